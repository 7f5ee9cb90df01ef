theorem dX9_costOfWord_74 : decode cX9_costOfWord 74 = .ok (.getfield 355, 3) := by decide +kernel
theorem dX9_costOfWord_77 : decode cX9_costOfWord 77 = .ok (.istore_n 3, 1) := by decide +kernel
theorem dX9_costOfWord_78 : decode cX9_costOfWord 78 = .ok (.aload_n 0, 1) := by decide +kernel
theorem dX9_costOfWord_79 : decode cX9_costOfWord 79 = .ok (.invokevirtual 256, 3) := by decide +kernel
theorem dX9_costOfWord_82 : decode cX9_costOfWord 82 = .ok (.aload_n 0, 1) := by decide +kernel
theorem dX9_costOfWord_83 : decode cX9_costOfWord 83 = .ok (.iload_n 1, 1) := by decide +kernel
theorem dX9_costOfWord_84 : decode cX9_costOfWord 84 = .ok (.iconst 4, 1) := by decide +kernel
theorem dX9_costOfWord_85 : decode cX9_costOfWord 85 = .ok (.invokevirtual 91, 3) := by decide +kernel
theorem dX9_costOfWord_88 : decode cX9_costOfWord 88 = .ok (.ifCond .le 28, 3) := by decide +kernel
theorem dX9_costOfWord_91 : decode cX9_costOfWord 91 = .ok (.aload_n 0, 1) := by decide +kernel
theorem dX9_costOfWord_92 : decode cX9_costOfWord 92 = .ok (.getfield 9, 3) := by decide +kernel
theorem dX9_costOfWord_95 : decode cX9_costOfWord 95 = .ok (.bipush 10, 2) := by decide +kernel
theorem dX9_costOfWord_97 : decode cX9_costOfWord 97 = .ok (.bipush 31, 2) := by decide +kernel
theorem dX9_costOfWord_99 : decode cX9_costOfWord 99 = .ok (.iload_n 1, 1) := by decide +kernel
theorem dX9_costOfWord_100 : decode cX9_costOfWord 100 = .ok (.imul, 1) := by decide +kernel
theorem dX9_costOfWord_101 : decode cX9_costOfWord 101 = .ok (.iadd, 1) := by decide +kernel
theorem dX9_costOfWord_102 : decode cX9_costOfWord 102 = .ok (.bipush 19, 2) := by decide +kernel
theorem dX9_costOfWord_104 : decode cX9_costOfWord 104 = .ok (.iadd, 1) := by decide +kernel
theorem dX9_costOfWord_105 : decode cX9_costOfWord 105 = .ok (.aload_n 0, 1) := by decide +kernel
theorem dX9_costOfWord_106 : decode cX9_costOfWord 106 = .ok (.iload_n 1, 1) := by decide +kernel
theorem dX9_costOfWord_107 : decode cX9_costOfWord 107 = .ok (.iconst 4, 1) := by decide +kernel
theorem dX9_costOfWord_108 : decode cX9_costOfWord 108 = .ok (.invokevirtual 91, 3) := by decide +kernel
theorem dX9_costOfWord_111 : decode cX9_costOfWord 111 = .ok (.iadd, 1) := by decide +kernel
theorem dX9_costOfWord_112 : decode cX9_costOfWord 112 = .ok (.iconst 1, 1) := by decide +kernel
theorem dX9_costOfWord_113 : decode cX9_costOfWord 113 = .ok (.isub, 1) := by decide +kernel
theorem dX9_costOfWord_114 : decode cX9_costOfWord 114 = .ok (.iconst 0, 1) := by decide +kernel
theorem dX9_costOfWord_115 : decode cX9_costOfWord 115 = .ok (.iastore, 1) := by decide +kernel
theorem dX9_costOfWord_116 : decode cX9_costOfWord 116 = .ok (.aload_n 0, 1) := by decide +kernel
theorem dX9_costOfWord_117 : decode cX9_costOfWord 117 = .ok (.iload_n 1, 1) := by decide +kernel
theorem dX9_costOfWord_118 : decode cX9_costOfWord 118 = .ok (.iload_n 2, 1) := by decide +kernel
theorem dX9_costOfWord_119 : decode cX9_costOfWord 119 = .ok (.iconst 0, 1) := by decide +kernel
theorem dX9_costOfWord_120 : decode cX9_costOfWord 120 = .ok (.invokevirtual 130, 3) := by decide +kernel
theorem dX9_costOfWord_123 : decode cX9_costOfWord 123 = .ok (.aload_n 0, 1) := by decide +kernel
theorem dX9_costOfWord_124 : decode cX9_costOfWord 124 = .ok (.invokevirtual 367, 3) := by decide +kernel
theorem dX9_costOfWord_127 : decode cX9_costOfWord 127 = .ok (.istore 4, 2) := by decide +kernel
theorem dX9_costOfWord_129 : decode cX9_costOfWord 129 = .ok (.aload_n 0, 1) := by decide +kernel
theorem dX9_costOfWord_130 : decode cX9_costOfWord 130 = .ok (.invokevirtual 259, 3) := by decide +kernel
theorem dX9_costOfWord_133 : decode cX9_costOfWord 133 = .ok (.iload 4, 2) := by decide +kernel
theorem dX9_costOfWord_135 : decode cX9_costOfWord 135 = .ok (.ifCond .eq 12, 3) := by decide +kernel
theorem dX9_costOfWord_138 : decode cX9_costOfWord 138 = .ok (.aload_n 0, 1) := by decide +kernel
theorem dX9_costOfWord_139 : decode cX9_costOfWord 139 = .ok (.getfield 355, 3) := by decide +kernel
theorem dX9_costOfWord_142 : decode cX9_costOfWord 142 = .ok (.iload_n 3, 1) := by decide +kernel
theorem dX9_costOfWord_143 : decode cX9_costOfWord 143 = .ok (.isub, 1) := by decide +kernel
theorem dX9_costOfWord_144 : decode cX9_costOfWord 144 = .ok (.goto 8, 3) := by decide +kernel
theorem dX9_costOfWord_147 : decode cX9_costOfWord 147 = .ok (.aload_n 0, 1) := by decide +kernel
theorem dX9_costOfWord_148 : decode cX9_costOfWord 148 = .ok (.iconst 4, 1) := by decide +kernel
theorem dX9_costOfWord_149 : decode cX9_costOfWord 149 = .ok (.invokevirtual 95, 3) := by decide +kernel
theorem dX9_costOfWord_152 : decode cX9_costOfWord 152 = .ok (.ireturn, 1) := by decide +kernel
theorem dX9_raggednessBits_0 : decode cX9_raggednessBits 0 = .ok (.aload_n 0, 1) := by decide +kernel
theorem dX9_raggednessBits_1 : decode cX9_raggednessBits 1 = .ok (.iconst 0, 1) := by decide +kernel
theorem dX9_raggednessBits_2 : decode cX9_raggednessBits 2 = .ok (.putfield 84, 3) := by decide +kernel
theorem dX9_raggednessBits_5 : decode cX9_raggednessBits 5 = .ok (.aload_n 0, 1) := by decide +kernel
theorem dX9_raggednessBits_6 : decode cX9_raggednessBits 6 = .ok (.iload_n 1, 1) := by decide +kernel
theorem dX9_raggednessBits_7 : decode cX9_raggednessBits 7 = .ok (.invokevirtual 120, 3) := by decide +kernel
theorem dX9_raggednessBits_10 : decode cX9_raggednessBits 10 = .ok (.ifCond .ne 9, 3) := by decide +kernel
theorem dX9_raggednessBits_13 : decode cX9_raggednessBits 13 = .ok (.aload_n 0, 1) := by decide +kernel
theorem dX9_raggednessBits_14 : decode cX9_raggednessBits 14 = .ok (.iconst 1, 1) := by decide +kernel
theorem dX9_raggednessBits_15 : decode cX9_raggednessBits 15 = .ok (.invokevirtual 95, 3) := by decide +kernel
theorem dX9_raggednessBits_18 : decode cX9_raggednessBits 18 = .ok (.ireturn, 1) := by decide +kernel
theorem dX9_raggednessBits_19 : decode cX9_raggednessBits 19 = .ok (.aload_n 0, 1) := by decide +kernel
theorem dX9_raggednessBits_20 : decode cX9_raggednessBits 20 = .ok (.iload_n 1, 1) := by decide +kernel
theorem dX9_raggednessBits_21 : decode cX9_raggednessBits 21 = .ok (.invokevirtual 127, 3) := by decide +kernel
theorem dX9_raggednessBits_24 : decode cX9_raggednessBits 24 = .ok (.ifCond .ne 9, 3) := by decide +kernel
theorem dX9_raggednessBits_27 : decode cX9_raggednessBits 27 = .ok (.aload_n 0, 1) := by decide +kernel
theorem dX9_raggednessBits_28 : decode cX9_raggednessBits 28 = .ok (.iconst 2, 1) := by decide +kernel
theorem dX9_raggednessBits_29 : decode cX9_raggednessBits 29 = .ok (.invokevirtual 95, 3) := by decide +kernel
theorem dX9_raggednessBits_32 : decode cX9_raggednessBits 32 = .ok (.ireturn, 1) := by decide +kernel
theorem dX9_raggednessBits_33 : decode cX9_raggednessBits 33 = .ok (.aload_n 0, 1) := by decide +kernel
theorem dX9_raggednessBits_34 : decode cX9_raggednessBits 34 = .ok (.invokevirtual 367, 3) := by decide +kernel
theorem dX9_raggednessBits_37 : decode cX9_raggednessBits 37 = .ok (.ifCond .ne 9, 3) := by decide +kernel
theorem dX9_raggednessBits_40 : decode cX9_raggednessBits 40 = .ok (.aload_n 0, 1) := by decide +kernel
theorem dX9_raggednessBits_41 : decode cX9_raggednessBits 41 = .ok (.iconst 3, 1) := by decide +kernel
theorem dX9_raggednessBits_42 : decode cX9_raggednessBits 42 = .ok (.invokevirtual 95, 3) := by decide +kernel
theorem dX9_raggednessBits_45 : decode cX9_raggednessBits 45 = .ok (.ireturn, 1) := by decide +kernel
theorem dX9_raggednessBits_46 : decode cX9_raggednessBits 46 = .ok (.aload_n 0, 1) := by decide +kernel
theorem dX9_raggednessBits_47 : decode cX9_raggednessBits 47 = .ok (.iload_n 1, 1) := by decide +kernel
theorem dX9_raggednessBits_48 : decode cX9_raggednessBits 48 = .ok (.aload_n 0, 1) := by decide +kernel
theorem dX9_raggednessBits_49 : decode cX9_raggednessBits 49 = .ok (.getfield 78, 3) := by decide +kernel
theorem dX9_raggednessBits_52 : decode cX9_raggednessBits 52 = .ok (.invokevirtual 341, 3) := by decide +kernel
theorem dX9_raggednessBits_55 : decode cX9_raggednessBits 55 = .ok (.iconst 2, 1) := by decide +kernel
theorem dX9_raggednessBits_56 : decode cX9_raggednessBits 56 = .ok (.aload_n 0, 1) := by decide +kernel
theorem dX9_raggednessBits_57 : decode cX9_raggednessBits 57 = .ok (.getfield 9, 3) := by decide +kernel
theorem dX9_raggednessBits_60 : decode cX9_raggednessBits 60 = .ok (.iconst 3, 1) := by decide +kernel
theorem dX9_raggednessBits_61 : decode cX9_raggednessBits 61 = .ok (.iaload, 1) := by decide +kernel
theorem dX9_raggednessBits_62 : decode cX9_raggednessBits 62 = .ok (.imul, 1) := by decide +kernel
theorem dX9_raggednessBits_63 : decode cX9_raggednessBits 63 = .ok (.isub, 1) := by decide +kernel
theorem dX9_raggednessBits_64 : decode cX9_raggednessBits 64 = .ok (.istore_n 2, 1) := by decide +kernel
theorem dX9_raggednessBits_65 : decode cX9_raggednessBits 65 = .ok (.iload_n 2, 1) := by decide +kernel
theorem dX9_raggednessBits_66 : decode cX9_raggednessBits 66 = .ok (.aload_n 0, 1) := by decide +kernel
theorem dX9_raggednessBits_67 : decode cX9_raggednessBits 67 = .ok (.iload_n 1, 1) := by decide +kernel
theorem dX9_raggednessBits_68 : decode cX9_raggednessBits 68 = .ok (.invokevirtual 271, 3) := by decide +kernel
theorem dX9_raggednessBits_71 : decode cX9_raggednessBits 71 = .ok (.isub, 1) := by decide +kernel
theorem dX9_raggednessBits_72 : decode cX9_raggednessBits 72 = .ok (.istore_n 3, 1) := by decide +kernel
theorem dX9_raggednessBits_73 : decode cX9_raggednessBits 73 = .ok (.aload_n 0, 1) := by decide +kernel
theorem dX9_raggednessBits_74 : decode cX9_raggednessBits 74 = .ok (.iload_n 1, 1) := by decide +kernel
theorem dX9_raggednessBits_75 : decode cX9_raggednessBits 75 = .ok (.iload_n 2, 1) := by decide +kernel
theorem dX9_raggednessBits_76 : decode cX9_raggednessBits 76 = .ok (.invokevirtual 280, 3) := by decide +kernel
theorem dX9_raggednessBits_79 : decode cX9_raggednessBits 79 = .ok (.fconst 0, 1) := by decide +kernel
theorem dX9_raggednessBits_80 : decode cX9_raggednessBits 80 = .ok (.fstore 4, 2) := by decide +kernel
theorem dX9_raggednessBits_82 : decode cX9_raggednessBits 82 = .ok (.iconst 0, 1) := by decide +kernel
theorem dX9_raggednessBits_83 : decode cX9_raggednessBits 83 = .ok (.istore 5, 2) := by decide +kernel
theorem dX9_raggednessBits_85 : decode cX9_raggednessBits 85 = .ok (.iload 5, 2) := by decide +kernel
theorem dX9_raggednessBits_87 : decode cX9_raggednessBits 87 = .ok (.aload_n 0, 1) := by decide +kernel
theorem dX9_raggednessBits_88 : decode cX9_raggednessBits 88 = .ok (.getfield 268, 3) := by decide +kernel
theorem dX9_raggednessBits_91 : decode cX9_raggednessBits 91 = .ok (.if_icmp .ge 34, 3) := by decide +kernel
theorem dX9_raggednessBits_94 : decode cX9_raggednessBits 94 = .ok (.iload_n 3, 1) := by decide +kernel
theorem dX9_raggednessBits_95 : decode cX9_raggednessBits 95 = .ok (.aload_n 0, 1) := by decide +kernel
theorem dX9_raggednessBits_96 : decode cX9_raggednessBits 96 = .ok (.getfield 45, 3) := by decide +kernel
theorem dX9_raggednessBits_99 : decode cX9_raggednessBits 99 = .ok (.iload 5, 2) := by decide +kernel
theorem dX9_raggednessBits_101 : decode cX9_raggednessBits 101 = .ok (.iaload, 1) := by decide +kernel
theorem dX9_raggednessBits_102 : decode cX9_raggednessBits 102 = .ok (.isub, 1) := by decide +kernel
theorem dX9_raggednessBits_103 : decode cX9_raggednessBits 103 = .ok (.i2f, 1) := by decide +kernel
theorem dX9_raggednessBits_104 : decode cX9_raggednessBits 104 = .ok (.iload_n 3, 1) := by decide +kernel
theorem dX9_raggednessBits_105 : decode cX9_raggednessBits 105 = .ok (.i2f, 1) := by decide +kernel
theorem dX9_raggednessBits_106 : decode cX9_raggednessBits 106 = .ok (.fdiv, 1) := by decide +kernel
theorem dX9_raggednessBits_107 : decode cX9_raggednessBits 107 = .ok (.fstore 6, 2) := by decide +kernel
theorem dX9_raggednessBits_109 : decode cX9_raggednessBits 109 = .ok (.fload 4, 2) := by decide +kernel
theorem dX9_raggednessBits_111 : decode cX9_raggednessBits 111 = .ok (.fload 6, 2) := by decide +kernel
theorem dX9_raggednessBits_113 : decode cX9_raggednessBits 113 = .ok (.fload 6, 2) := by decide +kernel
theorem dX9_raggednessBits_115 : decode cX9_raggednessBits 115 = .ok (.fmul, 1) := by decide +kernel
theorem dX9_raggednessBits_116 : decode cX9_raggednessBits 116 = .ok (.fadd, 1) := by decide +kernel
theorem dX9_raggednessBits_117 : decode cX9_raggednessBits 117 = .ok (.fstore 4, 2) := by decide +kernel
theorem dX9_raggednessBits_119 : decode cX9_raggednessBits 119 = .ok (.iinc 5 1, 3) := by decide +kernel
theorem dX9_raggednessBits_122 : decode cX9_raggednessBits 122 = .ok (.goto (-37), 3) := by decide +kernel
theorem dX9_raggednessBits_125 : decode cX9_raggednessBits 125 = .ok (.aload_n 0, 1) := by decide +kernel
theorem dX9_raggednessBits_126 : decode cX9_raggednessBits 126 = .ok (.getfield 268, 3) := by decide +kernel
theorem dX9_raggednessBits_129 : decode cX9_raggednessBits 129 = .ok (.ifCond .ne 7, 3) := by decide +kernel
theorem dX9_raggednessBits_132 : decode cX9_raggednessBits 132 = .ok (.fconst 0, 1) := by decide +kernel
theorem dX9_raggednessBits_133 : decode cX9_raggednessBits 133 = .ok (.goto 11, 3) := by decide +kernel
theorem dX9_raggednessBits_136 : decode cX9_raggednessBits 136 = .ok (.fload 4, 2) := by decide +kernel
theorem dX9_raggednessBits_138 : decode cX9_raggednessBits 138 = .ok (.aload_n 0, 1) := by decide +kernel
theorem dX9_raggednessBits_139 : decode cX9_raggednessBits 139 = .ok (.getfield 268, 3) := by decide +kernel
theorem dX9_raggednessBits_142 : decode cX9_raggednessBits 142 = .ok (.i2f, 1) := by decide +kernel
theorem dX9_raggednessBits_143 : decode cX9_raggednessBits 143 = .ok (.fdiv, 1) := by decide +kernel
theorem dX9_raggednessBits_144 : decode cX9_raggednessBits 144 = .ok (.invokestatic 376, 3) := by decide +kernel
theorem dX9_raggednessBits_147 : decode cX9_raggednessBits 147 = .ok (.ireturn, 1) := by decide +kernel
theorem dX9_inkOf_0 : decode cX9_inkOf 0 = .ok (.iconst 0, 1) := by decide +kernel
theorem dX9_inkOf_1 : decode cX9_inkOf 1 = .ok (.istore_n 2, 1) := by decide +kernel
theorem dX9_inkOf_2 : decode cX9_inkOf 2 = .ok (.iconst 0, 1) := by decide +kernel
theorem dX9_inkOf_3 : decode cX9_inkOf 3 = .ok (.istore_n 3, 1) := by decide +kernel
theorem dX9_inkOf_4 : decode cX9_inkOf 4 = .ok (.iload_n 3, 1) := by decide +kernel
theorem dX9_inkOf_5 : decode cX9_inkOf 5 = .ok (.aload_n 0, 1) := by decide +kernel
theorem dX9_inkOf_6 : decode cX9_inkOf 6 = .ok (.iload_n 1, 1) := by decide +kernel
theorem dX9_inkOf_7 : decode cX9_inkOf 7 = .ok (.iconst 4, 1) := by decide +kernel
theorem dX9_inkOf_8 : decode cX9_inkOf 8 = .ok (.invokevirtual 91, 3) := by decide +kernel
theorem dX9_inkOf_11 : decode cX9_inkOf 11 = .ok (.if_icmp .ge 29, 3) := by decide +kernel
theorem dX9_inkOf_14 : decode cX9_inkOf 14 = .ok (.aload_n 0, 1) := by decide +kernel
theorem dX9_inkOf_15 : decode cX9_inkOf 15 = .ok (.iload_n 1, 1) := by decide +kernel
theorem dX9_inkOf_16 : decode cX9_inkOf 16 = .ok (.invokevirtual 127, 3) := by decide +kernel
theorem dX9_inkOf_19 : decode cX9_inkOf 19 = .ok (.ifCond .eq 21, 3) := by decide +kernel
theorem dX9_inkOf_22 : decode cX9_inkOf 22 = .ok (.iload_n 2, 1) := by decide +kernel
theorem dX9_inkOf_23 : decode cX9_inkOf 23 = .ok (.aload_n 0, 1) := by decide +kernel
theorem dX9_inkOf_24 : decode cX9_inkOf 24 = .ok (.iload_n 1, 1) := by decide +kernel
theorem dX9_inkOf_25 : decode cX9_inkOf 25 = .ok (.bipush 7, 2) := by decide +kernel
theorem dX9_inkOf_27 : decode cX9_inkOf 27 = .ok (.iload_n 3, 1) := by decide +kernel
theorem dX9_inkOf_28 : decode cX9_inkOf 28 = .ok (.iadd, 1) := by decide +kernel
theorem dX9_inkOf_29 : decode cX9_inkOf 29 = .ok (.invokevirtual 91, 3) := by decide +kernel
theorem dX9_inkOf_32 : decode cX9_inkOf 32 = .ok (.iadd, 1) := by decide +kernel
theorem dX9_inkOf_33 : decode cX9_inkOf 33 = .ok (.istore_n 2, 1) := by decide +kernel
theorem dX9_inkOf_34 : decode cX9_inkOf 34 = .ok (.iinc 3 1, 3) := by decide +kernel
theorem dX9_inkOf_37 : decode cX9_inkOf 37 = .ok (.goto (-33), 3) := by decide +kernel
theorem dX9_inkOf_40 : decode cX9_inkOf 40 = .ok (.aload_n 0, 1) := by decide +kernel
theorem dX9_inkOf_41 : decode cX9_inkOf 41 = .ok (.iload_n 1, 1) := by decide +kernel
theorem dX9_inkOf_42 : decode cX9_inkOf 42 = .ok (.invokevirtual 127, 3) := by decide +kernel
theorem dX9_inkOf_45 : decode cX9_inkOf 45 = .ok (.ifCond .eq 5, 3) := by decide +kernel
theorem dX9_inkOf_48 : decode cX9_inkOf 48 = .ok (.iload_n 2, 1) := by decide +kernel
theorem dX9_inkOf_49 : decode cX9_inkOf 49 = .ok (.ireturn, 1) := by decide +kernel
theorem dX9_inkOf_50 : decode cX9_inkOf 50 = .ok (.aload_n 0, 1) := by decide +kernel
theorem dX9_inkOf_51 : decode cX9_inkOf 51 = .ok (.iload_n 1, 1) := by decide +kernel
theorem dX9_inkOf_52 : decode cX9_inkOf 52 = .ok (.aload_n 0, 1) := by decide +kernel
theorem dX9_inkOf_53 : decode cX9_inkOf 53 = .ok (.getfield 66, 3) := by decide +kernel
theorem dX9_inkOf_56 : decode cX9_inkOf 56 = .ok (.invokevirtual 341, 3) := by decide +kernel
theorem dX9_inkOf_59 : decode cX9_inkOf 59 = .ok (.iconst 2, 1) := by decide +kernel
theorem dX9_inkOf_60 : decode cX9_inkOf 60 = .ok (.aload_n 0, 1) := by decide +kernel
theorem dX9_inkOf_61 : decode cX9_inkOf 61 = .ok (.getfield 9, 3) := by decide +kernel
theorem dX9_inkOf_64 : decode cX9_inkOf 64 = .ok (.iconst 3, 1) := by decide +kernel
theorem dX9_inkOf_65 : decode cX9_inkOf 65 = .ok (.iaload, 1) := by decide +kernel
theorem dX9_inkOf_66 : decode cX9_inkOf 66 = .ok (.imul, 1) := by decide +kernel
theorem dX9_inkOf_67 : decode cX9_inkOf 67 = .ok (.isub, 1) := by decide +kernel
theorem dX9_inkOf_68 : decode cX9_inkOf 68 = .ok (.istore_n 3, 1) := by decide +kernel
theorem dX9_inkOf_69 : decode cX9_inkOf 69 = .ok (.iload_n 3, 1) := by decide +kernel
theorem dX9_inkOf_70 : decode cX9_inkOf 70 = .ok (.aload_n 0, 1) := by decide +kernel
theorem dX9_inkOf_71 : decode cX9_inkOf 71 = .ok (.iload_n 1, 1) := by decide +kernel
theorem dX9_inkOf_72 : decode cX9_inkOf 72 = .ok (.iconst 5, 1) := by decide +kernel
theorem dX9_inkOf_73 : decode cX9_inkOf 73 = .ok (.invokevirtual 91, 3) := by decide +kernel
theorem dX9_inkOf_76 : decode cX9_inkOf 76 = .ok (.if_icmp .ge 7, 3) := by decide +kernel
theorem dX9_inkOf_79 : decode cX9_inkOf 79 = .ok (.iload_n 3, 1) := by decide +kernel
theorem dX9_inkOf_80 : decode cX9_inkOf 80 = .ok (.goto 9, 3) := by decide +kernel
theorem dX9_inkOf_83 : decode cX9_inkOf 83 = .ok (.aload_n 0, 1) := by decide +kernel
theorem dX9_inkOf_84 : decode cX9_inkOf 84 = .ok (.iload_n 1, 1) := by decide +kernel
theorem dX9_inkOf_85 : decode cX9_inkOf 85 = .ok (.iconst 5, 1) := by decide +kernel
theorem dX9_inkOf_86 : decode cX9_inkOf 86 = .ok (.invokevirtual 91, 3) := by decide +kernel
theorem dX9_inkOf_89 : decode cX9_inkOf 89 = .ok (.aload_n 0, 1) := by decide +kernel
theorem dX9_inkOf_90 : decode cX9_inkOf 90 = .ok (.iload_n 1, 1) := by decide +kernel
theorem dX9_inkOf_91 : decode cX9_inkOf 91 = .ok (.iload_n 3, 1) := by decide +kernel
theorem dX9_inkOf_92 : decode cX9_inkOf 92 = .ok (.invokevirtual 290, 3) := by decide +kernel
theorem dX9_inkOf_95 : decode cX9_inkOf 95 = .ok (.imul, 1) := by decide +kernel
theorem dX9_inkOf_96 : decode cX9_inkOf 96 = .ok (.ireturn, 1) := by decide +kernel
theorem dX9_densityBits_0 : decode cX9_densityBits 0 = .ok (.aload_n 0, 1) := by decide +kernel
theorem dX9_densityBits_1 : decode cX9_densityBits 1 = .ok (.iconst 0, 1) := by decide +kernel
theorem dX9_densityBits_2 : decode cX9_densityBits 2 = .ok (.putfield 84, 3) := by decide +kernel
theorem dX9_densityBits_5 : decode cX9_densityBits 5 = .ok (.aload_n 0, 1) := by decide +kernel
theorem dX9_densityBits_6 : decode cX9_densityBits 6 = .ok (.invokevirtual 338, 3) := by decide +kernel
theorem dX9_densityBits_9 : decode cX9_densityBits 9 = .ok (.ifCond .ne 10, 3) := by decide +kernel
theorem dX9_densityBits_12 : decode cX9_densityBits 12 = .ok (.aload_n 0, 1) := by decide +kernel
theorem dX9_densityBits_13 : decode cX9_densityBits 13 = .ok (.iconst 1, 1) := by decide +kernel
theorem dX9_densityBits_14 : decode cX9_densityBits 14 = .ok (.putfield 84, 3) := by decide +kernel
theorem dX9_densityBits_17 : decode cX9_densityBits 17 = .ok (.lconst 0, 1) := by decide +kernel
theorem dX9_densityBits_18 : decode cX9_densityBits 18 = .ok (.lreturn, 1) := by decide +kernel
theorem dX9_densityBits_19 : decode cX9_densityBits 19 = .ok (.aload_n 0, 1) := by decide +kernel
theorem dX9_densityBits_20 : decode cX9_densityBits 20 = .ok (.aload_n 0, 1) := by decide +kernel
theorem dX9_densityBits_21 : decode cX9_densityBits 21 = .ok (.getfield 66, 3) := by decide +kernel
theorem dX9_densityBits_24 : decode cX9_densityBits 24 = .ok (.invokevirtual 348, 3) := by decide +kernel
theorem dX9_densityBits_27 : decode cX9_densityBits 27 = .ok (.istore_n 1, 1) := by decide +kernel
theorem dX9_densityBits_28 : decode cX9_densityBits 28 = .ok (.iload_n 1, 1) := by decide +kernel
theorem dX9_densityBits_29 : decode cX9_densityBits 29 = .ok (.ifCond .ne 10, 3) := by decide +kernel
theorem dX9_densityBits_32 : decode cX9_densityBits 32 = .ok (.aload_n 0, 1) := by decide +kernel
theorem dX9_densityBits_33 : decode cX9_densityBits 33 = .ok (.iconst 2, 1) := by decide +kernel
theorem dX9_densityBits_34 : decode cX9_densityBits 34 = .ok (.putfield 84, 3) := by decide +kernel
theorem dX9_densityBits_37 : decode cX9_densityBits 37 = .ok (.lconst 0, 1) := by decide +kernel
theorem dX9_densityBits_38 : decode cX9_densityBits 38 = .ok (.lreturn, 1) := by decide +kernel
theorem dX9_densityBits_39 : decode cX9_densityBits 39 = .ok (.iconst 0, 1) := by decide +kernel
theorem dX9_densityBits_40 : decode cX9_densityBits 40 = .ok (.istore_n 2, 1) := by decide +kernel
theorem dX9_densityBits_41 : decode cX9_densityBits 41 = .ok (.iconst 0, 1) := by decide +kernel
theorem dX9_densityBits_42 : decode cX9_densityBits 42 = .ok (.istore_n 3, 1) := by decide +kernel
theorem dX9_densityBits_43 : decode cX9_densityBits 43 = .ok (.iload_n 3, 1) := by decide +kernel
theorem dX9_densityBits_44 : decode cX9_densityBits 44 = .ok (.aload_n 0, 1) := by decide +kernel
theorem dX9_densityBits_45 : decode cX9_densityBits 45 = .ok (.getfield 9, 3) := by decide +kernel
theorem dX9_densityBits_48 : decode cX9_densityBits 48 = .ok (.iconst 5, 1) := by decide +kernel
theorem dX9_densityBits_49 : decode cX9_densityBits 49 = .ok (.iaload, 1) := by decide +kernel
theorem dX9_densityBits_50 : decode cX9_densityBits 50 = .ok (.if_icmp .ge 17, 3) := by decide +kernel
theorem dX9_densityBits_53 : decode cX9_densityBits 53 = .ok (.iload_n 2, 1) := by decide +kernel
theorem dX9_densityBits_54 : decode cX9_densityBits 54 = .ok (.aload_n 0, 1) := by decide +kernel
theorem dX9_densityBits_55 : decode cX9_densityBits 55 = .ok (.iload_n 3, 1) := by decide +kernel
theorem dX9_densityBits_56 : decode cX9_densityBits 56 = .ok (.invokevirtual 382, 3) := by decide +kernel
theorem dX9_densityBits_59 : decode cX9_densityBits 59 = .ok (.iadd, 1) := by decide +kernel
theorem dX9_densityBits_60 : decode cX9_densityBits 60 = .ok (.istore_n 2, 1) := by decide +kernel
theorem dX9_densityBits_61 : decode cX9_densityBits 61 = .ok (.iinc 3 1, 3) := by decide +kernel
theorem dX9_densityBits_64 : decode cX9_densityBits 64 = .ok (.goto (-21), 3) := by decide +kernel
theorem dX9_densityBits_67 : decode cX9_densityBits 67 = .ok (.iload_n 2, 1) := by decide +kernel
theorem dX9_densityBits_68 : decode cX9_densityBits 68 = .ok (.i2d, 1) := by decide +kernel
theorem dX9_densityBits_69 : decode cX9_densityBits 69 = .ok (.aload_n 0, 1) := by decide +kernel
theorem dX9_densityBits_70 : decode cX9_densityBits 70 = .ok (.getfield 9, 3) := by decide +kernel
theorem dX9_densityBits_73 : decode cX9_densityBits 73 = .ok (.iconst 1, 1) := by decide +kernel
theorem dX9_densityBits_74 : decode cX9_densityBits 74 = .ok (.iaload, 1) := by decide +kernel
theorem dX9_densityBits_75 : decode cX9_densityBits 75 = .ok (.iload_n 1, 1) := by decide +kernel
theorem dX9_densityBits_76 : decode cX9_densityBits 76 = .ok (.imul, 1) := by decide +kernel
theorem dX9_densityBits_77 : decode cX9_densityBits 77 = .ok (.i2d, 1) := by decide +kernel
theorem dX9_densityBits_78 : decode cX9_densityBits 78 = .ok (.ddiv, 1) := by decide +kernel
theorem dX9_densityBits_79 : decode cX9_densityBits 79 = .ok (.invokestatic 385, 3) := by decide +kernel
theorem dX9_densityBits_82 : decode cX9_densityBits 82 = .ok (.lreturn, 1) := by decide +kernel
theorem dX9_isClip_0 : decode cX9_isClip 0 = .ok (.iload_n 0, 1) := by decide +kernel
theorem dX9_isClip_1 : decode cX9_isClip 1 = .ok (.iconst 0, 1) := by decide +kernel
theorem dX9_isClip_2 : decode cX9_isClip 2 = .ok (.iconst 1, 1) := by decide +kernel
theorem dX9_isClip_3 : decode cX9_isClip 3 = .ok (.invokestatic 87, 3) := by decide +kernel
theorem dX9_isClip_6 : decode cX9_isClip 6 = .ok (.ireturn, 1) := by decide +kernel
theorem dX9_isUnder_0 : decode cX9_isUnder 0 = .ok (.iload_n 0, 1) := by decide +kernel
theorem dX9_isUnder_1 : decode cX9_isUnder 1 = .ok (.iload_n 1, 1) := by decide +kernel
theorem dX9_isUnder_2 : decode cX9_isUnder 2 = .ok (.if_icmp .eq 22, 3) := by decide +kernel
theorem dX9_isUnder_5 : decode cX9_isUnder 5 = .ok (.iload_n 1, 1) := by decide +kernel
theorem dX9_isUnder_6 : decode cX9_isUnder 6 = .ok (.ifCond .ne 8, 3) := by decide +kernel
theorem dX9_isUnder_9 : decode cX9_isUnder 9 = .ok (.iload_n 0, 1) := by decide +kernel
theorem dX9_isUnder_10 : decode cX9_isUnder 10 = .ok (.iconst 4, 1) := by decide +kernel
theorem dX9_isUnder_11 : decode cX9_isUnder 11 = .ok (.if_icmp .lt 13, 3) := by decide +kernel
theorem dX9_isUnder_14 : decode cX9_isUnder 14 = .ok (.iload_n 1, 1) := by decide +kernel
theorem dX9_isUnder_15 : decode cX9_isUnder 15 = .ok (.iconst 4, 1) := by decide +kernel
theorem dX9_isUnder_16 : decode cX9_isUnder 16 = .ok (.if_icmp .ne 12, 3) := by decide +kernel
theorem dX9_isUnder_19 : decode cX9_isUnder 19 = .ok (.iload_n 0, 1) := by decide +kernel
theorem dX9_isUnder_20 : decode cX9_isUnder 20 = .ok (.iconst 5, 1) := by decide +kernel
theorem dX9_isUnder_21 : decode cX9_isUnder 21 = .ok (.if_icmp .ne 7, 3) := by decide +kernel
theorem dX9_isUnder_24 : decode cX9_isUnder 24 = .ok (.iconst 1, 1) := by decide +kernel
theorem dX9_isUnder_25 : decode cX9_isUnder 25 = .ok (.goto 4, 3) := by decide +kernel
theorem dX9_isUnder_28 : decode cX9_isUnder 28 = .ok (.iconst 0, 1) := by decide +kernel
theorem dX9_isUnder_29 : decode cX9_isUnder 29 = .ok (.ireturn, 1) := by decide +kernel
theorem dX9_makeClip_0 : decode cX9_makeClip 0 = .ok (.aload_n 0, 1) := by decide +kernel
theorem dX9_makeClip_1 : decode cX9_makeClip 1 = .ok (.iconst 0, 1) := by decide +kernel
theorem dX9_makeClip_2 : decode cX9_makeClip 2 = .ok (.putfield 84, 3) := by decide +kernel
theorem dX9_makeClip_5 : decode cX9_makeClip 5 = .ok (.iload_n 1, 1) := by decide +kernel
theorem dX9_makeClip_6 : decode cX9_makeClip 6 = .ok (.invokestatic 391, 3) := by decide +kernel
theorem dX9_makeClip_9 : decode cX9_makeClip 9 = .ok (.ifCond .ne 9, 3) := by decide +kernel
theorem dX9_makeClip_12 : decode cX9_makeClip 12 = .ok (.aload_n 0, 1) := by decide +kernel
theorem dX9_makeClip_13 : decode cX9_makeClip 13 = .ok (.iconst 1, 1) := by decide +kernel
theorem dX9_makeClip_14 : decode cX9_makeClip 14 = .ok (.invokevirtual 95, 3) := by decide +kernel
theorem dX9_makeClip_17 : decode cX9_makeClip 17 = .ok (.ireturn, 1) := by decide +kernel
theorem dX9_makeClip_18 : decode cX9_makeClip 18 = .ok (.iload_n 2, 1) := by decide +kernel
theorem dX9_makeClip_19 : decode cX9_makeClip 19 = .ok (.iconst 0, 1) := by decide +kernel
theorem dX9_makeClip_20 : decode cX9_makeClip 20 = .ok (.iconst 5, 1) := by decide +kernel
theorem dX9_makeClip_21 : decode cX9_makeClip 21 = .ok (.invokestatic 87, 3) := by decide +kernel
theorem dX9_makeClip_24 : decode cX9_makeClip 24 = .ok (.ifCond .eq 12, 3) := by decide +kernel
theorem dX9_makeClip_27 : decode cX9_makeClip 27 = .ok (.iload_n 3, 1) := by decide +kernel
theorem dX9_makeClip_28 : decode cX9_makeClip 28 = .ok (.iconst 0, 1) := by decide +kernel
theorem dX9_makeClip_29 : decode cX9_makeClip 29 = .ok (.iconst 3, 1) := by decide +kernel
theorem dX9_makeClip_30 : decode cX9_makeClip 30 = .ok (.invokestatic 87, 3) := by decide +kernel
theorem dX9_makeClip_33 : decode cX9_makeClip 33 = .ok (.ifCond .ne 9, 3) := by decide +kernel
theorem dX9_makeClip_36 : decode cX9_makeClip 36 = .ok (.aload_n 0, 1) := by decide +kernel
theorem dX9_makeClip_37 : decode cX9_makeClip 37 = .ok (.iconst 2, 1) := by decide +kernel
theorem dX9_makeClip_38 : decode cX9_makeClip 38 = .ok (.invokevirtual 95, 3) := by decide +kernel
theorem dX9_makeClip_41 : decode cX9_makeClip 41 = .ok (.ireturn, 1) := by decide +kernel
theorem dX9_makeClip_42 : decode cX9_makeClip 42 = .ok (.aload_n 0, 1) := by decide +kernel
theorem dX9_makeClip_43 : decode cX9_makeClip 43 = .ok (.getfield 26, 3) := by decide +kernel
theorem dX9_makeClip_46 : decode cX9_makeClip 46 = .ok (.iload_n 1, 1) := by decide +kernel
theorem dX9_makeClip_47 : decode cX9_makeClip 47 = .ok (.iload_n 2, 1) := by decide +kernel
theorem dX9_makeClip_48 : decode cX9_makeClip 48 = .ok (.iastore, 1) := by decide +kernel
theorem dX9_makeClip_49 : decode cX9_makeClip 49 = .ok (.aload_n 0, 1) := by decide +kernel
theorem dX9_makeClip_50 : decode cX9_makeClip 50 = .ok (.getfield 29, 3) := by decide +kernel
theorem dX9_makeClip_53 : decode cX9_makeClip 53 = .ok (.iload_n 1, 1) := by decide +kernel
theorem dX9_makeClip_54 : decode cX9_makeClip 54 = .ok (.iload_n 3, 1) := by decide +kernel
theorem dX9_makeClip_55 : decode cX9_makeClip 55 = .ok (.iastore, 1) := by decide +kernel
theorem dX9_makeClip_56 : decode cX9_makeClip 56 = .ok (.iconst 0, 1) := by decide +kernel
theorem dX9_makeClip_57 : decode cX9_makeClip 57 = .ok (.istore 4, 2) := by decide +kernel
theorem dX9_makeClip_59 : decode cX9_makeClip 59 = .ok (.iload 4, 2) := by decide +kernel
theorem dX9_makeClip_61 : decode cX9_makeClip 61 = .ok (.iconst 3, 1) := by decide +kernel
theorem dX9_makeClip_62 : decode cX9_makeClip 62 = .ok (.if_icmp .ge 21, 3) := by decide +kernel
theorem dX9_makeClip_65 : decode cX9_makeClip 65 = .ok (.aload_n 0, 1) := by decide +kernel
theorem dX9_makeClip_66 : decode cX9_makeClip 66 = .ok (.getfield 35, 3) := by decide +kernel
theorem dX9_makeClip_69 : decode cX9_makeClip 69 = .ok (.iconst 3, 1) := by decide +kernel
theorem dX9_makeClip_70 : decode cX9_makeClip 70 = .ok (.iload_n 1, 1) := by decide +kernel
theorem dX9_makeClip_71 : decode cX9_makeClip 71 = .ok (.imul, 1) := by decide +kernel
theorem dX9_makeClip_72 : decode cX9_makeClip 72 = .ok (.iload 4, 2) := by decide +kernel
theorem dX9_makeClip_74 : decode cX9_makeClip 74 = .ok (.iadd, 1) := by decide +kernel
theorem dX9_makeClip_75 : decode cX9_makeClip 75 = .ok (.iconst 0, 1) := by decide +kernel
theorem dX9_makeClip_76 : decode cX9_makeClip 76 = .ok (.bastore, 1) := by decide +kernel
theorem dX9_makeClip_77 : decode cX9_makeClip 77 = .ok (.iinc 4 1, 3) := by decide +kernel
theorem dX9_makeClip_80 : decode cX9_makeClip 80 = .ok (.goto (-21), 3) := by decide +kernel
theorem dX9_makeClip_83 : decode cX9_makeClip 83 = .ok (.iload_n 3, 1) := by decide +kernel
theorem dX9_makeClip_84 : decode cX9_makeClip 84 = .ok (.ireturn, 1) := by decide +kernel
theorem dX9_copyTo_0 : decode cX9_copyTo 0 = .ok (.aload_n 0, 1) := by decide +kernel
theorem dX9_copyTo_1 : decode cX9_copyTo 1 = .ok (.iconst 0, 1) := by decide +kernel
theorem dX9_copyTo_2 : decode cX9_copyTo 2 = .ok (.putfield 84, 3) := by decide +kernel
theorem dX9_copyTo_5 : decode cX9_copyTo 5 = .ok (.iload_n 1, 1) := by decide +kernel
theorem dX9_copyTo_6 : decode cX9_copyTo 6 = .ok (.invokestatic 391, 3) := by decide +kernel
theorem dX9_copyTo_9 : decode cX9_copyTo 9 = .ok (.ifCond .eq 11, 3) := by decide +kernel
theorem dX9_copyTo_12 : decode cX9_copyTo 12 = .ok (.aload_n 0, 1) := by decide +kernel
theorem dX9_copyTo_13 : decode cX9_copyTo 13 = .ok (.iload_n 3, 1) := by decide +kernel
theorem dX9_copyTo_14 : decode cX9_copyTo 14 = .ok (.invokevirtual 120, 3) := by decide +kernel
theorem dX9_copyTo_17 : decode cX9_copyTo 17 = .ok (.ifCond .ne 9, 3) := by decide +kernel
theorem dX9_copyTo_20 : decode cX9_copyTo 20 = .ok (.aload_n 0, 1) := by decide +kernel
theorem dX9_copyTo_21 : decode cX9_copyTo 21 = .ok (.iconst 1, 1) := by decide +kernel
theorem dX9_copyTo_22 : decode cX9_copyTo 22 = .ok (.invokevirtual 95, 3) := by decide +kernel
theorem dX9_copyTo_25 : decode cX9_copyTo 25 = .ok (.ireturn, 1) := by decide +kernel
theorem dX9_copyTo_26 : decode cX9_copyTo 26 = .ok (.aload_n 0, 1) := by decide +kernel
theorem dX9_copyTo_27 : decode cX9_copyTo 27 = .ok (.getfield 26, 3) := by decide +kernel
theorem dX9_copyTo_30 : decode cX9_copyTo 30 = .ok (.iload_n 1, 1) := by decide +kernel
theorem dX9_copyTo_31 : decode cX9_copyTo 31 = .ok (.iaload, 1) := by decide +kernel
theorem dX9_copyTo_32 : decode cX9_copyTo 32 = .ok (.iconst (-1), 1) := by decide +kernel
theorem dX9_copyTo_33 : decode cX9_copyTo 33 = .ok (.if_icmp .ne 9, 3) := by decide +kernel
theorem dX9_copyTo_36 : decode cX9_copyTo 36 = .ok (.aload_n 0, 1) := by decide +kernel
theorem dX9_copyTo_37 : decode cX9_copyTo 37 = .ok (.iconst 2, 1) := by decide +kernel
theorem dX9_copyTo_38 : decode cX9_copyTo 38 = .ok (.invokevirtual 95, 3) := by decide +kernel
theorem dX9_copyTo_41 : decode cX9_copyTo 41 = .ok (.ireturn, 1) := by decide +kernel
theorem dX9_copyTo_42 : decode cX9_copyTo 42 = .ok (.iload_n 2, 1) := by decide +kernel
theorem dX9_copyTo_43 : decode cX9_copyTo 43 = .ok (.iconst 0, 1) := by decide +kernel
theorem dX9_copyTo_44 : decode cX9_copyTo 44 = .ok (.aload_n 0, 1) := by decide +kernel
theorem dX9_copyTo_45 : decode cX9_copyTo 45 = .ok (.getfield 29, 3) := by decide +kernel
theorem dX9_copyTo_48 : decode cX9_copyTo 48 = .ok (.iload_n 1, 1) := by decide +kernel
theorem dX9_copyTo_49 : decode cX9_copyTo 49 = .ok (.iaload, 1) := by decide +kernel
theorem dX9_copyTo_50 : decode cX9_copyTo 50 = .ok (.iconst 1, 1) := by decide +kernel
theorem dX9_copyTo_51 : decode cX9_copyTo 51 = .ok (.isub, 1) := by decide +kernel
theorem dX9_copyTo_52 : decode cX9_copyTo 52 = .ok (.invokestatic 87, 3) := by decide +kernel
theorem dX9_copyTo_55 : decode cX9_copyTo 55 = .ok (.ifCond .ne 9, 3) := by decide +kernel
theorem dX9_copyTo_58 : decode cX9_copyTo 58 = .ok (.aload_n 0, 1) := by decide +kernel
theorem dX9_copyTo_59 : decode cX9_copyTo 59 = .ok (.iconst 3, 1) := by decide +kernel
theorem dX9_copyTo_60 : decode cX9_copyTo 60 = .ok (.invokevirtual 95, 3) := by decide +kernel
theorem dX9_copyTo_63 : decode cX9_copyTo 63 = .ok (.ireturn, 1) := by decide +kernel
theorem dX9_copyTo_64 : decode cX9_copyTo 64 = .ok (.aload_n 0, 1) := by decide +kernel
theorem dX9_copyTo_65 : decode cX9_copyTo 65 = .ok (.iload_n 3, 1) := by decide +kernel
theorem dX9_copyTo_66 : decode cX9_copyTo 66 = .ok (.iconst 3, 1) := by decide +kernel
theorem dX9_copyTo_67 : decode cX9_copyTo 67 = .ok (.invokevirtual 91, 3) := by decide +kernel
theorem dX9_copyTo_70 : decode cX9_copyTo 70 = .ok (.aload_n 0, 1) := by decide +kernel
theorem dX9_copyTo_71 : decode cX9_copyTo 71 = .ok (.getfield 26, 3) := by decide +kernel
theorem dX9_copyTo_74 : decode cX9_copyTo 74 = .ok (.iload_n 1, 1) := by decide +kernel
theorem dX9_copyTo_75 : decode cX9_copyTo 75 = .ok (.iaload, 1) := by decide +kernel
theorem dX9_copyTo_76 : decode cX9_copyTo 76 = .ok (.invokestatic 394, 3) := by decide +kernel
theorem dX9_copyTo_79 : decode cX9_copyTo 79 = .ok (.ifCond .ne 9, 3) := by decide +kernel
theorem dX9_copyTo_82 : decode cX9_copyTo 82 = .ok (.aload_n 0, 1) := by decide +kernel
theorem dX9_copyTo_83 : decode cX9_copyTo 83 = .ok (.iconst 4, 1) := by decide +kernel
theorem dX9_copyTo_84 : decode cX9_copyTo 84 = .ok (.invokevirtual 95, 3) := by decide +kernel
theorem dX9_copyTo_87 : decode cX9_copyTo 87 = .ok (.ireturn, 1) := by decide +kernel
theorem dX9_copyTo_88 : decode cX9_copyTo 88 = .ok (.iconst 0, 1) := by decide +kernel
theorem dX9_copyTo_89 : decode cX9_copyTo 89 = .ok (.istore 4, 2) := by decide +kernel
theorem dX9_copyTo_91 : decode cX9_copyTo 91 = .ok (.iload 4, 2) := by decide +kernel
theorem dX9_copyTo_93 : decode cX9_copyTo 93 = .ok (.bipush 31, 2) := by decide +kernel
theorem dX9_copyTo_95 : decode cX9_copyTo 95 = .ok (.if_icmp .ge 32, 3) := by decide +kernel
theorem dX9_copyTo_98 : decode cX9_copyTo 98 = .ok (.aload_n 0, 1) := by decide +kernel
theorem dX9_copyTo_99 : decode cX9_copyTo 99 = .ok (.getfield 32, 3) := by decide +kernel
theorem dX9_copyTo_102 : decode cX9_copyTo 102 = .ok (.bipush 31, 2) := by decide +kernel
theorem dX9_copyTo_104 : decode cX9_copyTo 104 = .ok (.iconst 3, 1) := by decide +kernel
theorem dX9_copyTo_105 : decode cX9_copyTo 105 = .ok (.iload_n 1, 1) := by decide +kernel
theorem dX9_copyTo_106 : decode cX9_copyTo 106 = .ok (.imul, 1) := by decide +kernel
theorem dX9_copyTo_107 : decode cX9_copyTo 107 = .ok (.iload_n 2, 1) := by decide +kernel
theorem dX9_copyTo_108 : decode cX9_copyTo 108 = .ok (.iadd, 1) := by decide +kernel
theorem dX9_copyTo_109 : decode cX9_copyTo 109 = .ok (.imul, 1) := by decide +kernel
theorem dX9_copyTo_110 : decode cX9_copyTo 110 = .ok (.iload 4, 2) := by decide +kernel
theorem dX9_copyTo_112 : decode cX9_copyTo 112 = .ok (.iadd, 1) := by decide +kernel
theorem dX9_copyTo_113 : decode cX9_copyTo 113 = .ok (.aload_n 0, 1) := by decide +kernel
theorem dX9_copyTo_114 : decode cX9_copyTo 114 = .ok (.iload_n 3, 1) := by decide +kernel
theorem dX9_copyTo_115 : decode cX9_copyTo 115 = .ok (.iload 4, 2) := by decide +kernel
theorem dX9_copyTo_117 : decode cX9_copyTo 117 = .ok (.invokevirtual 91, 3) := by decide +kernel
theorem dX9_copyTo_120 : decode cX9_copyTo 120 = .ok (.iastore, 1) := by decide +kernel
theorem dX9_copyTo_121 : decode cX9_copyTo 121 = .ok (.iinc 4 1, 3) := by decide +kernel
theorem dX9_copyTo_124 : decode cX9_copyTo 124 = .ok (.goto (-33), 3) := by decide +kernel
theorem dX9_copyTo_127 : decode cX9_copyTo 127 = .ok (.aload_n 0, 1) := by decide +kernel
theorem dX9_copyTo_128 : decode cX9_copyTo 128 = .ok (.getfield 35, 3) := by decide +kernel
theorem dX9_copyTo_131 : decode cX9_copyTo 131 = .ok (.iconst 3, 1) := by decide +kernel
theorem dX9_copyTo_132 : decode cX9_copyTo 132 = .ok (.iload_n 1, 1) := by decide +kernel
theorem dX9_copyTo_133 : decode cX9_copyTo 133 = .ok (.imul, 1) := by decide +kernel
theorem dX9_copyTo_134 : decode cX9_copyTo 134 = .ok (.iload_n 2, 1) := by decide +kernel
theorem dX9_copyTo_135 : decode cX9_copyTo 135 = .ok (.iadd, 1) := by decide +kernel
theorem dX9_copyTo_136 : decode cX9_copyTo 136 = .ok (.iconst 1, 1) := by decide +kernel
theorem dX9_copyTo_137 : decode cX9_copyTo 137 = .ok (.bastore, 1) := by decide +kernel
theorem dX9_copyTo_138 : decode cX9_copyTo 138 = .ok (.aload_n 0, 1) := by decide +kernel
theorem dX9_copyTo_139 : decode cX9_copyTo 139 = .ok (.iload_n 3, 1) := by decide +kernel
theorem dX9_copyTo_140 : decode cX9_copyTo 140 = .ok (.iconst 3, 1) := by decide +kernel
theorem dX9_copyTo_141 : decode cX9_copyTo 141 = .ok (.invokevirtual 91, 3) := by decide +kernel
theorem dX9_copyTo_144 : decode cX9_copyTo 144 = .ok (.ireturn, 1) := by decide +kernel
theorem dX9_paste_0 : decode cX9_paste 0 = .ok (.aload_n 0, 1) := by decide +kernel
theorem dX9_paste_1 : decode cX9_paste 1 = .ok (.iconst 0, 1) := by decide +kernel
theorem dX9_paste_2 : decode cX9_paste 2 = .ok (.putfield 84, 3) := by decide +kernel
theorem dX9_paste_5 : decode cX9_paste 5 = .ok (.iload_n 1, 1) := by decide +kernel
theorem dX9_paste_6 : decode cX9_paste 6 = .ok (.invokestatic 391, 3) := by decide +kernel
theorem dX9_paste_9 : decode cX9_paste 9 = .ok (.ifCond .eq 20, 3) := by decide +kernel
theorem dX9_paste_12 : decode cX9_paste 12 = .ok (.aload_n 0, 1) := by decide +kernel
theorem dX9_paste_13 : decode cX9_paste 13 = .ok (.iload_n 3, 1) := by decide +kernel
theorem dX9_paste_14 : decode cX9_paste 14 = .ok (.invokevirtual 110, 3) := by decide +kernel
theorem dX9_paste_17 : decode cX9_paste 17 = .ok (.ifCond .eq 12, 3) := by decide +kernel
theorem dX9_paste_20 : decode cX9_paste 20 = .ok (.aload_n 0, 1) := by decide +kernel
theorem dX9_paste_21 : decode cX9_paste 21 = .ok (.iload 4, 2) := by decide +kernel
theorem dX9_paste_23 : decode cX9_paste 23 = .ok (.invokevirtual 103, 3) := by decide +kernel
theorem dX9_paste_26 : decode cX9_paste 26 = .ok (.ifCond .ne 9, 3) := by decide +kernel
theorem dX9_paste_29 : decode cX9_paste 29 = .ok (.aload_n 0, 1) := by decide +kernel
theorem dX9_paste_30 : decode cX9_paste 30 = .ok (.iconst 1, 1) := by decide +kernel
theorem dX9_paste_31 : decode cX9_paste 31 = .ok (.invokevirtual 95, 3) := by decide +kernel
theorem dX9_paste_34 : decode cX9_paste 34 = .ok (.ireturn, 1) := by decide +kernel
theorem dX9_paste_35 : decode cX9_paste 35 = .ok (.iload_n 2, 1) := by decide +kernel
theorem dX9_paste_36 : decode cX9_paste 36 = .ok (.iconst 0, 1) := by decide +kernel
theorem dX9_paste_37 : decode cX9_paste 37 = .ok (.aload_n 0, 1) := by decide +kernel
theorem dX9_paste_38 : decode cX9_paste 38 = .ok (.getfield 29, 3) := by decide +kernel
theorem dX9_paste_41 : decode cX9_paste 41 = .ok (.iload_n 1, 1) := by decide +kernel
theorem dX9_paste_42 : decode cX9_paste 42 = .ok (.iaload, 1) := by decide +kernel
theorem dX9_paste_43 : decode cX9_paste 43 = .ok (.iconst 1, 1) := by decide +kernel
theorem dX9_paste_44 : decode cX9_paste 44 = .ok (.isub, 1) := by decide +kernel
theorem dX9_paste_45 : decode cX9_paste 45 = .ok (.invokestatic 87, 3) := by decide +kernel
theorem dX9_paste_48 : decode cX9_paste 48 = .ok (.ifCond .eq 16, 3) := by decide +kernel
theorem dX9_paste_51 : decode cX9_paste 51 = .ok (.aload_n 0, 1) := by decide +kernel
theorem dX9_paste_52 : decode cX9_paste 52 = .ok (.getfield 35, 3) := by decide +kernel
theorem dX9_paste_55 : decode cX9_paste 55 = .ok (.iconst 3, 1) := by decide +kernel
theorem dX9_paste_56 : decode cX9_paste 56 = .ok (.iload_n 1, 1) := by decide +kernel
theorem dX9_paste_57 : decode cX9_paste 57 = .ok (.imul, 1) := by decide +kernel
theorem dX9_paste_58 : decode cX9_paste 58 = .ok (.iload_n 2, 1) := by decide +kernel
theorem dX9_paste_59 : decode cX9_paste 59 = .ok (.iadd, 1) := by decide +kernel
theorem dX9_paste_60 : decode cX9_paste 60 = .ok (.baload, 1) := by decide +kernel
theorem dX9_paste_61 : decode cX9_paste 61 = .ok (.ifCond .ne 9, 3) := by decide +kernel
theorem dX9_paste_64 : decode cX9_paste 64 = .ok (.aload_n 0, 1) := by decide +kernel
theorem dX9_paste_65 : decode cX9_paste 65 = .ok (.iconst 2, 1) := by decide +kernel
theorem dX9_paste_66 : decode cX9_paste 66 = .ok (.invokevirtual 95, 3) := by decide +kernel
theorem dX9_paste_69 : decode cX9_paste 69 = .ok (.ireturn, 1) := by decide +kernel
theorem dX9_paste_70 : decode cX9_paste 70 = .ok (.aload_n 0, 1) := by decide +kernel
theorem dX9_paste_71 : decode cX9_paste 71 = .ok (.getfield 9, 3) := by decide +kernel
theorem dX9_paste_74 : decode cX9_paste 74 = .ok (.iconst 5, 1) := by decide +kernel
theorem dX9_paste_75 : decode cX9_paste 75 = .ok (.iaload, 1) := by decide +kernel
theorem dX9_paste_76 : decode cX9_paste 76 = .ok (.bipush 16, 2) := by decide +kernel
theorem dX9_paste_78 : decode cX9_paste 78 = .ok (.if_icmp .eq 14, 3) := by decide +kernel
theorem dX9_paste_81 : decode cX9_paste 81 = .ok (.aload_n 0, 1) := by decide +kernel
theorem dX9_paste_82 : decode cX9_paste 82 = .ok (.iload_n 3, 1) := by decide +kernel
theorem dX9_paste_83 : decode cX9_paste 83 = .ok (.iload 4, 2) := by decide +kernel
theorem dX9_paste_85 : decode cX9_paste 85 = .ok (.iconst 1, 1) := by decide +kernel
theorem dX9_paste_86 : decode cX9_paste 86 = .ok (.invokevirtual 113, 3) := by decide +kernel
theorem dX9_paste_89 : decode cX9_paste 89 = .ok (.ifCond .ne 9, 3) := by decide +kernel
theorem dX9_paste_92 : decode cX9_paste 92 = .ok (.aload_n 0, 1) := by decide +kernel
theorem dX9_paste_93 : decode cX9_paste 93 = .ok (.iconst 3, 1) := by decide +kernel
theorem dX9_paste_94 : decode cX9_paste 94 = .ok (.invokevirtual 95, 3) := by decide +kernel
theorem dX9_paste_97 : decode cX9_paste 97 = .ok (.ireturn, 1) := by decide +kernel
theorem dX9_paste_98 : decode cX9_paste 98 = .ok (.aload_n 0, 1) := by decide +kernel
theorem dX9_paste_99 : decode cX9_paste 99 = .ok (.iload_n 3, 1) := by decide +kernel
theorem dX9_paste_100 : decode cX9_paste 100 = .ok (.iload 4, 2) := by decide +kernel
theorem dX9_paste_102 : decode cX9_paste 102 = .ok (.iconst 1, 1) := by decide +kernel
theorem dX9_paste_103 : decode cX9_paste 103 = .ok (.iconst 0, 1) := by decide +kernel
theorem dX9_paste_104 : decode cX9_paste 104 = .ok (.invokevirtual 116, 3) := by decide +kernel
theorem dX9_paste_107 : decode cX9_paste 107 = .ok (.istore 5, 2) := by decide +kernel
theorem dX9_paste_109 : decode cX9_paste 109 = .ok (.iconst 3, 1) := by decide +kernel
theorem dX9_paste_110 : decode cX9_paste 110 = .ok (.istore 6, 2) := by decide +kernel
theorem dX9_paste_112 : decode cX9_paste 112 = .ok (.iload 6, 2) := by decide +kernel
theorem dX9_paste_114 : decode cX9_paste 114 = .ok (.bipush 31, 2) := by decide +kernel
theorem dX9_paste_116 : decode cX9_paste 116 = .ok (.if_icmp .ge 41, 3) := by decide +kernel
theorem dX9_paste_119 : decode cX9_paste 119 = .ok (.aload_n 0, 1) := by decide +kernel
theorem dX9_paste_120 : decode cX9_paste 120 = .ok (.getfield 9, 3) := by decide +kernel
theorem dX9_paste_123 : decode cX9_paste 123 = .ok (.bipush 10, 2) := by decide +kernel
theorem dX9_paste_125 : decode cX9_paste 125 = .ok (.bipush 31, 2) := by decide +kernel
theorem dX9_paste_127 : decode cX9_paste 127 = .ok (.iload 5, 2) := by decide +kernel
theorem dX9_paste_129 : decode cX9_paste 129 = .ok (.imul, 1) := by decide +kernel
theorem dX9_paste_130 : decode cX9_paste 130 = .ok (.iadd, 1) := by decide +kernel
theorem dX9_paste_131 : decode cX9_paste 131 = .ok (.iload 6, 2) := by decide +kernel
theorem dX9_paste_133 : decode cX9_paste 133 = .ok (.iadd, 1) := by decide +kernel
theorem dX9_paste_134 : decode cX9_paste 134 = .ok (.aload_n 0, 1) := by decide +kernel
theorem dX9_paste_135 : decode cX9_paste 135 = .ok (.getfield 32, 3) := by decide +kernel
theorem dX9_paste_138 : decode cX9_paste 138 = .ok (.bipush 31, 2) := by decide +kernel
theorem dX9_paste_140 : decode cX9_paste 140 = .ok (.iconst 3, 1) := by decide +kernel
theorem dX9_paste_141 : decode cX9_paste 141 = .ok (.iload_n 1, 1) := by decide +kernel
theorem dX9_paste_142 : decode cX9_paste 142 = .ok (.imul, 1) := by decide +kernel
theorem dX9_paste_143 : decode cX9_paste 143 = .ok (.iload_n 2, 1) := by decide +kernel
theorem dX9_paste_144 : decode cX9_paste 144 = .ok (.iadd, 1) := by decide +kernel
theorem dX9_paste_145 : decode cX9_paste 145 = .ok (.imul, 1) := by decide +kernel
theorem dX9_paste_146 : decode cX9_paste 146 = .ok (.iload 6, 2) := by decide +kernel
theorem dX9_paste_148 : decode cX9_paste 148 = .ok (.iadd, 1) := by decide +kernel
theorem dX9_paste_149 : decode cX9_paste 149 = .ok (.iaload, 1) := by decide +kernel
theorem dX9_paste_150 : decode cX9_paste 150 = .ok (.iastore, 1) := by decide +kernel
theorem dX9_paste_151 : decode cX9_paste 151 = .ok (.iinc 6 1, 3) := by decide +kernel
theorem dX9_paste_154 : decode cX9_paste 154 = .ok (.goto (-42), 3) := by decide +kernel
theorem dX9_paste_157 : decode cX9_paste 157 = .ok (.iload 5, 2) := by decide +kernel
theorem dX9_paste_159 : decode cX9_paste 159 = .ok (.ireturn, 1) := by decide +kernel
theorem dX9_save_0 : decode cX9_save 0 = .ok (.aload_n 0, 1) := by decide +kernel
theorem dX9_save_1 : decode cX9_save 1 = .ok (.iconst 0, 1) := by decide +kernel
theorem dX9_save_2 : decode cX9_save 2 = .ok (.putfield 84, 3) := by decide +kernel
theorem dX9_save_5 : decode cX9_save 5 = .ok (.iconst 0, 1) := by decide +kernel
theorem dX9_save_6 : decode cX9_save 6 = .ok (.istore_n 1, 1) := by decide +kernel
theorem dX9_save_7 : decode cX9_save 7 = .ok (.iload_n 1, 1) := by decide +kernel
theorem dX9_save_8 : decode cX9_save 8 = .ok (.sipush 506, 3) := by decide +kernel
theorem dX9_save_11 : decode cX9_save 11 = .ok (.if_icmp .ge 21, 3) := by decide +kernel
theorem dX9_save_14 : decode cX9_save 14 = .ok (.aload_n 0, 1) := by decide +kernel
theorem dX9_save_15 : decode cX9_save 15 = .ok (.getfield 13, 3) := by decide +kernel
theorem dX9_save_18 : decode cX9_save 18 = .ok (.iload_n 1, 1) := by decide +kernel
theorem dX9_save_19 : decode cX9_save 19 = .ok (.aload_n 0, 1) := by decide +kernel
theorem dX9_save_20 : decode cX9_save 20 = .ok (.getfield 9, 3) := by decide +kernel
theorem dX9_save_23 : decode cX9_save 23 = .ok (.iload_n 1, 1) := by decide +kernel
theorem dX9_save_24 : decode cX9_save 24 = .ok (.iaload, 1) := by decide +kernel
theorem dX9_save_25 : decode cX9_save 25 = .ok (.iastore, 1) := by decide +kernel
theorem dX9_save_26 : decode cX9_save 26 = .ok (.iinc 1 1, 3) := by decide +kernel
theorem dX9_save_29 : decode cX9_save 29 = .ok (.goto (-22), 3) := by decide +kernel
theorem dX9_save_32 : decode cX9_save 32 = .ok (.aload_n 0, 1) := by decide +kernel
theorem dX9_save_33 : decode cX9_save 33 = .ok (.iconst 1, 1) := by decide +kernel
theorem dX9_save_34 : decode cX9_save 34 = .ok (.putfield 397, 3) := by decide +kernel
theorem dX9_save_37 : decode cX9_save 37 = .ok (.aload_n 0, 1) := by decide +kernel
theorem dX9_save_38 : decode cX9_save 38 = .ok (.getfield 9, 3) := by decide +kernel
theorem dX9_save_41 : decode cX9_save 41 = .ok (.iconst 5, 1) := by decide +kernel
theorem dX9_save_42 : decode cX9_save 42 = .ok (.iaload, 1) := by decide +kernel
theorem dX9_save_43 : decode cX9_save 43 = .ok (.ireturn, 1) := by decide +kernel
theorem dX9_restore_0 : decode cX9_restore 0 = .ok (.aload_n 0, 1) := by decide +kernel
theorem dX9_restore_1 : decode cX9_restore 1 = .ok (.iconst 0, 1) := by decide +kernel
theorem dX9_restore_2 : decode cX9_restore 2 = .ok (.putfield 84, 3) := by decide +kernel
theorem dX9_restore_5 : decode cX9_restore 5 = .ok (.aload_n 0, 1) := by decide +kernel
theorem dX9_restore_6 : decode cX9_restore 6 = .ok (.getfield 397, 3) := by decide +kernel
theorem dX9_restore_9 : decode cX9_restore 9 = .ok (.ifCond .ne 9, 3) := by decide +kernel
theorem dX9_restore_12 : decode cX9_restore 12 = .ok (.aload_n 0, 1) := by decide +kernel
theorem dX9_restore_13 : decode cX9_restore 13 = .ok (.iconst 1, 1) := by decide +kernel
theorem dX9_restore_14 : decode cX9_restore 14 = .ok (.invokevirtual 95, 3) := by decide +kernel
theorem dX9_restore_17 : decode cX9_restore 17 = .ok (.ireturn, 1) := by decide +kernel
theorem dX9_restore_18 : decode cX9_restore 18 = .ok (.iconst 0, 1) := by decide +kernel
theorem dX9_restore_19 : decode cX9_restore 19 = .ok (.istore_n 1, 1) := by decide +kernel
theorem dX9_restore_20 : decode cX9_restore 20 = .ok (.iload_n 1, 1) := by decide +kernel
theorem dX9_restore_21 : decode cX9_restore 21 = .ok (.sipush 506, 3) := by decide +kernel
theorem dX9_restore_24 : decode cX9_restore 24 = .ok (.if_icmp .ge 21, 3) := by decide +kernel
theorem dX9_restore_27 : decode cX9_restore 27 = .ok (.aload_n 0, 1) := by decide +kernel
theorem dX9_restore_28 : decode cX9_restore 28 = .ok (.getfield 9, 3) := by decide +kernel
theorem dX9_restore_31 : decode cX9_restore 31 = .ok (.iload_n 1, 1) := by decide +kernel
theorem dX9_restore_32 : decode cX9_restore 32 = .ok (.aload_n 0, 1) := by decide +kernel
theorem dX9_restore_33 : decode cX9_restore 33 = .ok (.getfield 13, 3) := by decide +kernel
theorem dX9_restore_36 : decode cX9_restore 36 = .ok (.iload_n 1, 1) := by decide +kernel
theorem dX9_restore_37 : decode cX9_restore 37 = .ok (.iaload, 1) := by decide +kernel
theorem dX9_restore_38 : decode cX9_restore 38 = .ok (.iastore, 1) := by decide +kernel
theorem dX9_restore_39 : decode cX9_restore 39 = .ok (.iinc 1 1, 3) := by decide +kernel
theorem dX9_restore_42 : decode cX9_restore 42 = .ok (.goto (-22), 3) := by decide +kernel
theorem dX9_restore_45 : decode cX9_restore 45 = .ok (.aload_n 0, 1) := by decide +kernel
theorem dX9_restore_46 : decode cX9_restore 46 = .ok (.getfield 9, 3) := by decide +kernel
theorem dX9_restore_49 : decode cX9_restore 49 = .ok (.iconst 5, 1) := by decide +kernel
theorem dX9_restore_50 : decode cX9_restore 50 = .ok (.iaload, 1) := by decide +kernel
theorem dX9_restore_51 : decode cX9_restore 51 = .ok (.ireturn, 1) := by decide +kernel
theorem dJx00060_init_a7421_0 : decode cJx00060_init_a7421 0 = .ok (.aload_n 0, 1) := by decide +kernel
theorem dJx00060_init_a7421_1 : decode cJx00060_init_a7421 1 = .ok (.aload_n 1, 1) := by decide +kernel
theorem dJx00060_init_a7421_2 : decode cJx00060_init_a7421 2 = .ok (.invokespecial 7, 3) := by decide +kernel
theorem dJx00060_init_a7421_5 : decode cJx00060_init_a7421 5 = .ok (.return_, 1) := by decide +kernel
theorem dJxe99ae_isNaN_b9ae7_0 : decode cJxe99ae_isNaN_b9ae7 0 = .ok (.dload_n 0, 1) := by decide +kernel
theorem dJxe99ae_isNaN_b9ae7_1 : decode cJxe99ae_isNaN_b9ae7 1 = .ok (.dload_n 0, 1) := by decide +kernel
theorem dJxe99ae_isNaN_b9ae7_2 : decode cJxe99ae_isNaN_b9ae7 2 = .ok (.dcmp .l, 1) := by decide +kernel
theorem dJxe99ae_isNaN_b9ae7_3 : decode cJxe99ae_isNaN_b9ae7 3 = .ok (.ifCond .eq 7, 3) := by decide +kernel
theorem dJxe99ae_isNaN_b9ae7_6 : decode cJxe99ae_isNaN_b9ae7 6 = .ok (.iconst 1, 1) := by decide +kernel
theorem dJxe99ae_isNaN_b9ae7_7 : decode cJxe99ae_isNaN_b9ae7 7 = .ok (.goto 4, 3) := by decide +kernel
theorem dJxe99ae_isNaN_b9ae7_10 : decode cJxe99ae_isNaN_b9ae7 10 = .ok (.iconst 0, 1) := by decide +kernel
theorem dJxe99ae_isNaN_b9ae7_11 : decode cJxe99ae_isNaN_b9ae7 11 = .ok (.ireturn, 1) := by decide +kernel
theorem dJxe99ae_doubleToLongBits_ccdee_0 : decode cJxe99ae_doubleToLongBits_ccdee 0 = .ok (.dload_n 0, 1) := by decide +kernel
theorem dJxe99ae_doubleToLongBits_ccdee_1 : decode cJxe99ae_doubleToLongBits_ccdee 1 = .ok (.invokestatic 122, 3) := by decide +kernel
theorem dJxe99ae_doubleToLongBits_ccdee_4 : decode cJxe99ae_doubleToLongBits_ccdee 4 = .ok (.ifCond .ne 8, 3) := by decide +kernel
theorem dJxe99ae_doubleToLongBits_ccdee_7 : decode cJxe99ae_doubleToLongBits_ccdee 7 = .ok (.dload_n 0, 1) := by decide +kernel
theorem dJxe99ae_doubleToLongBits_ccdee_8 : decode cJxe99ae_doubleToLongBits_ccdee 8 = .ok (.invokestatic 134, 3) := by decide +kernel
theorem dJxe99ae_doubleToLongBits_ccdee_11 : decode cJxe99ae_doubleToLongBits_ccdee 11 = .ok (.lreturn, 1) := by decide +kernel
theorem dJxe99ae_doubleToLongBits_ccdee_12 : decode cJxe99ae_doubleToLongBits_ccdee 12 = .ok (.ldc2_w 137, 3) := by decide +kernel
theorem dJxe99ae_doubleToLongBits_ccdee_15 : decode cJxe99ae_doubleToLongBits_ccdee 15 = .ok (.lreturn, 1) := by decide +kernel
theorem dJxf58ca_isNaN_12338_0 : decode cJxf58ca_isNaN_12338 0 = .ok (.fload_n 0, 1) := by decide +kernel
theorem dJxf58ca_isNaN_12338_1 : decode cJxf58ca_isNaN_12338 1 = .ok (.fload_n 0, 1) := by decide +kernel
theorem dJxf58ca_isNaN_12338_2 : decode cJxf58ca_isNaN_12338 2 = .ok (.fcmp .l, 1) := by decide +kernel
theorem dJxf58ca_isNaN_12338_3 : decode cJxf58ca_isNaN_12338 3 = .ok (.ifCond .eq 7, 3) := by decide +kernel
theorem dJxf58ca_isNaN_12338_6 : decode cJxf58ca_isNaN_12338 6 = .ok (.iconst 1, 1) := by decide +kernel
theorem dJxf58ca_isNaN_12338_7 : decode cJxf58ca_isNaN_12338 7 = .ok (.goto 4, 3) := by decide +kernel
theorem dJxf58ca_isNaN_12338_10 : decode cJxf58ca_isNaN_12338 10 = .ok (.iconst 0, 1) := by decide +kernel
theorem dJxf58ca_isNaN_12338_11 : decode cJxf58ca_isNaN_12338 11 = .ok (.ireturn, 1) := by decide +kernel
theorem dJxf58ca_floatToIntBits_5c35a_0 : decode cJxf58ca_floatToIntBits_5c35a 0 = .ok (.fload_n 0, 1) := by decide +kernel
theorem dJxf58ca_floatToIntBits_5c35a_1 : decode cJxf58ca_floatToIntBits_5c35a 1 = .ok (.invokestatic 59, 3) := by decide +kernel
theorem dJxf58ca_floatToIntBits_5c35a_4 : decode cJxf58ca_floatToIntBits_5c35a 4 = .ok (.ifCond .ne 8, 3) := by decide +kernel
theorem dJxf58ca_floatToIntBits_5c35a_7 : decode cJxf58ca_floatToIntBits_5c35a 7 = .ok (.fload_n 0, 1) := by decide +kernel
theorem dJxf58ca_floatToIntBits_5c35a_8 : decode cJxf58ca_floatToIntBits_5c35a 8 = .ok (.invokestatic 74, 3) := by decide +kernel
theorem dJxf58ca_floatToIntBits_5c35a_11 : decode cJxf58ca_floatToIntBits_5c35a 11 = .ok (.ireturn, 1) := by decide +kernel
theorem dJxf58ca_floatToIntBits_5c35a_12 : decode cJxf58ca_floatToIntBits_5c35a 12 = .ok (.ldc 77, 2) := by decide +kernel
theorem dJxf58ca_floatToIntBits_5c35a_14 : decode cJxf58ca_floatToIntBits_5c35a 14 = .ok (.ireturn, 1) := by decide +kernel
theorem dJ9_max_7cf53_0 : decode cJ9_max_7cf53 0 = .ok (.iload_n 0, 1) := by decide +kernel
theorem dJ9_max_7cf53_1 : decode cJ9_max_7cf53 1 = .ok (.iload_n 1, 1) := by decide +kernel
theorem dJ9_max_7cf53_2 : decode cJ9_max_7cf53 2 = .ok (.if_icmp .lt 7, 3) := by decide +kernel
theorem dJ9_max_7cf53_5 : decode cJ9_max_7cf53 5 = .ok (.iload_n 0, 1) := by decide +kernel
theorem dJ9_max_7cf53_6 : decode cJ9_max_7cf53 6 = .ok (.goto 4, 3) := by decide +kernel
theorem dJ9_max_7cf53_9 : decode cJ9_max_7cf53 9 = .ok (.iload_n 1, 1) := by decide +kernel
theorem dJ9_max_7cf53_10 : decode cJ9_max_7cf53 10 = .ok (.ireturn, 1) := by decide +kernel
theorem dJ9_min_7cf53_0 : decode cJ9_min_7cf53 0 = .ok (.iload_n 0, 1) := by decide +kernel
theorem dJ9_min_7cf53_1 : decode cJ9_min_7cf53 1 = .ok (.iload_n 1, 1) := by decide +kernel
theorem dJ9_min_7cf53_2 : decode cJ9_min_7cf53 2 = .ok (.if_icmp .gt 7, 3) := by decide +kernel
theorem dJ9_min_7cf53_5 : decode cJ9_min_7cf53 5 = .ok (.iload_n 0, 1) := by decide +kernel
theorem dJ9_min_7cf53_6 : decode cJ9_min_7cf53 6 = .ok (.goto 4, 3) := by decide +kernel
theorem dJ9_min_7cf53_9 : decode cJ9_min_7cf53 9 = .ok (.iload_n 1, 1) := by decide +kernel
theorem dJ9_min_7cf53_10 : decode cJ9_min_7cf53 10 = .ok (.ireturn, 1) := by decide +kernel
theorem dJ0_length_8abf5_0 : decode cJ0_length_8abf5 0 = .ok (.aload_n 0, 1) := by decide +kernel
theorem dJ0_length_8abf5_1 : decode cJ0_length_8abf5 1 = .ok (.getfield 9, 3) := by decide +kernel
theorem dJ0_length_8abf5_4 : decode cJ0_length_8abf5 4 = .ok (.arraylength, 1) := by decide +kernel
theorem dJ0_length_8abf5_5 : decode cJ0_length_8abf5 5 = .ok (.aload_n 0, 1) := by decide +kernel
theorem dJ0_length_8abf5_6 : decode cJ0_length_8abf5 6 = .ok (.invokevirtual 335, 3) := by decide +kernel
theorem dJ0_length_8abf5_9 : decode cJ0_length_8abf5 9 = .ok (.ishr, 1) := by decide +kernel
theorem dJ0_length_8abf5_10 : decode cJ0_length_8abf5 10 = .ok (.ireturn, 1) := by decide +kernel
theorem dJ0_charAt_5068e_0 : decode cJ0_charAt_5068e 0 = .ok (.aload_n 0, 1) := by decide +kernel
theorem dJ0_charAt_5068e_1 : decode cJ0_charAt_5068e 1 = .ok (.invokevirtual 492, 3) := by decide +kernel
theorem dJ0_charAt_5068e_4 : decode cJ0_charAt_5068e 4 = .ok (.ifCond .eq 12, 3) := by decide +kernel
theorem dJ0_charAt_5068e_7 : decode cJ0_charAt_5068e 7 = .ok (.aload_n 0, 1) := by decide +kernel
theorem dJ0_charAt_5068e_8 : decode cJ0_charAt_5068e 8 = .ok (.getfield 9, 3) := by decide +kernel
theorem dJ0_charAt_5068e_11 : decode cJ0_charAt_5068e 11 = .ok (.iload_n 1, 1) := by decide +kernel
theorem dJ0_charAt_5068e_12 : decode cJ0_charAt_5068e 12 = .ok (.invokestatic 495, 3) := by decide +kernel
theorem dJ0_charAt_5068e_15 : decode cJ0_charAt_5068e 15 = .ok (.ireturn, 1) := by decide +kernel
theorem dJ0_charAt_5068e_16 : decode cJ0_charAt_5068e 16 = .ok (.aload_n 0, 1) := by decide +kernel
theorem dJ0_charAt_5068e_17 : decode cJ0_charAt_5068e 17 = .ok (.getfield 9, 3) := by decide +kernel
theorem dJ0_charAt_5068e_20 : decode cJ0_charAt_5068e 20 = .ok (.iload_n 1, 1) := by decide +kernel
theorem dJ0_charAt_5068e_21 : decode cJ0_charAt_5068e 21 = .ok (.invokestatic 498, 3) := by decide +kernel
theorem dJ0_charAt_5068e_24 : decode cJ0_charAt_5068e 24 = .ok (.ireturn, 1) := by decide +kernel
theorem dJ0_coder_7d493_0 : decode cJ0_coder_7d493 0 = .ok (.getstatic 38, 3) := by decide +kernel
theorem dJ0_coder_7d493_3 : decode cJ0_coder_7d493 3 = .ok (.ifCond .eq 10, 3) := by decide +kernel
theorem dJ0_coder_7d493_6 : decode cJ0_coder_7d493 6 = .ok (.aload_n 0, 1) := by decide +kernel
theorem dJ0_coder_7d493_7 : decode cJ0_coder_7d493 7 = .ok (.getfield 15, 3) := by decide +kernel
theorem dJ0_coder_7d493_10 : decode cJ0_coder_7d493 10 = .ok (.goto 4, 3) := by decide +kernel
theorem dJ0_coder_7d493_13 : decode cJ0_coder_7d493 13 = .ok (.iconst 1, 1) := by decide +kernel
theorem dJ0_coder_7d493_14 : decode cJ0_coder_7d493 14 = .ok (.ireturn, 1) := by decide +kernel
theorem dJ0_isLatin1_aae02_0 : decode cJ0_isLatin1_aae02 0 = .ok (.getstatic 38, 3) := by decide +kernel
theorem dJ0_isLatin1_aae02_3 : decode cJ0_isLatin1_aae02 3 = .ok (.ifCond .eq 14, 3) := by decide +kernel
theorem dJ0_isLatin1_aae02_6 : decode cJ0_isLatin1_aae02 6 = .ok (.aload_n 0, 1) := by decide +kernel
theorem dJ0_isLatin1_aae02_7 : decode cJ0_isLatin1_aae02 7 = .ok (.getfield 15, 3) := by decide +kernel
theorem dJ0_isLatin1_aae02_10 : decode cJ0_isLatin1_aae02 10 = .ok (.ifCond .ne 7, 3) := by decide +kernel
theorem dJ0_isLatin1_aae02_13 : decode cJ0_isLatin1_aae02 13 = .ok (.iconst 1, 1) := by decide +kernel
theorem dJ0_isLatin1_aae02_14 : decode cJ0_isLatin1_aae02 14 = .ok (.goto 4, 3) := by decide +kernel
theorem dJ0_isLatin1_aae02_17 : decode cJ0_isLatin1_aae02 17 = .ok (.iconst 0, 1) := by decide +kernel
theorem dJ0_isLatin1_aae02_18 : decode cJ0_isLatin1_aae02 18 = .ok (.ireturn, 1) := by decide +kernel
theorem dJ0_checkIndex_df160_0 : decode cJ0_checkIndex_df160 0 = .ok (.iload_n 0, 1) := by decide +kernel
theorem dJ0_checkIndex_df160_1 : decode cJ0_checkIndex_df160 1 = .ok (.iload_n 1, 1) := by decide +kernel
theorem dJ0_checkIndex_df160_2 : decode cJ0_checkIndex_df160 2 = .ok (.getstatic 1053, 3) := by decide +kernel
theorem dJ0_checkIndex_df160_5 : decode cJ0_checkIndex_df160 5 = .ok (.invokestatic 1059, 3) := by decide +kernel
theorem dJ0_checkIndex_df160_8 : decode cJ0_checkIndex_df160 8 = .ok (.pop, 1) := by decide +kernel
theorem dJ0_checkIndex_df160_9 : decode cJ0_checkIndex_df160 9 = .ok (.return_, 1) := by decide +kernel
theorem dJ1_charAt_3b067_0 : decode cJ1_charAt_3b067 0 = .ok (.iload_n 1, 1) := by decide +kernel
theorem dJ1_charAt_3b067_1 : decode cJ1_charAt_3b067 1 = .ok (.aload_n 0, 1) := by decide +kernel
theorem dJ1_charAt_3b067_2 : decode cJ1_charAt_3b067 2 = .ok (.arraylength, 1) := by decide +kernel
theorem dJ1_charAt_3b067_3 : decode cJ1_charAt_3b067 3 = .ok (.invokestatic 9, 3) := by decide +kernel
theorem dJ1_charAt_3b067_6 : decode cJ1_charAt_3b067 6 = .ok (.aload_n 0, 1) := by decide +kernel
theorem dJ1_charAt_3b067_7 : decode cJ1_charAt_3b067 7 = .ok (.iload_n 1, 1) := by decide +kernel
theorem dJ1_charAt_3b067_8 : decode cJ1_charAt_3b067 8 = .ok (.baload, 1) := by decide +kernel
theorem dJ1_charAt_3b067_9 : decode cJ1_charAt_3b067 9 = .ok (.sipush 255, 3) := by decide +kernel
theorem dJ1_charAt_3b067_12 : decode cJ1_charAt_3b067 12 = .ok (.iand, 1) := by decide +kernel
theorem dJ1_charAt_3b067_13 : decode cJ1_charAt_3b067 13 = .ok (.i2c, 1) := by decide +kernel
theorem dJ1_charAt_3b067_14 : decode cJ1_charAt_3b067 14 = .ok (.ireturn, 1) := by decide +kernel
theorem dJ2_getChar_3b067_0 : decode cJ2_getChar_3b067 0 = .ok (.getstatic 44, 3) := by decide +kernel
theorem dJ2_getChar_3b067_3 : decode cJ2_getChar_3b067 3 = .ok (.ifCond .ne 25, 3) := by decide +kernel
theorem dJ2_getChar_3b067_6 : decode cJ2_getChar_3b067 6 = .ok (.iload_n 1, 1) := by decide +kernel
theorem dJ2_getChar_3b067_7 : decode cJ2_getChar_3b067 7 = .ok (.ifCond .lt 11, 3) := by decide +kernel
theorem dJ2_getChar_3b067_10 : decode cJ2_getChar_3b067 10 = .ok (.iload_n 1, 1) := by decide +kernel
theorem dJ2_getChar_3b067_11 : decode cJ2_getChar_3b067 11 = .ok (.aload_n 0, 1) := by decide +kernel
theorem dJ2_getChar_3b067_12 : decode cJ2_getChar_3b067 12 = .ok (.invokestatic 48, 3) := by decide +kernel
theorem dJ2_getChar_3b067_15 : decode cJ2_getChar_3b067 15 = .ok (.if_icmp .lt 13, 3) := by decide +kernel
theorem dJ2_getChar_3b067_18 : decode cJ2_getChar_3b067 18 = .ok (.new 52, 3) := by decide +kernel
theorem dJ2_getChar_3b067_21 : decode cJ2_getChar_3b067 21 = .ok (.dup, 1) := by decide +kernel
theorem dJ2_getChar_3b067_22 : decode cJ2_getChar_3b067 22 = .ok (.ldc 54, 2) := by decide +kernel
theorem dJ2_getChar_3b067_24 : decode cJ2_getChar_3b067 24 = .ok (.invokespecial 56, 3) := by decide +kernel
theorem dJ2_getChar_3b067_27 : decode cJ2_getChar_3b067 27 = .ok (.athrow, 1) := by decide +kernel
theorem dJ2_getChar_3b067_28 : decode cJ2_getChar_3b067 28 = .ok (.iload_n 1, 1) := by decide +kernel
theorem dJ2_getChar_3b067_29 : decode cJ2_getChar_3b067 29 = .ok (.iconst 1, 1) := by decide +kernel
theorem dJ2_getChar_3b067_30 : decode cJ2_getChar_3b067 30 = .ok (.ishl, 1) := by decide +kernel
theorem dJ2_getChar_3b067_31 : decode cJ2_getChar_3b067 31 = .ok (.istore_n 1, 1) := by decide +kernel
theorem dJ2_getChar_3b067_32 : decode cJ2_getChar_3b067 32 = .ok (.aload_n 0, 1) := by decide +kernel
theorem dJ2_getChar_3b067_33 : decode cJ2_getChar_3b067 33 = .ok (.iload_n 1, 1) := by decide +kernel
theorem dJ2_getChar_3b067_34 : decode cJ2_getChar_3b067 34 = .ok (.iinc 1 1, 3) := by decide +kernel
theorem dJ2_getChar_3b067_37 : decode cJ2_getChar_3b067 37 = .ok (.baload, 1) := by decide +kernel
theorem dJ2_getChar_3b067_38 : decode cJ2_getChar_3b067 38 = .ok (.sipush 255, 3) := by decide +kernel
theorem dJ2_getChar_3b067_41 : decode cJ2_getChar_3b067 41 = .ok (.iand, 1) := by decide +kernel
theorem dJ2_getChar_3b067_42 : decode cJ2_getChar_3b067 42 = .ok (.getstatic 59, 3) := by decide +kernel
theorem dJ2_getChar_3b067_45 : decode cJ2_getChar_3b067 45 = .ok (.ishl, 1) := by decide +kernel
theorem dJ2_getChar_3b067_46 : decode cJ2_getChar_3b067 46 = .ok (.aload_n 0, 1) := by decide +kernel
theorem dJ2_getChar_3b067_47 : decode cJ2_getChar_3b067 47 = .ok (.iload_n 1, 1) := by decide +kernel
theorem dJ2_getChar_3b067_48 : decode cJ2_getChar_3b067 48 = .ok (.baload, 1) := by decide +kernel
theorem dJ2_getChar_3b067_49 : decode cJ2_getChar_3b067 49 = .ok (.sipush 255, 3) := by decide +kernel
theorem dJ2_getChar_3b067_52 : decode cJ2_getChar_3b067 52 = .ok (.iand, 1) := by decide +kernel
theorem dJ2_getChar_3b067_53 : decode cJ2_getChar_3b067 53 = .ok (.getstatic 63, 3) := by decide +kernel
theorem dJ2_getChar_3b067_56 : decode cJ2_getChar_3b067 56 = .ok (.ishl, 1) := by decide +kernel
theorem dJ2_getChar_3b067_57 : decode cJ2_getChar_3b067 57 = .ok (.ior, 1) := by decide +kernel
theorem dJ2_getChar_3b067_58 : decode cJ2_getChar_3b067 58 = .ok (.i2c, 1) := by decide +kernel
theorem dJ2_getChar_3b067_59 : decode cJ2_getChar_3b067 59 = .ok (.ireturn, 1) := by decide +kernel
theorem dJ2_length_9d52b_0 : decode cJ2_length_9d52b 0 = .ok (.aload_n 0, 1) := by decide +kernel
theorem dJ2_length_9d52b_1 : decode cJ2_length_9d52b 1 = .ok (.arraylength, 1) := by decide +kernel
theorem dJ2_length_9d52b_2 : decode cJ2_length_9d52b 2 = .ok (.iconst 1, 1) := by decide +kernel
theorem dJ2_length_9d52b_3 : decode cJ2_length_9d52b 3 = .ok (.ishr, 1) := by decide +kernel
theorem dJ2_length_9d52b_4 : decode cJ2_length_9d52b 4 = .ok (.ireturn, 1) := by decide +kernel
theorem dJ2_charAt_3b067_0 : decode cJ2_charAt_3b067 0 = .ok (.iload_n 1, 1) := by decide +kernel
theorem dJ2_charAt_3b067_1 : decode cJ2_charAt_3b067 1 = .ok (.aload_n 0, 1) := by decide +kernel
theorem dJ2_charAt_3b067_2 : decode cJ2_charAt_3b067 2 = .ok (.invokestatic 67, 3) := by decide +kernel
theorem dJ2_charAt_3b067_5 : decode cJ2_charAt_3b067 5 = .ok (.aload_n 0, 1) := by decide +kernel
theorem dJ2_charAt_3b067_6 : decode cJ2_charAt_3b067 6 = .ok (.iload_n 1, 1) := by decide +kernel
theorem dJ2_charAt_3b067_7 : decode cJ2_charAt_3b067 7 = .ok (.invokestatic 71, 3) := by decide +kernel
theorem dJ2_charAt_3b067_10 : decode cJ2_charAt_3b067 10 = .ok (.ireturn, 1) := by decide +kernel
theorem dJ2_checkIndex_2214a_0 : decode cJ2_checkIndex_2214a 0 = .ok (.iload_n 0, 1) := by decide +kernel
theorem dJ2_checkIndex_2214a_1 : decode cJ2_checkIndex_2214a 1 = .ok (.aload_n 1, 1) := by decide +kernel
theorem dJ2_checkIndex_2214a_2 : decode cJ2_checkIndex_2214a 2 = .ok (.invokestatic 48, 3) := by decide +kernel
theorem dJ2_checkIndex_2214a_5 : decode cJ2_checkIndex_2214a 5 = .ok (.invokestatic 414, 3) := by decide +kernel
theorem dJ2_checkIndex_2214a_8 : decode cJ2_checkIndex_2214a 8 = .ok (.return_, 1) := by decide +kernel
theorem dJ7_fill_53178_0 : decode cJ7_fill_53178 0 = .ok (.iconst 0, 1) := by decide +kernel
theorem dJ7_fill_53178_1 : decode cJ7_fill_53178 1 = .ok (.istore_n 2, 1) := by decide +kernel
theorem dJ7_fill_53178_2 : decode cJ7_fill_53178 2 = .ok (.aload_n 0, 1) := by decide +kernel
theorem dJ7_fill_53178_3 : decode cJ7_fill_53178 3 = .ok (.arraylength, 1) := by decide +kernel
theorem dJ7_fill_53178_4 : decode cJ7_fill_53178 4 = .ok (.istore_n 3, 1) := by decide +kernel
theorem dJ7_fill_53178_5 : decode cJ7_fill_53178 5 = .ok (.iload_n 2, 1) := by decide +kernel
theorem dJ7_fill_53178_6 : decode cJ7_fill_53178 6 = .ok (.iload_n 3, 1) := by decide +kernel
theorem dJ7_fill_53178_7 : decode cJ7_fill_53178 7 = .ok (.if_icmp .ge 13, 3) := by decide +kernel
theorem dJ7_fill_53178_10 : decode cJ7_fill_53178 10 = .ok (.aload_n 0, 1) := by decide +kernel
theorem dJ7_fill_53178_11 : decode cJ7_fill_53178 11 = .ok (.iload_n 2, 1) := by decide +kernel
theorem dJ7_fill_53178_12 : decode cJ7_fill_53178 12 = .ok (.iload_n 1, 1) := by decide +kernel
theorem dJ7_fill_53178_13 : decode cJ7_fill_53178 13 = .ok (.iastore, 1) := by decide +kernel
theorem dJ7_fill_53178_14 : decode cJ7_fill_53178 14 = .ok (.iinc 2 1, 3) := by decide +kernel
theorem dJ7_fill_53178_17 : decode cJ7_fill_53178 17 = .ok (.goto (-12), 3) := by decide +kernel
theorem dJ7_fill_53178_20 : decode cJ7_fill_53178 20 = .ok (.return_, 1) := by decide +kernel
theorem dJ3_checkIndex_8e157_0 : decode cJ3_checkIndex_8e157 0 = .ok (.iload_n 0, 1) := by decide +kernel
theorem dJ3_checkIndex_8e157_1 : decode cJ3_checkIndex_8e157 1 = .ok (.ifCond .lt 8, 3) := by decide +kernel
theorem dJ3_checkIndex_8e157_4 : decode cJ3_checkIndex_8e157 4 = .ok (.iload_n 0, 1) := by decide +kernel
theorem dJ3_checkIndex_8e157_5 : decode cJ3_checkIndex_8e157 5 = .ok (.iload_n 1, 1) := by decide +kernel
theorem dJ3_checkIndex_8e157_6 : decode cJ3_checkIndex_8e157 6 = .ok (.if_icmp .lt 10, 3) := by decide +kernel
theorem dJ3_checkIndex_8e157_9 : decode cJ3_checkIndex_8e157 9 = .ok (.aload_n 2, 1) := by decide +kernel
theorem dJ3_checkIndex_8e157_10 : decode cJ3_checkIndex_8e157 10 = .ok (.iload_n 0, 1) := by decide +kernel
theorem dJ3_checkIndex_8e157_11 : decode cJ3_checkIndex_8e157 11 = .ok (.iload_n 1, 1) := by decide +kernel
theorem dJ3_checkIndex_8e157_12 : decode cJ3_checkIndex_8e157 12 = .ok (.invokestatic 95, 3) := by decide +kernel
theorem dJ3_checkIndex_8e157_15 : decode cJ3_checkIndex_8e157 15 = .ok (.athrow, 1) := by decide +kernel
theorem dJ3_checkIndex_8e157_16 : decode cJ3_checkIndex_8e157 16 = .ok (.iload_n 0, 1) := by decide +kernel
theorem dJ3_checkIndex_8e157_17 : decode cJ3_checkIndex_8e157 17 = .ok (.ireturn, 1) := by decide +kernel
theorem dL_setColumns_0 : decode cL_setColumns 0 = .ok (.aload_n 2, 1) := by decide +kernel
theorem dL_setColumns_1 : decode cL_setColumns 1 = .ok (.iconst 0, 1) := by decide +kernel
theorem dL_setColumns_2 : decode cL_setColumns 2 = .ok (.aload_n 0, 1) := by decide +kernel
theorem dL_setColumns_3 : decode cL_setColumns 3 = .ok (.iload_n 1, 1) := by decide +kernel
theorem dL_setColumns_4 : decode cL_setColumns 4 = .ok (.invokevirtual 7, 3) := by decide +kernel
theorem dL_setColumns_7 : decode cL_setColumns 7 = .ok (.i2l, 1) := by decide +kernel
theorem dL_setColumns_8 : decode cL_setColumns 8 = .ok (.lastore, 1) := by decide +kernel
theorem dL_setColumns_9 : decode cL_setColumns 9 = .ok (.goto 9, 3) := by decide +kernel
theorem dL_setColumns_12 : decode cL_setColumns 12 = .ok (.astore_n 3, 1) := by decide +kernel
theorem dL_setColumns_13 : decode cL_setColumns 13 = .ok (.iconst 1, 1) := by decide +kernel
theorem dL_setColumns_14 : decode cL_setColumns 14 = .ok (.ireturn, 1) := by decide +kernel
theorem dL_setColumns_15 : decode cL_setColumns 15 = .ok (.astore_n 3, 1) := by decide +kernel
theorem dL_setColumns_16 : decode cL_setColumns 16 = .ok (.iconst 2, 1) := by decide +kernel
theorem dL_setColumns_17 : decode cL_setColumns 17 = .ok (.ireturn, 1) := by decide +kernel
theorem dL_setColumns_18 : decode cL_setColumns 18 = .ok (.iconst 0, 1) := by decide +kernel
theorem dL_setColumns_19 : decode cL_setColumns 19 = .ok (.ireturn, 1) := by decide +kernel
theorem dL_setMeasure_0 : decode cL_setMeasure 0 = .ok (.aload_n 3, 1) := by decide +kernel
theorem dL_setMeasure_1 : decode cL_setMeasure 1 = .ok (.iconst 0, 1) := by decide +kernel
theorem dL_setMeasure_2 : decode cL_setMeasure 2 = .ok (.aload_n 0, 1) := by decide +kernel
theorem dL_setMeasure_3 : decode cL_setMeasure 3 = .ok (.iload_n 1, 1) := by decide +kernel
theorem dL_setMeasure_4 : decode cL_setMeasure 4 = .ok (.iload_n 2, 1) := by decide +kernel
theorem dL_setMeasure_5 : decode cL_setMeasure 5 = .ok (.invokevirtual 17, 3) := by decide +kernel
theorem dL_setMeasure_8 : decode cL_setMeasure 8 = .ok (.i2l, 1) := by decide +kernel
theorem dL_setMeasure_9 : decode cL_setMeasure 9 = .ok (.lastore, 1) := by decide +kernel
theorem dL_setMeasure_10 : decode cL_setMeasure 10 = .ok (.goto 11, 3) := by decide +kernel
theorem dL_setMeasure_13 : decode cL_setMeasure 13 = .ok (.astore 4, 2) := by decide +kernel
theorem dL_setMeasure_15 : decode cL_setMeasure 15 = .ok (.iconst 1, 1) := by decide +kernel
theorem dL_setMeasure_16 : decode cL_setMeasure 16 = .ok (.ireturn, 1) := by decide +kernel
theorem dL_setMeasure_17 : decode cL_setMeasure 17 = .ok (.astore 4, 2) := by decide +kernel
theorem dL_setMeasure_19 : decode cL_setMeasure 19 = .ok (.iconst 2, 1) := by decide +kernel
theorem dL_setMeasure_20 : decode cL_setMeasure 20 = .ok (.ireturn, 1) := by decide +kernel
theorem dL_setMeasure_21 : decode cL_setMeasure 21 = .ok (.iconst 0, 1) := by decide +kernel
theorem dL_setMeasure_22 : decode cL_setMeasure 22 = .ok (.ireturn, 1) := by decide +kernel
theorem dL_setColumn_0 : decode cL_setColumn 0 = .ok (.aload 4, 2) := by decide +kernel
theorem dL_setColumn_2 : decode cL_setColumn 2 = .ok (.iconst 0, 1) := by decide +kernel
theorem dL_setColumn_3 : decode cL_setColumn 3 = .ok (.aload_n 0, 1) := by decide +kernel
theorem dL_setColumn_4 : decode cL_setColumn 4 = .ok (.iload_n 1, 1) := by decide +kernel
theorem dL_setColumn_5 : decode cL_setColumn 5 = .ok (.iload_n 2, 1) := by decide +kernel
theorem dL_setColumn_6 : decode cL_setColumn 6 = .ok (.iload_n 3, 1) := by decide +kernel
theorem dL_setColumn_7 : decode cL_setColumn 7 = .ok (.invokevirtual 23, 3) := by decide +kernel
theorem dL_setColumn_10 : decode cL_setColumn 10 = .ok (.i2l, 1) := by decide +kernel
theorem dL_setColumn_11 : decode cL_setColumn 11 = .ok (.lastore, 1) := by decide +kernel
theorem dL_setColumn_12 : decode cL_setColumn 12 = .ok (.goto 11, 3) := by decide +kernel
theorem dL_setColumn_15 : decode cL_setColumn 15 = .ok (.astore 5, 2) := by decide +kernel
theorem dL_setColumn_17 : decode cL_setColumn 17 = .ok (.iconst 1, 1) := by decide +kernel
theorem dL_setColumn_18 : decode cL_setColumn 18 = .ok (.ireturn, 1) := by decide +kernel
theorem dL_setColumn_19 : decode cL_setColumn 19 = .ok (.astore 5, 2) := by decide +kernel
theorem dL_setColumn_21 : decode cL_setColumn 21 = .ok (.iconst 2, 1) := by decide +kernel
theorem dL_setColumn_22 : decode cL_setColumn 22 = .ok (.ireturn, 1) := by decide +kernel
theorem dL_setColumn_23 : decode cL_setColumn 23 = .ok (.iconst 0, 1) := by decide +kernel
theorem dL_setColumn_24 : decode cL_setColumn 24 = .ok (.ireturn, 1) := by decide +kernel
theorem dL_addRow_0 : decode cL_addRow 0 = .ok (.aload_n 1, 1) := by decide +kernel
theorem dL_addRow_1 : decode cL_addRow 1 = .ok (.iconst 0, 1) := by decide +kernel
theorem dL_addRow_2 : decode cL_addRow 2 = .ok (.aload_n 0, 1) := by decide +kernel
theorem dL_addRow_3 : decode cL_addRow 3 = .ok (.invokevirtual 27, 3) := by decide +kernel
theorem dL_addRow_6 : decode cL_addRow 6 = .ok (.i2l, 1) := by decide +kernel
theorem dL_addRow_7 : decode cL_addRow 7 = .ok (.lastore, 1) := by decide +kernel
theorem dL_addRow_8 : decode cL_addRow 8 = .ok (.goto 6, 3) := by decide +kernel
theorem dL_addRow_11 : decode cL_addRow 11 = .ok (.astore_n 2, 1) := by decide +kernel
theorem dL_addRow_12 : decode cL_addRow 12 = .ok (.iconst 1, 1) := by decide +kernel
theorem dL_addRow_13 : decode cL_addRow 13 = .ok (.ireturn, 1) := by decide +kernel
theorem dL_addRow_14 : decode cL_addRow 14 = .ok (.iconst 0, 1) := by decide +kernel
theorem dL_addRow_15 : decode cL_addRow 15 = .ok (.ireturn, 1) := by decide +kernel
theorem dL_addCell_0 : decode cL_addCell 0 = .ok (.aload 5, 2) := by decide +kernel
theorem dL_addCell_2 : decode cL_addCell 2 = .ok (.iconst 0, 1) := by decide +kernel
theorem dL_addCell_3 : decode cL_addCell 3 = .ok (.aload_n 0, 1) := by decide +kernel
theorem dL_addCell_4 : decode cL_addCell 4 = .ok (.iload_n 1, 1) := by decide +kernel
theorem dL_addCell_5 : decode cL_addCell 5 = .ok (.iload_n 2, 1) := by decide +kernel
theorem dL_addCell_6 : decode cL_addCell 6 = .ok (.iload_n 3, 1) := by decide +kernel
theorem dL_addCell_7 : decode cL_addCell 7 = .ok (.iload 4, 2) := by decide +kernel
theorem dL_addCell_9 : decode cL_addCell 9 = .ok (.invokevirtual 31, 3) := by decide +kernel
theorem dL_addCell_12 : decode cL_addCell 12 = .ok (.i2l, 1) := by decide +kernel
theorem dL_addCell_13 : decode cL_addCell 13 = .ok (.lastore, 1) := by decide +kernel
theorem dL_addCell_14 : decode cL_addCell 14 = .ok (.goto 15, 3) := by decide +kernel
theorem dL_addCell_17 : decode cL_addCell 17 = .ok (.astore 6, 2) := by decide +kernel
theorem dL_addCell_19 : decode cL_addCell 19 = .ok (.iconst 1, 1) := by decide +kernel
theorem dL_addCell_20 : decode cL_addCell 20 = .ok (.ireturn, 1) := by decide +kernel
theorem dL_addCell_21 : decode cL_addCell 21 = .ok (.astore 6, 2) := by decide +kernel
theorem dL_addCell_23 : decode cL_addCell 23 = .ok (.iconst 2, 1) := by decide +kernel
theorem dL_addCell_24 : decode cL_addCell 24 = .ok (.ireturn, 1) := by decide +kernel
theorem dL_addCell_25 : decode cL_addCell 25 = .ok (.astore 6, 2) := by decide +kernel
theorem dL_addCell_27 : decode cL_addCell 27 = .ok (.iconst 3, 1) := by decide +kernel
theorem dL_addCell_28 : decode cL_addCell 28 = .ok (.ireturn, 1) := by decide +kernel
theorem dL_addCell_29 : decode cL_addCell 29 = .ok (.iconst 0, 1) := by decide +kernel
theorem dL_addCell_30 : decode cL_addCell 30 = .ok (.ireturn, 1) := by decide +kernel
theorem dL_removeCell_0 : decode cL_removeCell 0 = .ok (.aload_n 2, 1) := by decide +kernel
theorem dL_removeCell_1 : decode cL_removeCell 1 = .ok (.iconst 0, 1) := by decide +kernel
theorem dL_removeCell_2 : decode cL_removeCell 2 = .ok (.aload_n 0, 1) := by decide +kernel
theorem dL_removeCell_3 : decode cL_removeCell 3 = .ok (.iload_n 1, 1) := by decide +kernel
theorem dL_removeCell_4 : decode cL_removeCell 4 = .ok (.invokevirtual 35, 3) := by decide +kernel
theorem dL_removeCell_7 : decode cL_removeCell 7 = .ok (.i2l, 1) := by decide +kernel
theorem dL_removeCell_8 : decode cL_removeCell 8 = .ok (.lastore, 1) := by decide +kernel
theorem dL_removeCell_9 : decode cL_removeCell 9 = .ok (.goto 6, 3) := by decide +kernel
theorem dL_removeCell_12 : decode cL_removeCell 12 = .ok (.astore_n 3, 1) := by decide +kernel
theorem dL_removeCell_13 : decode cL_removeCell 13 = .ok (.iconst 1, 1) := by decide +kernel
theorem dL_removeCell_14 : decode cL_removeCell 14 = .ok (.ireturn, 1) := by decide +kernel
theorem dL_removeCell_15 : decode cL_removeCell 15 = .ok (.iconst 0, 1) := by decide +kernel
theorem dL_removeCell_16 : decode cL_removeCell 16 = .ok (.ireturn, 1) := by decide +kernel
theorem dL_addWord_0 : decode cL_addWord 0 = .ok (.aload 4, 2) := by decide +kernel
theorem dL_addWord_2 : decode cL_addWord 2 = .ok (.iconst 0, 1) := by decide +kernel
theorem dL_addWord_3 : decode cL_addWord 3 = .ok (.aload_n 0, 1) := by decide +kernel
theorem dL_addWord_4 : decode cL_addWord 4 = .ok (.iload_n 1, 1) := by decide +kernel
theorem dL_addWord_5 : decode cL_addWord 5 = .ok (.iload_n 2, 1) := by decide +kernel
theorem dL_addWord_6 : decode cL_addWord 6 = .ok (.iload_n 3, 1) := by decide +kernel
theorem dL_addWord_7 : decode cL_addWord 7 = .ok (.invokevirtual 38, 3) := by decide +kernel
theorem dL_addWord_10 : decode cL_addWord 10 = .ok (.i2l, 1) := by decide +kernel
theorem dL_addWord_11 : decode cL_addWord 11 = .ok (.lastore, 1) := by decide +kernel
theorem dL_addWord_12 : decode cL_addWord 12 = .ok (.goto 19, 3) := by decide +kernel
theorem dL_addWord_15 : decode cL_addWord 15 = .ok (.astore 5, 2) := by decide +kernel
theorem dL_addWord_17 : decode cL_addWord 17 = .ok (.iconst 1, 1) := by decide +kernel
theorem dL_addWord_18 : decode cL_addWord 18 = .ok (.ireturn, 1) := by decide +kernel
theorem dL_addWord_19 : decode cL_addWord 19 = .ok (.astore 5, 2) := by decide +kernel
theorem dL_addWord_21 : decode cL_addWord 21 = .ok (.iconst 2, 1) := by decide +kernel
theorem dL_addWord_22 : decode cL_addWord 22 = .ok (.ireturn, 1) := by decide +kernel
theorem dL_addWord_23 : decode cL_addWord 23 = .ok (.astore 5, 2) := by decide +kernel
theorem dL_addWord_25 : decode cL_addWord 25 = .ok (.iconst 3, 1) := by decide +kernel
theorem dL_addWord_26 : decode cL_addWord 26 = .ok (.ireturn, 1) := by decide +kernel
theorem dL_addWord_27 : decode cL_addWord 27 = .ok (.astore 5, 2) := by decide +kernel
theorem dL_addWord_29 : decode cL_addWord 29 = .ok (.iconst 4, 1) := by decide +kernel
theorem dL_addWord_30 : decode cL_addWord 30 = .ok (.ireturn, 1) := by decide +kernel
theorem dL_addWord_31 : decode cL_addWord 31 = .ok (.iconst 0, 1) := by decide +kernel
theorem dL_addWord_32 : decode cL_addWord 32 = .ok (.ireturn, 1) := by decide +kernel
theorem dL_clearWords_0 : decode cL_clearWords 0 = .ok (.aload_n 2, 1) := by decide +kernel
theorem dL_clearWords_1 : decode cL_clearWords 1 = .ok (.iconst 0, 1) := by decide +kernel
theorem dL_clearWords_2 : decode cL_clearWords 2 = .ok (.aload_n 0, 1) := by decide +kernel
theorem dL_clearWords_3 : decode cL_clearWords 3 = .ok (.iload_n 1, 1) := by decide +kernel
theorem dL_clearWords_4 : decode cL_clearWords 4 = .ok (.invokevirtual 43, 3) := by decide +kernel
theorem dL_clearWords_7 : decode cL_clearWords 7 = .ok (.i2l, 1) := by decide +kernel
theorem dL_clearWords_8 : decode cL_clearWords 8 = .ok (.lastore, 1) := by decide +kernel
theorem dL_clearWords_9 : decode cL_clearWords 9 = .ok (.goto 9, 3) := by decide +kernel
theorem dL_clearWords_12 : decode cL_clearWords 12 = .ok (.astore_n 3, 1) := by decide +kernel
theorem dL_clearWords_13 : decode cL_clearWords 13 = .ok (.iconst 1, 1) := by decide +kernel
theorem dL_clearWords_14 : decode cL_clearWords 14 = .ok (.ireturn, 1) := by decide +kernel
theorem dL_clearWords_15 : decode cL_clearWords 15 = .ok (.astore_n 3, 1) := by decide +kernel
theorem dL_clearWords_16 : decode cL_clearWords 16 = .ok (.iconst 2, 1) := by decide +kernel
theorem dL_clearWords_17 : decode cL_clearWords 17 = .ok (.ireturn, 1) := by decide +kernel
theorem dL_clearWords_18 : decode cL_clearWords 18 = .ok (.iconst 0, 1) := by decide +kernel
theorem dL_clearWords_19 : decode cL_clearWords 19 = .ok (.ireturn, 1) := by decide +kernel
theorem dL_setSize_0 : decode cL_setSize 0 = .ok (.aload 4, 2) := by decide +kernel
theorem dL_setSize_2 : decode cL_setSize 2 = .ok (.iconst 0, 1) := by decide +kernel
theorem dL_setSize_3 : decode cL_setSize 3 = .ok (.aload_n 0, 1) := by decide +kernel
theorem dL_setSize_4 : decode cL_setSize 4 = .ok (.iload_n 1, 1) := by decide +kernel
theorem dL_setSize_5 : decode cL_setSize 5 = .ok (.iload_n 2, 1) := by decide +kernel
theorem dL_setSize_6 : decode cL_setSize 6 = .ok (.iload_n 3, 1) := by decide +kernel
theorem dL_setSize_7 : decode cL_setSize 7 = .ok (.invokevirtual 46, 3) := by decide +kernel
theorem dL_setSize_10 : decode cL_setSize 10 = .ok (.i2l, 1) := by decide +kernel
theorem dL_setSize_11 : decode cL_setSize 11 = .ok (.lastore, 1) := by decide +kernel
theorem dL_setSize_12 : decode cL_setSize 12 = .ok (.goto 15, 3) := by decide +kernel
theorem dL_setSize_15 : decode cL_setSize 15 = .ok (.astore 5, 2) := by decide +kernel
theorem dL_setSize_17 : decode cL_setSize 17 = .ok (.iconst 1, 1) := by decide +kernel
theorem dL_setSize_18 : decode cL_setSize 18 = .ok (.ireturn, 1) := by decide +kernel
theorem dL_setSize_19 : decode cL_setSize 19 = .ok (.astore 5, 2) := by decide +kernel
theorem dL_setSize_21 : decode cL_setSize 21 = .ok (.iconst 2, 1) := by decide +kernel
theorem dL_setSize_22 : decode cL_setSize 22 = .ok (.ireturn, 1) := by decide +kernel
theorem dL_setSize_23 : decode cL_setSize 23 = .ok (.astore 5, 2) := by decide +kernel
theorem dL_setSize_25 : decode cL_setSize 25 = .ok (.iconst 3, 1) := by decide +kernel
theorem dL_setSize_26 : decode cL_setSize 26 = .ok (.ireturn, 1) := by decide +kernel
theorem dL_setSize_27 : decode cL_setSize 27 = .ok (.iconst 0, 1) := by decide +kernel
theorem dL_setSize_28 : decode cL_setSize 28 = .ok (.ireturn, 1) := by decide +kernel
theorem dL_setKind_0 : decode cL_setKind 0 = .ok (.aload_n 3, 1) := by decide +kernel
theorem dL_setKind_1 : decode cL_setKind 1 = .ok (.iconst 0, 1) := by decide +kernel
theorem dL_setKind_2 : decode cL_setKind 2 = .ok (.aload_n 0, 1) := by decide +kernel
theorem dL_setKind_3 : decode cL_setKind 3 = .ok (.iload_n 1, 1) := by decide +kernel
theorem dL_setKind_4 : decode cL_setKind 4 = .ok (.iload_n 2, 1) := by decide +kernel
theorem dL_setKind_5 : decode cL_setKind 5 = .ok (.invokevirtual 49, 3) := by decide +kernel
theorem dL_setKind_8 : decode cL_setKind 8 = .ok (.i2l, 1) := by decide +kernel
theorem dL_setKind_9 : decode cL_setKind 9 = .ok (.lastore, 1) := by decide +kernel
theorem dL_setKind_10 : decode cL_setKind 10 = .ok (.goto 15, 3) := by decide +kernel
theorem dL_setKind_13 : decode cL_setKind 13 = .ok (.astore 4, 2) := by decide +kernel
theorem dL_setKind_15 : decode cL_setKind 15 = .ok (.iconst 1, 1) := by decide +kernel
theorem dL_setKind_16 : decode cL_setKind 16 = .ok (.ireturn, 1) := by decide +kernel
theorem dL_setKind_17 : decode cL_setKind 17 = .ok (.astore 4, 2) := by decide +kernel
theorem dL_setKind_19 : decode cL_setKind 19 = .ok (.iconst 2, 1) := by decide +kernel
theorem dL_setKind_20 : decode cL_setKind 20 = .ok (.ireturn, 1) := by decide +kernel
theorem dL_setKind_21 : decode cL_setKind 21 = .ok (.astore 4, 2) := by decide +kernel
theorem dL_setKind_23 : decode cL_setKind 23 = .ok (.iconst 3, 1) := by decide +kernel
theorem dL_setKind_24 : decode cL_setKind 24 = .ok (.ireturn, 1) := by decide +kernel
theorem dL_setKind_25 : decode cL_setKind 25 = .ok (.iconst 0, 1) := by decide +kernel
theorem dL_setKind_26 : decode cL_setKind 26 = .ok (.ireturn, 1) := by decide +kernel
theorem dL_append_0 : decode cL_append 0 = .ok (.aload_n 2, 1) := by decide +kernel
theorem dL_append_1 : decode cL_append 1 = .ok (.iconst 0, 1) := by decide +kernel
theorem dL_append_2 : decode cL_append 2 = .ok (.aload_n 0, 1) := by decide +kernel
theorem dL_append_3 : decode cL_append 3 = .ok (.iload_n 1, 1) := by decide +kernel
theorem dL_append_4 : decode cL_append 4 = .ok (.invokevirtual 52, 3) := by decide +kernel
theorem dL_append_7 : decode cL_append 7 = .ok (.i2l, 1) := by decide +kernel
theorem dL_append_8 : decode cL_append 8 = .ok (.lastore, 1) := by decide +kernel
theorem dL_append_9 : decode cL_append 9 = .ok (.goto 9, 3) := by decide +kernel
theorem dL_append_12 : decode cL_append 12 = .ok (.astore_n 3, 1) := by decide +kernel
theorem dL_append_13 : decode cL_append 13 = .ok (.iconst 1, 1) := by decide +kernel
theorem dL_append_14 : decode cL_append 14 = .ok (.ireturn, 1) := by decide +kernel
theorem dL_append_15 : decode cL_append 15 = .ok (.astore_n 3, 1) := by decide +kernel
theorem dL_append_16 : decode cL_append 16 = .ok (.iconst 2, 1) := by decide +kernel
theorem dL_append_17 : decode cL_append 17 = .ok (.ireturn, 1) := by decide +kernel
theorem dL_append_18 : decode cL_append 18 = .ok (.iconst 0, 1) := by decide +kernel
theorem dL_append_19 : decode cL_append 19 = .ok (.ireturn, 1) := by decide +kernel
theorem dL_execute_0 : decode cL_execute 0 = .ok (.aload_n 1, 1) := by decide +kernel
theorem dL_execute_1 : decode cL_execute 1 = .ok (.iconst 0, 1) := by decide +kernel
theorem dL_execute_2 : decode cL_execute 2 = .ok (.aload_n 0, 1) := by decide +kernel
theorem dL_execute_3 : decode cL_execute 3 = .ok (.invokevirtual 55, 3) := by decide +kernel
theorem dL_execute_6 : decode cL_execute 6 = .ok (.i2l, 1) := by decide +kernel
theorem dL_execute_7 : decode cL_execute 7 = .ok (.lastore, 1) := by decide +kernel
theorem dL_execute_8 : decode cL_execute 8 = .ok (.goto 9, 3) := by decide +kernel
theorem dL_execute_11 : decode cL_execute 11 = .ok (.astore_n 2, 1) := by decide +kernel
theorem dL_execute_12 : decode cL_execute 12 = .ok (.iconst 1, 1) := by decide +kernel
theorem dL_execute_13 : decode cL_execute 13 = .ok (.ireturn, 1) := by decide +kernel
theorem dL_execute_14 : decode cL_execute 14 = .ok (.astore_n 2, 1) := by decide +kernel
theorem dL_execute_15 : decode cL_execute 15 = .ok (.iconst 2, 1) := by decide +kernel
theorem dL_execute_16 : decode cL_execute 16 = .ok (.ireturn, 1) := by decide +kernel
theorem dL_execute_17 : decode cL_execute 17 = .ok (.iconst 0, 1) := by decide +kernel
theorem dL_execute_18 : decode cL_execute 18 = .ok (.ireturn, 1) := by decide +kernel
theorem dL_count_0 : decode cL_count 0 = .ok (.aload_n 2, 1) := by decide +kernel
theorem dL_count_1 : decode cL_count 1 = .ok (.iconst 0, 1) := by decide +kernel
theorem dL_count_2 : decode cL_count 2 = .ok (.aload_n 0, 1) := by decide +kernel
theorem dL_count_3 : decode cL_count 3 = .ok (.iload_n 1, 1) := by decide +kernel
theorem dL_count_4 : decode cL_count 4 = .ok (.invokevirtual 58, 3) := by decide +kernel
theorem dL_count_7 : decode cL_count 7 = .ok (.i2l, 1) := by decide +kernel
theorem dL_count_8 : decode cL_count 8 = .ok (.lastore, 1) := by decide +kernel
theorem dL_count_9 : decode cL_count 9 = .ok (.goto 6, 3) := by decide +kernel
theorem dL_count_12 : decode cL_count 12 = .ok (.astore_n 3, 1) := by decide +kernel
theorem dL_count_13 : decode cL_count 13 = .ok (.iconst 1, 1) := by decide +kernel
theorem dL_count_14 : decode cL_count 14 = .ok (.ireturn, 1) := by decide +kernel
theorem dL_count_15 : decode cL_count 15 = .ok (.iconst 0, 1) := by decide +kernel
theorem dL_count_16 : decode cL_count 16 = .ok (.ireturn, 1) := by decide +kernel
theorem dL_property_0 : decode cL_property 0 = .ok (.aload_n 3, 1) := by decide +kernel
theorem dL_property_1 : decode cL_property 1 = .ok (.iconst 0, 1) := by decide +kernel
theorem dL_property_2 : decode cL_property 2 = .ok (.aload_n 0, 1) := by decide +kernel
theorem dL_property_3 : decode cL_property 3 = .ok (.iload_n 1, 1) := by decide +kernel
theorem dL_property_4 : decode cL_property 4 = .ok (.iload_n 2, 1) := by decide +kernel
theorem dL_property_5 : decode cL_property 5 = .ok (.invokevirtual 61, 3) := by decide +kernel
theorem dL_property_8 : decode cL_property 8 = .ok (.i2l, 1) := by decide +kernel
theorem dL_property_9 : decode cL_property 9 = .ok (.lastore, 1) := by decide +kernel
theorem dL_property_10 : decode cL_property 10 = .ok (.goto 11, 3) := by decide +kernel
theorem dL_property_13 : decode cL_property 13 = .ok (.astore 4, 2) := by decide +kernel
theorem dL_property_15 : decode cL_property 15 = .ok (.iconst 1, 1) := by decide +kernel
theorem dL_property_16 : decode cL_property 16 = .ok (.ireturn, 1) := by decide +kernel
theorem dL_property_17 : decode cL_property 17 = .ok (.astore 4, 2) := by decide +kernel
theorem dL_property_19 : decode cL_property 19 = .ok (.iconst 2, 1) := by decide +kernel
theorem dL_property_20 : decode cL_property 20 = .ok (.ireturn, 1) := by decide +kernel
theorem dL_property_21 : decode cL_property 21 = .ok (.iconst 0, 1) := by decide +kernel
theorem dL_property_22 : decode cL_property 22 = .ok (.ireturn, 1) := by decide +kernel
theorem dL_cellAt_0 : decode cL_cellAt 0 = .ok (.aload_n 3, 1) := by decide +kernel
theorem dL_cellAt_1 : decode cL_cellAt 1 = .ok (.iconst 0, 1) := by decide +kernel
theorem dL_cellAt_2 : decode cL_cellAt 2 = .ok (.aload_n 0, 1) := by decide +kernel
theorem dL_cellAt_3 : decode cL_cellAt 3 = .ok (.iload_n 1, 1) := by decide +kernel
theorem dL_cellAt_4 : decode cL_cellAt 4 = .ok (.iload_n 2, 1) := by decide +kernel
theorem dL_cellAt_5 : decode cL_cellAt 5 = .ok (.invokevirtual 64, 3) := by decide +kernel
theorem dL_cellAt_8 : decode cL_cellAt 8 = .ok (.i2l, 1) := by decide +kernel
theorem dL_cellAt_9 : decode cL_cellAt 9 = .ok (.lastore, 1) := by decide +kernel
theorem dL_cellAt_10 : decode cL_cellAt 10 = .ok (.goto 7, 3) := by decide +kernel
theorem dL_cellAt_13 : decode cL_cellAt 13 = .ok (.astore 4, 2) := by decide +kernel
theorem dL_cellAt_15 : decode cL_cellAt 15 = .ok (.iconst 1, 1) := by decide +kernel
theorem dL_cellAt_16 : decode cL_cellAt 16 = .ok (.ireturn, 1) := by decide +kernel
theorem dL_cellAt_17 : decode cL_cellAt 17 = .ok (.iconst 0, 1) := by decide +kernel
theorem dL_cellAt_18 : decode cL_cellAt 18 = .ok (.ireturn, 1) := by decide +kernel
theorem dL_lineCount_0 : decode cL_lineCount 0 = .ok (.aload_n 3, 1) := by decide +kernel
theorem dL_lineCount_1 : decode cL_lineCount 1 = .ok (.iconst 0, 1) := by decide +kernel
theorem dL_lineCount_2 : decode cL_lineCount 2 = .ok (.aload_n 0, 1) := by decide +kernel
theorem dL_lineCount_3 : decode cL_lineCount 3 = .ok (.iload_n 1, 1) := by decide +kernel
theorem dL_lineCount_4 : decode cL_lineCount 4 = .ok (.iload_n 2, 1) := by decide +kernel
theorem dL_lineCount_5 : decode cL_lineCount 5 = .ok (.invokevirtual 67, 3) := by decide +kernel
theorem dL_lineCount_8 : decode cL_lineCount 8 = .ok (.i2l, 1) := by decide +kernel
theorem dL_lineCount_9 : decode cL_lineCount 9 = .ok (.lastore, 1) := by decide +kernel
theorem dL_lineCount_10 : decode cL_lineCount 10 = .ok (.goto 15, 3) := by decide +kernel
theorem dL_lineCount_13 : decode cL_lineCount 13 = .ok (.astore 4, 2) := by decide +kernel
theorem dL_lineCount_15 : decode cL_lineCount 15 = .ok (.iconst 1, 1) := by decide +kernel
theorem dL_lineCount_16 : decode cL_lineCount 16 = .ok (.ireturn, 1) := by decide +kernel
theorem dL_lineCount_17 : decode cL_lineCount 17 = .ok (.astore 4, 2) := by decide +kernel
theorem dL_lineCount_19 : decode cL_lineCount 19 = .ok (.iconst 2, 1) := by decide +kernel
theorem dL_lineCount_20 : decode cL_lineCount 20 = .ok (.ireturn, 1) := by decide +kernel
theorem dL_lineCount_21 : decode cL_lineCount 21 = .ok (.astore 4, 2) := by decide +kernel
theorem dL_lineCount_23 : decode cL_lineCount 23 = .ok (.iconst 3, 1) := by decide +kernel
theorem dL_lineCount_24 : decode cL_lineCount 24 = .ok (.ireturn, 1) := by decide +kernel
theorem dL_lineCount_25 : decode cL_lineCount 25 = .ok (.iconst 0, 1) := by decide +kernel
theorem dL_lineCount_26 : decode cL_lineCount 26 = .ok (.ireturn, 1) := by decide +kernel
theorem dL_lineLength_0 : decode cL_lineLength 0 = .ok (.aload 4, 2) := by decide +kernel
theorem dL_lineLength_2 : decode cL_lineLength 2 = .ok (.iconst 0, 1) := by decide +kernel
theorem dL_lineLength_3 : decode cL_lineLength 3 = .ok (.aload_n 0, 1) := by decide +kernel
theorem dL_lineLength_4 : decode cL_lineLength 4 = .ok (.iload_n 1, 1) := by decide +kernel
theorem dL_lineLength_5 : decode cL_lineLength 5 = .ok (.iload_n 2, 1) := by decide +kernel
theorem dL_lineLength_6 : decode cL_lineLength 6 = .ok (.iload_n 3, 1) := by decide +kernel
theorem dL_lineLength_7 : decode cL_lineLength 7 = .ok (.invokevirtual 70, 3) := by decide +kernel
theorem dL_lineLength_10 : decode cL_lineLength 10 = .ok (.i2l, 1) := by decide +kernel
theorem dL_lineLength_11 : decode cL_lineLength 11 = .ok (.lastore, 1) := by decide +kernel
theorem dL_lineLength_12 : decode cL_lineLength 12 = .ok (.goto 19, 3) := by decide +kernel
theorem dL_lineLength_15 : decode cL_lineLength 15 = .ok (.astore 5, 2) := by decide +kernel
theorem dL_lineLength_17 : decode cL_lineLength 17 = .ok (.iconst 1, 1) := by decide +kernel
theorem dL_lineLength_18 : decode cL_lineLength 18 = .ok (.ireturn, 1) := by decide +kernel
theorem dL_lineLength_19 : decode cL_lineLength 19 = .ok (.astore 5, 2) := by decide +kernel
theorem dL_lineLength_21 : decode cL_lineLength 21 = .ok (.iconst 2, 1) := by decide +kernel
theorem dL_lineLength_22 : decode cL_lineLength 22 = .ok (.ireturn, 1) := by decide +kernel
theorem dL_lineLength_23 : decode cL_lineLength 23 = .ok (.astore 5, 2) := by decide +kernel
theorem dL_lineLength_25 : decode cL_lineLength 25 = .ok (.iconst 3, 1) := by decide +kernel
theorem dL_lineLength_26 : decode cL_lineLength 26 = .ok (.ireturn, 1) := by decide +kernel
theorem dL_lineLength_27 : decode cL_lineLength 27 = .ok (.astore 5, 2) := by decide +kernel
theorem dL_lineLength_29 : decode cL_lineLength 29 = .ok (.iconst 4, 1) := by decide +kernel
theorem dL_lineLength_30 : decode cL_lineLength 30 = .ok (.ireturn, 1) := by decide +kernel
theorem dL_lineLength_31 : decode cL_lineLength 31 = .ok (.iconst 0, 1) := by decide +kernel
theorem dL_lineLength_32 : decode cL_lineLength 32 = .ok (.ireturn, 1) := by decide +kernel
theorem dL_cellHeight_0 : decode cL_cellHeight 0 = .ok (.aload_n 3, 1) := by decide +kernel
theorem dL_cellHeight_1 : decode cL_cellHeight 1 = .ok (.iconst 0, 1) := by decide +kernel
theorem dL_cellHeight_2 : decode cL_cellHeight 2 = .ok (.aload_n 0, 1) := by decide +kernel
theorem dL_cellHeight_3 : decode cL_cellHeight 3 = .ok (.iload_n 1, 1) := by decide +kernel
theorem dL_cellHeight_4 : decode cL_cellHeight 4 = .ok (.iload_n 2, 1) := by decide +kernel
theorem dL_cellHeight_5 : decode cL_cellHeight 5 = .ok (.invokevirtual 75, 3) := by decide +kernel
theorem dL_cellHeight_8 : decode cL_cellHeight 8 = .ok (.i2l, 1) := by decide +kernel
theorem dL_cellHeight_9 : decode cL_cellHeight 9 = .ok (.lastore, 1) := by decide +kernel
theorem dL_cellHeight_10 : decode cL_cellHeight 10 = .ok (.goto 11, 3) := by decide +kernel
theorem dL_cellHeight_13 : decode cL_cellHeight 13 = .ok (.astore 4, 2) := by decide +kernel
theorem dL_cellHeight_15 : decode cL_cellHeight 15 = .ok (.iconst 1, 1) := by decide +kernel
theorem dL_cellHeight_16 : decode cL_cellHeight 16 = .ok (.ireturn, 1) := by decide +kernel
theorem dL_cellHeight_17 : decode cL_cellHeight 17 = .ok (.astore 4, 2) := by decide +kernel
theorem dL_cellHeight_19 : decode cL_cellHeight 19 = .ok (.iconst 2, 1) := by decide +kernel
theorem dL_cellHeight_20 : decode cL_cellHeight 20 = .ok (.ireturn, 1) := by decide +kernel
theorem dL_cellHeight_21 : decode cL_cellHeight 21 = .ok (.iconst 0, 1) := by decide +kernel
theorem dL_cellHeight_22 : decode cL_cellHeight 22 = .ok (.ireturn, 1) := by decide +kernel
theorem dL_nextStep_0 : decode cL_nextStep 0 = .ok (.aload_n 3, 1) := by decide +kernel
theorem dL_nextStep_1 : decode cL_nextStep 1 = .ok (.iconst 0, 1) := by decide +kernel
theorem dL_nextStep_2 : decode cL_nextStep 2 = .ok (.aload_n 0, 1) := by decide +kernel
theorem dL_nextStep_3 : decode cL_nextStep 3 = .ok (.iload_n 1, 1) := by decide +kernel
theorem dL_nextStep_4 : decode cL_nextStep 4 = .ok (.iload_n 2, 1) := by decide +kernel
theorem dL_nextStep_5 : decode cL_nextStep 5 = .ok (.invokevirtual 78, 3) := by decide +kernel
theorem dL_nextStep_8 : decode cL_nextStep 8 = .ok (.i2l, 1) := by decide +kernel
theorem dL_nextStep_9 : decode cL_nextStep 9 = .ok (.lastore, 1) := by decide +kernel
theorem dL_nextStep_10 : decode cL_nextStep 10 = .ok (.goto 15, 3) := by decide +kernel
theorem dL_nextStep_13 : decode cL_nextStep 13 = .ok (.astore 4, 2) := by decide +kernel
theorem dL_nextStep_15 : decode cL_nextStep 15 = .ok (.iconst 1, 1) := by decide +kernel
theorem dL_nextStep_16 : decode cL_nextStep 16 = .ok (.ireturn, 1) := by decide +kernel
theorem dL_nextStep_17 : decode cL_nextStep 17 = .ok (.astore 4, 2) := by decide +kernel
theorem dL_nextStep_19 : decode cL_nextStep 19 = .ok (.iconst 2, 1) := by decide +kernel
theorem dL_nextStep_20 : decode cL_nextStep 20 = .ok (.ireturn, 1) := by decide +kernel
theorem dL_nextStep_21 : decode cL_nextStep 21 = .ok (.astore 4, 2) := by decide +kernel
theorem dL_nextStep_23 : decode cL_nextStep 23 = .ok (.iconst 3, 1) := by decide +kernel
theorem dL_nextStep_24 : decode cL_nextStep 24 = .ok (.ireturn, 1) := by decide +kernel
theorem dL_nextStep_25 : decode cL_nextStep 25 = .ok (.iconst 0, 1) := by decide +kernel
theorem dL_nextStep_26 : decode cL_nextStep 26 = .ok (.ireturn, 1) := by decide +kernel
theorem dL_columnWidth_0 : decode cL_columnWidth 0 = .ok (.aload_n 3, 1) := by decide +kernel
theorem dL_columnWidth_1 : decode cL_columnWidth 1 = .ok (.iconst 0, 1) := by decide +kernel
theorem dL_columnWidth_2 : decode cL_columnWidth 2 = .ok (.aload_n 0, 1) := by decide +kernel
theorem dL_columnWidth_3 : decode cL_columnWidth 3 = .ok (.iload_n 1, 1) := by decide +kernel
theorem dL_columnWidth_4 : decode cL_columnWidth 4 = .ok (.iload_n 2, 1) := by decide +kernel
theorem dL_columnWidth_5 : decode cL_columnWidth 5 = .ok (.invokevirtual 81, 3) := by decide +kernel
theorem dL_columnWidth_8 : decode cL_columnWidth 8 = .ok (.i2l, 1) := by decide +kernel
theorem dL_columnWidth_9 : decode cL_columnWidth 9 = .ok (.lastore, 1) := by decide +kernel
theorem dL_columnWidth_10 : decode cL_columnWidth 10 = .ok (.goto 11, 3) := by decide +kernel
theorem dL_columnWidth_13 : decode cL_columnWidth 13 = .ok (.astore 4, 2) := by decide +kernel
theorem dL_columnWidth_15 : decode cL_columnWidth 15 = .ok (.iconst 1, 1) := by decide +kernel
theorem dL_columnWidth_16 : decode cL_columnWidth 16 = .ok (.ireturn, 1) := by decide +kernel
theorem dL_columnWidth_17 : decode cL_columnWidth 17 = .ok (.astore 4, 2) := by decide +kernel
theorem dL_columnWidth_19 : decode cL_columnWidth 19 = .ok (.iconst 2, 1) := by decide +kernel
theorem dL_columnWidth_20 : decode cL_columnWidth 20 = .ok (.ireturn, 1) := by decide +kernel
theorem dL_columnWidth_21 : decode cL_columnWidth 21 = .ok (.iconst 0, 1) := by decide +kernel
theorem dL_columnWidth_22 : decode cL_columnWidth 22 = .ok (.ireturn, 1) := by decide +kernel
theorem dL_guess_0 : decode cL_guess 0 = .ok (.aload_n 3, 1) := by decide +kernel
theorem dL_guess_1 : decode cL_guess 1 = .ok (.iconst 0, 1) := by decide +kernel
theorem dL_guess_2 : decode cL_guess 2 = .ok (.aload_n 0, 1) := by decide +kernel
theorem dL_guess_3 : decode cL_guess 3 = .ok (.iload_n 1, 1) := by decide +kernel
theorem dL_guess_4 : decode cL_guess 4 = .ok (.iload_n 2, 1) := by decide +kernel
theorem dL_guess_5 : decode cL_guess 5 = .ok (.invokevirtual 84, 3) := by decide +kernel
theorem dL_guess_8 : decode cL_guess 8 = .ok (.i2l, 1) := by decide +kernel
theorem dL_guess_9 : decode cL_guess 9 = .ok (.lastore, 1) := by decide +kernel
theorem dL_guess_10 : decode cL_guess 10 = .ok (.goto 11, 3) := by decide +kernel
theorem dL_guess_13 : decode cL_guess 13 = .ok (.astore 4, 2) := by decide +kernel
theorem dL_guess_15 : decode cL_guess 15 = .ok (.iconst 1, 1) := by decide +kernel
theorem dL_guess_16 : decode cL_guess 16 = .ok (.ireturn, 1) := by decide +kernel
theorem dL_guess_17 : decode cL_guess 17 = .ok (.astore 4, 2) := by decide +kernel
theorem dL_guess_19 : decode cL_guess 19 = .ok (.iconst 2, 1) := by decide +kernel
theorem dL_guess_20 : decode cL_guess 20 = .ok (.ireturn, 1) := by decide +kernel
theorem dL_guess_21 : decode cL_guess 21 = .ok (.iconst 0, 1) := by decide +kernel
theorem dL_guess_22 : decode cL_guess 22 = .ok (.ireturn, 1) := by decide +kernel
theorem dL_autoWidth_0 : decode cL_autoWidth 0 = .ok (.aload_n 2, 1) := by decide +kernel
theorem dL_autoWidth_1 : decode cL_autoWidth 1 = .ok (.iconst 0, 1) := by decide +kernel
theorem dL_autoWidth_2 : decode cL_autoWidth 2 = .ok (.aload_n 0, 1) := by decide +kernel
theorem dL_autoWidth_3 : decode cL_autoWidth 3 = .ok (.iload_n 1, 1) := by decide +kernel
theorem dL_autoWidth_4 : decode cL_autoWidth 4 = .ok (.invokevirtual 87, 3) := by decide +kernel
theorem dL_autoWidth_7 : decode cL_autoWidth 7 = .ok (.i2l, 1) := by decide +kernel
theorem dL_autoWidth_8 : decode cL_autoWidth 8 = .ok (.lastore, 1) := by decide +kernel
theorem dL_autoWidth_9 : decode cL_autoWidth 9 = .ok (.goto 9, 3) := by decide +kernel
theorem dL_autoWidth_12 : decode cL_autoWidth 12 = .ok (.astore_n 3, 1) := by decide +kernel
theorem dL_autoWidth_13 : decode cL_autoWidth 13 = .ok (.iconst 1, 1) := by decide +kernel
theorem dL_autoWidth_14 : decode cL_autoWidth 14 = .ok (.ireturn, 1) := by decide +kernel
theorem dL_autoWidth_15 : decode cL_autoWidth 15 = .ok (.astore_n 3, 1) := by decide +kernel
theorem dL_autoWidth_16 : decode cL_autoWidth 16 = .ok (.iconst 2, 1) := by decide +kernel
theorem dL_autoWidth_17 : decode cL_autoWidth 17 = .ok (.ireturn, 1) := by decide +kernel
theorem dL_autoWidth_18 : decode cL_autoWidth 18 = .ok (.iconst 0, 1) := by decide +kernel
theorem dL_autoWidth_19 : decode cL_autoWidth 19 = .ok (.ireturn, 1) := by decide +kernel
theorem dL_autoHeight_0 : decode cL_autoHeight 0 = .ok (.aload_n 1, 1) := by decide +kernel
theorem dL_autoHeight_1 : decode cL_autoHeight 1 = .ok (.iconst 0, 1) := by decide +kernel
theorem dL_autoHeight_2 : decode cL_autoHeight 2 = .ok (.aload_n 0, 1) := by decide +kernel
theorem dL_autoHeight_3 : decode cL_autoHeight 3 = .ok (.invokevirtual 90, 3) := by decide +kernel
theorem dL_autoHeight_6 : decode cL_autoHeight 6 = .ok (.i2l, 1) := by decide +kernel
theorem dL_autoHeight_7 : decode cL_autoHeight 7 = .ok (.lastore, 1) := by decide +kernel
theorem dL_autoHeight_8 : decode cL_autoHeight 8 = .ok (.goto 6, 3) := by decide +kernel
theorem dL_autoHeight_11 : decode cL_autoHeight 11 = .ok (.astore_n 2, 1) := by decide +kernel
theorem dL_autoHeight_12 : decode cL_autoHeight 12 = .ok (.iconst 1, 1) := by decide +kernel
theorem dL_autoHeight_13 : decode cL_autoHeight 13 = .ok (.ireturn, 1) := by decide +kernel
theorem dL_autoHeight_14 : decode cL_autoHeight 14 = .ok (.iconst 0, 1) := by decide +kernel
theorem dL_autoHeight_15 : decode cL_autoHeight 15 = .ok (.ireturn, 1) := by decide +kernel
theorem dL_bestWidth_0 : decode cL_bestWidth 0 = .ok (.aload_n 2, 1) := by decide +kernel
theorem dL_bestWidth_1 : decode cL_bestWidth 1 = .ok (.iconst 0, 1) := by decide +kernel
theorem dL_bestWidth_2 : decode cL_bestWidth 2 = .ok (.aload_n 0, 1) := by decide +kernel
theorem dL_bestWidth_3 : decode cL_bestWidth 3 = .ok (.iload_n 1, 1) := by decide +kernel
theorem dL_bestWidth_4 : decode cL_bestWidth 4 = .ok (.invokevirtual 93, 3) := by decide +kernel
theorem dL_bestWidth_7 : decode cL_bestWidth 7 = .ok (.i2l, 1) := by decide +kernel
theorem dL_bestWidth_8 : decode cL_bestWidth 8 = .ok (.lastore, 1) := by decide +kernel
theorem dL_bestWidth_9 : decode cL_bestWidth 9 = .ok (.goto 9, 3) := by decide +kernel
theorem dL_bestWidth_12 : decode cL_bestWidth 12 = .ok (.astore_n 3, 1) := by decide +kernel
theorem dL_bestWidth_13 : decode cL_bestWidth 13 = .ok (.iconst 1, 1) := by decide +kernel
theorem dL_bestWidth_14 : decode cL_bestWidth 14 = .ok (.ireturn, 1) := by decide +kernel
theorem dL_bestWidth_15 : decode cL_bestWidth 15 = .ok (.astore_n 3, 1) := by decide +kernel
theorem dL_bestWidth_16 : decode cL_bestWidth 16 = .ok (.iconst 2, 1) := by decide +kernel
theorem dL_bestWidth_17 : decode cL_bestWidth 17 = .ok (.ireturn, 1) := by decide +kernel
theorem dL_bestWidth_18 : decode cL_bestWidth 18 = .ok (.iconst 0, 1) := by decide +kernel
theorem dL_bestWidth_19 : decode cL_bestWidth 19 = .ok (.ireturn, 1) := by decide +kernel
theorem dL_bestHeight_0 : decode cL_bestHeight 0 = .ok (.aload_n 1, 1) := by decide +kernel
theorem dL_bestHeight_1 : decode cL_bestHeight 1 = .ok (.iconst 0, 1) := by decide +kernel
theorem dL_bestHeight_2 : decode cL_bestHeight 2 = .ok (.aload_n 0, 1) := by decide +kernel
theorem dL_bestHeight_3 : decode cL_bestHeight 3 = .ok (.invokevirtual 96, 3) := by decide +kernel
theorem dL_bestHeight_6 : decode cL_bestHeight 6 = .ok (.i2l, 1) := by decide +kernel
theorem dL_bestHeight_7 : decode cL_bestHeight 7 = .ok (.lastore, 1) := by decide +kernel
theorem dL_bestHeight_8 : decode cL_bestHeight 8 = .ok (.goto 6, 3) := by decide +kernel
theorem dL_bestHeight_11 : decode cL_bestHeight 11 = .ok (.astore_n 2, 1) := by decide +kernel
theorem dL_bestHeight_12 : decode cL_bestHeight 12 = .ok (.iconst 1, 1) := by decide +kernel
theorem dL_bestHeight_13 : decode cL_bestHeight 13 = .ok (.ireturn, 1) := by decide +kernel
theorem dL_bestHeight_14 : decode cL_bestHeight 14 = .ok (.iconst 0, 1) := by decide +kernel
theorem dL_bestHeight_15 : decode cL_bestHeight 15 = .ok (.ireturn, 1) := by decide +kernel
theorem dL_rowHeight_0 : decode cL_rowHeight 0 = .ok (.aload_n 3, 1) := by decide +kernel
theorem dL_rowHeight_1 : decode cL_rowHeight 1 = .ok (.iconst 0, 1) := by decide +kernel
theorem dL_rowHeight_2 : decode cL_rowHeight 2 = .ok (.aload_n 0, 1) := by decide +kernel
theorem dL_rowHeight_3 : decode cL_rowHeight 3 = .ok (.iload_n 1, 1) := by decide +kernel
theorem dL_rowHeight_4 : decode cL_rowHeight 4 = .ok (.iload_n 2, 1) := by decide +kernel
theorem dL_rowHeight_5 : decode cL_rowHeight 5 = .ok (.invokevirtual 99, 3) := by decide +kernel
theorem dL_rowHeight_8 : decode cL_rowHeight 8 = .ok (.i2l, 1) := by decide +kernel
theorem dL_rowHeight_9 : decode cL_rowHeight 9 = .ok (.lastore, 1) := by decide +kernel
theorem dL_rowHeight_10 : decode cL_rowHeight 10 = .ok (.goto 11, 3) := by decide +kernel
theorem dL_rowHeight_13 : decode cL_rowHeight 13 = .ok (.astore 4, 2) := by decide +kernel
theorem dL_rowHeight_15 : decode cL_rowHeight 15 = .ok (.iconst 1, 1) := by decide +kernel
theorem dL_rowHeight_16 : decode cL_rowHeight 16 = .ok (.ireturn, 1) := by decide +kernel
theorem dL_rowHeight_17 : decode cL_rowHeight 17 = .ok (.astore 4, 2) := by decide +kernel
theorem dL_rowHeight_19 : decode cL_rowHeight 19 = .ok (.iconst 2, 1) := by decide +kernel
theorem dL_rowHeight_20 : decode cL_rowHeight 20 = .ok (.ireturn, 1) := by decide +kernel
theorem dL_rowHeight_21 : decode cL_rowHeight 21 = .ok (.iconst 0, 1) := by decide +kernel
theorem dL_rowHeight_22 : decode cL_rowHeight 22 = .ok (.ireturn, 1) := by decide +kernel
theorem dL_tallest_0 : decode cL_tallest 0 = .ok (.aload_n 2, 1) := by decide +kernel
theorem dL_tallest_1 : decode cL_tallest 1 = .ok (.iconst 0, 1) := by decide +kernel
theorem dL_tallest_2 : decode cL_tallest 2 = .ok (.aload_n 0, 1) := by decide +kernel
theorem dL_tallest_3 : decode cL_tallest 3 = .ok (.iload_n 1, 1) := by decide +kernel
theorem dL_tallest_4 : decode cL_tallest 4 = .ok (.invokevirtual 103, 3) := by decide +kernel
theorem dL_tallest_7 : decode cL_tallest 7 = .ok (.i2l, 1) := by decide +kernel
theorem dL_tallest_8 : decode cL_tallest 8 = .ok (.lastore, 1) := by decide +kernel
theorem dL_tallest_9 : decode cL_tallest 9 = .ok (.goto 12, 3) := by decide +kernel
theorem dL_tallest_12 : decode cL_tallest 12 = .ok (.astore_n 3, 1) := by decide +kernel
theorem dL_tallest_13 : decode cL_tallest 13 = .ok (.iconst 1, 1) := by decide +kernel
theorem dL_tallest_14 : decode cL_tallest 14 = .ok (.ireturn, 1) := by decide +kernel
theorem dL_tallest_15 : decode cL_tallest 15 = .ok (.astore_n 3, 1) := by decide +kernel
theorem dL_tallest_16 : decode cL_tallest 16 = .ok (.iconst 2, 1) := by decide +kernel
theorem dL_tallest_17 : decode cL_tallest 17 = .ok (.ireturn, 1) := by decide +kernel
theorem dL_tallest_18 : decode cL_tallest 18 = .ok (.astore_n 3, 1) := by decide +kernel
theorem dL_tallest_19 : decode cL_tallest 19 = .ok (.iconst 3, 1) := by decide +kernel
theorem dL_tallest_20 : decode cL_tallest 20 = .ok (.ireturn, 1) := by decide +kernel
theorem dL_tallest_21 : decode cL_tallest 21 = .ok (.iconst 0, 1) := by decide +kernel
theorem dL_tallest_22 : decode cL_tallest 22 = .ok (.ireturn, 1) := by decide +kernel
theorem dL_heightFor_0 : decode cL_heightFor 0 = .ok (.aload 5, 2) := by decide +kernel
theorem dL_heightFor_2 : decode cL_heightFor 2 = .ok (.iconst 0, 1) := by decide +kernel
theorem dL_heightFor_3 : decode cL_heightFor 3 = .ok (.aload_n 0, 1) := by decide +kernel
theorem dL_heightFor_4 : decode cL_heightFor 4 = .ok (.iload_n 1, 1) := by decide +kernel
theorem dL_heightFor_5 : decode cL_heightFor 5 = .ok (.iload_n 2, 1) := by decide +kernel
theorem dL_heightFor_6 : decode cL_heightFor 6 = .ok (.iload_n 3, 1) := by decide +kernel
theorem dL_heightFor_7 : decode cL_heightFor 7 = .ok (.iload 4, 2) := by decide +kernel
theorem dL_heightFor_9 : decode cL_heightFor 9 = .ok (.invokevirtual 106, 3) := by decide +kernel
theorem dL_heightFor_12 : decode cL_heightFor 12 = .ok (.i2l, 1) := by decide +kernel
theorem dL_heightFor_13 : decode cL_heightFor 13 = .ok (.lastore, 1) := by decide +kernel
theorem dL_heightFor_14 : decode cL_heightFor 14 = .ok (.goto 7, 3) := by decide +kernel
theorem dL_heightFor_17 : decode cL_heightFor 17 = .ok (.astore 6, 2) := by decide +kernel
theorem dL_heightFor_19 : decode cL_heightFor 19 = .ok (.iconst 1, 1) := by decide +kernel
theorem dL_heightFor_20 : decode cL_heightFor 20 = .ok (.ireturn, 1) := by decide +kernel
theorem dL_heightFor_21 : decode cL_heightFor 21 = .ok (.iconst 0, 1) := by decide +kernel
theorem dL_heightFor_22 : decode cL_heightFor 22 = .ok (.ireturn, 1) := by decide +kernel
theorem dL_heightAt_0 : decode cL_heightAt 0 = .ok (.aload_n 2, 1) := by decide +kernel
theorem dL_heightAt_1 : decode cL_heightAt 1 = .ok (.iconst 0, 1) := by decide +kernel
theorem dL_heightAt_2 : decode cL_heightAt 2 = .ok (.aload_n 0, 1) := by decide +kernel
theorem dL_heightAt_3 : decode cL_heightAt 3 = .ok (.iload_n 1, 1) := by decide +kernel
theorem dL_heightAt_4 : decode cL_heightAt 4 = .ok (.invokevirtual 109, 3) := by decide +kernel
theorem dL_heightAt_7 : decode cL_heightAt 7 = .ok (.i2l, 1) := by decide +kernel
theorem dL_heightAt_8 : decode cL_heightAt 8 = .ok (.lastore, 1) := by decide +kernel
theorem dL_heightAt_9 : decode cL_heightAt 9 = .ok (.goto 9, 3) := by decide +kernel
theorem dL_heightAt_12 : decode cL_heightAt 12 = .ok (.astore_n 3, 1) := by decide +kernel
theorem dL_heightAt_13 : decode cL_heightAt 13 = .ok (.iconst 1, 1) := by decide +kernel
theorem dL_heightAt_14 : decode cL_heightAt 14 = .ok (.ireturn, 1) := by decide +kernel
theorem dL_heightAt_15 : decode cL_heightAt 15 = .ok (.astore_n 3, 1) := by decide +kernel
theorem dL_heightAt_16 : decode cL_heightAt 16 = .ok (.iconst 2, 1) := by decide +kernel
theorem dL_heightAt_17 : decode cL_heightAt 17 = .ok (.ireturn, 1) := by decide +kernel
theorem dL_heightAt_18 : decode cL_heightAt 18 = .ok (.iconst 0, 1) := by decide +kernel
theorem dL_heightAt_19 : decode cL_heightAt 19 = .ok (.ireturn, 1) := by decide +kernel
theorem dL_narrowest_0 : decode cL_narrowest 0 = .ok (.aload_n 2, 1) := by decide +kernel
theorem dL_narrowest_1 : decode cL_narrowest 1 = .ok (.iconst 0, 1) := by decide +kernel
theorem dL_narrowest_2 : decode cL_narrowest 2 = .ok (.aload_n 0, 1) := by decide +kernel
theorem dL_narrowest_3 : decode cL_narrowest 3 = .ok (.iload_n 1, 1) := by decide +kernel
theorem dL_narrowest_4 : decode cL_narrowest 4 = .ok (.invokevirtual 112, 3) := by decide +kernel
theorem dL_narrowest_7 : decode cL_narrowest 7 = .ok (.i2l, 1) := by decide +kernel
theorem dL_narrowest_8 : decode cL_narrowest 8 = .ok (.lastore, 1) := by decide +kernel
theorem dL_narrowest_9 : decode cL_narrowest 9 = .ok (.goto 6, 3) := by decide +kernel
theorem dL_narrowest_12 : decode cL_narrowest 12 = .ok (.astore_n 3, 1) := by decide +kernel
theorem dL_narrowest_13 : decode cL_narrowest 13 = .ok (.iconst 1, 1) := by decide +kernel
theorem dL_narrowest_14 : decode cL_narrowest 14 = .ok (.ireturn, 1) := by decide +kernel
theorem dL_narrowest_15 : decode cL_narrowest 15 = .ok (.iconst 0, 1) := by decide +kernel
theorem dL_narrowest_16 : decode cL_narrowest 16 = .ok (.ireturn, 1) := by decide +kernel
theorem dL_improvement_0 : decode cL_improvement 0 = .ok (.aload_n 2, 1) := by decide +kernel
theorem dL_improvement_1 : decode cL_improvement 1 = .ok (.iconst 0, 1) := by decide +kernel
theorem dL_improvement_2 : decode cL_improvement 2 = .ok (.aload_n 0, 1) := by decide +kernel
theorem dL_improvement_3 : decode cL_improvement 3 = .ok (.iload_n 1, 1) := by decide +kernel
theorem dL_improvement_4 : decode cL_improvement 4 = .ok (.invokevirtual 115, 3) := by decide +kernel
theorem dL_improvement_7 : decode cL_improvement 7 = .ok (.i2l, 1) := by decide +kernel
theorem dL_improvement_8 : decode cL_improvement 8 = .ok (.lastore, 1) := by decide +kernel
theorem dL_improvement_9 : decode cL_improvement 9 = .ok (.goto 6, 3) := by decide +kernel
theorem dL_improvement_12 : decode cL_improvement 12 = .ok (.astore_n 3, 1) := by decide +kernel
theorem dL_improvement_13 : decode cL_improvement 13 = .ok (.iconst 1, 1) := by decide +kernel
theorem dL_improvement_14 : decode cL_improvement 14 = .ok (.ireturn, 1) := by decide +kernel
theorem dL_improvement_15 : decode cL_improvement 15 = .ok (.iconst 0, 1) := by decide +kernel
theorem dL_improvement_16 : decode cL_improvement 16 = .ok (.ireturn, 1) := by decide +kernel
theorem dL_critical_0 : decode cL_critical 0 = .ok (.aload_n 1, 1) := by decide +kernel
theorem dL_critical_1 : decode cL_critical 1 = .ok (.iconst 0, 1) := by decide +kernel
theorem dL_critical_2 : decode cL_critical 2 = .ok (.aload_n 0, 1) := by decide +kernel
theorem dL_critical_3 : decode cL_critical 3 = .ok (.invokevirtual 118, 3) := by decide +kernel
theorem dL_critical_6 : decode cL_critical 6 = .ok (.i2l, 1) := by decide +kernel
theorem dL_critical_7 : decode cL_critical 7 = .ok (.lastore, 1) := by decide +kernel
theorem dL_critical_8 : decode cL_critical 8 = .ok (.goto 9, 3) := by decide +kernel
theorem dL_critical_11 : decode cL_critical 11 = .ok (.astore_n 2, 1) := by decide +kernel
theorem dL_critical_12 : decode cL_critical 12 = .ok (.iconst 1, 1) := by decide +kernel
theorem dL_critical_13 : decode cL_critical 13 = .ok (.ireturn, 1) := by decide +kernel
theorem dL_critical_14 : decode cL_critical 14 = .ok (.astore_n 2, 1) := by decide +kernel
theorem dL_critical_15 : decode cL_critical 15 = .ok (.iconst 2, 1) := by decide +kernel
theorem dL_critical_16 : decode cL_critical 16 = .ok (.ireturn, 1) := by decide +kernel
theorem dL_critical_17 : decode cL_critical 17 = .ok (.iconst 0, 1) := by decide +kernel
theorem dL_critical_18 : decode cL_critical 18 = .ok (.ireturn, 1) := by decide +kernel
theorem dL_costOfWord_0 : decode cL_costOfWord 0 = .ok (.aload_n 3, 1) := by decide +kernel
theorem dL_costOfWord_1 : decode cL_costOfWord 1 = .ok (.iconst 0, 1) := by decide +kernel
theorem dL_costOfWord_2 : decode cL_costOfWord 2 = .ok (.aload_n 0, 1) := by decide +kernel
theorem dL_costOfWord_3 : decode cL_costOfWord 3 = .ok (.iload_n 1, 1) := by decide +kernel
theorem dL_costOfWord_4 : decode cL_costOfWord 4 = .ok (.iload_n 2, 1) := by decide +kernel
theorem dL_costOfWord_5 : decode cL_costOfWord 5 = .ok (.invokevirtual 121, 3) := by decide +kernel
theorem dL_costOfWord_8 : decode cL_costOfWord 8 = .ok (.i2l, 1) := by decide +kernel
theorem dL_costOfWord_9 : decode cL_costOfWord 9 = .ok (.lastore, 1) := by decide +kernel
theorem dL_costOfWord_10 : decode cL_costOfWord 10 = .ok (.goto 19, 3) := by decide +kernel
theorem dL_costOfWord_13 : decode cL_costOfWord 13 = .ok (.astore 4, 2) := by decide +kernel
theorem dL_costOfWord_15 : decode cL_costOfWord 15 = .ok (.iconst 1, 1) := by decide +kernel
theorem dL_costOfWord_16 : decode cL_costOfWord 16 = .ok (.ireturn, 1) := by decide +kernel
theorem dL_costOfWord_17 : decode cL_costOfWord 17 = .ok (.astore 4, 2) := by decide +kernel
theorem dL_costOfWord_19 : decode cL_costOfWord 19 = .ok (.iconst 2, 1) := by decide +kernel
theorem dL_costOfWord_20 : decode cL_costOfWord 20 = .ok (.ireturn, 1) := by decide +kernel
theorem dL_costOfWord_21 : decode cL_costOfWord 21 = .ok (.astore 4, 2) := by decide +kernel
theorem dL_costOfWord_23 : decode cL_costOfWord 23 = .ok (.iconst 3, 1) := by decide +kernel
theorem dL_costOfWord_24 : decode cL_costOfWord 24 = .ok (.ireturn, 1) := by decide +kernel
theorem dL_costOfWord_25 : decode cL_costOfWord 25 = .ok (.astore 4, 2) := by decide +kernel
theorem dL_costOfWord_27 : decode cL_costOfWord 27 = .ok (.iconst 4, 1) := by decide +kernel
theorem dL_costOfWord_28 : decode cL_costOfWord 28 = .ok (.ireturn, 1) := by decide +kernel
theorem dL_costOfWord_29 : decode cL_costOfWord 29 = .ok (.iconst 0, 1) := by decide +kernel
theorem dL_costOfWord_30 : decode cL_costOfWord 30 = .ok (.ireturn, 1) := by decide +kernel
theorem dL_raggednessBits_0 : decode cL_raggednessBits 0 = .ok (.aload_n 2, 1) := by decide +kernel
theorem dL_raggednessBits_1 : decode cL_raggednessBits 1 = .ok (.iconst 0, 1) := by decide +kernel
theorem dL_raggednessBits_2 : decode cL_raggednessBits 2 = .ok (.aload_n 0, 1) := by decide +kernel
theorem dL_raggednessBits_3 : decode cL_raggednessBits 3 = .ok (.iload_n 1, 1) := by decide +kernel
theorem dL_raggednessBits_4 : decode cL_raggednessBits 4 = .ok (.invokevirtual 124, 3) := by decide +kernel
theorem dL_raggednessBits_7 : decode cL_raggednessBits 7 = .ok (.i2l, 1) := by decide +kernel
theorem dL_raggednessBits_8 : decode cL_raggednessBits 8 = .ok (.lastore, 1) := by decide +kernel
theorem dL_raggednessBits_9 : decode cL_raggednessBits 9 = .ok (.goto 12, 3) := by decide +kernel
theorem dL_raggednessBits_12 : decode cL_raggednessBits 12 = .ok (.astore_n 3, 1) := by decide +kernel
theorem dL_raggednessBits_13 : decode cL_raggednessBits 13 = .ok (.iconst 1, 1) := by decide +kernel
theorem dL_raggednessBits_14 : decode cL_raggednessBits 14 = .ok (.ireturn, 1) := by decide +kernel
theorem dL_raggednessBits_15 : decode cL_raggednessBits 15 = .ok (.astore_n 3, 1) := by decide +kernel
theorem dL_raggednessBits_16 : decode cL_raggednessBits 16 = .ok (.iconst 2, 1) := by decide +kernel
theorem dL_raggednessBits_17 : decode cL_raggednessBits 17 = .ok (.ireturn, 1) := by decide +kernel
theorem dL_raggednessBits_18 : decode cL_raggednessBits 18 = .ok (.astore_n 3, 1) := by decide +kernel
theorem dL_raggednessBits_19 : decode cL_raggednessBits 19 = .ok (.iconst 3, 1) := by decide +kernel
theorem dL_raggednessBits_20 : decode cL_raggednessBits 20 = .ok (.ireturn, 1) := by decide +kernel
theorem dL_raggednessBits_21 : decode cL_raggednessBits 21 = .ok (.iconst 0, 1) := by decide +kernel
theorem dL_raggednessBits_22 : decode cL_raggednessBits 22 = .ok (.ireturn, 1) := by decide +kernel
theorem dL_densityBits_0 : decode cL_densityBits 0 = .ok (.aload_n 1, 1) := by decide +kernel
theorem dL_densityBits_1 : decode cL_densityBits 1 = .ok (.iconst 0, 1) := by decide +kernel
theorem dL_densityBits_2 : decode cL_densityBits 2 = .ok (.aload_n 0, 1) := by decide +kernel
theorem dL_densityBits_3 : decode cL_densityBits 3 = .ok (.invokevirtual 127, 3) := by decide +kernel
theorem dL_densityBits_6 : decode cL_densityBits 6 = .ok (.lastore, 1) := by decide +kernel
theorem dL_densityBits_7 : decode cL_densityBits 7 = .ok (.goto 9, 3) := by decide +kernel
theorem dL_densityBits_10 : decode cL_densityBits 10 = .ok (.astore_n 2, 1) := by decide +kernel
theorem dL_densityBits_11 : decode cL_densityBits 11 = .ok (.iconst 1, 1) := by decide +kernel
theorem dL_densityBits_12 : decode cL_densityBits 12 = .ok (.ireturn, 1) := by decide +kernel
theorem dL_densityBits_13 : decode cL_densityBits 13 = .ok (.astore_n 2, 1) := by decide +kernel
theorem dL_densityBits_14 : decode cL_densityBits 14 = .ok (.iconst 2, 1) := by decide +kernel
theorem dL_densityBits_15 : decode cL_densityBits 15 = .ok (.ireturn, 1) := by decide +kernel
theorem dL_densityBits_16 : decode cL_densityBits 16 = .ok (.iconst 0, 1) := by decide +kernel
theorem dL_densityBits_17 : decode cL_densityBits 17 = .ok (.ireturn, 1) := by decide +kernel
theorem dL_makeClip_0 : decode cL_makeClip 0 = .ok (.aload 4, 2) := by decide +kernel
theorem dL_makeClip_2 : decode cL_makeClip 2 = .ok (.iconst 0, 1) := by decide +kernel
theorem dL_makeClip_3 : decode cL_makeClip 3 = .ok (.aload_n 0, 1) := by decide +kernel
theorem dL_makeClip_4 : decode cL_makeClip 4 = .ok (.iload_n 1, 1) := by decide +kernel
theorem dL_makeClip_5 : decode cL_makeClip 5 = .ok (.iload_n 2, 1) := by decide +kernel
theorem dL_makeClip_6 : decode cL_makeClip 6 = .ok (.iload_n 3, 1) := by decide +kernel
theorem dL_makeClip_7 : decode cL_makeClip 7 = .ok (.invokevirtual 133, 3) := by decide +kernel
theorem dL_makeClip_10 : decode cL_makeClip 10 = .ok (.i2l, 1) := by decide +kernel
theorem dL_makeClip_11 : decode cL_makeClip 11 = .ok (.lastore, 1) := by decide +kernel
theorem dL_makeClip_12 : decode cL_makeClip 12 = .ok (.goto 11, 3) := by decide +kernel
theorem dL_makeClip_15 : decode cL_makeClip 15 = .ok (.astore 5, 2) := by decide +kernel
theorem dL_makeClip_17 : decode cL_makeClip 17 = .ok (.iconst 1, 1) := by decide +kernel
theorem dL_makeClip_18 : decode cL_makeClip 18 = .ok (.ireturn, 1) := by decide +kernel
theorem dL_makeClip_19 : decode cL_makeClip 19 = .ok (.astore 5, 2) := by decide +kernel
theorem dL_makeClip_21 : decode cL_makeClip 21 = .ok (.iconst 2, 1) := by decide +kernel
theorem dL_makeClip_22 : decode cL_makeClip 22 = .ok (.ireturn, 1) := by decide +kernel
theorem dL_makeClip_23 : decode cL_makeClip 23 = .ok (.iconst 0, 1) := by decide +kernel
theorem dL_makeClip_24 : decode cL_makeClip 24 = .ok (.ireturn, 1) := by decide +kernel
theorem dL_copyTo_0 : decode cL_copyTo 0 = .ok (.aload 4, 2) := by decide +kernel
theorem dL_copyTo_2 : decode cL_copyTo 2 = .ok (.iconst 0, 1) := by decide +kernel
theorem dL_copyTo_3 : decode cL_copyTo 3 = .ok (.aload_n 0, 1) := by decide +kernel
theorem dL_copyTo_4 : decode cL_copyTo 4 = .ok (.iload_n 1, 1) := by decide +kernel
theorem dL_copyTo_5 : decode cL_copyTo 5 = .ok (.iload_n 2, 1) := by decide +kernel
theorem dL_copyTo_6 : decode cL_copyTo 6 = .ok (.iload_n 3, 1) := by decide +kernel
theorem dL_copyTo_7 : decode cL_copyTo 7 = .ok (.invokevirtual 136, 3) := by decide +kernel
theorem dL_copyTo_10 : decode cL_copyTo 10 = .ok (.i2l, 1) := by decide +kernel
theorem dL_copyTo_11 : decode cL_copyTo 11 = .ok (.lastore, 1) := by decide +kernel
theorem dL_copyTo_12 : decode cL_copyTo 12 = .ok (.goto 19, 3) := by decide +kernel
theorem dL_copyTo_15 : decode cL_copyTo 15 = .ok (.astore 5, 2) := by decide +kernel
theorem dL_copyTo_17 : decode cL_copyTo 17 = .ok (.iconst 1, 1) := by decide +kernel
theorem dL_copyTo_18 : decode cL_copyTo 18 = .ok (.ireturn, 1) := by decide +kernel
theorem dL_copyTo_19 : decode cL_copyTo 19 = .ok (.astore 5, 2) := by decide +kernel
theorem dL_copyTo_21 : decode cL_copyTo 21 = .ok (.iconst 2, 1) := by decide +kernel
theorem dL_copyTo_22 : decode cL_copyTo 22 = .ok (.ireturn, 1) := by decide +kernel
theorem dL_copyTo_23 : decode cL_copyTo 23 = .ok (.astore 5, 2) := by decide +kernel
theorem dL_copyTo_25 : decode cL_copyTo 25 = .ok (.iconst 3, 1) := by decide +kernel
theorem dL_copyTo_26 : decode cL_copyTo 26 = .ok (.ireturn, 1) := by decide +kernel
theorem dL_copyTo_27 : decode cL_copyTo 27 = .ok (.astore 5, 2) := by decide +kernel
theorem dL_copyTo_29 : decode cL_copyTo 29 = .ok (.iconst 4, 1) := by decide +kernel
theorem dL_copyTo_30 : decode cL_copyTo 30 = .ok (.ireturn, 1) := by decide +kernel
theorem dL_copyTo_31 : decode cL_copyTo 31 = .ok (.iconst 0, 1) := by decide +kernel
theorem dL_copyTo_32 : decode cL_copyTo 32 = .ok (.ireturn, 1) := by decide +kernel
theorem dL_paste_0 : decode cL_paste 0 = .ok (.aload 5, 2) := by decide +kernel
theorem dL_paste_2 : decode cL_paste 2 = .ok (.iconst 0, 1) := by decide +kernel
theorem dL_paste_3 : decode cL_paste 3 = .ok (.aload_n 0, 1) := by decide +kernel
theorem dL_paste_4 : decode cL_paste 4 = .ok (.iload_n 1, 1) := by decide +kernel
theorem dL_paste_5 : decode cL_paste 5 = .ok (.iload_n 2, 1) := by decide +kernel
theorem dL_paste_6 : decode cL_paste 6 = .ok (.iload_n 3, 1) := by decide +kernel
theorem dL_paste_7 : decode cL_paste 7 = .ok (.iload 4, 2) := by decide +kernel
theorem dL_paste_9 : decode cL_paste 9 = .ok (.invokevirtual 139, 3) := by decide +kernel
theorem dL_paste_12 : decode cL_paste 12 = .ok (.i2l, 1) := by decide +kernel
theorem dL_paste_13 : decode cL_paste 13 = .ok (.lastore, 1) := by decide +kernel
theorem dL_paste_14 : decode cL_paste 14 = .ok (.goto 15, 3) := by decide +kernel
theorem dL_paste_17 : decode cL_paste 17 = .ok (.astore 6, 2) := by decide +kernel
theorem dL_paste_19 : decode cL_paste 19 = .ok (.iconst 1, 1) := by decide +kernel
theorem dL_paste_20 : decode cL_paste 20 = .ok (.ireturn, 1) := by decide +kernel
theorem dL_paste_21 : decode cL_paste 21 = .ok (.astore 6, 2) := by decide +kernel
theorem dL_paste_23 : decode cL_paste 23 = .ok (.iconst 2, 1) := by decide +kernel
theorem dL_paste_24 : decode cL_paste 24 = .ok (.ireturn, 1) := by decide +kernel
theorem dL_paste_25 : decode cL_paste 25 = .ok (.astore 6, 2) := by decide +kernel
theorem dL_paste_27 : decode cL_paste 27 = .ok (.iconst 3, 1) := by decide +kernel
theorem dL_paste_28 : decode cL_paste 28 = .ok (.ireturn, 1) := by decide +kernel
theorem dL_paste_29 : decode cL_paste 29 = .ok (.iconst 0, 1) := by decide +kernel
theorem dL_paste_30 : decode cL_paste 30 = .ok (.ireturn, 1) := by decide +kernel
theorem dL_restore_0 : decode cL_restore 0 = .ok (.aload_n 1, 1) := by decide +kernel
theorem dL_restore_1 : decode cL_restore 1 = .ok (.iconst 0, 1) := by decide +kernel
theorem dL_restore_2 : decode cL_restore 2 = .ok (.aload_n 0, 1) := by decide +kernel
theorem dL_restore_3 : decode cL_restore 3 = .ok (.invokevirtual 142, 3) := by decide +kernel
theorem dL_restore_6 : decode cL_restore 6 = .ok (.i2l, 1) := by decide +kernel
theorem dL_restore_7 : decode cL_restore 7 = .ok (.lastore, 1) := by decide +kernel
theorem dL_restore_8 : decode cL_restore 8 = .ok (.goto 6, 3) := by decide +kernel
theorem dL_restore_11 : decode cL_restore 11 = .ok (.astore_n 2, 1) := by decide +kernel
theorem dL_restore_12 : decode cL_restore 12 = .ok (.iconst 1, 1) := by decide +kernel
theorem dL_restore_13 : decode cL_restore 13 = .ok (.ireturn, 1) := by decide +kernel
theorem dL_restore_14 : decode cL_restore 14 = .ok (.iconst 0, 1) := by decide +kernel
theorem dL_restore_15 : decode cL_restore 15 = .ok (.ireturn, 1) := by decide +kernel
theorem dL_law_0 : decode cL_law 0 = .ok (.new 8, 3) := by decide +kernel
theorem dL_law_3 : decode cL_law 3 = .ok (.dup, 1) := by decide +kernel
theorem dL_law_4 : decode cL_law 4 = .ok (.invokespecial 145, 3) := by decide +kernel
theorem dL_law_7 : decode cL_law 7 = .ok (.astore_n 1, 1) := by decide +kernel
theorem dL_law_8 : decode cL_law 8 = .ok (.new 146, 3) := by decide +kernel
theorem dL_law_11 : decode cL_law 11 = .ok (.dup, 1) := by decide +kernel
theorem dL_law_12 : decode cL_law 12 = .ok (.invokespecial 148, 3) := by decide +kernel
theorem dL_law_15 : decode cL_law 15 = .ok (.astore_n 2, 1) := by decide +kernel
theorem dL_law_16 : decode cL_law 16 = .ok (.iconst 1, 1) := by decide +kernel
theorem dL_law_17 : decode cL_law 17 = .ok (.newarray .long, 2) := by decide +kernel
theorem dL_law_19 : decode cL_law 19 = .ok (.astore_n 3, 1) := by decide +kernel
theorem dL_law_20 : decode cL_law 20 = .ok (.iconst 0, 1) := by decide +kernel
theorem dL_law_21 : decode cL_law 21 = .ok (.istore 4, 2) := by decide +kernel
theorem dL_law_23 : decode cL_law 23 = .ok (.iload 4, 2) := by decide +kernel
theorem dL_law_25 : decode cL_law 25 = .ok (.aload_n 0, 1) := by decide +kernel
theorem dL_law_26 : decode cL_law 26 = .ok (.arraylength, 1) := by decide +kernel
theorem dL_law_27 : decode cL_law 27 = .ok (.iconst 5, 1) := by decide +kernel
theorem dL_law_28 : decode cL_law 28 = .ok (.isub, 1) := by decide +kernel
theorem dL_law_29 : decode cL_law 29 = .ok (.if_icmp .gt 2752, 3) := by decide +kernel
theorem dL_law_32 : decode cL_law 32 = .ok (.aload_n 0, 1) := by decide +kernel
theorem dL_law_33 : decode cL_law 33 = .ok (.iload 4, 2) := by decide +kernel
theorem dL_law_35 : decode cL_law 35 = .ok (.iaload, 1) := by decide +kernel
theorem dL_law_36 : decode cL_law 36 = .ok (.bipush 63, 2) := by decide +kernel
theorem dL_law_38 : decode cL_law 38 = .ok (.iand, 1) := by decide +kernel
theorem dL_law_39 : decode cL_law 39 = .ok (.tableswitch 2736 0 42 #[185, 241, 309, 389, 433, 525, 581, 661, 717, 797, 865, 921, 965, 978, 1034, 1102, 1170, 1238, 1318, 1386, 1454, 1522, 1535, 1603, 1659, 1703, 1759, 1803, 1887, 1943, 2035, 2091, 2147, 2160, 2216, 2260, 2328, 2384, 2427, 2507, 2587, 2679, 2692], 185) := by decide +kernel
theorem dL_law_224 : decode cL_law 224 = .ok (.aload_n 1, 1) := by decide +kernel
theorem dL_law_225 : decode cL_law 225 = .ok (.aload_n 0, 1) := by decide +kernel
theorem dL_law_226 : decode cL_law 226 = .ok (.iload 4, 2) := by decide +kernel
theorem dL_law_228 : decode cL_law 228 = .ok (.iconst 1, 1) := by decide +kernel
theorem dL_law_229 : decode cL_law 229 = .ok (.iadd, 1) := by decide +kernel
theorem dL_law_230 : decode cL_law 230 = .ok (.iaload, 1) := by decide +kernel
theorem dL_law_231 : decode cL_law 231 = .ok (.aload_n 3, 1) := by decide +kernel
theorem dL_law_232 : decode cL_law 232 = .ok (.invokestatic 149, 3) := by decide +kernel
theorem dL_law_235 : decode cL_law 235 = .ok (.istore 5, 2) := by decide +kernel
theorem dL_law_237 : decode cL_law 237 = .ok (.aload_n 2, 1) := by decide +kernel
theorem dL_law_238 : decode cL_law 238 = .ok (.aload_n 0, 1) := by decide +kernel
theorem dL_law_239 : decode cL_law 239 = .ok (.iload 4, 2) := by decide +kernel
theorem dL_law_241 : decode cL_law 241 = .ok (.iconst 1, 1) := by decide +kernel
theorem dL_law_242 : decode cL_law 242 = .ok (.iadd, 1) := by decide +kernel
theorem dL_law_243 : decode cL_law 243 = .ok (.iaload, 1) := by decide +kernel
theorem dL_law_244 : decode cL_law 244 = .ok (.invokevirtual 154, 3) := by decide +kernel
theorem dL_law_247 : decode cL_law 247 = .ok (.istore 6, 2) := by decide +kernel
theorem dL_law_249 : decode cL_law 249 = .ok (.aload_n 2, 1) := by decide +kernel
theorem dL_law_250 : decode cL_law 250 = .ok (.invokevirtual 155, 3) := by decide +kernel
theorem dL_law_253 : decode cL_law 253 = .ok (.iload 5, 2) := by decide +kernel
theorem dL_law_255 : decode cL_law 255 = .ok (.if_icmp .eq 5, 3) := by decide +kernel
theorem dL_law_258 : decode cL_law 258 = .ok (.iconst 0, 1) := by decide +kernel
theorem dL_law_259 : decode cL_law 259 = .ok (.ireturn, 1) := by decide +kernel
theorem dL_law_260 : decode cL_law 260 = .ok (.iload 5, 2) := by decide +kernel
theorem dL_law_262 : decode cL_law 262 = .ok (.ifCond .ne 15, 3) := by decide +kernel
theorem dL_law_265 : decode cL_law 265 = .ok (.aload_n 3, 1) := by decide +kernel
theorem dL_law_266 : decode cL_law 266 = .ok (.iconst 0, 1) := by decide +kernel
theorem dL_law_267 : decode cL_law 267 = .ok (.laload, 1) := by decide +kernel
theorem dL_law_268 : decode cL_law 268 = .ok (.iload 6, 2) := by decide +kernel
theorem dL_law_270 : decode cL_law 270 = .ok (.i2l, 1) := by decide +kernel
theorem dL_law_271 : decode cL_law 271 = .ok (.lcmp, 1) := by decide +kernel
theorem dL_law_272 : decode cL_law 272 = .ok (.ifCond .eq 5, 3) := by decide +kernel
theorem dL_law_275 : decode cL_law 275 = .ok (.iconst 0, 1) := by decide +kernel
theorem dL_law_276 : decode cL_law 276 = .ok (.ireturn, 1) := by decide +kernel
theorem dL_law_277 : decode cL_law 277 = .ok (.goto 2498, 3) := by decide +kernel
theorem dL_law_280 : decode cL_law 280 = .ok (.aload_n 1, 1) := by decide +kernel
theorem dL_law_281 : decode cL_law 281 = .ok (.aload_n 0, 1) := by decide +kernel
theorem dL_law_282 : decode cL_law 282 = .ok (.iload 4, 2) := by decide +kernel
theorem dL_law_284 : decode cL_law 284 = .ok (.iconst 1, 1) := by decide +kernel
theorem dL_law_285 : decode cL_law 285 = .ok (.iadd, 1) := by decide +kernel
theorem dL_law_286 : decode cL_law 286 = .ok (.iaload, 1) := by decide +kernel
theorem dL_law_287 : decode cL_law 287 = .ok (.aload_n 0, 1) := by decide +kernel
theorem dL_law_288 : decode cL_law 288 = .ok (.iload 4, 2) := by decide +kernel
theorem dL_law_290 : decode cL_law 290 = .ok (.iconst 2, 1) := by decide +kernel
theorem dL_law_291 : decode cL_law 291 = .ok (.iadd, 1) := by decide +kernel
theorem dL_law_292 : decode cL_law 292 = .ok (.iaload, 1) := by decide +kernel
theorem dL_law_293 : decode cL_law 293 = .ok (.aload_n 3, 1) := by decide +kernel
theorem dL_law_294 : decode cL_law 294 = .ok (.invokestatic 158, 3) := by decide +kernel
theorem dL_law_297 : decode cL_law 297 = .ok (.istore 5, 2) := by decide +kernel
theorem dL_law_299 : decode cL_law 299 = .ok (.aload_n 2, 1) := by decide +kernel
theorem dL_law_300 : decode cL_law 300 = .ok (.aload_n 0, 1) := by decide +kernel
theorem dL_law_301 : decode cL_law 301 = .ok (.iload 4, 2) := by decide +kernel
theorem dL_law_303 : decode cL_law 303 = .ok (.iconst 1, 1) := by decide +kernel
theorem dL_law_304 : decode cL_law 304 = .ok (.iadd, 1) := by decide +kernel
theorem dL_law_305 : decode cL_law 305 = .ok (.iaload, 1) := by decide +kernel
theorem dL_law_306 : decode cL_law 306 = .ok (.aload_n 0, 1) := by decide +kernel
theorem dL_law_307 : decode cL_law 307 = .ok (.iload 4, 2) := by decide +kernel
theorem dL_law_309 : decode cL_law 309 = .ok (.iconst 2, 1) := by decide +kernel
theorem dL_law_310 : decode cL_law 310 = .ok (.iadd, 1) := by decide +kernel
theorem dL_law_311 : decode cL_law 311 = .ok (.iaload, 1) := by decide +kernel
theorem dL_law_312 : decode cL_law 312 = .ok (.invokevirtual 161, 3) := by decide +kernel
theorem dL_law_315 : decode cL_law 315 = .ok (.istore 6, 2) := by decide +kernel
theorem dL_law_317 : decode cL_law 317 = .ok (.aload_n 2, 1) := by decide +kernel
theorem dL_law_318 : decode cL_law 318 = .ok (.invokevirtual 155, 3) := by decide +kernel
theorem dL_law_321 : decode cL_law 321 = .ok (.iload 5, 2) := by decide +kernel
theorem dL_law_323 : decode cL_law 323 = .ok (.if_icmp .eq 5, 3) := by decide +kernel
theorem dL_law_326 : decode cL_law 326 = .ok (.iconst 0, 1) := by decide +kernel
theorem dL_law_327 : decode cL_law 327 = .ok (.ireturn, 1) := by decide +kernel
theorem dL_law_328 : decode cL_law 328 = .ok (.iload 5, 2) := by decide +kernel
theorem dL_law_330 : decode cL_law 330 = .ok (.ifCond .ne 15, 3) := by decide +kernel
theorem dL_law_333 : decode cL_law 333 = .ok (.aload_n 3, 1) := by decide +kernel
theorem dL_law_334 : decode cL_law 334 = .ok (.iconst 0, 1) := by decide +kernel
theorem dL_law_335 : decode cL_law 335 = .ok (.laload, 1) := by decide +kernel
theorem dL_law_336 : decode cL_law 336 = .ok (.iload 6, 2) := by decide +kernel
theorem dL_law_338 : decode cL_law 338 = .ok (.i2l, 1) := by decide +kernel
theorem dL_law_339 : decode cL_law 339 = .ok (.lcmp, 1) := by decide +kernel
theorem dL_law_340 : decode cL_law 340 = .ok (.ifCond .eq 5, 3) := by decide +kernel
theorem dL_law_343 : decode cL_law 343 = .ok (.iconst 0, 1) := by decide +kernel
theorem dL_law_344 : decode cL_law 344 = .ok (.ireturn, 1) := by decide +kernel
theorem dL_law_345 : decode cL_law 345 = .ok (.goto 2430, 3) := by decide +kernel
theorem dL_law_348 : decode cL_law 348 = .ok (.aload_n 1, 1) := by decide +kernel
theorem dL_law_349 : decode cL_law 349 = .ok (.aload_n 0, 1) := by decide +kernel
theorem dL_law_350 : decode cL_law 350 = .ok (.iload 4, 2) := by decide +kernel
theorem dL_law_352 : decode cL_law 352 = .ok (.iconst 1, 1) := by decide +kernel
theorem dL_law_353 : decode cL_law 353 = .ok (.iadd, 1) := by decide +kernel
theorem dL_law_354 : decode cL_law 354 = .ok (.iaload, 1) := by decide +kernel
theorem dL_law_355 : decode cL_law 355 = .ok (.aload_n 0, 1) := by decide +kernel
theorem dL_law_356 : decode cL_law 356 = .ok (.iload 4, 2) := by decide +kernel
theorem dL_law_358 : decode cL_law 358 = .ok (.iconst 2, 1) := by decide +kernel
theorem dL_law_359 : decode cL_law 359 = .ok (.iadd, 1) := by decide +kernel
theorem dL_law_360 : decode cL_law 360 = .ok (.iaload, 1) := by decide +kernel
theorem dL_law_361 : decode cL_law 361 = .ok (.aload_n 0, 1) := by decide +kernel
theorem dL_law_362 : decode cL_law 362 = .ok (.iload 4, 2) := by decide +kernel
theorem dL_law_364 : decode cL_law 364 = .ok (.iconst 3, 1) := by decide +kernel
theorem dL_law_365 : decode cL_law 365 = .ok (.iadd, 1) := by decide +kernel
theorem dL_law_366 : decode cL_law 366 = .ok (.iaload, 1) := by decide +kernel
theorem dL_law_367 : decode cL_law 367 = .ok (.aload_n 3, 1) := by decide +kernel
theorem dL_law_368 : decode cL_law 368 = .ok (.invokestatic 162, 3) := by decide +kernel
theorem dL_law_371 : decode cL_law 371 = .ok (.istore 5, 2) := by decide +kernel
theorem dL_law_373 : decode cL_law 373 = .ok (.aload_n 2, 1) := by decide +kernel
theorem dL_law_374 : decode cL_law 374 = .ok (.aload_n 0, 1) := by decide +kernel
theorem dL_law_375 : decode cL_law 375 = .ok (.iload 4, 2) := by decide +kernel
theorem dL_law_377 : decode cL_law 377 = .ok (.iconst 1, 1) := by decide +kernel
theorem dL_law_378 : decode cL_law 378 = .ok (.iadd, 1) := by decide +kernel
theorem dL_law_379 : decode cL_law 379 = .ok (.iaload, 1) := by decide +kernel
theorem dL_law_380 : decode cL_law 380 = .ok (.aload_n 0, 1) := by decide +kernel
theorem dL_law_381 : decode cL_law 381 = .ok (.iload 4, 2) := by decide +kernel
theorem dL_law_383 : decode cL_law 383 = .ok (.iconst 2, 1) := by decide +kernel
theorem dL_law_384 : decode cL_law 384 = .ok (.iadd, 1) := by decide +kernel
theorem dL_law_385 : decode cL_law 385 = .ok (.iaload, 1) := by decide +kernel
theorem dL_law_386 : decode cL_law 386 = .ok (.aload_n 0, 1) := by decide +kernel
theorem dL_law_387 : decode cL_law 387 = .ok (.iload 4, 2) := by decide +kernel
theorem dL_law_389 : decode cL_law 389 = .ok (.iconst 3, 1) := by decide +kernel
theorem dL_law_390 : decode cL_law 390 = .ok (.iadd, 1) := by decide +kernel
theorem dL_law_391 : decode cL_law 391 = .ok (.iaload, 1) := by decide +kernel
theorem dL_law_392 : decode cL_law 392 = .ok (.invokevirtual 165, 3) := by decide +kernel
theorem dL_law_395 : decode cL_law 395 = .ok (.istore 6, 2) := by decide +kernel
theorem dL_law_397 : decode cL_law 397 = .ok (.aload_n 2, 1) := by decide +kernel
theorem dL_law_398 : decode cL_law 398 = .ok (.invokevirtual 155, 3) := by decide +kernel
theorem dL_law_401 : decode cL_law 401 = .ok (.iload 5, 2) := by decide +kernel
theorem dL_law_403 : decode cL_law 403 = .ok (.if_icmp .eq 5, 3) := by decide +kernel
theorem dL_law_406 : decode cL_law 406 = .ok (.iconst 0, 1) := by decide +kernel
theorem dL_law_407 : decode cL_law 407 = .ok (.ireturn, 1) := by decide +kernel
theorem dL_law_408 : decode cL_law 408 = .ok (.iload 5, 2) := by decide +kernel
theorem dL_law_410 : decode cL_law 410 = .ok (.ifCond .ne 15, 3) := by decide +kernel
theorem dL_law_413 : decode cL_law 413 = .ok (.aload_n 3, 1) := by decide +kernel
theorem dL_law_414 : decode cL_law 414 = .ok (.iconst 0, 1) := by decide +kernel
theorem dL_law_415 : decode cL_law 415 = .ok (.laload, 1) := by decide +kernel
theorem dL_law_416 : decode cL_law 416 = .ok (.iload 6, 2) := by decide +kernel
theorem dL_law_418 : decode cL_law 418 = .ok (.i2l, 1) := by decide +kernel
theorem dL_law_419 : decode cL_law 419 = .ok (.lcmp, 1) := by decide +kernel
theorem dL_law_420 : decode cL_law 420 = .ok (.ifCond .eq 5, 3) := by decide +kernel
theorem dL_law_423 : decode cL_law 423 = .ok (.iconst 0, 1) := by decide +kernel
theorem dL_law_424 : decode cL_law 424 = .ok (.ireturn, 1) := by decide +kernel
theorem dL_law_425 : decode cL_law 425 = .ok (.goto 2350, 3) := by decide +kernel
theorem dL_law_428 : decode cL_law 428 = .ok (.aload_n 1, 1) := by decide +kernel
theorem dL_law_429 : decode cL_law 429 = .ok (.aload_n 3, 1) := by decide +kernel
theorem dL_law_430 : decode cL_law 430 = .ok (.invokestatic 166, 3) := by decide +kernel
theorem dL_law_433 : decode cL_law 433 = .ok (.istore 5, 2) := by decide +kernel
theorem dL_law_435 : decode cL_law 435 = .ok (.aload_n 2, 1) := by decide +kernel
theorem dL_law_436 : decode cL_law 436 = .ok (.invokevirtual 169, 3) := by decide +kernel
theorem dL_law_439 : decode cL_law 439 = .ok (.istore 6, 2) := by decide +kernel
theorem dL_law_441 : decode cL_law 441 = .ok (.aload_n 2, 1) := by decide +kernel
theorem dL_law_442 : decode cL_law 442 = .ok (.invokevirtual 155, 3) := by decide +kernel
theorem dL_law_445 : decode cL_law 445 = .ok (.iload 5, 2) := by decide +kernel
theorem dL_law_447 : decode cL_law 447 = .ok (.if_icmp .eq 5, 3) := by decide +kernel
theorem dL_law_450 : decode cL_law 450 = .ok (.iconst 0, 1) := by decide +kernel
theorem dL_law_451 : decode cL_law 451 = .ok (.ireturn, 1) := by decide +kernel
theorem dL_law_452 : decode cL_law 452 = .ok (.iload 5, 2) := by decide +kernel
theorem dL_law_454 : decode cL_law 454 = .ok (.ifCond .ne 15, 3) := by decide +kernel
theorem dL_law_457 : decode cL_law 457 = .ok (.aload_n 3, 1) := by decide +kernel
theorem dL_law_458 : decode cL_law 458 = .ok (.iconst 0, 1) := by decide +kernel
theorem dL_law_459 : decode cL_law 459 = .ok (.laload, 1) := by decide +kernel
theorem dL_law_460 : decode cL_law 460 = .ok (.iload 6, 2) := by decide +kernel
theorem dL_law_462 : decode cL_law 462 = .ok (.i2l, 1) := by decide +kernel
theorem dL_law_463 : decode cL_law 463 = .ok (.lcmp, 1) := by decide +kernel
theorem dL_law_464 : decode cL_law 464 = .ok (.ifCond .eq 5, 3) := by decide +kernel
theorem dL_law_467 : decode cL_law 467 = .ok (.iconst 0, 1) := by decide +kernel
theorem dL_law_468 : decode cL_law 468 = .ok (.ireturn, 1) := by decide +kernel
theorem dL_law_469 : decode cL_law 469 = .ok (.goto 2306, 3) := by decide +kernel
theorem dL_law_472 : decode cL_law 472 = .ok (.aload_n 1, 1) := by decide +kernel
theorem dL_law_473 : decode cL_law 473 = .ok (.aload_n 0, 1) := by decide +kernel
theorem dL_law_474 : decode cL_law 474 = .ok (.iload 4, 2) := by decide +kernel
theorem dL_law_476 : decode cL_law 476 = .ok (.iconst 1, 1) := by decide +kernel
theorem dL_law_477 : decode cL_law 477 = .ok (.iadd, 1) := by decide +kernel
theorem dL_law_478 : decode cL_law 478 = .ok (.iaload, 1) := by decide +kernel
theorem dL_law_479 : decode cL_law 479 = .ok (.aload_n 0, 1) := by decide +kernel
theorem dL_law_480 : decode cL_law 480 = .ok (.iload 4, 2) := by decide +kernel
theorem dL_law_482 : decode cL_law 482 = .ok (.iconst 2, 1) := by decide +kernel
theorem dL_law_483 : decode cL_law 483 = .ok (.iadd, 1) := by decide +kernel
theorem dL_law_484 : decode cL_law 484 = .ok (.iaload, 1) := by decide +kernel
theorem dL_law_485 : decode cL_law 485 = .ok (.aload_n 0, 1) := by decide +kernel
theorem dL_law_486 : decode cL_law 486 = .ok (.iload 4, 2) := by decide +kernel
theorem dL_law_488 : decode cL_law 488 = .ok (.iconst 3, 1) := by decide +kernel
theorem dL_law_489 : decode cL_law 489 = .ok (.iadd, 1) := by decide +kernel
theorem dL_law_490 : decode cL_law 490 = .ok (.iaload, 1) := by decide +kernel
theorem dL_law_491 : decode cL_law 491 = .ok (.aload_n 0, 1) := by decide +kernel
theorem dL_law_492 : decode cL_law 492 = .ok (.iload 4, 2) := by decide +kernel
theorem dL_law_494 : decode cL_law 494 = .ok (.iconst 4, 1) := by decide +kernel
theorem dL_law_495 : decode cL_law 495 = .ok (.iadd, 1) := by decide +kernel
theorem dL_law_496 : decode cL_law 496 = .ok (.iaload, 1) := by decide +kernel
theorem dL_law_497 : decode cL_law 497 = .ok (.aload_n 3, 1) := by decide +kernel
theorem dL_law_498 : decode cL_law 498 = .ok (.invokestatic 170, 3) := by decide +kernel
theorem dL_law_501 : decode cL_law 501 = .ok (.istore 5, 2) := by decide +kernel
theorem dL_law_503 : decode cL_law 503 = .ok (.aload_n 2, 1) := by decide +kernel
theorem dL_law_504 : decode cL_law 504 = .ok (.aload_n 0, 1) := by decide +kernel
theorem dL_law_505 : decode cL_law 505 = .ok (.iload 4, 2) := by decide +kernel
theorem dL_law_507 : decode cL_law 507 = .ok (.iconst 1, 1) := by decide +kernel
theorem dL_law_508 : decode cL_law 508 = .ok (.iadd, 1) := by decide +kernel
theorem dL_law_509 : decode cL_law 509 = .ok (.iaload, 1) := by decide +kernel
theorem dL_law_510 : decode cL_law 510 = .ok (.aload_n 0, 1) := by decide +kernel
theorem dL_law_511 : decode cL_law 511 = .ok (.iload 4, 2) := by decide +kernel
theorem dL_law_513 : decode cL_law 513 = .ok (.iconst 2, 1) := by decide +kernel
theorem dL_law_514 : decode cL_law 514 = .ok (.iadd, 1) := by decide +kernel
theorem dL_law_515 : decode cL_law 515 = .ok (.iaload, 1) := by decide +kernel
theorem dL_law_516 : decode cL_law 516 = .ok (.aload_n 0, 1) := by decide +kernel
theorem dL_law_517 : decode cL_law 517 = .ok (.iload 4, 2) := by decide +kernel
theorem dL_law_519 : decode cL_law 519 = .ok (.iconst 3, 1) := by decide +kernel
theorem dL_law_520 : decode cL_law 520 = .ok (.iadd, 1) := by decide +kernel
theorem dL_law_521 : decode cL_law 521 = .ok (.iaload, 1) := by decide +kernel
theorem dL_law_522 : decode cL_law 522 = .ok (.aload_n 0, 1) := by decide +kernel
theorem dL_law_523 : decode cL_law 523 = .ok (.iload 4, 2) := by decide +kernel
theorem dL_law_525 : decode cL_law 525 = .ok (.iconst 4, 1) := by decide +kernel
theorem dL_law_526 : decode cL_law 526 = .ok (.iadd, 1) := by decide +kernel
theorem dL_law_527 : decode cL_law 527 = .ok (.iaload, 1) := by decide +kernel
theorem dL_law_528 : decode cL_law 528 = .ok (.invokevirtual 173, 3) := by decide +kernel
theorem dL_law_531 : decode cL_law 531 = .ok (.istore 6, 2) := by decide +kernel
theorem dL_law_533 : decode cL_law 533 = .ok (.aload_n 2, 1) := by decide +kernel
theorem dL_law_534 : decode cL_law 534 = .ok (.invokevirtual 155, 3) := by decide +kernel
theorem dL_law_537 : decode cL_law 537 = .ok (.iload 5, 2) := by decide +kernel
theorem dL_law_539 : decode cL_law 539 = .ok (.if_icmp .eq 5, 3) := by decide +kernel
theorem dL_law_542 : decode cL_law 542 = .ok (.iconst 0, 1) := by decide +kernel
theorem dL_law_543 : decode cL_law 543 = .ok (.ireturn, 1) := by decide +kernel
theorem dL_law_544 : decode cL_law 544 = .ok (.iload 5, 2) := by decide +kernel
theorem dL_law_546 : decode cL_law 546 = .ok (.ifCond .ne 15, 3) := by decide +kernel
theorem dL_law_549 : decode cL_law 549 = .ok (.aload_n 3, 1) := by decide +kernel
theorem dL_law_550 : decode cL_law 550 = .ok (.iconst 0, 1) := by decide +kernel
theorem dL_law_551 : decode cL_law 551 = .ok (.laload, 1) := by decide +kernel
theorem dL_law_552 : decode cL_law 552 = .ok (.iload 6, 2) := by decide +kernel
theorem dL_law_554 : decode cL_law 554 = .ok (.i2l, 1) := by decide +kernel
theorem dL_law_555 : decode cL_law 555 = .ok (.lcmp, 1) := by decide +kernel
theorem dL_law_556 : decode cL_law 556 = .ok (.ifCond .eq 5, 3) := by decide +kernel
theorem dL_law_559 : decode cL_law 559 = .ok (.iconst 0, 1) := by decide +kernel
theorem dL_law_560 : decode cL_law 560 = .ok (.ireturn, 1) := by decide +kernel
theorem dL_law_561 : decode cL_law 561 = .ok (.goto 2214, 3) := by decide +kernel
theorem dL_law_564 : decode cL_law 564 = .ok (.aload_n 1, 1) := by decide +kernel
theorem dL_law_565 : decode cL_law 565 = .ok (.aload_n 0, 1) := by decide +kernel
theorem dL_law_566 : decode cL_law 566 = .ok (.iload 4, 2) := by decide +kernel
theorem dL_law_568 : decode cL_law 568 = .ok (.iconst 1, 1) := by decide +kernel
theorem dL_law_569 : decode cL_law 569 = .ok (.iadd, 1) := by decide +kernel
theorem dL_law_570 : decode cL_law 570 = .ok (.iaload, 1) := by decide +kernel
theorem dL_law_571 : decode cL_law 571 = .ok (.aload_n 3, 1) := by decide +kernel
theorem dL_law_572 : decode cL_law 572 = .ok (.invokestatic 174, 3) := by decide +kernel
theorem dL_law_575 : decode cL_law 575 = .ok (.istore 5, 2) := by decide +kernel
theorem dL_law_577 : decode cL_law 577 = .ok (.aload_n 2, 1) := by decide +kernel
theorem dL_law_578 : decode cL_law 578 = .ok (.aload_n 0, 1) := by decide +kernel
theorem dL_law_579 : decode cL_law 579 = .ok (.iload 4, 2) := by decide +kernel
theorem dL_law_581 : decode cL_law 581 = .ok (.iconst 1, 1) := by decide +kernel
theorem dL_law_582 : decode cL_law 582 = .ok (.iadd, 1) := by decide +kernel
theorem dL_law_583 : decode cL_law 583 = .ok (.iaload, 1) := by decide +kernel
theorem dL_law_584 : decode cL_law 584 = .ok (.invokevirtual 176, 3) := by decide +kernel
theorem dL_law_587 : decode cL_law 587 = .ok (.istore 6, 2) := by decide +kernel
theorem dL_law_589 : decode cL_law 589 = .ok (.aload_n 2, 1) := by decide +kernel
theorem dL_law_590 : decode cL_law 590 = .ok (.invokevirtual 155, 3) := by decide +kernel
theorem dL_law_593 : decode cL_law 593 = .ok (.iload 5, 2) := by decide +kernel
theorem dL_law_595 : decode cL_law 595 = .ok (.if_icmp .eq 5, 3) := by decide +kernel
theorem dL_law_598 : decode cL_law 598 = .ok (.iconst 0, 1) := by decide +kernel
theorem dL_law_599 : decode cL_law 599 = .ok (.ireturn, 1) := by decide +kernel
theorem dL_law_600 : decode cL_law 600 = .ok (.iload 5, 2) := by decide +kernel
theorem dL_law_602 : decode cL_law 602 = .ok (.ifCond .ne 15, 3) := by decide +kernel
theorem dL_law_605 : decode cL_law 605 = .ok (.aload_n 3, 1) := by decide +kernel
theorem dL_law_606 : decode cL_law 606 = .ok (.iconst 0, 1) := by decide +kernel
theorem dL_law_607 : decode cL_law 607 = .ok (.laload, 1) := by decide +kernel
theorem dL_law_608 : decode cL_law 608 = .ok (.iload 6, 2) := by decide +kernel
theorem dL_law_610 : decode cL_law 610 = .ok (.i2l, 1) := by decide +kernel
theorem dL_law_611 : decode cL_law 611 = .ok (.lcmp, 1) := by decide +kernel
theorem dL_law_612 : decode cL_law 612 = .ok (.ifCond .eq 5, 3) := by decide +kernel
theorem dL_law_615 : decode cL_law 615 = .ok (.iconst 0, 1) := by decide +kernel
theorem dL_law_616 : decode cL_law 616 = .ok (.ireturn, 1) := by decide +kernel
theorem dL_law_617 : decode cL_law 617 = .ok (.goto 2158, 3) := by decide +kernel
theorem dL_law_620 : decode cL_law 620 = .ok (.aload_n 1, 1) := by decide +kernel
theorem dL_law_621 : decode cL_law 621 = .ok (.aload_n 0, 1) := by decide +kernel
theorem dL_law_622 : decode cL_law 622 = .ok (.iload 4, 2) := by decide +kernel
theorem dL_law_624 : decode cL_law 624 = .ok (.iconst 1, 1) := by decide +kernel
theorem dL_law_625 : decode cL_law 625 = .ok (.iadd, 1) := by decide +kernel
theorem dL_law_626 : decode cL_law 626 = .ok (.iaload, 1) := by decide +kernel
theorem dL_law_627 : decode cL_law 627 = .ok (.aload_n 0, 1) := by decide +kernel
theorem dL_law_628 : decode cL_law 628 = .ok (.iload 4, 2) := by decide +kernel
theorem dL_law_630 : decode cL_law 630 = .ok (.iconst 2, 1) := by decide +kernel
theorem dL_law_631 : decode cL_law 631 = .ok (.iadd, 1) := by decide +kernel
theorem dL_law_632 : decode cL_law 632 = .ok (.iaload, 1) := by decide +kernel
theorem dL_law_633 : decode cL_law 633 = .ok (.aload_n 0, 1) := by decide +kernel
theorem dL_law_634 : decode cL_law 634 = .ok (.iload 4, 2) := by decide +kernel
theorem dL_law_636 : decode cL_law 636 = .ok (.iconst 3, 1) := by decide +kernel
theorem dL_law_637 : decode cL_law 637 = .ok (.iadd, 1) := by decide +kernel
theorem dL_law_638 : decode cL_law 638 = .ok (.iaload, 1) := by decide +kernel
theorem dL_law_639 : decode cL_law 639 = .ok (.aload_n 3, 1) := by decide +kernel
theorem dL_law_640 : decode cL_law 640 = .ok (.invokestatic 177, 3) := by decide +kernel
theorem dL_law_643 : decode cL_law 643 = .ok (.istore 5, 2) := by decide +kernel
theorem dL_law_645 : decode cL_law 645 = .ok (.aload_n 2, 1) := by decide +kernel
theorem dL_law_646 : decode cL_law 646 = .ok (.aload_n 0, 1) := by decide +kernel
theorem dL_law_647 : decode cL_law 647 = .ok (.iload 4, 2) := by decide +kernel
theorem dL_law_649 : decode cL_law 649 = .ok (.iconst 1, 1) := by decide +kernel
theorem dL_law_650 : decode cL_law 650 = .ok (.iadd, 1) := by decide +kernel
theorem dL_law_651 : decode cL_law 651 = .ok (.iaload, 1) := by decide +kernel
theorem dL_law_652 : decode cL_law 652 = .ok (.aload_n 0, 1) := by decide +kernel
theorem dL_law_653 : decode cL_law 653 = .ok (.iload 4, 2) := by decide +kernel
theorem dL_law_655 : decode cL_law 655 = .ok (.iconst 2, 1) := by decide +kernel
theorem dL_law_656 : decode cL_law 656 = .ok (.iadd, 1) := by decide +kernel
theorem dL_law_657 : decode cL_law 657 = .ok (.iaload, 1) := by decide +kernel
theorem dL_law_658 : decode cL_law 658 = .ok (.aload_n 0, 1) := by decide +kernel
theorem dL_law_659 : decode cL_law 659 = .ok (.iload 4, 2) := by decide +kernel
theorem dL_law_661 : decode cL_law 661 = .ok (.iconst 3, 1) := by decide +kernel
theorem dL_law_662 : decode cL_law 662 = .ok (.iadd, 1) := by decide +kernel
theorem dL_law_663 : decode cL_law 663 = .ok (.iaload, 1) := by decide +kernel
theorem dL_law_664 : decode cL_law 664 = .ok (.invokevirtual 179, 3) := by decide +kernel
theorem dL_law_667 : decode cL_law 667 = .ok (.istore 6, 2) := by decide +kernel
theorem dL_law_669 : decode cL_law 669 = .ok (.aload_n 2, 1) := by decide +kernel
theorem dL_law_670 : decode cL_law 670 = .ok (.invokevirtual 155, 3) := by decide +kernel
theorem dL_law_673 : decode cL_law 673 = .ok (.iload 5, 2) := by decide +kernel
theorem dL_law_675 : decode cL_law 675 = .ok (.if_icmp .eq 5, 3) := by decide +kernel
theorem dL_law_678 : decode cL_law 678 = .ok (.iconst 0, 1) := by decide +kernel
theorem dL_law_679 : decode cL_law 679 = .ok (.ireturn, 1) := by decide +kernel
theorem dL_law_680 : decode cL_law 680 = .ok (.iload 5, 2) := by decide +kernel
theorem dL_law_682 : decode cL_law 682 = .ok (.ifCond .ne 15, 3) := by decide +kernel
theorem dL_law_685 : decode cL_law 685 = .ok (.aload_n 3, 1) := by decide +kernel
theorem dL_law_686 : decode cL_law 686 = .ok (.iconst 0, 1) := by decide +kernel
theorem dL_law_687 : decode cL_law 687 = .ok (.laload, 1) := by decide +kernel
theorem dL_law_688 : decode cL_law 688 = .ok (.iload 6, 2) := by decide +kernel
theorem dL_law_690 : decode cL_law 690 = .ok (.i2l, 1) := by decide +kernel
theorem dL_law_691 : decode cL_law 691 = .ok (.lcmp, 1) := by decide +kernel
theorem dL_law_692 : decode cL_law 692 = .ok (.ifCond .eq 5, 3) := by decide +kernel
theorem dL_law_695 : decode cL_law 695 = .ok (.iconst 0, 1) := by decide +kernel
theorem dL_law_696 : decode cL_law 696 = .ok (.ireturn, 1) := by decide +kernel
theorem dL_law_697 : decode cL_law 697 = .ok (.goto 2078, 3) := by decide +kernel
theorem dL_law_700 : decode cL_law 700 = .ok (.aload_n 1, 1) := by decide +kernel
theorem dL_law_701 : decode cL_law 701 = .ok (.aload_n 0, 1) := by decide +kernel
theorem dL_law_702 : decode cL_law 702 = .ok (.iload 4, 2) := by decide +kernel
theorem dL_law_704 : decode cL_law 704 = .ok (.iconst 1, 1) := by decide +kernel
theorem dL_law_705 : decode cL_law 705 = .ok (.iadd, 1) := by decide +kernel
theorem dL_law_706 : decode cL_law 706 = .ok (.iaload, 1) := by decide +kernel
theorem dL_law_707 : decode cL_law 707 = .ok (.aload_n 3, 1) := by decide +kernel
theorem dL_law_708 : decode cL_law 708 = .ok (.invokestatic 180, 3) := by decide +kernel
theorem dL_law_711 : decode cL_law 711 = .ok (.istore 5, 2) := by decide +kernel
theorem dL_law_713 : decode cL_law 713 = .ok (.aload_n 2, 1) := by decide +kernel
theorem dL_law_714 : decode cL_law 714 = .ok (.aload_n 0, 1) := by decide +kernel
theorem dL_law_715 : decode cL_law 715 = .ok (.iload 4, 2) := by decide +kernel
theorem dL_law_717 : decode cL_law 717 = .ok (.iconst 1, 1) := by decide +kernel
theorem dL_law_718 : decode cL_law 718 = .ok (.iadd, 1) := by decide +kernel
theorem dL_law_719 : decode cL_law 719 = .ok (.iaload, 1) := by decide +kernel
theorem dL_law_720 : decode cL_law 720 = .ok (.invokevirtual 182, 3) := by decide +kernel
theorem dL_law_723 : decode cL_law 723 = .ok (.istore 6, 2) := by decide +kernel
theorem dL_law_725 : decode cL_law 725 = .ok (.aload_n 2, 1) := by decide +kernel
theorem dL_law_726 : decode cL_law 726 = .ok (.invokevirtual 155, 3) := by decide +kernel
theorem dL_law_729 : decode cL_law 729 = .ok (.iload 5, 2) := by decide +kernel
theorem dL_law_731 : decode cL_law 731 = .ok (.if_icmp .eq 5, 3) := by decide +kernel
theorem dL_law_734 : decode cL_law 734 = .ok (.iconst 0, 1) := by decide +kernel
theorem dL_law_735 : decode cL_law 735 = .ok (.ireturn, 1) := by decide +kernel
theorem dL_law_736 : decode cL_law 736 = .ok (.iload 5, 2) := by decide +kernel
theorem dL_law_738 : decode cL_law 738 = .ok (.ifCond .ne 15, 3) := by decide +kernel
theorem dL_law_741 : decode cL_law 741 = .ok (.aload_n 3, 1) := by decide +kernel
theorem dL_law_742 : decode cL_law 742 = .ok (.iconst 0, 1) := by decide +kernel
theorem dL_law_743 : decode cL_law 743 = .ok (.laload, 1) := by decide +kernel
theorem dL_law_744 : decode cL_law 744 = .ok (.iload 6, 2) := by decide +kernel
theorem dL_law_746 : decode cL_law 746 = .ok (.i2l, 1) := by decide +kernel
theorem dL_law_747 : decode cL_law 747 = .ok (.lcmp, 1) := by decide +kernel
theorem dL_law_748 : decode cL_law 748 = .ok (.ifCond .eq 5, 3) := by decide +kernel
theorem dL_law_751 : decode cL_law 751 = .ok (.iconst 0, 1) := by decide +kernel
theorem dL_law_752 : decode cL_law 752 = .ok (.ireturn, 1) := by decide +kernel
theorem dL_law_753 : decode cL_law 753 = .ok (.goto 2022, 3) := by decide +kernel
theorem dL_law_756 : decode cL_law 756 = .ok (.aload_n 1, 1) := by decide +kernel
theorem dL_law_757 : decode cL_law 757 = .ok (.aload_n 0, 1) := by decide +kernel
theorem dL_law_758 : decode cL_law 758 = .ok (.iload 4, 2) := by decide +kernel
theorem dL_law_760 : decode cL_law 760 = .ok (.iconst 1, 1) := by decide +kernel
theorem dL_law_761 : decode cL_law 761 = .ok (.iadd, 1) := by decide +kernel
theorem dL_law_762 : decode cL_law 762 = .ok (.iaload, 1) := by decide +kernel
theorem dL_law_763 : decode cL_law 763 = .ok (.aload_n 0, 1) := by decide +kernel
theorem dL_law_764 : decode cL_law 764 = .ok (.iload 4, 2) := by decide +kernel
theorem dL_law_766 : decode cL_law 766 = .ok (.iconst 2, 1) := by decide +kernel
theorem dL_law_767 : decode cL_law 767 = .ok (.iadd, 1) := by decide +kernel
theorem dL_law_768 : decode cL_law 768 = .ok (.iaload, 1) := by decide +kernel
theorem dL_law_769 : decode cL_law 769 = .ok (.aload_n 0, 1) := by decide +kernel
theorem dL_law_770 : decode cL_law 770 = .ok (.iload 4, 2) := by decide +kernel
theorem dL_law_772 : decode cL_law 772 = .ok (.iconst 3, 1) := by decide +kernel
theorem dL_law_773 : decode cL_law 773 = .ok (.iadd, 1) := by decide +kernel
theorem dL_law_774 : decode cL_law 774 = .ok (.iaload, 1) := by decide +kernel
theorem dL_law_775 : decode cL_law 775 = .ok (.aload_n 3, 1) := by decide +kernel
theorem dL_law_776 : decode cL_law 776 = .ok (.invokestatic 183, 3) := by decide +kernel
theorem dL_law_779 : decode cL_law 779 = .ok (.istore 5, 2) := by decide +kernel
theorem dL_law_781 : decode cL_law 781 = .ok (.aload_n 2, 1) := by decide +kernel
theorem dL_law_782 : decode cL_law 782 = .ok (.aload_n 0, 1) := by decide +kernel
theorem dL_law_783 : decode cL_law 783 = .ok (.iload 4, 2) := by decide +kernel
theorem dL_law_785 : decode cL_law 785 = .ok (.iconst 1, 1) := by decide +kernel
theorem dL_law_786 : decode cL_law 786 = .ok (.iadd, 1) := by decide +kernel
theorem dL_law_787 : decode cL_law 787 = .ok (.iaload, 1) := by decide +kernel
theorem dL_law_788 : decode cL_law 788 = .ok (.aload_n 0, 1) := by decide +kernel
theorem dL_law_789 : decode cL_law 789 = .ok (.iload 4, 2) := by decide +kernel
theorem dL_law_791 : decode cL_law 791 = .ok (.iconst 2, 1) := by decide +kernel
theorem dL_law_792 : decode cL_law 792 = .ok (.iadd, 1) := by decide +kernel
theorem dL_law_793 : decode cL_law 793 = .ok (.iaload, 1) := by decide +kernel
theorem dL_law_794 : decode cL_law 794 = .ok (.aload_n 0, 1) := by decide +kernel
theorem dL_law_795 : decode cL_law 795 = .ok (.iload 4, 2) := by decide +kernel
theorem dL_law_797 : decode cL_law 797 = .ok (.iconst 3, 1) := by decide +kernel
theorem dL_law_798 : decode cL_law 798 = .ok (.iadd, 1) := by decide +kernel
theorem dL_law_799 : decode cL_law 799 = .ok (.iaload, 1) := by decide +kernel
theorem dL_law_800 : decode cL_law 800 = .ok (.invokevirtual 185, 3) := by decide +kernel
theorem dL_law_803 : decode cL_law 803 = .ok (.istore 6, 2) := by decide +kernel
theorem dL_law_805 : decode cL_law 805 = .ok (.aload_n 2, 1) := by decide +kernel
theorem dL_law_806 : decode cL_law 806 = .ok (.invokevirtual 155, 3) := by decide +kernel
theorem dL_law_809 : decode cL_law 809 = .ok (.iload 5, 2) := by decide +kernel
theorem dL_law_811 : decode cL_law 811 = .ok (.if_icmp .eq 5, 3) := by decide +kernel
theorem dL_law_814 : decode cL_law 814 = .ok (.iconst 0, 1) := by decide +kernel
theorem dL_law_815 : decode cL_law 815 = .ok (.ireturn, 1) := by decide +kernel
theorem dL_law_816 : decode cL_law 816 = .ok (.iload 5, 2) := by decide +kernel
theorem dL_law_818 : decode cL_law 818 = .ok (.ifCond .ne 15, 3) := by decide +kernel
theorem dL_law_821 : decode cL_law 821 = .ok (.aload_n 3, 1) := by decide +kernel
theorem dL_law_822 : decode cL_law 822 = .ok (.iconst 0, 1) := by decide +kernel
theorem dL_law_823 : decode cL_law 823 = .ok (.laload, 1) := by decide +kernel
theorem dL_law_824 : decode cL_law 824 = .ok (.iload 6, 2) := by decide +kernel
theorem dL_law_826 : decode cL_law 826 = .ok (.i2l, 1) := by decide +kernel
theorem dL_law_827 : decode cL_law 827 = .ok (.lcmp, 1) := by decide +kernel
theorem dL_law_828 : decode cL_law 828 = .ok (.ifCond .eq 5, 3) := by decide +kernel
theorem dL_law_831 : decode cL_law 831 = .ok (.iconst 0, 1) := by decide +kernel
theorem dL_law_832 : decode cL_law 832 = .ok (.ireturn, 1) := by decide +kernel
theorem dL_law_833 : decode cL_law 833 = .ok (.goto 1942, 3) := by decide +kernel
theorem dL_law_836 : decode cL_law 836 = .ok (.aload_n 1, 1) := by decide +kernel
theorem dL_law_837 : decode cL_law 837 = .ok (.aload_n 0, 1) := by decide +kernel
theorem dL_law_838 : decode cL_law 838 = .ok (.iload 4, 2) := by decide +kernel
theorem dL_law_840 : decode cL_law 840 = .ok (.iconst 1, 1) := by decide +kernel
theorem dL_law_841 : decode cL_law 841 = .ok (.iadd, 1) := by decide +kernel
theorem dL_law_842 : decode cL_law 842 = .ok (.iaload, 1) := by decide +kernel
theorem dL_law_843 : decode cL_law 843 = .ok (.aload_n 0, 1) := by decide +kernel
theorem dL_law_844 : decode cL_law 844 = .ok (.iload 4, 2) := by decide +kernel
theorem dL_law_846 : decode cL_law 846 = .ok (.iconst 2, 1) := by decide +kernel
theorem dL_law_847 : decode cL_law 847 = .ok (.iadd, 1) := by decide +kernel
theorem dL_law_848 : decode cL_law 848 = .ok (.iaload, 1) := by decide +kernel
theorem dL_law_849 : decode cL_law 849 = .ok (.aload_n 3, 1) := by decide +kernel
theorem dL_law_850 : decode cL_law 850 = .ok (.invokestatic 186, 3) := by decide +kernel
theorem dL_law_853 : decode cL_law 853 = .ok (.istore 5, 2) := by decide +kernel
theorem dL_law_855 : decode cL_law 855 = .ok (.aload_n 2, 1) := by decide +kernel
theorem dL_law_856 : decode cL_law 856 = .ok (.aload_n 0, 1) := by decide +kernel
theorem dL_law_857 : decode cL_law 857 = .ok (.iload 4, 2) := by decide +kernel
theorem dL_law_859 : decode cL_law 859 = .ok (.iconst 1, 1) := by decide +kernel
theorem dL_law_860 : decode cL_law 860 = .ok (.iadd, 1) := by decide +kernel
theorem dL_law_861 : decode cL_law 861 = .ok (.iaload, 1) := by decide +kernel
theorem dL_law_862 : decode cL_law 862 = .ok (.aload_n 0, 1) := by decide +kernel
theorem dL_law_863 : decode cL_law 863 = .ok (.iload 4, 2) := by decide +kernel
theorem dL_law_865 : decode cL_law 865 = .ok (.iconst 2, 1) := by decide +kernel
theorem dL_law_866 : decode cL_law 866 = .ok (.iadd, 1) := by decide +kernel
theorem dL_law_867 : decode cL_law 867 = .ok (.iaload, 1) := by decide +kernel
theorem dL_law_868 : decode cL_law 868 = .ok (.invokevirtual 188, 3) := by decide +kernel
theorem dL_law_871 : decode cL_law 871 = .ok (.istore 6, 2) := by decide +kernel
theorem dL_law_873 : decode cL_law 873 = .ok (.aload_n 2, 1) := by decide +kernel
theorem dL_law_874 : decode cL_law 874 = .ok (.invokevirtual 155, 3) := by decide +kernel
theorem dL_law_877 : decode cL_law 877 = .ok (.iload 5, 2) := by decide +kernel
theorem dL_law_879 : decode cL_law 879 = .ok (.if_icmp .eq 5, 3) := by decide +kernel
theorem dL_law_882 : decode cL_law 882 = .ok (.iconst 0, 1) := by decide +kernel
theorem dL_law_883 : decode cL_law 883 = .ok (.ireturn, 1) := by decide +kernel
theorem dL_law_884 : decode cL_law 884 = .ok (.iload 5, 2) := by decide +kernel
theorem dL_law_886 : decode cL_law 886 = .ok (.ifCond .ne 15, 3) := by decide +kernel
theorem dL_law_889 : decode cL_law 889 = .ok (.aload_n 3, 1) := by decide +kernel
theorem dL_law_890 : decode cL_law 890 = .ok (.iconst 0, 1) := by decide +kernel
theorem dL_law_891 : decode cL_law 891 = .ok (.laload, 1) := by decide +kernel
theorem dL_law_892 : decode cL_law 892 = .ok (.iload 6, 2) := by decide +kernel
theorem dL_law_894 : decode cL_law 894 = .ok (.i2l, 1) := by decide +kernel
theorem dL_law_895 : decode cL_law 895 = .ok (.lcmp, 1) := by decide +kernel
theorem dL_law_896 : decode cL_law 896 = .ok (.ifCond .eq 5, 3) := by decide +kernel
theorem dL_law_899 : decode cL_law 899 = .ok (.iconst 0, 1) := by decide +kernel
theorem dL_law_900 : decode cL_law 900 = .ok (.ireturn, 1) := by decide +kernel
theorem dL_law_901 : decode cL_law 901 = .ok (.goto 1874, 3) := by decide +kernel
theorem dL_law_904 : decode cL_law 904 = .ok (.aload_n 1, 1) := by decide +kernel
theorem dL_law_905 : decode cL_law 905 = .ok (.aload_n 0, 1) := by decide +kernel
theorem dL_law_906 : decode cL_law 906 = .ok (.iload 4, 2) := by decide +kernel
theorem dL_law_908 : decode cL_law 908 = .ok (.iconst 1, 1) := by decide +kernel
theorem dL_law_909 : decode cL_law 909 = .ok (.iadd, 1) := by decide +kernel
theorem dL_law_910 : decode cL_law 910 = .ok (.iaload, 1) := by decide +kernel
theorem dL_law_911 : decode cL_law 911 = .ok (.aload_n 3, 1) := by decide +kernel
theorem dL_law_912 : decode cL_law 912 = .ok (.invokestatic 189, 3) := by decide +kernel
theorem dL_law_915 : decode cL_law 915 = .ok (.istore 5, 2) := by decide +kernel
theorem dL_law_917 : decode cL_law 917 = .ok (.aload_n 2, 1) := by decide +kernel
theorem dL_law_918 : decode cL_law 918 = .ok (.aload_n 0, 1) := by decide +kernel
theorem dL_law_919 : decode cL_law 919 = .ok (.iload 4, 2) := by decide +kernel
theorem dL_law_921 : decode cL_law 921 = .ok (.iconst 1, 1) := by decide +kernel
theorem dL_law_922 : decode cL_law 922 = .ok (.iadd, 1) := by decide +kernel
theorem dL_law_923 : decode cL_law 923 = .ok (.iaload, 1) := by decide +kernel
theorem dL_law_924 : decode cL_law 924 = .ok (.invokevirtual 191, 3) := by decide +kernel
theorem dL_law_927 : decode cL_law 927 = .ok (.istore 6, 2) := by decide +kernel
theorem dL_law_929 : decode cL_law 929 = .ok (.aload_n 2, 1) := by decide +kernel
theorem dL_law_930 : decode cL_law 930 = .ok (.invokevirtual 155, 3) := by decide +kernel
theorem dL_law_933 : decode cL_law 933 = .ok (.iload 5, 2) := by decide +kernel
theorem dL_law_935 : decode cL_law 935 = .ok (.if_icmp .eq 5, 3) := by decide +kernel
theorem dL_law_938 : decode cL_law 938 = .ok (.iconst 0, 1) := by decide +kernel
theorem dL_law_939 : decode cL_law 939 = .ok (.ireturn, 1) := by decide +kernel
theorem dL_law_940 : decode cL_law 940 = .ok (.iload 5, 2) := by decide +kernel
theorem dL_law_942 : decode cL_law 942 = .ok (.ifCond .ne 15, 3) := by decide +kernel
theorem dL_law_945 : decode cL_law 945 = .ok (.aload_n 3, 1) := by decide +kernel
theorem dL_law_946 : decode cL_law 946 = .ok (.iconst 0, 1) := by decide +kernel
theorem dL_law_947 : decode cL_law 947 = .ok (.laload, 1) := by decide +kernel
theorem dL_law_948 : decode cL_law 948 = .ok (.iload 6, 2) := by decide +kernel
theorem dL_law_950 : decode cL_law 950 = .ok (.i2l, 1) := by decide +kernel
theorem dL_law_951 : decode cL_law 951 = .ok (.lcmp, 1) := by decide +kernel
theorem dL_law_952 : decode cL_law 952 = .ok (.ifCond .eq 5, 3) := by decide +kernel
theorem dL_law_955 : decode cL_law 955 = .ok (.iconst 0, 1) := by decide +kernel
theorem dL_law_956 : decode cL_law 956 = .ok (.ireturn, 1) := by decide +kernel
theorem dL_law_957 : decode cL_law 957 = .ok (.goto 1818, 3) := by decide +kernel
theorem dL_law_960 : decode cL_law 960 = .ok (.aload_n 1, 1) := by decide +kernel
theorem dL_law_961 : decode cL_law 961 = .ok (.aload_n 3, 1) := by decide +kernel
theorem dL_law_962 : decode cL_law 962 = .ok (.invokestatic 192, 3) := by decide +kernel
theorem dL_law_965 : decode cL_law 965 = .ok (.istore 5, 2) := by decide +kernel
theorem dL_law_967 : decode cL_law 967 = .ok (.aload_n 2, 1) := by decide +kernel
theorem dL_law_968 : decode cL_law 968 = .ok (.invokevirtual 194, 3) := by decide +kernel
theorem dL_law_971 : decode cL_law 971 = .ok (.istore 6, 2) := by decide +kernel
theorem dL_law_973 : decode cL_law 973 = .ok (.aload_n 2, 1) := by decide +kernel
theorem dL_law_974 : decode cL_law 974 = .ok (.invokevirtual 155, 3) := by decide +kernel
theorem dL_law_977 : decode cL_law 977 = .ok (.iload 5, 2) := by decide +kernel
theorem dL_law_979 : decode cL_law 979 = .ok (.if_icmp .eq 5, 3) := by decide +kernel
theorem dL_law_982 : decode cL_law 982 = .ok (.iconst 0, 1) := by decide +kernel
theorem dL_law_983 : decode cL_law 983 = .ok (.ireturn, 1) := by decide +kernel
theorem dL_law_984 : decode cL_law 984 = .ok (.iload 5, 2) := by decide +kernel
theorem dL_law_986 : decode cL_law 986 = .ok (.ifCond .ne 15, 3) := by decide +kernel
theorem dL_law_989 : decode cL_law 989 = .ok (.aload_n 3, 1) := by decide +kernel
theorem dL_law_990 : decode cL_law 990 = .ok (.iconst 0, 1) := by decide +kernel
theorem dL_law_991 : decode cL_law 991 = .ok (.laload, 1) := by decide +kernel
theorem dL_law_992 : decode cL_law 992 = .ok (.iload 6, 2) := by decide +kernel
theorem dL_law_994 : decode cL_law 994 = .ok (.i2l, 1) := by decide +kernel
theorem dL_law_995 : decode cL_law 995 = .ok (.lcmp, 1) := by decide +kernel
theorem dL_law_996 : decode cL_law 996 = .ok (.ifCond .eq 5, 3) := by decide +kernel
theorem dL_law_999 : decode cL_law 999 = .ok (.iconst 0, 1) := by decide +kernel
theorem dL_law_1000 : decode cL_law 1000 = .ok (.ireturn, 1) := by decide +kernel
theorem dL_law_1001 : decode cL_law 1001 = .ok (.goto 1774, 3) := by decide +kernel
theorem dL_law_1004 : decode cL_law 1004 = .ok (.aload_n 1, 1) := by decide +kernel
theorem dL_law_1005 : decode cL_law 1005 = .ok (.invokevirtual 195, 3) := by decide +kernel
theorem dL_law_1008 : decode cL_law 1008 = .ok (.aload_n 2, 1) := by decide +kernel
theorem dL_law_1009 : decode cL_law 1009 = .ok (.invokevirtual 198, 3) := by decide +kernel
theorem dL_law_1012 : decode cL_law 1012 = .ok (.if_icmp .eq 1763, 3) := by decide +kernel
theorem dL_law_1015 : decode cL_law 1015 = .ok (.iconst 0, 1) := by decide +kernel
theorem dL_law_1016 : decode cL_law 1016 = .ok (.ireturn, 1) := by decide +kernel
theorem dL_law_1017 : decode cL_law 1017 = .ok (.aload_n 1, 1) := by decide +kernel
theorem dL_law_1018 : decode cL_law 1018 = .ok (.aload_n 0, 1) := by decide +kernel
theorem dL_law_1019 : decode cL_law 1019 = .ok (.iload 4, 2) := by decide +kernel
theorem dL_law_1021 : decode cL_law 1021 = .ok (.iconst 1, 1) := by decide +kernel
theorem dL_law_1022 : decode cL_law 1022 = .ok (.iadd, 1) := by decide +kernel
theorem dL_law_1023 : decode cL_law 1023 = .ok (.iaload, 1) := by decide +kernel
theorem dL_law_1024 : decode cL_law 1024 = .ok (.aload_n 3, 1) := by decide +kernel
theorem dL_law_1025 : decode cL_law 1025 = .ok (.invokestatic 199, 3) := by decide +kernel
theorem dL_law_1028 : decode cL_law 1028 = .ok (.istore 5, 2) := by decide +kernel
theorem dL_law_1030 : decode cL_law 1030 = .ok (.aload_n 2, 1) := by decide +kernel
theorem dL_law_1031 : decode cL_law 1031 = .ok (.aload_n 0, 1) := by decide +kernel
theorem dL_law_1032 : decode cL_law 1032 = .ok (.iload 4, 2) := by decide +kernel
theorem dL_law_1034 : decode cL_law 1034 = .ok (.iconst 1, 1) := by decide +kernel
theorem dL_law_1035 : decode cL_law 1035 = .ok (.iadd, 1) := by decide +kernel
theorem dL_law_1036 : decode cL_law 1036 = .ok (.iaload, 1) := by decide +kernel
theorem dL_law_1037 : decode cL_law 1037 = .ok (.invokevirtual 201, 3) := by decide +kernel
theorem dL_law_1040 : decode cL_law 1040 = .ok (.istore 6, 2) := by decide +kernel
theorem dL_law_1042 : decode cL_law 1042 = .ok (.aload_n 2, 1) := by decide +kernel
theorem dL_law_1043 : decode cL_law 1043 = .ok (.invokevirtual 155, 3) := by decide +kernel
theorem dL_law_1046 : decode cL_law 1046 = .ok (.iload 5, 2) := by decide +kernel
theorem dL_law_1048 : decode cL_law 1048 = .ok (.if_icmp .eq 5, 3) := by decide +kernel
theorem dL_law_1051 : decode cL_law 1051 = .ok (.iconst 0, 1) := by decide +kernel
theorem dL_law_1052 : decode cL_law 1052 = .ok (.ireturn, 1) := by decide +kernel
theorem dL_law_1053 : decode cL_law 1053 = .ok (.iload 5, 2) := by decide +kernel
theorem dL_law_1055 : decode cL_law 1055 = .ok (.ifCond .ne 15, 3) := by decide +kernel
theorem dL_law_1058 : decode cL_law 1058 = .ok (.aload_n 3, 1) := by decide +kernel
theorem dL_law_1059 : decode cL_law 1059 = .ok (.iconst 0, 1) := by decide +kernel
theorem dL_law_1060 : decode cL_law 1060 = .ok (.laload, 1) := by decide +kernel
theorem dL_law_1061 : decode cL_law 1061 = .ok (.iload 6, 2) := by decide +kernel
theorem dL_law_1063 : decode cL_law 1063 = .ok (.i2l, 1) := by decide +kernel
theorem dL_law_1064 : decode cL_law 1064 = .ok (.lcmp, 1) := by decide +kernel
theorem dL_law_1065 : decode cL_law 1065 = .ok (.ifCond .eq 5, 3) := by decide +kernel
theorem dL_law_1068 : decode cL_law 1068 = .ok (.iconst 0, 1) := by decide +kernel
theorem dL_law_1069 : decode cL_law 1069 = .ok (.ireturn, 1) := by decide +kernel
theorem dL_law_1070 : decode cL_law 1070 = .ok (.goto 1705, 3) := by decide +kernel
theorem dL_law_1073 : decode cL_law 1073 = .ok (.aload_n 1, 1) := by decide +kernel
theorem dL_law_1074 : decode cL_law 1074 = .ok (.aload_n 0, 1) := by decide +kernel
theorem dL_law_1075 : decode cL_law 1075 = .ok (.iload 4, 2) := by decide +kernel
theorem dL_law_1077 : decode cL_law 1077 = .ok (.iconst 1, 1) := by decide +kernel
theorem dL_law_1078 : decode cL_law 1078 = .ok (.iadd, 1) := by decide +kernel
theorem dL_law_1079 : decode cL_law 1079 = .ok (.iaload, 1) := by decide +kernel
theorem dL_law_1080 : decode cL_law 1080 = .ok (.aload_n 0, 1) := by decide +kernel
theorem dL_law_1081 : decode cL_law 1081 = .ok (.iload 4, 2) := by decide +kernel
theorem dL_law_1083 : decode cL_law 1083 = .ok (.iconst 2, 1) := by decide +kernel
theorem dL_law_1084 : decode cL_law 1084 = .ok (.iadd, 1) := by decide +kernel
theorem dL_law_1085 : decode cL_law 1085 = .ok (.iaload, 1) := by decide +kernel
theorem dL_law_1086 : decode cL_law 1086 = .ok (.aload_n 3, 1) := by decide +kernel
theorem dL_law_1087 : decode cL_law 1087 = .ok (.invokestatic 202, 3) := by decide +kernel
theorem dL_law_1090 : decode cL_law 1090 = .ok (.istore 5, 2) := by decide +kernel
theorem dL_law_1092 : decode cL_law 1092 = .ok (.aload_n 2, 1) := by decide +kernel
theorem dL_law_1093 : decode cL_law 1093 = .ok (.aload_n 0, 1) := by decide +kernel
theorem dL_law_1094 : decode cL_law 1094 = .ok (.iload 4, 2) := by decide +kernel
theorem dL_law_1096 : decode cL_law 1096 = .ok (.iconst 1, 1) := by decide +kernel
theorem dL_law_1097 : decode cL_law 1097 = .ok (.iadd, 1) := by decide +kernel
theorem dL_law_1098 : decode cL_law 1098 = .ok (.iaload, 1) := by decide +kernel
theorem dL_law_1099 : decode cL_law 1099 = .ok (.aload_n 0, 1) := by decide +kernel
theorem dL_law_1100 : decode cL_law 1100 = .ok (.iload 4, 2) := by decide +kernel
theorem dL_law_1102 : decode cL_law 1102 = .ok (.iconst 2, 1) := by decide +kernel
theorem dL_law_1103 : decode cL_law 1103 = .ok (.iadd, 1) := by decide +kernel
theorem dL_law_1104 : decode cL_law 1104 = .ok (.iaload, 1) := by decide +kernel
theorem dL_law_1105 : decode cL_law 1105 = .ok (.invokevirtual 204, 3) := by decide +kernel
theorem dL_law_1108 : decode cL_law 1108 = .ok (.istore 6, 2) := by decide +kernel
theorem dL_law_1110 : decode cL_law 1110 = .ok (.aload_n 2, 1) := by decide +kernel
theorem dL_law_1111 : decode cL_law 1111 = .ok (.invokevirtual 155, 3) := by decide +kernel
theorem dL_law_1114 : decode cL_law 1114 = .ok (.iload 5, 2) := by decide +kernel
theorem dL_law_1116 : decode cL_law 1116 = .ok (.if_icmp .eq 5, 3) := by decide +kernel
theorem dL_law_1119 : decode cL_law 1119 = .ok (.iconst 0, 1) := by decide +kernel
theorem dL_law_1120 : decode cL_law 1120 = .ok (.ireturn, 1) := by decide +kernel
theorem dL_law_1121 : decode cL_law 1121 = .ok (.iload 5, 2) := by decide +kernel
theorem dL_law_1123 : decode cL_law 1123 = .ok (.ifCond .ne 15, 3) := by decide +kernel
theorem dL_law_1126 : decode cL_law 1126 = .ok (.aload_n 3, 1) := by decide +kernel
theorem dL_law_1127 : decode cL_law 1127 = .ok (.iconst 0, 1) := by decide +kernel
theorem dL_law_1128 : decode cL_law 1128 = .ok (.laload, 1) := by decide +kernel
theorem dL_law_1129 : decode cL_law 1129 = .ok (.iload 6, 2) := by decide +kernel
theorem dL_law_1131 : decode cL_law 1131 = .ok (.i2l, 1) := by decide +kernel
theorem dL_law_1132 : decode cL_law 1132 = .ok (.lcmp, 1) := by decide +kernel
theorem dL_law_1133 : decode cL_law 1133 = .ok (.ifCond .eq 5, 3) := by decide +kernel
theorem dL_law_1136 : decode cL_law 1136 = .ok (.iconst 0, 1) := by decide +kernel
theorem dL_law_1137 : decode cL_law 1137 = .ok (.ireturn, 1) := by decide +kernel
theorem dL_law_1138 : decode cL_law 1138 = .ok (.goto 1637, 3) := by decide +kernel
theorem dL_law_1141 : decode cL_law 1141 = .ok (.aload_n 1, 1) := by decide +kernel
theorem dL_law_1142 : decode cL_law 1142 = .ok (.aload_n 0, 1) := by decide +kernel
theorem dL_law_1143 : decode cL_law 1143 = .ok (.iload 4, 2) := by decide +kernel
theorem dL_law_1145 : decode cL_law 1145 = .ok (.iconst 1, 1) := by decide +kernel
theorem dL_law_1146 : decode cL_law 1146 = .ok (.iadd, 1) := by decide +kernel
theorem dL_law_1147 : decode cL_law 1147 = .ok (.iaload, 1) := by decide +kernel
theorem dL_law_1148 : decode cL_law 1148 = .ok (.aload_n 0, 1) := by decide +kernel
theorem dL_law_1149 : decode cL_law 1149 = .ok (.iload 4, 2) := by decide +kernel
theorem dL_law_1151 : decode cL_law 1151 = .ok (.iconst 2, 1) := by decide +kernel
theorem dL_law_1152 : decode cL_law 1152 = .ok (.iadd, 1) := by decide +kernel
theorem dL_law_1153 : decode cL_law 1153 = .ok (.iaload, 1) := by decide +kernel
theorem dL_law_1154 : decode cL_law 1154 = .ok (.aload_n 3, 1) := by decide +kernel
theorem dL_law_1155 : decode cL_law 1155 = .ok (.invokestatic 205, 3) := by decide +kernel
theorem dL_law_1158 : decode cL_law 1158 = .ok (.istore 5, 2) := by decide +kernel
theorem dL_law_1160 : decode cL_law 1160 = .ok (.aload_n 2, 1) := by decide +kernel
theorem dL_law_1161 : decode cL_law 1161 = .ok (.aload_n 0, 1) := by decide +kernel
theorem dL_law_1162 : decode cL_law 1162 = .ok (.iload 4, 2) := by decide +kernel
theorem dL_law_1164 : decode cL_law 1164 = .ok (.iconst 1, 1) := by decide +kernel
theorem dL_law_1165 : decode cL_law 1165 = .ok (.iadd, 1) := by decide +kernel
theorem dL_law_1166 : decode cL_law 1166 = .ok (.iaload, 1) := by decide +kernel
theorem dL_law_1167 : decode cL_law 1167 = .ok (.aload_n 0, 1) := by decide +kernel
theorem dL_law_1168 : decode cL_law 1168 = .ok (.iload 4, 2) := by decide +kernel
theorem dL_law_1170 : decode cL_law 1170 = .ok (.iconst 2, 1) := by decide +kernel
theorem dL_law_1171 : decode cL_law 1171 = .ok (.iadd, 1) := by decide +kernel
theorem dL_law_1172 : decode cL_law 1172 = .ok (.iaload, 1) := by decide +kernel
theorem dL_law_1173 : decode cL_law 1173 = .ok (.invokevirtual 207, 3) := by decide +kernel
theorem dL_law_1176 : decode cL_law 1176 = .ok (.istore 6, 2) := by decide +kernel
theorem dL_law_1178 : decode cL_law 1178 = .ok (.aload_n 2, 1) := by decide +kernel
theorem dL_law_1179 : decode cL_law 1179 = .ok (.invokevirtual 155, 3) := by decide +kernel
theorem dL_law_1182 : decode cL_law 1182 = .ok (.iload 5, 2) := by decide +kernel
theorem dL_law_1184 : decode cL_law 1184 = .ok (.if_icmp .eq 5, 3) := by decide +kernel
theorem dL_law_1187 : decode cL_law 1187 = .ok (.iconst 0, 1) := by decide +kernel
theorem dL_law_1188 : decode cL_law 1188 = .ok (.ireturn, 1) := by decide +kernel
theorem dL_law_1189 : decode cL_law 1189 = .ok (.iload 5, 2) := by decide +kernel
theorem dL_law_1191 : decode cL_law 1191 = .ok (.ifCond .ne 15, 3) := by decide +kernel
theorem dL_law_1194 : decode cL_law 1194 = .ok (.aload_n 3, 1) := by decide +kernel
theorem dL_law_1195 : decode cL_law 1195 = .ok (.iconst 0, 1) := by decide +kernel
theorem dL_law_1196 : decode cL_law 1196 = .ok (.laload, 1) := by decide +kernel
theorem dL_law_1197 : decode cL_law 1197 = .ok (.iload 6, 2) := by decide +kernel
theorem dL_law_1199 : decode cL_law 1199 = .ok (.i2l, 1) := by decide +kernel
theorem dL_law_1200 : decode cL_law 1200 = .ok (.lcmp, 1) := by decide +kernel
theorem dL_law_1201 : decode cL_law 1201 = .ok (.ifCond .eq 5, 3) := by decide +kernel
theorem dL_law_1204 : decode cL_law 1204 = .ok (.iconst 0, 1) := by decide +kernel
theorem dL_law_1205 : decode cL_law 1205 = .ok (.ireturn, 1) := by decide +kernel
theorem dL_law_1206 : decode cL_law 1206 = .ok (.goto 1569, 3) := by decide +kernel
theorem dL_law_1209 : decode cL_law 1209 = .ok (.aload_n 1, 1) := by decide +kernel
theorem dL_law_1210 : decode cL_law 1210 = .ok (.aload_n 0, 1) := by decide +kernel
theorem dL_law_1211 : decode cL_law 1211 = .ok (.iload 4, 2) := by decide +kernel
theorem dL_law_1213 : decode cL_law 1213 = .ok (.iconst 1, 1) := by decide +kernel
theorem dL_law_1214 : decode cL_law 1214 = .ok (.iadd, 1) := by decide +kernel
theorem dL_law_1215 : decode cL_law 1215 = .ok (.iaload, 1) := by decide +kernel
theorem dL_law_1216 : decode cL_law 1216 = .ok (.aload_n 0, 1) := by decide +kernel
theorem dL_law_1217 : decode cL_law 1217 = .ok (.iload 4, 2) := by decide +kernel
theorem dL_law_1219 : decode cL_law 1219 = .ok (.iconst 2, 1) := by decide +kernel
theorem dL_law_1220 : decode cL_law 1220 = .ok (.iadd, 1) := by decide +kernel
theorem dL_law_1221 : decode cL_law 1221 = .ok (.iaload, 1) := by decide +kernel
theorem dL_law_1222 : decode cL_law 1222 = .ok (.aload_n 3, 1) := by decide +kernel
theorem dL_law_1223 : decode cL_law 1223 = .ok (.invokestatic 208, 3) := by decide +kernel
theorem dL_law_1226 : decode cL_law 1226 = .ok (.istore 5, 2) := by decide +kernel
theorem dL_law_1228 : decode cL_law 1228 = .ok (.aload_n 2, 1) := by decide +kernel
theorem dL_law_1229 : decode cL_law 1229 = .ok (.aload_n 0, 1) := by decide +kernel
theorem dL_law_1230 : decode cL_law 1230 = .ok (.iload 4, 2) := by decide +kernel
theorem dL_law_1232 : decode cL_law 1232 = .ok (.iconst 1, 1) := by decide +kernel
theorem dL_law_1233 : decode cL_law 1233 = .ok (.iadd, 1) := by decide +kernel
theorem dL_law_1234 : decode cL_law 1234 = .ok (.iaload, 1) := by decide +kernel
theorem dL_law_1235 : decode cL_law 1235 = .ok (.aload_n 0, 1) := by decide +kernel
theorem dL_law_1236 : decode cL_law 1236 = .ok (.iload 4, 2) := by decide +kernel
theorem dL_law_1238 : decode cL_law 1238 = .ok (.iconst 2, 1) := by decide +kernel
theorem dL_law_1239 : decode cL_law 1239 = .ok (.iadd, 1) := by decide +kernel
theorem dL_law_1240 : decode cL_law 1240 = .ok (.iaload, 1) := by decide +kernel
theorem dL_law_1241 : decode cL_law 1241 = .ok (.invokevirtual 210, 3) := by decide +kernel
theorem dL_law_1244 : decode cL_law 1244 = .ok (.istore 6, 2) := by decide +kernel
theorem dL_law_1246 : decode cL_law 1246 = .ok (.aload_n 2, 1) := by decide +kernel
theorem dL_law_1247 : decode cL_law 1247 = .ok (.invokevirtual 155, 3) := by decide +kernel
theorem dL_law_1250 : decode cL_law 1250 = .ok (.iload 5, 2) := by decide +kernel
theorem dL_law_1252 : decode cL_law 1252 = .ok (.if_icmp .eq 5, 3) := by decide +kernel
theorem dL_law_1255 : decode cL_law 1255 = .ok (.iconst 0, 1) := by decide +kernel
theorem dL_law_1256 : decode cL_law 1256 = .ok (.ireturn, 1) := by decide +kernel
theorem dL_law_1257 : decode cL_law 1257 = .ok (.iload 5, 2) := by decide +kernel
theorem dL_law_1259 : decode cL_law 1259 = .ok (.ifCond .ne 15, 3) := by decide +kernel
theorem dL_law_1262 : decode cL_law 1262 = .ok (.aload_n 3, 1) := by decide +kernel
theorem dL_law_1263 : decode cL_law 1263 = .ok (.iconst 0, 1) := by decide +kernel
theorem dL_law_1264 : decode cL_law 1264 = .ok (.laload, 1) := by decide +kernel
theorem dL_law_1265 : decode cL_law 1265 = .ok (.iload 6, 2) := by decide +kernel
theorem dL_law_1267 : decode cL_law 1267 = .ok (.i2l, 1) := by decide +kernel
theorem dL_law_1268 : decode cL_law 1268 = .ok (.lcmp, 1) := by decide +kernel
theorem dL_law_1269 : decode cL_law 1269 = .ok (.ifCond .eq 5, 3) := by decide +kernel
theorem dL_law_1272 : decode cL_law 1272 = .ok (.iconst 0, 1) := by decide +kernel
theorem dL_law_1273 : decode cL_law 1273 = .ok (.ireturn, 1) := by decide +kernel
theorem dL_law_1274 : decode cL_law 1274 = .ok (.goto 1501, 3) := by decide +kernel
theorem dL_law_1277 : decode cL_law 1277 = .ok (.aload_n 1, 1) := by decide +kernel
theorem dL_law_1278 : decode cL_law 1278 = .ok (.aload_n 0, 1) := by decide +kernel
theorem dL_law_1279 : decode cL_law 1279 = .ok (.iload 4, 2) := by decide +kernel
theorem dL_law_1281 : decode cL_law 1281 = .ok (.iconst 1, 1) := by decide +kernel
theorem dL_law_1282 : decode cL_law 1282 = .ok (.iadd, 1) := by decide +kernel
theorem dL_law_1283 : decode cL_law 1283 = .ok (.iaload, 1) := by decide +kernel
theorem dL_law_1284 : decode cL_law 1284 = .ok (.aload_n 0, 1) := by decide +kernel
theorem dL_law_1285 : decode cL_law 1285 = .ok (.iload 4, 2) := by decide +kernel
theorem dL_law_1287 : decode cL_law 1287 = .ok (.iconst 2, 1) := by decide +kernel
theorem dL_law_1288 : decode cL_law 1288 = .ok (.iadd, 1) := by decide +kernel
theorem dL_law_1289 : decode cL_law 1289 = .ok (.iaload, 1) := by decide +kernel
theorem dL_law_1290 : decode cL_law 1290 = .ok (.aload_n 0, 1) := by decide +kernel
theorem dL_law_1291 : decode cL_law 1291 = .ok (.iload 4, 2) := by decide +kernel
theorem dL_law_1293 : decode cL_law 1293 = .ok (.iconst 3, 1) := by decide +kernel
theorem dL_law_1294 : decode cL_law 1294 = .ok (.iadd, 1) := by decide +kernel
theorem dL_law_1295 : decode cL_law 1295 = .ok (.iaload, 1) := by decide +kernel
theorem dL_law_1296 : decode cL_law 1296 = .ok (.aload_n 3, 1) := by decide +kernel
theorem dL_law_1297 : decode cL_law 1297 = .ok (.invokestatic 211, 3) := by decide +kernel
theorem dL_law_1300 : decode cL_law 1300 = .ok (.istore 5, 2) := by decide +kernel
theorem dL_law_1302 : decode cL_law 1302 = .ok (.aload_n 2, 1) := by decide +kernel
theorem dL_law_1303 : decode cL_law 1303 = .ok (.aload_n 0, 1) := by decide +kernel
theorem dL_law_1304 : decode cL_law 1304 = .ok (.iload 4, 2) := by decide +kernel
theorem dL_law_1306 : decode cL_law 1306 = .ok (.iconst 1, 1) := by decide +kernel
theorem dL_law_1307 : decode cL_law 1307 = .ok (.iadd, 1) := by decide +kernel
theorem dL_law_1308 : decode cL_law 1308 = .ok (.iaload, 1) := by decide +kernel
theorem dL_law_1309 : decode cL_law 1309 = .ok (.aload_n 0, 1) := by decide +kernel
theorem dL_law_1310 : decode cL_law 1310 = .ok (.iload 4, 2) := by decide +kernel
theorem dL_law_1312 : decode cL_law 1312 = .ok (.iconst 2, 1) := by decide +kernel
theorem dL_law_1313 : decode cL_law 1313 = .ok (.iadd, 1) := by decide +kernel
theorem dL_law_1314 : decode cL_law 1314 = .ok (.iaload, 1) := by decide +kernel
theorem dL_law_1315 : decode cL_law 1315 = .ok (.aload_n 0, 1) := by decide +kernel
theorem dL_law_1316 : decode cL_law 1316 = .ok (.iload 4, 2) := by decide +kernel
theorem dL_law_1318 : decode cL_law 1318 = .ok (.iconst 3, 1) := by decide +kernel
theorem dL_law_1319 : decode cL_law 1319 = .ok (.iadd, 1) := by decide +kernel
theorem dL_law_1320 : decode cL_law 1320 = .ok (.iaload, 1) := by decide +kernel
theorem dL_law_1321 : decode cL_law 1321 = .ok (.invokevirtual 213, 3) := by decide +kernel
theorem dL_law_1324 : decode cL_law 1324 = .ok (.istore 6, 2) := by decide +kernel
theorem dL_law_1326 : decode cL_law 1326 = .ok (.aload_n 2, 1) := by decide +kernel
theorem dL_law_1327 : decode cL_law 1327 = .ok (.invokevirtual 155, 3) := by decide +kernel
theorem dL_law_1330 : decode cL_law 1330 = .ok (.iload 5, 2) := by decide +kernel
theorem dL_law_1332 : decode cL_law 1332 = .ok (.if_icmp .eq 5, 3) := by decide +kernel
theorem dL_law_1335 : decode cL_law 1335 = .ok (.iconst 0, 1) := by decide +kernel
theorem dL_law_1336 : decode cL_law 1336 = .ok (.ireturn, 1) := by decide +kernel
theorem dL_law_1337 : decode cL_law 1337 = .ok (.iload 5, 2) := by decide +kernel
theorem dL_law_1339 : decode cL_law 1339 = .ok (.ifCond .ne 15, 3) := by decide +kernel
theorem dL_law_1342 : decode cL_law 1342 = .ok (.aload_n 3, 1) := by decide +kernel
theorem dL_law_1343 : decode cL_law 1343 = .ok (.iconst 0, 1) := by decide +kernel
theorem dL_law_1344 : decode cL_law 1344 = .ok (.laload, 1) := by decide +kernel
theorem dL_law_1345 : decode cL_law 1345 = .ok (.iload 6, 2) := by decide +kernel
theorem dL_law_1347 : decode cL_law 1347 = .ok (.i2l, 1) := by decide +kernel
theorem dL_law_1348 : decode cL_law 1348 = .ok (.lcmp, 1) := by decide +kernel
theorem dL_law_1349 : decode cL_law 1349 = .ok (.ifCond .eq 5, 3) := by decide +kernel
theorem dL_law_1352 : decode cL_law 1352 = .ok (.iconst 0, 1) := by decide +kernel
theorem dL_law_1353 : decode cL_law 1353 = .ok (.ireturn, 1) := by decide +kernel
theorem dL_law_1354 : decode cL_law 1354 = .ok (.goto 1421, 3) := by decide +kernel
theorem dL_law_1357 : decode cL_law 1357 = .ok (.aload_n 1, 1) := by decide +kernel
theorem dL_law_1358 : decode cL_law 1358 = .ok (.aload_n 0, 1) := by decide +kernel
theorem dL_law_1359 : decode cL_law 1359 = .ok (.iload 4, 2) := by decide +kernel
theorem dL_law_1361 : decode cL_law 1361 = .ok (.iconst 1, 1) := by decide +kernel
theorem dL_law_1362 : decode cL_law 1362 = .ok (.iadd, 1) := by decide +kernel
theorem dL_law_1363 : decode cL_law 1363 = .ok (.iaload, 1) := by decide +kernel
theorem dL_law_1364 : decode cL_law 1364 = .ok (.aload_n 0, 1) := by decide +kernel
theorem dL_law_1365 : decode cL_law 1365 = .ok (.iload 4, 2) := by decide +kernel
theorem dL_law_1367 : decode cL_law 1367 = .ok (.iconst 2, 1) := by decide +kernel
theorem dL_law_1368 : decode cL_law 1368 = .ok (.iadd, 1) := by decide +kernel
theorem dL_law_1369 : decode cL_law 1369 = .ok (.iaload, 1) := by decide +kernel
theorem dL_law_1370 : decode cL_law 1370 = .ok (.aload_n 3, 1) := by decide +kernel
theorem dL_law_1371 : decode cL_law 1371 = .ok (.invokestatic 214, 3) := by decide +kernel
theorem dL_law_1374 : decode cL_law 1374 = .ok (.istore 5, 2) := by decide +kernel
theorem dL_law_1376 : decode cL_law 1376 = .ok (.aload_n 2, 1) := by decide +kernel
theorem dL_law_1377 : decode cL_law 1377 = .ok (.aload_n 0, 1) := by decide +kernel
theorem dL_law_1378 : decode cL_law 1378 = .ok (.iload 4, 2) := by decide +kernel
theorem dL_law_1380 : decode cL_law 1380 = .ok (.iconst 1, 1) := by decide +kernel
theorem dL_law_1381 : decode cL_law 1381 = .ok (.iadd, 1) := by decide +kernel
theorem dL_law_1382 : decode cL_law 1382 = .ok (.iaload, 1) := by decide +kernel
theorem dL_law_1383 : decode cL_law 1383 = .ok (.aload_n 0, 1) := by decide +kernel
theorem dL_law_1384 : decode cL_law 1384 = .ok (.iload 4, 2) := by decide +kernel
theorem dL_law_1386 : decode cL_law 1386 = .ok (.iconst 2, 1) := by decide +kernel
theorem dL_law_1387 : decode cL_law 1387 = .ok (.iadd, 1) := by decide +kernel
theorem dL_law_1388 : decode cL_law 1388 = .ok (.iaload, 1) := by decide +kernel
theorem dL_law_1389 : decode cL_law 1389 = .ok (.invokevirtual 216, 3) := by decide +kernel
theorem dL_law_1392 : decode cL_law 1392 = .ok (.istore 6, 2) := by decide +kernel
theorem dL_law_1394 : decode cL_law 1394 = .ok (.aload_n 2, 1) := by decide +kernel
theorem dL_law_1395 : decode cL_law 1395 = .ok (.invokevirtual 155, 3) := by decide +kernel
theorem dL_law_1398 : decode cL_law 1398 = .ok (.iload 5, 2) := by decide +kernel
theorem dL_law_1400 : decode cL_law 1400 = .ok (.if_icmp .eq 5, 3) := by decide +kernel
theorem dL_law_1403 : decode cL_law 1403 = .ok (.iconst 0, 1) := by decide +kernel
theorem dL_law_1404 : decode cL_law 1404 = .ok (.ireturn, 1) := by decide +kernel
theorem dL_law_1405 : decode cL_law 1405 = .ok (.iload 5, 2) := by decide +kernel
theorem dL_law_1407 : decode cL_law 1407 = .ok (.ifCond .ne 15, 3) := by decide +kernel
theorem dL_law_1410 : decode cL_law 1410 = .ok (.aload_n 3, 1) := by decide +kernel
theorem dL_law_1411 : decode cL_law 1411 = .ok (.iconst 0, 1) := by decide +kernel
theorem dL_law_1412 : decode cL_law 1412 = .ok (.laload, 1) := by decide +kernel
theorem dL_law_1413 : decode cL_law 1413 = .ok (.iload 6, 2) := by decide +kernel
theorem dL_law_1415 : decode cL_law 1415 = .ok (.i2l, 1) := by decide +kernel
theorem dL_law_1416 : decode cL_law 1416 = .ok (.lcmp, 1) := by decide +kernel
theorem dL_law_1417 : decode cL_law 1417 = .ok (.ifCond .eq 5, 3) := by decide +kernel
theorem dL_law_1420 : decode cL_law 1420 = .ok (.iconst 0, 1) := by decide +kernel
theorem dL_law_1421 : decode cL_law 1421 = .ok (.ireturn, 1) := by decide +kernel
theorem dL_law_1422 : decode cL_law 1422 = .ok (.goto 1353, 3) := by decide +kernel
theorem dL_law_1425 : decode cL_law 1425 = .ok (.aload_n 1, 1) := by decide +kernel
theorem dL_law_1426 : decode cL_law 1426 = .ok (.aload_n 0, 1) := by decide +kernel
theorem dL_law_1427 : decode cL_law 1427 = .ok (.iload 4, 2) := by decide +kernel
theorem dL_law_1429 : decode cL_law 1429 = .ok (.iconst 1, 1) := by decide +kernel
theorem dL_law_1430 : decode cL_law 1430 = .ok (.iadd, 1) := by decide +kernel
theorem dL_law_1431 : decode cL_law 1431 = .ok (.iaload, 1) := by decide +kernel
theorem dL_law_1432 : decode cL_law 1432 = .ok (.aload_n 0, 1) := by decide +kernel
theorem dL_law_1433 : decode cL_law 1433 = .ok (.iload 4, 2) := by decide +kernel
theorem dL_law_1435 : decode cL_law 1435 = .ok (.iconst 2, 1) := by decide +kernel
theorem dL_law_1436 : decode cL_law 1436 = .ok (.iadd, 1) := by decide +kernel
theorem dL_law_1437 : decode cL_law 1437 = .ok (.iaload, 1) := by decide +kernel
theorem dL_law_1438 : decode cL_law 1438 = .ok (.aload_n 3, 1) := by decide +kernel
theorem dL_law_1439 : decode cL_law 1439 = .ok (.invokestatic 217, 3) := by decide +kernel
theorem dL_law_1442 : decode cL_law 1442 = .ok (.istore 5, 2) := by decide +kernel
theorem dL_law_1444 : decode cL_law 1444 = .ok (.aload_n 2, 1) := by decide +kernel
theorem dL_law_1445 : decode cL_law 1445 = .ok (.aload_n 0, 1) := by decide +kernel
theorem dL_law_1446 : decode cL_law 1446 = .ok (.iload 4, 2) := by decide +kernel
theorem dL_law_1448 : decode cL_law 1448 = .ok (.iconst 1, 1) := by decide +kernel
theorem dL_law_1449 : decode cL_law 1449 = .ok (.iadd, 1) := by decide +kernel
theorem dL_law_1450 : decode cL_law 1450 = .ok (.iaload, 1) := by decide +kernel
theorem dL_law_1451 : decode cL_law 1451 = .ok (.aload_n 0, 1) := by decide +kernel
theorem dL_law_1452 : decode cL_law 1452 = .ok (.iload 4, 2) := by decide +kernel
theorem dL_law_1454 : decode cL_law 1454 = .ok (.iconst 2, 1) := by decide +kernel
theorem dL_law_1455 : decode cL_law 1455 = .ok (.iadd, 1) := by decide +kernel
theorem dL_law_1456 : decode cL_law 1456 = .ok (.iaload, 1) := by decide +kernel
theorem dL_law_1457 : decode cL_law 1457 = .ok (.invokevirtual 219, 3) := by decide +kernel
theorem dL_law_1460 : decode cL_law 1460 = .ok (.istore 6, 2) := by decide +kernel
theorem dL_law_1462 : decode cL_law 1462 = .ok (.aload_n 2, 1) := by decide +kernel
theorem dL_law_1463 : decode cL_law 1463 = .ok (.invokevirtual 155, 3) := by decide +kernel
theorem dL_law_1466 : decode cL_law 1466 = .ok (.iload 5, 2) := by decide +kernel
theorem dL_law_1468 : decode cL_law 1468 = .ok (.if_icmp .eq 5, 3) := by decide +kernel
theorem dL_law_1471 : decode cL_law 1471 = .ok (.iconst 0, 1) := by decide +kernel
theorem dL_law_1472 : decode cL_law 1472 = .ok (.ireturn, 1) := by decide +kernel
theorem dL_law_1473 : decode cL_law 1473 = .ok (.iload 5, 2) := by decide +kernel
theorem dL_law_1475 : decode cL_law 1475 = .ok (.ifCond .ne 15, 3) := by decide +kernel
theorem dL_law_1478 : decode cL_law 1478 = .ok (.aload_n 3, 1) := by decide +kernel
theorem dL_law_1479 : decode cL_law 1479 = .ok (.iconst 0, 1) := by decide +kernel
theorem dL_law_1480 : decode cL_law 1480 = .ok (.laload, 1) := by decide +kernel
theorem dL_law_1481 : decode cL_law 1481 = .ok (.iload 6, 2) := by decide +kernel
theorem dL_law_1483 : decode cL_law 1483 = .ok (.i2l, 1) := by decide +kernel
theorem dL_law_1484 : decode cL_law 1484 = .ok (.lcmp, 1) := by decide +kernel
theorem dL_law_1485 : decode cL_law 1485 = .ok (.ifCond .eq 5, 3) := by decide +kernel
theorem dL_law_1488 : decode cL_law 1488 = .ok (.iconst 0, 1) := by decide +kernel
theorem dL_law_1489 : decode cL_law 1489 = .ok (.ireturn, 1) := by decide +kernel
theorem dL_law_1490 : decode cL_law 1490 = .ok (.goto 1285, 3) := by decide +kernel
theorem dL_law_1493 : decode cL_law 1493 = .ok (.aload_n 1, 1) := by decide +kernel
theorem dL_law_1494 : decode cL_law 1494 = .ok (.aload_n 0, 1) := by decide +kernel
theorem dL_law_1495 : decode cL_law 1495 = .ok (.iload 4, 2) := by decide +kernel
theorem dL_law_1497 : decode cL_law 1497 = .ok (.iconst 1, 1) := by decide +kernel
theorem dL_law_1498 : decode cL_law 1498 = .ok (.iadd, 1) := by decide +kernel
theorem dL_law_1499 : decode cL_law 1499 = .ok (.iaload, 1) := by decide +kernel
theorem dL_law_1500 : decode cL_law 1500 = .ok (.aload_n 0, 1) := by decide +kernel
theorem dL_law_1501 : decode cL_law 1501 = .ok (.iload 4, 2) := by decide +kernel
theorem dL_law_1503 : decode cL_law 1503 = .ok (.iconst 2, 1) := by decide +kernel
theorem dL_law_1504 : decode cL_law 1504 = .ok (.iadd, 1) := by decide +kernel
theorem dL_law_1505 : decode cL_law 1505 = .ok (.iaload, 1) := by decide +kernel
theorem dL_law_1506 : decode cL_law 1506 = .ok (.aload_n 3, 1) := by decide +kernel
theorem dL_law_1507 : decode cL_law 1507 = .ok (.invokestatic 220, 3) := by decide +kernel
theorem dL_law_1510 : decode cL_law 1510 = .ok (.istore 5, 2) := by decide +kernel
theorem dL_law_1512 : decode cL_law 1512 = .ok (.aload_n 2, 1) := by decide +kernel
theorem dL_law_1513 : decode cL_law 1513 = .ok (.aload_n 0, 1) := by decide +kernel
theorem dL_law_1514 : decode cL_law 1514 = .ok (.iload 4, 2) := by decide +kernel
theorem dL_law_1516 : decode cL_law 1516 = .ok (.iconst 1, 1) := by decide +kernel
theorem dL_law_1517 : decode cL_law 1517 = .ok (.iadd, 1) := by decide +kernel
theorem dL_law_1518 : decode cL_law 1518 = .ok (.iaload, 1) := by decide +kernel
theorem dL_law_1519 : decode cL_law 1519 = .ok (.aload_n 0, 1) := by decide +kernel
theorem dL_law_1520 : decode cL_law 1520 = .ok (.iload 4, 2) := by decide +kernel
theorem dL_law_1522 : decode cL_law 1522 = .ok (.iconst 2, 1) := by decide +kernel
theorem dL_law_1523 : decode cL_law 1523 = .ok (.iadd, 1) := by decide +kernel
theorem dL_law_1524 : decode cL_law 1524 = .ok (.iaload, 1) := by decide +kernel
theorem dL_law_1525 : decode cL_law 1525 = .ok (.invokevirtual 222, 3) := by decide +kernel
theorem dL_law_1528 : decode cL_law 1528 = .ok (.istore 6, 2) := by decide +kernel
theorem dL_law_1530 : decode cL_law 1530 = .ok (.aload_n 2, 1) := by decide +kernel
theorem dL_law_1531 : decode cL_law 1531 = .ok (.invokevirtual 155, 3) := by decide +kernel
theorem dL_law_1534 : decode cL_law 1534 = .ok (.iload 5, 2) := by decide +kernel
theorem dL_law_1536 : decode cL_law 1536 = .ok (.if_icmp .eq 5, 3) := by decide +kernel
theorem dL_law_1539 : decode cL_law 1539 = .ok (.iconst 0, 1) := by decide +kernel
theorem dL_law_1540 : decode cL_law 1540 = .ok (.ireturn, 1) := by decide +kernel
theorem dL_law_1541 : decode cL_law 1541 = .ok (.iload 5, 2) := by decide +kernel
theorem dL_law_1543 : decode cL_law 1543 = .ok (.ifCond .ne 15, 3) := by decide +kernel
theorem dL_law_1546 : decode cL_law 1546 = .ok (.aload_n 3, 1) := by decide +kernel
theorem dL_law_1547 : decode cL_law 1547 = .ok (.iconst 0, 1) := by decide +kernel
theorem dL_law_1548 : decode cL_law 1548 = .ok (.laload, 1) := by decide +kernel
theorem dL_law_1549 : decode cL_law 1549 = .ok (.iload 6, 2) := by decide +kernel
theorem dL_law_1551 : decode cL_law 1551 = .ok (.i2l, 1) := by decide +kernel
theorem dL_law_1552 : decode cL_law 1552 = .ok (.lcmp, 1) := by decide +kernel
theorem dL_law_1553 : decode cL_law 1553 = .ok (.ifCond .eq 5, 3) := by decide +kernel
theorem dL_law_1556 : decode cL_law 1556 = .ok (.iconst 0, 1) := by decide +kernel
theorem dL_law_1557 : decode cL_law 1557 = .ok (.ireturn, 1) := by decide +kernel
theorem dL_law_1558 : decode cL_law 1558 = .ok (.goto 1217, 3) := by decide +kernel
theorem dL_law_1561 : decode cL_law 1561 = .ok (.aload_n 1, 1) := by decide +kernel
theorem dL_law_1562 : decode cL_law 1562 = .ok (.invokevirtual 223, 3) := by decide +kernel
theorem dL_law_1565 : decode cL_law 1565 = .ok (.aload_n 2, 1) := by decide +kernel
theorem dL_law_1566 : decode cL_law 1566 = .ok (.invokevirtual 226, 3) := by decide +kernel
theorem dL_law_1569 : decode cL_law 1569 = .ok (.if_icmp .eq 1206, 3) := by decide +kernel
theorem dL_law_1572 : decode cL_law 1572 = .ok (.iconst 0, 1) := by decide +kernel
theorem dL_law_1573 : decode cL_law 1573 = .ok (.ireturn, 1) := by decide +kernel
theorem dL_law_1574 : decode cL_law 1574 = .ok (.aload_n 1, 1) := by decide +kernel
theorem dL_law_1575 : decode cL_law 1575 = .ok (.aload_n 0, 1) := by decide +kernel
theorem dL_law_1576 : decode cL_law 1576 = .ok (.iload 4, 2) := by decide +kernel
theorem dL_law_1578 : decode cL_law 1578 = .ok (.iconst 1, 1) := by decide +kernel
theorem dL_law_1579 : decode cL_law 1579 = .ok (.iadd, 1) := by decide +kernel
theorem dL_law_1580 : decode cL_law 1580 = .ok (.iaload, 1) := by decide +kernel
theorem dL_law_1581 : decode cL_law 1581 = .ok (.aload_n 0, 1) := by decide +kernel
theorem dL_law_1582 : decode cL_law 1582 = .ok (.iload 4, 2) := by decide +kernel
theorem dL_law_1584 : decode cL_law 1584 = .ok (.iconst 2, 1) := by decide +kernel
theorem dL_law_1585 : decode cL_law 1585 = .ok (.iadd, 1) := by decide +kernel
theorem dL_law_1586 : decode cL_law 1586 = .ok (.iaload, 1) := by decide +kernel
theorem dL_law_1587 : decode cL_law 1587 = .ok (.aload_n 3, 1) := by decide +kernel
theorem dL_law_1588 : decode cL_law 1588 = .ok (.invokestatic 227, 3) := by decide +kernel
theorem dL_law_1591 : decode cL_law 1591 = .ok (.istore 5, 2) := by decide +kernel
theorem dL_law_1593 : decode cL_law 1593 = .ok (.aload_n 2, 1) := by decide +kernel
theorem dL_law_1594 : decode cL_law 1594 = .ok (.aload_n 0, 1) := by decide +kernel
theorem dL_law_1595 : decode cL_law 1595 = .ok (.iload 4, 2) := by decide +kernel
theorem dL_law_1597 : decode cL_law 1597 = .ok (.iconst 1, 1) := by decide +kernel
theorem dL_law_1598 : decode cL_law 1598 = .ok (.iadd, 1) := by decide +kernel
theorem dL_law_1599 : decode cL_law 1599 = .ok (.iaload, 1) := by decide +kernel
theorem dL_law_1600 : decode cL_law 1600 = .ok (.aload_n 0, 1) := by decide +kernel
theorem dL_law_1601 : decode cL_law 1601 = .ok (.iload 4, 2) := by decide +kernel
theorem dL_law_1603 : decode cL_law 1603 = .ok (.iconst 2, 1) := by decide +kernel
theorem dL_law_1604 : decode cL_law 1604 = .ok (.iadd, 1) := by decide +kernel
theorem dL_law_1605 : decode cL_law 1605 = .ok (.iaload, 1) := by decide +kernel
theorem dL_law_1606 : decode cL_law 1606 = .ok (.invokevirtual 229, 3) := by decide +kernel
theorem dL_law_1609 : decode cL_law 1609 = .ok (.istore 6, 2) := by decide +kernel
theorem dL_law_1611 : decode cL_law 1611 = .ok (.aload_n 2, 1) := by decide +kernel
theorem dL_law_1612 : decode cL_law 1612 = .ok (.invokevirtual 155, 3) := by decide +kernel
theorem dL_law_1615 : decode cL_law 1615 = .ok (.iload 5, 2) := by decide +kernel
theorem dL_law_1617 : decode cL_law 1617 = .ok (.if_icmp .eq 5, 3) := by decide +kernel
theorem dL_law_1620 : decode cL_law 1620 = .ok (.iconst 0, 1) := by decide +kernel
theorem dL_law_1621 : decode cL_law 1621 = .ok (.ireturn, 1) := by decide +kernel
theorem dL_law_1622 : decode cL_law 1622 = .ok (.iload 5, 2) := by decide +kernel
theorem dL_law_1624 : decode cL_law 1624 = .ok (.ifCond .ne 15, 3) := by decide +kernel
theorem dL_law_1627 : decode cL_law 1627 = .ok (.aload_n 3, 1) := by decide +kernel
theorem dL_law_1628 : decode cL_law 1628 = .ok (.iconst 0, 1) := by decide +kernel
theorem dL_law_1629 : decode cL_law 1629 = .ok (.laload, 1) := by decide +kernel
theorem dL_law_1630 : decode cL_law 1630 = .ok (.iload 6, 2) := by decide +kernel
theorem dL_law_1632 : decode cL_law 1632 = .ok (.i2l, 1) := by decide +kernel
theorem dL_law_1633 : decode cL_law 1633 = .ok (.lcmp, 1) := by decide +kernel
theorem dL_law_1634 : decode cL_law 1634 = .ok (.ifCond .eq 5, 3) := by decide +kernel
theorem dL_law_1637 : decode cL_law 1637 = .ok (.iconst 0, 1) := by decide +kernel
theorem dL_law_1638 : decode cL_law 1638 = .ok (.ireturn, 1) := by decide +kernel
theorem dL_law_1639 : decode cL_law 1639 = .ok (.goto 1136, 3) := by decide +kernel
theorem dL_law_1642 : decode cL_law 1642 = .ok (.aload_n 1, 1) := by decide +kernel
theorem dL_law_1643 : decode cL_law 1643 = .ok (.aload_n 0, 1) := by decide +kernel
theorem dL_law_1644 : decode cL_law 1644 = .ok (.iload 4, 2) := by decide +kernel
theorem dL_law_1646 : decode cL_law 1646 = .ok (.iconst 1, 1) := by decide +kernel
theorem dL_law_1647 : decode cL_law 1647 = .ok (.iadd, 1) := by decide +kernel
theorem dL_law_1648 : decode cL_law 1648 = .ok (.iaload, 1) := by decide +kernel
theorem dL_law_1649 : decode cL_law 1649 = .ok (.aload_n 3, 1) := by decide +kernel
theorem dL_law_1650 : decode cL_law 1650 = .ok (.invokestatic 230, 3) := by decide +kernel
theorem dL_law_1653 : decode cL_law 1653 = .ok (.istore 5, 2) := by decide +kernel
theorem dL_law_1655 : decode cL_law 1655 = .ok (.aload_n 2, 1) := by decide +kernel
theorem dL_law_1656 : decode cL_law 1656 = .ok (.aload_n 0, 1) := by decide +kernel
theorem dL_law_1657 : decode cL_law 1657 = .ok (.iload 4, 2) := by decide +kernel
theorem dL_law_1659 : decode cL_law 1659 = .ok (.iconst 1, 1) := by decide +kernel
theorem dL_law_1660 : decode cL_law 1660 = .ok (.iadd, 1) := by decide +kernel
theorem dL_law_1661 : decode cL_law 1661 = .ok (.iaload, 1) := by decide +kernel
theorem dL_law_1662 : decode cL_law 1662 = .ok (.invokevirtual 232, 3) := by decide +kernel
theorem dL_law_1665 : decode cL_law 1665 = .ok (.istore 6, 2) := by decide +kernel
theorem dL_law_1667 : decode cL_law 1667 = .ok (.aload_n 2, 1) := by decide +kernel
theorem dL_law_1668 : decode cL_law 1668 = .ok (.invokevirtual 155, 3) := by decide +kernel
theorem dL_law_1671 : decode cL_law 1671 = .ok (.iload 5, 2) := by decide +kernel
theorem dL_law_1673 : decode cL_law 1673 = .ok (.if_icmp .eq 5, 3) := by decide +kernel
theorem dL_law_1676 : decode cL_law 1676 = .ok (.iconst 0, 1) := by decide +kernel
theorem dL_law_1677 : decode cL_law 1677 = .ok (.ireturn, 1) := by decide +kernel
theorem dL_law_1678 : decode cL_law 1678 = .ok (.iload 5, 2) := by decide +kernel
theorem dL_law_1680 : decode cL_law 1680 = .ok (.ifCond .ne 15, 3) := by decide +kernel
theorem dL_law_1683 : decode cL_law 1683 = .ok (.aload_n 3, 1) := by decide +kernel
theorem dL_law_1684 : decode cL_law 1684 = .ok (.iconst 0, 1) := by decide +kernel
theorem dL_law_1685 : decode cL_law 1685 = .ok (.laload, 1) := by decide +kernel
theorem dL_law_1686 : decode cL_law 1686 = .ok (.iload 6, 2) := by decide +kernel
theorem dL_law_1688 : decode cL_law 1688 = .ok (.i2l, 1) := by decide +kernel
theorem dL_law_1689 : decode cL_law 1689 = .ok (.lcmp, 1) := by decide +kernel
theorem dL_law_1690 : decode cL_law 1690 = .ok (.ifCond .eq 5, 3) := by decide +kernel
theorem dL_law_1693 : decode cL_law 1693 = .ok (.iconst 0, 1) := by decide +kernel
theorem dL_law_1694 : decode cL_law 1694 = .ok (.ireturn, 1) := by decide +kernel
theorem dL_law_1695 : decode cL_law 1695 = .ok (.goto 1080, 3) := by decide +kernel
theorem dL_law_1698 : decode cL_law 1698 = .ok (.aload_n 1, 1) := by decide +kernel
theorem dL_law_1699 : decode cL_law 1699 = .ok (.aload_n 3, 1) := by decide +kernel
theorem dL_law_1700 : decode cL_law 1700 = .ok (.invokestatic 233, 3) := by decide +kernel
theorem dL_law_1703 : decode cL_law 1703 = .ok (.istore 5, 2) := by decide +kernel
theorem dL_law_1705 : decode cL_law 1705 = .ok (.aload_n 2, 1) := by decide +kernel
theorem dL_law_1706 : decode cL_law 1706 = .ok (.invokevirtual 235, 3) := by decide +kernel
theorem dL_law_1709 : decode cL_law 1709 = .ok (.istore 6, 2) := by decide +kernel
theorem dL_law_1711 : decode cL_law 1711 = .ok (.aload_n 2, 1) := by decide +kernel
theorem dL_law_1712 : decode cL_law 1712 = .ok (.invokevirtual 155, 3) := by decide +kernel
theorem dL_law_1715 : decode cL_law 1715 = .ok (.iload 5, 2) := by decide +kernel
theorem dL_law_1717 : decode cL_law 1717 = .ok (.if_icmp .eq 5, 3) := by decide +kernel
theorem dL_law_1720 : decode cL_law 1720 = .ok (.iconst 0, 1) := by decide +kernel
theorem dL_law_1721 : decode cL_law 1721 = .ok (.ireturn, 1) := by decide +kernel
theorem dL_law_1722 : decode cL_law 1722 = .ok (.iload 5, 2) := by decide +kernel
theorem dL_law_1724 : decode cL_law 1724 = .ok (.ifCond .ne 15, 3) := by decide +kernel
theorem dL_law_1727 : decode cL_law 1727 = .ok (.aload_n 3, 1) := by decide +kernel
theorem dL_law_1728 : decode cL_law 1728 = .ok (.iconst 0, 1) := by decide +kernel
theorem dL_law_1729 : decode cL_law 1729 = .ok (.laload, 1) := by decide +kernel
theorem dL_law_1730 : decode cL_law 1730 = .ok (.iload 6, 2) := by decide +kernel
theorem dL_law_1732 : decode cL_law 1732 = .ok (.i2l, 1) := by decide +kernel
theorem dL_law_1733 : decode cL_law 1733 = .ok (.lcmp, 1) := by decide +kernel
theorem dL_law_1734 : decode cL_law 1734 = .ok (.ifCond .eq 5, 3) := by decide +kernel
theorem dL_law_1737 : decode cL_law 1737 = .ok (.iconst 0, 1) := by decide +kernel
theorem dL_law_1738 : decode cL_law 1738 = .ok (.ireturn, 1) := by decide +kernel
theorem dL_law_1739 : decode cL_law 1739 = .ok (.goto 1036, 3) := by decide +kernel
theorem dL_law_1742 : decode cL_law 1742 = .ok (.aload_n 1, 1) := by decide +kernel
theorem dL_law_1743 : decode cL_law 1743 = .ok (.aload_n 0, 1) := by decide +kernel
theorem dL_law_1744 : decode cL_law 1744 = .ok (.iload 4, 2) := by decide +kernel
theorem dL_law_1746 : decode cL_law 1746 = .ok (.iconst 1, 1) := by decide +kernel
theorem dL_law_1747 : decode cL_law 1747 = .ok (.iadd, 1) := by decide +kernel
theorem dL_law_1748 : decode cL_law 1748 = .ok (.iaload, 1) := by decide +kernel
theorem dL_law_1749 : decode cL_law 1749 = .ok (.aload_n 3, 1) := by decide +kernel
theorem dL_law_1750 : decode cL_law 1750 = .ok (.invokestatic 236, 3) := by decide +kernel
theorem dL_law_1753 : decode cL_law 1753 = .ok (.istore 5, 2) := by decide +kernel
theorem dL_law_1755 : decode cL_law 1755 = .ok (.aload_n 2, 1) := by decide +kernel
theorem dL_law_1756 : decode cL_law 1756 = .ok (.aload_n 0, 1) := by decide +kernel
theorem dL_law_1757 : decode cL_law 1757 = .ok (.iload 4, 2) := by decide +kernel
theorem dL_law_1759 : decode cL_law 1759 = .ok (.iconst 1, 1) := by decide +kernel
theorem dL_law_1760 : decode cL_law 1760 = .ok (.iadd, 1) := by decide +kernel
theorem dL_law_1761 : decode cL_law 1761 = .ok (.iaload, 1) := by decide +kernel
theorem dL_law_1762 : decode cL_law 1762 = .ok (.invokevirtual 238, 3) := by decide +kernel
theorem dL_law_1765 : decode cL_law 1765 = .ok (.istore 6, 2) := by decide +kernel
theorem dL_law_1767 : decode cL_law 1767 = .ok (.aload_n 2, 1) := by decide +kernel
theorem dL_law_1768 : decode cL_law 1768 = .ok (.invokevirtual 155, 3) := by decide +kernel
theorem dL_law_1771 : decode cL_law 1771 = .ok (.iload 5, 2) := by decide +kernel
theorem dL_law_1773 : decode cL_law 1773 = .ok (.if_icmp .eq 5, 3) := by decide +kernel
theorem dL_law_1776 : decode cL_law 1776 = .ok (.iconst 0, 1) := by decide +kernel
theorem dL_law_1777 : decode cL_law 1777 = .ok (.ireturn, 1) := by decide +kernel
theorem dL_law_1778 : decode cL_law 1778 = .ok (.iload 5, 2) := by decide +kernel
theorem dL_law_1780 : decode cL_law 1780 = .ok (.ifCond .ne 15, 3) := by decide +kernel
theorem dL_law_1783 : decode cL_law 1783 = .ok (.aload_n 3, 1) := by decide +kernel
theorem dL_law_1784 : decode cL_law 1784 = .ok (.iconst 0, 1) := by decide +kernel
theorem dL_law_1785 : decode cL_law 1785 = .ok (.laload, 1) := by decide +kernel
theorem dL_law_1786 : decode cL_law 1786 = .ok (.iload 6, 2) := by decide +kernel
theorem dL_law_1788 : decode cL_law 1788 = .ok (.i2l, 1) := by decide +kernel
theorem dL_law_1789 : decode cL_law 1789 = .ok (.lcmp, 1) := by decide +kernel
theorem dL_law_1790 : decode cL_law 1790 = .ok (.ifCond .eq 5, 3) := by decide +kernel
theorem dL_law_1793 : decode cL_law 1793 = .ok (.iconst 0, 1) := by decide +kernel
theorem dL_law_1794 : decode cL_law 1794 = .ok (.ireturn, 1) := by decide +kernel
theorem dL_law_1795 : decode cL_law 1795 = .ok (.goto 980, 3) := by decide +kernel
theorem dL_law_1798 : decode cL_law 1798 = .ok (.aload_n 1, 1) := by decide +kernel
theorem dL_law_1799 : decode cL_law 1799 = .ok (.aload_n 3, 1) := by decide +kernel
theorem dL_law_1800 : decode cL_law 1800 = .ok (.invokestatic 239, 3) := by decide +kernel
theorem dL_law_1803 : decode cL_law 1803 = .ok (.istore 5, 2) := by decide +kernel
theorem dL_law_1805 : decode cL_law 1805 = .ok (.aload_n 2, 1) := by decide +kernel
theorem dL_law_1806 : decode cL_law 1806 = .ok (.invokevirtual 241, 3) := by decide +kernel
theorem dL_law_1809 : decode cL_law 1809 = .ok (.istore 6, 2) := by decide +kernel
theorem dL_law_1811 : decode cL_law 1811 = .ok (.aload_n 2, 1) := by decide +kernel
theorem dL_law_1812 : decode cL_law 1812 = .ok (.invokevirtual 155, 3) := by decide +kernel
theorem dL_law_1815 : decode cL_law 1815 = .ok (.iload 5, 2) := by decide +kernel
theorem dL_law_1817 : decode cL_law 1817 = .ok (.if_icmp .eq 5, 3) := by decide +kernel
theorem dL_law_1820 : decode cL_law 1820 = .ok (.iconst 0, 1) := by decide +kernel
theorem dL_law_1821 : decode cL_law 1821 = .ok (.ireturn, 1) := by decide +kernel
theorem dL_law_1822 : decode cL_law 1822 = .ok (.iload 5, 2) := by decide +kernel
theorem dL_law_1824 : decode cL_law 1824 = .ok (.ifCond .ne 15, 3) := by decide +kernel
theorem dL_law_1827 : decode cL_law 1827 = .ok (.aload_n 3, 1) := by decide +kernel
theorem dL_law_1828 : decode cL_law 1828 = .ok (.iconst 0, 1) := by decide +kernel
theorem dL_law_1829 : decode cL_law 1829 = .ok (.laload, 1) := by decide +kernel
theorem dL_law_1830 : decode cL_law 1830 = .ok (.iload 6, 2) := by decide +kernel
theorem dL_law_1832 : decode cL_law 1832 = .ok (.i2l, 1) := by decide +kernel
theorem dL_law_1833 : decode cL_law 1833 = .ok (.lcmp, 1) := by decide +kernel
theorem dL_law_1834 : decode cL_law 1834 = .ok (.ifCond .eq 5, 3) := by decide +kernel
theorem dL_law_1837 : decode cL_law 1837 = .ok (.iconst 0, 1) := by decide +kernel
theorem dL_law_1838 : decode cL_law 1838 = .ok (.ireturn, 1) := by decide +kernel
theorem dL_law_1839 : decode cL_law 1839 = .ok (.goto 936, 3) := by decide +kernel
theorem dL_law_1842 : decode cL_law 1842 = .ok (.aload_n 1, 1) := by decide +kernel
theorem dL_law_1843 : decode cL_law 1843 = .ok (.aload_n 0, 1) := by decide +kernel
theorem dL_law_1844 : decode cL_law 1844 = .ok (.iload 4, 2) := by decide +kernel
theorem dL_law_1846 : decode cL_law 1846 = .ok (.iconst 1, 1) := by decide +kernel
theorem dL_law_1847 : decode cL_law 1847 = .ok (.iadd, 1) := by decide +kernel
theorem dL_law_1848 : decode cL_law 1848 = .ok (.iaload, 1) := by decide +kernel
theorem dL_law_1849 : decode cL_law 1849 = .ok (.aload_n 0, 1) := by decide +kernel
theorem dL_law_1850 : decode cL_law 1850 = .ok (.iload 4, 2) := by decide +kernel
theorem dL_law_1852 : decode cL_law 1852 = .ok (.iconst 2, 1) := by decide +kernel
theorem dL_law_1853 : decode cL_law 1853 = .ok (.iadd, 1) := by decide +kernel
theorem dL_law_1854 : decode cL_law 1854 = .ok (.iaload, 1) := by decide +kernel
theorem dL_law_1855 : decode cL_law 1855 = .ok (.ifCond .eq 7, 3) := by decide +kernel
theorem dL_law_1858 : decode cL_law 1858 = .ok (.iconst 1, 1) := by decide +kernel
theorem dL_law_1859 : decode cL_law 1859 = .ok (.goto 4, 3) := by decide +kernel
theorem dL_law_1862 : decode cL_law 1862 = .ok (.iconst 0, 1) := by decide +kernel
theorem dL_law_1863 : decode cL_law 1863 = .ok (.aload_n 3, 1) := by decide +kernel
theorem dL_law_1864 : decode cL_law 1864 = .ok (.invokestatic 242, 3) := by decide +kernel
theorem dL_law_1867 : decode cL_law 1867 = .ok (.istore 5, 2) := by decide +kernel
theorem dL_law_1869 : decode cL_law 1869 = .ok (.aload_n 2, 1) := by decide +kernel
theorem dL_law_1870 : decode cL_law 1870 = .ok (.aload_n 0, 1) := by decide +kernel
theorem dL_law_1871 : decode cL_law 1871 = .ok (.iload 4, 2) := by decide +kernel
theorem dL_law_1873 : decode cL_law 1873 = .ok (.iconst 1, 1) := by decide +kernel
theorem dL_law_1874 : decode cL_law 1874 = .ok (.iadd, 1) := by decide +kernel
theorem dL_law_1875 : decode cL_law 1875 = .ok (.iaload, 1) := by decide +kernel
theorem dL_law_1876 : decode cL_law 1876 = .ok (.aload_n 0, 1) := by decide +kernel
theorem dL_law_1877 : decode cL_law 1877 = .ok (.iload 4, 2) := by decide +kernel
theorem dL_law_1879 : decode cL_law 1879 = .ok (.iconst 2, 1) := by decide +kernel
theorem dL_law_1880 : decode cL_law 1880 = .ok (.iadd, 1) := by decide +kernel
theorem dL_law_1881 : decode cL_law 1881 = .ok (.iaload, 1) := by decide +kernel
theorem dL_law_1882 : decode cL_law 1882 = .ok (.ifCond .eq 7, 3) := by decide +kernel
theorem dL_law_1885 : decode cL_law 1885 = .ok (.iconst 1, 1) := by decide +kernel
theorem dL_law_1886 : decode cL_law 1886 = .ok (.goto 4, 3) := by decide +kernel
theorem dL_law_1889 : decode cL_law 1889 = .ok (.iconst 0, 1) := by decide +kernel
theorem dL_law_1890 : decode cL_law 1890 = .ok (.invokevirtual 245, 3) := by decide +kernel
theorem dL_law_1893 : decode cL_law 1893 = .ok (.istore 6, 2) := by decide +kernel
theorem dL_law_1895 : decode cL_law 1895 = .ok (.aload_n 2, 1) := by decide +kernel
theorem dL_law_1896 : decode cL_law 1896 = .ok (.invokevirtual 155, 3) := by decide +kernel
theorem dL_law_1899 : decode cL_law 1899 = .ok (.iload 5, 2) := by decide +kernel
theorem dL_law_1901 : decode cL_law 1901 = .ok (.if_icmp .eq 5, 3) := by decide +kernel
theorem dL_law_1904 : decode cL_law 1904 = .ok (.iconst 0, 1) := by decide +kernel
theorem dL_law_1905 : decode cL_law 1905 = .ok (.ireturn, 1) := by decide +kernel
theorem dL_law_1906 : decode cL_law 1906 = .ok (.iload 5, 2) := by decide +kernel
theorem dL_law_1908 : decode cL_law 1908 = .ok (.ifCond .ne 15, 3) := by decide +kernel
theorem dL_law_1911 : decode cL_law 1911 = .ok (.aload_n 3, 1) := by decide +kernel
theorem dL_law_1912 : decode cL_law 1912 = .ok (.iconst 0, 1) := by decide +kernel
theorem dL_law_1913 : decode cL_law 1913 = .ok (.laload, 1) := by decide +kernel
theorem dL_law_1914 : decode cL_law 1914 = .ok (.iload 6, 2) := by decide +kernel
theorem dL_law_1916 : decode cL_law 1916 = .ok (.i2l, 1) := by decide +kernel
theorem dL_law_1917 : decode cL_law 1917 = .ok (.lcmp, 1) := by decide +kernel
theorem dL_law_1918 : decode cL_law 1918 = .ok (.ifCond .eq 5, 3) := by decide +kernel
theorem dL_law_1921 : decode cL_law 1921 = .ok (.iconst 0, 1) := by decide +kernel
theorem dL_law_1922 : decode cL_law 1922 = .ok (.ireturn, 1) := by decide +kernel
theorem dL_law_1923 : decode cL_law 1923 = .ok (.goto 852, 3) := by decide +kernel
theorem dL_law_1926 : decode cL_law 1926 = .ok (.aload_n 1, 1) := by decide +kernel
theorem dL_law_1927 : decode cL_law 1927 = .ok (.aload_n 0, 1) := by decide +kernel
theorem dL_law_1928 : decode cL_law 1928 = .ok (.iload 4, 2) := by decide +kernel
theorem dL_law_1930 : decode cL_law 1930 = .ok (.iconst 1, 1) := by decide +kernel
theorem dL_law_1931 : decode cL_law 1931 = .ok (.iadd, 1) := by decide +kernel
theorem dL_law_1932 : decode cL_law 1932 = .ok (.iaload, 1) := by decide +kernel
theorem dL_law_1933 : decode cL_law 1933 = .ok (.aload_n 3, 1) := by decide +kernel
theorem dL_law_1934 : decode cL_law 1934 = .ok (.invokestatic 246, 3) := by decide +kernel
theorem dL_law_1937 : decode cL_law 1937 = .ok (.istore 5, 2) := by decide +kernel
theorem dL_law_1939 : decode cL_law 1939 = .ok (.aload_n 2, 1) := by decide +kernel
theorem dL_law_1940 : decode cL_law 1940 = .ok (.aload_n 0, 1) := by decide +kernel
theorem dL_law_1941 : decode cL_law 1941 = .ok (.iload 4, 2) := by decide +kernel
theorem dL_law_1943 : decode cL_law 1943 = .ok (.iconst 1, 1) := by decide +kernel
theorem dL_law_1944 : decode cL_law 1944 = .ok (.iadd, 1) := by decide +kernel
theorem dL_law_1945 : decode cL_law 1945 = .ok (.iaload, 1) := by decide +kernel
theorem dL_law_1946 : decode cL_law 1946 = .ok (.invokevirtual 248, 3) := by decide +kernel
theorem dL_law_1949 : decode cL_law 1949 = .ok (.istore 6, 2) := by decide +kernel
theorem dL_law_1951 : decode cL_law 1951 = .ok (.aload_n 2, 1) := by decide +kernel
theorem dL_law_1952 : decode cL_law 1952 = .ok (.invokevirtual 155, 3) := by decide +kernel
theorem dL_law_1955 : decode cL_law 1955 = .ok (.iload 5, 2) := by decide +kernel
theorem dL_law_1957 : decode cL_law 1957 = .ok (.if_icmp .eq 5, 3) := by decide +kernel
theorem dL_law_1960 : decode cL_law 1960 = .ok (.iconst 0, 1) := by decide +kernel
theorem dL_law_1961 : decode cL_law 1961 = .ok (.ireturn, 1) := by decide +kernel
theorem dL_law_1962 : decode cL_law 1962 = .ok (.iload 5, 2) := by decide +kernel
theorem dL_law_1964 : decode cL_law 1964 = .ok (.ifCond .ne 15, 3) := by decide +kernel
theorem dL_law_1967 : decode cL_law 1967 = .ok (.aload_n 3, 1) := by decide +kernel
theorem dL_law_1968 : decode cL_law 1968 = .ok (.iconst 0, 1) := by decide +kernel
theorem dL_law_1969 : decode cL_law 1969 = .ok (.laload, 1) := by decide +kernel
theorem dL_law_1970 : decode cL_law 1970 = .ok (.iload 6, 2) := by decide +kernel
theorem dL_law_1972 : decode cL_law 1972 = .ok (.i2l, 1) := by decide +kernel
theorem dL_law_1973 : decode cL_law 1973 = .ok (.lcmp, 1) := by decide +kernel
theorem dL_law_1974 : decode cL_law 1974 = .ok (.ifCond .eq 5, 3) := by decide +kernel
theorem dL_law_1977 : decode cL_law 1977 = .ok (.iconst 0, 1) := by decide +kernel
theorem dL_law_1978 : decode cL_law 1978 = .ok (.ireturn, 1) := by decide +kernel
theorem dL_law_1979 : decode cL_law 1979 = .ok (.goto 796, 3) := by decide +kernel
theorem dL_law_1982 : decode cL_law 1982 = .ok (.aload_n 1, 1) := by decide +kernel
theorem dL_law_1983 : decode cL_law 1983 = .ok (.aload_n 0, 1) := by decide +kernel
theorem dL_law_1984 : decode cL_law 1984 = .ok (.iload 4, 2) := by decide +kernel
theorem dL_law_1986 : decode cL_law 1986 = .ok (.iconst 1, 1) := by decide +kernel
theorem dL_law_1987 : decode cL_law 1987 = .ok (.iadd, 1) := by decide +kernel
theorem dL_law_1988 : decode cL_law 1988 = .ok (.iaload, 1) := by decide +kernel
theorem dL_law_1989 : decode cL_law 1989 = .ok (.aload_n 0, 1) := by decide +kernel
theorem dL_law_1990 : decode cL_law 1990 = .ok (.iload 4, 2) := by decide +kernel
theorem dL_law_1992 : decode cL_law 1992 = .ok (.iconst 2, 1) := by decide +kernel
theorem dL_law_1993 : decode cL_law 1993 = .ok (.iadd, 1) := by decide +kernel
theorem dL_law_1994 : decode cL_law 1994 = .ok (.iaload, 1) := by decide +kernel
theorem dL_law_1995 : decode cL_law 1995 = .ok (.aload_n 0, 1) := by decide +kernel
theorem dL_law_1996 : decode cL_law 1996 = .ok (.iload 4, 2) := by decide +kernel
theorem dL_law_1998 : decode cL_law 1998 = .ok (.iconst 3, 1) := by decide +kernel
theorem dL_law_1999 : decode cL_law 1999 = .ok (.iadd, 1) := by decide +kernel
theorem dL_law_2000 : decode cL_law 2000 = .ok (.iaload, 1) := by decide +kernel
theorem dL_law_2001 : decode cL_law 2001 = .ok (.aload_n 0, 1) := by decide +kernel
theorem dL_law_2002 : decode cL_law 2002 = .ok (.iload 4, 2) := by decide +kernel
theorem dL_law_2004 : decode cL_law 2004 = .ok (.iconst 4, 1) := by decide +kernel
theorem dL_law_2005 : decode cL_law 2005 = .ok (.iadd, 1) := by decide +kernel
theorem dL_law_2006 : decode cL_law 2006 = .ok (.iaload, 1) := by decide +kernel
theorem dL_law_2007 : decode cL_law 2007 = .ok (.aload_n 3, 1) := by decide +kernel
theorem dL_law_2008 : decode cL_law 2008 = .ok (.invokestatic 249, 3) := by decide +kernel
theorem dL_law_2011 : decode cL_law 2011 = .ok (.istore 5, 2) := by decide +kernel
theorem dL_law_2013 : decode cL_law 2013 = .ok (.aload_n 2, 1) := by decide +kernel
theorem dL_law_2014 : decode cL_law 2014 = .ok (.aload_n 0, 1) := by decide +kernel
theorem dL_law_2015 : decode cL_law 2015 = .ok (.iload 4, 2) := by decide +kernel
theorem dL_law_2017 : decode cL_law 2017 = .ok (.iconst 1, 1) := by decide +kernel
theorem dL_law_2018 : decode cL_law 2018 = .ok (.iadd, 1) := by decide +kernel
theorem dL_law_2019 : decode cL_law 2019 = .ok (.iaload, 1) := by decide +kernel
theorem dL_law_2020 : decode cL_law 2020 = .ok (.aload_n 0, 1) := by decide +kernel
theorem dL_law_2021 : decode cL_law 2021 = .ok (.iload 4, 2) := by decide +kernel
theorem dL_law_2023 : decode cL_law 2023 = .ok (.iconst 2, 1) := by decide +kernel
theorem dL_law_2024 : decode cL_law 2024 = .ok (.iadd, 1) := by decide +kernel
theorem dL_law_2025 : decode cL_law 2025 = .ok (.iaload, 1) := by decide +kernel
theorem dL_law_2026 : decode cL_law 2026 = .ok (.aload_n 0, 1) := by decide +kernel
theorem dL_law_2027 : decode cL_law 2027 = .ok (.iload 4, 2) := by decide +kernel
theorem dL_law_2029 : decode cL_law 2029 = .ok (.iconst 3, 1) := by decide +kernel
theorem dL_law_2030 : decode cL_law 2030 = .ok (.iadd, 1) := by decide +kernel
theorem dL_law_2031 : decode cL_law 2031 = .ok (.iaload, 1) := by decide +kernel
theorem dL_law_2032 : decode cL_law 2032 = .ok (.aload_n 0, 1) := by decide +kernel
theorem dL_law_2033 : decode cL_law 2033 = .ok (.iload 4, 2) := by decide +kernel
theorem dL_law_2035 : decode cL_law 2035 = .ok (.iconst 4, 1) := by decide +kernel
theorem dL_law_2036 : decode cL_law 2036 = .ok (.iadd, 1) := by decide +kernel
theorem dL_law_2037 : decode cL_law 2037 = .ok (.iaload, 1) := by decide +kernel
theorem dL_law_2038 : decode cL_law 2038 = .ok (.invokevirtual 251, 3) := by decide +kernel
theorem dL_law_2041 : decode cL_law 2041 = .ok (.istore 6, 2) := by decide +kernel
theorem dL_law_2043 : decode cL_law 2043 = .ok (.aload_n 2, 1) := by decide +kernel
theorem dL_law_2044 : decode cL_law 2044 = .ok (.invokevirtual 155, 3) := by decide +kernel
theorem dL_law_2047 : decode cL_law 2047 = .ok (.iload 5, 2) := by decide +kernel
theorem dL_law_2049 : decode cL_law 2049 = .ok (.if_icmp .eq 5, 3) := by decide +kernel
theorem dL_law_2052 : decode cL_law 2052 = .ok (.iconst 0, 1) := by decide +kernel
theorem dL_law_2053 : decode cL_law 2053 = .ok (.ireturn, 1) := by decide +kernel
theorem dL_law_2054 : decode cL_law 2054 = .ok (.iload 5, 2) := by decide +kernel
theorem dL_law_2056 : decode cL_law 2056 = .ok (.ifCond .ne 15, 3) := by decide +kernel
theorem dL_law_2059 : decode cL_law 2059 = .ok (.aload_n 3, 1) := by decide +kernel
theorem dL_law_2060 : decode cL_law 2060 = .ok (.iconst 0, 1) := by decide +kernel
theorem dL_law_2061 : decode cL_law 2061 = .ok (.laload, 1) := by decide +kernel
theorem dL_law_2062 : decode cL_law 2062 = .ok (.iload 6, 2) := by decide +kernel
theorem dL_law_2064 : decode cL_law 2064 = .ok (.i2l, 1) := by decide +kernel
theorem dL_law_2065 : decode cL_law 2065 = .ok (.lcmp, 1) := by decide +kernel
theorem dL_law_2066 : decode cL_law 2066 = .ok (.ifCond .eq 5, 3) := by decide +kernel
theorem dL_law_2069 : decode cL_law 2069 = .ok (.iconst 0, 1) := by decide +kernel
theorem dL_law_2070 : decode cL_law 2070 = .ok (.ireturn, 1) := by decide +kernel
theorem dL_law_2071 : decode cL_law 2071 = .ok (.goto 704, 3) := by decide +kernel
theorem dL_law_2074 : decode cL_law 2074 = .ok (.aload_n 1, 1) := by decide +kernel
theorem dL_law_2075 : decode cL_law 2075 = .ok (.aload_n 0, 1) := by decide +kernel
theorem dL_law_2076 : decode cL_law 2076 = .ok (.iload 4, 2) := by decide +kernel
theorem dL_law_2078 : decode cL_law 2078 = .ok (.iconst 1, 1) := by decide +kernel
theorem dL_law_2079 : decode cL_law 2079 = .ok (.iadd, 1) := by decide +kernel
theorem dL_law_2080 : decode cL_law 2080 = .ok (.iaload, 1) := by decide +kernel
theorem dL_law_2081 : decode cL_law 2081 = .ok (.aload_n 3, 1) := by decide +kernel
theorem dL_law_2082 : decode cL_law 2082 = .ok (.invokestatic 252, 3) := by decide +kernel
theorem dL_law_2085 : decode cL_law 2085 = .ok (.istore 5, 2) := by decide +kernel
theorem dL_law_2087 : decode cL_law 2087 = .ok (.aload_n 2, 1) := by decide +kernel
theorem dL_law_2088 : decode cL_law 2088 = .ok (.aload_n 0, 1) := by decide +kernel
theorem dL_law_2089 : decode cL_law 2089 = .ok (.iload 4, 2) := by decide +kernel
theorem dL_law_2091 : decode cL_law 2091 = .ok (.iconst 1, 1) := by decide +kernel
theorem dL_law_2092 : decode cL_law 2092 = .ok (.iadd, 1) := by decide +kernel
theorem dL_law_2093 : decode cL_law 2093 = .ok (.iaload, 1) := by decide +kernel
theorem dL_law_2094 : decode cL_law 2094 = .ok (.invokevirtual 254, 3) := by decide +kernel
theorem dL_law_2097 : decode cL_law 2097 = .ok (.istore 6, 2) := by decide +kernel
theorem dL_law_2099 : decode cL_law 2099 = .ok (.aload_n 2, 1) := by decide +kernel
theorem dL_law_2100 : decode cL_law 2100 = .ok (.invokevirtual 155, 3) := by decide +kernel
theorem dL_law_2103 : decode cL_law 2103 = .ok (.iload 5, 2) := by decide +kernel
theorem dL_law_2105 : decode cL_law 2105 = .ok (.if_icmp .eq 5, 3) := by decide +kernel
theorem dL_law_2108 : decode cL_law 2108 = .ok (.iconst 0, 1) := by decide +kernel
theorem dL_law_2109 : decode cL_law 2109 = .ok (.ireturn, 1) := by decide +kernel
theorem dL_law_2110 : decode cL_law 2110 = .ok (.iload 5, 2) := by decide +kernel
theorem dL_law_2112 : decode cL_law 2112 = .ok (.ifCond .ne 15, 3) := by decide +kernel
theorem dL_law_2115 : decode cL_law 2115 = .ok (.aload_n 3, 1) := by decide +kernel
theorem dL_law_2116 : decode cL_law 2116 = .ok (.iconst 0, 1) := by decide +kernel
theorem dL_law_2117 : decode cL_law 2117 = .ok (.laload, 1) := by decide +kernel
theorem dL_law_2118 : decode cL_law 2118 = .ok (.iload 6, 2) := by decide +kernel
theorem dL_law_2120 : decode cL_law 2120 = .ok (.i2l, 1) := by decide +kernel
theorem dL_law_2121 : decode cL_law 2121 = .ok (.lcmp, 1) := by decide +kernel
theorem dL_law_2122 : decode cL_law 2122 = .ok (.ifCond .eq 5, 3) := by decide +kernel
theorem dL_law_2125 : decode cL_law 2125 = .ok (.iconst 0, 1) := by decide +kernel
theorem dL_law_2126 : decode cL_law 2126 = .ok (.ireturn, 1) := by decide +kernel
theorem dL_law_2127 : decode cL_law 2127 = .ok (.goto 648, 3) := by decide +kernel
theorem dL_law_2130 : decode cL_law 2130 = .ok (.aload_n 1, 1) := by decide +kernel
theorem dL_law_2131 : decode cL_law 2131 = .ok (.aload_n 0, 1) := by decide +kernel
theorem dL_law_2132 : decode cL_law 2132 = .ok (.iload 4, 2) := by decide +kernel
theorem dL_law_2134 : decode cL_law 2134 = .ok (.iconst 1, 1) := by decide +kernel
theorem dL_law_2135 : decode cL_law 2135 = .ok (.iadd, 1) := by decide +kernel
theorem dL_law_2136 : decode cL_law 2136 = .ok (.iaload, 1) := by decide +kernel
theorem dL_law_2137 : decode cL_law 2137 = .ok (.aload_n 3, 1) := by decide +kernel
theorem dL_law_2138 : decode cL_law 2138 = .ok (.invokestatic 255, 3) := by decide +kernel
theorem dL_law_2141 : decode cL_law 2141 = .ok (.istore 5, 2) := by decide +kernel
theorem dL_law_2143 : decode cL_law 2143 = .ok (.aload_n 2, 1) := by decide +kernel
theorem dL_law_2144 : decode cL_law 2144 = .ok (.aload_n 0, 1) := by decide +kernel
theorem dL_law_2145 : decode cL_law 2145 = .ok (.iload 4, 2) := by decide +kernel
theorem dL_law_2147 : decode cL_law 2147 = .ok (.iconst 1, 1) := by decide +kernel
theorem dL_law_2148 : decode cL_law 2148 = .ok (.iadd, 1) := by decide +kernel
theorem dL_law_2149 : decode cL_law 2149 = .ok (.iaload, 1) := by decide +kernel
theorem dL_law_2150 : decode cL_law 2150 = .ok (.invokevirtual 257, 3) := by decide +kernel
theorem dL_law_2153 : decode cL_law 2153 = .ok (.istore 6, 2) := by decide +kernel
theorem dL_law_2155 : decode cL_law 2155 = .ok (.aload_n 2, 1) := by decide +kernel
theorem dL_law_2156 : decode cL_law 2156 = .ok (.invokevirtual 155, 3) := by decide +kernel
theorem dL_law_2159 : decode cL_law 2159 = .ok (.iload 5, 2) := by decide +kernel
theorem dL_law_2161 : decode cL_law 2161 = .ok (.if_icmp .eq 5, 3) := by decide +kernel
theorem dL_law_2164 : decode cL_law 2164 = .ok (.iconst 0, 1) := by decide +kernel
theorem dL_law_2165 : decode cL_law 2165 = .ok (.ireturn, 1) := by decide +kernel
theorem dL_law_2166 : decode cL_law 2166 = .ok (.iload 5, 2) := by decide +kernel
theorem dL_law_2168 : decode cL_law 2168 = .ok (.ifCond .ne 15, 3) := by decide +kernel
theorem dL_law_2171 : decode cL_law 2171 = .ok (.aload_n 3, 1) := by decide +kernel
theorem dL_law_2172 : decode cL_law 2172 = .ok (.iconst 0, 1) := by decide +kernel
theorem dL_law_2173 : decode cL_law 2173 = .ok (.laload, 1) := by decide +kernel
theorem dL_law_2174 : decode cL_law 2174 = .ok (.iload 6, 2) := by decide +kernel
theorem dL_law_2176 : decode cL_law 2176 = .ok (.i2l, 1) := by decide +kernel
theorem dL_law_2177 : decode cL_law 2177 = .ok (.lcmp, 1) := by decide +kernel
theorem dL_law_2178 : decode cL_law 2178 = .ok (.ifCond .eq 5, 3) := by decide +kernel
theorem dL_law_2181 : decode cL_law 2181 = .ok (.iconst 0, 1) := by decide +kernel
theorem dL_law_2182 : decode cL_law 2182 = .ok (.ireturn, 1) := by decide +kernel
theorem dL_law_2183 : decode cL_law 2183 = .ok (.goto 592, 3) := by decide +kernel
theorem dL_law_2186 : decode cL_law 2186 = .ok (.aload_n 1, 1) := by decide +kernel
theorem dL_law_2187 : decode cL_law 2187 = .ok (.invokevirtual 258, 3) := by decide +kernel
theorem dL_law_2190 : decode cL_law 2190 = .ok (.aload_n 2, 1) := by decide +kernel
theorem dL_law_2191 : decode cL_law 2191 = .ok (.invokevirtual 261, 3) := by decide +kernel
theorem dL_law_2194 : decode cL_law 2194 = .ok (.if_icmp .eq 581, 3) := by decide +kernel
theorem dL_law_2197 : decode cL_law 2197 = .ok (.iconst 0, 1) := by decide +kernel
theorem dL_law_2198 : decode cL_law 2198 = .ok (.ireturn, 1) := by decide +kernel
theorem dL_law_2199 : decode cL_law 2199 = .ok (.aload_n 1, 1) := by decide +kernel
theorem dL_law_2200 : decode cL_law 2200 = .ok (.aload_n 0, 1) := by decide +kernel
theorem dL_law_2201 : decode cL_law 2201 = .ok (.iload 4, 2) := by decide +kernel
theorem dL_law_2203 : decode cL_law 2203 = .ok (.iconst 1, 1) := by decide +kernel
theorem dL_law_2204 : decode cL_law 2204 = .ok (.iadd, 1) := by decide +kernel
theorem dL_law_2205 : decode cL_law 2205 = .ok (.iaload, 1) := by decide +kernel
theorem dL_law_2206 : decode cL_law 2206 = .ok (.aload_n 3, 1) := by decide +kernel
theorem dL_law_2207 : decode cL_law 2207 = .ok (.invokestatic 262, 3) := by decide +kernel
theorem dL_law_2210 : decode cL_law 2210 = .ok (.istore 5, 2) := by decide +kernel
theorem dL_law_2212 : decode cL_law 2212 = .ok (.aload_n 2, 1) := by decide +kernel
theorem dL_law_2213 : decode cL_law 2213 = .ok (.aload_n 0, 1) := by decide +kernel
theorem dL_law_2214 : decode cL_law 2214 = .ok (.iload 4, 2) := by decide +kernel
theorem dL_law_2216 : decode cL_law 2216 = .ok (.iconst 1, 1) := by decide +kernel
theorem dL_law_2217 : decode cL_law 2217 = .ok (.iadd, 1) := by decide +kernel
theorem dL_law_2218 : decode cL_law 2218 = .ok (.iaload, 1) := by decide +kernel
theorem dL_law_2219 : decode cL_law 2219 = .ok (.invokevirtual 264, 3) := by decide +kernel
theorem dL_law_2222 : decode cL_law 2222 = .ok (.istore 6, 2) := by decide +kernel
theorem dL_law_2224 : decode cL_law 2224 = .ok (.aload_n 2, 1) := by decide +kernel
theorem dL_law_2225 : decode cL_law 2225 = .ok (.invokevirtual 155, 3) := by decide +kernel
theorem dL_law_2228 : decode cL_law 2228 = .ok (.iload 5, 2) := by decide +kernel
theorem dL_law_2230 : decode cL_law 2230 = .ok (.if_icmp .eq 5, 3) := by decide +kernel
theorem dL_law_2233 : decode cL_law 2233 = .ok (.iconst 0, 1) := by decide +kernel
theorem dL_law_2234 : decode cL_law 2234 = .ok (.ireturn, 1) := by decide +kernel
theorem dL_law_2235 : decode cL_law 2235 = .ok (.iload 5, 2) := by decide +kernel
theorem dL_law_2237 : decode cL_law 2237 = .ok (.ifCond .ne 15, 3) := by decide +kernel
theorem dL_law_2240 : decode cL_law 2240 = .ok (.aload_n 3, 1) := by decide +kernel
theorem dL_law_2241 : decode cL_law 2241 = .ok (.iconst 0, 1) := by decide +kernel
theorem dL_law_2242 : decode cL_law 2242 = .ok (.laload, 1) := by decide +kernel
theorem dL_law_2243 : decode cL_law 2243 = .ok (.iload 6, 2) := by decide +kernel
theorem dL_law_2245 : decode cL_law 2245 = .ok (.i2l, 1) := by decide +kernel
theorem dL_law_2246 : decode cL_law 2246 = .ok (.lcmp, 1) := by decide +kernel
theorem dL_law_2247 : decode cL_law 2247 = .ok (.ifCond .eq 5, 3) := by decide +kernel
theorem dL_law_2250 : decode cL_law 2250 = .ok (.iconst 0, 1) := by decide +kernel
theorem dL_law_2251 : decode cL_law 2251 = .ok (.ireturn, 1) := by decide +kernel
theorem dL_law_2252 : decode cL_law 2252 = .ok (.goto 523, 3) := by decide +kernel
theorem dL_law_2255 : decode cL_law 2255 = .ok (.aload_n 1, 1) := by decide +kernel
theorem dL_law_2256 : decode cL_law 2256 = .ok (.aload_n 3, 1) := by decide +kernel
theorem dL_law_2257 : decode cL_law 2257 = .ok (.invokestatic 265, 3) := by decide +kernel
theorem dL_law_2260 : decode cL_law 2260 = .ok (.istore 5, 2) := by decide +kernel
theorem dL_law_2262 : decode cL_law 2262 = .ok (.aload_n 2, 1) := by decide +kernel
theorem dL_law_2263 : decode cL_law 2263 = .ok (.invokevirtual 267, 3) := by decide +kernel
theorem dL_law_2266 : decode cL_law 2266 = .ok (.istore 6, 2) := by decide +kernel
theorem dL_law_2268 : decode cL_law 2268 = .ok (.aload_n 2, 1) := by decide +kernel
theorem dL_law_2269 : decode cL_law 2269 = .ok (.invokevirtual 155, 3) := by decide +kernel
theorem dL_law_2272 : decode cL_law 2272 = .ok (.iload 5, 2) := by decide +kernel
theorem dL_law_2274 : decode cL_law 2274 = .ok (.if_icmp .eq 5, 3) := by decide +kernel
theorem dL_law_2277 : decode cL_law 2277 = .ok (.iconst 0, 1) := by decide +kernel
theorem dL_law_2278 : decode cL_law 2278 = .ok (.ireturn, 1) := by decide +kernel
theorem dL_law_2279 : decode cL_law 2279 = .ok (.iload 5, 2) := by decide +kernel
theorem dL_law_2281 : decode cL_law 2281 = .ok (.ifCond .ne 15, 3) := by decide +kernel
theorem dL_law_2284 : decode cL_law 2284 = .ok (.aload_n 3, 1) := by decide +kernel
theorem dL_law_2285 : decode cL_law 2285 = .ok (.iconst 0, 1) := by decide +kernel
theorem dL_law_2286 : decode cL_law 2286 = .ok (.laload, 1) := by decide +kernel
theorem dL_law_2287 : decode cL_law 2287 = .ok (.iload 6, 2) := by decide +kernel
theorem dL_law_2289 : decode cL_law 2289 = .ok (.i2l, 1) := by decide +kernel
theorem dL_law_2290 : decode cL_law 2290 = .ok (.lcmp, 1) := by decide +kernel
theorem dL_law_2291 : decode cL_law 2291 = .ok (.ifCond .eq 5, 3) := by decide +kernel
theorem dL_law_2294 : decode cL_law 2294 = .ok (.iconst 0, 1) := by decide +kernel
theorem dL_law_2295 : decode cL_law 2295 = .ok (.ireturn, 1) := by decide +kernel
theorem dL_law_2296 : decode cL_law 2296 = .ok (.goto 479, 3) := by decide +kernel
theorem dL_law_2299 : decode cL_law 2299 = .ok (.aload_n 1, 1) := by decide +kernel
theorem dL_law_2300 : decode cL_law 2300 = .ok (.aload_n 0, 1) := by decide +kernel
theorem dL_law_2301 : decode cL_law 2301 = .ok (.iload 4, 2) := by decide +kernel
theorem dL_law_2303 : decode cL_law 2303 = .ok (.iconst 1, 1) := by decide +kernel
theorem dL_law_2304 : decode cL_law 2304 = .ok (.iadd, 1) := by decide +kernel
theorem dL_law_2305 : decode cL_law 2305 = .ok (.iaload, 1) := by decide +kernel
theorem dL_law_2306 : decode cL_law 2306 = .ok (.aload_n 0, 1) := by decide +kernel
theorem dL_law_2307 : decode cL_law 2307 = .ok (.iload 4, 2) := by decide +kernel
theorem dL_law_2309 : decode cL_law 2309 = .ok (.iconst 2, 1) := by decide +kernel
theorem dL_law_2310 : decode cL_law 2310 = .ok (.iadd, 1) := by decide +kernel
theorem dL_law_2311 : decode cL_law 2311 = .ok (.iaload, 1) := by decide +kernel
theorem dL_law_2312 : decode cL_law 2312 = .ok (.aload_n 3, 1) := by decide +kernel
theorem dL_law_2313 : decode cL_law 2313 = .ok (.invokestatic 268, 3) := by decide +kernel
theorem dL_law_2316 : decode cL_law 2316 = .ok (.istore 5, 2) := by decide +kernel
theorem dL_law_2318 : decode cL_law 2318 = .ok (.aload_n 2, 1) := by decide +kernel
theorem dL_law_2319 : decode cL_law 2319 = .ok (.aload_n 0, 1) := by decide +kernel
theorem dL_law_2320 : decode cL_law 2320 = .ok (.iload 4, 2) := by decide +kernel
theorem dL_law_2322 : decode cL_law 2322 = .ok (.iconst 1, 1) := by decide +kernel
theorem dL_law_2323 : decode cL_law 2323 = .ok (.iadd, 1) := by decide +kernel
theorem dL_law_2324 : decode cL_law 2324 = .ok (.iaload, 1) := by decide +kernel
theorem dL_law_2325 : decode cL_law 2325 = .ok (.aload_n 0, 1) := by decide +kernel
theorem dL_law_2326 : decode cL_law 2326 = .ok (.iload 4, 2) := by decide +kernel
theorem dL_law_2328 : decode cL_law 2328 = .ok (.iconst 2, 1) := by decide +kernel
theorem dL_law_2329 : decode cL_law 2329 = .ok (.iadd, 1) := by decide +kernel
theorem dL_law_2330 : decode cL_law 2330 = .ok (.iaload, 1) := by decide +kernel
theorem dL_law_2331 : decode cL_law 2331 = .ok (.invokevirtual 270, 3) := by decide +kernel
theorem dL_law_2334 : decode cL_law 2334 = .ok (.istore 6, 2) := by decide +kernel
theorem dL_law_2336 : decode cL_law 2336 = .ok (.aload_n 2, 1) := by decide +kernel
theorem dL_law_2337 : decode cL_law 2337 = .ok (.invokevirtual 155, 3) := by decide +kernel
theorem dL_law_2340 : decode cL_law 2340 = .ok (.iload 5, 2) := by decide +kernel
theorem dL_law_2342 : decode cL_law 2342 = .ok (.if_icmp .eq 5, 3) := by decide +kernel
theorem dL_law_2345 : decode cL_law 2345 = .ok (.iconst 0, 1) := by decide +kernel
theorem dL_law_2346 : decode cL_law 2346 = .ok (.ireturn, 1) := by decide +kernel
theorem dL_law_2347 : decode cL_law 2347 = .ok (.iload 5, 2) := by decide +kernel
theorem dL_law_2349 : decode cL_law 2349 = .ok (.ifCond .ne 15, 3) := by decide +kernel
theorem dL_law_2352 : decode cL_law 2352 = .ok (.aload_n 3, 1) := by decide +kernel
theorem dL_law_2353 : decode cL_law 2353 = .ok (.iconst 0, 1) := by decide +kernel
theorem dL_law_2354 : decode cL_law 2354 = .ok (.laload, 1) := by decide +kernel
theorem dL_law_2355 : decode cL_law 2355 = .ok (.iload 6, 2) := by decide +kernel
theorem dL_law_2357 : decode cL_law 2357 = .ok (.i2l, 1) := by decide +kernel
theorem dL_law_2358 : decode cL_law 2358 = .ok (.lcmp, 1) := by decide +kernel
theorem dL_law_2359 : decode cL_law 2359 = .ok (.ifCond .eq 5, 3) := by decide +kernel
theorem dL_law_2362 : decode cL_law 2362 = .ok (.iconst 0, 1) := by decide +kernel
theorem dL_law_2363 : decode cL_law 2363 = .ok (.ireturn, 1) := by decide +kernel
theorem dL_law_2364 : decode cL_law 2364 = .ok (.goto 411, 3) := by decide +kernel
theorem dL_law_2367 : decode cL_law 2367 = .ok (.aload_n 1, 1) := by decide +kernel
theorem dL_law_2368 : decode cL_law 2368 = .ok (.aload_n 0, 1) := by decide +kernel
theorem dL_law_2369 : decode cL_law 2369 = .ok (.iload 4, 2) := by decide +kernel
theorem dL_law_2371 : decode cL_law 2371 = .ok (.iconst 1, 1) := by decide +kernel
theorem dL_law_2372 : decode cL_law 2372 = .ok (.iadd, 1) := by decide +kernel
theorem dL_law_2373 : decode cL_law 2373 = .ok (.iaload, 1) := by decide +kernel
theorem dL_law_2374 : decode cL_law 2374 = .ok (.aload_n 3, 1) := by decide +kernel
theorem dL_law_2375 : decode cL_law 2375 = .ok (.invokestatic 271, 3) := by decide +kernel
theorem dL_law_2378 : decode cL_law 2378 = .ok (.istore 5, 2) := by decide +kernel
theorem dL_law_2380 : decode cL_law 2380 = .ok (.aload_n 2, 1) := by decide +kernel
theorem dL_law_2381 : decode cL_law 2381 = .ok (.aload_n 0, 1) := by decide +kernel
theorem dL_law_2382 : decode cL_law 2382 = .ok (.iload 4, 2) := by decide +kernel
theorem dL_law_2384 : decode cL_law 2384 = .ok (.iconst 1, 1) := by decide +kernel
theorem dL_law_2385 : decode cL_law 2385 = .ok (.iadd, 1) := by decide +kernel
theorem dL_law_2386 : decode cL_law 2386 = .ok (.iaload, 1) := by decide +kernel
theorem dL_law_2387 : decode cL_law 2387 = .ok (.invokevirtual 273, 3) := by decide +kernel
theorem dL_law_2390 : decode cL_law 2390 = .ok (.istore 6, 2) := by decide +kernel
theorem dL_law_2392 : decode cL_law 2392 = .ok (.aload_n 2, 1) := by decide +kernel
theorem dL_law_2393 : decode cL_law 2393 = .ok (.invokevirtual 155, 3) := by decide +kernel
theorem dL_law_2396 : decode cL_law 2396 = .ok (.iload 5, 2) := by decide +kernel
theorem dL_law_2398 : decode cL_law 2398 = .ok (.if_icmp .eq 5, 3) := by decide +kernel
theorem dL_law_2401 : decode cL_law 2401 = .ok (.iconst 0, 1) := by decide +kernel
theorem dL_law_2402 : decode cL_law 2402 = .ok (.ireturn, 1) := by decide +kernel
theorem dL_law_2403 : decode cL_law 2403 = .ok (.iload 5, 2) := by decide +kernel
theorem dL_law_2405 : decode cL_law 2405 = .ok (.ifCond .ne 15, 3) := by decide +kernel
theorem dL_law_2408 : decode cL_law 2408 = .ok (.aload_n 3, 1) := by decide +kernel
theorem dL_law_2409 : decode cL_law 2409 = .ok (.iconst 0, 1) := by decide +kernel
theorem dL_law_2410 : decode cL_law 2410 = .ok (.laload, 1) := by decide +kernel
theorem dL_law_2411 : decode cL_law 2411 = .ok (.iload 6, 2) := by decide +kernel
theorem dL_law_2413 : decode cL_law 2413 = .ok (.i2l, 1) := by decide +kernel
theorem dL_law_2414 : decode cL_law 2414 = .ok (.lcmp, 1) := by decide +kernel
theorem dL_law_2415 : decode cL_law 2415 = .ok (.ifCond .eq 5, 3) := by decide +kernel
theorem dL_law_2418 : decode cL_law 2418 = .ok (.iconst 0, 1) := by decide +kernel
theorem dL_law_2419 : decode cL_law 2419 = .ok (.ireturn, 1) := by decide +kernel
theorem dL_law_2420 : decode cL_law 2420 = .ok (.goto 355, 3) := by decide +kernel
theorem dL_law_2423 : decode cL_law 2423 = .ok (.aload_n 1, 1) := by decide +kernel
theorem dL_law_2424 : decode cL_law 2424 = .ok (.aload_n 3, 1) := by decide +kernel
theorem dL_law_2425 : decode cL_law 2425 = .ok (.invokestatic 274, 3) := by decide +kernel
theorem dL_law_2428 : decode cL_law 2428 = .ok (.istore 5, 2) := by decide +kernel
theorem dL_law_2430 : decode cL_law 2430 = .ok (.aload_n 2, 1) := by decide +kernel
theorem dL_law_2431 : decode cL_law 2431 = .ok (.invokevirtual 276, 3) := by decide +kernel
theorem dL_law_2434 : decode cL_law 2434 = .ok (.lstore 6, 2) := by decide +kernel
theorem dL_law_2436 : decode cL_law 2436 = .ok (.aload_n 2, 1) := by decide +kernel
theorem dL_law_2437 : decode cL_law 2437 = .ok (.invokevirtual 155, 3) := by decide +kernel
theorem dL_law_2440 : decode cL_law 2440 = .ok (.iload 5, 2) := by decide +kernel
theorem dL_law_2442 : decode cL_law 2442 = .ok (.if_icmp .eq 5, 3) := by decide +kernel
theorem dL_law_2445 : decode cL_law 2445 = .ok (.iconst 0, 1) := by decide +kernel
theorem dL_law_2446 : decode cL_law 2446 = .ok (.ireturn, 1) := by decide +kernel
theorem dL_law_2447 : decode cL_law 2447 = .ok (.iload 5, 2) := by decide +kernel
theorem dL_law_2449 : decode cL_law 2449 = .ok (.ifCond .ne 14, 3) := by decide +kernel
theorem dL_law_2452 : decode cL_law 2452 = .ok (.aload_n 3, 1) := by decide +kernel
theorem dL_law_2453 : decode cL_law 2453 = .ok (.iconst 0, 1) := by decide +kernel
theorem dL_law_2454 : decode cL_law 2454 = .ok (.laload, 1) := by decide +kernel
theorem dL_law_2455 : decode cL_law 2455 = .ok (.lload 6, 2) := by decide +kernel
theorem dL_law_2457 : decode cL_law 2457 = .ok (.lcmp, 1) := by decide +kernel
theorem dL_law_2458 : decode cL_law 2458 = .ok (.ifCond .eq 5, 3) := by decide +kernel
theorem dL_law_2461 : decode cL_law 2461 = .ok (.iconst 0, 1) := by decide +kernel
theorem dL_law_2462 : decode cL_law 2462 = .ok (.ireturn, 1) := by decide +kernel
theorem dL_law_2463 : decode cL_law 2463 = .ok (.goto 312, 3) := by decide +kernel
theorem dL_law_2466 : decode cL_law 2466 = .ok (.aload_n 1, 1) := by decide +kernel
theorem dL_law_2467 : decode cL_law 2467 = .ok (.aload_n 0, 1) := by decide +kernel
theorem dL_law_2468 : decode cL_law 2468 = .ok (.iload 4, 2) := by decide +kernel
theorem dL_law_2470 : decode cL_law 2470 = .ok (.iconst 1, 1) := by decide +kernel
theorem dL_law_2471 : decode cL_law 2471 = .ok (.iadd, 1) := by decide +kernel
theorem dL_law_2472 : decode cL_law 2472 = .ok (.iaload, 1) := by decide +kernel
theorem dL_law_2473 : decode cL_law 2473 = .ok (.aload_n 0, 1) := by decide +kernel
theorem dL_law_2474 : decode cL_law 2474 = .ok (.iload 4, 2) := by decide +kernel
theorem dL_law_2476 : decode cL_law 2476 = .ok (.iconst 2, 1) := by decide +kernel
theorem dL_law_2477 : decode cL_law 2477 = .ok (.iadd, 1) := by decide +kernel
theorem dL_law_2478 : decode cL_law 2478 = .ok (.iaload, 1) := by decide +kernel
theorem dL_law_2479 : decode cL_law 2479 = .ok (.aload_n 0, 1) := by decide +kernel
theorem dL_law_2480 : decode cL_law 2480 = .ok (.iload 4, 2) := by decide +kernel
theorem dL_law_2482 : decode cL_law 2482 = .ok (.iconst 3, 1) := by decide +kernel
theorem dL_law_2483 : decode cL_law 2483 = .ok (.iadd, 1) := by decide +kernel
theorem dL_law_2484 : decode cL_law 2484 = .ok (.iaload, 1) := by decide +kernel
theorem dL_law_2485 : decode cL_law 2485 = .ok (.aload_n 3, 1) := by decide +kernel
theorem dL_law_2486 : decode cL_law 2486 = .ok (.invokestatic 277, 3) := by decide +kernel
theorem dL_law_2489 : decode cL_law 2489 = .ok (.istore 5, 2) := by decide +kernel
theorem dL_law_2491 : decode cL_law 2491 = .ok (.aload_n 2, 1) := by decide +kernel
theorem dL_law_2492 : decode cL_law 2492 = .ok (.aload_n 0, 1) := by decide +kernel
theorem dL_law_2493 : decode cL_law 2493 = .ok (.iload 4, 2) := by decide +kernel
theorem dL_law_2495 : decode cL_law 2495 = .ok (.iconst 1, 1) := by decide +kernel
theorem dL_law_2496 : decode cL_law 2496 = .ok (.iadd, 1) := by decide +kernel
theorem dL_law_2497 : decode cL_law 2497 = .ok (.iaload, 1) := by decide +kernel
theorem dL_law_2498 : decode cL_law 2498 = .ok (.aload_n 0, 1) := by decide +kernel
theorem dL_law_2499 : decode cL_law 2499 = .ok (.iload 4, 2) := by decide +kernel
theorem dL_law_2501 : decode cL_law 2501 = .ok (.iconst 2, 1) := by decide +kernel
theorem dL_law_2502 : decode cL_law 2502 = .ok (.iadd, 1) := by decide +kernel
theorem dL_law_2503 : decode cL_law 2503 = .ok (.iaload, 1) := by decide +kernel
theorem dL_law_2504 : decode cL_law 2504 = .ok (.aload_n 0, 1) := by decide +kernel
theorem dL_law_2505 : decode cL_law 2505 = .ok (.iload 4, 2) := by decide +kernel
theorem dL_law_2507 : decode cL_law 2507 = .ok (.iconst 3, 1) := by decide +kernel
theorem dL_law_2508 : decode cL_law 2508 = .ok (.iadd, 1) := by decide +kernel
theorem dL_law_2509 : decode cL_law 2509 = .ok (.iaload, 1) := by decide +kernel
theorem dL_law_2510 : decode cL_law 2510 = .ok (.invokevirtual 279, 3) := by decide +kernel
theorem dL_law_2513 : decode cL_law 2513 = .ok (.istore 6, 2) := by decide +kernel
theorem dL_law_2515 : decode cL_law 2515 = .ok (.aload_n 2, 1) := by decide +kernel
theorem dL_law_2516 : decode cL_law 2516 = .ok (.invokevirtual 155, 3) := by decide +kernel
theorem dL_law_2519 : decode cL_law 2519 = .ok (.iload 5, 2) := by decide +kernel
theorem dL_law_2521 : decode cL_law 2521 = .ok (.if_icmp .eq 5, 3) := by decide +kernel
theorem dL_law_2524 : decode cL_law 2524 = .ok (.iconst 0, 1) := by decide +kernel
theorem dL_law_2525 : decode cL_law 2525 = .ok (.ireturn, 1) := by decide +kernel
theorem dL_law_2526 : decode cL_law 2526 = .ok (.iload 5, 2) := by decide +kernel
theorem dL_law_2528 : decode cL_law 2528 = .ok (.ifCond .ne 15, 3) := by decide +kernel
theorem dL_law_2531 : decode cL_law 2531 = .ok (.aload_n 3, 1) := by decide +kernel
theorem dL_law_2532 : decode cL_law 2532 = .ok (.iconst 0, 1) := by decide +kernel
theorem dL_law_2533 : decode cL_law 2533 = .ok (.laload, 1) := by decide +kernel
theorem dL_law_2534 : decode cL_law 2534 = .ok (.iload 6, 2) := by decide +kernel
theorem dL_law_2536 : decode cL_law 2536 = .ok (.i2l, 1) := by decide +kernel
theorem dL_law_2537 : decode cL_law 2537 = .ok (.lcmp, 1) := by decide +kernel
theorem dL_law_2538 : decode cL_law 2538 = .ok (.ifCond .eq 5, 3) := by decide +kernel
theorem dL_law_2541 : decode cL_law 2541 = .ok (.iconst 0, 1) := by decide +kernel
theorem dL_law_2542 : decode cL_law 2542 = .ok (.ireturn, 1) := by decide +kernel
theorem dL_law_2543 : decode cL_law 2543 = .ok (.goto 232, 3) := by decide +kernel
theorem dL_law_2546 : decode cL_law 2546 = .ok (.aload_n 1, 1) := by decide +kernel
theorem dL_law_2547 : decode cL_law 2547 = .ok (.aload_n 0, 1) := by decide +kernel
theorem dL_law_2548 : decode cL_law 2548 = .ok (.iload 4, 2) := by decide +kernel
theorem dL_law_2550 : decode cL_law 2550 = .ok (.iconst 1, 1) := by decide +kernel
theorem dL_law_2551 : decode cL_law 2551 = .ok (.iadd, 1) := by decide +kernel
theorem dL_law_2552 : decode cL_law 2552 = .ok (.iaload, 1) := by decide +kernel
theorem dL_law_2553 : decode cL_law 2553 = .ok (.aload_n 0, 1) := by decide +kernel
theorem dL_law_2554 : decode cL_law 2554 = .ok (.iload 4, 2) := by decide +kernel
theorem dL_law_2556 : decode cL_law 2556 = .ok (.iconst 2, 1) := by decide +kernel
theorem dL_law_2557 : decode cL_law 2557 = .ok (.iadd, 1) := by decide +kernel
theorem dL_law_2558 : decode cL_law 2558 = .ok (.iaload, 1) := by decide +kernel
theorem dL_law_2559 : decode cL_law 2559 = .ok (.aload_n 0, 1) := by decide +kernel
theorem dL_law_2560 : decode cL_law 2560 = .ok (.iload 4, 2) := by decide +kernel
theorem dL_law_2562 : decode cL_law 2562 = .ok (.iconst 3, 1) := by decide +kernel
theorem dL_law_2563 : decode cL_law 2563 = .ok (.iadd, 1) := by decide +kernel
theorem dL_law_2564 : decode cL_law 2564 = .ok (.iaload, 1) := by decide +kernel
theorem dL_law_2565 : decode cL_law 2565 = .ok (.aload_n 3, 1) := by decide +kernel
theorem dL_law_2566 : decode cL_law 2566 = .ok (.invokestatic 280, 3) := by decide +kernel
theorem dL_law_2569 : decode cL_law 2569 = .ok (.istore 5, 2) := by decide +kernel
theorem dL_law_2571 : decode cL_law 2571 = .ok (.aload_n 2, 1) := by decide +kernel
theorem dL_law_2572 : decode cL_law 2572 = .ok (.aload_n 0, 1) := by decide +kernel
theorem dL_law_2573 : decode cL_law 2573 = .ok (.iload 4, 2) := by decide +kernel
theorem dL_law_2575 : decode cL_law 2575 = .ok (.iconst 1, 1) := by decide +kernel
theorem dL_law_2576 : decode cL_law 2576 = .ok (.iadd, 1) := by decide +kernel
theorem dL_law_2577 : decode cL_law 2577 = .ok (.iaload, 1) := by decide +kernel
theorem dL_law_2578 : decode cL_law 2578 = .ok (.aload_n 0, 1) := by decide +kernel
theorem dL_law_2579 : decode cL_law 2579 = .ok (.iload 4, 2) := by decide +kernel
theorem dL_law_2581 : decode cL_law 2581 = .ok (.iconst 2, 1) := by decide +kernel
theorem dL_law_2582 : decode cL_law 2582 = .ok (.iadd, 1) := by decide +kernel
theorem dL_law_2583 : decode cL_law 2583 = .ok (.iaload, 1) := by decide +kernel
theorem dL_law_2584 : decode cL_law 2584 = .ok (.aload_n 0, 1) := by decide +kernel
theorem dL_law_2585 : decode cL_law 2585 = .ok (.iload 4, 2) := by decide +kernel
theorem dL_law_2587 : decode cL_law 2587 = .ok (.iconst 3, 1) := by decide +kernel
theorem dL_law_2588 : decode cL_law 2588 = .ok (.iadd, 1) := by decide +kernel
theorem dL_law_2589 : decode cL_law 2589 = .ok (.iaload, 1) := by decide +kernel
theorem dL_law_2590 : decode cL_law 2590 = .ok (.invokevirtual 282, 3) := by decide +kernel
theorem dL_law_2593 : decode cL_law 2593 = .ok (.istore 6, 2) := by decide +kernel
theorem dL_law_2595 : decode cL_law 2595 = .ok (.aload_n 2, 1) := by decide +kernel
theorem dL_law_2596 : decode cL_law 2596 = .ok (.invokevirtual 155, 3) := by decide +kernel
theorem dL_law_2599 : decode cL_law 2599 = .ok (.iload 5, 2) := by decide +kernel
theorem dL_law_2601 : decode cL_law 2601 = .ok (.if_icmp .eq 5, 3) := by decide +kernel
theorem dL_law_2604 : decode cL_law 2604 = .ok (.iconst 0, 1) := by decide +kernel
theorem dL_law_2605 : decode cL_law 2605 = .ok (.ireturn, 1) := by decide +kernel
theorem dL_law_2606 : decode cL_law 2606 = .ok (.iload 5, 2) := by decide +kernel
theorem dL_law_2608 : decode cL_law 2608 = .ok (.ifCond .ne 15, 3) := by decide +kernel
theorem dL_law_2611 : decode cL_law 2611 = .ok (.aload_n 3, 1) := by decide +kernel
theorem dL_law_2612 : decode cL_law 2612 = .ok (.iconst 0, 1) := by decide +kernel
theorem dL_law_2613 : decode cL_law 2613 = .ok (.laload, 1) := by decide +kernel
theorem dL_law_2614 : decode cL_law 2614 = .ok (.iload 6, 2) := by decide +kernel
theorem dL_law_2616 : decode cL_law 2616 = .ok (.i2l, 1) := by decide +kernel
theorem dL_law_2617 : decode cL_law 2617 = .ok (.lcmp, 1) := by decide +kernel
theorem dL_law_2618 : decode cL_law 2618 = .ok (.ifCond .eq 5, 3) := by decide +kernel
theorem dL_law_2621 : decode cL_law 2621 = .ok (.iconst 0, 1) := by decide +kernel
theorem dL_law_2622 : decode cL_law 2622 = .ok (.ireturn, 1) := by decide +kernel
theorem dL_law_2623 : decode cL_law 2623 = .ok (.goto 152, 3) := by decide +kernel
theorem dL_law_2626 : decode cL_law 2626 = .ok (.aload_n 1, 1) := by decide +kernel
theorem dL_law_2627 : decode cL_law 2627 = .ok (.aload_n 0, 1) := by decide +kernel
theorem dL_law_2628 : decode cL_law 2628 = .ok (.iload 4, 2) := by decide +kernel
theorem dL_law_2630 : decode cL_law 2630 = .ok (.iconst 1, 1) := by decide +kernel
theorem dL_law_2631 : decode cL_law 2631 = .ok (.iadd, 1) := by decide +kernel
theorem dL_law_2632 : decode cL_law 2632 = .ok (.iaload, 1) := by decide +kernel
theorem dL_law_2633 : decode cL_law 2633 = .ok (.aload_n 0, 1) := by decide +kernel
theorem dL_law_2634 : decode cL_law 2634 = .ok (.iload 4, 2) := by decide +kernel
