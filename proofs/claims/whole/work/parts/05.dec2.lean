theorem dX7_widthIn_25 : decode cX7_widthIn 25 = .ok (.getfield 62, 3) := by decide +kernel
theorem dX7_widthIn_28 : decode cX7_widthIn 28 = .ok (.iadd, 1) := by decide +kernel
theorem dX7_widthIn_29 : decode cX7_widthIn 29 = .ok (.if_icmp .ge 16, 3) := by decide +kernel
theorem dX7_widthIn_32 : decode cX7_widthIn 32 = .ok (.iload_n 3, 1) := by decide +kernel
theorem dX7_widthIn_33 : decode cX7_widthIn 33 = .ok (.aload_n 2, 1) := by decide +kernel
theorem dX7_widthIn_34 : decode cX7_widthIn 34 = .ok (.iload 4, 2) := by decide +kernel
theorem dX7_widthIn_36 : decode cX7_widthIn 36 = .ok (.iaload, 1) := by decide +kernel
theorem dX7_widthIn_37 : decode cX7_widthIn 37 = .ok (.iadd, 1) := by decide +kernel
theorem dX7_widthIn_38 : decode cX7_widthIn 38 = .ok (.istore_n 3, 1) := by decide +kernel
theorem dX7_widthIn_39 : decode cX7_widthIn 39 = .ok (.iinc 4 1, 3) := by decide +kernel
theorem dX7_widthIn_42 : decode cX7_widthIn 42 = .ok (.goto (-24), 3) := by decide +kernel
theorem dX7_widthIn_45 : decode cX7_widthIn 45 = .ok (.iload_n 3, 1) := by decide +kernel
theorem dX7_widthIn_46 : decode cX7_widthIn 46 = .ok (.ireturn, 1) := by decide +kernel
theorem dX7_heightIn_0 : decode cX7_heightIn 0 = .ok (.aload_n 0, 1) := by decide +kernel
theorem dX7_heightIn_1 : decode cX7_heightIn 1 = .ok (.aload_n 1, 1) := by decide +kernel
theorem dX7_heightIn_2 : decode cX7_heightIn 2 = .ok (.aload_n 0, 1) := by decide +kernel
theorem dX7_heightIn_3 : decode cX7_heightIn 3 = .ok (.aload_n 1, 1) := by decide +kernel
theorem dX7_heightIn_4 : decode cX7_heightIn 4 = .ok (.aload_n 2, 1) := by decide +kernel
theorem dX7_heightIn_5 : decode cX7_heightIn 5 = .ok (.invokevirtual 82, 3) := by decide +kernel
theorem dX7_heightIn_8 : decode cX7_heightIn 8 = .ok (.invokevirtual 86, 3) := by decide +kernel
theorem dX7_heightIn_11 : decode cX7_heightIn 11 = .ok (.ireturn, 1) := by decide +kernel
theorem dX7_heightOfRow_0 : decode cX7_heightOfRow 0 = .ok (.iconst 0, 1) := by decide +kernel
theorem dX7_heightOfRow_1 : decode cX7_heightOfRow 1 = .ok (.istore_n 3, 1) := by decide +kernel
theorem dX7_heightOfRow_2 : decode cX7_heightOfRow 2 = .ok (.iconst 0, 1) := by decide +kernel
theorem dX7_heightOfRow_3 : decode cX7_heightOfRow 3 = .ok (.istore 4, 2) := by decide +kernel
theorem dX7_heightOfRow_5 : decode cX7_heightOfRow 5 = .ok (.iload 4, 2) := by decide +kernel
theorem dX7_heightOfRow_7 : decode cX7_heightOfRow 7 = .ok (.aload_n 0, 1) := by decide +kernel
theorem dX7_heightOfRow_8 : decode cX7_heightOfRow 8 = .ok (.getfield 41, 3) := by decide +kernel
theorem dX7_heightOfRow_11 : decode cX7_heightOfRow 11 = .ok (.if_icmp .ge 40, 3) := by decide +kernel
theorem dX7_heightOfRow_14 : decode cX7_heightOfRow 14 = .ok (.aload_n 0, 1) := by decide +kernel
theorem dX7_heightOfRow_15 : decode cX7_heightOfRow 15 = .ok (.getfield 30, 3) := by decide +kernel
theorem dX7_heightOfRow_18 : decode cX7_heightOfRow 18 = .ok (.iload 4, 2) := by decide +kernel
theorem dX7_heightOfRow_20 : decode cX7_heightOfRow 20 = .ok (.aaload, 1) := by decide +kernel
theorem dX7_heightOfRow_21 : decode cX7_heightOfRow 21 = .ok (.getfield 52, 3) := by decide +kernel
theorem dX7_heightOfRow_24 : decode cX7_heightOfRow 24 = .ok (.iload_n 1, 1) := by decide +kernel
theorem dX7_heightOfRow_25 : decode cX7_heightOfRow 25 = .ok (.if_icmp .ne 20, 3) := by decide +kernel
theorem dX7_heightOfRow_28 : decode cX7_heightOfRow 28 = .ok (.iload_n 3, 1) := by decide +kernel
theorem dX7_heightOfRow_29 : decode cX7_heightOfRow 29 = .ok (.aload_n 0, 1) := by decide +kernel
theorem dX7_heightOfRow_30 : decode cX7_heightOfRow 30 = .ok (.aload_n 0, 1) := by decide +kernel
theorem dX7_heightOfRow_31 : decode cX7_heightOfRow 31 = .ok (.getfield 30, 3) := by decide +kernel
theorem dX7_heightOfRow_34 : decode cX7_heightOfRow 34 = .ok (.iload 4, 2) := by decide +kernel
theorem dX7_heightOfRow_36 : decode cX7_heightOfRow 36 = .ok (.aaload, 1) := by decide +kernel
theorem dX7_heightOfRow_37 : decode cX7_heightOfRow 37 = .ok (.aload_n 2, 1) := by decide +kernel
theorem dX7_heightOfRow_38 : decode cX7_heightOfRow 38 = .ok (.invokevirtual 89, 3) := by decide +kernel
theorem dX7_heightOfRow_41 : decode cX7_heightOfRow 41 = .ok (.invokestatic 92, 3) := by decide +kernel
theorem dX7_heightOfRow_44 : decode cX7_heightOfRow 44 = .ok (.istore_n 3, 1) := by decide +kernel
theorem dX7_heightOfRow_45 : decode cX7_heightOfRow 45 = .ok (.iinc 4 1, 3) := by decide +kernel
theorem dX7_heightOfRow_48 : decode cX7_heightOfRow 48 = .ok (.goto (-43), 3) := by decide +kernel
theorem dX7_heightOfRow_51 : decode cX7_heightOfRow 51 = .ok (.iload_n 3, 1) := by decide +kernel
theorem dX7_heightOfRow_52 : decode cX7_heightOfRow 52 = .ok (.ireturn, 1) := by decide +kernel
theorem dX7_heightOfAll_0 : decode cX7_heightOfAll 0 = .ok (.aload_n 0, 1) := by decide +kernel
theorem dX7_heightOfAll_1 : decode cX7_heightOfAll 1 = .ok (.getfield 15, 3) := by decide +kernel
theorem dX7_heightOfAll_4 : decode cX7_heightOfAll 4 = .ok (.aload_n 0, 1) := by decide +kernel
theorem dX7_heightOfAll_5 : decode cX7_heightOfAll 5 = .ok (.getfield 38, 3) := by decide +kernel
theorem dX7_heightOfAll_8 : decode cX7_heightOfAll 8 = .ok (.iconst 1, 1) := by decide +kernel
theorem dX7_heightOfAll_9 : decode cX7_heightOfAll 9 = .ok (.iadd, 1) := by decide +kernel
theorem dX7_heightOfAll_10 : decode cX7_heightOfAll 10 = .ok (.imul, 1) := by decide +kernel
theorem dX7_heightOfAll_11 : decode cX7_heightOfAll 11 = .ok (.istore_n 2, 1) := by decide +kernel
theorem dX7_heightOfAll_12 : decode cX7_heightOfAll 12 = .ok (.iconst 0, 1) := by decide +kernel
theorem dX7_heightOfAll_13 : decode cX7_heightOfAll 13 = .ok (.istore_n 3, 1) := by decide +kernel
theorem dX7_heightOfAll_14 : decode cX7_heightOfAll 14 = .ok (.iload_n 3, 1) := by decide +kernel
theorem dX7_heightOfAll_15 : decode cX7_heightOfAll 15 = .ok (.aload_n 0, 1) := by decide +kernel
theorem dX7_heightOfAll_16 : decode cX7_heightOfAll 16 = .ok (.getfield 38, 3) := by decide +kernel
theorem dX7_heightOfAll_19 : decode cX7_heightOfAll 19 = .ok (.if_icmp .ge 18, 3) := by decide +kernel
theorem dX7_heightOfAll_22 : decode cX7_heightOfAll 22 = .ok (.iload_n 2, 1) := by decide +kernel
theorem dX7_heightOfAll_23 : decode cX7_heightOfAll 23 = .ok (.aload_n 0, 1) := by decide +kernel
theorem dX7_heightOfAll_24 : decode cX7_heightOfAll 24 = .ok (.iload_n 3, 1) := by decide +kernel
theorem dX7_heightOfAll_25 : decode cX7_heightOfAll 25 = .ok (.aload_n 1, 1) := by decide +kernel
theorem dX7_heightOfAll_26 : decode cX7_heightOfAll 26 = .ok (.invokevirtual 98, 3) := by decide +kernel
theorem dX7_heightOfAll_29 : decode cX7_heightOfAll 29 = .ok (.iadd, 1) := by decide +kernel
theorem dX7_heightOfAll_30 : decode cX7_heightOfAll 30 = .ok (.istore_n 2, 1) := by decide +kernel
theorem dX7_heightOfAll_31 : decode cX7_heightOfAll 31 = .ok (.iinc 3 1, 3) := by decide +kernel
theorem dX7_heightOfAll_34 : decode cX7_heightOfAll 34 = .ok (.goto (-20), 3) := by decide +kernel
theorem dX7_heightOfAll_37 : decode cX7_heightOfAll 37 = .ok (.iload_n 2, 1) := by decide +kernel
theorem dX7_heightOfAll_38 : decode cX7_heightOfAll 38 = .ok (.ireturn, 1) := by decide +kernel
theorem dX8_init_0 : decode cX8_init 0 = .ok (.aload_n 0, 1) := by decide +kernel
theorem dX8_init_1 : decode cX8_init 1 = .ok (.invokespecial 1, 3) := by decide +kernel
theorem dX8_init_4 : decode cX8_init 4 = .ok (.aload_n 0, 1) := by decide +kernel
theorem dX8_init_5 : decode cX8_init 5 = .ok (.new 7, 3) := by decide +kernel
theorem dX8_init_8 : decode cX8_init 8 = .ok (.dup, 1) := by decide +kernel
theorem dX8_init_9 : decode cX8_init 9 = .ok (.invokespecial 9, 3) := by decide +kernel
theorem dX8_init_12 : decode cX8_init 12 = .ok (.putfield 10, 3) := by decide +kernel
theorem dX8_init_15 : decode cX8_init 15 = .ok (.aload_n 0, 1) := by decide +kernel
theorem dX8_init_16 : decode cX8_init 16 = .ok (.new 16, 3) := by decide +kernel
theorem dX8_init_19 : decode cX8_init 19 = .ok (.dup, 1) := by decide +kernel
theorem dX8_init_20 : decode cX8_init 20 = .ok (.aload_n 0, 1) := by decide +kernel
theorem dX8_init_21 : decode cX8_init 21 = .ok (.getfield 10, 3) := by decide +kernel
theorem dX8_init_24 : decode cX8_init 24 = .ok (.invokespecial 18, 3) := by decide +kernel
theorem dX8_init_27 : decode cX8_init 27 = .ok (.putfield 21, 3) := by decide +kernel
theorem dX8_init_30 : decode cX8_init 30 = .ok (.aload_n 0, 1) := by decide +kernel
theorem dX8_init_31 : decode cX8_init 31 = .ok (.new 25, 3) := by decide +kernel
theorem dX8_init_34 : decode cX8_init 34 = .ok (.dup, 1) := by decide +kernel
theorem dX8_init_35 : decode cX8_init 35 = .ok (.aload_n 0, 1) := by decide +kernel
theorem dX8_init_36 : decode cX8_init 36 = .ok (.getfield 10, 3) := by decide +kernel
theorem dX8_init_39 : decode cX8_init 39 = .ok (.aload_n 0, 1) := by decide +kernel
theorem dX8_init_40 : decode cX8_init 40 = .ok (.getfield 21, 3) := by decide +kernel
theorem dX8_init_43 : decode cX8_init 43 = .ok (.invokespecial 27, 3) := by decide +kernel
theorem dX8_init_46 : decode cX8_init 46 = .ok (.putfield 30, 3) := by decide +kernel
theorem dX8_init_49 : decode cX8_init 49 = .ok (.aload_n 0, 1) := by decide +kernel
theorem dX8_init_50 : decode cX8_init 50 = .ok (.new 7, 3) := by decide +kernel
theorem dX8_init_53 : decode cX8_init 53 = .ok (.dup, 1) := by decide +kernel
theorem dX8_init_54 : decode cX8_init 54 = .ok (.invokespecial 9, 3) := by decide +kernel
theorem dX8_init_57 : decode cX8_init 57 = .ok (.putfield 34, 3) := by decide +kernel
theorem dX8_init_60 : decode cX8_init 60 = .ok (.aload_n 0, 1) := by decide +kernel
theorem dX8_init_61 : decode cX8_init 61 = .ok (.new 16, 3) := by decide +kernel
theorem dX8_init_64 : decode cX8_init 64 = .ok (.dup, 1) := by decide +kernel
theorem dX8_init_65 : decode cX8_init 65 = .ok (.aload_n 0, 1) := by decide +kernel
theorem dX8_init_66 : decode cX8_init 66 = .ok (.getfield 34, 3) := by decide +kernel
theorem dX8_init_69 : decode cX8_init 69 = .ok (.invokespecial 18, 3) := by decide +kernel
theorem dX8_init_72 : decode cX8_init 72 = .ok (.putfield 37, 3) := by decide +kernel
theorem dX8_init_75 : decode cX8_init 75 = .ok (.aload_n 0, 1) := by decide +kernel
theorem dX8_init_76 : decode cX8_init 76 = .ok (.new 25, 3) := by decide +kernel
theorem dX8_init_79 : decode cX8_init 79 = .ok (.dup, 1) := by decide +kernel
theorem dX8_init_80 : decode cX8_init 80 = .ok (.aload_n 0, 1) := by decide +kernel
theorem dX8_init_81 : decode cX8_init 81 = .ok (.getfield 34, 3) := by decide +kernel
theorem dX8_init_84 : decode cX8_init 84 = .ok (.aload_n 0, 1) := by decide +kernel
theorem dX8_init_85 : decode cX8_init 85 = .ok (.getfield 37, 3) := by decide +kernel
theorem dX8_init_88 : decode cX8_init 88 = .ok (.invokespecial 27, 3) := by decide +kernel
theorem dX8_init_91 : decode cX8_init 91 = .ok (.putfield 40, 3) := by decide +kernel
theorem dX8_init_94 : decode cX8_init 94 = .ok (.aload_n 0, 1) := by decide +kernel
theorem dX8_init_95 : decode cX8_init 95 = .ok (.new 7, 3) := by decide +kernel
theorem dX8_init_98 : decode cX8_init 98 = .ok (.dup, 1) := by decide +kernel
theorem dX8_init_99 : decode cX8_init 99 = .ok (.invokespecial 9, 3) := by decide +kernel
theorem dX8_init_102 : decode cX8_init 102 = .ok (.putfield 43, 3) := by decide +kernel
theorem dX8_init_105 : decode cX8_init 105 = .ok (.aload_n 0, 1) := by decide +kernel
theorem dX8_init_106 : decode cX8_init 106 = .ok (.new 46, 3) := by decide +kernel
theorem dX8_init_109 : decode cX8_init 109 = .ok (.dup, 1) := by decide +kernel
theorem dX8_init_110 : decode cX8_init 110 = .ok (.invokespecial 48, 3) := by decide +kernel
theorem dX8_init_113 : decode cX8_init 113 = .ok (.putfield 49, 3) := by decide +kernel
theorem dX8_init_116 : decode cX8_init 116 = .ok (.aload_n 0, 1) := by decide +kernel
theorem dX8_init_117 : decode cX8_init 117 = .ok (.iconst 2, 1) := by decide +kernel
theorem dX8_init_118 : decode cX8_init 118 = .ok (.anewarray 53, 3) := by decide +kernel
theorem dX8_init_121 : decode cX8_init 121 = .ok (.putfield 55, 3) := by decide +kernel
theorem dX8_init_124 : decode cX8_init 124 = .ok (.iconst 0, 1) := by decide +kernel
theorem dX8_init_125 : decode cX8_init 125 = .ok (.istore_n 1, 1) := by decide +kernel
theorem dX8_init_126 : decode cX8_init 126 = .ok (.iload_n 1, 1) := by decide +kernel
theorem dX8_init_127 : decode cX8_init 127 = .ok (.iconst 2, 1) := by decide +kernel
theorem dX8_init_128 : decode cX8_init 128 = .ok (.if_icmp .ge 22, 3) := by decide +kernel
theorem dX8_init_131 : decode cX8_init 131 = .ok (.aload_n 0, 1) := by decide +kernel
theorem dX8_init_132 : decode cX8_init 132 = .ok (.getfield 55, 3) := by decide +kernel
theorem dX8_init_135 : decode cX8_init 135 = .ok (.iload_n 1, 1) := by decide +kernel
theorem dX8_init_136 : decode cX8_init 136 = .ok (.new 53, 3) := by decide +kernel
theorem dX8_init_139 : decode cX8_init 139 = .ok (.dup, 1) := by decide +kernel
theorem dX8_init_140 : decode cX8_init 140 = .ok (.invokespecial 59, 3) := by decide +kernel
theorem dX8_init_143 : decode cX8_init 143 = .ok (.aastore, 1) := by decide +kernel
theorem dX8_init_144 : decode cX8_init 144 = .ok (.iinc 1 1, 3) := by decide +kernel
theorem dX8_init_147 : decode cX8_init 147 = .ok (.goto (-21), 3) := by decide +kernel
theorem dX8_init_150 : decode cX8_init 150 = .ok (.aload_n 0, 1) := by decide +kernel
theorem dX8_init_151 : decode cX8_init 151 = .ok (.iconst 4, 1) := by decide +kernel
theorem dX8_init_152 : decode cX8_init 152 = .ok (.newarray .int, 2) := by decide +kernel
theorem dX8_init_154 : decode cX8_init 154 = .ok (.putfield 60, 3) := by decide +kernel
theorem dX8_init_157 : decode cX8_init 157 = .ok (.aload_n 0, 1) := by decide +kernel
theorem dX8_init_158 : decode cX8_init 158 = .ok (.getfield 21, 3) := by decide +kernel
theorem dX8_init_161 : decode cX8_init 161 = .ok (.invokevirtual 64, 3) := by decide +kernel
theorem dX8_init_164 : decode cX8_init 164 = .ok (.aload_n 0, 1) := by decide +kernel
theorem dX8_init_165 : decode cX8_init 165 = .ok (.getfield 30, 3) := by decide +kernel
theorem dX8_init_168 : decode cX8_init 168 = .ok (.ldc 67, 2) := by decide +kernel
theorem dX8_init_170 : decode cX8_init 170 = .ok (.invokevirtual 68, 3) := by decide +kernel
theorem dX8_init_173 : decode cX8_init 173 = .ok (.return_, 1) := by decide +kernel
theorem dX8_setColumns_0 : decode cX8_setColumns 0 = .ok (.iload_n 1, 1) := by decide +kernel
theorem dX8_setColumns_1 : decode cX8_setColumns 1 = .ok (.iconst 1, 1) := by decide +kernel
theorem dX8_setColumns_2 : decode cX8_setColumns 2 = .ok (.iconst 4, 1) := by decide +kernel
theorem dX8_setColumns_3 : decode cX8_setColumns 3 = .ok (.invokestatic 72, 3) := by decide +kernel
theorem dX8_setColumns_6 : decode cX8_setColumns 6 = .ok (.invokestatic 76, 3) := by decide +kernel
theorem dX8_setColumns_9 : decode cX8_setColumns 9 = .ok (.aload_n 0, 1) := by decide +kernel
theorem dX8_setColumns_10 : decode cX8_setColumns 10 = .ok (.getfield 10, 3) := by decide +kernel
theorem dX8_setColumns_13 : decode cX8_setColumns 13 = .ok (.getfield 80, 3) := by decide +kernel
theorem dX8_setColumns_16 : decode cX8_setColumns 16 = .ok (.ifCond .ne 7, 3) := by decide +kernel
theorem dX8_setColumns_19 : decode cX8_setColumns 19 = .ok (.iconst 1, 1) := by decide +kernel
theorem dX8_setColumns_20 : decode cX8_setColumns 20 = .ok (.goto 4, 3) := by decide +kernel
theorem dX8_setColumns_23 : decode cX8_setColumns 23 = .ok (.iconst 0, 1) := by decide +kernel
theorem dX8_setColumns_24 : decode cX8_setColumns 24 = .ok (.invokestatic 84, 3) := by decide +kernel
theorem dX8_setColumns_27 : decode cX8_setColumns 27 = .ok (.aload_n 0, 1) := by decide +kernel
theorem dX8_setColumns_28 : decode cX8_setColumns 28 = .ok (.getfield 10, 3) := by decide +kernel
theorem dX8_setColumns_31 : decode cX8_setColumns 31 = .ok (.getfield 87, 3) := by decide +kernel
theorem dX8_setColumns_34 : decode cX8_setColumns 34 = .ok (.istore_n 2, 1) := by decide +kernel
theorem dX8_setColumns_35 : decode cX8_setColumns 35 = .ok (.aload_n 0, 1) := by decide +kernel
theorem dX8_setColumns_36 : decode cX8_setColumns 36 = .ok (.getfield 10, 3) := by decide +kernel
theorem dX8_setColumns_39 : decode cX8_setColumns 39 = .ok (.iload_n 1, 1) := by decide +kernel
theorem dX8_setColumns_40 : decode cX8_setColumns 40 = .ok (.invokevirtual 90, 3) := by decide +kernel
theorem dX8_setColumns_43 : decode cX8_setColumns 43 = .ok (.aload_n 0, 1) := by decide +kernel
theorem dX8_setColumns_44 : decode cX8_setColumns 44 = .ok (.invokevirtual 93, 3) := by decide +kernel
theorem dX8_setColumns_47 : decode cX8_setColumns 47 = .ok (.iload_n 2, 1) := by decide +kernel
theorem dX8_setColumns_48 : decode cX8_setColumns 48 = .ok (.ireturn, 1) := by decide +kernel
theorem dX8_setMeasure_0 : decode cX8_setMeasure 0 = .ok (.iload_n 1, 1) := by decide +kernel
theorem dX8_setMeasure_1 : decode cX8_setMeasure 1 = .ok (.iconst 0, 1) := by decide +kernel
theorem dX8_setMeasure_2 : decode cX8_setMeasure 2 = .ok (.iconst 2, 1) := by decide +kernel
theorem dX8_setMeasure_3 : decode cX8_setMeasure 3 = .ok (.invokestatic 72, 3) := by decide +kernel
theorem dX8_setMeasure_6 : decode cX8_setMeasure 6 = .ok (.invokestatic 96, 3) := by decide +kernel
theorem dX8_setMeasure_9 : decode cX8_setMeasure 9 = .ok (.iload_n 1, 1) := by decide +kernel
theorem dX8_setMeasure_10 : decode cX8_setMeasure 10 = .ok (.ifCond .ne 33, 3) := by decide +kernel
theorem dX8_setMeasure_13 : decode cX8_setMeasure 13 = .ok (.iload_n 2, 1) := by decide +kernel
theorem dX8_setMeasure_14 : decode cX8_setMeasure 14 = .ok (.bipush 8, 2) := by decide +kernel
theorem dX8_setMeasure_16 : decode cX8_setMeasure 16 = .ok (.bipush 36, 2) := by decide +kernel
theorem dX8_setMeasure_18 : decode cX8_setMeasure 18 = .ok (.invokestatic 72, 3) := by decide +kernel
theorem dX8_setMeasure_21 : decode cX8_setMeasure 21 = .ok (.invokestatic 76, 3) := by decide +kernel
theorem dX8_setMeasure_24 : decode cX8_setMeasure 24 = .ok (.aload_n 0, 1) := by decide +kernel
theorem dX8_setMeasure_25 : decode cX8_setMeasure 25 = .ok (.getfield 10, 3) := by decide +kernel
theorem dX8_setMeasure_28 : decode cX8_setMeasure 28 = .ok (.getfield 99, 3) := by decide +kernel
theorem dX8_setMeasure_31 : decode cX8_setMeasure 31 = .ok (.istore_n 3, 1) := by decide +kernel
theorem dX8_setMeasure_32 : decode cX8_setMeasure 32 = .ok (.aload_n 0, 1) := by decide +kernel
theorem dX8_setMeasure_33 : decode cX8_setMeasure 33 = .ok (.getfield 10, 3) := by decide +kernel
theorem dX8_setMeasure_36 : decode cX8_setMeasure 36 = .ok (.iload_n 2, 1) := by decide +kernel
theorem dX8_setMeasure_37 : decode cX8_setMeasure 37 = .ok (.putfield 99, 3) := by decide +kernel
theorem dX8_setMeasure_40 : decode cX8_setMeasure 40 = .ok (.goto 61, 3) := by decide +kernel
theorem dX8_setMeasure_43 : decode cX8_setMeasure 43 = .ok (.iload_n 1, 1) := by decide +kernel
theorem dX8_setMeasure_44 : decode cX8_setMeasure 44 = .ok (.iconst 1, 1) := by decide +kernel
theorem dX8_setMeasure_45 : decode cX8_setMeasure 45 = .ok (.if_icmp .ne 31, 3) := by decide +kernel
theorem dX8_setMeasure_48 : decode cX8_setMeasure 48 = .ok (.iload_n 2, 1) := by decide +kernel
theorem dX8_setMeasure_49 : decode cX8_setMeasure 49 = .ok (.iconst 0, 1) := by decide +kernel
theorem dX8_setMeasure_50 : decode cX8_setMeasure 50 = .ok (.iconst 2, 1) := by decide +kernel
theorem dX8_setMeasure_51 : decode cX8_setMeasure 51 = .ok (.invokestatic 72, 3) := by decide +kernel
theorem dX8_setMeasure_54 : decode cX8_setMeasure 54 = .ok (.invokestatic 76, 3) := by decide +kernel
theorem dX8_setMeasure_57 : decode cX8_setMeasure 57 = .ok (.aload_n 0, 1) := by decide +kernel
theorem dX8_setMeasure_58 : decode cX8_setMeasure 58 = .ok (.getfield 10, 3) := by decide +kernel
theorem dX8_setMeasure_61 : decode cX8_setMeasure 61 = .ok (.getfield 102, 3) := by decide +kernel
theorem dX8_setMeasure_64 : decode cX8_setMeasure 64 = .ok (.istore_n 3, 1) := by decide +kernel
theorem dX8_setMeasure_65 : decode cX8_setMeasure 65 = .ok (.aload_n 0, 1) := by decide +kernel
theorem dX8_setMeasure_66 : decode cX8_setMeasure 66 = .ok (.getfield 10, 3) := by decide +kernel
theorem dX8_setMeasure_69 : decode cX8_setMeasure 69 = .ok (.iload_n 2, 1) := by decide +kernel
theorem dX8_setMeasure_70 : decode cX8_setMeasure 70 = .ok (.putfield 102, 3) := by decide +kernel
theorem dX8_setMeasure_73 : decode cX8_setMeasure 73 = .ok (.goto 28, 3) := by decide +kernel
theorem dX8_setMeasure_76 : decode cX8_setMeasure 76 = .ok (.iload_n 2, 1) := by decide +kernel
theorem dX8_setMeasure_77 : decode cX8_setMeasure 77 = .ok (.iconst 0, 1) := by decide +kernel
theorem dX8_setMeasure_78 : decode cX8_setMeasure 78 = .ok (.iconst 2, 1) := by decide +kernel
theorem dX8_setMeasure_79 : decode cX8_setMeasure 79 = .ok (.invokestatic 72, 3) := by decide +kernel
theorem dX8_setMeasure_82 : decode cX8_setMeasure 82 = .ok (.invokestatic 76, 3) := by decide +kernel
theorem dX8_setMeasure_85 : decode cX8_setMeasure 85 = .ok (.aload_n 0, 1) := by decide +kernel
theorem dX8_setMeasure_86 : decode cX8_setMeasure 86 = .ok (.getfield 10, 3) := by decide +kernel
theorem dX8_setMeasure_89 : decode cX8_setMeasure 89 = .ok (.getfield 105, 3) := by decide +kernel
theorem dX8_setMeasure_92 : decode cX8_setMeasure 92 = .ok (.istore_n 3, 1) := by decide +kernel
theorem dX8_setMeasure_93 : decode cX8_setMeasure 93 = .ok (.aload_n 0, 1) := by decide +kernel
theorem dX8_setMeasure_94 : decode cX8_setMeasure 94 = .ok (.getfield 10, 3) := by decide +kernel
theorem dX8_setMeasure_97 : decode cX8_setMeasure 97 = .ok (.iload_n 2, 1) := by decide +kernel
theorem dX8_setMeasure_98 : decode cX8_setMeasure 98 = .ok (.putfield 105, 3) := by decide +kernel
theorem dX8_setMeasure_101 : decode cX8_setMeasure 101 = .ok (.aload_n 0, 1) := by decide +kernel
theorem dX8_setMeasure_102 : decode cX8_setMeasure 102 = .ok (.invokevirtual 93, 3) := by decide +kernel
theorem dX8_setMeasure_105 : decode cX8_setMeasure 105 = .ok (.iload_n 3, 1) := by decide +kernel
theorem dX8_setMeasure_106 : decode cX8_setMeasure 106 = .ok (.ireturn, 1) := by decide +kernel
theorem dX8_setColumn_0 : decode cX8_setColumn 0 = .ok (.aload_n 0, 1) := by decide +kernel
theorem dX8_setColumn_1 : decode cX8_setColumn 1 = .ok (.iload_n 1, 1) := by decide +kernel
theorem dX8_setColumn_2 : decode cX8_setColumn 2 = .ok (.invokevirtual 108, 3) := by decide +kernel
theorem dX8_setColumn_5 : decode cX8_setColumn 5 = .ok (.iload_n 2, 1) := by decide +kernel
theorem dX8_setColumn_6 : decode cX8_setColumn 6 = .ok (.iconst 0, 1) := by decide +kernel
theorem dX8_setColumn_7 : decode cX8_setColumn 7 = .ok (.iconst 2, 1) := by decide +kernel
theorem dX8_setColumn_8 : decode cX8_setColumn 8 = .ok (.invokestatic 72, 3) := by decide +kernel
theorem dX8_setColumn_11 : decode cX8_setColumn 11 = .ok (.invokestatic 76, 3) := by decide +kernel
theorem dX8_setColumn_14 : decode cX8_setColumn 14 = .ok (.iload_n 2, 1) := by decide +kernel
theorem dX8_setColumn_15 : decode cX8_setColumn 15 = .ok (.iconst 1, 1) := by decide +kernel
theorem dX8_setColumn_16 : decode cX8_setColumn 16 = .ok (.if_icmp .ne 13, 3) := by decide +kernel
theorem dX8_setColumn_19 : decode cX8_setColumn 19 = .ok (.iload_n 3, 1) := by decide +kernel
theorem dX8_setColumn_20 : decode cX8_setColumn 20 = .ok (.iconst 1, 1) := by decide +kernel
theorem dX8_setColumn_21 : decode cX8_setColumn 21 = .ok (.bipush 36, 2) := by decide +kernel
theorem dX8_setColumn_23 : decode cX8_setColumn 23 = .ok (.invokestatic 72, 3) := by decide +kernel
theorem dX8_setColumn_26 : decode cX8_setColumn 26 = .ok (.ifCond .eq 7, 3) := by decide +kernel
theorem dX8_setColumn_29 : decode cX8_setColumn 29 = .ok (.iconst 1, 1) := by decide +kernel
theorem dX8_setColumn_30 : decode cX8_setColumn 30 = .ok (.goto 4, 3) := by decide +kernel
theorem dX8_setColumn_33 : decode cX8_setColumn 33 = .ok (.iconst 0, 1) := by decide +kernel
theorem dX8_setColumn_34 : decode cX8_setColumn 34 = .ok (.invokestatic 76, 3) := by decide +kernel
theorem dX8_setColumn_37 : decode cX8_setColumn 37 = .ok (.iload_n 2, 1) := by decide +kernel
theorem dX8_setColumn_38 : decode cX8_setColumn 38 = .ok (.iconst 2, 1) := by decide +kernel
theorem dX8_setColumn_39 : decode cX8_setColumn 39 = .ok (.if_icmp .ne 13, 3) := by decide +kernel
theorem dX8_setColumn_42 : decode cX8_setColumn 42 = .ok (.iload_n 3, 1) := by decide +kernel
theorem dX8_setColumn_43 : decode cX8_setColumn 43 = .ok (.iconst 1, 1) := by decide +kernel
theorem dX8_setColumn_44 : decode cX8_setColumn 44 = .ok (.bipush 100, 2) := by decide +kernel
theorem dX8_setColumn_46 : decode cX8_setColumn 46 = .ok (.invokestatic 72, 3) := by decide +kernel
theorem dX8_setColumn_49 : decode cX8_setColumn 49 = .ok (.ifCond .eq 7, 3) := by decide +kernel
theorem dX8_setColumn_52 : decode cX8_setColumn 52 = .ok (.iconst 1, 1) := by decide +kernel
theorem dX8_setColumn_53 : decode cX8_setColumn 53 = .ok (.goto 4, 3) := by decide +kernel
theorem dX8_setColumn_56 : decode cX8_setColumn 56 = .ok (.iconst 0, 1) := by decide +kernel
theorem dX8_setColumn_57 : decode cX8_setColumn 57 = .ok (.invokestatic 76, 3) := by decide +kernel
theorem dX8_setColumn_60 : decode cX8_setColumn 60 = .ok (.bipush 100, 2) := by decide +kernel
theorem dX8_setColumn_62 : decode cX8_setColumn 62 = .ok (.aload_n 0, 1) := by decide +kernel
theorem dX8_setColumn_63 : decode cX8_setColumn 63 = .ok (.getfield 10, 3) := by decide +kernel
theorem dX8_setColumn_66 : decode cX8_setColumn 66 = .ok (.getfield 111, 3) := by decide +kernel
theorem dX8_setColumn_69 : decode cX8_setColumn 69 = .ok (.iload_n 1, 1) := by decide +kernel
theorem dX8_setColumn_70 : decode cX8_setColumn 70 = .ok (.iaload, 1) := by decide +kernel
theorem dX8_setColumn_71 : decode cX8_setColumn 71 = .ok (.imul, 1) := by decide +kernel
theorem dX8_setColumn_72 : decode cX8_setColumn 72 = .ok (.aload_n 0, 1) := by decide +kernel
theorem dX8_setColumn_73 : decode cX8_setColumn 73 = .ok (.getfield 10, 3) := by decide +kernel
theorem dX8_setColumn_76 : decode cX8_setColumn 76 = .ok (.getfield 114, 3) := by decide +kernel
theorem dX8_setColumn_79 : decode cX8_setColumn 79 = .ok (.iload_n 1, 1) := by decide +kernel
theorem dX8_setColumn_80 : decode cX8_setColumn 80 = .ok (.iaload, 1) := by decide +kernel
theorem dX8_setColumn_81 : decode cX8_setColumn 81 = .ok (.iadd, 1) := by decide +kernel
theorem dX8_setColumn_82 : decode cX8_setColumn 82 = .ok (.istore 4, 2) := by decide +kernel
theorem dX8_setColumn_84 : decode cX8_setColumn 84 = .ok (.aload_n 0, 1) := by decide +kernel
theorem dX8_setColumn_85 : decode cX8_setColumn 85 = .ok (.getfield 10, 3) := by decide +kernel
theorem dX8_setColumn_88 : decode cX8_setColumn 88 = .ok (.iload_n 1, 1) := by decide +kernel
theorem dX8_setColumn_89 : decode cX8_setColumn 89 = .ok (.iload_n 2, 1) := by decide +kernel
theorem dX8_setColumn_90 : decode cX8_setColumn 90 = .ok (.iload_n 3, 1) := by decide +kernel
theorem dX8_setColumn_91 : decode cX8_setColumn 91 = .ok (.invokevirtual 117, 3) := by decide +kernel
theorem dX8_setColumn_94 : decode cX8_setColumn 94 = .ok (.aload_n 0, 1) := by decide +kernel
theorem dX8_setColumn_95 : decode cX8_setColumn 95 = .ok (.invokevirtual 93, 3) := by decide +kernel
theorem dX8_setColumn_98 : decode cX8_setColumn 98 = .ok (.iload 4, 2) := by decide +kernel
theorem dX8_setColumn_100 : decode cX8_setColumn 100 = .ok (.ireturn, 1) := by decide +kernel
theorem dX8_addRow_0 : decode cX8_addRow 0 = .ok (.aload_n 0, 1) := by decide +kernel
theorem dX8_addRow_1 : decode cX8_addRow 1 = .ok (.getfield 10, 3) := by decide +kernel
theorem dX8_addRow_4 : decode cX8_addRow 4 = .ok (.getfield 121, 3) := by decide +kernel
theorem dX8_addRow_7 : decode cX8_addRow 7 = .ok (.bipush 6, 2) := by decide +kernel
theorem dX8_addRow_9 : decode cX8_addRow 9 = .ok (.if_icmp .ge 7, 3) := by decide +kernel
theorem dX8_addRow_12 : decode cX8_addRow 12 = .ok (.iconst 1, 1) := by decide +kernel
theorem dX8_addRow_13 : decode cX8_addRow 13 = .ok (.goto 4, 3) := by decide +kernel
theorem dX8_addRow_16 : decode cX8_addRow 16 = .ok (.iconst 0, 1) := by decide +kernel
theorem dX8_addRow_17 : decode cX8_addRow 17 = .ok (.invokestatic 84, 3) := by decide +kernel
theorem dX8_addRow_20 : decode cX8_addRow 20 = .ok (.aload_n 0, 1) := by decide +kernel
theorem dX8_addRow_21 : decode cX8_addRow 21 = .ok (.getfield 10, 3) := by decide +kernel
theorem dX8_addRow_24 : decode cX8_addRow 24 = .ok (.dup, 1) := by decide +kernel
theorem dX8_addRow_25 : decode cX8_addRow 25 = .ok (.getfield 121, 3) := by decide +kernel
theorem dX8_addRow_28 : decode cX8_addRow 28 = .ok (.iconst 1, 1) := by decide +kernel
theorem dX8_addRow_29 : decode cX8_addRow 29 = .ok (.iadd, 1) := by decide +kernel
theorem dX8_addRow_30 : decode cX8_addRow 30 = .ok (.putfield 121, 3) := by decide +kernel
theorem dX8_addRow_33 : decode cX8_addRow 33 = .ok (.aload_n 0, 1) := by decide +kernel
theorem dX8_addRow_34 : decode cX8_addRow 34 = .ok (.invokevirtual 93, 3) := by decide +kernel
theorem dX8_addRow_37 : decode cX8_addRow 37 = .ok (.aload_n 0, 1) := by decide +kernel
theorem dX8_addRow_38 : decode cX8_addRow 38 = .ok (.getfield 10, 3) := by decide +kernel
theorem dX8_addRow_41 : decode cX8_addRow 41 = .ok (.getfield 121, 3) := by decide +kernel
theorem dX8_addRow_44 : decode cX8_addRow 44 = .ok (.iconst 1, 1) := by decide +kernel
theorem dX8_addRow_45 : decode cX8_addRow 45 = .ok (.isub, 1) := by decide +kernel
theorem dX8_addRow_46 : decode cX8_addRow 46 = .ok (.ireturn, 1) := by decide +kernel
theorem dX8_addCell_0 : decode cX8_addCell 0 = .ok (.aload_n 0, 1) := by decide +kernel
theorem dX8_addCell_1 : decode cX8_addCell 1 = .ok (.iload_n 1, 1) := by decide +kernel
theorem dX8_addCell_2 : decode cX8_addCell 2 = .ok (.invokevirtual 124, 3) := by decide +kernel
theorem dX8_addCell_5 : decode cX8_addCell 5 = .ok (.aload_n 0, 1) := by decide +kernel
theorem dX8_addCell_6 : decode cX8_addCell 6 = .ok (.iload_n 2, 1) := by decide +kernel
theorem dX8_addCell_7 : decode cX8_addCell 7 = .ok (.invokevirtual 108, 3) := by decide +kernel
theorem dX8_addCell_10 : decode cX8_addCell 10 = .ok (.iload 4, 2) := by decide +kernel
theorem dX8_addCell_12 : decode cX8_addCell 12 = .ok (.iconst 0, 1) := by decide +kernel
theorem dX8_addCell_13 : decode cX8_addCell 13 = .ok (.iconst 5, 1) := by decide +kernel
theorem dX8_addCell_14 : decode cX8_addCell 14 = .ok (.invokestatic 72, 3) := by decide +kernel
theorem dX8_addCell_17 : decode cX8_addCell 17 = .ok (.invokestatic 76, 3) := by decide +kernel
theorem dX8_addCell_20 : decode cX8_addCell 20 = .ok (.iload_n 3, 1) := by decide +kernel
theorem dX8_addCell_21 : decode cX8_addCell 21 = .ok (.iconst 1, 1) := by decide +kernel
theorem dX8_addCell_22 : decode cX8_addCell 22 = .ok (.aload_n 0, 1) := by decide +kernel
theorem dX8_addCell_23 : decode cX8_addCell 23 = .ok (.getfield 10, 3) := by decide +kernel
theorem dX8_addCell_26 : decode cX8_addCell 26 = .ok (.getfield 87, 3) := by decide +kernel
theorem dX8_addCell_29 : decode cX8_addCell 29 = .ok (.iload_n 2, 1) := by decide +kernel
theorem dX8_addCell_30 : decode cX8_addCell 30 = .ok (.isub, 1) := by decide +kernel
theorem dX8_addCell_31 : decode cX8_addCell 31 = .ok (.invokestatic 72, 3) := by decide +kernel
theorem dX8_addCell_34 : decode cX8_addCell 34 = .ok (.invokestatic 76, 3) := by decide +kernel
theorem dX8_addCell_37 : decode cX8_addCell 37 = .ok (.aload_n 0, 1) := by decide +kernel
theorem dX8_addCell_38 : decode cX8_addCell 38 = .ok (.getfield 10, 3) := by decide +kernel
theorem dX8_addCell_41 : decode cX8_addCell 41 = .ok (.iload_n 1, 1) := by decide +kernel
theorem dX8_addCell_42 : decode cX8_addCell 42 = .ok (.iload_n 2, 1) := by decide +kernel
theorem dX8_addCell_43 : decode cX8_addCell 43 = .ok (.iload_n 3, 1) := by decide +kernel
theorem dX8_addCell_44 : decode cX8_addCell 44 = .ok (.invokevirtual 127, 3) := by decide +kernel
theorem dX8_addCell_47 : decode cX8_addCell 47 = .ok (.invokestatic 84, 3) := by decide +kernel
theorem dX8_addCell_50 : decode cX8_addCell 50 = .ok (.aload_n 0, 1) := by decide +kernel
theorem dX8_addCell_51 : decode cX8_addCell 51 = .ok (.getfield 10, 3) := by decide +kernel
theorem dX8_addCell_54 : decode cX8_addCell 54 = .ok (.iload_n 1, 1) := by decide +kernel
theorem dX8_addCell_55 : decode cX8_addCell 55 = .ok (.iload_n 2, 1) := by decide +kernel
theorem dX8_addCell_56 : decode cX8_addCell 56 = .ok (.iload_n 3, 1) := by decide +kernel
theorem dX8_addCell_57 : decode cX8_addCell 57 = .ok (.invokevirtual 130, 3) := by decide +kernel
theorem dX8_addCell_60 : decode cX8_addCell 60 = .ok (.iload 4, 2) := by decide +kernel
theorem dX8_addCell_62 : decode cX8_addCell 62 = .ok (.invokevirtual 134, 3) := by decide +kernel
theorem dX8_addCell_65 : decode cX8_addCell 65 = .ok (.aload_n 0, 1) := by decide +kernel
theorem dX8_addCell_66 : decode cX8_addCell 66 = .ok (.invokevirtual 93, 3) := by decide +kernel
theorem dX8_addCell_69 : decode cX8_addCell 69 = .ok (.aload_n 0, 1) := by decide +kernel
theorem dX8_addCell_70 : decode cX8_addCell 70 = .ok (.getfield 10, 3) := by decide +kernel
theorem dX8_addCell_73 : decode cX8_addCell 73 = .ok (.getfield 80, 3) := by decide +kernel
theorem dX8_addCell_76 : decode cX8_addCell 76 = .ok (.iconst 1, 1) := by decide +kernel
theorem dX8_addCell_77 : decode cX8_addCell 77 = .ok (.isub, 1) := by decide +kernel
theorem dX8_addCell_78 : decode cX8_addCell 78 = .ok (.ireturn, 1) := by decide +kernel
theorem dX8_removeCell_0 : decode cX8_removeCell 0 = .ok (.aload_n 0, 1) := by decide +kernel
theorem dX8_removeCell_1 : decode cX8_removeCell 1 = .ok (.iload_n 1, 1) := by decide +kernel
theorem dX8_removeCell_2 : decode cX8_removeCell 2 = .ok (.invokevirtual 139, 3) := by decide +kernel
theorem dX8_removeCell_5 : decode cX8_removeCell 5 = .ok (.aload_n 0, 1) := by decide +kernel
theorem dX8_removeCell_6 : decode cX8_removeCell 6 = .ok (.getfield 10, 3) := by decide +kernel
theorem dX8_removeCell_9 : decode cX8_removeCell 9 = .ok (.iload_n 1, 1) := by decide +kernel
theorem dX8_removeCell_10 : decode cX8_removeCell 10 = .ok (.invokevirtual 142, 3) := by decide +kernel
theorem dX8_removeCell_13 : decode cX8_removeCell 13 = .ok (.aload_n 0, 1) := by decide +kernel
theorem dX8_removeCell_14 : decode cX8_removeCell 14 = .ok (.invokevirtual 93, 3) := by decide +kernel
theorem dX8_removeCell_17 : decode cX8_removeCell 17 = .ok (.aload_n 0, 1) := by decide +kernel
theorem dX8_removeCell_18 : decode cX8_removeCell 18 = .ok (.getfield 10, 3) := by decide +kernel
theorem dX8_removeCell_21 : decode cX8_removeCell 21 = .ok (.getfield 80, 3) := by decide +kernel
theorem dX8_removeCell_24 : decode cX8_removeCell 24 = .ok (.ireturn, 1) := by decide +kernel
theorem dX8_addWord_0 : decode cX8_addWord 0 = .ok (.aload_n 0, 1) := by decide +kernel
theorem dX8_addWord_1 : decode cX8_addWord 1 = .ok (.iload_n 1, 1) := by decide +kernel
theorem dX8_addWord_2 : decode cX8_addWord 2 = .ok (.invokevirtual 145, 3) := by decide +kernel
theorem dX8_addWord_5 : decode cX8_addWord 5 = .ok (.astore 4, 2) := by decide +kernel
theorem dX8_addWord_7 : decode cX8_addWord 7 = .ok (.iload_n 2, 1) := by decide +kernel
theorem dX8_addWord_8 : decode cX8_addWord 8 = .ok (.iconst 1, 1) := by decide +kernel
theorem dX8_addWord_9 : decode cX8_addWord 9 = .ok (.bipush 12, 2) := by decide +kernel
theorem dX8_addWord_11 : decode cX8_addWord 11 = .ok (.invokestatic 72, 3) := by decide +kernel
theorem dX8_addWord_14 : decode cX8_addWord 14 = .ok (.invokestatic 76, 3) := by decide +kernel
theorem dX8_addWord_17 : decode cX8_addWord 17 = .ok (.iload_n 3, 1) := by decide +kernel
theorem dX8_addWord_18 : decode cX8_addWord 18 = .ok (.iconst 0, 1) := by decide +kernel
theorem dX8_addWord_19 : decode cX8_addWord 19 = .ok (.iconst 3, 1) := by decide +kernel
theorem dX8_addWord_20 : decode cX8_addWord 20 = .ok (.invokestatic 72, 3) := by decide +kernel
theorem dX8_addWord_23 : decode cX8_addWord 23 = .ok (.invokestatic 76, 3) := by decide +kernel
theorem dX8_addWord_26 : decode cX8_addWord 26 = .ok (.aload 4, 2) := by decide +kernel
theorem dX8_addWord_28 : decode cX8_addWord 28 = .ok (.getfield 149, 3) := by decide +kernel
theorem dX8_addWord_31 : decode cX8_addWord 31 = .ok (.bipush 12, 2) := by decide +kernel
theorem dX8_addWord_33 : decode cX8_addWord 33 = .ok (.if_icmp .ge 7, 3) := by decide +kernel
theorem dX8_addWord_36 : decode cX8_addWord 36 = .ok (.iconst 1, 1) := by decide +kernel
theorem dX8_addWord_37 : decode cX8_addWord 37 = .ok (.goto 4, 3) := by decide +kernel
theorem dX8_addWord_40 : decode cX8_addWord 40 = .ok (.iconst 0, 1) := by decide +kernel
theorem dX8_addWord_41 : decode cX8_addWord 41 = .ok (.invokestatic 84, 3) := by decide +kernel
theorem dX8_addWord_44 : decode cX8_addWord 44 = .ok (.aload 4, 2) := by decide +kernel
theorem dX8_addWord_46 : decode cX8_addWord 46 = .ok (.iload_n 2, 1) := by decide +kernel
theorem dX8_addWord_47 : decode cX8_addWord 47 = .ok (.iload_n 3, 1) := by decide +kernel
theorem dX8_addWord_48 : decode cX8_addWord 48 = .ok (.invokevirtual 152, 3) := by decide +kernel
theorem dX8_addWord_51 : decode cX8_addWord 51 = .ok (.aload_n 0, 1) := by decide +kernel
theorem dX8_addWord_52 : decode cX8_addWord 52 = .ok (.invokevirtual 93, 3) := by decide +kernel
theorem dX8_addWord_55 : decode cX8_addWord 55 = .ok (.aload 4, 2) := by decide +kernel
theorem dX8_addWord_57 : decode cX8_addWord 57 = .ok (.getfield 149, 3) := by decide +kernel
theorem dX8_addWord_60 : decode cX8_addWord 60 = .ok (.ireturn, 1) := by decide +kernel
theorem dX8_clearWords_0 : decode cX8_clearWords 0 = .ok (.aload_n 0, 1) := by decide +kernel
theorem dX8_clearWords_1 : decode cX8_clearWords 1 = .ok (.iload_n 1, 1) := by decide +kernel
theorem dX8_clearWords_2 : decode cX8_clearWords 2 = .ok (.invokevirtual 145, 3) := by decide +kernel
theorem dX8_clearWords_5 : decode cX8_clearWords 5 = .ok (.astore_n 2, 1) := by decide +kernel
theorem dX8_clearWords_6 : decode cX8_clearWords 6 = .ok (.aload_n 2, 1) := by decide +kernel
theorem dX8_clearWords_7 : decode cX8_clearWords 7 = .ok (.getfield 149, 3) := by decide +kernel
theorem dX8_clearWords_10 : decode cX8_clearWords 10 = .ok (.istore_n 3, 1) := by decide +kernel
theorem dX8_clearWords_11 : decode cX8_clearWords 11 = .ok (.aload_n 2, 1) := by decide +kernel
theorem dX8_clearWords_12 : decode cX8_clearWords 12 = .ok (.aload_n 2, 1) := by decide +kernel
theorem dX8_clearWords_13 : decode cX8_clearWords 13 = .ok (.getfield 156, 3) := by decide +kernel
theorem dX8_clearWords_16 : decode cX8_clearWords 16 = .ok (.invokevirtual 134, 3) := by decide +kernel
theorem dX8_clearWords_19 : decode cX8_clearWords 19 = .ok (.aload_n 0, 1) := by decide +kernel
theorem dX8_clearWords_20 : decode cX8_clearWords 20 = .ok (.invokevirtual 93, 3) := by decide +kernel
theorem dX8_clearWords_23 : decode cX8_clearWords 23 = .ok (.iload_n 3, 1) := by decide +kernel
theorem dX8_clearWords_24 : decode cX8_clearWords 24 = .ok (.ireturn, 1) := by decide +kernel
theorem dX8_setSize_0 : decode cX8_setSize 0 = .ok (.aload_n 0, 1) := by decide +kernel
theorem dX8_setSize_1 : decode cX8_setSize 1 = .ok (.iload_n 1, 1) := by decide +kernel
theorem dX8_setSize_2 : decode cX8_setSize 2 = .ok (.invokevirtual 139, 3) := by decide +kernel
theorem dX8_setSize_5 : decode cX8_setSize 5 = .ok (.aload_n 0, 1) := by decide +kernel
theorem dX8_setSize_6 : decode cX8_setSize 6 = .ok (.getfield 10, 3) := by decide +kernel
theorem dX8_setSize_9 : decode cX8_setSize 9 = .ok (.getfield 159, 3) := by decide +kernel
theorem dX8_setSize_12 : decode cX8_setSize 12 = .ok (.iload_n 1, 1) := by decide +kernel
theorem dX8_setSize_13 : decode cX8_setSize 13 = .ok (.aaload, 1) := by decide +kernel
theorem dX8_setSize_14 : decode cX8_setSize 14 = .ok (.getfield 163, 3) := by decide +kernel
theorem dX8_setSize_17 : decode cX8_setSize 17 = .ok (.astore 4, 2) := by decide +kernel
theorem dX8_setSize_19 : decode cX8_setSize 19 = .ok (.aload 4, 2) := by decide +kernel
theorem dX8_setSize_21 : decode cX8_setSize 21 = .ok (.invokevirtual 169, 3) := by decide +kernel
theorem dX8_setSize_24 : decode cX8_setSize 24 = .ok (.ifCond .ne 7, 3) := by decide +kernel
theorem dX8_setSize_27 : decode cX8_setSize 27 = .ok (.iconst 1, 1) := by decide +kernel
theorem dX8_setSize_28 : decode cX8_setSize 28 = .ok (.goto 4, 3) := by decide +kernel
theorem dX8_setSize_31 : decode cX8_setSize 31 = .ok (.iconst 0, 1) := by decide +kernel
theorem dX8_setSize_32 : decode cX8_setSize 32 = .ok (.invokestatic 173, 3) := by decide +kernel
theorem dX8_setSize_35 : decode cX8_setSize 35 = .ok (.iload_n 2, 1) := by decide +kernel
theorem dX8_setSize_36 : decode cX8_setSize 36 = .ok (.iconst 1, 1) := by decide +kernel
theorem dX8_setSize_37 : decode cX8_setSize 37 = .ok (.bipush 20, 2) := by decide +kernel
theorem dX8_setSize_39 : decode cX8_setSize 39 = .ok (.invokestatic 72, 3) := by decide +kernel
theorem dX8_setSize_42 : decode cX8_setSize 42 = .ok (.invokestatic 76, 3) := by decide +kernel
theorem dX8_setSize_45 : decode cX8_setSize 45 = .ok (.iload_n 3, 1) := by decide +kernel
theorem dX8_setSize_46 : decode cX8_setSize 46 = .ok (.iconst 1, 1) := by decide +kernel
theorem dX8_setSize_47 : decode cX8_setSize 47 = .ok (.bipush 20, 2) := by decide +kernel
theorem dX8_setSize_49 : decode cX8_setSize 49 = .ok (.invokestatic 72, 3) := by decide +kernel
theorem dX8_setSize_52 : decode cX8_setSize 52 = .ok (.invokestatic 76, 3) := by decide +kernel
theorem dX8_setSize_55 : decode cX8_setSize 55 = .ok (.bipush 100, 2) := by decide +kernel
theorem dX8_setSize_57 : decode cX8_setSize 57 = .ok (.aload 4, 2) := by decide +kernel
theorem dX8_setSize_59 : decode cX8_setSize 59 = .ok (.getfield 176, 3) := by decide +kernel
theorem dX8_setSize_62 : decode cX8_setSize 62 = .ok (.imul, 1) := by decide +kernel
theorem dX8_setSize_63 : decode cX8_setSize 63 = .ok (.aload 4, 2) := by decide +kernel
theorem dX8_setSize_65 : decode cX8_setSize 65 = .ok (.getfield 177, 3) := by decide +kernel
theorem dX8_setSize_68 : decode cX8_setSize 68 = .ok (.iadd, 1) := by decide +kernel
theorem dX8_setSize_69 : decode cX8_setSize 69 = .ok (.istore 5, 2) := by decide +kernel
theorem dX8_setSize_71 : decode cX8_setSize 71 = .ok (.aload 4, 2) := by decide +kernel
theorem dX8_setSize_73 : decode cX8_setSize 73 = .ok (.iload_n 2, 1) := by decide +kernel
theorem dX8_setSize_74 : decode cX8_setSize 74 = .ok (.iload_n 3, 1) := by decide +kernel
theorem dX8_setSize_75 : decode cX8_setSize 75 = .ok (.invokevirtual 180, 3) := by decide +kernel
theorem dX8_setSize_78 : decode cX8_setSize 78 = .ok (.aload_n 0, 1) := by decide +kernel
theorem dX8_setSize_79 : decode cX8_setSize 79 = .ok (.invokevirtual 93, 3) := by decide +kernel
theorem dX8_setSize_82 : decode cX8_setSize 82 = .ok (.iload 5, 2) := by decide +kernel
theorem dX8_setSize_84 : decode cX8_setSize 84 = .ok (.ireturn, 1) := by decide +kernel
theorem dX8_setKind_0 : decode cX8_setKind 0 = .ok (.aload_n 0, 1) := by decide +kernel
theorem dX8_setKind_1 : decode cX8_setKind 1 = .ok (.iload_n 1, 1) := by decide +kernel
theorem dX8_setKind_2 : decode cX8_setKind 2 = .ok (.invokevirtual 139, 3) := by decide +kernel
theorem dX8_setKind_5 : decode cX8_setKind 5 = .ok (.iload_n 2, 1) := by decide +kernel
theorem dX8_setKind_6 : decode cX8_setKind 6 = .ok (.iconst 0, 1) := by decide +kernel
theorem dX8_setKind_7 : decode cX8_setKind 7 = .ok (.iconst 5, 1) := by decide +kernel
theorem dX8_setKind_8 : decode cX8_setKind 8 = .ok (.invokestatic 72, 3) := by decide +kernel
theorem dX8_setKind_11 : decode cX8_setKind 11 = .ok (.invokestatic 76, 3) := by decide +kernel
theorem dX8_setKind_14 : decode cX8_setKind 14 = .ok (.aload_n 0, 1) := by decide +kernel
theorem dX8_setKind_15 : decode cX8_setKind 15 = .ok (.getfield 10, 3) := by decide +kernel
theorem dX8_setKind_18 : decode cX8_setKind 18 = .ok (.getfield 159, 3) := by decide +kernel
theorem dX8_setKind_21 : decode cX8_setKind 21 = .ok (.iload_n 1, 1) := by decide +kernel
theorem dX8_setKind_22 : decode cX8_setKind 22 = .ok (.aaload, 1) := by decide +kernel
theorem dX8_setKind_23 : decode cX8_setKind 23 = .ok (.getfield 163, 3) := by decide +kernel
theorem dX8_setKind_26 : decode cX8_setKind 26 = .ok (.astore_n 3, 1) := by decide +kernel
theorem dX8_setKind_27 : decode cX8_setKind 27 = .ok (.aload_n 3, 1) := by decide +kernel
theorem dX8_setKind_28 : decode cX8_setKind 28 = .ok (.invokevirtual 169, 3) := by decide +kernel
theorem dX8_setKind_31 : decode cX8_setKind 31 = .ok (.iload_n 2, 1) := by decide +kernel
theorem dX8_setKind_32 : decode cX8_setKind 32 = .ok (.invokestatic 183, 3) := by decide +kernel
theorem dX8_setKind_35 : decode cX8_setKind 35 = .ok (.if_icmp .ne 7, 3) := by decide +kernel
theorem dX8_setKind_38 : decode cX8_setKind 38 = .ok (.iconst 1, 1) := by decide +kernel
theorem dX8_setKind_39 : decode cX8_setKind 39 = .ok (.goto 4, 3) := by decide +kernel
theorem dX8_setKind_42 : decode cX8_setKind 42 = .ok (.iconst 0, 1) := by decide +kernel
theorem dX8_setKind_43 : decode cX8_setKind 43 = .ok (.invokestatic 173, 3) := by decide +kernel
theorem dX8_setKind_46 : decode cX8_setKind 46 = .ok (.aload_n 3, 1) := by decide +kernel
theorem dX8_setKind_47 : decode cX8_setKind 47 = .ok (.getfield 156, 3) := by decide +kernel
theorem dX8_setKind_50 : decode cX8_setKind 50 = .ok (.istore 4, 2) := by decide +kernel
theorem dX8_setKind_52 : decode cX8_setKind 52 = .ok (.aload_n 3, 1) := by decide +kernel
theorem dX8_setKind_53 : decode cX8_setKind 53 = .ok (.iload_n 2, 1) := by decide +kernel
theorem dX8_setKind_54 : decode cX8_setKind 54 = .ok (.invokevirtual 187, 3) := by decide +kernel
theorem dX8_setKind_57 : decode cX8_setKind 57 = .ok (.aload_n 0, 1) := by decide +kernel
theorem dX8_setKind_58 : decode cX8_setKind 58 = .ok (.invokevirtual 93, 3) := by decide +kernel
theorem dX8_setKind_61 : decode cX8_setKind 61 = .ok (.iload 4, 2) := by decide +kernel
theorem dX8_setKind_63 : decode cX8_setKind 63 = .ok (.ireturn, 1) := by decide +kernel
theorem dX8_append_0 : decode cX8_append 0 = .ok (.iconst 0, 1) := by decide +kernel
theorem dX8_append_1 : decode cX8_append 1 = .ok (.istore_n 2, 1) := by decide +kernel
theorem dX8_append_2 : decode cX8_append 2 = .ok (.bipush 24, 2) := by decide +kernel
theorem dX8_append_4 : decode cX8_append 4 = .ok (.istore_n 3, 1) := by decide +kernel
theorem dX8_append_5 : decode cX8_append 5 = .ok (.iload_n 3, 1) := by decide +kernel
theorem dX8_append_6 : decode cX8_append 6 = .ok (.ifCond .lt 56, 3) := by decide +kernel
theorem dX8_append_9 : decode cX8_append 9 = .ok (.iload_n 1, 1) := by decide +kernel
theorem dX8_append_10 : decode cX8_append 10 = .ok (.iload_n 3, 1) := by decide +kernel
theorem dX8_append_11 : decode cX8_append 11 = .ok (.iushr, 1) := by decide +kernel
theorem dX8_append_12 : decode cX8_append 12 = .ok (.sipush 255, 3) := by decide +kernel
theorem dX8_append_15 : decode cX8_append 15 = .ok (.iand, 1) := by decide +kernel
theorem dX8_append_16 : decode cX8_append 16 = .ok (.istore 4, 2) := by decide +kernel
theorem dX8_append_18 : decode cX8_append 18 = .ok (.iload 4, 2) := by decide +kernel
theorem dX8_append_20 : decode cX8_append 20 = .ok (.ifCond .eq 15, 3) := by decide +kernel
theorem dX8_append_23 : decode cX8_append 23 = .ok (.iload 4, 2) := by decide +kernel
theorem dX8_append_25 : decode cX8_append 25 = .ok (.bipush 33, 2) := by decide +kernel
theorem dX8_append_27 : decode cX8_append 27 = .ok (.bipush 126, 2) := by decide +kernel
theorem dX8_append_29 : decode cX8_append 29 = .ok (.invokestatic 72, 3) := by decide +kernel
theorem dX8_append_32 : decode cX8_append 32 = .ok (.ifCond .eq 7, 3) := by decide +kernel
theorem dX8_append_35 : decode cX8_append 35 = .ok (.iconst 1, 1) := by decide +kernel
theorem dX8_append_36 : decode cX8_append 36 = .ok (.goto 4, 3) := by decide +kernel
theorem dX8_append_39 : decode cX8_append 39 = .ok (.iconst 0, 1) := by decide +kernel
theorem dX8_append_40 : decode cX8_append 40 = .ok (.invokestatic 76, 3) := by decide +kernel
theorem dX8_append_43 : decode cX8_append 43 = .ok (.iload_n 2, 1) := by decide +kernel
theorem dX8_append_44 : decode cX8_append 44 = .ok (.iload 4, 2) := by decide +kernel
theorem dX8_append_46 : decode cX8_append 46 = .ok (.ifCond .ne 7, 3) := by decide +kernel
theorem dX8_append_49 : decode cX8_append 49 = .ok (.iconst 0, 1) := by decide +kernel
theorem dX8_append_50 : decode cX8_append 50 = .ok (.goto 4, 3) := by decide +kernel
theorem dX8_append_53 : decode cX8_append 53 = .ok (.iconst 1, 1) := by decide +kernel
theorem dX8_append_54 : decode cX8_append 54 = .ok (.iadd, 1) := by decide +kernel
theorem dX8_append_55 : decode cX8_append 55 = .ok (.istore_n 2, 1) := by decide +kernel
theorem dX8_append_56 : decode cX8_append 56 = .ok (.iinc 3 (-8), 3) := by decide +kernel
theorem dX8_append_59 : decode cX8_append 59 = .ok (.goto (-54), 3) := by decide +kernel
theorem dX8_append_62 : decode cX8_append 62 = .ok (.aload_n 0, 1) := by decide +kernel
theorem dX8_append_63 : decode cX8_append 63 = .ok (.getfield 49, 3) := by decide +kernel
theorem dX8_append_66 : decode cX8_append 66 = .ok (.getfield 190, 3) := by decide +kernel
theorem dX8_append_69 : decode cX8_append 69 = .ok (.iload_n 2, 1) := by decide +kernel
theorem dX8_append_70 : decode cX8_append 70 = .ok (.iadd, 1) := by decide +kernel
theorem dX8_append_71 : decode cX8_append 71 = .ok (.bipush 60, 2) := by decide +kernel
theorem dX8_append_73 : decode cX8_append 73 = .ok (.if_icmp .gt 7, 3) := by decide +kernel
theorem dX8_append_76 : decode cX8_append 76 = .ok (.iconst 1, 1) := by decide +kernel
theorem dX8_append_77 : decode cX8_append 77 = .ok (.goto 4, 3) := by decide +kernel
theorem dX8_append_80 : decode cX8_append 80 = .ok (.iconst 0, 1) := by decide +kernel
theorem dX8_append_81 : decode cX8_append 81 = .ok (.invokestatic 84, 3) := by decide +kernel
theorem dX8_append_84 : decode cX8_append 84 = .ok (.bipush 24, 2) := by decide +kernel
theorem dX8_append_86 : decode cX8_append 86 = .ok (.istore_n 3, 1) := by decide +kernel
theorem dX8_append_87 : decode cX8_append 87 = .ok (.iload_n 3, 1) := by decide +kernel
theorem dX8_append_88 : decode cX8_append 88 = .ok (.ifCond .lt 23, 3) := by decide +kernel
theorem dX8_append_91 : decode cX8_append 91 = .ok (.aload_n 0, 1) := by decide +kernel
theorem dX8_append_92 : decode cX8_append 92 = .ok (.getfield 49, 3) := by decide +kernel
theorem dX8_append_95 : decode cX8_append 95 = .ok (.iload_n 1, 1) := by decide +kernel
theorem dX8_append_96 : decode cX8_append 96 = .ok (.iload_n 3, 1) := by decide +kernel
theorem dX8_append_97 : decode cX8_append 97 = .ok (.iushr, 1) := by decide +kernel
theorem dX8_append_98 : decode cX8_append 98 = .ok (.sipush 255, 3) := by decide +kernel
theorem dX8_append_101 : decode cX8_append 101 = .ok (.iand, 1) := by decide +kernel
theorem dX8_append_102 : decode cX8_append 102 = .ok (.invokevirtual 193, 3) := by decide +kernel
theorem dX8_append_105 : decode cX8_append 105 = .ok (.iinc 3 (-8), 3) := by decide +kernel
theorem dX8_append_108 : decode cX8_append 108 = .ok (.goto (-21), 3) := by decide +kernel
theorem dX8_append_111 : decode cX8_append 111 = .ok (.aload_n 0, 1) := by decide +kernel
theorem dX8_append_112 : decode cX8_append 112 = .ok (.getfield 49, 3) := by decide +kernel
theorem dX8_append_115 : decode cX8_append 115 = .ok (.getfield 190, 3) := by decide +kernel
theorem dX8_append_118 : decode cX8_append 118 = .ok (.ireturn, 1) := by decide +kernel
theorem dX8_execute_0 : decode cX8_execute 0 = .ok (.aload_n 0, 1) := by decide +kernel
theorem dX8_execute_1 : decode cX8_execute 1 = .ok (.getfield 34, 3) := by decide +kernel
theorem dX8_execute_4 : decode cX8_execute 4 = .ok (.aload_n 0, 1) := by decide +kernel
theorem dX8_execute_5 : decode cX8_execute 5 = .ok (.getfield 10, 3) := by decide +kernel
theorem dX8_execute_8 : decode cX8_execute 8 = .ok (.invokevirtual 195, 3) := by decide +kernel
theorem dX8_execute_11 : decode cX8_execute 11 = .ok (.aload_n 0, 1) := by decide +kernel
theorem dX8_execute_12 : decode cX8_execute 12 = .ok (.getfield 49, 3) := by decide +kernel
theorem dX8_execute_15 : decode cX8_execute 15 = .ok (.aload_n 0, 1) := by decide +kernel
theorem dX8_execute_16 : decode cX8_execute 16 = .ok (.getfield 34, 3) := by decide +kernel
theorem dX8_execute_19 : decode cX8_execute 19 = .ok (.invokevirtual 198, 3) := by decide +kernel
theorem dX8_execute_22 : decode cX8_execute 22 = .ok (.istore_n 1, 1) := by decide +kernel
theorem dX8_execute_23 : decode cX8_execute 23 = .ok (.aload_n 0, 1) := by decide +kernel
theorem dX8_execute_24 : decode cX8_execute 24 = .ok (.getfield 49, 3) := by decide +kernel
theorem dX8_execute_27 : decode cX8_execute 27 = .ok (.getfield 202, 3) := by decide +kernel
theorem dX8_execute_30 : decode cX8_execute 30 = .ok (.ifCond .ge 7, 3) := by decide +kernel
theorem dX8_execute_33 : decode cX8_execute 33 = .ok (.iconst 1, 1) := by decide +kernel
theorem dX8_execute_34 : decode cX8_execute 34 = .ok (.goto 4, 3) := by decide +kernel
theorem dX8_execute_37 : decode cX8_execute 37 = .ok (.iconst 0, 1) := by decide +kernel
theorem dX8_execute_38 : decode cX8_execute 38 = .ok (.invokestatic 84, 3) := by decide +kernel
theorem dX8_execute_41 : decode cX8_execute 41 = .ok (.aload_n 0, 1) := by decide +kernel
theorem dX8_execute_42 : decode cX8_execute 42 = .ok (.getfield 10, 3) := by decide +kernel
theorem dX8_execute_45 : decode cX8_execute 45 = .ok (.aload_n 0, 1) := by decide +kernel
theorem dX8_execute_46 : decode cX8_execute 46 = .ok (.getfield 34, 3) := by decide +kernel
theorem dX8_execute_49 : decode cX8_execute 49 = .ok (.invokevirtual 195, 3) := by decide +kernel
theorem dX8_execute_52 : decode cX8_execute 52 = .ok (.aload_n 0, 1) := by decide +kernel
theorem dX8_execute_53 : decode cX8_execute 53 = .ok (.invokevirtual 93, 3) := by decide +kernel
theorem dX8_execute_56 : decode cX8_execute 56 = .ok (.iload_n 1, 1) := by decide +kernel
theorem dX8_execute_57 : decode cX8_execute 57 = .ok (.ireturn, 1) := by decide +kernel
theorem dX8_errorPosition_0 : decode cX8_errorPosition 0 = .ok (.aload_n 0, 1) := by decide +kernel
theorem dX8_errorPosition_1 : decode cX8_errorPosition 1 = .ok (.getfield 49, 3) := by decide +kernel
theorem dX8_errorPosition_4 : decode cX8_errorPosition 4 = .ok (.getfield 202, 3) := by decide +kernel
theorem dX8_errorPosition_7 : decode cX8_errorPosition 7 = .ok (.ireturn, 1) := by decide +kernel
theorem dX8_count_0 : decode cX8_count 0 = .ok (.iload_n 1, 1) := by decide +kernel
theorem dX8_count_1 : decode cX8_count 1 = .ok (.iconst 0, 1) := by decide +kernel
theorem dX8_count_2 : decode cX8_count 2 = .ok (.iconst 2, 1) := by decide +kernel
theorem dX8_count_3 : decode cX8_count 3 = .ok (.invokestatic 72, 3) := by decide +kernel
theorem dX8_count_6 : decode cX8_count 6 = .ok (.invokestatic 76, 3) := by decide +kernel
theorem dX8_count_9 : decode cX8_count 9 = .ok (.iload_n 1, 1) := by decide +kernel
theorem dX8_count_10 : decode cX8_count 10 = .ok (.ifCond .ne 11, 3) := by decide +kernel
theorem dX8_count_13 : decode cX8_count 13 = .ok (.aload_n 0, 1) := by decide +kernel
theorem dX8_count_14 : decode cX8_count 14 = .ok (.getfield 10, 3) := by decide +kernel
theorem dX8_count_17 : decode cX8_count 17 = .ok (.getfield 87, 3) := by decide +kernel
theorem dX8_count_20 : decode cX8_count 20 = .ok (.ireturn, 1) := by decide +kernel
theorem dX8_count_21 : decode cX8_count 21 = .ok (.iload_n 1, 1) := by decide +kernel
theorem dX8_count_22 : decode cX8_count 22 = .ok (.iconst 1, 1) := by decide +kernel
theorem dX8_count_23 : decode cX8_count 23 = .ok (.if_icmp .ne 13, 3) := by decide +kernel
theorem dX8_count_26 : decode cX8_count 26 = .ok (.aload_n 0, 1) := by decide +kernel
theorem dX8_count_27 : decode cX8_count 27 = .ok (.getfield 10, 3) := by decide +kernel
theorem dX8_count_30 : decode cX8_count 30 = .ok (.getfield 121, 3) := by decide +kernel
theorem dX8_count_33 : decode cX8_count 33 = .ok (.goto 10, 3) := by decide +kernel
theorem dX8_count_36 : decode cX8_count 36 = .ok (.aload_n 0, 1) := by decide +kernel
theorem dX8_count_37 : decode cX8_count 37 = .ok (.getfield 10, 3) := by decide +kernel
theorem dX8_count_40 : decode cX8_count 40 = .ok (.getfield 80, 3) := by decide +kernel
theorem dX8_count_43 : decode cX8_count 43 = .ok (.ireturn, 1) := by decide +kernel
theorem dX8_property_0 : decode cX8_property 0 = .ok (.aload_n 0, 1) := by decide +kernel
theorem dX8_property_1 : decode cX8_property 1 = .ok (.iload_n 1, 1) := by decide +kernel
theorem dX8_property_2 : decode cX8_property 2 = .ok (.invokevirtual 139, 3) := by decide +kernel
theorem dX8_property_5 : decode cX8_property 5 = .ok (.iload_n 2, 1) := by decide +kernel
theorem dX8_property_6 : decode cX8_property 6 = .ok (.iconst 0, 1) := by decide +kernel
theorem dX8_property_7 : decode cX8_property 7 = .ok (.bipush 6, 2) := by decide +kernel
theorem dX8_property_9 : decode cX8_property 9 = .ok (.invokestatic 72, 3) := by decide +kernel
theorem dX8_property_12 : decode cX8_property 12 = .ok (.invokestatic 76, 3) := by decide +kernel
theorem dX8_property_15 : decode cX8_property 15 = .ok (.aload_n 0, 1) := by decide +kernel
theorem dX8_property_16 : decode cX8_property 16 = .ok (.getfield 10, 3) := by decide +kernel
theorem dX8_property_19 : decode cX8_property 19 = .ok (.getfield 159, 3) := by decide +kernel
theorem dX8_property_22 : decode cX8_property 22 = .ok (.iload_n 1, 1) := by decide +kernel
theorem dX8_property_23 : decode cX8_property 23 = .ok (.aaload, 1) := by decide +kernel
theorem dX8_property_24 : decode cX8_property 24 = .ok (.astore_n 3, 1) := by decide +kernel
theorem dX8_property_25 : decode cX8_property 25 = .ok (.iload_n 2, 1) := by decide +kernel
theorem dX8_property_26 : decode cX8_property 26 = .ok (.tableswitch 78 0 5 #[38, 43, 48, 53, 61, 69], 38) := by decide +kernel
theorem dX8_property_64 : decode cX8_property 64 = .ok (.aload_n 3, 1) := by decide +kernel
theorem dX8_property_65 : decode cX8_property 65 = .ok (.getfield 205, 3) := by decide +kernel
theorem dX8_property_68 : decode cX8_property 68 = .ok (.ireturn, 1) := by decide +kernel
theorem dX8_property_69 : decode cX8_property 69 = .ok (.aload_n 3, 1) := by decide +kernel
theorem dX8_property_70 : decode cX8_property 70 = .ok (.getfield 208, 3) := by decide +kernel
theorem dX8_property_73 : decode cX8_property 73 = .ok (.ireturn, 1) := by decide +kernel
theorem dX8_property_74 : decode cX8_property 74 = .ok (.aload_n 3, 1) := by decide +kernel
theorem dX8_property_75 : decode cX8_property 75 = .ok (.getfield 211, 3) := by decide +kernel
theorem dX8_property_78 : decode cX8_property 78 = .ok (.ireturn, 1) := by decide +kernel
theorem dX8_property_79 : decode cX8_property 79 = .ok (.aload_n 3, 1) := by decide +kernel
theorem dX8_property_80 : decode cX8_property 80 = .ok (.getfield 163, 3) := by decide +kernel
theorem dX8_property_83 : decode cX8_property 83 = .ok (.getfield 156, 3) := by decide +kernel
theorem dX8_property_86 : decode cX8_property 86 = .ok (.ireturn, 1) := by decide +kernel
theorem dX8_property_87 : decode cX8_property 87 = .ok (.aload_n 3, 1) := by decide +kernel
theorem dX8_property_88 : decode cX8_property 88 = .ok (.getfield 163, 3) := by decide +kernel
theorem dX8_property_91 : decode cX8_property 91 = .ok (.getfield 149, 3) := by decide +kernel
theorem dX8_property_94 : decode cX8_property 94 = .ok (.ireturn, 1) := by decide +kernel
theorem dX8_property_95 : decode cX8_property 95 = .ok (.aload_n 0, 1) := by decide +kernel
theorem dX8_property_96 : decode cX8_property 96 = .ok (.getfield 10, 3) := by decide +kernel
theorem dX8_property_99 : decode cX8_property 99 = .ok (.aload_n 3, 1) := by decide +kernel
theorem dX8_property_100 : decode cX8_property 100 = .ok (.invokevirtual 214, 3) := by decide +kernel
theorem dX8_property_103 : decode cX8_property 103 = .ok (.ireturn, 1) := by decide +kernel
theorem dX8_property_104 : decode cX8_property 104 = .ok (.aload_n 0, 1) := by decide +kernel
theorem dX8_property_105 : decode cX8_property 105 = .ok (.getfield 10, 3) := by decide +kernel
theorem dX8_property_108 : decode cX8_property 108 = .ok (.aload_n 3, 1) := by decide +kernel
theorem dX8_property_109 : decode cX8_property 109 = .ok (.invokevirtual 218, 3) := by decide +kernel
theorem dX8_property_112 : decode cX8_property 112 = .ok (.ireturn, 1) := by decide +kernel
theorem dX8_cellAt_0 : decode cX8_cellAt 0 = .ok (.aload_n 0, 1) := by decide +kernel
theorem dX8_cellAt_1 : decode cX8_cellAt 1 = .ok (.iload_n 1, 1) := by decide +kernel
theorem dX8_cellAt_2 : decode cX8_cellAt 2 = .ok (.invokevirtual 124, 3) := by decide +kernel
theorem dX8_cellAt_5 : decode cX8_cellAt 5 = .ok (.aload_n 0, 1) := by decide +kernel
theorem dX8_cellAt_6 : decode cX8_cellAt 6 = .ok (.iload_n 2, 1) := by decide +kernel
theorem dX8_cellAt_7 : decode cX8_cellAt 7 = .ok (.invokevirtual 108, 3) := by decide +kernel
theorem dX8_cellAt_10 : decode cX8_cellAt 10 = .ok (.aload_n 0, 1) := by decide +kernel
theorem dX8_cellAt_11 : decode cX8_cellAt 11 = .ok (.getfield 10, 3) := by decide +kernel
theorem dX8_cellAt_14 : decode cX8_cellAt 14 = .ok (.iload_n 1, 1) := by decide +kernel
theorem dX8_cellAt_15 : decode cX8_cellAt 15 = .ok (.iload_n 2, 1) := by decide +kernel
theorem dX8_cellAt_16 : decode cX8_cellAt 16 = .ok (.invokevirtual 221, 3) := by decide +kernel
theorem dX8_cellAt_19 : decode cX8_cellAt 19 = .ok (.ireturn, 1) := by decide +kernel
theorem dX8_lineCount_0 : decode cX8_lineCount 0 = .ok (.aload_n 0, 1) := by decide +kernel
theorem dX8_lineCount_1 : decode cX8_lineCount 1 = .ok (.iload_n 1, 1) := by decide +kernel
theorem dX8_lineCount_2 : decode cX8_lineCount 2 = .ok (.invokevirtual 145, 3) := by decide +kernel
theorem dX8_lineCount_5 : decode cX8_lineCount 5 = .ok (.astore_n 3, 1) := by decide +kernel
theorem dX8_lineCount_6 : decode cX8_lineCount 6 = .ok (.iload_n 2, 1) := by decide +kernel
theorem dX8_lineCount_7 : decode cX8_lineCount 7 = .ok (.aload_n 3, 1) := by decide +kernel
theorem dX8_lineCount_8 : decode cX8_lineCount 8 = .ok (.invokevirtual 225, 3) := by decide +kernel
theorem dX8_lineCount_11 : decode cX8_lineCount 11 = .ok (.bipush 99, 2) := by decide +kernel
theorem dX8_lineCount_13 : decode cX8_lineCount 13 = .ok (.invokestatic 72, 3) := by decide +kernel
theorem dX8_lineCount_16 : decode cX8_lineCount 16 = .ok (.invokestatic 76, 3) := by decide +kernel
theorem dX8_lineCount_19 : decode cX8_lineCount 19 = .ok (.aload_n 3, 1) := by decide +kernel
theorem dX8_lineCount_20 : decode cX8_lineCount 20 = .ok (.iload_n 2, 1) := by decide +kernel
theorem dX8_lineCount_21 : decode cX8_lineCount 21 = .ok (.invokevirtual 229, 3) := by decide +kernel
theorem dX8_lineCount_24 : decode cX8_lineCount 24 = .ok (.ireturn, 1) := by decide +kernel
theorem dX8_lineLength_0 : decode cX8_lineLength 0 = .ok (.aload_n 0, 1) := by decide +kernel
theorem dX8_lineLength_1 : decode cX8_lineLength 1 = .ok (.iload_n 1, 1) := by decide +kernel
theorem dX8_lineLength_2 : decode cX8_lineLength 2 = .ok (.invokevirtual 145, 3) := by decide +kernel
theorem dX8_lineLength_5 : decode cX8_lineLength 5 = .ok (.astore 4, 2) := by decide +kernel
theorem dX8_lineLength_7 : decode cX8_lineLength 7 = .ok (.iload_n 2, 1) := by decide +kernel
theorem dX8_lineLength_8 : decode cX8_lineLength 8 = .ok (.aload 4, 2) := by decide +kernel
theorem dX8_lineLength_10 : decode cX8_lineLength 10 = .ok (.invokevirtual 225, 3) := by decide +kernel
theorem dX8_lineLength_13 : decode cX8_lineLength 13 = .ok (.bipush 99, 2) := by decide +kernel
theorem dX8_lineLength_15 : decode cX8_lineLength 15 = .ok (.invokestatic 72, 3) := by decide +kernel
theorem dX8_lineLength_18 : decode cX8_lineLength 18 = .ok (.invokestatic 76, 3) := by decide +kernel
theorem dX8_lineLength_21 : decode cX8_lineLength 21 = .ok (.iload_n 3, 1) := by decide +kernel
theorem dX8_lineLength_22 : decode cX8_lineLength 22 = .ok (.iconst 0, 1) := by decide +kernel
theorem dX8_lineLength_23 : decode cX8_lineLength 23 = .ok (.aload 4, 2) := by decide +kernel
theorem dX8_lineLength_25 : decode cX8_lineLength 25 = .ok (.iload_n 2, 1) := by decide +kernel
theorem dX8_lineLength_26 : decode cX8_lineLength 26 = .ok (.invokevirtual 229, 3) := by decide +kernel
theorem dX8_lineLength_29 : decode cX8_lineLength 29 = .ok (.iconst 1, 1) := by decide +kernel
theorem dX8_lineLength_30 : decode cX8_lineLength 30 = .ok (.isub, 1) := by decide +kernel
theorem dX8_lineLength_31 : decode cX8_lineLength 31 = .ok (.invokestatic 72, 3) := by decide +kernel
theorem dX8_lineLength_34 : decode cX8_lineLength 34 = .ok (.invokestatic 233, 3) := by decide +kernel
theorem dX8_lineLength_37 : decode cX8_lineLength 37 = .ok (.aload 4, 2) := by decide +kernel
theorem dX8_lineLength_39 : decode cX8_lineLength 39 = .ok (.getfield 236, 3) := by decide +kernel
theorem dX8_lineLength_42 : decode cX8_lineLength 42 = .ok (.iload_n 3, 1) := by decide +kernel
theorem dX8_lineLength_43 : decode cX8_lineLength 43 = .ok (.iaload, 1) := by decide +kernel
theorem dX8_lineLength_44 : decode cX8_lineLength 44 = .ok (.ireturn, 1) := by decide +kernel
theorem dX8_cellHeight_0 : decode cX8_cellHeight 0 = .ok (.aload_n 0, 1) := by decide +kernel
theorem dX8_cellHeight_1 : decode cX8_cellHeight 1 = .ok (.iload_n 1, 1) := by decide +kernel
theorem dX8_cellHeight_2 : decode cX8_cellHeight 2 = .ok (.invokevirtual 139, 3) := by decide +kernel
theorem dX8_cellHeight_5 : decode cX8_cellHeight 5 = .ok (.aload_n 0, 1) := by decide +kernel
theorem dX8_cellHeight_6 : decode cX8_cellHeight 6 = .ok (.getfield 10, 3) := by decide +kernel
theorem dX8_cellHeight_9 : decode cX8_cellHeight 9 = .ok (.getfield 159, 3) := by decide +kernel
theorem dX8_cellHeight_12 : decode cX8_cellHeight 12 = .ok (.iload_n 1, 1) := by decide +kernel
theorem dX8_cellHeight_13 : decode cX8_cellHeight 13 = .ok (.aaload, 1) := by decide +kernel
theorem dX8_cellHeight_14 : decode cX8_cellHeight 14 = .ok (.astore_n 3, 1) := by decide +kernel
theorem dX8_cellHeight_15 : decode cX8_cellHeight 15 = .ok (.iload_n 2, 1) := by decide +kernel
theorem dX8_cellHeight_16 : decode cX8_cellHeight 16 = .ok (.aload_n 0, 1) := by decide +kernel
theorem dX8_cellHeight_17 : decode cX8_cellHeight 17 = .ok (.getfield 10, 3) := by decide +kernel
theorem dX8_cellHeight_20 : decode cX8_cellHeight 20 = .ok (.aload_n 3, 1) := by decide +kernel
theorem dX8_cellHeight_21 : decode cX8_cellHeight 21 = .ok (.invokevirtual 214, 3) := by decide +kernel
theorem dX8_cellHeight_24 : decode cX8_cellHeight 24 = .ok (.bipush 99, 2) := by decide +kernel
theorem dX8_cellHeight_26 : decode cX8_cellHeight 26 = .ok (.invokestatic 72, 3) := by decide +kernel
theorem dX8_cellHeight_29 : decode cX8_cellHeight 29 = .ok (.invokestatic 76, 3) := by decide +kernel
theorem dX8_cellHeight_32 : decode cX8_cellHeight 32 = .ok (.aload_n 0, 1) := by decide +kernel
theorem dX8_cellHeight_33 : decode cX8_cellHeight 33 = .ok (.getfield 10, 3) := by decide +kernel
theorem dX8_cellHeight_36 : decode cX8_cellHeight 36 = .ok (.aload_n 3, 1) := by decide +kernel
theorem dX8_cellHeight_37 : decode cX8_cellHeight 37 = .ok (.iload_n 2, 1) := by decide +kernel
theorem dX8_cellHeight_38 : decode cX8_cellHeight 38 = .ok (.invokevirtual 239, 3) := by decide +kernel
theorem dX8_cellHeight_41 : decode cX8_cellHeight 41 = .ok (.ireturn, 1) := by decide +kernel
theorem dX8_nextStep_0 : decode cX8_nextStep 0 = .ok (.aload_n 0, 1) := by decide +kernel
theorem dX8_nextStep_1 : decode cX8_nextStep 1 = .ok (.iload_n 1, 1) := by decide +kernel
theorem dX8_nextStep_2 : decode cX8_nextStep 2 = .ok (.invokevirtual 139, 3) := by decide +kernel
theorem dX8_nextStep_5 : decode cX8_nextStep 5 = .ok (.aload_n 0, 1) := by decide +kernel
theorem dX8_nextStep_6 : decode cX8_nextStep 6 = .ok (.getfield 10, 3) := by decide +kernel
theorem dX8_nextStep_9 : decode cX8_nextStep 9 = .ok (.getfield 159, 3) := by decide +kernel
theorem dX8_nextStep_12 : decode cX8_nextStep 12 = .ok (.iload_n 1, 1) := by decide +kernel
theorem dX8_nextStep_13 : decode cX8_nextStep 13 = .ok (.aaload, 1) := by decide +kernel
theorem dX8_nextStep_14 : decode cX8_nextStep 14 = .ok (.astore_n 3, 1) := by decide +kernel
theorem dX8_nextStep_15 : decode cX8_nextStep 15 = .ok (.iload_n 2, 1) := by decide +kernel
theorem dX8_nextStep_16 : decode cX8_nextStep 16 = .ok (.aload_n 0, 1) := by decide +kernel
theorem dX8_nextStep_17 : decode cX8_nextStep 17 = .ok (.getfield 10, 3) := by decide +kernel
theorem dX8_nextStep_20 : decode cX8_nextStep 20 = .ok (.aload_n 3, 1) := by decide +kernel
theorem dX8_nextStep_21 : decode cX8_nextStep 21 = .ok (.invokevirtual 214, 3) := by decide +kernel
theorem dX8_nextStep_24 : decode cX8_nextStep 24 = .ok (.bipush 99, 2) := by decide +kernel
theorem dX8_nextStep_26 : decode cX8_nextStep 26 = .ok (.invokestatic 72, 3) := by decide +kernel
theorem dX8_nextStep_29 : decode cX8_nextStep 29 = .ok (.invokestatic 76, 3) := by decide +kernel
theorem dX8_nextStep_32 : decode cX8_nextStep 32 = .ok (.aload_n 0, 1) := by decide +kernel
theorem dX8_nextStep_33 : decode cX8_nextStep 33 = .ok (.getfield 10, 3) := by decide +kernel
theorem dX8_nextStep_36 : decode cX8_nextStep 36 = .ok (.aload_n 3, 1) := by decide +kernel
theorem dX8_nextStep_37 : decode cX8_nextStep 37 = .ok (.iload_n 2, 1) := by decide +kernel
theorem dX8_nextStep_38 : decode cX8_nextStep 38 = .ok (.invokevirtual 239, 3) := by decide +kernel
theorem dX8_nextStep_41 : decode cX8_nextStep 41 = .ok (.istore 4, 2) := by decide +kernel
theorem dX8_nextStep_43 : decode cX8_nextStep 43 = .ok (.iload_n 2, 1) := by decide +kernel
theorem dX8_nextStep_44 : decode cX8_nextStep 44 = .ok (.iconst 1, 1) := by decide +kernel
theorem dX8_nextStep_45 : decode cX8_nextStep 45 = .ok (.iadd, 1) := by decide +kernel
theorem dX8_nextStep_46 : decode cX8_nextStep 46 = .ok (.istore 5, 2) := by decide +kernel
theorem dX8_nextStep_48 : decode cX8_nextStep 48 = .ok (.iload 5, 2) := by decide +kernel
theorem dX8_nextStep_50 : decode cX8_nextStep 50 = .ok (.bipush 99, 2) := by decide +kernel
theorem dX8_nextStep_52 : decode cX8_nextStep 52 = .ok (.if_icmp .gt 24, 3) := by decide +kernel
theorem dX8_nextStep_55 : decode cX8_nextStep 55 = .ok (.aload_n 0, 1) := by decide +kernel
theorem dX8_nextStep_56 : decode cX8_nextStep 56 = .ok (.getfield 10, 3) := by decide +kernel
theorem dX8_nextStep_59 : decode cX8_nextStep 59 = .ok (.aload_n 3, 1) := by decide +kernel
theorem dX8_nextStep_60 : decode cX8_nextStep 60 = .ok (.iload 5, 2) := by decide +kernel
theorem dX8_nextStep_62 : decode cX8_nextStep 62 = .ok (.invokevirtual 239, 3) := by decide +kernel
theorem dX8_nextStep_65 : decode cX8_nextStep 65 = .ok (.iload 4, 2) := by decide +kernel
theorem dX8_nextStep_67 : decode cX8_nextStep 67 = .ok (.if_icmp .lt 9, 3) := by decide +kernel
theorem dX8_nextStep_70 : decode cX8_nextStep 70 = .ok (.iinc 5 1, 3) := by decide +kernel
theorem dX8_nextStep_73 : decode cX8_nextStep 73 = .ok (.goto (-25), 3) := by decide +kernel
theorem dX8_nextStep_76 : decode cX8_nextStep 76 = .ok (.iload 5, 2) := by decide +kernel
theorem dX8_nextStep_78 : decode cX8_nextStep 78 = .ok (.bipush 99, 2) := by decide +kernel
theorem dX8_nextStep_80 : decode cX8_nextStep 80 = .ok (.if_icmp .gt 7, 3) := by decide +kernel
theorem dX8_nextStep_83 : decode cX8_nextStep 83 = .ok (.iconst 1, 1) := by decide +kernel
theorem dX8_nextStep_84 : decode cX8_nextStep 84 = .ok (.goto 4, 3) := by decide +kernel
theorem dX8_nextStep_87 : decode cX8_nextStep 87 = .ok (.iconst 0, 1) := by decide +kernel
theorem dX8_nextStep_88 : decode cX8_nextStep 88 = .ok (.invokestatic 233, 3) := by decide +kernel
theorem dX8_nextStep_91 : decode cX8_nextStep 91 = .ok (.iload 5, 2) := by decide +kernel
theorem dX8_nextStep_93 : decode cX8_nextStep 93 = .ok (.ireturn, 1) := by decide +kernel
theorem dX8_columnWidth_0 : decode cX8_columnWidth 0 = .ok (.aload_n 0, 1) := by decide +kernel
theorem dX8_columnWidth_1 : decode cX8_columnWidth 1 = .ok (.iload_n 1, 1) := by decide +kernel
theorem dX8_columnWidth_2 : decode cX8_columnWidth 2 = .ok (.invokevirtual 108, 3) := by decide +kernel
theorem dX8_columnWidth_5 : decode cX8_columnWidth 5 = .ok (.iload_n 2, 1) := by decide +kernel
theorem dX8_columnWidth_6 : decode cX8_columnWidth 6 = .ok (.iconst 0, 1) := by decide +kernel
theorem dX8_columnWidth_7 : decode cX8_columnWidth 7 = .ok (.iconst 2, 1) := by decide +kernel
theorem dX8_columnWidth_8 : decode cX8_columnWidth 8 = .ok (.invokestatic 72, 3) := by decide +kernel
theorem dX8_columnWidth_11 : decode cX8_columnWidth 11 = .ok (.invokestatic 76, 3) := by decide +kernel
theorem dX8_columnWidth_14 : decode cX8_columnWidth 14 = .ok (.iload_n 2, 1) := by decide +kernel
theorem dX8_columnWidth_15 : decode cX8_columnWidth 15 = .ok (.ifCond .ne 13, 3) := by decide +kernel
theorem dX8_columnWidth_18 : decode cX8_columnWidth 18 = .ok (.aload_n 0, 1) := by decide +kernel
theorem dX8_columnWidth_19 : decode cX8_columnWidth 19 = .ok (.getfield 21, 3) := by decide +kernel
theorem dX8_columnWidth_22 : decode cX8_columnWidth 22 = .ok (.getfield 243, 3) := by decide +kernel
theorem dX8_columnWidth_25 : decode cX8_columnWidth 25 = .ok (.iload_n 1, 1) := by decide +kernel
theorem dX8_columnWidth_26 : decode cX8_columnWidth 26 = .ok (.iaload, 1) := by decide +kernel
theorem dX8_columnWidth_27 : decode cX8_columnWidth 27 = .ok (.ireturn, 1) := by decide +kernel
theorem dX8_columnWidth_28 : decode cX8_columnWidth 28 = .ok (.iload_n 2, 1) := by decide +kernel
theorem dX8_columnWidth_29 : decode cX8_columnWidth 29 = .ok (.iconst 1, 1) := by decide +kernel
theorem dX8_columnWidth_30 : decode cX8_columnWidth 30 = .ok (.if_icmp .ne 15, 3) := by decide +kernel
theorem dX8_columnWidth_33 : decode cX8_columnWidth 33 = .ok (.aload_n 0, 1) := by decide +kernel
theorem dX8_columnWidth_34 : decode cX8_columnWidth 34 = .ok (.getfield 21, 3) := by decide +kernel
theorem dX8_columnWidth_37 : decode cX8_columnWidth 37 = .ok (.getfield 246, 3) := by decide +kernel
theorem dX8_columnWidth_40 : decode cX8_columnWidth 40 = .ok (.iload_n 1, 1) := by decide +kernel
theorem dX8_columnWidth_41 : decode cX8_columnWidth 41 = .ok (.iaload, 1) := by decide +kernel
theorem dX8_columnWidth_42 : decode cX8_columnWidth 42 = .ok (.goto 12, 3) := by decide +kernel
theorem dX8_columnWidth_45 : decode cX8_columnWidth 45 = .ok (.aload_n 0, 1) := by decide +kernel
theorem dX8_columnWidth_46 : decode cX8_columnWidth 46 = .ok (.getfield 21, 3) := by decide +kernel
theorem dX8_columnWidth_49 : decode cX8_columnWidth 49 = .ok (.getfield 249, 3) := by decide +kernel
theorem dX8_columnWidth_52 : decode cX8_columnWidth 52 = .ok (.iload_n 1, 1) := by decide +kernel
theorem dX8_columnWidth_53 : decode cX8_columnWidth 53 = .ok (.iaload, 1) := by decide +kernel
theorem dX8_columnWidth_54 : decode cX8_columnWidth 54 = .ok (.ireturn, 1) := by decide +kernel
theorem dX8_conflicts_0 : decode cX8_conflicts 0 = .ok (.iconst 0, 1) := by decide +kernel
theorem dX8_conflicts_1 : decode cX8_conflicts 1 = .ok (.istore_n 1, 1) := by decide +kernel
theorem dX8_conflicts_2 : decode cX8_conflicts 2 = .ok (.iconst 0, 1) := by decide +kernel
theorem dX8_conflicts_3 : decode cX8_conflicts 3 = .ok (.istore_n 2, 1) := by decide +kernel
theorem dX8_conflicts_4 : decode cX8_conflicts 4 = .ok (.iload_n 2, 1) := by decide +kernel
theorem dX8_conflicts_5 : decode cX8_conflicts 5 = .ok (.aload_n 0, 1) := by decide +kernel
theorem dX8_conflicts_6 : decode cX8_conflicts 6 = .ok (.getfield 10, 3) := by decide +kernel
theorem dX8_conflicts_9 : decode cX8_conflicts 9 = .ok (.getfield 87, 3) := by decide +kernel
theorem dX8_conflicts_12 : decode cX8_conflicts 12 = .ok (.if_icmp .ge 49, 3) := by decide +kernel
theorem dX8_conflicts_15 : decode cX8_conflicts 15 = .ok (.aload_n 0, 1) := by decide +kernel
theorem dX8_conflicts_16 : decode cX8_conflicts 16 = .ok (.getfield 10, 3) := by decide +kernel
theorem dX8_conflicts_19 : decode cX8_conflicts 19 = .ok (.getfield 111, 3) := by decide +kernel
theorem dX8_conflicts_22 : decode cX8_conflicts 22 = .ok (.iload_n 2, 1) := by decide +kernel
theorem dX8_conflicts_23 : decode cX8_conflicts 23 = .ok (.iaload, 1) := by decide +kernel
theorem dX8_conflicts_24 : decode cX8_conflicts 24 = .ok (.iconst 2, 1) := by decide +kernel
theorem dX8_conflicts_25 : decode cX8_conflicts 25 = .ok (.if_icmp .ne 30, 3) := by decide +kernel
theorem dX8_conflicts_28 : decode cX8_conflicts 28 = .ok (.aload_n 0, 1) := by decide +kernel
theorem dX8_conflicts_29 : decode cX8_conflicts 29 = .ok (.getfield 21, 3) := by decide +kernel
theorem dX8_conflicts_32 : decode cX8_conflicts 32 = .ok (.getfield 249, 3) := by decide +kernel
theorem dX8_conflicts_35 : decode cX8_conflicts 35 = .ok (.iload_n 2, 1) := by decide +kernel
theorem dX8_conflicts_36 : decode cX8_conflicts 36 = .ok (.iaload, 1) := by decide +kernel
theorem dX8_conflicts_37 : decode cX8_conflicts 37 = .ok (.aload_n 0, 1) := by decide +kernel
theorem dX8_conflicts_38 : decode cX8_conflicts 38 = .ok (.getfield 10, 3) := by decide +kernel
theorem dX8_conflicts_41 : decode cX8_conflicts 41 = .ok (.getfield 114, 3) := by decide +kernel
theorem dX8_conflicts_44 : decode cX8_conflicts 44 = .ok (.iload_n 2, 1) := by decide +kernel
theorem dX8_conflicts_45 : decode cX8_conflicts 45 = .ok (.iaload, 1) := by decide +kernel
theorem dX8_conflicts_46 : decode cX8_conflicts 46 = .ok (.if_icmp .ge 9, 3) := by decide +kernel
theorem dX8_conflicts_49 : decode cX8_conflicts 49 = .ok (.iload_n 1, 1) := by decide +kernel
theorem dX8_conflicts_50 : decode cX8_conflicts 50 = .ok (.iconst 1, 1) := by decide +kernel
theorem dX8_conflicts_51 : decode cX8_conflicts 51 = .ok (.iload_n 2, 1) := by decide +kernel
theorem dX8_conflicts_52 : decode cX8_conflicts 52 = .ok (.ishl, 1) := by decide +kernel
theorem dX8_conflicts_53 : decode cX8_conflicts 53 = .ok (.ior, 1) := by decide +kernel
theorem dX8_conflicts_54 : decode cX8_conflicts 54 = .ok (.istore_n 1, 1) := by decide +kernel
theorem dX8_conflicts_55 : decode cX8_conflicts 55 = .ok (.iinc 2 1, 3) := by decide +kernel
theorem dX8_conflicts_58 : decode cX8_conflicts 58 = .ok (.goto (-54), 3) := by decide +kernel
theorem dX8_conflicts_61 : decode cX8_conflicts 61 = .ok (.iload_n 1, 1) := by decide +kernel
theorem dX8_conflicts_62 : decode cX8_conflicts 62 = .ok (.ireturn, 1) := by decide +kernel
theorem dX8_guess_0 : decode cX8_guess 0 = .ok (.iload_n 1, 1) := by decide +kernel
theorem dX8_guess_1 : decode cX8_guess 1 = .ok (.iconst 0, 1) := by decide +kernel
theorem dX8_guess_2 : decode cX8_guess 2 = .ok (.iconst 3, 1) := by decide +kernel
theorem dX8_guess_3 : decode cX8_guess 3 = .ok (.invokestatic 72, 3) := by decide +kernel
theorem dX8_guess_6 : decode cX8_guess 6 = .ok (.invokestatic 76, 3) := by decide +kernel
theorem dX8_guess_9 : decode cX8_guess 9 = .ok (.iload_n 2, 1) := by decide +kernel
theorem dX8_guess_10 : decode cX8_guess 10 = .ok (.iconst (-1), 1) := by decide +kernel
theorem dX8_guess_11 : decode cX8_guess 11 = .ok (.aload_n 0, 1) := by decide +kernel
theorem dX8_guess_12 : decode cX8_guess 12 = .ok (.getfield 10, 3) := by decide +kernel
theorem dX8_guess_15 : decode cX8_guess 15 = .ok (.getfield 87, 3) := by decide +kernel
theorem dX8_guess_18 : decode cX8_guess 18 = .ok (.iconst 1, 1) := by decide +kernel
theorem dX8_guess_19 : decode cX8_guess 19 = .ok (.isub, 1) := by decide +kernel
theorem dX8_guess_20 : decode cX8_guess 20 = .ok (.invokestatic 72, 3) := by decide +kernel
theorem dX8_guess_23 : decode cX8_guess 23 = .ok (.invokestatic 96, 3) := by decide +kernel
theorem dX8_guess_26 : decode cX8_guess 26 = .ok (.iload_n 2, 1) := by decide +kernel
theorem dX8_guess_27 : decode cX8_guess 27 = .ok (.ifCond .ge 15, 3) := by decide +kernel
theorem dX8_guess_30 : decode cX8_guess 30 = .ok (.aload_n 0, 1) := by decide +kernel
theorem dX8_guess_31 : decode cX8_guess 31 = .ok (.getfield 21, 3) := by decide +kernel
theorem dX8_guess_34 : decode cX8_guess 34 = .ok (.getfield 252, 3) := by decide +kernel
theorem dX8_guess_37 : decode cX8_guess 37 = .ok (.iload_n 1, 1) := by decide +kernel
theorem dX8_guess_38 : decode cX8_guess 38 = .ok (.iaload, 1) := by decide +kernel
theorem dX8_guess_39 : decode cX8_guess 39 = .ok (.goto 14, 3) := by decide +kernel
theorem dX8_guess_42 : decode cX8_guess 42 = .ok (.aload_n 0, 1) := by decide +kernel
theorem dX8_guess_43 : decode cX8_guess 43 = .ok (.getfield 21, 3) := by decide +kernel
theorem dX8_guess_46 : decode cX8_guess 46 = .ok (.getfield 255, 3) := by decide +kernel
theorem dX8_guess_49 : decode cX8_guess 49 = .ok (.iload_n 1, 1) := by decide +kernel
theorem dX8_guess_50 : decode cX8_guess 50 = .ok (.aaload, 1) := by decide +kernel
theorem dX8_guess_51 : decode cX8_guess 51 = .ok (.iload_n 2, 1) := by decide +kernel
theorem dX8_guess_52 : decode cX8_guess 52 = .ok (.iaload, 1) := by decide +kernel
theorem dX8_guess_53 : decode cX8_guess 53 = .ok (.ireturn, 1) := by decide +kernel
theorem dX8_autoWidth_0 : decode cX8_autoWidth 0 = .ok (.aload_n 0, 1) := by decide +kernel
theorem dX8_autoWidth_1 : decode cX8_autoWidth 1 = .ok (.iload_n 1, 1) := by decide +kernel
theorem dX8_autoWidth_2 : decode cX8_autoWidth 2 = .ok (.invokevirtual 108, 3) := by decide +kernel
theorem dX8_autoWidth_5 : decode cX8_autoWidth 5 = .ok (.aload_n 0, 1) := by decide +kernel
theorem dX8_autoWidth_6 : decode cX8_autoWidth 6 = .ok (.invokevirtual 259, 3) := by decide +kernel
theorem dX8_autoWidth_9 : decode cX8_autoWidth 9 = .ok (.iload_n 1, 1) := by decide +kernel
theorem dX8_autoWidth_10 : decode cX8_autoWidth 10 = .ok (.iaload, 1) := by decide +kernel
theorem dX8_autoWidth_11 : decode cX8_autoWidth 11 = .ok (.ireturn, 1) := by decide +kernel
theorem dX8_autoHeight_0 : decode cX8_autoHeight 0 = .ok (.aload_n 0, 1) := by decide +kernel
theorem dX8_autoHeight_1 : decode cX8_autoHeight 1 = .ok (.getfield 10, 3) := by decide +kernel
theorem dX8_autoHeight_4 : decode cX8_autoHeight 4 = .ok (.aload_n 0, 1) := by decide +kernel
theorem dX8_autoHeight_5 : decode cX8_autoHeight 5 = .ok (.invokevirtual 259, 3) := by decide +kernel
theorem dX8_autoHeight_8 : decode cX8_autoHeight 8 = .ok (.invokevirtual 263, 3) := by decide +kernel
theorem dX8_autoHeight_11 : decode cX8_autoHeight 11 = .ok (.ireturn, 1) := by decide +kernel
theorem dX8_bestWidth_0 : decode cX8_bestWidth 0 = .ok (.aload_n 0, 1) := by decide +kernel
theorem dX8_bestWidth_1 : decode cX8_bestWidth 1 = .ok (.iload_n 1, 1) := by decide +kernel
theorem dX8_bestWidth_2 : decode cX8_bestWidth 2 = .ok (.invokevirtual 108, 3) := by decide +kernel
theorem dX8_bestWidth_5 : decode cX8_bestWidth 5 = .ok (.aload_n 0, 1) := by decide +kernel
theorem dX8_bestWidth_6 : decode cX8_bestWidth 6 = .ok (.invokevirtual 267, 3) := by decide +kernel
theorem dX8_bestWidth_9 : decode cX8_bestWidth 9 = .ok (.iload_n 1, 1) := by decide +kernel
theorem dX8_bestWidth_10 : decode cX8_bestWidth 10 = .ok (.iaload, 1) := by decide +kernel
theorem dX8_bestWidth_11 : decode cX8_bestWidth 11 = .ok (.ireturn, 1) := by decide +kernel
theorem dX8_bestHeight_0 : decode cX8_bestHeight 0 = .ok (.aload_n 0, 1) := by decide +kernel
theorem dX8_bestHeight_1 : decode cX8_bestHeight 1 = .ok (.getfield 30, 3) := by decide +kernel
theorem dX8_bestHeight_4 : decode cX8_bestHeight 4 = .ok (.aload_n 0, 1) := by decide +kernel
theorem dX8_bestHeight_5 : decode cX8_bestHeight 5 = .ok (.getfield 10, 3) := by decide +kernel
theorem dX8_bestHeight_8 : decode cX8_bestHeight 8 = .ok (.getfield 99, 3) := by decide +kernel
theorem dX8_bestHeight_11 : decode cX8_bestHeight 11 = .ok (.invokevirtual 270, 3) := by decide +kernel
theorem dX8_bestHeight_14 : decode cX8_bestHeight 14 = .ok (.istore_n 1, 1) := by decide +kernel
theorem dX8_bestHeight_15 : decode cX8_bestHeight 15 = .ok (.iload_n 1, 1) := by decide +kernel
theorem dX8_bestHeight_16 : decode cX8_bestHeight 16 = .ok (.ifCond .lt 7, 3) := by decide +kernel
theorem dX8_bestHeight_19 : decode cX8_bestHeight 19 = .ok (.iconst 1, 1) := by decide +kernel
theorem dX8_bestHeight_20 : decode cX8_bestHeight 20 = .ok (.goto 4, 3) := by decide +kernel
theorem dX8_bestHeight_23 : decode cX8_bestHeight 23 = .ok (.iconst 0, 1) := by decide +kernel
theorem dX8_bestHeight_24 : decode cX8_bestHeight 24 = .ok (.invokestatic 84, 3) := by decide +kernel
theorem dX8_bestHeight_27 : decode cX8_bestHeight 27 = .ok (.iload_n 1, 1) := by decide +kernel
theorem dX8_bestHeight_28 : decode cX8_bestHeight 28 = .ok (.ireturn, 1) := by decide +kernel
theorem dX8_rowHeight_0 : decode cX8_rowHeight 0 = .ok (.aload_n 0, 1) := by decide +kernel
theorem dX8_rowHeight_1 : decode cX8_rowHeight 1 = .ok (.iload_n 1, 1) := by decide +kernel
theorem dX8_rowHeight_2 : decode cX8_rowHeight 2 = .ok (.invokevirtual 124, 3) := by decide +kernel
theorem dX8_rowHeight_5 : decode cX8_rowHeight 5 = .ok (.aload_n 0, 1) := by decide +kernel
theorem dX8_rowHeight_6 : decode cX8_rowHeight 6 = .ok (.getfield 10, 3) := by decide +kernel
theorem dX8_rowHeight_9 : decode cX8_rowHeight 9 = .ok (.iload_n 1, 1) := by decide +kernel
theorem dX8_rowHeight_10 : decode cX8_rowHeight 10 = .ok (.iload_n 2, 1) := by decide +kernel
theorem dX8_rowHeight_11 : decode cX8_rowHeight 11 = .ok (.ifCond .eq 10, 3) := by decide +kernel
theorem dX8_rowHeight_14 : decode cX8_rowHeight 14 = .ok (.aload_n 0, 1) := by decide +kernel
theorem dX8_rowHeight_15 : decode cX8_rowHeight 15 = .ok (.invokevirtual 267, 3) := by decide +kernel
theorem dX8_rowHeight_18 : decode cX8_rowHeight 18 = .ok (.goto 7, 3) := by decide +kernel
theorem dX8_rowHeight_21 : decode cX8_rowHeight 21 = .ok (.aload_n 0, 1) := by decide +kernel
theorem dX8_rowHeight_22 : decode cX8_rowHeight 22 = .ok (.invokevirtual 259, 3) := by decide +kernel
theorem dX8_rowHeight_25 : decode cX8_rowHeight 25 = .ok (.invokevirtual 273, 3) := by decide +kernel
theorem dX8_rowHeight_28 : decode cX8_rowHeight 28 = .ok (.ireturn, 1) := by decide +kernel
theorem dX8_tallest_0 : decode cX8_tallest 0 = .ok (.aload_n 0, 1) := by decide +kernel
theorem dX8_tallest_1 : decode cX8_tallest 1 = .ok (.iload_n 1, 1) := by decide +kernel
theorem dX8_tallest_2 : decode cX8_tallest 2 = .ok (.invokevirtual 124, 3) := by decide +kernel
theorem dX8_tallest_5 : decode cX8_tallest 5 = .ok (.aload_n 0, 1) := by decide +kernel
theorem dX8_tallest_6 : decode cX8_tallest 6 = .ok (.invokevirtual 267, 3) := by decide +kernel
theorem dX8_tallest_9 : decode cX8_tallest 9 = .ok (.astore_n 2, 1) := by decide +kernel
theorem dX8_tallest_10 : decode cX8_tallest 10 = .ok (.aload_n 0, 1) := by decide +kernel
theorem dX8_tallest_11 : decode cX8_tallest 11 = .ok (.getfield 10, 3) := by decide +kernel
theorem dX8_tallest_14 : decode cX8_tallest 14 = .ok (.iload_n 1, 1) := by decide +kernel
theorem dX8_tallest_15 : decode cX8_tallest 15 = .ok (.aload_n 2, 1) := by decide +kernel
theorem dX8_tallest_16 : decode cX8_tallest 16 = .ok (.invokevirtual 273, 3) := by decide +kernel
theorem dX8_tallest_19 : decode cX8_tallest 19 = .ok (.istore_n 3, 1) := by decide +kernel
theorem dX8_tallest_20 : decode cX8_tallest 20 = .ok (.iconst (-1), 1) := by decide +kernel
theorem dX8_tallest_21 : decode cX8_tallest 21 = .ok (.istore 4, 2) := by decide +kernel
theorem dX8_tallest_23 : decode cX8_tallest 23 = .ok (.iconst 0, 1) := by decide +kernel
theorem dX8_tallest_24 : decode cX8_tallest 24 = .ok (.istore 5, 2) := by decide +kernel
theorem dX8_tallest_26 : decode cX8_tallest 26 = .ok (.iload 5, 2) := by decide +kernel
theorem dX8_tallest_28 : decode cX8_tallest 28 = .ok (.aload_n 0, 1) := by decide +kernel
theorem dX8_tallest_29 : decode cX8_tallest 29 = .ok (.getfield 10, 3) := by decide +kernel
theorem dX8_tallest_32 : decode cX8_tallest 32 = .ok (.getfield 80, 3) := by decide +kernel
theorem dX8_tallest_35 : decode cX8_tallest 35 = .ok (.if_icmp .ge 53, 3) := by decide +kernel
theorem dX8_tallest_38 : decode cX8_tallest 38 = .ok (.iload 4, 2) := by decide +kernel
theorem dX8_tallest_40 : decode cX8_tallest 40 = .ok (.ifCond .ge 48, 3) := by decide +kernel
theorem dX8_tallest_43 : decode cX8_tallest 43 = .ok (.aload_n 0, 1) := by decide +kernel
theorem dX8_tallest_44 : decode cX8_tallest 44 = .ok (.getfield 10, 3) := by decide +kernel
theorem dX8_tallest_47 : decode cX8_tallest 47 = .ok (.getfield 159, 3) := by decide +kernel
theorem dX8_tallest_50 : decode cX8_tallest 50 = .ok (.iload 5, 2) := by decide +kernel
theorem dX8_tallest_52 : decode cX8_tallest 52 = .ok (.aaload, 1) := by decide +kernel
theorem dX8_tallest_53 : decode cX8_tallest 53 = .ok (.astore 6, 2) := by decide +kernel
theorem dX8_tallest_55 : decode cX8_tallest 55 = .ok (.aload 6, 2) := by decide +kernel
theorem dX8_tallest_57 : decode cX8_tallest 57 = .ok (.getfield 205, 3) := by decide +kernel
theorem dX8_tallest_60 : decode cX8_tallest 60 = .ok (.iload_n 1, 1) := by decide +kernel
theorem dX8_tallest_61 : decode cX8_tallest 61 = .ok (.if_icmp .ne 21, 3) := by decide +kernel
theorem dX8_tallest_64 : decode cX8_tallest 64 = .ok (.aload_n 0, 1) := by decide +kernel
theorem dX8_tallest_65 : decode cX8_tallest 65 = .ok (.getfield 10, 3) := by decide +kernel
theorem dX8_tallest_68 : decode cX8_tallest 68 = .ok (.aload 6, 2) := by decide +kernel
theorem dX8_tallest_70 : decode cX8_tallest 70 = .ok (.aload_n 2, 1) := by decide +kernel
theorem dX8_tallest_71 : decode cX8_tallest 71 = .ok (.invokevirtual 277, 3) := by decide +kernel
theorem dX8_tallest_74 : decode cX8_tallest 74 = .ok (.iload_n 3, 1) := by decide +kernel
theorem dX8_tallest_75 : decode cX8_tallest 75 = .ok (.if_icmp .ne 7, 3) := by decide +kernel
theorem dX8_tallest_78 : decode cX8_tallest 78 = .ok (.iload 5, 2) := by decide +kernel
theorem dX8_tallest_80 : decode cX8_tallest 80 = .ok (.istore 4, 2) := by decide +kernel
theorem dX8_tallest_82 : decode cX8_tallest 82 = .ok (.iinc 5 1, 3) := by decide +kernel
theorem dX8_tallest_85 : decode cX8_tallest 85 = .ok (.goto (-59), 3) := by decide +kernel
theorem dX8_tallest_88 : decode cX8_tallest 88 = .ok (.iload 4, 2) := by decide +kernel
theorem dX8_tallest_90 : decode cX8_tallest 90 = .ok (.ifCond .lt 7, 3) := by decide +kernel
theorem dX8_tallest_93 : decode cX8_tallest 93 = .ok (.iconst 1, 1) := by decide +kernel
theorem dX8_tallest_94 : decode cX8_tallest 94 = .ok (.goto 4, 3) := by decide +kernel
theorem dX8_tallest_97 : decode cX8_tallest 97 = .ok (.iconst 0, 1) := by decide +kernel
theorem dX8_tallest_98 : decode cX8_tallest 98 = .ok (.invokestatic 233, 3) := by decide +kernel
theorem dX8_tallest_101 : decode cX8_tallest 101 = .ok (.iload 4, 2) := by decide +kernel
theorem dX8_tallest_103 : decode cX8_tallest 103 = .ok (.ireturn, 1) := by decide +kernel
theorem dX8_heightFor_0 : decode cX8_heightFor 0 = .ok (.aload_n 0, 1) := by decide +kernel
theorem dX8_heightFor_1 : decode cX8_heightFor 1 = .ok (.getfield 60, 3) := by decide +kernel
theorem dX8_heightFor_4 : decode cX8_heightFor 4 = .ok (.iconst 0, 1) := by decide +kernel
theorem dX8_heightFor_5 : decode cX8_heightFor 5 = .ok (.iload_n 1, 1) := by decide +kernel
theorem dX8_heightFor_6 : decode cX8_heightFor 6 = .ok (.iastore, 1) := by decide +kernel
theorem dX8_heightFor_7 : decode cX8_heightFor 7 = .ok (.aload_n 0, 1) := by decide +kernel
theorem dX8_heightFor_8 : decode cX8_heightFor 8 = .ok (.getfield 60, 3) := by decide +kernel
theorem dX8_heightFor_11 : decode cX8_heightFor 11 = .ok (.iconst 1, 1) := by decide +kernel
theorem dX8_heightFor_12 : decode cX8_heightFor 12 = .ok (.iload_n 2, 1) := by decide +kernel
theorem dX8_heightFor_13 : decode cX8_heightFor 13 = .ok (.iastore, 1) := by decide +kernel
theorem dX8_heightFor_14 : decode cX8_heightFor 14 = .ok (.aload_n 0, 1) := by decide +kernel
theorem dX8_heightFor_15 : decode cX8_heightFor 15 = .ok (.getfield 60, 3) := by decide +kernel
theorem dX8_heightFor_18 : decode cX8_heightFor 18 = .ok (.iconst 2, 1) := by decide +kernel
theorem dX8_heightFor_19 : decode cX8_heightFor 19 = .ok (.iload_n 3, 1) := by decide +kernel
theorem dX8_heightFor_20 : decode cX8_heightFor 20 = .ok (.iastore, 1) := by decide +kernel
theorem dX8_heightFor_21 : decode cX8_heightFor 21 = .ok (.aload_n 0, 1) := by decide +kernel
theorem dX8_heightFor_22 : decode cX8_heightFor 22 = .ok (.getfield 60, 3) := by decide +kernel
theorem dX8_heightFor_25 : decode cX8_heightFor 25 = .ok (.iconst 3, 1) := by decide +kernel
theorem dX8_heightFor_26 : decode cX8_heightFor 26 = .ok (.iload 4, 2) := by decide +kernel
theorem dX8_heightFor_28 : decode cX8_heightFor 28 = .ok (.iastore, 1) := by decide +kernel
theorem dX8_heightFor_29 : decode cX8_heightFor 29 = .ok (.iconst 0, 1) := by decide +kernel
theorem dX8_heightFor_30 : decode cX8_heightFor 30 = .ok (.istore 5, 2) := by decide +kernel
theorem dX8_heightFor_32 : decode cX8_heightFor 32 = .ok (.iload 5, 2) := by decide +kernel
theorem dX8_heightFor_34 : decode cX8_heightFor 34 = .ok (.aload_n 0, 1) := by decide +kernel
theorem dX8_heightFor_35 : decode cX8_heightFor 35 = .ok (.getfield 10, 3) := by decide +kernel
theorem dX8_heightFor_38 : decode cX8_heightFor 38 = .ok (.getfield 87, 3) := by decide +kernel
theorem dX8_heightFor_41 : decode cX8_heightFor 41 = .ok (.if_icmp .ge 34, 3) := by decide +kernel
theorem dX8_heightFor_44 : decode cX8_heightFor 44 = .ok (.aload_n 0, 1) := by decide +kernel
theorem dX8_heightFor_45 : decode cX8_heightFor 45 = .ok (.getfield 60, 3) := by decide +kernel
theorem dX8_heightFor_48 : decode cX8_heightFor 48 = .ok (.iload 5, 2) := by decide +kernel
theorem dX8_heightFor_50 : decode cX8_heightFor 50 = .ok (.iaload, 1) := by decide +kernel
theorem dX8_heightFor_51 : decode cX8_heightFor 51 = .ok (.aload_n 0, 1) := by decide +kernel
theorem dX8_heightFor_52 : decode cX8_heightFor 52 = .ok (.getfield 21, 3) := by decide +kernel
theorem dX8_heightFor_55 : decode cX8_heightFor 55 = .ok (.getfield 243, 3) := by decide +kernel
theorem dX8_heightFor_58 : decode cX8_heightFor 58 = .ok (.iload 5, 2) := by decide +kernel
theorem dX8_heightFor_60 : decode cX8_heightFor 60 = .ok (.iaload, 1) := by decide +kernel
theorem dX8_heightFor_61 : decode cX8_heightFor 61 = .ok (.bipush 36, 2) := by decide +kernel
theorem dX8_heightFor_63 : decode cX8_heightFor 63 = .ok (.invokestatic 72, 3) := by decide +kernel
theorem dX8_heightFor_66 : decode cX8_heightFor 66 = .ok (.invokestatic 76, 3) := by decide +kernel
theorem dX8_heightFor_69 : decode cX8_heightFor 69 = .ok (.iinc 5 1, 3) := by decide +kernel
theorem dX8_heightFor_72 : decode cX8_heightFor 72 = .ok (.goto (-40), 3) := by decide +kernel
theorem dX8_heightFor_75 : decode cX8_heightFor 75 = .ok (.aload_n 0, 1) := by decide +kernel
theorem dX8_heightFor_76 : decode cX8_heightFor 76 = .ok (.getfield 10, 3) := by decide +kernel
theorem dX8_heightFor_79 : decode cX8_heightFor 79 = .ok (.aload_n 0, 1) := by decide +kernel
theorem dX8_heightFor_80 : decode cX8_heightFor 80 = .ok (.getfield 60, 3) := by decide +kernel
theorem dX8_heightFor_83 : decode cX8_heightFor 83 = .ok (.invokevirtual 263, 3) := by decide +kernel
theorem dX8_heightFor_86 : decode cX8_heightFor 86 = .ok (.ireturn, 1) := by decide +kernel
theorem dX8_heightAt_0 : decode cX8_heightAt 0 = .ok (.iload_n 1, 1) := by decide +kernel
theorem dX8_heightAt_1 : decode cX8_heightAt 1 = .ok (.bipush 8, 2) := by decide +kernel
theorem dX8_heightAt_3 : decode cX8_heightAt 3 = .ok (.bipush 36, 2) := by decide +kernel
theorem dX8_heightAt_5 : decode cX8_heightAt 5 = .ok (.invokestatic 72, 3) := by decide +kernel
theorem dX8_heightAt_8 : decode cX8_heightAt 8 = .ok (.invokestatic 76, 3) := by decide +kernel
theorem dX8_heightAt_11 : decode cX8_heightAt 11 = .ok (.aload_n 0, 1) := by decide +kernel
theorem dX8_heightAt_12 : decode cX8_heightAt 12 = .ok (.getfield 30, 3) := by decide +kernel
theorem dX8_heightAt_15 : decode cX8_heightAt 15 = .ok (.iload_n 1, 1) := by decide +kernel
theorem dX8_heightAt_16 : decode cX8_heightAt 16 = .ok (.invokevirtual 270, 3) := by decide +kernel
theorem dX8_heightAt_19 : decode cX8_heightAt 19 = .ok (.istore_n 2, 1) := by decide +kernel
theorem dX8_heightAt_20 : decode cX8_heightAt 20 = .ok (.iload_n 2, 1) := by decide +kernel
theorem dX8_heightAt_21 : decode cX8_heightAt 21 = .ok (.ifCond .lt 7, 3) := by decide +kernel
theorem dX8_heightAt_24 : decode cX8_heightAt 24 = .ok (.iconst 1, 1) := by decide +kernel
theorem dX8_heightAt_25 : decode cX8_heightAt 25 = .ok (.goto 4, 3) := by decide +kernel
theorem dX8_heightAt_28 : decode cX8_heightAt 28 = .ok (.iconst 0, 1) := by decide +kernel
theorem dX8_heightAt_29 : decode cX8_heightAt 29 = .ok (.invokestatic 233, 3) := by decide +kernel
theorem dX8_heightAt_32 : decode cX8_heightAt 32 = .ok (.iload_n 2, 1) := by decide +kernel
theorem dX8_heightAt_33 : decode cX8_heightAt 33 = .ok (.ireturn, 1) := by decide +kernel
theorem dX8_narrowest_0 : decode cX8_narrowest 0 = .ok (.bipush 8, 2) := by decide +kernel
theorem dX8_narrowest_2 : decode cX8_narrowest 2 = .ok (.istore_n 2, 1) := by decide +kernel
theorem dX8_narrowest_3 : decode cX8_narrowest 3 = .ok (.iload_n 2, 1) := by decide +kernel
theorem dX8_narrowest_4 : decode cX8_narrowest 4 = .ok (.bipush 36, 2) := by decide +kernel
theorem dX8_narrowest_6 : decode cX8_narrowest 6 = .ok (.if_icmp .gt 29, 3) := by decide +kernel
theorem dX8_narrowest_9 : decode cX8_narrowest 9 = .ok (.aload_n 0, 1) := by decide +kernel
theorem dX8_narrowest_10 : decode cX8_narrowest 10 = .ok (.getfield 30, 3) := by decide +kernel
theorem dX8_narrowest_13 : decode cX8_narrowest 13 = .ok (.iload_n 2, 1) := by decide +kernel
theorem dX8_narrowest_14 : decode cX8_narrowest 14 = .ok (.invokevirtual 270, 3) := by decide +kernel
theorem dX8_narrowest_17 : decode cX8_narrowest 17 = .ok (.istore_n 3, 1) := by decide +kernel
theorem dX8_narrowest_18 : decode cX8_narrowest 18 = .ok (.iload_n 3, 1) := by decide +kernel
theorem dX8_narrowest_19 : decode cX8_narrowest 19 = .ok (.ifCond .lt 10, 3) := by decide +kernel
theorem dX8_narrowest_22 : decode cX8_narrowest 22 = .ok (.iload_n 3, 1) := by decide +kernel
theorem dX8_narrowest_23 : decode cX8_narrowest 23 = .ok (.iload_n 1, 1) := by decide +kernel
theorem dX8_narrowest_24 : decode cX8_narrowest 24 = .ok (.if_icmp .gt 5, 3) := by decide +kernel
theorem dX8_narrowest_27 : decode cX8_narrowest 27 = .ok (.iload_n 2, 1) := by decide +kernel
theorem dX8_narrowest_28 : decode cX8_narrowest 28 = .ok (.ireturn, 1) := by decide +kernel
theorem dX8_narrowest_29 : decode cX8_narrowest 29 = .ok (.iinc 2 1, 3) := by decide +kernel
theorem dX8_narrowest_32 : decode cX8_narrowest 32 = .ok (.goto (-29), 3) := by decide +kernel
theorem dX8_narrowest_35 : decode cX8_narrowest 35 = .ok (.new 281, 3) := by decide +kernel
theorem dX8_narrowest_38 : decode cX8_narrowest 38 = .ok (.dup, 1) := by decide +kernel
theorem dX8_narrowest_39 : decode cX8_narrowest 39 = .ok (.invokespecial 283, 3) := by decide +kernel
theorem dX8_narrowest_42 : decode cX8_narrowest 42 = .ok (.athrow, 1) := by decide +kernel
theorem dX8_improvements_0 : decode cX8_improvements 0 = .ok (.iconst 0, 1) := by decide +kernel
theorem dX8_improvements_1 : decode cX8_improvements 1 = .ok (.istore_n 1, 1) := by decide +kernel
theorem dX8_improvements_2 : decode cX8_improvements 2 = .ok (.bipush 8, 2) := by decide +kernel
theorem dX8_improvements_4 : decode cX8_improvements 4 = .ok (.istore_n 2, 1) := by decide +kernel
theorem dX8_improvements_5 : decode cX8_improvements 5 = .ok (.iload_n 2, 1) := by decide +kernel
theorem dX8_improvements_6 : decode cX8_improvements 6 = .ok (.bipush 36, 2) := by decide +kernel
theorem dX8_improvements_8 : decode cX8_improvements 8 = .ok (.if_icmp .gt 25, 3) := by decide +kernel
theorem dX8_improvements_11 : decode cX8_improvements 11 = .ok (.iload_n 1, 1) := by decide +kernel
theorem dX8_improvements_12 : decode cX8_improvements 12 = .ok (.aload_n 0, 1) := by decide +kernel
theorem dX8_improvements_13 : decode cX8_improvements 13 = .ok (.iload_n 2, 1) := by decide +kernel
theorem dX8_improvements_14 : decode cX8_improvements 14 = .ok (.invokevirtual 284, 3) := by decide +kernel
theorem dX8_improvements_17 : decode cX8_improvements 17 = .ok (.ifCond .eq 7, 3) := by decide +kernel
theorem dX8_improvements_20 : decode cX8_improvements 20 = .ok (.iconst 1, 1) := by decide +kernel
theorem dX8_improvements_21 : decode cX8_improvements 21 = .ok (.goto 4, 3) := by decide +kernel
theorem dX8_improvements_24 : decode cX8_improvements 24 = .ok (.iconst 0, 1) := by decide +kernel
theorem dX8_improvements_25 : decode cX8_improvements 25 = .ok (.iadd, 1) := by decide +kernel
theorem dX8_improvements_26 : decode cX8_improvements 26 = .ok (.istore_n 1, 1) := by decide +kernel
theorem dX8_improvements_27 : decode cX8_improvements 27 = .ok (.iinc 2 1, 3) := by decide +kernel
theorem dX8_improvements_30 : decode cX8_improvements 30 = .ok (.goto (-25), 3) := by decide +kernel
theorem dX8_improvements_33 : decode cX8_improvements 33 = .ok (.iload_n 1, 1) := by decide +kernel
theorem dX8_improvements_34 : decode cX8_improvements 34 = .ok (.ireturn, 1) := by decide +kernel
theorem dX8_improvement_0 : decode cX8_improvement 0 = .ok (.iconst 0, 1) := by decide +kernel
theorem dX8_improvement_1 : decode cX8_improvement 1 = .ok (.istore_n 2, 1) := by decide +kernel
theorem dX8_improvement_2 : decode cX8_improvement 2 = .ok (.bipush 8, 2) := by decide +kernel
theorem dX8_improvement_4 : decode cX8_improvement 4 = .ok (.istore_n 3, 1) := by decide +kernel
theorem dX8_improvement_5 : decode cX8_improvement 5 = .ok (.iload_n 3, 1) := by decide +kernel
theorem dX8_improvement_6 : decode cX8_improvement 6 = .ok (.bipush 36, 2) := by decide +kernel
theorem dX8_improvement_8 : decode cX8_improvement 8 = .ok (.if_icmp .gt 27, 3) := by decide +kernel
theorem dX8_improvement_11 : decode cX8_improvement 11 = .ok (.aload_n 0, 1) := by decide +kernel
theorem dX8_improvement_12 : decode cX8_improvement 12 = .ok (.iload_n 3, 1) := by decide +kernel
theorem dX8_improvement_13 : decode cX8_improvement 13 = .ok (.invokevirtual 284, 3) := by decide +kernel
theorem dX8_improvement_16 : decode cX8_improvement 16 = .ok (.ifCond .eq 13, 3) := by decide +kernel
theorem dX8_improvement_19 : decode cX8_improvement 19 = .ok (.iload_n 2, 1) := by decide +kernel
theorem dX8_improvement_20 : decode cX8_improvement 20 = .ok (.iload_n 1, 1) := by decide +kernel
theorem dX8_improvement_21 : decode cX8_improvement 21 = .ok (.if_icmp .ne 5, 3) := by decide +kernel
theorem dX8_improvement_24 : decode cX8_improvement 24 = .ok (.iload_n 3, 1) := by decide +kernel
theorem dX8_improvement_25 : decode cX8_improvement 25 = .ok (.ireturn, 1) := by decide +kernel
theorem dX8_improvement_26 : decode cX8_improvement 26 = .ok (.iinc 2 1, 3) := by decide +kernel
theorem dX8_improvement_29 : decode cX8_improvement 29 = .ok (.iinc 3 1, 3) := by decide +kernel
theorem dX8_improvement_32 : decode cX8_improvement 32 = .ok (.goto (-27), 3) := by decide +kernel
theorem dX8_improvement_35 : decode cX8_improvement 35 = .ok (.new 281, 3) := by decide +kernel
theorem dX8_improvement_38 : decode cX8_improvement 38 = .ok (.dup, 1) := by decide +kernel
theorem dX8_improvement_39 : decode cX8_improvement 39 = .ok (.invokespecial 283, 3) := by decide +kernel
theorem dX8_improvement_42 : decode cX8_improvement 42 = .ok (.athrow, 1) := by decide +kernel
theorem dX8_critical_0 : decode cX8_critical 0 = .ok (.aload_n 0, 1) := by decide +kernel
theorem dX8_critical_1 : decode cX8_critical 1 = .ok (.getfield 30, 3) := by decide +kernel
theorem dX8_critical_4 : decode cX8_critical 4 = .ok (.aload_n 0, 1) := by decide +kernel
theorem dX8_critical_5 : decode cX8_critical 5 = .ok (.getfield 10, 3) := by decide +kernel
theorem dX8_critical_8 : decode cX8_critical 8 = .ok (.getfield 99, 3) := by decide +kernel
theorem dX8_critical_11 : decode cX8_critical 11 = .ok (.invokevirtual 270, 3) := by decide +kernel
theorem dX8_critical_14 : decode cX8_critical 14 = .ok (.istore_n 1, 1) := by decide +kernel
theorem dX8_critical_15 : decode cX8_critical 15 = .ok (.iload_n 1, 1) := by decide +kernel
theorem dX8_critical_16 : decode cX8_critical 16 = .ok (.ifCond .lt 7, 3) := by decide +kernel
theorem dX8_critical_19 : decode cX8_critical 19 = .ok (.iconst 1, 1) := by decide +kernel
theorem dX8_critical_20 : decode cX8_critical 20 = .ok (.goto 4, 3) := by decide +kernel
theorem dX8_critical_23 : decode cX8_critical 23 = .ok (.iconst 0, 1) := by decide +kernel
theorem dX8_critical_24 : decode cX8_critical 24 = .ok (.invokestatic 84, 3) := by decide +kernel
theorem dX8_critical_27 : decode cX8_critical 27 = .ok (.iconst (-1), 1) := by decide +kernel
theorem dX8_critical_28 : decode cX8_critical 28 = .ok (.istore_n 2, 1) := by decide +kernel
theorem dX8_critical_29 : decode cX8_critical 29 = .ok (.iconst 0, 1) := by decide +kernel
theorem dX8_critical_30 : decode cX8_critical 30 = .ok (.istore_n 3, 1) := by decide +kernel
theorem dX8_critical_31 : decode cX8_critical 31 = .ok (.iload_n 3, 1) := by decide +kernel
theorem dX8_critical_32 : decode cX8_critical 32 = .ok (.aload_n 0, 1) := by decide +kernel
theorem dX8_critical_33 : decode cX8_critical 33 = .ok (.getfield 10, 3) := by decide +kernel
theorem dX8_critical_36 : decode cX8_critical 36 = .ok (.getfield 80, 3) := by decide +kernel
theorem dX8_critical_39 : decode cX8_critical 39 = .ok (.if_icmp .ge 45, 3) := by decide +kernel
theorem dX8_critical_42 : decode cX8_critical 42 = .ok (.aload_n 0, 1) := by decide +kernel
theorem dX8_critical_43 : decode cX8_critical 43 = .ok (.getfield 34, 3) := by decide +kernel
theorem dX8_critical_46 : decode cX8_critical 46 = .ok (.aload_n 0, 1) := by decide +kernel
theorem dX8_critical_47 : decode cX8_critical 47 = .ok (.getfield 10, 3) := by decide +kernel
theorem dX8_critical_50 : decode cX8_critical 50 = .ok (.invokevirtual 195, 3) := by decide +kernel
theorem dX8_critical_53 : decode cX8_critical 53 = .ok (.aload_n 0, 1) := by decide +kernel
theorem dX8_critical_54 : decode cX8_critical 54 = .ok (.getfield 34, 3) := by decide +kernel
theorem dX8_critical_57 : decode cX8_critical 57 = .ok (.iload_n 3, 1) := by decide +kernel
theorem dX8_critical_58 : decode cX8_critical 58 = .ok (.invokevirtual 142, 3) := by decide +kernel
theorem dX8_critical_61 : decode cX8_critical 61 = .ok (.aload_n 0, 1) := by decide +kernel
theorem dX8_critical_62 : decode cX8_critical 62 = .ok (.iload_n 1, 1) := by decide +kernel
theorem dX8_critical_63 : decode cX8_critical 63 = .ok (.invokevirtual 287, 3) := by decide +kernel
theorem dX8_critical_66 : decode cX8_critical 66 = .ok (.istore 4, 2) := by decide +kernel
theorem dX8_critical_68 : decode cX8_critical 68 = .ok (.iload 4, 2) := by decide +kernel
theorem dX8_critical_70 : decode cX8_critical 70 = .ok (.ifCond .lt 8, 3) := by decide +kernel
theorem dX8_critical_73 : decode cX8_critical 73 = .ok (.iload 4, 2) := by decide +kernel
theorem dX8_critical_75 : decode cX8_critical 75 = .ok (.istore_n 1, 1) := by decide +kernel
theorem dX8_critical_76 : decode cX8_critical 76 = .ok (.iload_n 3, 1) := by decide +kernel
theorem dX8_critical_77 : decode cX8_critical 77 = .ok (.istore_n 2, 1) := by decide +kernel
theorem dX8_critical_78 : decode cX8_critical 78 = .ok (.iinc 3 1, 3) := by decide +kernel
theorem dX8_critical_81 : decode cX8_critical 81 = .ok (.goto (-50), 3) := by decide +kernel
theorem dX8_critical_84 : decode cX8_critical 84 = .ok (.iload_n 2, 1) := by decide +kernel
theorem dX8_critical_85 : decode cX8_critical 85 = .ok (.ifCond .lt 7, 3) := by decide +kernel
theorem dX8_critical_88 : decode cX8_critical 88 = .ok (.iconst 1, 1) := by decide +kernel
theorem dX8_critical_89 : decode cX8_critical 89 = .ok (.goto 4, 3) := by decide +kernel
theorem dX8_critical_92 : decode cX8_critical 92 = .ok (.iconst 0, 1) := by decide +kernel
theorem dX8_critical_93 : decode cX8_critical 93 = .ok (.invokestatic 233, 3) := by decide +kernel
theorem dX8_critical_96 : decode cX8_critical 96 = .ok (.iload_n 2, 1) := by decide +kernel
theorem dX8_critical_97 : decode cX8_critical 97 = .ok (.ireturn, 1) := by decide +kernel
theorem dX8_costOfWord_0 : decode cX8_costOfWord 0 = .ok (.aload_n 0, 1) := by decide +kernel
theorem dX8_costOfWord_1 : decode cX8_costOfWord 1 = .ok (.iload_n 1, 1) := by decide +kernel
theorem dX8_costOfWord_2 : decode cX8_costOfWord 2 = .ok (.invokevirtual 145, 3) := by decide +kernel
theorem dX8_costOfWord_5 : decode cX8_costOfWord 5 = .ok (.astore_n 3, 1) := by decide +kernel
theorem dX8_costOfWord_6 : decode cX8_costOfWord 6 = .ok (.iload_n 2, 1) := by decide +kernel
theorem dX8_costOfWord_7 : decode cX8_costOfWord 7 = .ok (.iconst 1, 1) := by decide +kernel
theorem dX8_costOfWord_8 : decode cX8_costOfWord 8 = .ok (.bipush 12, 2) := by decide +kernel
theorem dX8_costOfWord_10 : decode cX8_costOfWord 10 = .ok (.invokestatic 72, 3) := by decide +kernel
theorem dX8_costOfWord_13 : decode cX8_costOfWord 13 = .ok (.invokestatic 76, 3) := by decide +kernel
theorem dX8_costOfWord_16 : decode cX8_costOfWord 16 = .ok (.aload_n 3, 1) := by decide +kernel
theorem dX8_costOfWord_17 : decode cX8_costOfWord 17 = .ok (.getfield 149, 3) := by decide +kernel
theorem dX8_costOfWord_20 : decode cX8_costOfWord 20 = .ok (.bipush 12, 2) := by decide +kernel
theorem dX8_costOfWord_22 : decode cX8_costOfWord 22 = .ok (.if_icmp .ge 7, 3) := by decide +kernel
theorem dX8_costOfWord_25 : decode cX8_costOfWord 25 = .ok (.iconst 1, 1) := by decide +kernel
theorem dX8_costOfWord_26 : decode cX8_costOfWord 26 = .ok (.goto 4, 3) := by decide +kernel
theorem dX8_costOfWord_29 : decode cX8_costOfWord 29 = .ok (.iconst 0, 1) := by decide +kernel
theorem dX8_costOfWord_30 : decode cX8_costOfWord 30 = .ok (.invokestatic 84, 3) := by decide +kernel
theorem dX8_costOfWord_33 : decode cX8_costOfWord 33 = .ok (.aload_n 0, 1) := by decide +kernel
theorem dX8_costOfWord_34 : decode cX8_costOfWord 34 = .ok (.getfield 30, 3) := by decide +kernel
theorem dX8_costOfWord_37 : decode cX8_costOfWord 37 = .ok (.aload_n 0, 1) := by decide +kernel
theorem dX8_costOfWord_38 : decode cX8_costOfWord 38 = .ok (.getfield 10, 3) := by decide +kernel
theorem dX8_costOfWord_41 : decode cX8_costOfWord 41 = .ok (.getfield 99, 3) := by decide +kernel
theorem dX8_costOfWord_44 : decode cX8_costOfWord 44 = .ok (.invokevirtual 270, 3) := by decide +kernel
theorem dX8_costOfWord_47 : decode cX8_costOfWord 47 = .ok (.istore 4, 2) := by decide +kernel
theorem dX8_costOfWord_49 : decode cX8_costOfWord 49 = .ok (.iload 4, 2) := by decide +kernel
theorem dX8_costOfWord_51 : decode cX8_costOfWord 51 = .ok (.ifCond .lt 7, 3) := by decide +kernel
theorem dX8_costOfWord_54 : decode cX8_costOfWord 54 = .ok (.iconst 1, 1) := by decide +kernel
theorem dX8_costOfWord_55 : decode cX8_costOfWord 55 = .ok (.goto 4, 3) := by decide +kernel
theorem dX8_costOfWord_58 : decode cX8_costOfWord 58 = .ok (.iconst 0, 1) := by decide +kernel
theorem dX8_costOfWord_59 : decode cX8_costOfWord 59 = .ok (.invokestatic 84, 3) := by decide +kernel
theorem dX8_costOfWord_62 : decode cX8_costOfWord 62 = .ok (.aload_n 0, 1) := by decide +kernel
theorem dX8_costOfWord_63 : decode cX8_costOfWord 63 = .ok (.getfield 34, 3) := by decide +kernel
theorem dX8_costOfWord_66 : decode cX8_costOfWord 66 = .ok (.aload_n 0, 1) := by decide +kernel
theorem dX8_costOfWord_67 : decode cX8_costOfWord 67 = .ok (.getfield 10, 3) := by decide +kernel
theorem dX8_costOfWord_70 : decode cX8_costOfWord 70 = .ok (.invokevirtual 195, 3) := by decide +kernel
theorem dX8_costOfWord_73 : decode cX8_costOfWord 73 = .ok (.aload_n 0, 1) := by decide +kernel
theorem dX8_costOfWord_74 : decode cX8_costOfWord 74 = .ok (.getfield 34, 3) := by decide +kernel
theorem dX8_costOfWord_77 : decode cX8_costOfWord 77 = .ok (.getfield 159, 3) := by decide +kernel
theorem dX8_costOfWord_80 : decode cX8_costOfWord 80 = .ok (.iload_n 1, 1) := by decide +kernel
theorem dX8_costOfWord_81 : decode cX8_costOfWord 81 = .ok (.aaload, 1) := by decide +kernel
theorem dX8_costOfWord_82 : decode cX8_costOfWord 82 = .ok (.getfield 163, 3) := by decide +kernel
theorem dX8_costOfWord_85 : decode cX8_costOfWord 85 = .ok (.iload_n 2, 1) := by decide +kernel
theorem dX8_costOfWord_86 : decode cX8_costOfWord 86 = .ok (.invokevirtual 290, 3) := by decide +kernel
theorem dX8_costOfWord_89 : decode cX8_costOfWord 89 = .ok (.aload_n 0, 1) := by decide +kernel
theorem dX8_costOfWord_90 : decode cX8_costOfWord 90 = .ok (.ldc 67, 2) := by decide +kernel
theorem dX8_costOfWord_92 : decode cX8_costOfWord 92 = .ok (.invokevirtual 287, 3) := by decide +kernel
theorem dX8_costOfWord_95 : decode cX8_costOfWord 95 = .ok (.istore 5, 2) := by decide +kernel
theorem dX8_costOfWord_97 : decode cX8_costOfWord 97 = .ok (.iload 5, 2) := by decide +kernel
theorem dX8_costOfWord_99 : decode cX8_costOfWord 99 = .ok (.ifCond .lt 7, 3) := by decide +kernel
theorem dX8_costOfWord_102 : decode cX8_costOfWord 102 = .ok (.iconst 1, 1) := by decide +kernel
theorem dX8_costOfWord_103 : decode cX8_costOfWord 103 = .ok (.goto 4, 3) := by decide +kernel
theorem dX8_costOfWord_106 : decode cX8_costOfWord 106 = .ok (.iconst 0, 1) := by decide +kernel
theorem dX8_costOfWord_107 : decode cX8_costOfWord 107 = .ok (.invokestatic 84, 3) := by decide +kernel
theorem dX8_costOfWord_110 : decode cX8_costOfWord 110 = .ok (.iload 5, 2) := by decide +kernel
theorem dX8_costOfWord_112 : decode cX8_costOfWord 112 = .ok (.iload 4, 2) := by decide +kernel
theorem dX8_costOfWord_114 : decode cX8_costOfWord 114 = .ok (.isub, 1) := by decide +kernel
theorem dX8_costOfWord_115 : decode cX8_costOfWord 115 = .ok (.ireturn, 1) := by decide +kernel
theorem dX8_raggednessBits_0 : decode cX8_raggednessBits 0 = .ok (.aload_n 0, 1) := by decide +kernel
theorem dX8_raggednessBits_1 : decode cX8_raggednessBits 1 = .ok (.iload_n 1, 1) := by decide +kernel
theorem dX8_raggednessBits_2 : decode cX8_raggednessBits 2 = .ok (.invokevirtual 145, 3) := by decide +kernel
theorem dX8_raggednessBits_5 : decode cX8_raggednessBits 5 = .ok (.astore_n 2, 1) := by decide +kernel
theorem dX8_raggednessBits_6 : decode cX8_raggednessBits 6 = .ok (.aload_n 0, 1) := by decide +kernel
theorem dX8_raggednessBits_7 : decode cX8_raggednessBits 7 = .ok (.getfield 10, 3) := by decide +kernel
theorem dX8_raggednessBits_10 : decode cX8_raggednessBits 10 = .ok (.aload_n 0, 1) := by decide +kernel
theorem dX8_raggednessBits_11 : decode cX8_raggednessBits 11 = .ok (.getfield 10, 3) := by decide +kernel
theorem dX8_raggednessBits_14 : decode cX8_raggednessBits 14 = .ok (.getfield 159, 3) := by decide +kernel
theorem dX8_raggednessBits_17 : decode cX8_raggednessBits 17 = .ok (.iload_n 1, 1) := by decide +kernel
theorem dX8_raggednessBits_18 : decode cX8_raggednessBits 18 = .ok (.aaload, 1) := by decide +kernel
theorem dX8_raggednessBits_19 : decode cX8_raggednessBits 19 = .ok (.aload_n 0, 1) := by decide +kernel
theorem dX8_raggednessBits_20 : decode cX8_raggednessBits 20 = .ok (.invokevirtual 267, 3) := by decide +kernel
theorem dX8_raggednessBits_23 : decode cX8_raggednessBits 23 = .ok (.invokevirtual 293, 3) := by decide +kernel
theorem dX8_raggednessBits_26 : decode cX8_raggednessBits 26 = .ok (.iconst 2, 1) := by decide +kernel
theorem dX8_raggednessBits_27 : decode cX8_raggednessBits 27 = .ok (.aload_n 0, 1) := by decide +kernel
theorem dX8_raggednessBits_28 : decode cX8_raggednessBits 28 = .ok (.getfield 10, 3) := by decide +kernel
theorem dX8_raggednessBits_31 : decode cX8_raggednessBits 31 = .ok (.getfield 105, 3) := by decide +kernel
theorem dX8_raggednessBits_34 : decode cX8_raggednessBits 34 = .ok (.imul, 1) := by decide +kernel
theorem dX8_raggednessBits_35 : decode cX8_raggednessBits 35 = .ok (.isub, 1) := by decide +kernel
theorem dX8_raggednessBits_36 : decode cX8_raggednessBits 36 = .ok (.istore_n 3, 1) := by decide +kernel
theorem dX8_raggednessBits_37 : decode cX8_raggednessBits 37 = .ok (.aload_n 2, 1) := by decide +kernel
theorem dX8_raggednessBits_38 : decode cX8_raggednessBits 38 = .ok (.iload_n 3, 1) := by decide +kernel
theorem dX8_raggednessBits_39 : decode cX8_raggednessBits 39 = .ok (.invokevirtual 296, 3) := by decide +kernel
theorem dX8_raggednessBits_42 : decode cX8_raggednessBits 42 = .ok (.invokestatic 300, 3) := by decide +kernel
theorem dX8_raggednessBits_45 : decode cX8_raggednessBits 45 = .ok (.ireturn, 1) := by decide +kernel
theorem dX8_densityBits_0 : decode cX8_densityBits 0 = .ok (.aload_n 0, 1) := by decide +kernel
theorem dX8_densityBits_1 : decode cX8_densityBits 1 = .ok (.invokevirtual 259, 3) := by decide +kernel
theorem dX8_densityBits_4 : decode cX8_densityBits 4 = .ok (.astore_n 1, 1) := by decide +kernel
theorem dX8_densityBits_5 : decode cX8_densityBits 5 = .ok (.aload_n 0, 1) := by decide +kernel
theorem dX8_densityBits_6 : decode cX8_densityBits 6 = .ok (.getfield 10, 3) := by decide +kernel
theorem dX8_densityBits_9 : decode cX8_densityBits 9 = .ok (.getfield 99, 3) := by decide +kernel
theorem dX8_densityBits_12 : decode cX8_densityBits 12 = .ok (.aload_n 0, 1) := by decide +kernel
theorem dX8_densityBits_13 : decode cX8_densityBits 13 = .ok (.getfield 10, 3) := by decide +kernel
theorem dX8_densityBits_16 : decode cX8_densityBits 16 = .ok (.aload_n 1, 1) := by decide +kernel
theorem dX8_densityBits_17 : decode cX8_densityBits 17 = .ok (.invokevirtual 263, 3) := by decide +kernel
theorem dX8_densityBits_20 : decode cX8_densityBits 20 = .ok (.imul, 1) := by decide +kernel
theorem dX8_densityBits_21 : decode cX8_densityBits 21 = .ok (.istore_n 2, 1) := by decide +kernel
theorem dX8_densityBits_22 : decode cX8_densityBits 22 = .ok (.iload_n 2, 1) := by decide +kernel
theorem dX8_densityBits_23 : decode cX8_densityBits 23 = .ok (.ifCond .ne 11, 3) := by decide +kernel
theorem dX8_densityBits_26 : decode cX8_densityBits 26 = .ok (.new 306, 3) := by decide +kernel
theorem dX8_densityBits_29 : decode cX8_densityBits 29 = .ok (.dup, 1) := by decide +kernel
theorem dX8_densityBits_30 : decode cX8_densityBits 30 = .ok (.invokespecial 308, 3) := by decide +kernel
theorem dX8_densityBits_33 : decode cX8_densityBits 33 = .ok (.athrow, 1) := by decide +kernel
theorem dX8_densityBits_34 : decode cX8_densityBits 34 = .ok (.iconst 0, 1) := by decide +kernel
theorem dX8_densityBits_35 : decode cX8_densityBits 35 = .ok (.istore_n 3, 1) := by decide +kernel
theorem dX8_densityBits_36 : decode cX8_densityBits 36 = .ok (.iconst 0, 1) := by decide +kernel
theorem dX8_densityBits_37 : decode cX8_densityBits 37 = .ok (.istore 4, 2) := by decide +kernel
theorem dX8_densityBits_39 : decode cX8_densityBits 39 = .ok (.iload 4, 2) := by decide +kernel
theorem dX8_densityBits_41 : decode cX8_densityBits 41 = .ok (.aload_n 0, 1) := by decide +kernel
theorem dX8_densityBits_42 : decode cX8_densityBits 42 = .ok (.getfield 10, 3) := by decide +kernel
theorem dX8_densityBits_45 : decode cX8_densityBits 45 = .ok (.getfield 80, 3) := by decide +kernel
theorem dX8_densityBits_48 : decode cX8_densityBits 48 = .ok (.if_icmp .ge 52, 3) := by decide +kernel
theorem dX8_densityBits_51 : decode cX8_densityBits 51 = .ok (.aload_n 0, 1) := by decide +kernel
theorem dX8_densityBits_52 : decode cX8_densityBits 52 = .ok (.getfield 10, 3) := by decide +kernel
theorem dX8_densityBits_55 : decode cX8_densityBits 55 = .ok (.getfield 159, 3) := by decide +kernel
theorem dX8_densityBits_58 : decode cX8_densityBits 58 = .ok (.iload 4, 2) := by decide +kernel
theorem dX8_densityBits_60 : decode cX8_densityBits 60 = .ok (.aaload, 1) := by decide +kernel
theorem dX8_densityBits_61 : decode cX8_densityBits 61 = .ok (.astore 5, 2) := by decide +kernel
theorem dX8_densityBits_63 : decode cX8_densityBits 63 = .ok (.iload_n 3, 1) := by decide +kernel
theorem dX8_densityBits_64 : decode cX8_densityBits 64 = .ok (.aload 5, 2) := by decide +kernel
theorem dX8_densityBits_66 : decode cX8_densityBits 66 = .ok (.getfield 163, 3) := by decide +kernel
theorem dX8_densityBits_69 : decode cX8_densityBits 69 = .ok (.aload_n 0, 1) := by decide +kernel
theorem dX8_densityBits_70 : decode cX8_densityBits 70 = .ok (.getfield 10, 3) := by decide +kernel
theorem dX8_densityBits_73 : decode cX8_densityBits 73 = .ok (.aload 5, 2) := by decide +kernel
theorem dX8_densityBits_75 : decode cX8_densityBits 75 = .ok (.aload_n 1, 1) := by decide +kernel
theorem dX8_densityBits_76 : decode cX8_densityBits 76 = .ok (.invokevirtual 293, 3) := by decide +kernel
theorem dX8_densityBits_79 : decode cX8_densityBits 79 = .ok (.iconst 2, 1) := by decide +kernel
theorem dX8_densityBits_80 : decode cX8_densityBits 80 = .ok (.aload_n 0, 1) := by decide +kernel
theorem dX8_densityBits_81 : decode cX8_densityBits 81 = .ok (.getfield 10, 3) := by decide +kernel
theorem dX8_densityBits_84 : decode cX8_densityBits 84 = .ok (.getfield 105, 3) := by decide +kernel
theorem dX8_densityBits_87 : decode cX8_densityBits 87 = .ok (.imul, 1) := by decide +kernel
theorem dX8_densityBits_88 : decode cX8_densityBits 88 = .ok (.isub, 1) := by decide +kernel
theorem dX8_densityBits_89 : decode cX8_densityBits 89 = .ok (.invokevirtual 309, 3) := by decide +kernel
theorem dX8_densityBits_92 : decode cX8_densityBits 92 = .ok (.iadd, 1) := by decide +kernel
theorem dX8_densityBits_93 : decode cX8_densityBits 93 = .ok (.istore_n 3, 1) := by decide +kernel
theorem dX8_densityBits_94 : decode cX8_densityBits 94 = .ok (.iinc 4 1, 3) := by decide +kernel
theorem dX8_densityBits_97 : decode cX8_densityBits 97 = .ok (.goto (-58), 3) := by decide +kernel
theorem dX8_densityBits_100 : decode cX8_densityBits 100 = .ok (.iload_n 3, 1) := by decide +kernel
theorem dX8_densityBits_101 : decode cX8_densityBits 101 = .ok (.i2d, 1) := by decide +kernel
theorem dX8_densityBits_102 : decode cX8_densityBits 102 = .ok (.iload_n 2, 1) := by decide +kernel
theorem dX8_densityBits_103 : decode cX8_densityBits 103 = .ok (.i2d, 1) := by decide +kernel
theorem dX8_densityBits_104 : decode cX8_densityBits 104 = .ok (.ddiv, 1) := by decide +kernel
theorem dX8_densityBits_105 : decode cX8_densityBits 105 = .ok (.invokestatic 312, 3) := by decide +kernel
theorem dX8_densityBits_108 : decode cX8_densityBits 108 = .ok (.lreturn, 1) := by decide +kernel
theorem dX8_makeClip_0 : decode cX8_makeClip 0 = .ok (.iload_n 1, 1) := by decide +kernel
theorem dX8_makeClip_1 : decode cX8_makeClip 1 = .ok (.iconst 0, 1) := by decide +kernel
theorem dX8_makeClip_2 : decode cX8_makeClip 2 = .ok (.iconst 1, 1) := by decide +kernel
theorem dX8_makeClip_3 : decode cX8_makeClip 3 = .ok (.invokestatic 72, 3) := by decide +kernel
theorem dX8_makeClip_6 : decode cX8_makeClip 6 = .ok (.invokestatic 96, 3) := by decide +kernel
theorem dX8_makeClip_9 : decode cX8_makeClip 9 = .ok (.iload_n 2, 1) := by decide +kernel
theorem dX8_makeClip_10 : decode cX8_makeClip 10 = .ok (.iconst 0, 1) := by decide +kernel
theorem dX8_makeClip_11 : decode cX8_makeClip 11 = .ok (.iconst 5, 1) := by decide +kernel
theorem dX8_makeClip_12 : decode cX8_makeClip 12 = .ok (.invokestatic 72, 3) := by decide +kernel
theorem dX8_makeClip_15 : decode cX8_makeClip 15 = .ok (.invokestatic 76, 3) := by decide +kernel
theorem dX8_makeClip_18 : decode cX8_makeClip 18 = .ok (.iload_n 3, 1) := by decide +kernel
theorem dX8_makeClip_19 : decode cX8_makeClip 19 = .ok (.iconst 0, 1) := by decide +kernel
theorem dX8_makeClip_20 : decode cX8_makeClip 20 = .ok (.iconst 3, 1) := by decide +kernel
theorem dX8_makeClip_21 : decode cX8_makeClip 21 = .ok (.invokestatic 72, 3) := by decide +kernel
theorem dX8_makeClip_24 : decode cX8_makeClip 24 = .ok (.invokestatic 76, 3) := by decide +kernel
theorem dX8_makeClip_27 : decode cX8_makeClip 27 = .ok (.aload_n 0, 1) := by decide +kernel
theorem dX8_makeClip_28 : decode cX8_makeClip 28 = .ok (.getfield 55, 3) := by decide +kernel
theorem dX8_makeClip_31 : decode cX8_makeClip 31 = .ok (.iload_n 1, 1) := by decide +kernel
theorem dX8_makeClip_32 : decode cX8_makeClip 32 = .ok (.aaload, 1) := by decide +kernel
theorem dX8_makeClip_33 : decode cX8_makeClip 33 = .ok (.iload_n 2, 1) := by decide +kernel
theorem dX8_makeClip_34 : decode cX8_makeClip 34 = .ok (.iload_n 3, 1) := by decide +kernel
theorem dX8_makeClip_35 : decode cX8_makeClip 35 = .ok (.invokevirtual 316, 3) := by decide +kernel
theorem dX8_makeClip_38 : decode cX8_makeClip 38 = .ok (.iload_n 3, 1) := by decide +kernel
theorem dX8_makeClip_39 : decode cX8_makeClip 39 = .ok (.ireturn, 1) := by decide +kernel
theorem dX8_copyTo_0 : decode cX8_copyTo 0 = .ok (.iload_n 1, 1) := by decide +kernel
theorem dX8_copyTo_1 : decode cX8_copyTo 1 = .ok (.iconst 0, 1) := by decide +kernel
theorem dX8_copyTo_2 : decode cX8_copyTo 2 = .ok (.iconst 1, 1) := by decide +kernel
theorem dX8_copyTo_3 : decode cX8_copyTo 3 = .ok (.invokestatic 72, 3) := by decide +kernel
theorem dX8_copyTo_6 : decode cX8_copyTo 6 = .ok (.invokestatic 96, 3) := by decide +kernel
theorem dX8_copyTo_9 : decode cX8_copyTo 9 = .ok (.aload_n 0, 1) := by decide +kernel
theorem dX8_copyTo_10 : decode cX8_copyTo 10 = .ok (.iload_n 3, 1) := by decide +kernel
theorem dX8_copyTo_11 : decode cX8_copyTo 11 = .ok (.invokevirtual 139, 3) := by decide +kernel
theorem dX8_copyTo_14 : decode cX8_copyTo 14 = .ok (.aload_n 0, 1) := by decide +kernel
theorem dX8_copyTo_15 : decode cX8_copyTo 15 = .ok (.getfield 55, 3) := by decide +kernel
theorem dX8_copyTo_18 : decode cX8_copyTo 18 = .ok (.iload_n 1, 1) := by decide +kernel
theorem dX8_copyTo_19 : decode cX8_copyTo 19 = .ok (.aaload, 1) := by decide +kernel
theorem dX8_copyTo_20 : decode cX8_copyTo 20 = .ok (.astore 4, 2) := by decide +kernel
theorem dX8_copyTo_22 : decode cX8_copyTo 22 = .ok (.aload_n 0, 1) := by decide +kernel
theorem dX8_copyTo_23 : decode cX8_copyTo 23 = .ok (.getfield 10, 3) := by decide +kernel
theorem dX8_copyTo_26 : decode cX8_copyTo 26 = .ok (.getfield 159, 3) := by decide +kernel
theorem dX8_copyTo_29 : decode cX8_copyTo 29 = .ok (.iload_n 3, 1) := by decide +kernel
theorem dX8_copyTo_30 : decode cX8_copyTo 30 = .ok (.aaload, 1) := by decide +kernel
theorem dX8_copyTo_31 : decode cX8_copyTo 31 = .ok (.getfield 163, 3) := by decide +kernel
theorem dX8_copyTo_34 : decode cX8_copyTo 34 = .ok (.astore 5, 2) := by decide +kernel
theorem dX8_copyTo_36 : decode cX8_copyTo 36 = .ok (.aload 4, 2) := by decide +kernel
theorem dX8_copyTo_38 : decode cX8_copyTo 38 = .ok (.getfield 319, 3) := by decide +kernel
theorem dX8_copyTo_41 : decode cX8_copyTo 41 = .ok (.invokestatic 84, 3) := by decide +kernel
theorem dX8_copyTo_44 : decode cX8_copyTo 44 = .ok (.iload_n 2, 1) := by decide +kernel
theorem dX8_copyTo_45 : decode cX8_copyTo 45 = .ok (.iconst 0, 1) := by decide +kernel
theorem dX8_copyTo_46 : decode cX8_copyTo 46 = .ok (.aload 4, 2) := by decide +kernel
theorem dX8_copyTo_48 : decode cX8_copyTo 48 = .ok (.getfield 323, 3) := by decide +kernel
theorem dX8_copyTo_51 : decode cX8_copyTo 51 = .ok (.iconst 1, 1) := by decide +kernel
theorem dX8_copyTo_52 : decode cX8_copyTo 52 = .ok (.isub, 1) := by decide +kernel
theorem dX8_copyTo_53 : decode cX8_copyTo 53 = .ok (.invokestatic 72, 3) := by decide +kernel
theorem dX8_copyTo_56 : decode cX8_copyTo 56 = .ok (.invokestatic 233, 3) := by decide +kernel
theorem dX8_copyTo_59 : decode cX8_copyTo 59 = .ok (.aload 4, 2) := by decide +kernel
theorem dX8_copyTo_61 : decode cX8_copyTo 61 = .ok (.aload 5, 2) := by decide +kernel
theorem dX8_copyTo_63 : decode cX8_copyTo 63 = .ok (.getfield 156, 3) := by decide +kernel
theorem dX8_copyTo_66 : decode cX8_copyTo 66 = .ok (.invokevirtual 326, 3) := by decide +kernel
theorem dX8_copyTo_69 : decode cX8_copyTo 69 = .ok (.invokestatic 76, 3) := by decide +kernel
theorem dX8_copyTo_72 : decode cX8_copyTo 72 = .ok (.aload 4, 2) := by decide +kernel
theorem dX8_copyTo_74 : decode cX8_copyTo 74 = .ok (.getfield 329, 3) := by decide +kernel
theorem dX8_copyTo_77 : decode cX8_copyTo 77 = .ok (.iload_n 2, 1) := by decide +kernel
theorem dX8_copyTo_78 : decode cX8_copyTo 78 = .ok (.aaload, 1) := by decide +kernel
theorem dX8_copyTo_79 : decode cX8_copyTo 79 = .ok (.aload 5, 2) := by decide +kernel
theorem dX8_copyTo_81 : decode cX8_copyTo 81 = .ok (.invokevirtual 333, 3) := by decide +kernel
theorem dX8_copyTo_84 : decode cX8_copyTo 84 = .ok (.aload 4, 2) := by decide +kernel
theorem dX8_copyTo_86 : decode cX8_copyTo 86 = .ok (.getfield 336, 3) := by decide +kernel
theorem dX8_copyTo_89 : decode cX8_copyTo 89 = .ok (.iload_n 2, 1) := by decide +kernel
theorem dX8_copyTo_90 : decode cX8_copyTo 90 = .ok (.iconst 1, 1) := by decide +kernel
theorem dX8_copyTo_91 : decode cX8_copyTo 91 = .ok (.bastore, 1) := by decide +kernel
theorem dX8_copyTo_92 : decode cX8_copyTo 92 = .ok (.aload 5, 2) := by decide +kernel
theorem dX8_copyTo_94 : decode cX8_copyTo 94 = .ok (.getfield 156, 3) := by decide +kernel
theorem dX8_copyTo_97 : decode cX8_copyTo 97 = .ok (.ireturn, 1) := by decide +kernel
theorem dX8_paste_0 : decode cX8_paste 0 = .ok (.iload_n 1, 1) := by decide +kernel
theorem dX8_paste_1 : decode cX8_paste 1 = .ok (.iconst 0, 1) := by decide +kernel
theorem dX8_paste_2 : decode cX8_paste 2 = .ok (.iconst 1, 1) := by decide +kernel
theorem dX8_paste_3 : decode cX8_paste 3 = .ok (.invokestatic 72, 3) := by decide +kernel
theorem dX8_paste_6 : decode cX8_paste 6 = .ok (.invokestatic 96, 3) := by decide +kernel
theorem dX8_paste_9 : decode cX8_paste 9 = .ok (.aload_n 0, 1) := by decide +kernel
theorem dX8_paste_10 : decode cX8_paste 10 = .ok (.iload_n 3, 1) := by decide +kernel
theorem dX8_paste_11 : decode cX8_paste 11 = .ok (.invokevirtual 124, 3) := by decide +kernel
theorem dX8_paste_14 : decode cX8_paste 14 = .ok (.aload_n 0, 1) := by decide +kernel
theorem dX8_paste_15 : decode cX8_paste 15 = .ok (.iload 4, 2) := by decide +kernel
theorem dX8_paste_17 : decode cX8_paste 17 = .ok (.invokevirtual 108, 3) := by decide +kernel
theorem dX8_paste_20 : decode cX8_paste 20 = .ok (.aload_n 0, 1) := by decide +kernel
theorem dX8_paste_21 : decode cX8_paste 21 = .ok (.getfield 55, 3) := by decide +kernel
theorem dX8_paste_24 : decode cX8_paste 24 = .ok (.iload_n 1, 1) := by decide +kernel
theorem dX8_paste_25 : decode cX8_paste 25 = .ok (.aaload, 1) := by decide +kernel
theorem dX8_paste_26 : decode cX8_paste 26 = .ok (.astore 5, 2) := by decide +kernel
theorem dX8_paste_28 : decode cX8_paste 28 = .ok (.iload_n 2, 1) := by decide +kernel
theorem dX8_paste_29 : decode cX8_paste 29 = .ok (.iconst 0, 1) := by decide +kernel
theorem dX8_paste_30 : decode cX8_paste 30 = .ok (.aload 5, 2) := by decide +kernel
theorem dX8_paste_32 : decode cX8_paste 32 = .ok (.getfield 323, 3) := by decide +kernel
theorem dX8_paste_35 : decode cX8_paste 35 = .ok (.iconst 1, 1) := by decide +kernel
theorem dX8_paste_36 : decode cX8_paste 36 = .ok (.isub, 1) := by decide +kernel
theorem dX8_paste_37 : decode cX8_paste 37 = .ok (.invokestatic 72, 3) := by decide +kernel
theorem dX8_paste_40 : decode cX8_paste 40 = .ok (.ifCond .eq 17, 3) := by decide +kernel
theorem dX8_paste_43 : decode cX8_paste 43 = .ok (.aload 5, 2) := by decide +kernel
theorem dX8_paste_45 : decode cX8_paste 45 = .ok (.getfield 336, 3) := by decide +kernel
theorem dX8_paste_48 : decode cX8_paste 48 = .ok (.iload_n 2, 1) := by decide +kernel
theorem dX8_paste_49 : decode cX8_paste 49 = .ok (.baload, 1) := by decide +kernel
theorem dX8_paste_50 : decode cX8_paste 50 = .ok (.ifCond .eq 7, 3) := by decide +kernel
theorem dX8_paste_53 : decode cX8_paste 53 = .ok (.iconst 1, 1) := by decide +kernel
theorem dX8_paste_54 : decode cX8_paste 54 = .ok (.goto 4, 3) := by decide +kernel
theorem dX8_paste_57 : decode cX8_paste 57 = .ok (.iconst 0, 1) := by decide +kernel
theorem dX8_paste_58 : decode cX8_paste 58 = .ok (.invokestatic 233, 3) := by decide +kernel
theorem dX8_paste_61 : decode cX8_paste 61 = .ok (.aload_n 0, 1) := by decide +kernel
theorem dX8_paste_62 : decode cX8_paste 62 = .ok (.getfield 10, 3) := by decide +kernel
theorem dX8_paste_65 : decode cX8_paste 65 = .ok (.iload_n 3, 1) := by decide +kernel
theorem dX8_paste_66 : decode cX8_paste 66 = .ok (.iload 4, 2) := by decide +kernel
theorem dX8_paste_68 : decode cX8_paste 68 = .ok (.iconst 1, 1) := by decide +kernel
theorem dX8_paste_69 : decode cX8_paste 69 = .ok (.invokevirtual 127, 3) := by decide +kernel
theorem dX8_paste_72 : decode cX8_paste 72 = .ok (.invokestatic 84, 3) := by decide +kernel
theorem dX8_paste_75 : decode cX8_paste 75 = .ok (.aload_n 0, 1) := by decide +kernel
theorem dX8_paste_76 : decode cX8_paste 76 = .ok (.getfield 10, 3) := by decide +kernel
theorem dX8_paste_79 : decode cX8_paste 79 = .ok (.iload_n 3, 1) := by decide +kernel
theorem dX8_paste_80 : decode cX8_paste 80 = .ok (.iload 4, 2) := by decide +kernel
theorem dX8_paste_82 : decode cX8_paste 82 = .ok (.iconst 1, 1) := by decide +kernel
theorem dX8_paste_83 : decode cX8_paste 83 = .ok (.invokevirtual 130, 3) := by decide +kernel
theorem dX8_paste_86 : decode cX8_paste 86 = .ok (.aload 5, 2) := by decide +kernel
theorem dX8_paste_88 : decode cX8_paste 88 = .ok (.getfield 329, 3) := by decide +kernel
theorem dX8_paste_91 : decode cX8_paste 91 = .ok (.iload_n 2, 1) := by decide +kernel
theorem dX8_paste_92 : decode cX8_paste 92 = .ok (.aaload, 1) := by decide +kernel
theorem dX8_paste_93 : decode cX8_paste 93 = .ok (.invokevirtual 333, 3) := by decide +kernel
theorem dX8_paste_96 : decode cX8_paste 96 = .ok (.aload_n 0, 1) := by decide +kernel
theorem dX8_paste_97 : decode cX8_paste 97 = .ok (.invokevirtual 93, 3) := by decide +kernel
theorem dX8_paste_100 : decode cX8_paste 100 = .ok (.aload_n 0, 1) := by decide +kernel
theorem dX8_paste_101 : decode cX8_paste 101 = .ok (.getfield 10, 3) := by decide +kernel
theorem dX8_paste_104 : decode cX8_paste 104 = .ok (.getfield 80, 3) := by decide +kernel
theorem dX8_paste_107 : decode cX8_paste 107 = .ok (.iconst 1, 1) := by decide +kernel
theorem dX8_paste_108 : decode cX8_paste 108 = .ok (.isub, 1) := by decide +kernel
theorem dX8_paste_109 : decode cX8_paste 109 = .ok (.ireturn, 1) := by decide +kernel
theorem dX8_save_0 : decode cX8_save 0 = .ok (.aload_n 0, 1) := by decide +kernel
theorem dX8_save_1 : decode cX8_save 1 = .ok (.getfield 43, 3) := by decide +kernel
theorem dX8_save_4 : decode cX8_save 4 = .ok (.aload_n 0, 1) := by decide +kernel
theorem dX8_save_5 : decode cX8_save 5 = .ok (.getfield 10, 3) := by decide +kernel
theorem dX8_save_8 : decode cX8_save 8 = .ok (.invokevirtual 195, 3) := by decide +kernel
theorem dX8_save_11 : decode cX8_save 11 = .ok (.aload_n 0, 1) := by decide +kernel
theorem dX8_save_12 : decode cX8_save 12 = .ok (.iconst 1, 1) := by decide +kernel
theorem dX8_save_13 : decode cX8_save 13 = .ok (.putfield 340, 3) := by decide +kernel
theorem dX8_save_16 : decode cX8_save 16 = .ok (.aload_n 0, 1) := by decide +kernel
theorem dX8_save_17 : decode cX8_save 17 = .ok (.getfield 10, 3) := by decide +kernel
theorem dX8_save_20 : decode cX8_save 20 = .ok (.getfield 80, 3) := by decide +kernel
theorem dX8_save_23 : decode cX8_save 23 = .ok (.ireturn, 1) := by decide +kernel
theorem dX8_restore_0 : decode cX8_restore 0 = .ok (.aload_n 0, 1) := by decide +kernel
theorem dX8_restore_1 : decode cX8_restore 1 = .ok (.getfield 340, 3) := by decide +kernel
theorem dX8_restore_4 : decode cX8_restore 4 = .ok (.invokestatic 84, 3) := by decide +kernel
theorem dX8_restore_7 : decode cX8_restore 7 = .ok (.aload_n 0, 1) := by decide +kernel
theorem dX8_restore_8 : decode cX8_restore 8 = .ok (.getfield 10, 3) := by decide +kernel
theorem dX8_restore_11 : decode cX8_restore 11 = .ok (.aload_n 0, 1) := by decide +kernel
theorem dX8_restore_12 : decode cX8_restore 12 = .ok (.getfield 43, 3) := by decide +kernel
theorem dX8_restore_15 : decode cX8_restore 15 = .ok (.invokevirtual 195, 3) := by decide +kernel
theorem dX8_restore_18 : decode cX8_restore 18 = .ok (.aload_n 0, 1) := by decide +kernel
theorem dX8_restore_19 : decode cX8_restore 19 = .ok (.invokevirtual 93, 3) := by decide +kernel
theorem dX8_restore_22 : decode cX8_restore 22 = .ok (.aload_n 0, 1) := by decide +kernel
theorem dX8_restore_23 : decode cX8_restore 23 = .ok (.getfield 10, 3) := by decide +kernel
theorem dX8_restore_26 : decode cX8_restore 26 = .ok (.getfield 80, 3) := by decide +kernel
theorem dX8_restore_29 : decode cX8_restore 29 = .ok (.ireturn, 1) := by decide +kernel
theorem dX8_changed_0 : decode cX8_changed 0 = .ok (.aload_n 0, 1) := by decide +kernel
theorem dX8_changed_1 : decode cX8_changed 1 = .ok (.getfield 21, 3) := by decide +kernel
theorem dX8_changed_4 : decode cX8_changed 4 = .ok (.invokevirtual 64, 3) := by decide +kernel
theorem dX8_changed_7 : decode cX8_changed 7 = .ok (.aload_n 0, 1) := by decide +kernel
theorem dX8_changed_8 : decode cX8_changed 8 = .ok (.getfield 30, 3) := by decide +kernel
theorem dX8_changed_11 : decode cX8_changed 11 = .ok (.ldc 67, 2) := by decide +kernel
theorem dX8_changed_13 : decode cX8_changed 13 = .ok (.invokevirtual 68, 3) := by decide +kernel
theorem dX8_changed_16 : decode cX8_changed 16 = .ok (.return_, 1) := by decide +kernel
theorem dX8_heightOfTrialBelow_0 : decode cX8_heightOfTrialBelow 0 = .ok (.aload_n 0, 1) := by decide +kernel
theorem dX8_heightOfTrialBelow_1 : decode cX8_heightOfTrialBelow 1 = .ok (.getfield 37, 3) := by decide +kernel
theorem dX8_heightOfTrialBelow_4 : decode cX8_heightOfTrialBelow 4 = .ok (.invokevirtual 64, 3) := by decide +kernel
theorem dX8_heightOfTrialBelow_7 : decode cX8_heightOfTrialBelow 7 = .ok (.aload_n 0, 1) := by decide +kernel
theorem dX8_heightOfTrialBelow_8 : decode cX8_heightOfTrialBelow 8 = .ok (.getfield 40, 3) := by decide +kernel
theorem dX8_heightOfTrialBelow_11 : decode cX8_heightOfTrialBelow 11 = .ok (.iload_n 1, 1) := by decide +kernel
theorem dX8_heightOfTrialBelow_12 : decode cX8_heightOfTrialBelow 12 = .ok (.invokevirtual 68, 3) := by decide +kernel
theorem dX8_heightOfTrialBelow_15 : decode cX8_heightOfTrialBelow 15 = .ok (.aload_n 0, 1) := by decide +kernel
theorem dX8_heightOfTrialBelow_16 : decode cX8_heightOfTrialBelow 16 = .ok (.getfield 40, 3) := by decide +kernel
theorem dX8_heightOfTrialBelow_19 : decode cX8_heightOfTrialBelow 19 = .ok (.aload_n 0, 1) := by decide +kernel
theorem dX8_heightOfTrialBelow_20 : decode cX8_heightOfTrialBelow 20 = .ok (.getfield 34, 3) := by decide +kernel
theorem dX8_heightOfTrialBelow_23 : decode cX8_heightOfTrialBelow 23 = .ok (.getfield 99, 3) := by decide +kernel
theorem dX8_heightOfTrialBelow_26 : decode cX8_heightOfTrialBelow 26 = .ok (.invokevirtual 270, 3) := by decide +kernel
theorem dX8_heightOfTrialBelow_29 : decode cX8_heightOfTrialBelow 29 = .ok (.ireturn, 1) := by decide +kernel
theorem dX8_automaticWidths_0 : decode cX8_automaticWidths 0 = .ok (.aload_n 0, 1) := by decide +kernel
theorem dX8_automaticWidths_1 : decode cX8_automaticWidths 1 = .ok (.getfield 21, 3) := by decide +kernel
theorem dX8_automaticWidths_4 : decode cX8_automaticWidths 4 = .ok (.getfield 343, 3) := by decide +kernel
theorem dX8_automaticWidths_7 : decode cX8_automaticWidths 7 = .ok (.invokestatic 84, 3) := by decide +kernel
theorem dX8_automaticWidths_10 : decode cX8_automaticWidths 10 = .ok (.aload_n 0, 1) := by decide +kernel
theorem dX8_automaticWidths_11 : decode cX8_automaticWidths 11 = .ok (.getfield 21, 3) := by decide +kernel
theorem dX8_automaticWidths_14 : decode cX8_automaticWidths 14 = .ok (.getfield 346, 3) := by decide +kernel
theorem dX8_automaticWidths_17 : decode cX8_automaticWidths 17 = .ok (.areturn, 1) := by decide +kernel
theorem dX8_bestWidths_0 : decode cX8_bestWidths 0 = .ok (.aload_n 0, 1) := by decide +kernel
theorem dX8_bestWidths_1 : decode cX8_bestWidths 1 = .ok (.getfield 30, 3) := by decide +kernel
theorem dX8_bestWidths_4 : decode cX8_bestWidths 4 = .ok (.aload_n 0, 1) := by decide +kernel
theorem dX8_bestWidths_5 : decode cX8_bestWidths 5 = .ok (.getfield 10, 3) := by decide +kernel
theorem dX8_bestWidths_8 : decode cX8_bestWidths 8 = .ok (.getfield 99, 3) := by decide +kernel
theorem dX8_bestWidths_11 : decode cX8_bestWidths 11 = .ok (.invokevirtual 270, 3) := by decide +kernel
theorem dX8_bestWidths_14 : decode cX8_bestWidths 14 = .ok (.ifCond .lt 7, 3) := by decide +kernel
theorem dX8_bestWidths_17 : decode cX8_bestWidths 17 = .ok (.iconst 1, 1) := by decide +kernel
theorem dX8_bestWidths_18 : decode cX8_bestWidths 18 = .ok (.goto 4, 3) := by decide +kernel
theorem dX8_bestWidths_21 : decode cX8_bestWidths 21 = .ok (.iconst 0, 1) := by decide +kernel
theorem dX8_bestWidths_22 : decode cX8_bestWidths 22 = .ok (.invokestatic 84, 3) := by decide +kernel
theorem dX8_bestWidths_25 : decode cX8_bestWidths 25 = .ok (.aload_n 0, 1) := by decide +kernel
theorem dX8_bestWidths_26 : decode cX8_bestWidths 26 = .ok (.getfield 30, 3) := by decide +kernel
theorem dX8_bestWidths_29 : decode cX8_bestWidths 29 = .ok (.aload_n 0, 1) := by decide +kernel
theorem dX8_bestWidths_30 : decode cX8_bestWidths 30 = .ok (.getfield 10, 3) := by decide +kernel
theorem dX8_bestWidths_33 : decode cX8_bestWidths 33 = .ok (.getfield 99, 3) := by decide +kernel
theorem dX8_bestWidths_36 : decode cX8_bestWidths 36 = .ok (.invokevirtual 349, 3) := by decide +kernel
theorem dX8_bestWidths_39 : decode cX8_bestWidths 39 = .ok (.areturn, 1) := by decide +kernel
theorem dX8_isImproving_0 : decode cX8_isImproving 0 = .ok (.aload_n 0, 1) := by decide +kernel
theorem dX8_isImproving_1 : decode cX8_isImproving 1 = .ok (.getfield 30, 3) := by decide +kernel
theorem dX8_isImproving_4 : decode cX8_isImproving 4 = .ok (.iload_n 1, 1) := by decide +kernel
theorem dX8_isImproving_5 : decode cX8_isImproving 5 = .ok (.invokevirtual 270, 3) := by decide +kernel
theorem dX8_isImproving_8 : decode cX8_isImproving 8 = .ok (.istore_n 2, 1) := by decide +kernel
theorem dX8_isImproving_9 : decode cX8_isImproving 9 = .ok (.iload_n 2, 1) := by decide +kernel
theorem dX8_isImproving_10 : decode cX8_isImproving 10 = .ok (.ifCond .lt 7, 3) := by decide +kernel
theorem dX8_isImproving_13 : decode cX8_isImproving 13 = .ok (.iconst 1, 1) := by decide +kernel
theorem dX8_isImproving_14 : decode cX8_isImproving 14 = .ok (.goto 4, 3) := by decide +kernel
theorem dX8_isImproving_17 : decode cX8_isImproving 17 = .ok (.iconst 0, 1) := by decide +kernel
theorem dX8_isImproving_18 : decode cX8_isImproving 18 = .ok (.istore_n 3, 1) := by decide +kernel
theorem dX8_isImproving_19 : decode cX8_isImproving 19 = .ok (.bipush 8, 2) := by decide +kernel
theorem dX8_isImproving_21 : decode cX8_isImproving 21 = .ok (.istore 4, 2) := by decide +kernel
theorem dX8_isImproving_23 : decode cX8_isImproving 23 = .ok (.iload_n 3, 1) := by decide +kernel
theorem dX8_isImproving_24 : decode cX8_isImproving 24 = .ok (.ifCond .eq 43, 3) := by decide +kernel
theorem dX8_isImproving_27 : decode cX8_isImproving 27 = .ok (.iload 4, 2) := by decide +kernel
theorem dX8_isImproving_29 : decode cX8_isImproving 29 = .ok (.iload_n 1, 1) := by decide +kernel
theorem dX8_isImproving_30 : decode cX8_isImproving 30 = .ok (.if_icmp .ge 37, 3) := by decide +kernel
theorem dX8_isImproving_33 : decode cX8_isImproving 33 = .ok (.aload_n 0, 1) := by decide +kernel
theorem dX8_isImproving_34 : decode cX8_isImproving 34 = .ok (.getfield 30, 3) := by decide +kernel
theorem dX8_isImproving_37 : decode cX8_isImproving 37 = .ok (.iload 4, 2) := by decide +kernel
theorem dX8_isImproving_39 : decode cX8_isImproving 39 = .ok (.invokevirtual 270, 3) := by decide +kernel
theorem dX8_isImproving_42 : decode cX8_isImproving 42 = .ok (.istore 5, 2) := by decide +kernel
theorem dX8_isImproving_44 : decode cX8_isImproving 44 = .ok (.iload 5, 2) := by decide +kernel
theorem dX8_isImproving_46 : decode cX8_isImproving 46 = .ok (.ifCond .lt 9, 3) := by decide +kernel
theorem dX8_isImproving_49 : decode cX8_isImproving 49 = .ok (.iload_n 2, 1) := by decide +kernel
theorem dX8_isImproving_50 : decode cX8_isImproving 50 = .ok (.iload 5, 2) := by decide +kernel
theorem dX8_isImproving_52 : decode cX8_isImproving 52 = .ok (.if_icmp .ge 7, 3) := by decide +kernel
theorem dX8_isImproving_55 : decode cX8_isImproving 55 = .ok (.iconst 1, 1) := by decide +kernel
theorem dX8_isImproving_56 : decode cX8_isImproving 56 = .ok (.goto 4, 3) := by decide +kernel
theorem dX8_isImproving_59 : decode cX8_isImproving 59 = .ok (.iconst 0, 1) := by decide +kernel
theorem dX8_isImproving_60 : decode cX8_isImproving 60 = .ok (.istore_n 3, 1) := by decide +kernel
theorem dX8_isImproving_61 : decode cX8_isImproving 61 = .ok (.iinc 4 1, 3) := by decide +kernel
theorem dX8_isImproving_64 : decode cX8_isImproving 64 = .ok (.goto (-41), 3) := by decide +kernel
theorem dX8_isImproving_67 : decode cX8_isImproving 67 = .ok (.iload_n 3, 1) := by decide +kernel
theorem dX8_isImproving_68 : decode cX8_isImproving 68 = .ok (.ireturn, 1) := by decide +kernel
theorem dX8_textOf_0 : decode cX8_textOf 0 = .ok (.aload_n 0, 1) := by decide +kernel
theorem dX8_textOf_1 : decode cX8_textOf 1 = .ok (.iload_n 1, 1) := by decide +kernel
theorem dX8_textOf_2 : decode cX8_textOf 2 = .ok (.invokevirtual 139, 3) := by decide +kernel
theorem dX8_textOf_5 : decode cX8_textOf 5 = .ok (.aload_n 0, 1) := by decide +kernel
theorem dX8_textOf_6 : decode cX8_textOf 6 = .ok (.getfield 10, 3) := by decide +kernel
theorem dX8_textOf_9 : decode cX8_textOf 9 = .ok (.getfield 159, 3) := by decide +kernel
theorem dX8_textOf_12 : decode cX8_textOf 12 = .ok (.iload_n 1, 1) := by decide +kernel
theorem dX8_textOf_13 : decode cX8_textOf 13 = .ok (.aaload, 1) := by decide +kernel
theorem dX8_textOf_14 : decode cX8_textOf 14 = .ok (.getfield 163, 3) := by decide +kernel
theorem dX8_textOf_17 : decode cX8_textOf 17 = .ok (.astore_n 2, 1) := by decide +kernel
theorem dX8_textOf_18 : decode cX8_textOf 18 = .ok (.aload_n 2, 1) := by decide +kernel
theorem dX8_textOf_19 : decode cX8_textOf 19 = .ok (.invokevirtual 169, 3) := by decide +kernel
theorem dX8_textOf_22 : decode cX8_textOf 22 = .ok (.invokestatic 173, 3) := by decide +kernel
theorem dX8_textOf_25 : decode cX8_textOf 25 = .ok (.aload_n 2, 1) := by decide +kernel
theorem dX8_textOf_26 : decode cX8_textOf 26 = .ok (.areturn, 1) := by decide +kernel
theorem dX8_requireCell_0 : decode cX8_requireCell 0 = .ok (.iload_n 1, 1) := by decide +kernel
theorem dX8_requireCell_1 : decode cX8_requireCell 1 = .ok (.iconst 0, 1) := by decide +kernel
theorem dX8_requireCell_2 : decode cX8_requireCell 2 = .ok (.aload_n 0, 1) := by decide +kernel
theorem dX8_requireCell_3 : decode cX8_requireCell 3 = .ok (.getfield 10, 3) := by decide +kernel
theorem dX8_requireCell_6 : decode cX8_requireCell 6 = .ok (.getfield 80, 3) := by decide +kernel
theorem dX8_requireCell_9 : decode cX8_requireCell 9 = .ok (.iconst 1, 1) := by decide +kernel
theorem dX8_requireCell_10 : decode cX8_requireCell 10 = .ok (.isub, 1) := by decide +kernel
theorem dX8_requireCell_11 : decode cX8_requireCell 11 = .ok (.invokestatic 72, 3) := by decide +kernel
theorem dX8_requireCell_14 : decode cX8_requireCell 14 = .ok (.invokestatic 96, 3) := by decide +kernel
theorem dX8_requireCell_17 : decode cX8_requireCell 17 = .ok (.return_, 1) := by decide +kernel
theorem dX8_requireRow_0 : decode cX8_requireRow 0 = .ok (.iload_n 1, 1) := by decide +kernel
theorem dX8_requireRow_1 : decode cX8_requireRow 1 = .ok (.iconst 0, 1) := by decide +kernel
theorem dX8_requireRow_2 : decode cX8_requireRow 2 = .ok (.aload_n 0, 1) := by decide +kernel
theorem dX8_requireRow_3 : decode cX8_requireRow 3 = .ok (.getfield 10, 3) := by decide +kernel
theorem dX8_requireRow_6 : decode cX8_requireRow 6 = .ok (.getfield 121, 3) := by decide +kernel
theorem dX8_requireRow_9 : decode cX8_requireRow 9 = .ok (.iconst 1, 1) := by decide +kernel
theorem dX8_requireRow_10 : decode cX8_requireRow 10 = .ok (.isub, 1) := by decide +kernel
theorem dX8_requireRow_11 : decode cX8_requireRow 11 = .ok (.invokestatic 72, 3) := by decide +kernel
theorem dX8_requireRow_14 : decode cX8_requireRow 14 = .ok (.invokestatic 96, 3) := by decide +kernel
theorem dX8_requireRow_17 : decode cX8_requireRow 17 = .ok (.return_, 1) := by decide +kernel
theorem dX8_requireColumn_0 : decode cX8_requireColumn 0 = .ok (.iload_n 1, 1) := by decide +kernel
theorem dX8_requireColumn_1 : decode cX8_requireColumn 1 = .ok (.iconst 0, 1) := by decide +kernel
theorem dX8_requireColumn_2 : decode cX8_requireColumn 2 = .ok (.aload_n 0, 1) := by decide +kernel
theorem dX8_requireColumn_3 : decode cX8_requireColumn 3 = .ok (.getfield 10, 3) := by decide +kernel
theorem dX8_requireColumn_6 : decode cX8_requireColumn 6 = .ok (.getfield 87, 3) := by decide +kernel
theorem dX8_requireColumn_9 : decode cX8_requireColumn 9 = .ok (.iconst 1, 1) := by decide +kernel
theorem dX8_requireColumn_10 : decode cX8_requireColumn 10 = .ok (.isub, 1) := by decide +kernel
theorem dX8_requireColumn_11 : decode cX8_requireColumn 11 = .ok (.invokestatic 72, 3) := by decide +kernel
theorem dX8_requireColumn_14 : decode cX8_requireColumn 14 = .ok (.invokestatic 96, 3) := by decide +kernel
theorem dX8_requireColumn_17 : decode cX8_requireColumn 17 = .ok (.return_, 1) := by decide +kernel
theorem dX8_requireIndex_0 : decode cX8_requireIndex 0 = .ok (.iload_n 0, 1) := by decide +kernel
theorem dX8_requireIndex_1 : decode cX8_requireIndex 1 = .ok (.ifCond .ne 11, 3) := by decide +kernel
theorem dX8_requireIndex_4 : decode cX8_requireIndex 4 = .ok (.new 353, 3) := by decide +kernel
theorem dX8_requireIndex_7 : decode cX8_requireIndex 7 = .ok (.dup, 1) := by decide +kernel
theorem dX8_requireIndex_8 : decode cX8_requireIndex 8 = .ok (.invokespecial 355, 3) := by decide +kernel
theorem dX8_requireIndex_11 : decode cX8_requireIndex 11 = .ok (.athrow, 1) := by decide +kernel
theorem dX8_requireIndex_12 : decode cX8_requireIndex 12 = .ok (.return_, 1) := by decide +kernel
theorem dX8_requireArgument_0 : decode cX8_requireArgument 0 = .ok (.iload_n 0, 1) := by decide +kernel
theorem dX8_requireArgument_1 : decode cX8_requireArgument 1 = .ok (.ifCond .ne 11, 3) := by decide +kernel
theorem dX8_requireArgument_4 : decode cX8_requireArgument 4 = .ok (.new 356, 3) := by decide +kernel
theorem dX8_requireArgument_7 : decode cX8_requireArgument 7 = .ok (.dup, 1) := by decide +kernel
theorem dX8_requireArgument_8 : decode cX8_requireArgument 8 = .ok (.invokespecial 358, 3) := by decide +kernel
theorem dX8_requireArgument_11 : decode cX8_requireArgument 11 = .ok (.athrow, 1) := by decide +kernel
theorem dX8_requireArgument_12 : decode cX8_requireArgument 12 = .ok (.return_, 1) := by decide +kernel
theorem dX8_requireState_0 : decode cX8_requireState 0 = .ok (.iload_n 0, 1) := by decide +kernel
theorem dX8_requireState_1 : decode cX8_requireState 1 = .ok (.ifCond .ne 11, 3) := by decide +kernel
theorem dX8_requireState_4 : decode cX8_requireState 4 = .ok (.new 359, 3) := by decide +kernel
theorem dX8_requireState_7 : decode cX8_requireState 7 = .ok (.dup, 1) := by decide +kernel
theorem dX8_requireState_8 : decode cX8_requireState 8 = .ok (.invokespecial 361, 3) := by decide +kernel
theorem dX8_requireState_11 : decode cX8_requireState 11 = .ok (.athrow, 1) := by decide +kernel
theorem dX8_requireState_12 : decode cX8_requireState 12 = .ok (.return_, 1) := by decide +kernel
theorem dX8_requireSupport_0 : decode cX8_requireSupport 0 = .ok (.iload_n 0, 1) := by decide +kernel
theorem dX8_requireSupport_1 : decode cX8_requireSupport 1 = .ok (.ifCond .ne 11, 3) := by decide +kernel
theorem dX8_requireSupport_4 : decode cX8_requireSupport 4 = .ok (.new 362, 3) := by decide +kernel
theorem dX8_requireSupport_7 : decode cX8_requireSupport 7 = .ok (.dup, 1) := by decide +kernel
theorem dX8_requireSupport_8 : decode cX8_requireSupport 8 = .ok (.invokespecial 364, 3) := by decide +kernel
theorem dX8_requireSupport_11 : decode cX8_requireSupport 11 = .ok (.athrow, 1) := by decide +kernel
theorem dX8_requireSupport_12 : decode cX8_requireSupport 12 = .ok (.return_, 1) := by decide +kernel
theorem dX8_requireElement_0 : decode cX8_requireElement 0 = .ok (.iload_n 0, 1) := by decide +kernel
theorem dX8_requireElement_1 : decode cX8_requireElement 1 = .ok (.ifCond .ne 11, 3) := by decide +kernel
theorem dX8_requireElement_4 : decode cX8_requireElement 4 = .ok (.new 281, 3) := by decide +kernel
theorem dX8_requireElement_7 : decode cX8_requireElement 7 = .ok (.dup, 1) := by decide +kernel
theorem dX8_requireElement_8 : decode cX8_requireElement 8 = .ok (.invokespecial 283, 3) := by decide +kernel
theorem dX8_requireElement_11 : decode cX8_requireElement 11 = .ok (.athrow, 1) := by decide +kernel
theorem dX8_requireElement_12 : decode cX8_requireElement 12 = .ok (.return_, 1) := by decide +kernel
theorem dX8_isWithin_0 : decode cX8_isWithin 0 = .ok (.iload_n 0, 1) := by decide +kernel
theorem dX8_isWithin_1 : decode cX8_isWithin 1 = .ok (.iload_n 1, 1) := by decide +kernel
theorem dX8_isWithin_2 : decode cX8_isWithin 2 = .ok (.if_icmp .lt 12, 3) := by decide +kernel
theorem dX8_isWithin_5 : decode cX8_isWithin 5 = .ok (.iload_n 0, 1) := by decide +kernel
theorem dX8_isWithin_6 : decode cX8_isWithin 6 = .ok (.iload_n 2, 1) := by decide +kernel
theorem dX8_isWithin_7 : decode cX8_isWithin 7 = .ok (.if_icmp .gt 7, 3) := by decide +kernel
theorem dX8_isWithin_10 : decode cX8_isWithin 10 = .ok (.iconst 1, 1) := by decide +kernel
theorem dX8_isWithin_11 : decode cX8_isWithin 11 = .ok (.goto 4, 3) := by decide +kernel
theorem dX8_isWithin_14 : decode cX8_isWithin 14 = .ok (.iconst 0, 1) := by decide +kernel
theorem dX8_isWithin_15 : decode cX8_isWithin 15 = .ok (.ireturn, 1) := by decide +kernel
theorem dX8_isTextKind_0 : decode cX8_isTextKind 0 = .ok (.iload_n 0, 1) := by decide +kernel
theorem dX8_isTextKind_1 : decode cX8_isTextKind 1 = .ok (.iconst 3, 1) := by decide +kernel
theorem dX8_isTextKind_2 : decode cX8_isTextKind 2 = .ok (.if_icmp .gt 7, 3) := by decide +kernel
theorem dX8_isTextKind_5 : decode cX8_isTextKind 5 = .ok (.iconst 1, 1) := by decide +kernel
theorem dX8_isTextKind_6 : decode cX8_isTextKind 6 = .ok (.goto 4, 3) := by decide +kernel
theorem dX8_isTextKind_9 : decode cX8_isTextKind 9 = .ok (.iconst 0, 1) := by decide +kernel
theorem dX8_isTextKind_10 : decode cX8_isTextKind 10 = .ok (.ireturn, 1) := by decide +kernel
theorem dX9_init_0 : decode cX9_init 0 = .ok (.aload_n 0, 1) := by decide +kernel
theorem dX9_init_1 : decode cX9_init 1 = .ok (.invokespecial 3, 3) := by decide +kernel
theorem dX9_init_4 : decode cX9_init 4 = .ok (.aload_n 0, 1) := by decide +kernel
theorem dX9_init_5 : decode cX9_init 5 = .ok (.sipush 506, 3) := by decide +kernel
theorem dX9_init_8 : decode cX9_init 8 = .ok (.newarray .int, 2) := by decide +kernel
theorem dX9_init_10 : decode cX9_init 10 = .ok (.putfield 9, 3) := by decide +kernel
theorem dX9_init_13 : decode cX9_init 13 = .ok (.aload_n 0, 1) := by decide +kernel
theorem dX9_init_14 : decode cX9_init 14 = .ok (.sipush 506, 3) := by decide +kernel
theorem dX9_init_17 : decode cX9_init 17 = .ok (.newarray .int, 2) := by decide +kernel
theorem dX9_init_19 : decode cX9_init 19 = .ok (.putfield 13, 3) := by decide +kernel
theorem dX9_init_22 : decode cX9_init 22 = .ok (.aload_n 0, 1) := by decide +kernel
theorem dX9_init_23 : decode cX9_init 23 = .ok (.sipush 506, 3) := by decide +kernel
theorem dX9_init_26 : decode cX9_init 26 = .ok (.newarray .int, 2) := by decide +kernel
theorem dX9_init_28 : decode cX9_init 28 = .ok (.putfield 16, 3) := by decide +kernel
theorem dX9_init_31 : decode cX9_init 31 = .ok (.aload_n 0, 1) := by decide +kernel
theorem dX9_init_32 : decode cX9_init 32 = .ok (.bipush 60, 2) := by decide +kernel
theorem dX9_init_34 : decode cX9_init 34 = .ok (.newarray .int, 2) := by decide +kernel
theorem dX9_init_36 : decode cX9_init 36 = .ok (.putfield 19, 3) := by decide +kernel
theorem dX9_init_39 : decode cX9_init 39 = .ok (.aload_n 0, 1) := by decide +kernel
theorem dX9_init_40 : decode cX9_init 40 = .ok (.iconst (-1), 1) := by decide +kernel
theorem dX9_init_41 : decode cX9_init 41 = .ok (.putfield 22, 3) := by decide +kernel
theorem dX9_init_44 : decode cX9_init 44 = .ok (.aload_n 0, 1) := by decide +kernel
theorem dX9_init_45 : decode cX9_init 45 = .ok (.iconst 2, 1) := by decide +kernel
theorem dX9_init_46 : decode cX9_init 46 = .ok (.newarray .int, 2) := by decide +kernel
theorem dX9_init_48 : decode cX9_init 48 = .ok (.dup, 1) := by decide +kernel
theorem dX9_init_49 : decode cX9_init 49 = .ok (.iconst 0, 1) := by decide +kernel
theorem dX9_init_50 : decode cX9_init 50 = .ok (.iconst (-1), 1) := by decide +kernel
theorem dX9_init_51 : decode cX9_init 51 = .ok (.iastore, 1) := by decide +kernel
theorem dX9_init_52 : decode cX9_init 52 = .ok (.dup, 1) := by decide +kernel
theorem dX9_init_53 : decode cX9_init 53 = .ok (.iconst 1, 1) := by decide +kernel
theorem dX9_init_54 : decode cX9_init 54 = .ok (.iconst (-1), 1) := by decide +kernel
theorem dX9_init_55 : decode cX9_init 55 = .ok (.iastore, 1) := by decide +kernel
theorem dX9_init_56 : decode cX9_init 56 = .ok (.putfield 26, 3) := by decide +kernel
theorem dX9_init_59 : decode cX9_init 59 = .ok (.aload_n 0, 1) := by decide +kernel
theorem dX9_init_60 : decode cX9_init 60 = .ok (.iconst 2, 1) := by decide +kernel
theorem dX9_init_61 : decode cX9_init 61 = .ok (.newarray .int, 2) := by decide +kernel
theorem dX9_init_63 : decode cX9_init 63 = .ok (.dup, 1) := by decide +kernel
theorem dX9_init_64 : decode cX9_init 64 = .ok (.iconst 0, 1) := by decide +kernel
theorem dX9_init_65 : decode cX9_init 65 = .ok (.iconst 0, 1) := by decide +kernel
theorem dX9_init_66 : decode cX9_init 66 = .ok (.iastore, 1) := by decide +kernel
theorem dX9_init_67 : decode cX9_init 67 = .ok (.dup, 1) := by decide +kernel
theorem dX9_init_68 : decode cX9_init 68 = .ok (.iconst 1, 1) := by decide +kernel
theorem dX9_init_69 : decode cX9_init 69 = .ok (.iconst 0, 1) := by decide +kernel
theorem dX9_init_70 : decode cX9_init 70 = .ok (.iastore, 1) := by decide +kernel
theorem dX9_init_71 : decode cX9_init 71 = .ok (.putfield 29, 3) := by decide +kernel
theorem dX9_init_74 : decode cX9_init 74 = .ok (.aload_n 0, 1) := by decide +kernel
theorem dX9_init_75 : decode cX9_init 75 = .ok (.sipush 186, 3) := by decide +kernel
theorem dX9_init_78 : decode cX9_init 78 = .ok (.newarray .int, 2) := by decide +kernel
theorem dX9_init_80 : decode cX9_init 80 = .ok (.putfield 32, 3) := by decide +kernel
theorem dX9_init_83 : decode cX9_init 83 = .ok (.aload_n 0, 1) := by decide +kernel
theorem dX9_init_84 : decode cX9_init 84 = .ok (.bipush 6, 2) := by decide +kernel
theorem dX9_init_86 : decode cX9_init 86 = .ok (.newarray .boolean, 2) := by decide +kernel
theorem dX9_init_88 : decode cX9_init 88 = .ok (.putfield 35, 3) := by decide +kernel
theorem dX9_init_91 : decode cX9_init 91 = .ok (.aload_n 0, 1) := by decide +kernel
theorem dX9_init_92 : decode cX9_init 92 = .ok (.bipush 12, 2) := by decide +kernel
theorem dX9_init_94 : decode cX9_init 94 = .ok (.newarray .int, 2) := by decide +kernel
theorem dX9_init_96 : decode cX9_init 96 = .ok (.putfield 39, 3) := by decide +kernel
theorem dX9_init_99 : decode cX9_init 99 = .ok (.aload_n 0, 1) := by decide +kernel
theorem dX9_init_100 : decode cX9_init 100 = .ok (.bipush 12, 2) := by decide +kernel
theorem dX9_init_102 : decode cX9_init 102 = .ok (.newarray .int, 2) := by decide +kernel
theorem dX9_init_104 : decode cX9_init 104 = .ok (.putfield 42, 3) := by decide +kernel
theorem dX9_init_107 : decode cX9_init 107 = .ok (.aload_n 0, 1) := by decide +kernel
theorem dX9_init_108 : decode cX9_init 108 = .ok (.bipush 12, 2) := by decide +kernel
theorem dX9_init_110 : decode cX9_init 110 = .ok (.newarray .int, 2) := by decide +kernel
theorem dX9_init_112 : decode cX9_init 112 = .ok (.putfield 45, 3) := by decide +kernel
theorem dX9_init_115 : decode cX9_init 115 = .ok (.aload_n 0, 1) := by decide +kernel
theorem dX9_init_116 : decode cX9_init 116 = .ok (.iconst 4, 1) := by decide +kernel
theorem dX9_init_117 : decode cX9_init 117 = .ok (.newarray .int, 2) := by decide +kernel
theorem dX9_init_119 : decode cX9_init 119 = .ok (.putfield 48, 3) := by decide +kernel
theorem dX9_init_122 : decode cX9_init 122 = .ok (.aload_n 0, 1) := by decide +kernel
theorem dX9_init_123 : decode cX9_init 123 = .ok (.iconst 4, 1) := by decide +kernel
theorem dX9_init_124 : decode cX9_init 124 = .ok (.newarray .int, 2) := by decide +kernel
theorem dX9_init_126 : decode cX9_init 126 = .ok (.putfield 51, 3) := by decide +kernel
theorem dX9_init_129 : decode cX9_init 129 = .ok (.aload_n 0, 1) := by decide +kernel
theorem dX9_init_130 : decode cX9_init 130 = .ok (.iconst 4, 1) := by decide +kernel
theorem dX9_init_131 : decode cX9_init 131 = .ok (.newarray .int, 2) := by decide +kernel
theorem dX9_init_133 : decode cX9_init 133 = .ok (.putfield 54, 3) := by decide +kernel
theorem dX9_init_136 : decode cX9_init 136 = .ok (.aload_n 0, 1) := by decide +kernel
theorem dX9_init_137 : decode cX9_init 137 = .ok (.iconst 4, 1) := by decide +kernel
theorem dX9_init_138 : decode cX9_init 138 = .ok (.newarray .int, 2) := by decide +kernel
theorem dX9_init_140 : decode cX9_init 140 = .ok (.putfield 57, 3) := by decide +kernel
theorem dX9_init_143 : decode cX9_init 143 = .ok (.aload_n 0, 1) := by decide +kernel
theorem dX9_init_144 : decode cX9_init 144 = .ok (.iconst 4, 1) := by decide +kernel
theorem dX9_init_145 : decode cX9_init 145 = .ok (.newarray .int, 2) := by decide +kernel
theorem dX9_init_147 : decode cX9_init 147 = .ok (.putfield 60, 3) := by decide +kernel
theorem dX9_init_150 : decode cX9_init 150 = .ok (.aload_n 0, 1) := by decide +kernel
theorem dX9_init_151 : decode cX9_init 151 = .ok (.bipush 16, 2) := by decide +kernel
theorem dX9_init_153 : decode cX9_init 153 = .ok (.newarray .int, 2) := by decide +kernel
theorem dX9_init_155 : decode cX9_init 155 = .ok (.putfield 63, 3) := by decide +kernel
theorem dX9_init_158 : decode cX9_init 158 = .ok (.aload_n 0, 1) := by decide +kernel
theorem dX9_init_159 : decode cX9_init 159 = .ok (.iconst 4, 1) := by decide +kernel
theorem dX9_init_160 : decode cX9_init 160 = .ok (.newarray .int, 2) := by decide +kernel
theorem dX9_init_162 : decode cX9_init 162 = .ok (.putfield 66, 3) := by decide +kernel
theorem dX9_init_165 : decode cX9_init 165 = .ok (.aload_n 0, 1) := by decide +kernel
theorem dX9_init_166 : decode cX9_init 166 = .ok (.sipush 1600, 3) := by decide +kernel
theorem dX9_init_169 : decode cX9_init 169 = .ok (.newarray .int, 2) := by decide +kernel
theorem dX9_init_171 : decode cX9_init 171 = .ok (.putfield 69, 3) := by decide +kernel
theorem dX9_init_174 : decode cX9_init 174 = .ok (.aload_n 0, 1) := by decide +kernel
theorem dX9_init_175 : decode cX9_init 175 = .ok (.bipush 6, 2) := by decide +kernel
theorem dX9_init_177 : decode cX9_init 177 = .ok (.newarray .int, 2) := by decide +kernel
theorem dX9_init_179 : decode cX9_init 179 = .ok (.putfield 72, 3) := by decide +kernel
theorem dX9_init_182 : decode cX9_init 182 = .ok (.aload_n 0, 1) := by decide +kernel
theorem dX9_init_183 : decode cX9_init 183 = .ok (.iconst 4, 1) := by decide +kernel
theorem dX9_init_184 : decode cX9_init 184 = .ok (.newarray .int, 2) := by decide +kernel
theorem dX9_init_186 : decode cX9_init 186 = .ok (.putfield 75, 3) := by decide +kernel
theorem dX9_init_189 : decode cX9_init 189 = .ok (.aload_n 0, 1) := by decide +kernel
theorem dX9_init_190 : decode cX9_init 190 = .ok (.iconst 4, 1) := by decide +kernel
theorem dX9_init_191 : decode cX9_init 191 = .ok (.newarray .int, 2) := by decide +kernel
theorem dX9_init_193 : decode cX9_init 193 = .ok (.putfield 78, 3) := by decide +kernel
theorem dX9_init_196 : decode cX9_init 196 = .ok (.aload_n 0, 1) := by decide +kernel
theorem dX9_init_197 : decode cX9_init 197 = .ok (.iconst 4, 1) := by decide +kernel
theorem dX9_init_198 : decode cX9_init 198 = .ok (.newarray .int, 2) := by decide +kernel
theorem dX9_init_200 : decode cX9_init 200 = .ok (.putfield 81, 3) := by decide +kernel
theorem dX9_init_203 : decode cX9_init 203 = .ok (.aload_n 0, 1) := by decide +kernel
theorem dX9_init_204 : decode cX9_init 204 = .ok (.getfield 9, 3) := by decide +kernel
theorem dX9_init_207 : decode cX9_init 207 = .ok (.iconst 0, 1) := by decide +kernel
theorem dX9_init_208 : decode cX9_init 208 = .ok (.iconst 3, 1) := by decide +kernel
theorem dX9_init_209 : decode cX9_init 209 = .ok (.iastore, 1) := by decide +kernel
theorem dX9_init_210 : decode cX9_init 210 = .ok (.aload_n 0, 1) := by decide +kernel
theorem dX9_init_211 : decode cX9_init 211 = .ok (.getfield 9, 3) := by decide +kernel
theorem dX9_init_214 : decode cX9_init 214 = .ok (.iconst 1, 1) := by decide +kernel
theorem dX9_init_215 : decode cX9_init 215 = .ok (.bipush 30, 2) := by decide +kernel
theorem dX9_init_217 : decode cX9_init 217 = .ok (.iastore, 1) := by decide +kernel
theorem dX9_init_218 : decode cX9_init 218 = .ok (.aload_n 0, 1) := by decide +kernel
theorem dX9_init_219 : decode cX9_init 219 = .ok (.getfield 9, 3) := by decide +kernel
theorem dX9_init_222 : decode cX9_init 222 = .ok (.iconst 2, 1) := by decide +kernel
theorem dX9_init_223 : decode cX9_init 223 = .ok (.iconst 1, 1) := by decide +kernel
theorem dX9_init_224 : decode cX9_init 224 = .ok (.iastore, 1) := by decide +kernel
theorem dX9_init_225 : decode cX9_init 225 = .ok (.return_, 1) := by decide +kernel
theorem dX9_thrown_0 : decode cX9_thrown 0 = .ok (.aload_n 0, 1) := by decide +kernel
theorem dX9_thrown_1 : decode cX9_thrown 1 = .ok (.getfield 84, 3) := by decide +kernel
theorem dX9_thrown_4 : decode cX9_thrown 4 = .ok (.ireturn, 1) := by decide +kernel
theorem dX9_fails_0 : decode cX9_fails 0 = .ok (.aload_n 0, 1) := by decide +kernel
theorem dX9_fails_1 : decode cX9_fails 1 = .ok (.iload_n 1, 1) := by decide +kernel
theorem dX9_fails_2 : decode cX9_fails 2 = .ok (.putfield 84, 3) := by decide +kernel
theorem dX9_fails_5 : decode cX9_fails 5 = .ok (.iconst 0, 1) := by decide +kernel
theorem dX9_fails_6 : decode cX9_fails 6 = .ok (.ireturn, 1) := by decide +kernel
theorem dX9_in_0 : decode cX9_in 0 = .ok (.iload_n 0, 1) := by decide +kernel
theorem dX9_in_1 : decode cX9_in 1 = .ok (.iload_n 1, 1) := by decide +kernel
theorem dX9_in_2 : decode cX9_in 2 = .ok (.if_icmp .lt 12, 3) := by decide +kernel
theorem dX9_in_5 : decode cX9_in 5 = .ok (.iload_n 0, 1) := by decide +kernel
theorem dX9_in_6 : decode cX9_in 6 = .ok (.iload_n 2, 1) := by decide +kernel
theorem dX9_in_7 : decode cX9_in 7 = .ok (.if_icmp .gt 7, 3) := by decide +kernel
theorem dX9_in_10 : decode cX9_in 10 = .ok (.iconst 1, 1) := by decide +kernel
theorem dX9_in_11 : decode cX9_in 11 = .ok (.goto 4, 3) := by decide +kernel
theorem dX9_in_14 : decode cX9_in 14 = .ok (.iconst 0, 1) := by decide +kernel
theorem dX9_in_15 : decode cX9_in 15 = .ok (.ireturn, 1) := by decide +kernel
theorem dX9_greater_0 : decode cX9_greater 0 = .ok (.iload_n 0, 1) := by decide +kernel
theorem dX9_greater_1 : decode cX9_greater 1 = .ok (.iload_n 1, 1) := by decide +kernel
theorem dX9_greater_2 : decode cX9_greater 2 = .ok (.if_icmp .le 7, 3) := by decide +kernel
theorem dX9_greater_5 : decode cX9_greater 5 = .ok (.iload_n 0, 1) := by decide +kernel
theorem dX9_greater_6 : decode cX9_greater 6 = .ok (.goto 4, 3) := by decide +kernel
theorem dX9_greater_9 : decode cX9_greater 9 = .ok (.iload_n 1, 1) := by decide +kernel
theorem dX9_greater_10 : decode cX9_greater 10 = .ok (.ireturn, 1) := by decide +kernel
theorem dX9_isColumn_0 : decode cX9_isColumn 0 = .ok (.iload_n 1, 1) := by decide +kernel
theorem dX9_isColumn_1 : decode cX9_isColumn 1 = .ok (.iconst 0, 1) := by decide +kernel
theorem dX9_isColumn_2 : decode cX9_isColumn 2 = .ok (.aload_n 0, 1) := by decide +kernel
theorem dX9_isColumn_3 : decode cX9_isColumn 3 = .ok (.getfield 9, 3) := by decide +kernel
theorem dX9_isColumn_6 : decode cX9_isColumn 6 = .ok (.iconst 0, 1) := by decide +kernel
theorem dX9_isColumn_7 : decode cX9_isColumn 7 = .ok (.iaload, 1) := by decide +kernel
theorem dX9_isColumn_8 : decode cX9_isColumn 8 = .ok (.iconst 1, 1) := by decide +kernel
theorem dX9_isColumn_9 : decode cX9_isColumn 9 = .ok (.isub, 1) := by decide +kernel
theorem dX9_isColumn_10 : decode cX9_isColumn 10 = .ok (.invokestatic 87, 3) := by decide +kernel
theorem dX9_isColumn_13 : decode cX9_isColumn 13 = .ok (.ireturn, 1) := by decide +kernel
theorem dX9_isRow_0 : decode cX9_isRow 0 = .ok (.iload_n 1, 1) := by decide +kernel
theorem dX9_isRow_1 : decode cX9_isRow 1 = .ok (.iconst 0, 1) := by decide +kernel
theorem dX9_isRow_2 : decode cX9_isRow 2 = .ok (.aload_n 0, 1) := by decide +kernel
theorem dX9_isRow_3 : decode cX9_isRow 3 = .ok (.getfield 9, 3) := by decide +kernel
theorem dX9_isRow_6 : decode cX9_isRow 6 = .ok (.iconst 4, 1) := by decide +kernel
theorem dX9_isRow_7 : decode cX9_isRow 7 = .ok (.iaload, 1) := by decide +kernel
theorem dX9_isRow_8 : decode cX9_isRow 8 = .ok (.iconst 1, 1) := by decide +kernel
theorem dX9_isRow_9 : decode cX9_isRow 9 = .ok (.isub, 1) := by decide +kernel
theorem dX9_isRow_10 : decode cX9_isRow 10 = .ok (.invokestatic 87, 3) := by decide +kernel
theorem dX9_isRow_13 : decode cX9_isRow 13 = .ok (.ireturn, 1) := by decide +kernel
theorem dX9_isCell_0 : decode cX9_isCell 0 = .ok (.iload_n 1, 1) := by decide +kernel
theorem dX9_isCell_1 : decode cX9_isCell 1 = .ok (.iconst 0, 1) := by decide +kernel
theorem dX9_isCell_2 : decode cX9_isCell 2 = .ok (.aload_n 0, 1) := by decide +kernel
theorem dX9_isCell_3 : decode cX9_isCell 3 = .ok (.getfield 9, 3) := by decide +kernel
theorem dX9_isCell_6 : decode cX9_isCell 6 = .ok (.iconst 5, 1) := by decide +kernel
theorem dX9_isCell_7 : decode cX9_isCell 7 = .ok (.iaload, 1) := by decide +kernel
theorem dX9_isCell_8 : decode cX9_isCell 8 = .ok (.iconst 1, 1) := by decide +kernel
theorem dX9_isCell_9 : decode cX9_isCell 9 = .ok (.isub, 1) := by decide +kernel
theorem dX9_isCell_10 : decode cX9_isCell 10 = .ok (.invokestatic 87, 3) := by decide +kernel
theorem dX9_isCell_13 : decode cX9_isCell 13 = .ok (.ireturn, 1) := by decide +kernel
theorem dX9_of_0 : decode cX9_of 0 = .ok (.aload_n 0, 1) := by decide +kernel
theorem dX9_of_1 : decode cX9_of 1 = .ok (.getfield 9, 3) := by decide +kernel
theorem dX9_of_4 : decode cX9_of 4 = .ok (.bipush 10, 2) := by decide +kernel
theorem dX9_of_6 : decode cX9_of 6 = .ok (.bipush 31, 2) := by decide +kernel
theorem dX9_of_8 : decode cX9_of 8 = .ok (.iload_n 1, 1) := by decide +kernel
theorem dX9_of_9 : decode cX9_of 9 = .ok (.imul, 1) := by decide +kernel
theorem dX9_of_10 : decode cX9_of 10 = .ok (.iadd, 1) := by decide +kernel
theorem dX9_of_11 : decode cX9_of 11 = .ok (.iload_n 2, 1) := by decide +kernel
theorem dX9_of_12 : decode cX9_of 12 = .ok (.iadd, 1) := by decide +kernel
theorem dX9_of_13 : decode cX9_of 13 = .ok (.iaload, 1) := by decide +kernel
theorem dX9_of_14 : decode cX9_of 14 = .ok (.ireturn, 1) := by decide +kernel
theorem dX9_isText_0 : decode cX9_isText 0 = .ok (.aload_n 0, 1) := by decide +kernel
theorem dX9_isText_1 : decode cX9_isText 1 = .ok (.iload_n 1, 1) := by decide +kernel
theorem dX9_isText_2 : decode cX9_isText 2 = .ok (.iconst 3, 1) := by decide +kernel
theorem dX9_isText_3 : decode cX9_isText 3 = .ok (.invokevirtual 91, 3) := by decide +kernel
theorem dX9_isText_6 : decode cX9_isText 6 = .ok (.iconst 4, 1) := by decide +kernel
theorem dX9_isText_7 : decode cX9_isText 7 = .ok (.if_icmp .ge 7, 3) := by decide +kernel
theorem dX9_isText_10 : decode cX9_isText 10 = .ok (.iconst 1, 1) := by decide +kernel
theorem dX9_isText_11 : decode cX9_isText 11 = .ok (.goto 4, 3) := by decide +kernel
theorem dX9_isText_14 : decode cX9_isText 14 = .ok (.iconst 0, 1) := by decide +kernel
theorem dX9_isText_15 : decode cX9_isText 15 = .ok (.ireturn, 1) := by decide +kernel
theorem dX9_isAuto_0 : decode cX9_isAuto 0 = .ok (.aload_n 0, 1) := by decide +kernel
theorem dX9_isAuto_1 : decode cX9_isAuto 1 = .ok (.getfield 9, 3) := by decide +kernel
theorem dX9_isAuto_4 : decode cX9_isAuto 4 = .ok (.bipush 6, 2) := by decide +kernel
theorem dX9_isAuto_6 : decode cX9_isAuto 6 = .ok (.iload_n 1, 1) := by decide +kernel
theorem dX9_isAuto_7 : decode cX9_isAuto 7 = .ok (.iadd, 1) := by decide +kernel
theorem dX9_isAuto_8 : decode cX9_isAuto 8 = .ok (.iaload, 1) := by decide +kernel
theorem dX9_isAuto_9 : decode cX9_isAuto 9 = .ok (.ifCond .ne 7, 3) := by decide +kernel
theorem dX9_isAuto_12 : decode cX9_isAuto 12 = .ok (.iconst 1, 1) := by decide +kernel
theorem dX9_isAuto_13 : decode cX9_isAuto 13 = .ok (.goto 4, 3) := by decide +kernel
theorem dX9_isAuto_16 : decode cX9_isAuto 16 = .ok (.iconst 0, 1) := by decide +kernel
theorem dX9_isAuto_17 : decode cX9_isAuto 17 = .ok (.ireturn, 1) := by decide +kernel
theorem dX9_isFixed_0 : decode cX9_isFixed 0 = .ok (.aload_n 0, 1) := by decide +kernel
theorem dX9_isFixed_1 : decode cX9_isFixed 1 = .ok (.getfield 9, 3) := by decide +kernel
theorem dX9_isFixed_4 : decode cX9_isFixed 4 = .ok (.bipush 6, 2) := by decide +kernel
theorem dX9_isFixed_6 : decode cX9_isFixed 6 = .ok (.iload_n 1, 1) := by decide +kernel
theorem dX9_isFixed_7 : decode cX9_isFixed 7 = .ok (.iadd, 1) := by decide +kernel
theorem dX9_isFixed_8 : decode cX9_isFixed 8 = .ok (.iaload, 1) := by decide +kernel
theorem dX9_isFixed_9 : decode cX9_isFixed 9 = .ok (.bipush 100, 2) := by decide +kernel
theorem dX9_isFixed_11 : decode cX9_isFixed 11 = .ok (.sipush 199, 3) := by decide +kernel
theorem dX9_isFixed_14 : decode cX9_isFixed 14 = .ok (.invokestatic 87, 3) := by decide +kernel
theorem dX9_isFixed_17 : decode cX9_isFixed 17 = .ok (.ireturn, 1) := by decide +kernel
theorem dX9_isShared_0 : decode cX9_isShared 0 = .ok (.aload_n 0, 1) := by decide +kernel
theorem dX9_isShared_1 : decode cX9_isShared 1 = .ok (.getfield 9, 3) := by decide +kernel
theorem dX9_isShared_4 : decode cX9_isShared 4 = .ok (.bipush 6, 2) := by decide +kernel
theorem dX9_isShared_6 : decode cX9_isShared 6 = .ok (.iload_n 1, 1) := by decide +kernel
theorem dX9_isShared_7 : decode cX9_isShared 7 = .ok (.iadd, 1) := by decide +kernel
theorem dX9_isShared_8 : decode cX9_isShared 8 = .ok (.iaload, 1) := by decide +kernel
theorem dX9_isShared_9 : decode cX9_isShared 9 = .ok (.sipush 200, 3) := by decide +kernel
theorem dX9_isShared_12 : decode cX9_isShared 12 = .ok (.if_icmp .lt 7, 3) := by decide +kernel
theorem dX9_isShared_15 : decode cX9_isShared 15 = .ok (.iconst 1, 1) := by decide +kernel
theorem dX9_isShared_16 : decode cX9_isShared 16 = .ok (.goto 4, 3) := by decide +kernel
theorem dX9_isShared_19 : decode cX9_isShared 19 = .ok (.iconst 0, 1) := by decide +kernel
theorem dX9_isShared_20 : decode cX9_isShared 20 = .ok (.ireturn, 1) := by decide +kernel
theorem dX9_keeps_0 : decode cX9_keeps 0 = .ok (.iconst 0, 1) := by decide +kernel
theorem dX9_keeps_1 : decode cX9_keeps 1 = .ok (.istore_n 1, 1) := by decide +kernel
theorem dX9_keeps_2 : decode cX9_keeps 2 = .ok (.iload_n 1, 1) := by decide +kernel
theorem dX9_keeps_3 : decode cX9_keeps 3 = .ok (.sipush 506, 3) := by decide +kernel
theorem dX9_keeps_6 : decode cX9_keeps 6 = .ok (.if_icmp .ge 21, 3) := by decide +kernel
theorem dX9_keeps_9 : decode cX9_keeps 9 = .ok (.aload_n 0, 1) := by decide +kernel
theorem dX9_keeps_10 : decode cX9_keeps 10 = .ok (.getfield 16, 3) := by decide +kernel
theorem dX9_keeps_13 : decode cX9_keeps 13 = .ok (.iload_n 1, 1) := by decide +kernel
theorem dX9_keeps_14 : decode cX9_keeps 14 = .ok (.aload_n 0, 1) := by decide +kernel
theorem dX9_keeps_15 : decode cX9_keeps 15 = .ok (.getfield 9, 3) := by decide +kernel
theorem dX9_keeps_18 : decode cX9_keeps 18 = .ok (.iload_n 1, 1) := by decide +kernel
theorem dX9_keeps_19 : decode cX9_keeps 19 = .ok (.iaload, 1) := by decide +kernel
theorem dX9_keeps_20 : decode cX9_keeps 20 = .ok (.iastore, 1) := by decide +kernel
theorem dX9_keeps_21 : decode cX9_keeps 21 = .ok (.iinc 1 1, 3) := by decide +kernel
theorem dX9_keeps_24 : decode cX9_keeps 24 = .ok (.goto (-22), 3) := by decide +kernel
theorem dX9_keeps_27 : decode cX9_keeps 27 = .ok (.return_, 1) := by decide +kernel
theorem dX9_goesBack_0 : decode cX9_goesBack 0 = .ok (.iconst 0, 1) := by decide +kernel
theorem dX9_goesBack_1 : decode cX9_goesBack 1 = .ok (.istore_n 1, 1) := by decide +kernel
theorem dX9_goesBack_2 : decode cX9_goesBack 2 = .ok (.iload_n 1, 1) := by decide +kernel
theorem dX9_goesBack_3 : decode cX9_goesBack 3 = .ok (.sipush 506, 3) := by decide +kernel
theorem dX9_goesBack_6 : decode cX9_goesBack 6 = .ok (.if_icmp .ge 21, 3) := by decide +kernel
theorem dX9_goesBack_9 : decode cX9_goesBack 9 = .ok (.aload_n 0, 1) := by decide +kernel
theorem dX9_goesBack_10 : decode cX9_goesBack 10 = .ok (.getfield 9, 3) := by decide +kernel
theorem dX9_goesBack_13 : decode cX9_goesBack 13 = .ok (.iload_n 1, 1) := by decide +kernel
theorem dX9_goesBack_14 : decode cX9_goesBack 14 = .ok (.aload_n 0, 1) := by decide +kernel
theorem dX9_goesBack_15 : decode cX9_goesBack 15 = .ok (.getfield 16, 3) := by decide +kernel
theorem dX9_goesBack_18 : decode cX9_goesBack 18 = .ok (.iload_n 1, 1) := by decide +kernel
theorem dX9_goesBack_19 : decode cX9_goesBack 19 = .ok (.iaload, 1) := by decide +kernel
theorem dX9_goesBack_20 : decode cX9_goesBack 20 = .ok (.iastore, 1) := by decide +kernel
theorem dX9_goesBack_21 : decode cX9_goesBack 21 = .ok (.iinc 1 1, 3) := by decide +kernel
theorem dX9_goesBack_24 : decode cX9_goesBack 24 = .ok (.goto (-22), 3) := by decide +kernel
theorem dX9_goesBack_27 : decode cX9_goesBack 27 = .ok (.return_, 1) := by decide +kernel
theorem dX9_setColumns_0 : decode cX9_setColumns 0 = .ok (.aload_n 0, 1) := by decide +kernel
theorem dX9_setColumns_1 : decode cX9_setColumns 1 = .ok (.iconst 0, 1) := by decide +kernel
theorem dX9_setColumns_2 : decode cX9_setColumns 2 = .ok (.putfield 84, 3) := by decide +kernel
theorem dX9_setColumns_5 : decode cX9_setColumns 5 = .ok (.iload_n 1, 1) := by decide +kernel
theorem dX9_setColumns_6 : decode cX9_setColumns 6 = .ok (.iconst 1, 1) := by decide +kernel
theorem dX9_setColumns_7 : decode cX9_setColumns 7 = .ok (.iconst 4, 1) := by decide +kernel
theorem dX9_setColumns_8 : decode cX9_setColumns 8 = .ok (.invokestatic 87, 3) := by decide +kernel
theorem dX9_setColumns_11 : decode cX9_setColumns 11 = .ok (.ifCond .ne 9, 3) := by decide +kernel
theorem dX9_setColumns_14 : decode cX9_setColumns 14 = .ok (.aload_n 0, 1) := by decide +kernel
theorem dX9_setColumns_15 : decode cX9_setColumns 15 = .ok (.iconst 1, 1) := by decide +kernel
theorem dX9_setColumns_16 : decode cX9_setColumns 16 = .ok (.invokevirtual 95, 3) := by decide +kernel
theorem dX9_setColumns_19 : decode cX9_setColumns 19 = .ok (.ireturn, 1) := by decide +kernel
theorem dX9_setColumns_20 : decode cX9_setColumns 20 = .ok (.aload_n 0, 1) := by decide +kernel
theorem dX9_setColumns_21 : decode cX9_setColumns 21 = .ok (.getfield 9, 3) := by decide +kernel
theorem dX9_setColumns_24 : decode cX9_setColumns 24 = .ok (.iconst 5, 1) := by decide +kernel
theorem dX9_setColumns_25 : decode cX9_setColumns 25 = .ok (.iaload, 1) := by decide +kernel
theorem dX9_setColumns_26 : decode cX9_setColumns 26 = .ok (.ifCond .le 9, 3) := by decide +kernel
theorem dX9_setColumns_29 : decode cX9_setColumns 29 = .ok (.aload_n 0, 1) := by decide +kernel
theorem dX9_setColumns_30 : decode cX9_setColumns 30 = .ok (.iconst 2, 1) := by decide +kernel
theorem dX9_setColumns_31 : decode cX9_setColumns 31 = .ok (.invokevirtual 95, 3) := by decide +kernel
theorem dX9_setColumns_34 : decode cX9_setColumns 34 = .ok (.ireturn, 1) := by decide +kernel
theorem dX9_setColumns_35 : decode cX9_setColumns 35 = .ok (.aload_n 0, 1) := by decide +kernel
theorem dX9_setColumns_36 : decode cX9_setColumns 36 = .ok (.getfield 9, 3) := by decide +kernel
theorem dX9_setColumns_39 : decode cX9_setColumns 39 = .ok (.iconst 0, 1) := by decide +kernel
theorem dX9_setColumns_40 : decode cX9_setColumns 40 = .ok (.iaload, 1) := by decide +kernel
theorem dX9_setColumns_41 : decode cX9_setColumns 41 = .ok (.istore_n 2, 1) := by decide +kernel
theorem dX9_setColumns_42 : decode cX9_setColumns 42 = .ok (.aload_n 0, 1) := by decide +kernel
theorem dX9_setColumns_43 : decode cX9_setColumns 43 = .ok (.getfield 9, 3) := by decide +kernel
theorem dX9_setColumns_46 : decode cX9_setColumns 46 = .ok (.iconst 0, 1) := by decide +kernel
theorem dX9_setColumns_47 : decode cX9_setColumns 47 = .ok (.iload_n 1, 1) := by decide +kernel
theorem dX9_setColumns_48 : decode cX9_setColumns 48 = .ok (.iastore, 1) := by decide +kernel
theorem dX9_setColumns_49 : decode cX9_setColumns 49 = .ok (.iconst 0, 1) := by decide +kernel
theorem dX9_setColumns_50 : decode cX9_setColumns 50 = .ok (.istore_n 3, 1) := by decide +kernel
theorem dX9_setColumns_51 : decode cX9_setColumns 51 = .ok (.iload_n 3, 1) := by decide +kernel
theorem dX9_setColumns_52 : decode cX9_setColumns 52 = .ok (.iconst 4, 1) := by decide +kernel
theorem dX9_setColumns_53 : decode cX9_setColumns 53 = .ok (.if_icmp .ge 19, 3) := by decide +kernel
theorem dX9_setColumns_56 : decode cX9_setColumns 56 = .ok (.aload_n 0, 1) := by decide +kernel
theorem dX9_setColumns_57 : decode cX9_setColumns 57 = .ok (.getfield 9, 3) := by decide +kernel
theorem dX9_setColumns_60 : decode cX9_setColumns 60 = .ok (.bipush 6, 2) := by decide +kernel
theorem dX9_setColumns_62 : decode cX9_setColumns 62 = .ok (.iload_n 3, 1) := by decide +kernel
theorem dX9_setColumns_63 : decode cX9_setColumns 63 = .ok (.iadd, 1) := by decide +kernel
theorem dX9_setColumns_64 : decode cX9_setColumns 64 = .ok (.iconst 0, 1) := by decide +kernel
theorem dX9_setColumns_65 : decode cX9_setColumns 65 = .ok (.iastore, 1) := by decide +kernel
theorem dX9_setColumns_66 : decode cX9_setColumns 66 = .ok (.iinc 3 1, 3) := by decide +kernel
theorem dX9_setColumns_69 : decode cX9_setColumns 69 = .ok (.goto (-18), 3) := by decide +kernel
theorem dX9_setColumns_72 : decode cX9_setColumns 72 = .ok (.iload_n 2, 1) := by decide +kernel
theorem dX9_setColumns_73 : decode cX9_setColumns 73 = .ok (.ireturn, 1) := by decide +kernel
theorem dX9_isMeasure_0 : decode cX9_isMeasure 0 = .ok (.iload_n 0, 1) := by decide +kernel
theorem dX9_isMeasure_1 : decode cX9_isMeasure 1 = .ok (.ifCond .ne 14, 3) := by decide +kernel
theorem dX9_isMeasure_4 : decode cX9_isMeasure 4 = .ok (.iload_n 1, 1) := by decide +kernel
theorem dX9_isMeasure_5 : decode cX9_isMeasure 5 = .ok (.bipush 8, 2) := by decide +kernel
theorem dX9_isMeasure_7 : decode cX9_isMeasure 7 = .ok (.bipush 36, 2) := by decide +kernel
theorem dX9_isMeasure_9 : decode cX9_isMeasure 9 = .ok (.invokestatic 87, 3) := by decide +kernel
theorem dX9_isMeasure_12 : decode cX9_isMeasure 12 = .ok (.goto 9, 3) := by decide +kernel
theorem dX9_isMeasure_15 : decode cX9_isMeasure 15 = .ok (.iload_n 1, 1) := by decide +kernel
theorem dX9_isMeasure_16 : decode cX9_isMeasure 16 = .ok (.iconst 0, 1) := by decide +kernel
theorem dX9_isMeasure_17 : decode cX9_isMeasure 17 = .ok (.iconst 2, 1) := by decide +kernel
theorem dX9_isMeasure_18 : decode cX9_isMeasure 18 = .ok (.invokestatic 87, 3) := by decide +kernel
theorem dX9_isMeasure_21 : decode cX9_isMeasure 21 = .ok (.ireturn, 1) := by decide +kernel
theorem dX9_setMeasure_0 : decode cX9_setMeasure 0 = .ok (.aload_n 0, 1) := by decide +kernel
theorem dX9_setMeasure_1 : decode cX9_setMeasure 1 = .ok (.iconst 0, 1) := by decide +kernel
theorem dX9_setMeasure_2 : decode cX9_setMeasure 2 = .ok (.putfield 84, 3) := by decide +kernel
theorem dX9_setMeasure_5 : decode cX9_setMeasure 5 = .ok (.iload_n 1, 1) := by decide +kernel
theorem dX9_setMeasure_6 : decode cX9_setMeasure 6 = .ok (.iconst 0, 1) := by decide +kernel
theorem dX9_setMeasure_7 : decode cX9_setMeasure 7 = .ok (.iconst 2, 1) := by decide +kernel
theorem dX9_setMeasure_8 : decode cX9_setMeasure 8 = .ok (.invokestatic 87, 3) := by decide +kernel
theorem dX9_setMeasure_11 : decode cX9_setMeasure 11 = .ok (.ifCond .ne 9, 3) := by decide +kernel
theorem dX9_setMeasure_14 : decode cX9_setMeasure 14 = .ok (.aload_n 0, 1) := by decide +kernel
theorem dX9_setMeasure_15 : decode cX9_setMeasure 15 = .ok (.iconst 1, 1) := by decide +kernel
theorem dX9_setMeasure_16 : decode cX9_setMeasure 16 = .ok (.invokevirtual 95, 3) := by decide +kernel
theorem dX9_setMeasure_19 : decode cX9_setMeasure 19 = .ok (.ireturn, 1) := by decide +kernel
theorem dX9_setMeasure_20 : decode cX9_setMeasure 20 = .ok (.iload_n 1, 1) := by decide +kernel
theorem dX9_setMeasure_21 : decode cX9_setMeasure 21 = .ok (.iload_n 2, 1) := by decide +kernel
theorem dX9_setMeasure_22 : decode cX9_setMeasure 22 = .ok (.invokestatic 99, 3) := by decide +kernel
theorem dX9_setMeasure_25 : decode cX9_setMeasure 25 = .ok (.ifCond .ne 9, 3) := by decide +kernel
theorem dX9_setMeasure_28 : decode cX9_setMeasure 28 = .ok (.aload_n 0, 1) := by decide +kernel
theorem dX9_setMeasure_29 : decode cX9_setMeasure 29 = .ok (.iconst 2, 1) := by decide +kernel
theorem dX9_setMeasure_30 : decode cX9_setMeasure 30 = .ok (.invokevirtual 95, 3) := by decide +kernel
theorem dX9_setMeasure_33 : decode cX9_setMeasure 33 = .ok (.ireturn, 1) := by decide +kernel
theorem dX9_setMeasure_34 : decode cX9_setMeasure 34 = .ok (.aload_n 0, 1) := by decide +kernel
theorem dX9_setMeasure_35 : decode cX9_setMeasure 35 = .ok (.getfield 9, 3) := by decide +kernel
theorem dX9_setMeasure_38 : decode cX9_setMeasure 38 = .ok (.iconst 1, 1) := by decide +kernel
theorem dX9_setMeasure_39 : decode cX9_setMeasure 39 = .ok (.iload_n 1, 1) := by decide +kernel
theorem dX9_setMeasure_40 : decode cX9_setMeasure 40 = .ok (.iadd, 1) := by decide +kernel
theorem dX9_setMeasure_41 : decode cX9_setMeasure 41 = .ok (.iaload, 1) := by decide +kernel
theorem dX9_setMeasure_42 : decode cX9_setMeasure 42 = .ok (.istore_n 3, 1) := by decide +kernel
theorem dX9_setMeasure_43 : decode cX9_setMeasure 43 = .ok (.aload_n 0, 1) := by decide +kernel
theorem dX9_setMeasure_44 : decode cX9_setMeasure 44 = .ok (.getfield 9, 3) := by decide +kernel
theorem dX9_setMeasure_47 : decode cX9_setMeasure 47 = .ok (.iconst 1, 1) := by decide +kernel
theorem dX9_setMeasure_48 : decode cX9_setMeasure 48 = .ok (.iload_n 1, 1) := by decide +kernel
theorem dX9_setMeasure_49 : decode cX9_setMeasure 49 = .ok (.iadd, 1) := by decide +kernel
theorem dX9_setMeasure_50 : decode cX9_setMeasure 50 = .ok (.iload_n 2, 1) := by decide +kernel
theorem dX9_setMeasure_51 : decode cX9_setMeasure 51 = .ok (.iastore, 1) := by decide +kernel
theorem dX9_setMeasure_52 : decode cX9_setMeasure 52 = .ok (.iload_n 3, 1) := by decide +kernel
theorem dX9_setMeasure_53 : decode cX9_setMeasure 53 = .ok (.ireturn, 1) := by decide +kernel
theorem dX9_setColumn_0 : decode cX9_setColumn 0 = .ok (.aload_n 0, 1) := by decide +kernel
theorem dX9_setColumn_1 : decode cX9_setColumn 1 = .ok (.iconst 0, 1) := by decide +kernel
theorem dX9_setColumn_2 : decode cX9_setColumn 2 = .ok (.putfield 84, 3) := by decide +kernel
theorem dX9_setColumn_5 : decode cX9_setColumn 5 = .ok (.aload_n 0, 1) := by decide +kernel
theorem dX9_setColumn_6 : decode cX9_setColumn 6 = .ok (.iload_n 1, 1) := by decide +kernel
theorem dX9_setColumn_7 : decode cX9_setColumn 7 = .ok (.invokevirtual 103, 3) := by decide +kernel
theorem dX9_setColumn_10 : decode cX9_setColumn 10 = .ok (.ifCond .ne 9, 3) := by decide +kernel
theorem dX9_setColumn_13 : decode cX9_setColumn 13 = .ok (.aload_n 0, 1) := by decide +kernel
theorem dX9_setColumn_14 : decode cX9_setColumn 14 = .ok (.iconst 1, 1) := by decide +kernel
theorem dX9_setColumn_15 : decode cX9_setColumn 15 = .ok (.invokevirtual 95, 3) := by decide +kernel
theorem dX9_setColumn_18 : decode cX9_setColumn 18 = .ok (.ireturn, 1) := by decide +kernel
theorem dX9_setColumn_19 : decode cX9_setColumn 19 = .ok (.iload_n 2, 1) := by decide +kernel
theorem dX9_setColumn_20 : decode cX9_setColumn 20 = .ok (.iconst 0, 1) := by decide +kernel
theorem dX9_setColumn_21 : decode cX9_setColumn 21 = .ok (.iconst 2, 1) := by decide +kernel
theorem dX9_setColumn_22 : decode cX9_setColumn 22 = .ok (.invokestatic 87, 3) := by decide +kernel
theorem dX9_setColumn_25 : decode cX9_setColumn 25 = .ok (.ifCond .eq 33, 3) := by decide +kernel
theorem dX9_setColumn_28 : decode cX9_setColumn 28 = .ok (.iload_n 2, 1) := by decide +kernel
theorem dX9_setColumn_29 : decode cX9_setColumn 29 = .ok (.iconst 1, 1) := by decide +kernel
theorem dX9_setColumn_30 : decode cX9_setColumn 30 = .ok (.if_icmp .ne 13, 3) := by decide +kernel
theorem dX9_setColumn_33 : decode cX9_setColumn 33 = .ok (.iload_n 3, 1) := by decide +kernel
theorem dX9_setColumn_34 : decode cX9_setColumn 34 = .ok (.iconst 1, 1) := by decide +kernel
theorem dX9_setColumn_35 : decode cX9_setColumn 35 = .ok (.bipush 36, 2) := by decide +kernel
theorem dX9_setColumn_37 : decode cX9_setColumn 37 = .ok (.invokestatic 87, 3) := by decide +kernel
theorem dX9_setColumn_40 : decode cX9_setColumn 40 = .ok (.ifCond .eq 18, 3) := by decide +kernel
theorem dX9_setColumn_43 : decode cX9_setColumn 43 = .ok (.iload_n 2, 1) := by decide +kernel
theorem dX9_setColumn_44 : decode cX9_setColumn 44 = .ok (.iconst 2, 1) := by decide +kernel
theorem dX9_setColumn_45 : decode cX9_setColumn 45 = .ok (.if_icmp .ne 19, 3) := by decide +kernel
theorem dX9_setColumn_48 : decode cX9_setColumn 48 = .ok (.iload_n 3, 1) := by decide +kernel
theorem dX9_setColumn_49 : decode cX9_setColumn 49 = .ok (.iconst 1, 1) := by decide +kernel
theorem dX9_setColumn_50 : decode cX9_setColumn 50 = .ok (.bipush 100, 2) := by decide +kernel
theorem dX9_setColumn_52 : decode cX9_setColumn 52 = .ok (.invokestatic 87, 3) := by decide +kernel
theorem dX9_setColumn_55 : decode cX9_setColumn 55 = .ok (.ifCond .ne 9, 3) := by decide +kernel
theorem dX9_setColumn_58 : decode cX9_setColumn 58 = .ok (.aload_n 0, 1) := by decide +kernel
theorem dX9_setColumn_59 : decode cX9_setColumn 59 = .ok (.iconst 2, 1) := by decide +kernel
theorem dX9_setColumn_60 : decode cX9_setColumn 60 = .ok (.invokevirtual 95, 3) := by decide +kernel
theorem dX9_setColumn_63 : decode cX9_setColumn 63 = .ok (.ireturn, 1) := by decide +kernel
theorem dX9_setColumn_64 : decode cX9_setColumn 64 = .ok (.aload_n 0, 1) := by decide +kernel
theorem dX9_setColumn_65 : decode cX9_setColumn 65 = .ok (.getfield 9, 3) := by decide +kernel
theorem dX9_setColumn_68 : decode cX9_setColumn 68 = .ok (.bipush 6, 2) := by decide +kernel
theorem dX9_setColumn_70 : decode cX9_setColumn 70 = .ok (.iload_n 1, 1) := by decide +kernel
theorem dX9_setColumn_71 : decode cX9_setColumn 71 = .ok (.iadd, 1) := by decide +kernel
theorem dX9_setColumn_72 : decode cX9_setColumn 72 = .ok (.iaload, 1) := by decide +kernel
theorem dX9_setColumn_73 : decode cX9_setColumn 73 = .ok (.istore 4, 2) := by decide +kernel
theorem dX9_setColumn_75 : decode cX9_setColumn 75 = .ok (.aload_n 0, 1) := by decide +kernel
theorem dX9_setColumn_76 : decode cX9_setColumn 76 = .ok (.getfield 9, 3) := by decide +kernel
theorem dX9_setColumn_79 : decode cX9_setColumn 79 = .ok (.bipush 6, 2) := by decide +kernel
theorem dX9_setColumn_81 : decode cX9_setColumn 81 = .ok (.iload_n 1, 1) := by decide +kernel
theorem dX9_setColumn_82 : decode cX9_setColumn 82 = .ok (.iadd, 1) := by decide +kernel
theorem dX9_setColumn_83 : decode cX9_setColumn 83 = .ok (.iload_n 2, 1) := by decide +kernel
theorem dX9_setColumn_84 : decode cX9_setColumn 84 = .ok (.ifCond .ne 7, 3) := by decide +kernel
theorem dX9_setColumn_87 : decode cX9_setColumn 87 = .ok (.iconst 0, 1) := by decide +kernel
theorem dX9_setColumn_88 : decode cX9_setColumn 88 = .ok (.goto 9, 3) := by decide +kernel
theorem dX9_setColumn_91 : decode cX9_setColumn 91 = .ok (.bipush 100, 2) := by decide +kernel
theorem dX9_setColumn_93 : decode cX9_setColumn 93 = .ok (.iload_n 2, 1) := by decide +kernel
theorem dX9_setColumn_94 : decode cX9_setColumn 94 = .ok (.imul, 1) := by decide +kernel
theorem dX9_setColumn_95 : decode cX9_setColumn 95 = .ok (.iload_n 3, 1) := by decide +kernel
theorem dX9_setColumn_96 : decode cX9_setColumn 96 = .ok (.iadd, 1) := by decide +kernel
theorem dX9_setColumn_97 : decode cX9_setColumn 97 = .ok (.iastore, 1) := by decide +kernel
theorem dX9_setColumn_98 : decode cX9_setColumn 98 = .ok (.iload 4, 2) := by decide +kernel
theorem dX9_setColumn_100 : decode cX9_setColumn 100 = .ok (.ireturn, 1) := by decide +kernel
theorem dX9_addRow_0 : decode cX9_addRow 0 = .ok (.aload_n 0, 1) := by decide +kernel
theorem dX9_addRow_1 : decode cX9_addRow 1 = .ok (.iconst 0, 1) := by decide +kernel
theorem dX9_addRow_2 : decode cX9_addRow 2 = .ok (.putfield 84, 3) := by decide +kernel
theorem dX9_addRow_5 : decode cX9_addRow 5 = .ok (.aload_n 0, 1) := by decide +kernel
theorem dX9_addRow_6 : decode cX9_addRow 6 = .ok (.getfield 9, 3) := by decide +kernel
theorem dX9_addRow_9 : decode cX9_addRow 9 = .ok (.iconst 4, 1) := by decide +kernel
theorem dX9_addRow_10 : decode cX9_addRow 10 = .ok (.iaload, 1) := by decide +kernel
theorem dX9_addRow_11 : decode cX9_addRow 11 = .ok (.bipush 6, 2) := by decide +kernel
theorem dX9_addRow_13 : decode cX9_addRow 13 = .ok (.if_icmp .ne 9, 3) := by decide +kernel
theorem dX9_addRow_16 : decode cX9_addRow 16 = .ok (.aload_n 0, 1) := by decide +kernel
theorem dX9_addRow_17 : decode cX9_addRow 17 = .ok (.iconst 1, 1) := by decide +kernel
theorem dX9_addRow_18 : decode cX9_addRow 18 = .ok (.invokevirtual 95, 3) := by decide +kernel
theorem dX9_addRow_21 : decode cX9_addRow 21 = .ok (.ireturn, 1) := by decide +kernel
theorem dX9_addRow_22 : decode cX9_addRow 22 = .ok (.aload_n 0, 1) := by decide +kernel
theorem dX9_addRow_23 : decode cX9_addRow 23 = .ok (.getfield 9, 3) := by decide +kernel
theorem dX9_addRow_26 : decode cX9_addRow 26 = .ok (.iconst 4, 1) := by decide +kernel
theorem dX9_addRow_27 : decode cX9_addRow 27 = .ok (.dup2, 1) := by decide +kernel
theorem dX9_addRow_28 : decode cX9_addRow 28 = .ok (.iaload, 1) := by decide +kernel
theorem dX9_addRow_29 : decode cX9_addRow 29 = .ok (.iconst 1, 1) := by decide +kernel
theorem dX9_addRow_30 : decode cX9_addRow 30 = .ok (.iadd, 1) := by decide +kernel
theorem dX9_addRow_31 : decode cX9_addRow 31 = .ok (.iastore, 1) := by decide +kernel
theorem dX9_addRow_32 : decode cX9_addRow 32 = .ok (.aload_n 0, 1) := by decide +kernel
theorem dX9_addRow_33 : decode cX9_addRow 33 = .ok (.getfield 9, 3) := by decide +kernel
theorem dX9_addRow_36 : decode cX9_addRow 36 = .ok (.iconst 4, 1) := by decide +kernel
theorem dX9_addRow_37 : decode cX9_addRow 37 = .ok (.iaload, 1) := by decide +kernel
theorem dX9_addRow_38 : decode cX9_addRow 38 = .ok (.iconst 1, 1) := by decide +kernel
theorem dX9_addRow_39 : decode cX9_addRow 39 = .ok (.isub, 1) := by decide +kernel
theorem dX9_addRow_40 : decode cX9_addRow 40 = .ok (.ireturn, 1) := by decide +kernel
theorem dX9_atPlace_0 : decode cX9_atPlace 0 = .ok (.iconst (-1), 1) := by decide +kernel
theorem dX9_atPlace_1 : decode cX9_atPlace 1 = .ok (.istore_n 3, 1) := by decide +kernel
theorem dX9_atPlace_2 : decode cX9_atPlace 2 = .ok (.iconst 0, 1) := by decide +kernel
theorem dX9_atPlace_3 : decode cX9_atPlace 3 = .ok (.istore 4, 2) := by decide +kernel
theorem dX9_atPlace_5 : decode cX9_atPlace 5 = .ok (.iload 4, 2) := by decide +kernel
theorem dX9_atPlace_7 : decode cX9_atPlace 7 = .ok (.aload_n 0, 1) := by decide +kernel
theorem dX9_atPlace_8 : decode cX9_atPlace 8 = .ok (.getfield 9, 3) := by decide +kernel
theorem dX9_atPlace_11 : decode cX9_atPlace 11 = .ok (.iconst 5, 1) := by decide +kernel
theorem dX9_atPlace_12 : decode cX9_atPlace 12 = .ok (.iaload, 1) := by decide +kernel
theorem dX9_atPlace_13 : decode cX9_atPlace 13 = .ok (.if_icmp .ge 70, 3) := by decide +kernel
theorem dX9_atPlace_16 : decode cX9_atPlace 16 = .ok (.aload_n 0, 1) := by decide +kernel
theorem dX9_atPlace_17 : decode cX9_atPlace 17 = .ok (.iload 4, 2) := by decide +kernel
theorem dX9_atPlace_19 : decode cX9_atPlace 19 = .ok (.iconst 0, 1) := by decide +kernel
theorem dX9_atPlace_20 : decode cX9_atPlace 20 = .ok (.invokevirtual 91, 3) := by decide +kernel
theorem dX9_atPlace_23 : decode cX9_atPlace 23 = .ok (.iload_n 1, 1) := by decide +kernel
theorem dX9_atPlace_24 : decode cX9_atPlace 24 = .ok (.if_icmp .ne 38, 3) := by decide +kernel
theorem dX9_atPlace_27 : decode cX9_atPlace 27 = .ok (.iload_n 2, 1) := by decide +kernel
theorem dX9_atPlace_28 : decode cX9_atPlace 28 = .ok (.aload_n 0, 1) := by decide +kernel
theorem dX9_atPlace_29 : decode cX9_atPlace 29 = .ok (.iload 4, 2) := by decide +kernel
theorem dX9_atPlace_31 : decode cX9_atPlace 31 = .ok (.iconst 1, 1) := by decide +kernel
theorem dX9_atPlace_32 : decode cX9_atPlace 32 = .ok (.invokevirtual 91, 3) := by decide +kernel
theorem dX9_atPlace_35 : decode cX9_atPlace 35 = .ok (.aload_n 0, 1) := by decide +kernel
theorem dX9_atPlace_36 : decode cX9_atPlace 36 = .ok (.iload 4, 2) := by decide +kernel
theorem dX9_atPlace_38 : decode cX9_atPlace 38 = .ok (.iconst 1, 1) := by decide +kernel
theorem dX9_atPlace_39 : decode cX9_atPlace 39 = .ok (.invokevirtual 91, 3) := by decide +kernel
theorem dX9_atPlace_42 : decode cX9_atPlace 42 = .ok (.aload_n 0, 1) := by decide +kernel
theorem dX9_atPlace_43 : decode cX9_atPlace 43 = .ok (.iload 4, 2) := by decide +kernel
theorem dX9_atPlace_45 : decode cX9_atPlace 45 = .ok (.iconst 2, 1) := by decide +kernel
theorem dX9_atPlace_46 : decode cX9_atPlace 46 = .ok (.invokevirtual 91, 3) := by decide +kernel
theorem dX9_atPlace_49 : decode cX9_atPlace 49 = .ok (.iadd, 1) := by decide +kernel
theorem dX9_atPlace_50 : decode cX9_atPlace 50 = .ok (.iconst 1, 1) := by decide +kernel
theorem dX9_atPlace_51 : decode cX9_atPlace 51 = .ok (.isub, 1) := by decide +kernel
theorem dX9_atPlace_52 : decode cX9_atPlace 52 = .ok (.invokestatic 87, 3) := by decide +kernel
theorem dX9_atPlace_55 : decode cX9_atPlace 55 = .ok (.ifCond .eq 7, 3) := by decide +kernel
theorem dX9_atPlace_58 : decode cX9_atPlace 58 = .ok (.iconst 1, 1) := by decide +kernel
theorem dX9_atPlace_59 : decode cX9_atPlace 59 = .ok (.goto 4, 3) := by decide +kernel
theorem dX9_atPlace_62 : decode cX9_atPlace 62 = .ok (.iconst 0, 1) := by decide +kernel
theorem dX9_atPlace_63 : decode cX9_atPlace 63 = .ok (.istore 5, 2) := by decide +kernel
theorem dX9_atPlace_65 : decode cX9_atPlace 65 = .ok (.iload 5, 2) := by decide +kernel
theorem dX9_atPlace_67 : decode cX9_atPlace 67 = .ok (.ifCond .eq 8, 3) := by decide +kernel
theorem dX9_atPlace_70 : decode cX9_atPlace 70 = .ok (.iload 4, 2) := by decide +kernel
theorem dX9_atPlace_72 : decode cX9_atPlace 72 = .ok (.goto 4, 3) := by decide +kernel
theorem dX9_atPlace_75 : decode cX9_atPlace 75 = .ok (.iload_n 3, 1) := by decide +kernel
theorem dX9_atPlace_76 : decode cX9_atPlace 76 = .ok (.istore_n 3, 1) := by decide +kernel
theorem dX9_atPlace_77 : decode cX9_atPlace 77 = .ok (.iinc 4 1, 3) := by decide +kernel
theorem dX9_atPlace_80 : decode cX9_atPlace 80 = .ok (.goto (-75), 3) := by decide +kernel
theorem dX9_atPlace_83 : decode cX9_atPlace 83 = .ok (.iload_n 3, 1) := by decide +kernel
theorem dX9_atPlace_84 : decode cX9_atPlace 84 = .ok (.ireturn, 1) := by decide +kernel
theorem dX9_isFree_0 : decode cX9_isFree 0 = .ok (.iconst 1, 1) := by decide +kernel
theorem dX9_isFree_1 : decode cX9_isFree 1 = .ok (.istore 4, 2) := by decide +kernel
theorem dX9_isFree_3 : decode cX9_isFree 3 = .ok (.iload_n 2, 1) := by decide +kernel
theorem dX9_isFree_4 : decode cX9_isFree 4 = .ok (.istore 5, 2) := by decide +kernel
theorem dX9_isFree_6 : decode cX9_isFree 6 = .ok (.iload 5, 2) := by decide +kernel
theorem dX9_isFree_8 : decode cX9_isFree 8 = .ok (.iload_n 2, 1) := by decide +kernel
theorem dX9_isFree_9 : decode cX9_isFree 9 = .ok (.iload_n 3, 1) := by decide +kernel
theorem dX9_isFree_10 : decode cX9_isFree 10 = .ok (.iadd, 1) := by decide +kernel
theorem dX9_isFree_11 : decode cX9_isFree 11 = .ok (.if_icmp .ge 32, 3) := by decide +kernel
theorem dX9_isFree_14 : decode cX9_isFree 14 = .ok (.iload 4, 2) := by decide +kernel
theorem dX9_isFree_16 : decode cX9_isFree 16 = .ok (.ifCond .eq 18, 3) := by decide +kernel
theorem dX9_isFree_19 : decode cX9_isFree 19 = .ok (.aload_n 0, 1) := by decide +kernel
theorem dX9_isFree_20 : decode cX9_isFree 20 = .ok (.iload_n 1, 1) := by decide +kernel
theorem dX9_isFree_21 : decode cX9_isFree 21 = .ok (.iload 5, 2) := by decide +kernel
theorem dX9_isFree_23 : decode cX9_isFree 23 = .ok (.invokevirtual 107, 3) := by decide +kernel
theorem dX9_isFree_26 : decode cX9_isFree 26 = .ok (.iconst (-1), 1) := by decide +kernel
theorem dX9_isFree_27 : decode cX9_isFree 27 = .ok (.if_icmp .ne 7, 3) := by decide +kernel
theorem dX9_isFree_30 : decode cX9_isFree 30 = .ok (.iconst 1, 1) := by decide +kernel
theorem dX9_isFree_31 : decode cX9_isFree 31 = .ok (.goto 4, 3) := by decide +kernel
theorem dX9_isFree_34 : decode cX9_isFree 34 = .ok (.iconst 0, 1) := by decide +kernel
theorem dX9_isFree_35 : decode cX9_isFree 35 = .ok (.istore 4, 2) := by decide +kernel
theorem dX9_isFree_37 : decode cX9_isFree 37 = .ok (.iinc 5 1, 3) := by decide +kernel
theorem dX9_isFree_40 : decode cX9_isFree 40 = .ok (.goto (-34), 3) := by decide +kernel
theorem dX9_isFree_43 : decode cX9_isFree 43 = .ok (.iload 4, 2) := by decide +kernel
theorem dX9_isFree_45 : decode cX9_isFree 45 = .ok (.ireturn, 1) := by decide +kernel
theorem dX9_adds_0 : decode cX9_adds 0 = .ok (.aload_n 0, 1) := by decide +kernel
theorem dX9_adds_1 : decode cX9_adds 1 = .ok (.getfield 9, 3) := by decide +kernel
theorem dX9_adds_4 : decode cX9_adds 4 = .ok (.iconst 5, 1) := by decide +kernel
theorem dX9_adds_5 : decode cX9_adds 5 = .ok (.iaload, 1) := by decide +kernel
theorem dX9_adds_6 : decode cX9_adds 6 = .ok (.istore 5, 2) := by decide +kernel
theorem dX9_adds_8 : decode cX9_adds 8 = .ok (.bipush 10, 2) := by decide +kernel
theorem dX9_adds_10 : decode cX9_adds 10 = .ok (.bipush 31, 2) := by decide +kernel
theorem dX9_adds_12 : decode cX9_adds 12 = .ok (.iload 5, 2) := by decide +kernel
theorem dX9_adds_14 : decode cX9_adds 14 = .ok (.imul, 1) := by decide +kernel
theorem dX9_adds_15 : decode cX9_adds 15 = .ok (.iadd, 1) := by decide +kernel
theorem dX9_adds_16 : decode cX9_adds 16 = .ok (.istore 6, 2) := by decide +kernel
theorem dX9_adds_18 : decode cX9_adds 18 = .ok (.iconst 0, 1) := by decide +kernel
theorem dX9_adds_19 : decode cX9_adds 19 = .ok (.istore 7, 2) := by decide +kernel
theorem dX9_adds_21 : decode cX9_adds 21 = .ok (.iload 7, 2) := by decide +kernel
theorem dX9_adds_23 : decode cX9_adds 23 = .ok (.bipush 31, 2) := by decide +kernel
theorem dX9_adds_25 : decode cX9_adds 25 = .ok (.if_icmp .ge 20, 3) := by decide +kernel
theorem dX9_adds_28 : decode cX9_adds 28 = .ok (.aload_n 0, 1) := by decide +kernel
theorem dX9_adds_29 : decode cX9_adds 29 = .ok (.getfield 9, 3) := by decide +kernel
theorem dX9_adds_32 : decode cX9_adds 32 = .ok (.iload 6, 2) := by decide +kernel
theorem dX9_adds_34 : decode cX9_adds 34 = .ok (.iload 7, 2) := by decide +kernel
theorem dX9_adds_36 : decode cX9_adds 36 = .ok (.iadd, 1) := by decide +kernel
theorem dX9_adds_37 : decode cX9_adds 37 = .ok (.iconst 0, 1) := by decide +kernel
theorem dX9_adds_38 : decode cX9_adds 38 = .ok (.iastore, 1) := by decide +kernel
theorem dX9_adds_39 : decode cX9_adds 39 = .ok (.iinc 7 1, 3) := by decide +kernel
theorem dX9_adds_42 : decode cX9_adds 42 = .ok (.goto (-21), 3) := by decide +kernel
theorem dX9_adds_45 : decode cX9_adds 45 = .ok (.aload_n 0, 1) := by decide +kernel
theorem dX9_adds_46 : decode cX9_adds 46 = .ok (.getfield 9, 3) := by decide +kernel
theorem dX9_adds_49 : decode cX9_adds 49 = .ok (.iload 6, 2) := by decide +kernel
theorem dX9_adds_51 : decode cX9_adds 51 = .ok (.iconst 0, 1) := by decide +kernel
theorem dX9_adds_52 : decode cX9_adds 52 = .ok (.iadd, 1) := by decide +kernel
theorem dX9_adds_53 : decode cX9_adds 53 = .ok (.iload_n 1, 1) := by decide +kernel
theorem dX9_adds_54 : decode cX9_adds 54 = .ok (.iastore, 1) := by decide +kernel
theorem dX9_adds_55 : decode cX9_adds 55 = .ok (.aload_n 0, 1) := by decide +kernel
theorem dX9_adds_56 : decode cX9_adds 56 = .ok (.getfield 9, 3) := by decide +kernel
theorem dX9_adds_59 : decode cX9_adds 59 = .ok (.iload 6, 2) := by decide +kernel
theorem dX9_adds_61 : decode cX9_adds 61 = .ok (.iconst 1, 1) := by decide +kernel
theorem dX9_adds_62 : decode cX9_adds 62 = .ok (.iadd, 1) := by decide +kernel
theorem dX9_adds_63 : decode cX9_adds 63 = .ok (.iload_n 2, 1) := by decide +kernel
theorem dX9_adds_64 : decode cX9_adds 64 = .ok (.iastore, 1) := by decide +kernel
theorem dX9_adds_65 : decode cX9_adds 65 = .ok (.aload_n 0, 1) := by decide +kernel
theorem dX9_adds_66 : decode cX9_adds 66 = .ok (.getfield 9, 3) := by decide +kernel
theorem dX9_adds_69 : decode cX9_adds 69 = .ok (.iload 6, 2) := by decide +kernel
theorem dX9_adds_71 : decode cX9_adds 71 = .ok (.iconst 2, 1) := by decide +kernel
theorem dX9_adds_72 : decode cX9_adds 72 = .ok (.iadd, 1) := by decide +kernel
theorem dX9_adds_73 : decode cX9_adds 73 = .ok (.iload_n 3, 1) := by decide +kernel
theorem dX9_adds_74 : decode cX9_adds 74 = .ok (.iastore, 1) := by decide +kernel
theorem dX9_adds_75 : decode cX9_adds 75 = .ok (.aload_n 0, 1) := by decide +kernel
theorem dX9_adds_76 : decode cX9_adds 76 = .ok (.getfield 9, 3) := by decide +kernel
theorem dX9_adds_79 : decode cX9_adds 79 = .ok (.iload 6, 2) := by decide +kernel
theorem dX9_adds_81 : decode cX9_adds 81 = .ok (.iconst 3, 1) := by decide +kernel
theorem dX9_adds_82 : decode cX9_adds 82 = .ok (.iadd, 1) := by decide +kernel
theorem dX9_adds_83 : decode cX9_adds 83 = .ok (.iload 4, 2) := by decide +kernel
theorem dX9_adds_85 : decode cX9_adds 85 = .ok (.iastore, 1) := by decide +kernel
theorem dX9_adds_86 : decode cX9_adds 86 = .ok (.aload_n 0, 1) := by decide +kernel
theorem dX9_adds_87 : decode cX9_adds 87 = .ok (.getfield 9, 3) := by decide +kernel
theorem dX9_adds_90 : decode cX9_adds 90 = .ok (.iload 6, 2) := by decide +kernel
theorem dX9_adds_92 : decode cX9_adds 92 = .ok (.iconst 5, 1) := by decide +kernel
theorem dX9_adds_93 : decode cX9_adds 93 = .ok (.iadd, 1) := by decide +kernel
theorem dX9_adds_94 : decode cX9_adds 94 = .ok (.iconst 1, 1) := by decide +kernel
theorem dX9_adds_95 : decode cX9_adds 95 = .ok (.iastore, 1) := by decide +kernel
theorem dX9_adds_96 : decode cX9_adds 96 = .ok (.aload_n 0, 1) := by decide +kernel
theorem dX9_adds_97 : decode cX9_adds 97 = .ok (.getfield 9, 3) := by decide +kernel
theorem dX9_adds_100 : decode cX9_adds 100 = .ok (.iload 6, 2) := by decide +kernel
theorem dX9_adds_102 : decode cX9_adds 102 = .ok (.bipush 6, 2) := by decide +kernel
theorem dX9_adds_104 : decode cX9_adds 104 = .ok (.iadd, 1) := by decide +kernel
theorem dX9_adds_105 : decode cX9_adds 105 = .ok (.iconst 1, 1) := by decide +kernel
theorem dX9_adds_106 : decode cX9_adds 106 = .ok (.iastore, 1) := by decide +kernel
theorem dX9_adds_107 : decode cX9_adds 107 = .ok (.aload_n 0, 1) := by decide +kernel
theorem dX9_adds_108 : decode cX9_adds 108 = .ok (.getfield 9, 3) := by decide +kernel
theorem dX9_adds_111 : decode cX9_adds 111 = .ok (.iconst 5, 1) := by decide +kernel
theorem dX9_adds_112 : decode cX9_adds 112 = .ok (.dup2, 1) := by decide +kernel
theorem dX9_adds_113 : decode cX9_adds 113 = .ok (.iaload, 1) := by decide +kernel
theorem dX9_adds_114 : decode cX9_adds 114 = .ok (.iconst 1, 1) := by decide +kernel
theorem dX9_adds_115 : decode cX9_adds 115 = .ok (.iadd, 1) := by decide +kernel
theorem dX9_adds_116 : decode cX9_adds 116 = .ok (.iastore, 1) := by decide +kernel
theorem dX9_adds_117 : decode cX9_adds 117 = .ok (.iload 5, 2) := by decide +kernel
theorem dX9_adds_119 : decode cX9_adds 119 = .ok (.ireturn, 1) := by decide +kernel
theorem dX9_addCell_0 : decode cX9_addCell 0 = .ok (.aload_n 0, 1) := by decide +kernel
theorem dX9_addCell_1 : decode cX9_addCell 1 = .ok (.iconst 0, 1) := by decide +kernel
theorem dX9_addCell_2 : decode cX9_addCell 2 = .ok (.putfield 84, 3) := by decide +kernel
theorem dX9_addCell_5 : decode cX9_addCell 5 = .ok (.aload_n 0, 1) := by decide +kernel
theorem dX9_addCell_6 : decode cX9_addCell 6 = .ok (.iload_n 1, 1) := by decide +kernel
theorem dX9_addCell_7 : decode cX9_addCell 7 = .ok (.invokevirtual 110, 3) := by decide +kernel
theorem dX9_addCell_10 : decode cX9_addCell 10 = .ok (.ifCond .eq 11, 3) := by decide +kernel
theorem dX9_addCell_13 : decode cX9_addCell 13 = .ok (.aload_n 0, 1) := by decide +kernel
theorem dX9_addCell_14 : decode cX9_addCell 14 = .ok (.iload_n 2, 1) := by decide +kernel
theorem dX9_addCell_15 : decode cX9_addCell 15 = .ok (.invokevirtual 103, 3) := by decide +kernel
theorem dX9_addCell_18 : decode cX9_addCell 18 = .ok (.ifCond .ne 9, 3) := by decide +kernel
theorem dX9_addCell_21 : decode cX9_addCell 21 = .ok (.aload_n 0, 1) := by decide +kernel
theorem dX9_addCell_22 : decode cX9_addCell 22 = .ok (.iconst 1, 1) := by decide +kernel
theorem dX9_addCell_23 : decode cX9_addCell 23 = .ok (.invokevirtual 95, 3) := by decide +kernel
theorem dX9_addCell_26 : decode cX9_addCell 26 = .ok (.ireturn, 1) := by decide +kernel
theorem dX9_addCell_27 : decode cX9_addCell 27 = .ok (.iload 4, 2) := by decide +kernel
theorem dX9_addCell_29 : decode cX9_addCell 29 = .ok (.iconst 0, 1) := by decide +kernel
theorem dX9_addCell_30 : decode cX9_addCell 30 = .ok (.iconst 5, 1) := by decide +kernel
theorem dX9_addCell_31 : decode cX9_addCell 31 = .ok (.invokestatic 87, 3) := by decide +kernel
theorem dX9_addCell_34 : decode cX9_addCell 34 = .ok (.ifCond .eq 20, 3) := by decide +kernel
theorem dX9_addCell_37 : decode cX9_addCell 37 = .ok (.iload_n 3, 1) := by decide +kernel
theorem dX9_addCell_38 : decode cX9_addCell 38 = .ok (.iconst 1, 1) := by decide +kernel
theorem dX9_addCell_39 : decode cX9_addCell 39 = .ok (.if_icmp .lt 15, 3) := by decide +kernel
theorem dX9_addCell_42 : decode cX9_addCell 42 = .ok (.iload_n 3, 1) := by decide +kernel
theorem dX9_addCell_43 : decode cX9_addCell 43 = .ok (.aload_n 0, 1) := by decide +kernel
theorem dX9_addCell_44 : decode cX9_addCell 44 = .ok (.getfield 9, 3) := by decide +kernel
theorem dX9_addCell_47 : decode cX9_addCell 47 = .ok (.iconst 0, 1) := by decide +kernel
theorem dX9_addCell_48 : decode cX9_addCell 48 = .ok (.iaload, 1) := by decide +kernel
theorem dX9_addCell_49 : decode cX9_addCell 49 = .ok (.iload_n 2, 1) := by decide +kernel
theorem dX9_addCell_50 : decode cX9_addCell 50 = .ok (.isub, 1) := by decide +kernel
theorem dX9_addCell_51 : decode cX9_addCell 51 = .ok (.if_icmp .le 9, 3) := by decide +kernel
theorem dX9_addCell_54 : decode cX9_addCell 54 = .ok (.aload_n 0, 1) := by decide +kernel
theorem dX9_addCell_55 : decode cX9_addCell 55 = .ok (.iconst 2, 1) := by decide +kernel
theorem dX9_addCell_56 : decode cX9_addCell 56 = .ok (.invokevirtual 95, 3) := by decide +kernel
theorem dX9_addCell_59 : decode cX9_addCell 59 = .ok (.ireturn, 1) := by decide +kernel
theorem dX9_addCell_60 : decode cX9_addCell 60 = .ok (.aload_n 0, 1) := by decide +kernel
theorem dX9_addCell_61 : decode cX9_addCell 61 = .ok (.getfield 9, 3) := by decide +kernel
theorem dX9_addCell_64 : decode cX9_addCell 64 = .ok (.iconst 5, 1) := by decide +kernel
theorem dX9_addCell_65 : decode cX9_addCell 65 = .ok (.iaload, 1) := by decide +kernel
theorem dX9_addCell_66 : decode cX9_addCell 66 = .ok (.bipush 16, 2) := by decide +kernel
theorem dX9_addCell_68 : decode cX9_addCell 68 = .ok (.if_icmp .eq 13, 3) := by decide +kernel
theorem dX9_addCell_71 : decode cX9_addCell 71 = .ok (.aload_n 0, 1) := by decide +kernel
theorem dX9_addCell_72 : decode cX9_addCell 72 = .ok (.iload_n 1, 1) := by decide +kernel
theorem dX9_addCell_73 : decode cX9_addCell 73 = .ok (.iload_n 2, 1) := by decide +kernel
theorem dX9_addCell_74 : decode cX9_addCell 74 = .ok (.iload_n 3, 1) := by decide +kernel
theorem dX9_addCell_75 : decode cX9_addCell 75 = .ok (.invokevirtual 113, 3) := by decide +kernel
theorem dX9_addCell_78 : decode cX9_addCell 78 = .ok (.ifCond .ne 9, 3) := by decide +kernel
theorem dX9_addCell_81 : decode cX9_addCell 81 = .ok (.aload_n 0, 1) := by decide +kernel
theorem dX9_addCell_82 : decode cX9_addCell 82 = .ok (.iconst 3, 1) := by decide +kernel
theorem dX9_addCell_83 : decode cX9_addCell 83 = .ok (.invokevirtual 95, 3) := by decide +kernel
theorem dX9_addCell_86 : decode cX9_addCell 86 = .ok (.ireturn, 1) := by decide +kernel
theorem dX9_addCell_87 : decode cX9_addCell 87 = .ok (.aload_n 0, 1) := by decide +kernel
theorem dX9_addCell_88 : decode cX9_addCell 88 = .ok (.iload_n 1, 1) := by decide +kernel
theorem dX9_addCell_89 : decode cX9_addCell 89 = .ok (.iload_n 2, 1) := by decide +kernel
theorem dX9_addCell_90 : decode cX9_addCell 90 = .ok (.iload_n 3, 1) := by decide +kernel
theorem dX9_addCell_91 : decode cX9_addCell 91 = .ok (.iload 4, 2) := by decide +kernel
theorem dX9_addCell_93 : decode cX9_addCell 93 = .ok (.invokevirtual 116, 3) := by decide +kernel
theorem dX9_addCell_96 : decode cX9_addCell 96 = .ok (.ireturn, 1) := by decide +kernel
theorem dX9_removes_0 : decode cX9_removes 0 = .ok (.bipush 10, 2) := by decide +kernel
theorem dX9_removes_2 : decode cX9_removes 2 = .ok (.bipush 31, 2) := by decide +kernel
theorem dX9_removes_4 : decode cX9_removes 4 = .ok (.iload_n 1, 1) := by decide +kernel
theorem dX9_removes_5 : decode cX9_removes 5 = .ok (.imul, 1) := by decide +kernel
theorem dX9_removes_6 : decode cX9_removes 6 = .ok (.iadd, 1) := by decide +kernel
theorem dX9_removes_7 : decode cX9_removes 7 = .ok (.istore_n 2, 1) := by decide +kernel
theorem dX9_removes_8 : decode cX9_removes 8 = .ok (.iload_n 2, 1) := by decide +kernel
theorem dX9_removes_9 : decode cX9_removes 9 = .ok (.sipush 475, 3) := by decide +kernel
theorem dX9_removes_12 : decode cX9_removes 12 = .ok (.if_icmp .ge 24, 3) := by decide +kernel
theorem dX9_removes_15 : decode cX9_removes 15 = .ok (.aload_n 0, 1) := by decide +kernel
theorem dX9_removes_16 : decode cX9_removes 16 = .ok (.getfield 9, 3) := by decide +kernel
theorem dX9_removes_19 : decode cX9_removes 19 = .ok (.iload_n 2, 1) := by decide +kernel
theorem dX9_removes_20 : decode cX9_removes 20 = .ok (.aload_n 0, 1) := by decide +kernel
theorem dX9_removes_21 : decode cX9_removes 21 = .ok (.getfield 9, 3) := by decide +kernel
theorem dX9_removes_24 : decode cX9_removes 24 = .ok (.iload_n 2, 1) := by decide +kernel
theorem dX9_removes_25 : decode cX9_removes 25 = .ok (.bipush 31, 2) := by decide +kernel
theorem dX9_removes_27 : decode cX9_removes 27 = .ok (.iadd, 1) := by decide +kernel
theorem dX9_removes_28 : decode cX9_removes 28 = .ok (.iaload, 1) := by decide +kernel
theorem dX9_removes_29 : decode cX9_removes 29 = .ok (.iastore, 1) := by decide +kernel
theorem dX9_removes_30 : decode cX9_removes 30 = .ok (.iinc 2 1, 3) := by decide +kernel
theorem dX9_removes_33 : decode cX9_removes 33 = .ok (.goto (-25), 3) := by decide +kernel
theorem dX9_removes_36 : decode cX9_removes 36 = .ok (.aload_n 0, 1) := by decide +kernel
theorem dX9_removes_37 : decode cX9_removes 37 = .ok (.getfield 9, 3) := by decide +kernel
theorem dX9_removes_40 : decode cX9_removes 40 = .ok (.iconst 5, 1) := by decide +kernel
theorem dX9_removes_41 : decode cX9_removes 41 = .ok (.dup2, 1) := by decide +kernel
theorem dX9_removes_42 : decode cX9_removes 42 = .ok (.iaload, 1) := by decide +kernel
theorem dX9_removes_43 : decode cX9_removes 43 = .ok (.iconst 1, 1) := by decide +kernel
theorem dX9_removes_44 : decode cX9_removes 44 = .ok (.isub, 1) := by decide +kernel
theorem dX9_removes_45 : decode cX9_removes 45 = .ok (.iastore, 1) := by decide +kernel
theorem dX9_removes_46 : decode cX9_removes 46 = .ok (.return_, 1) := by decide +kernel
theorem dX9_removeCell_0 : decode cX9_removeCell 0 = .ok (.aload_n 0, 1) := by decide +kernel
theorem dX9_removeCell_1 : decode cX9_removeCell 1 = .ok (.iconst 0, 1) := by decide +kernel
theorem dX9_removeCell_2 : decode cX9_removeCell 2 = .ok (.putfield 84, 3) := by decide +kernel
theorem dX9_removeCell_5 : decode cX9_removeCell 5 = .ok (.aload_n 0, 1) := by decide +kernel
theorem dX9_removeCell_6 : decode cX9_removeCell 6 = .ok (.iload_n 1, 1) := by decide +kernel
theorem dX9_removeCell_7 : decode cX9_removeCell 7 = .ok (.invokevirtual 120, 3) := by decide +kernel
theorem dX9_removeCell_10 : decode cX9_removeCell 10 = .ok (.ifCond .ne 9, 3) := by decide +kernel
theorem dX9_removeCell_13 : decode cX9_removeCell 13 = .ok (.aload_n 0, 1) := by decide +kernel
theorem dX9_removeCell_14 : decode cX9_removeCell 14 = .ok (.iconst 1, 1) := by decide +kernel
theorem dX9_removeCell_15 : decode cX9_removeCell 15 = .ok (.invokevirtual 95, 3) := by decide +kernel
theorem dX9_removeCell_18 : decode cX9_removeCell 18 = .ok (.ireturn, 1) := by decide +kernel
theorem dX9_removeCell_19 : decode cX9_removeCell 19 = .ok (.aload_n 0, 1) := by decide +kernel
theorem dX9_removeCell_20 : decode cX9_removeCell 20 = .ok (.iload_n 1, 1) := by decide +kernel
theorem dX9_removeCell_21 : decode cX9_removeCell 21 = .ok (.invokevirtual 123, 3) := by decide +kernel
theorem dX9_removeCell_24 : decode cX9_removeCell 24 = .ok (.aload_n 0, 1) := by decide +kernel
theorem dX9_removeCell_25 : decode cX9_removeCell 25 = .ok (.getfield 9, 3) := by decide +kernel
theorem dX9_removeCell_28 : decode cX9_removeCell 28 = .ok (.iconst 5, 1) := by decide +kernel
theorem dX9_removeCell_29 : decode cX9_removeCell 29 = .ok (.iaload, 1) := by decide +kernel
theorem dX9_removeCell_30 : decode cX9_removeCell 30 = .ok (.ireturn, 1) := by decide +kernel
theorem dX9_puts_0 : decode cX9_puts 0 = .ok (.bipush 10, 2) := by decide +kernel
theorem dX9_puts_2 : decode cX9_puts 2 = .ok (.bipush 31, 2) := by decide +kernel
theorem dX9_puts_4 : decode cX9_puts 4 = .ok (.iload_n 1, 1) := by decide +kernel
theorem dX9_puts_5 : decode cX9_puts 5 = .ok (.imul, 1) := by decide +kernel
theorem dX9_puts_6 : decode cX9_puts 6 = .ok (.iadd, 1) := by decide +kernel
theorem dX9_puts_7 : decode cX9_puts 7 = .ok (.istore 4, 2) := by decide +kernel
theorem dX9_puts_9 : decode cX9_puts 9 = .ok (.aload_n 0, 1) := by decide +kernel
theorem dX9_puts_10 : decode cX9_puts 10 = .ok (.getfield 9, 3) := by decide +kernel
theorem dX9_puts_13 : decode cX9_puts 13 = .ok (.iload 4, 2) := by decide +kernel
theorem dX9_puts_15 : decode cX9_puts 15 = .ok (.bipush 7, 2) := by decide +kernel
theorem dX9_puts_17 : decode cX9_puts 17 = .ok (.iadd, 1) := by decide +kernel
theorem dX9_puts_18 : decode cX9_puts 18 = .ok (.aload_n 0, 1) := by decide +kernel
theorem dX9_puts_19 : decode cX9_puts 19 = .ok (.getfield 9, 3) := by decide +kernel
theorem dX9_puts_22 : decode cX9_puts 22 = .ok (.iload 4, 2) := by decide +kernel
theorem dX9_puts_24 : decode cX9_puts 24 = .ok (.iconst 4, 1) := by decide +kernel
theorem dX9_puts_25 : decode cX9_puts 25 = .ok (.iadd, 1) := by decide +kernel
theorem dX9_puts_26 : decode cX9_puts 26 = .ok (.iaload, 1) := by decide +kernel
theorem dX9_puts_27 : decode cX9_puts 27 = .ok (.iadd, 1) := by decide +kernel
theorem dX9_puts_28 : decode cX9_puts 28 = .ok (.iload_n 2, 1) := by decide +kernel
theorem dX9_puts_29 : decode cX9_puts 29 = .ok (.iastore, 1) := by decide +kernel
theorem dX9_puts_30 : decode cX9_puts 30 = .ok (.aload_n 0, 1) := by decide +kernel
theorem dX9_puts_31 : decode cX9_puts 31 = .ok (.getfield 9, 3) := by decide +kernel
theorem dX9_puts_34 : decode cX9_puts 34 = .ok (.iload 4, 2) := by decide +kernel
theorem dX9_puts_36 : decode cX9_puts 36 = .ok (.bipush 19, 2) := by decide +kernel
theorem dX9_puts_38 : decode cX9_puts 38 = .ok (.iadd, 1) := by decide +kernel
theorem dX9_puts_39 : decode cX9_puts 39 = .ok (.aload_n 0, 1) := by decide +kernel
theorem dX9_puts_40 : decode cX9_puts 40 = .ok (.getfield 9, 3) := by decide +kernel
theorem dX9_puts_43 : decode cX9_puts 43 = .ok (.iload 4, 2) := by decide +kernel
theorem dX9_puts_45 : decode cX9_puts 45 = .ok (.iconst 4, 1) := by decide +kernel
theorem dX9_puts_46 : decode cX9_puts 46 = .ok (.iadd, 1) := by decide +kernel
theorem dX9_puts_47 : decode cX9_puts 47 = .ok (.iaload, 1) := by decide +kernel
theorem dX9_puts_48 : decode cX9_puts 48 = .ok (.iadd, 1) := by decide +kernel
theorem dX9_puts_49 : decode cX9_puts 49 = .ok (.iload_n 3, 1) := by decide +kernel
theorem dX9_puts_50 : decode cX9_puts 50 = .ok (.iastore, 1) := by decide +kernel
theorem dX9_puts_51 : decode cX9_puts 51 = .ok (.aload_n 0, 1) := by decide +kernel
theorem dX9_puts_52 : decode cX9_puts 52 = .ok (.getfield 9, 3) := by decide +kernel
theorem dX9_puts_55 : decode cX9_puts 55 = .ok (.iload 4, 2) := by decide +kernel
theorem dX9_puts_57 : decode cX9_puts 57 = .ok (.iconst 4, 1) := by decide +kernel
theorem dX9_puts_58 : decode cX9_puts 58 = .ok (.iadd, 1) := by decide +kernel
theorem dX9_puts_59 : decode cX9_puts 59 = .ok (.dup2, 1) := by decide +kernel
theorem dX9_puts_60 : decode cX9_puts 60 = .ok (.iaload, 1) := by decide +kernel
theorem dX9_puts_61 : decode cX9_puts 61 = .ok (.iconst 1, 1) := by decide +kernel
theorem dX9_puts_62 : decode cX9_puts 62 = .ok (.iadd, 1) := by decide +kernel
theorem dX9_puts_63 : decode cX9_puts 63 = .ok (.iastore, 1) := by decide +kernel
theorem dX9_puts_64 : decode cX9_puts 64 = .ok (.return_, 1) := by decide +kernel
theorem dX9_addWord_0 : decode cX9_addWord 0 = .ok (.aload_n 0, 1) := by decide +kernel
theorem dX9_addWord_1 : decode cX9_addWord 1 = .ok (.iconst 0, 1) := by decide +kernel
theorem dX9_addWord_2 : decode cX9_addWord 2 = .ok (.putfield 84, 3) := by decide +kernel
theorem dX9_addWord_5 : decode cX9_addWord 5 = .ok (.aload_n 0, 1) := by decide +kernel
theorem dX9_addWord_6 : decode cX9_addWord 6 = .ok (.iload_n 1, 1) := by decide +kernel
theorem dX9_addWord_7 : decode cX9_addWord 7 = .ok (.invokevirtual 120, 3) := by decide +kernel
theorem dX9_addWord_10 : decode cX9_addWord 10 = .ok (.ifCond .ne 9, 3) := by decide +kernel
theorem dX9_addWord_13 : decode cX9_addWord 13 = .ok (.aload_n 0, 1) := by decide +kernel
theorem dX9_addWord_14 : decode cX9_addWord 14 = .ok (.iconst 1, 1) := by decide +kernel
theorem dX9_addWord_15 : decode cX9_addWord 15 = .ok (.invokevirtual 95, 3) := by decide +kernel
theorem dX9_addWord_18 : decode cX9_addWord 18 = .ok (.ireturn, 1) := by decide +kernel
theorem dX9_addWord_19 : decode cX9_addWord 19 = .ok (.aload_n 0, 1) := by decide +kernel
theorem dX9_addWord_20 : decode cX9_addWord 20 = .ok (.iload_n 1, 1) := by decide +kernel
theorem dX9_addWord_21 : decode cX9_addWord 21 = .ok (.invokevirtual 127, 3) := by decide +kernel
theorem dX9_addWord_24 : decode cX9_addWord 24 = .ok (.ifCond .ne 9, 3) := by decide +kernel
theorem dX9_addWord_27 : decode cX9_addWord 27 = .ok (.aload_n 0, 1) := by decide +kernel
theorem dX9_addWord_28 : decode cX9_addWord 28 = .ok (.iconst 2, 1) := by decide +kernel
theorem dX9_addWord_29 : decode cX9_addWord 29 = .ok (.invokevirtual 95, 3) := by decide +kernel
theorem dX9_addWord_32 : decode cX9_addWord 32 = .ok (.ireturn, 1) := by decide +kernel
theorem dX9_addWord_33 : decode cX9_addWord 33 = .ok (.iload_n 2, 1) := by decide +kernel
theorem dX9_addWord_34 : decode cX9_addWord 34 = .ok (.iconst 1, 1) := by decide +kernel
theorem dX9_addWord_35 : decode cX9_addWord 35 = .ok (.bipush 12, 2) := by decide +kernel
theorem dX9_addWord_37 : decode cX9_addWord 37 = .ok (.invokestatic 87, 3) := by decide +kernel
theorem dX9_addWord_40 : decode cX9_addWord 40 = .ok (.ifCond .eq 12, 3) := by decide +kernel
theorem dX9_addWord_43 : decode cX9_addWord 43 = .ok (.iload_n 3, 1) := by decide +kernel
theorem dX9_addWord_44 : decode cX9_addWord 44 = .ok (.iconst 0, 1) := by decide +kernel
theorem dX9_addWord_45 : decode cX9_addWord 45 = .ok (.iconst 3, 1) := by decide +kernel
theorem dX9_addWord_46 : decode cX9_addWord 46 = .ok (.invokestatic 87, 3) := by decide +kernel
theorem dX9_addWord_49 : decode cX9_addWord 49 = .ok (.ifCond .ne 9, 3) := by decide +kernel
theorem dX9_addWord_52 : decode cX9_addWord 52 = .ok (.aload_n 0, 1) := by decide +kernel
theorem dX9_addWord_53 : decode cX9_addWord 53 = .ok (.iconst 3, 1) := by decide +kernel
theorem dX9_addWord_54 : decode cX9_addWord 54 = .ok (.invokevirtual 95, 3) := by decide +kernel
theorem dX9_addWord_57 : decode cX9_addWord 57 = .ok (.ireturn, 1) := by decide +kernel
theorem dX9_addWord_58 : decode cX9_addWord 58 = .ok (.aload_n 0, 1) := by decide +kernel
theorem dX9_addWord_59 : decode cX9_addWord 59 = .ok (.iload_n 1, 1) := by decide +kernel
theorem dX9_addWord_60 : decode cX9_addWord 60 = .ok (.iconst 4, 1) := by decide +kernel
theorem dX9_addWord_61 : decode cX9_addWord 61 = .ok (.invokevirtual 91, 3) := by decide +kernel
theorem dX9_addWord_64 : decode cX9_addWord 64 = .ok (.bipush 12, 2) := by decide +kernel
theorem dX9_addWord_66 : decode cX9_addWord 66 = .ok (.if_icmp .ne 9, 3) := by decide +kernel
theorem dX9_addWord_69 : decode cX9_addWord 69 = .ok (.aload_n 0, 1) := by decide +kernel
theorem dX9_addWord_70 : decode cX9_addWord 70 = .ok (.iconst 4, 1) := by decide +kernel
theorem dX9_addWord_71 : decode cX9_addWord 71 = .ok (.invokevirtual 95, 3) := by decide +kernel
theorem dX9_addWord_74 : decode cX9_addWord 74 = .ok (.ireturn, 1) := by decide +kernel
theorem dX9_addWord_75 : decode cX9_addWord 75 = .ok (.aload_n 0, 1) := by decide +kernel
theorem dX9_addWord_76 : decode cX9_addWord 76 = .ok (.iload_n 1, 1) := by decide +kernel
theorem dX9_addWord_77 : decode cX9_addWord 77 = .ok (.iload_n 2, 1) := by decide +kernel
theorem dX9_addWord_78 : decode cX9_addWord 78 = .ok (.iload_n 3, 1) := by decide +kernel
theorem dX9_addWord_79 : decode cX9_addWord 79 = .ok (.invokevirtual 130, 3) := by decide +kernel
theorem dX9_addWord_82 : decode cX9_addWord 82 = .ok (.aload_n 0, 1) := by decide +kernel
theorem dX9_addWord_83 : decode cX9_addWord 83 = .ok (.iload_n 1, 1) := by decide +kernel
theorem dX9_addWord_84 : decode cX9_addWord 84 = .ok (.iconst 4, 1) := by decide +kernel
theorem dX9_addWord_85 : decode cX9_addWord 85 = .ok (.invokevirtual 91, 3) := by decide +kernel
theorem dX9_addWord_88 : decode cX9_addWord 88 = .ok (.ireturn, 1) := by decide +kernel
theorem dX9_clearWords_0 : decode cX9_clearWords 0 = .ok (.aload_n 0, 1) := by decide +kernel
theorem dX9_clearWords_1 : decode cX9_clearWords 1 = .ok (.iconst 0, 1) := by decide +kernel
theorem dX9_clearWords_2 : decode cX9_clearWords 2 = .ok (.putfield 84, 3) := by decide +kernel
theorem dX9_clearWords_5 : decode cX9_clearWords 5 = .ok (.aload_n 0, 1) := by decide +kernel
theorem dX9_clearWords_6 : decode cX9_clearWords 6 = .ok (.iload_n 1, 1) := by decide +kernel
theorem dX9_clearWords_7 : decode cX9_clearWords 7 = .ok (.invokevirtual 120, 3) := by decide +kernel
theorem dX9_clearWords_10 : decode cX9_clearWords 10 = .ok (.ifCond .ne 9, 3) := by decide +kernel
theorem dX9_clearWords_13 : decode cX9_clearWords 13 = .ok (.aload_n 0, 1) := by decide +kernel
theorem dX9_clearWords_14 : decode cX9_clearWords 14 = .ok (.iconst 1, 1) := by decide +kernel
theorem dX9_clearWords_15 : decode cX9_clearWords 15 = .ok (.invokevirtual 95, 3) := by decide +kernel
theorem dX9_clearWords_18 : decode cX9_clearWords 18 = .ok (.ireturn, 1) := by decide +kernel
theorem dX9_clearWords_19 : decode cX9_clearWords 19 = .ok (.aload_n 0, 1) := by decide +kernel
theorem dX9_clearWords_20 : decode cX9_clearWords 20 = .ok (.iload_n 1, 1) := by decide +kernel
theorem dX9_clearWords_21 : decode cX9_clearWords 21 = .ok (.invokevirtual 127, 3) := by decide +kernel
theorem dX9_clearWords_24 : decode cX9_clearWords 24 = .ok (.ifCond .ne 9, 3) := by decide +kernel
theorem dX9_clearWords_27 : decode cX9_clearWords 27 = .ok (.aload_n 0, 1) := by decide +kernel
theorem dX9_clearWords_28 : decode cX9_clearWords 28 = .ok (.iconst 2, 1) := by decide +kernel
theorem dX9_clearWords_29 : decode cX9_clearWords 29 = .ok (.invokevirtual 95, 3) := by decide +kernel
theorem dX9_clearWords_32 : decode cX9_clearWords 32 = .ok (.ireturn, 1) := by decide +kernel
theorem dX9_clearWords_33 : decode cX9_clearWords 33 = .ok (.aload_n 0, 1) := by decide +kernel
theorem dX9_clearWords_34 : decode cX9_clearWords 34 = .ok (.iload_n 1, 1) := by decide +kernel
theorem dX9_clearWords_35 : decode cX9_clearWords 35 = .ok (.iconst 4, 1) := by decide +kernel
theorem dX9_clearWords_36 : decode cX9_clearWords 36 = .ok (.invokevirtual 91, 3) := by decide +kernel
theorem dX9_clearWords_39 : decode cX9_clearWords 39 = .ok (.istore_n 2, 1) := by decide +kernel
theorem dX9_clearWords_40 : decode cX9_clearWords 40 = .ok (.aload_n 0, 1) := by decide +kernel
theorem dX9_clearWords_41 : decode cX9_clearWords 41 = .ok (.getfield 9, 3) := by decide +kernel
theorem dX9_clearWords_44 : decode cX9_clearWords 44 = .ok (.bipush 10, 2) := by decide +kernel
theorem dX9_clearWords_46 : decode cX9_clearWords 46 = .ok (.bipush 31, 2) := by decide +kernel
theorem dX9_clearWords_48 : decode cX9_clearWords 48 = .ok (.iload_n 1, 1) := by decide +kernel
theorem dX9_clearWords_49 : decode cX9_clearWords 49 = .ok (.imul, 1) := by decide +kernel
theorem dX9_clearWords_50 : decode cX9_clearWords 50 = .ok (.iadd, 1) := by decide +kernel
theorem dX9_clearWords_51 : decode cX9_clearWords 51 = .ok (.iconst 4, 1) := by decide +kernel
theorem dX9_clearWords_52 : decode cX9_clearWords 52 = .ok (.iadd, 1) := by decide +kernel
theorem dX9_clearWords_53 : decode cX9_clearWords 53 = .ok (.iconst 0, 1) := by decide +kernel
theorem dX9_clearWords_54 : decode cX9_clearWords 54 = .ok (.iastore, 1) := by decide +kernel
theorem dX9_clearWords_55 : decode cX9_clearWords 55 = .ok (.iload_n 2, 1) := by decide +kernel
theorem dX9_clearWords_56 : decode cX9_clearWords 56 = .ok (.ireturn, 1) := by decide +kernel
theorem dX9_setSize_0 : decode cX9_setSize 0 = .ok (.aload_n 0, 1) := by decide +kernel
theorem dX9_setSize_1 : decode cX9_setSize 1 = .ok (.iconst 0, 1) := by decide +kernel
theorem dX9_setSize_2 : decode cX9_setSize 2 = .ok (.putfield 84, 3) := by decide +kernel
theorem dX9_setSize_5 : decode cX9_setSize 5 = .ok (.aload_n 0, 1) := by decide +kernel
theorem dX9_setSize_6 : decode cX9_setSize 6 = .ok (.iload_n 1, 1) := by decide +kernel
theorem dX9_setSize_7 : decode cX9_setSize 7 = .ok (.invokevirtual 120, 3) := by decide +kernel
theorem dX9_setSize_10 : decode cX9_setSize 10 = .ok (.ifCond .ne 9, 3) := by decide +kernel
theorem dX9_setSize_13 : decode cX9_setSize 13 = .ok (.aload_n 0, 1) := by decide +kernel
theorem dX9_setSize_14 : decode cX9_setSize 14 = .ok (.iconst 1, 1) := by decide +kernel
theorem dX9_setSize_15 : decode cX9_setSize 15 = .ok (.invokevirtual 95, 3) := by decide +kernel
theorem dX9_setSize_18 : decode cX9_setSize 18 = .ok (.ireturn, 1) := by decide +kernel
theorem dX9_setSize_19 : decode cX9_setSize 19 = .ok (.aload_n 0, 1) := by decide +kernel
theorem dX9_setSize_20 : decode cX9_setSize 20 = .ok (.iload_n 1, 1) := by decide +kernel
theorem dX9_setSize_21 : decode cX9_setSize 21 = .ok (.invokevirtual 127, 3) := by decide +kernel
theorem dX9_setSize_24 : decode cX9_setSize 24 = .ok (.ifCond .eq 9, 3) := by decide +kernel
theorem dX9_setSize_27 : decode cX9_setSize 27 = .ok (.aload_n 0, 1) := by decide +kernel
theorem dX9_setSize_28 : decode cX9_setSize 28 = .ok (.iconst 2, 1) := by decide +kernel
theorem dX9_setSize_29 : decode cX9_setSize 29 = .ok (.invokevirtual 95, 3) := by decide +kernel
theorem dX9_setSize_32 : decode cX9_setSize 32 = .ok (.ireturn, 1) := by decide +kernel
theorem dX9_setSize_33 : decode cX9_setSize 33 = .ok (.iload_n 2, 1) := by decide +kernel
theorem dX9_setSize_34 : decode cX9_setSize 34 = .ok (.iconst 1, 1) := by decide +kernel
theorem dX9_setSize_35 : decode cX9_setSize 35 = .ok (.bipush 20, 2) := by decide +kernel
theorem dX9_setSize_37 : decode cX9_setSize 37 = .ok (.invokestatic 87, 3) := by decide +kernel
theorem dX9_setSize_40 : decode cX9_setSize 40 = .ok (.ifCond .eq 13, 3) := by decide +kernel
theorem dX9_setSize_43 : decode cX9_setSize 43 = .ok (.iload_n 3, 1) := by decide +kernel
theorem dX9_setSize_44 : decode cX9_setSize 44 = .ok (.iconst 1, 1) := by decide +kernel
theorem dX9_setSize_45 : decode cX9_setSize 45 = .ok (.bipush 20, 2) := by decide +kernel
theorem dX9_setSize_47 : decode cX9_setSize 47 = .ok (.invokestatic 87, 3) := by decide +kernel
theorem dX9_setSize_50 : decode cX9_setSize 50 = .ok (.ifCond .ne 9, 3) := by decide +kernel
theorem dX9_setSize_53 : decode cX9_setSize 53 = .ok (.aload_n 0, 1) := by decide +kernel
theorem dX9_setSize_54 : decode cX9_setSize 54 = .ok (.iconst 3, 1) := by decide +kernel
theorem dX9_setSize_55 : decode cX9_setSize 55 = .ok (.invokevirtual 95, 3) := by decide +kernel
theorem dX9_setSize_58 : decode cX9_setSize 58 = .ok (.ireturn, 1) := by decide +kernel
theorem dX9_setSize_59 : decode cX9_setSize 59 = .ok (.bipush 100, 2) := by decide +kernel
theorem dX9_setSize_61 : decode cX9_setSize 61 = .ok (.aload_n 0, 1) := by decide +kernel
theorem dX9_setSize_62 : decode cX9_setSize 62 = .ok (.iload_n 1, 1) := by decide +kernel
theorem dX9_setSize_63 : decode cX9_setSize 63 = .ok (.iconst 5, 1) := by decide +kernel
theorem dX9_setSize_64 : decode cX9_setSize 64 = .ok (.invokevirtual 91, 3) := by decide +kernel
theorem dX9_setSize_67 : decode cX9_setSize 67 = .ok (.imul, 1) := by decide +kernel
theorem dX9_setSize_68 : decode cX9_setSize 68 = .ok (.aload_n 0, 1) := by decide +kernel
theorem dX9_setSize_69 : decode cX9_setSize 69 = .ok (.iload_n 1, 1) := by decide +kernel
theorem dX9_setSize_70 : decode cX9_setSize 70 = .ok (.bipush 6, 2) := by decide +kernel
theorem dX9_setSize_72 : decode cX9_setSize 72 = .ok (.invokevirtual 91, 3) := by decide +kernel
theorem dX9_setSize_75 : decode cX9_setSize 75 = .ok (.iadd, 1) := by decide +kernel
theorem dX9_setSize_76 : decode cX9_setSize 76 = .ok (.istore 4, 2) := by decide +kernel
theorem dX9_setSize_78 : decode cX9_setSize 78 = .ok (.aload_n 0, 1) := by decide +kernel
theorem dX9_setSize_79 : decode cX9_setSize 79 = .ok (.getfield 9, 3) := by decide +kernel
theorem dX9_setSize_82 : decode cX9_setSize 82 = .ok (.bipush 10, 2) := by decide +kernel
theorem dX9_setSize_84 : decode cX9_setSize 84 = .ok (.bipush 31, 2) := by decide +kernel
theorem dX9_setSize_86 : decode cX9_setSize 86 = .ok (.iload_n 1, 1) := by decide +kernel
theorem dX9_setSize_87 : decode cX9_setSize 87 = .ok (.imul, 1) := by decide +kernel
theorem dX9_setSize_88 : decode cX9_setSize 88 = .ok (.iadd, 1) := by decide +kernel
theorem dX9_setSize_89 : decode cX9_setSize 89 = .ok (.iconst 5, 1) := by decide +kernel
theorem dX9_setSize_90 : decode cX9_setSize 90 = .ok (.iadd, 1) := by decide +kernel
theorem dX9_setSize_91 : decode cX9_setSize 91 = .ok (.iload_n 2, 1) := by decide +kernel
theorem dX9_setSize_92 : decode cX9_setSize 92 = .ok (.iastore, 1) := by decide +kernel
theorem dX9_setSize_93 : decode cX9_setSize 93 = .ok (.aload_n 0, 1) := by decide +kernel
theorem dX9_setSize_94 : decode cX9_setSize 94 = .ok (.getfield 9, 3) := by decide +kernel
theorem dX9_setSize_97 : decode cX9_setSize 97 = .ok (.bipush 10, 2) := by decide +kernel
theorem dX9_setSize_99 : decode cX9_setSize 99 = .ok (.bipush 31, 2) := by decide +kernel
theorem dX9_setSize_101 : decode cX9_setSize 101 = .ok (.iload_n 1, 1) := by decide +kernel
theorem dX9_setSize_102 : decode cX9_setSize 102 = .ok (.imul, 1) := by decide +kernel
theorem dX9_setSize_103 : decode cX9_setSize 103 = .ok (.iadd, 1) := by decide +kernel
theorem dX9_setSize_104 : decode cX9_setSize 104 = .ok (.bipush 6, 2) := by decide +kernel
theorem dX9_setSize_106 : decode cX9_setSize 106 = .ok (.iadd, 1) := by decide +kernel
theorem dX9_setSize_107 : decode cX9_setSize 107 = .ok (.iload_n 3, 1) := by decide +kernel
theorem dX9_setSize_108 : decode cX9_setSize 108 = .ok (.iastore, 1) := by decide +kernel
theorem dX9_setSize_109 : decode cX9_setSize 109 = .ok (.iload 4, 2) := by decide +kernel
theorem dX9_setSize_111 : decode cX9_setSize 111 = .ok (.ireturn, 1) := by decide +kernel
theorem dX9_setKind_0 : decode cX9_setKind 0 = .ok (.aload_n 0, 1) := by decide +kernel
theorem dX9_setKind_1 : decode cX9_setKind 1 = .ok (.iconst 0, 1) := by decide +kernel
theorem dX9_setKind_2 : decode cX9_setKind 2 = .ok (.putfield 84, 3) := by decide +kernel
theorem dX9_setKind_5 : decode cX9_setKind 5 = .ok (.aload_n 0, 1) := by decide +kernel
theorem dX9_setKind_6 : decode cX9_setKind 6 = .ok (.iload_n 1, 1) := by decide +kernel
theorem dX9_setKind_7 : decode cX9_setKind 7 = .ok (.invokevirtual 120, 3) := by decide +kernel
theorem dX9_setKind_10 : decode cX9_setKind 10 = .ok (.ifCond .ne 9, 3) := by decide +kernel
theorem dX9_setKind_13 : decode cX9_setKind 13 = .ok (.aload_n 0, 1) := by decide +kernel
theorem dX9_setKind_14 : decode cX9_setKind 14 = .ok (.iconst 1, 1) := by decide +kernel
theorem dX9_setKind_15 : decode cX9_setKind 15 = .ok (.invokevirtual 95, 3) := by decide +kernel
theorem dX9_setKind_18 : decode cX9_setKind 18 = .ok (.ireturn, 1) := by decide +kernel
theorem dX9_setKind_19 : decode cX9_setKind 19 = .ok (.iload_n 2, 1) := by decide +kernel
theorem dX9_setKind_20 : decode cX9_setKind 20 = .ok (.iconst 0, 1) := by decide +kernel
theorem dX9_setKind_21 : decode cX9_setKind 21 = .ok (.iconst 5, 1) := by decide +kernel
theorem dX9_setKind_22 : decode cX9_setKind 22 = .ok (.invokestatic 87, 3) := by decide +kernel
theorem dX9_setKind_25 : decode cX9_setKind 25 = .ok (.ifCond .ne 9, 3) := by decide +kernel
theorem dX9_setKind_28 : decode cX9_setKind 28 = .ok (.aload_n 0, 1) := by decide +kernel
theorem dX9_setKind_29 : decode cX9_setKind 29 = .ok (.iconst 2, 1) := by decide +kernel
theorem dX9_setKind_30 : decode cX9_setKind 30 = .ok (.invokevirtual 95, 3) := by decide +kernel
theorem dX9_setKind_33 : decode cX9_setKind 33 = .ok (.ireturn, 1) := by decide +kernel
theorem dX9_setKind_34 : decode cX9_setKind 34 = .ok (.aload_n 0, 1) := by decide +kernel
theorem dX9_setKind_35 : decode cX9_setKind 35 = .ok (.iload_n 1, 1) := by decide +kernel
theorem dX9_setKind_36 : decode cX9_setKind 36 = .ok (.invokevirtual 127, 3) := by decide +kernel
theorem dX9_setKind_39 : decode cX9_setKind 39 = .ok (.iload_n 2, 1) := by decide +kernel
theorem dX9_setKind_40 : decode cX9_setKind 40 = .ok (.iconst 4, 1) := by decide +kernel
theorem dX9_setKind_41 : decode cX9_setKind 41 = .ok (.if_icmp .ge 7, 3) := by decide +kernel
theorem dX9_setKind_44 : decode cX9_setKind 44 = .ok (.iconst 1, 1) := by decide +kernel
theorem dX9_setKind_45 : decode cX9_setKind 45 = .ok (.goto 4, 3) := by decide +kernel
theorem dX9_setKind_48 : decode cX9_setKind 48 = .ok (.iconst 0, 1) := by decide +kernel
theorem dX9_setKind_49 : decode cX9_setKind 49 = .ok (.if_icmp .eq 9, 3) := by decide +kernel
theorem dX9_setKind_52 : decode cX9_setKind 52 = .ok (.aload_n 0, 1) := by decide +kernel
theorem dX9_setKind_53 : decode cX9_setKind 53 = .ok (.iconst 3, 1) := by decide +kernel
theorem dX9_setKind_54 : decode cX9_setKind 54 = .ok (.invokevirtual 95, 3) := by decide +kernel
theorem dX9_setKind_57 : decode cX9_setKind 57 = .ok (.ireturn, 1) := by decide +kernel
theorem dX9_setKind_58 : decode cX9_setKind 58 = .ok (.aload_n 0, 1) := by decide +kernel
theorem dX9_setKind_59 : decode cX9_setKind 59 = .ok (.iload_n 1, 1) := by decide +kernel
theorem dX9_setKind_60 : decode cX9_setKind 60 = .ok (.iconst 3, 1) := by decide +kernel
theorem dX9_setKind_61 : decode cX9_setKind 61 = .ok (.invokevirtual 91, 3) := by decide +kernel
theorem dX9_setKind_64 : decode cX9_setKind 64 = .ok (.istore_n 3, 1) := by decide +kernel
theorem dX9_setKind_65 : decode cX9_setKind 65 = .ok (.aload_n 0, 1) := by decide +kernel
theorem dX9_setKind_66 : decode cX9_setKind 66 = .ok (.getfield 9, 3) := by decide +kernel
theorem dX9_setKind_69 : decode cX9_setKind 69 = .ok (.bipush 10, 2) := by decide +kernel
theorem dX9_setKind_71 : decode cX9_setKind 71 = .ok (.bipush 31, 2) := by decide +kernel
theorem dX9_setKind_73 : decode cX9_setKind 73 = .ok (.iload_n 1, 1) := by decide +kernel
theorem dX9_setKind_74 : decode cX9_setKind 74 = .ok (.imul, 1) := by decide +kernel
theorem dX9_setKind_75 : decode cX9_setKind 75 = .ok (.iadd, 1) := by decide +kernel
theorem dX9_setKind_76 : decode cX9_setKind 76 = .ok (.iconst 3, 1) := by decide +kernel
theorem dX9_setKind_77 : decode cX9_setKind 77 = .ok (.iadd, 1) := by decide +kernel
theorem dX9_setKind_78 : decode cX9_setKind 78 = .ok (.iload_n 2, 1) := by decide +kernel
theorem dX9_setKind_79 : decode cX9_setKind 79 = .ok (.iastore, 1) := by decide +kernel
theorem dX9_setKind_80 : decode cX9_setKind 80 = .ok (.iload_n 3, 1) := by decide +kernel
theorem dX9_setKind_81 : decode cX9_setKind 81 = .ok (.ireturn, 1) := by decide +kernel
theorem dX9_append_0 : decode cX9_append 0 = .ok (.aload_n 0, 1) := by decide +kernel
theorem dX9_append_1 : decode cX9_append 1 = .ok (.iconst 0, 1) := by decide +kernel
theorem dX9_append_2 : decode cX9_append 2 = .ok (.putfield 84, 3) := by decide +kernel
theorem dX9_append_5 : decode cX9_append 5 = .ok (.iconst 0, 1) := by decide +kernel
theorem dX9_append_6 : decode cX9_append 6 = .ok (.istore_n 2, 1) := by decide +kernel
theorem dX9_append_7 : decode cX9_append 7 = .ok (.bipush 24, 2) := by decide +kernel
theorem dX9_append_9 : decode cX9_append 9 = .ok (.istore_n 3, 1) := by decide +kernel
theorem dX9_append_10 : decode cX9_append 10 = .ok (.iload_n 3, 1) := by decide +kernel
theorem dX9_append_11 : decode cX9_append 11 = .ok (.ifCond .lt 54, 3) := by decide +kernel
theorem dX9_append_14 : decode cX9_append 14 = .ok (.iload_n 1, 1) := by decide +kernel
theorem dX9_append_15 : decode cX9_append 15 = .ok (.iload_n 3, 1) := by decide +kernel
theorem dX9_append_16 : decode cX9_append 16 = .ok (.iushr, 1) := by decide +kernel
theorem dX9_append_17 : decode cX9_append 17 = .ok (.sipush 255, 3) := by decide +kernel
theorem dX9_append_20 : decode cX9_append 20 = .ok (.iand, 1) := by decide +kernel
theorem dX9_append_21 : decode cX9_append 21 = .ok (.istore 4, 2) := by decide +kernel
theorem dX9_append_23 : decode cX9_append 23 = .ok (.iload 4, 2) := by decide +kernel
theorem dX9_append_25 : decode cX9_append 25 = .ok (.ifCond .eq 21, 3) := by decide +kernel
theorem dX9_append_28 : decode cX9_append 28 = .ok (.iload 4, 2) := by decide +kernel
theorem dX9_append_30 : decode cX9_append 30 = .ok (.bipush 33, 2) := by decide +kernel
theorem dX9_append_32 : decode cX9_append 32 = .ok (.bipush 126, 2) := by decide +kernel
theorem dX9_append_34 : decode cX9_append 34 = .ok (.invokestatic 87, 3) := by decide +kernel
theorem dX9_append_37 : decode cX9_append 37 = .ok (.ifCond .ne 9, 3) := by decide +kernel
theorem dX9_append_40 : decode cX9_append 40 = .ok (.aload_n 0, 1) := by decide +kernel
theorem dX9_append_41 : decode cX9_append 41 = .ok (.iconst 1, 1) := by decide +kernel
theorem dX9_append_42 : decode cX9_append 42 = .ok (.invokevirtual 95, 3) := by decide +kernel
theorem dX9_append_45 : decode cX9_append 45 = .ok (.ireturn, 1) := by decide +kernel
theorem dX9_append_46 : decode cX9_append 46 = .ok (.iload_n 2, 1) := by decide +kernel
theorem dX9_append_47 : decode cX9_append 47 = .ok (.iload 4, 2) := by decide +kernel
theorem dX9_append_49 : decode cX9_append 49 = .ok (.ifCond .ne 7, 3) := by decide +kernel
theorem dX9_append_52 : decode cX9_append 52 = .ok (.iconst 0, 1) := by decide +kernel
theorem dX9_append_53 : decode cX9_append 53 = .ok (.goto 4, 3) := by decide +kernel
theorem dX9_append_56 : decode cX9_append 56 = .ok (.iconst 1, 1) := by decide +kernel
theorem dX9_append_57 : decode cX9_append 57 = .ok (.iadd, 1) := by decide +kernel
theorem dX9_append_58 : decode cX9_append 58 = .ok (.istore_n 2, 1) := by decide +kernel
theorem dX9_append_59 : decode cX9_append 59 = .ok (.iinc 3 (-8), 3) := by decide +kernel
theorem dX9_append_62 : decode cX9_append 62 = .ok (.goto (-52), 3) := by decide +kernel
theorem dX9_append_65 : decode cX9_append 65 = .ok (.aload_n 0, 1) := by decide +kernel
theorem dX9_append_66 : decode cX9_append 66 = .ok (.getfield 134, 3) := by decide +kernel
theorem dX9_append_69 : decode cX9_append 69 = .ok (.iload_n 2, 1) := by decide +kernel
theorem dX9_append_70 : decode cX9_append 70 = .ok (.iadd, 1) := by decide +kernel
theorem dX9_append_71 : decode cX9_append 71 = .ok (.bipush 60, 2) := by decide +kernel
theorem dX9_append_73 : decode cX9_append 73 = .ok (.if_icmp .le 9, 3) := by decide +kernel
theorem dX9_append_76 : decode cX9_append 76 = .ok (.aload_n 0, 1) := by decide +kernel
theorem dX9_append_77 : decode cX9_append 77 = .ok (.iconst 2, 1) := by decide +kernel
theorem dX9_append_78 : decode cX9_append 78 = .ok (.invokevirtual 95, 3) := by decide +kernel
theorem dX9_append_81 : decode cX9_append 81 = .ok (.ireturn, 1) := by decide +kernel
theorem dX9_append_82 : decode cX9_append 82 = .ok (.bipush 24, 2) := by decide +kernel
theorem dX9_append_84 : decode cX9_append 84 = .ok (.istore_n 3, 1) := by decide +kernel
theorem dX9_append_85 : decode cX9_append 85 = .ok (.iload_n 3, 1) := by decide +kernel
theorem dX9_append_86 : decode cX9_append 86 = .ok (.ifCond .lt 45, 3) := by decide +kernel
theorem dX9_append_89 : decode cX9_append 89 = .ok (.iload_n 1, 1) := by decide +kernel
theorem dX9_append_90 : decode cX9_append 90 = .ok (.iload_n 3, 1) := by decide +kernel
theorem dX9_append_91 : decode cX9_append 91 = .ok (.iushr, 1) := by decide +kernel
theorem dX9_append_92 : decode cX9_append 92 = .ok (.sipush 255, 3) := by decide +kernel
theorem dX9_append_95 : decode cX9_append 95 = .ok (.iand, 1) := by decide +kernel
theorem dX9_append_96 : decode cX9_append 96 = .ok (.ifCond .eq 29, 3) := by decide +kernel
theorem dX9_append_99 : decode cX9_append 99 = .ok (.aload_n 0, 1) := by decide +kernel
theorem dX9_append_100 : decode cX9_append 100 = .ok (.getfield 19, 3) := by decide +kernel
theorem dX9_append_103 : decode cX9_append 103 = .ok (.aload_n 0, 1) := by decide +kernel
theorem dX9_append_104 : decode cX9_append 104 = .ok (.getfield 134, 3) := by decide +kernel
theorem dX9_append_107 : decode cX9_append 107 = .ok (.iload_n 1, 1) := by decide +kernel
theorem dX9_append_108 : decode cX9_append 108 = .ok (.iload_n 3, 1) := by decide +kernel
theorem dX9_append_109 : decode cX9_append 109 = .ok (.iushr, 1) := by decide +kernel
theorem dX9_append_110 : decode cX9_append 110 = .ok (.sipush 255, 3) := by decide +kernel
theorem dX9_append_113 : decode cX9_append 113 = .ok (.iand, 1) := by decide +kernel
theorem dX9_append_114 : decode cX9_append 114 = .ok (.iastore, 1) := by decide +kernel
theorem dX9_append_115 : decode cX9_append 115 = .ok (.aload_n 0, 1) := by decide +kernel
theorem dX9_append_116 : decode cX9_append 116 = .ok (.dup, 1) := by decide +kernel
theorem dX9_append_117 : decode cX9_append 117 = .ok (.getfield 134, 3) := by decide +kernel
theorem dX9_append_120 : decode cX9_append 120 = .ok (.iconst 1, 1) := by decide +kernel
theorem dX9_append_121 : decode cX9_append 121 = .ok (.iadd, 1) := by decide +kernel
theorem dX9_append_122 : decode cX9_append 122 = .ok (.putfield 134, 3) := by decide +kernel
theorem dX9_append_125 : decode cX9_append 125 = .ok (.iinc 3 (-8), 3) := by decide +kernel
theorem dX9_append_128 : decode cX9_append 128 = .ok (.goto (-43), 3) := by decide +kernel
theorem dX9_append_131 : decode cX9_append 131 = .ok (.aload_n 0, 1) := by decide +kernel
theorem dX9_append_132 : decode cX9_append 132 = .ok (.getfield 134, 3) := by decide +kernel
theorem dX9_append_135 : decode cX9_append 135 = .ok (.ireturn, 1) := by decide +kernel
theorem dX9_errorPosition_0 : decode cX9_errorPosition 0 = .ok (.aload_n 0, 1) := by decide +kernel
theorem dX9_errorPosition_1 : decode cX9_errorPosition 1 = .ok (.iconst 0, 1) := by decide +kernel
theorem dX9_errorPosition_2 : decode cX9_errorPosition 2 = .ok (.putfield 84, 3) := by decide +kernel
theorem dX9_errorPosition_5 : decode cX9_errorPosition 5 = .ok (.aload_n 0, 1) := by decide +kernel
theorem dX9_errorPosition_6 : decode cX9_errorPosition 6 = .ok (.getfield 22, 3) := by decide +kernel
theorem dX9_errorPosition_9 : decode cX9_errorPosition 9 = .ok (.ireturn, 1) := by decide +kernel
theorem dX9_here_0 : decode cX9_here 0 = .ok (.aload_n 0, 1) := by decide +kernel
theorem dX9_here_1 : decode cX9_here 1 = .ok (.getfield 137, 3) := by decide +kernel
theorem dX9_here_4 : decode cX9_here 4 = .ok (.aload_n 0, 1) := by decide +kernel
theorem dX9_here_5 : decode cX9_here 5 = .ok (.getfield 134, 3) := by decide +kernel
theorem dX9_here_8 : decode cX9_here 8 = .ok (.if_icmp .ge 15, 3) := by decide +kernel
theorem dX9_here_11 : decode cX9_here 11 = .ok (.aload_n 0, 1) := by decide +kernel
theorem dX9_here_12 : decode cX9_here 12 = .ok (.getfield 19, 3) := by decide +kernel
theorem dX9_here_15 : decode cX9_here 15 = .ok (.aload_n 0, 1) := by decide +kernel
theorem dX9_here_16 : decode cX9_here 16 = .ok (.getfield 137, 3) := by decide +kernel
theorem dX9_here_19 : decode cX9_here 19 = .ok (.iaload, 1) := by decide +kernel
theorem dX9_here_20 : decode cX9_here 20 = .ok (.goto 4, 3) := by decide +kernel
theorem dX9_here_23 : decode cX9_here 23 = .ok (.iconst (-1), 1) := by decide +kernel
theorem dX9_here_24 : decode cX9_here 24 = .ok (.ireturn, 1) := by decide +kernel
theorem dX9_isOff_0 : decode cX9_isOff 0 = .ok (.aload_n 0, 1) := by decide +kernel
theorem dX9_isOff_1 : decode cX9_isOff 1 = .ok (.getfield 22, 3) := by decide +kernel
theorem dX9_isOff_4 : decode cX9_isOff 4 = .ok (.iconst (-1), 1) := by decide +kernel
theorem dX9_isOff_5 : decode cX9_isOff 5 = .ok (.if_icmp .eq 7, 3) := by decide +kernel
theorem dX9_isOff_8 : decode cX9_isOff 8 = .ok (.iconst 1, 1) := by decide +kernel
theorem dX9_isOff_9 : decode cX9_isOff 9 = .ok (.goto 4, 3) := by decide +kernel
theorem dX9_isOff_12 : decode cX9_isOff 12 = .ok (.iconst 0, 1) := by decide +kernel
theorem dX9_isOff_13 : decode cX9_isOff 13 = .ok (.ireturn, 1) := by decide +kernel
theorem dX9_off_0 : decode cX9_off 0 = .ok (.aload_n 0, 1) := by decide +kernel
theorem dX9_off_1 : decode cX9_off 1 = .ok (.aload_n 0, 1) := by decide +kernel
theorem dX9_off_2 : decode cX9_off 2 = .ok (.invokevirtual 140, 3) := by decide +kernel
theorem dX9_off_5 : decode cX9_off 5 = .ok (.ifCond .eq 10, 3) := by decide +kernel
theorem dX9_off_8 : decode cX9_off 8 = .ok (.aload_n 0, 1) := by decide +kernel
theorem dX9_off_9 : decode cX9_off 9 = .ok (.getfield 22, 3) := by decide +kernel
theorem dX9_off_12 : decode cX9_off 12 = .ok (.goto 4, 3) := by decide +kernel
theorem dX9_off_15 : decode cX9_off 15 = .ok (.iload_n 1, 1) := by decide +kernel
theorem dX9_off_16 : decode cX9_off 16 = .ok (.putfield 22, 3) := by decide +kernel
theorem dX9_off_19 : decode cX9_off 19 = .ok (.return_, 1) := by decide +kernel
theorem dX9_must_0 : decode cX9_must 0 = .ok (.aload_n 0, 1) := by decide +kernel
theorem dX9_must_1 : decode cX9_must 1 = .ok (.invokevirtual 140, 3) := by decide +kernel
theorem dX9_must_4 : decode cX9_must 4 = .ok (.ifCond .eq 4, 3) := by decide +kernel
theorem dX9_must_7 : decode cX9_must 7 = .ok (.return_, 1) := by decide +kernel
theorem dX9_must_8 : decode cX9_must 8 = .ok (.aload_n 0, 1) := by decide +kernel
theorem dX9_must_9 : decode cX9_must 9 = .ok (.invokevirtual 144, 3) := by decide +kernel
theorem dX9_must_12 : decode cX9_must 12 = .ok (.iload_n 1, 1) := by decide +kernel
theorem dX9_must_13 : decode cX9_must 13 = .ok (.if_icmp .ne 16, 3) := by decide +kernel
theorem dX9_must_16 : decode cX9_must 16 = .ok (.aload_n 0, 1) := by decide +kernel
theorem dX9_must_17 : decode cX9_must 17 = .ok (.dup, 1) := by decide +kernel
theorem dX9_must_18 : decode cX9_must 18 = .ok (.getfield 137, 3) := by decide +kernel
theorem dX9_must_21 : decode cX9_must 21 = .ok (.iconst 1, 1) := by decide +kernel
theorem dX9_must_22 : decode cX9_must 22 = .ok (.iadd, 1) := by decide +kernel
theorem dX9_must_23 : decode cX9_must 23 = .ok (.putfield 137, 3) := by decide +kernel
theorem dX9_must_26 : decode cX9_must 26 = .ok (.goto 11, 3) := by decide +kernel
theorem dX9_must_29 : decode cX9_must 29 = .ok (.aload_n 0, 1) := by decide +kernel
theorem dX9_must_30 : decode cX9_must 30 = .ok (.aload_n 0, 1) := by decide +kernel
theorem dX9_must_31 : decode cX9_must 31 = .ok (.getfield 137, 3) := by decide +kernel
theorem dX9_must_34 : decode cX9_must 34 = .ok (.invokevirtual 148, 3) := by decide +kernel
theorem dX9_must_37 : decode cX9_must 37 = .ok (.return_, 1) := by decide +kernel
theorem dX9_digit_0 : decode cX9_digit 0 = .ok (.aload_n 0, 1) := by decide +kernel
theorem dX9_digit_1 : decode cX9_digit 1 = .ok (.invokevirtual 140, 3) := by decide +kernel
theorem dX9_digit_4 : decode cX9_digit 4 = .ok (.ifCond .eq 5, 3) := by decide +kernel
theorem dX9_digit_7 : decode cX9_digit 7 = .ok (.iconst 0, 1) := by decide +kernel
theorem dX9_digit_8 : decode cX9_digit 8 = .ok (.ireturn, 1) := by decide +kernel
theorem dX9_digit_9 : decode cX9_digit 9 = .ok (.aload_n 0, 1) := by decide +kernel
theorem dX9_digit_10 : decode cX9_digit 10 = .ok (.invokevirtual 144, 3) := by decide +kernel
theorem dX9_digit_13 : decode cX9_digit 13 = .ok (.bipush 48, 2) := by decide +kernel
theorem dX9_digit_15 : decode cX9_digit 15 = .ok (.bipush 57, 2) := by decide +kernel
theorem dX9_digit_17 : decode cX9_digit 17 = .ok (.invokestatic 87, 3) := by decide +kernel
theorem dX9_digit_20 : decode cX9_digit 20 = .ok (.ifCond .ne 13, 3) := by decide +kernel
theorem dX9_digit_23 : decode cX9_digit 23 = .ok (.aload_n 0, 1) := by decide +kernel
theorem dX9_digit_24 : decode cX9_digit 24 = .ok (.aload_n 0, 1) := by decide +kernel
theorem dX9_digit_25 : decode cX9_digit 25 = .ok (.getfield 137, 3) := by decide +kernel
theorem dX9_digit_28 : decode cX9_digit 28 = .ok (.invokevirtual 148, 3) := by decide +kernel
theorem dX9_digit_31 : decode cX9_digit 31 = .ok (.iconst 0, 1) := by decide +kernel
theorem dX9_digit_32 : decode cX9_digit 32 = .ok (.ireturn, 1) := by decide +kernel
theorem dX9_digit_33 : decode cX9_digit 33 = .ok (.aload_n 0, 1) := by decide +kernel
theorem dX9_digit_34 : decode cX9_digit 34 = .ok (.dup, 1) := by decide +kernel
theorem dX9_digit_35 : decode cX9_digit 35 = .ok (.getfield 137, 3) := by decide +kernel
theorem dX9_digit_38 : decode cX9_digit 38 = .ok (.iconst 1, 1) := by decide +kernel
theorem dX9_digit_39 : decode cX9_digit 39 = .ok (.iadd, 1) := by decide +kernel
theorem dX9_digit_40 : decode cX9_digit 40 = .ok (.putfield 137, 3) := by decide +kernel
theorem dX9_digit_43 : decode cX9_digit 43 = .ok (.aload_n 0, 1) := by decide +kernel
theorem dX9_digit_44 : decode cX9_digit 44 = .ok (.getfield 19, 3) := by decide +kernel
theorem dX9_digit_47 : decode cX9_digit 47 = .ok (.aload_n 0, 1) := by decide +kernel
theorem dX9_digit_48 : decode cX9_digit 48 = .ok (.getfield 137, 3) := by decide +kernel
theorem dX9_digit_51 : decode cX9_digit 51 = .ok (.iconst 1, 1) := by decide +kernel
theorem dX9_digit_52 : decode cX9_digit 52 = .ok (.isub, 1) := by decide +kernel
theorem dX9_digit_53 : decode cX9_digit 53 = .ok (.iaload, 1) := by decide +kernel
theorem dX9_digit_54 : decode cX9_digit 54 = .ok (.bipush 48, 2) := by decide +kernel
theorem dX9_digit_56 : decode cX9_digit 56 = .ok (.isub, 1) := by decide +kernel
theorem dX9_digit_57 : decode cX9_digit 57 = .ok (.ireturn, 1) := by decide +kernel
theorem dX9_number_0 : decode cX9_number 0 = .ok (.aload_n 0, 1) := by decide +kernel
theorem dX9_number_1 : decode cX9_number 1 = .ok (.getfield 137, 3) := by decide +kernel
theorem dX9_number_4 : decode cX9_number 4 = .ok (.istore_n 3, 1) := by decide +kernel
theorem dX9_number_5 : decode cX9_number 5 = .ok (.aload_n 0, 1) := by decide +kernel
theorem dX9_number_6 : decode cX9_number 6 = .ok (.invokevirtual 151, 3) := by decide +kernel
theorem dX9_number_9 : decode cX9_number 9 = .ok (.istore 4, 2) := by decide +kernel
theorem dX9_number_11 : decode cX9_number 11 = .ok (.aload_n 0, 1) := by decide +kernel
theorem dX9_number_12 : decode cX9_number 12 = .ok (.invokevirtual 140, 3) := by decide +kernel
theorem dX9_number_15 : decode cX9_number 15 = .ok (.ifCond .ne 34, 3) := by decide +kernel
theorem dX9_number_18 : decode cX9_number 18 = .ok (.iload 4, 2) := by decide +kernel
theorem dX9_number_20 : decode cX9_number 20 = .ok (.ifCond .le 29, 3) := by decide +kernel
theorem dX9_number_23 : decode cX9_number 23 = .ok (.aload_n 0, 1) := by decide +kernel
theorem dX9_number_24 : decode cX9_number 24 = .ok (.invokevirtual 144, 3) := by decide +kernel
theorem dX9_number_27 : decode cX9_number 27 = .ok (.bipush 48, 2) := by decide +kernel
theorem dX9_number_29 : decode cX9_number 29 = .ok (.bipush 57, 2) := by decide +kernel
theorem dX9_number_31 : decode cX9_number 31 = .ok (.invokestatic 87, 3) := by decide +kernel
theorem dX9_number_34 : decode cX9_number 34 = .ok (.ifCond .eq 15, 3) := by decide +kernel
theorem dX9_number_37 : decode cX9_number 37 = .ok (.bipush 10, 2) := by decide +kernel
theorem dX9_number_39 : decode cX9_number 39 = .ok (.iload 4, 2) := by decide +kernel
theorem dX9_number_41 : decode cX9_number 41 = .ok (.imul, 1) := by decide +kernel
theorem dX9_number_42 : decode cX9_number 42 = .ok (.aload_n 0, 1) := by decide +kernel
theorem dX9_number_43 : decode cX9_number 43 = .ok (.invokevirtual 151, 3) := by decide +kernel
theorem dX9_number_46 : decode cX9_number 46 = .ok (.iadd, 1) := by decide +kernel
theorem dX9_number_47 : decode cX9_number 47 = .ok (.istore 4, 2) := by decide +kernel
theorem dX9_number_49 : decode cX9_number 49 = .ok (.aload_n 0, 1) := by decide +kernel
theorem dX9_number_50 : decode cX9_number 50 = .ok (.invokevirtual 140, 3) := by decide +kernel
theorem dX9_number_53 : decode cX9_number 53 = .ok (.ifCond .ne 18, 3) := by decide +kernel
theorem dX9_number_56 : decode cX9_number 56 = .ok (.iload 4, 2) := by decide +kernel
theorem dX9_number_58 : decode cX9_number 58 = .ok (.iload_n 1, 1) := by decide +kernel
theorem dX9_number_59 : decode cX9_number 59 = .ok (.iload_n 2, 1) := by decide +kernel
theorem dX9_number_60 : decode cX9_number 60 = .ok (.invokestatic 87, 3) := by decide +kernel
theorem dX9_number_63 : decode cX9_number 63 = .ok (.ifCond .ne 8, 3) := by decide +kernel
theorem dX9_number_66 : decode cX9_number 66 = .ok (.aload_n 0, 1) := by decide +kernel
theorem dX9_number_67 : decode cX9_number 67 = .ok (.iload_n 3, 1) := by decide +kernel
theorem dX9_number_68 : decode cX9_number 68 = .ok (.invokevirtual 148, 3) := by decide +kernel
theorem dX9_number_71 : decode cX9_number 71 = .ok (.iload 4, 2) := by decide +kernel
theorem dX9_number_73 : decode cX9_number 73 = .ok (.ireturn, 1) := by decide +kernel
theorem dX9_word_0 : decode cX9_word 0 = .ok (.aload_n 0, 1) := by decide +kernel
theorem dX9_word_1 : decode cX9_word 1 = .ok (.aload_n 0, 1) := by decide +kernel
theorem dX9_word_2 : decode cX9_word 2 = .ok (.getfield 137, 3) := by decide +kernel
theorem dX9_word_5 : decode cX9_word 5 = .ok (.putfield 154, 3) := by decide +kernel
theorem dX9_word_8 : decode cX9_word 8 = .ok (.lconst 0, 1) := by decide +kernel
theorem dX9_word_9 : decode cX9_word 9 = .ok (.lstore_n 1, 1) := by decide +kernel
theorem dX9_word_10 : decode cX9_word 10 = .ok (.aload_n 0, 1) := by decide +kernel
theorem dX9_word_11 : decode cX9_word 11 = .ok (.invokevirtual 140, 3) := by decide +kernel
theorem dX9_word_14 : decode cX9_word 14 = .ok (.ifCond .ne 78, 3) := by decide +kernel
theorem dX9_word_17 : decode cX9_word 17 = .ok (.aload_n 0, 1) := by decide +kernel
theorem dX9_word_18 : decode cX9_word 18 = .ok (.invokevirtual 144, 3) := by decide +kernel
theorem dX9_word_21 : decode cX9_word 21 = .ok (.bipush 97, 2) := by decide +kernel
theorem dX9_word_23 : decode cX9_word 23 = .ok (.bipush 122, 2) := by decide +kernel
theorem dX9_word_25 : decode cX9_word 25 = .ok (.invokestatic 87, 3) := by decide +kernel
theorem dX9_word_28 : decode cX9_word 28 = .ok (.ifCond .eq 64, 3) := by decide +kernel
theorem dX9_word_31 : decode cX9_word 31 = .ok (.aload_n 0, 1) := by decide +kernel
theorem dX9_word_32 : decode cX9_word 32 = .ok (.getfield 137, 3) := by decide +kernel
theorem dX9_word_35 : decode cX9_word 35 = .ok (.aload_n 0, 1) := by decide +kernel
theorem dX9_word_36 : decode cX9_word 36 = .ok (.getfield 154, 3) := by decide +kernel
theorem dX9_word_39 : decode cX9_word 39 = .ok (.isub, 1) := by decide +kernel
theorem dX9_word_40 : decode cX9_word 40 = .ok (.bipush 6, 2) := by decide +kernel
theorem dX9_word_42 : decode cX9_word 42 = .ok (.if_icmp .le 9, 3) := by decide +kernel
theorem dX9_word_45 : decode cX9_word 45 = .ok (.ldc2_w 157, 3) := by decide +kernel
theorem dX9_word_48 : decode cX9_word 48 = .ok (.goto 30, 3) := by decide +kernel
theorem dX9_word_51 : decode cX9_word 51 = .ok (.lload_n 1, 1) := by decide +kernel
theorem dX9_word_52 : decode cX9_word 52 = .ok (.lconst 0, 1) := by decide +kernel
theorem dX9_word_53 : decode cX9_word 53 = .ok (.lcmp, 1) := by decide +kernel
theorem dX9_word_54 : decode cX9_word 54 = .ok (.ifCond .ge 7, 3) := by decide +kernel
theorem dX9_word_57 : decode cX9_word 57 = .ok (.lload_n 1, 1) := by decide +kernel
theorem dX9_word_58 : decode cX9_word 58 = .ok (.goto 20, 3) := by decide +kernel
theorem dX9_word_61 : decode cX9_word 61 = .ok (.ldc2_w 159, 3) := by decide +kernel
theorem dX9_word_64 : decode cX9_word 64 = .ok (.lload_n 1, 1) := by decide +kernel
theorem dX9_word_65 : decode cX9_word 65 = .ok (.lmul, 1) := by decide +kernel
theorem dX9_word_66 : decode cX9_word 66 = .ok (.aload_n 0, 1) := by decide +kernel
theorem dX9_word_67 : decode cX9_word 67 = .ok (.invokevirtual 144, 3) := by decide +kernel
theorem dX9_word_70 : decode cX9_word 70 = .ok (.i2l, 1) := by decide +kernel
theorem dX9_word_71 : decode cX9_word 71 = .ok (.ladd, 1) := by decide +kernel
theorem dX9_word_72 : decode cX9_word 72 = .ok (.ldc2_w 161, 3) := by decide +kernel
theorem dX9_word_75 : decode cX9_word 75 = .ok (.lsub, 1) := by decide +kernel
theorem dX9_word_76 : decode cX9_word 76 = .ok (.lconst 1, 1) := by decide +kernel
theorem dX9_word_77 : decode cX9_word 77 = .ok (.ladd, 1) := by decide +kernel
theorem dX9_word_78 : decode cX9_word 78 = .ok (.lstore_n 1, 1) := by decide +kernel
theorem dX9_word_79 : decode cX9_word 79 = .ok (.aload_n 0, 1) := by decide +kernel
theorem dX9_word_80 : decode cX9_word 80 = .ok (.dup, 1) := by decide +kernel
theorem dX9_word_81 : decode cX9_word 81 = .ok (.getfield 137, 3) := by decide +kernel
theorem dX9_word_84 : decode cX9_word 84 = .ok (.iconst 1, 1) := by decide +kernel
theorem dX9_word_85 : decode cX9_word 85 = .ok (.iadd, 1) := by decide +kernel
theorem dX9_word_86 : decode cX9_word 86 = .ok (.putfield 137, 3) := by decide +kernel
theorem dX9_word_89 : decode cX9_word 89 = .ok (.goto (-79), 3) := by decide +kernel
theorem dX9_word_92 : decode cX9_word 92 = .ok (.lload_n 1, 1) := by decide +kernel
theorem dX9_word_93 : decode cX9_word 93 = .ok (.lreturn, 1) := by decide +kernel
theorem dX9_told_0 : decode cX9_told 0 = .ok (.lconst 0, 1) := by decide +kernel
theorem dX9_told_1 : decode cX9_told 1 = .ok (.lstore_n 1, 1) := by decide +kernel
theorem dX9_told_2 : decode cX9_told 2 = .ok (.iconst 0, 1) := by decide +kernel
theorem dX9_told_3 : decode cX9_told 3 = .ok (.istore_n 3, 1) := by decide +kernel
theorem dX9_told_4 : decode cX9_told 4 = .ok (.iload_n 3, 1) := by decide +kernel
theorem dX9_told_5 : decode cX9_told 5 = .ok (.aload_n 0, 1) := by decide +kernel
theorem dX9_told_6 : decode cX9_told 6 = .ok (.invokevirtual 163, 3) := by decide +kernel
theorem dX9_told_9 : decode cX9_told 9 = .ok (.if_icmp .ge 28, 3) := by decide +kernel
theorem dX9_told_12 : decode cX9_told 12 = .ok (.ldc2_w 159, 3) := by decide +kernel
theorem dX9_told_15 : decode cX9_told 15 = .ok (.lload_n 1, 1) := by decide +kernel
theorem dX9_told_16 : decode cX9_told 16 = .ok (.lmul, 1) := by decide +kernel
theorem dX9_told_17 : decode cX9_told 17 = .ok (.aload_n 0, 1) := by decide +kernel
theorem dX9_told_18 : decode cX9_told 18 = .ok (.iload_n 3, 1) := by decide +kernel
theorem dX9_told_19 : decode cX9_told 19 = .ok (.invokevirtual 167, 3) := by decide +kernel
theorem dX9_told_22 : decode cX9_told 22 = .ok (.i2l, 1) := by decide +kernel
theorem dX9_told_23 : decode cX9_told 23 = .ok (.ladd, 1) := by decide +kernel
theorem dX9_told_24 : decode cX9_told 24 = .ok (.ldc2_w 161, 3) := by decide +kernel
theorem dX9_told_27 : decode cX9_told 27 = .ok (.lsub, 1) := by decide +kernel
theorem dX9_told_28 : decode cX9_told 28 = .ok (.lconst 1, 1) := by decide +kernel
theorem dX9_told_29 : decode cX9_told 29 = .ok (.ladd, 1) := by decide +kernel
theorem dX9_told_30 : decode cX9_told 30 = .ok (.lstore_n 1, 1) := by decide +kernel
theorem dX9_told_31 : decode cX9_told 31 = .ok (.iinc 3 1, 3) := by decide +kernel
theorem dX9_told_34 : decode cX9_told 34 = .ok (.goto (-30), 3) := by decide +kernel
theorem dX9_told_37 : decode cX9_told 37 = .ok (.lload_n 1, 1) := by decide +kernel
theorem dX9_told_38 : decode cX9_told 38 = .ok (.lreturn, 1) := by decide +kernel
theorem dX9_undone_0 : decode cX9_undone 0 = .ok (.aload_n 0, 1) := by decide +kernel
theorem dX9_undone_1 : decode cX9_undone 1 = .ok (.getfield 171, 3) := by decide +kernel
theorem dX9_undone_4 : decode cX9_undone 4 = .ok (.ifCond .ne 20, 3) := by decide +kernel
theorem dX9_undone_7 : decode cX9_undone 7 = .ok (.aload_n 0, 1) := by decide +kernel
theorem dX9_undone_8 : decode cX9_undone 8 = .ok (.getfield 175, 3) := by decide +kernel
theorem dX9_undone_11 : decode cX9_undone 11 = .ok (.ifCond .eq 13, 3) := by decide +kernel
theorem dX9_undone_14 : decode cX9_undone 14 = .ok (.aload_n 0, 1) := by decide +kernel
theorem dX9_undone_15 : decode cX9_undone 15 = .ok (.iconst 1, 1) := by decide +kernel
theorem dX9_undone_16 : decode cX9_undone 16 = .ok (.putfield 171, 3) := by decide +kernel
theorem dX9_undone_19 : decode cX9_undone 19 = .ok (.aload_n 0, 1) := by decide +kernel
theorem dX9_undone_20 : decode cX9_undone 20 = .ok (.iload_n 1, 1) := by decide +kernel
theorem dX9_undone_21 : decode cX9_undone 21 = .ok (.putfield 22, 3) := by decide +kernel
theorem dX9_undone_24 : decode cX9_undone 24 = .ok (.return_, 1) := by decide +kernel
theorem dX9_measures_0 : decode cX9_measures 0 = .ok (.aload_n 0, 1) := by decide +kernel
theorem dX9_measures_1 : decode cX9_measures 1 = .ok (.bipush 61, 2) := by decide +kernel
theorem dX9_measures_3 : decode cX9_measures 3 = .ok (.invokevirtual 178, 3) := by decide +kernel
theorem dX9_measures_6 : decode cX9_measures 6 = .ok (.aload_n 0, 1) := by decide +kernel
theorem dX9_measures_7 : decode cX9_measures 7 = .ok (.iload_n 1, 1) := by decide +kernel
theorem dX9_measures_8 : decode cX9_measures 8 = .ok (.ifCond .ne 8, 3) := by decide +kernel
theorem dX9_measures_11 : decode cX9_measures 11 = .ok (.bipush 8, 2) := by decide +kernel
theorem dX9_measures_13 : decode cX9_measures 13 = .ok (.goto 4, 3) := by decide +kernel
theorem dX9_measures_16 : decode cX9_measures 16 = .ok (.iconst 0, 1) := by decide +kernel
theorem dX9_measures_17 : decode cX9_measures 17 = .ok (.iload_n 1, 1) := by decide +kernel
theorem dX9_measures_18 : decode cX9_measures 18 = .ok (.ifCond .ne 8, 3) := by decide +kernel
theorem dX9_measures_21 : decode cX9_measures 21 = .ok (.bipush 36, 2) := by decide +kernel
theorem dX9_measures_23 : decode cX9_measures 23 = .ok (.goto 4, 3) := by decide +kernel
theorem dX9_measures_26 : decode cX9_measures 26 = .ok (.iconst 2, 1) := by decide +kernel
theorem dX9_measures_27 : decode cX9_measures 27 = .ok (.invokevirtual 181, 3) := by decide +kernel
theorem dX9_measures_30 : decode cX9_measures 30 = .ok (.istore_n 2, 1) := by decide +kernel
theorem dX9_measures_31 : decode cX9_measures 31 = .ok (.aload_n 0, 1) := by decide +kernel
theorem dX9_measures_32 : decode cX9_measures 32 = .ok (.bipush 59, 2) := by decide +kernel
theorem dX9_measures_34 : decode cX9_measures 34 = .ok (.invokevirtual 178, 3) := by decide +kernel
theorem dX9_measures_37 : decode cX9_measures 37 = .ok (.aload_n 0, 1) := by decide +kernel
theorem dX9_measures_38 : decode cX9_measures 38 = .ok (.getfield 175, 3) := by decide +kernel
theorem dX9_measures_41 : decode cX9_measures 41 = .ok (.ifCond .eq 12, 3) := by decide +kernel
theorem dX9_measures_44 : decode cX9_measures 44 = .ok (.aload_n 0, 1) := by decide +kernel
theorem dX9_measures_45 : decode cX9_measures 45 = .ok (.getfield 9, 3) := by decide +kernel
theorem dX9_measures_48 : decode cX9_measures 48 = .ok (.iconst 1, 1) := by decide +kernel
theorem dX9_measures_49 : decode cX9_measures 49 = .ok (.iload_n 1, 1) := by decide +kernel
theorem dX9_measures_50 : decode cX9_measures 50 = .ok (.iadd, 1) := by decide +kernel
theorem dX9_measures_51 : decode cX9_measures 51 = .ok (.iload_n 2, 1) := by decide +kernel
theorem dX9_measures_52 : decode cX9_measures 52 = .ok (.iastore, 1) := by decide +kernel
theorem dX9_measures_53 : decode cX9_measures 53 = .ok (.return_, 1) := by decide +kernel
theorem dX9_columnHere_0 : decode cX9_columnHere 0 = .ok (.aload_n 0, 1) := by decide +kernel
theorem dX9_columnHere_1 : decode cX9_columnHere 1 = .ok (.getfield 137, 3) := by decide +kernel
theorem dX9_columnHere_4 : decode cX9_columnHere 4 = .ok (.istore_n 1, 1) := by decide +kernel
theorem dX9_columnHere_5 : decode cX9_columnHere 5 = .ok (.aload_n 0, 1) := by decide +kernel
theorem dX9_columnHere_6 : decode cX9_columnHere 6 = .ok (.invokevirtual 151, 3) := by decide +kernel
theorem dX9_columnHere_9 : decode cX9_columnHere 9 = .ok (.istore_n 2, 1) := by decide +kernel
theorem dX9_columnHere_10 : decode cX9_columnHere 10 = .ok (.aload_n 0, 1) := by decide +kernel
theorem dX9_columnHere_11 : decode cX9_columnHere 11 = .ok (.invokevirtual 140, 3) := by decide +kernel
theorem dX9_columnHere_14 : decode cX9_columnHere 14 = .ok (.ifCond .ne 16, 3) := by decide +kernel
theorem dX9_columnHere_17 : decode cX9_columnHere 17 = .ok (.aload_n 0, 1) := by decide +kernel
theorem dX9_columnHere_18 : decode cX9_columnHere 18 = .ok (.iload_n 2, 1) := by decide +kernel
theorem dX9_columnHere_19 : decode cX9_columnHere 19 = .ok (.invokevirtual 103, 3) := by decide +kernel
theorem dX9_columnHere_22 : decode cX9_columnHere 22 = .ok (.ifCond .ne 8, 3) := by decide +kernel
theorem dX9_columnHere_25 : decode cX9_columnHere 25 = .ok (.aload_n 0, 1) := by decide +kernel
theorem dX9_columnHere_26 : decode cX9_columnHere 26 = .ok (.iload_n 1, 1) := by decide +kernel
theorem dX9_columnHere_27 : decode cX9_columnHere 27 = .ok (.invokevirtual 148, 3) := by decide +kernel
theorem dX9_columnHere_30 : decode cX9_columnHere 30 = .ok (.iload_n 2, 1) := by decide +kernel
theorem dX9_columnHere_31 : decode cX9_columnHere 31 = .ok (.ireturn, 1) := by decide +kernel
theorem dX9_specifies_0 : decode cX9_specifies 0 = .ok (.aload_n 0, 1) := by decide +kernel
theorem dX9_specifies_1 : decode cX9_specifies 1 = .ok (.invokevirtual 184, 3) := by decide +kernel
theorem dX9_specifies_4 : decode cX9_specifies 4 = .ok (.istore_n 1, 1) := by decide +kernel
theorem dX9_specifies_5 : decode cX9_specifies 5 = .ok (.aload_n 0, 1) := by decide +kernel
theorem dX9_specifies_6 : decode cX9_specifies 6 = .ok (.bipush 61, 2) := by decide +kernel
theorem dX9_specifies_8 : decode cX9_specifies 8 = .ok (.invokevirtual 178, 3) := by decide +kernel
theorem dX9_specifies_11 : decode cX9_specifies 11 = .ok (.aload_n 0, 1) := by decide +kernel
theorem dX9_specifies_12 : decode cX9_specifies 12 = .ok (.invokevirtual 187, 3) := by decide +kernel
theorem dX9_specifies_15 : decode cX9_specifies 15 = .ok (.lstore_n 2, 1) := by decide +kernel
theorem dX9_specifies_16 : decode cX9_specifies 16 = .ok (.aload_n 0, 1) := by decide +kernel
theorem dX9_specifies_17 : decode cX9_specifies 17 = .ok (.invokevirtual 140, 3) := by decide +kernel
theorem dX9_specifies_20 : decode cX9_specifies 20 = .ok (.ifCond .eq 4, 3) := by decide +kernel
theorem dX9_specifies_23 : decode cX9_specifies 23 = .ok (.return_, 1) := by decide +kernel
theorem dX9_specifies_24 : decode cX9_specifies 24 = .ok (.iconst 0, 1) := by decide +kernel
theorem dX9_specifies_25 : decode cX9_specifies 25 = .ok (.istore 4, 2) := by decide +kernel
theorem dX9_specifies_27 : decode cX9_specifies 27 = .ok (.lload_n 2, 1) := by decide +kernel
theorem dX9_specifies_28 : decode cX9_specifies 28 = .ok (.ldc 191, 2) := by decide +kernel
theorem dX9_specifies_30 : decode cX9_specifies 30 = .ok (.invokestatic 193, 3) := by decide +kernel
theorem dX9_specifies_33 : decode cX9_specifies 33 = .ok (.lcmp, 1) := by decide +kernel
theorem dX9_specifies_34 : decode cX9_specifies 34 = .ok (.ifCond .ne 18, 3) := by decide +kernel
theorem dX9_specifies_37 : decode cX9_specifies 37 = .ok (.bipush 100, 2) := by decide +kernel
theorem dX9_specifies_39 : decode cX9_specifies 39 = .ok (.aload_n 0, 1) := by decide +kernel
theorem dX9_specifies_40 : decode cX9_specifies 40 = .ok (.iconst 1, 1) := by decide +kernel
theorem dX9_specifies_41 : decode cX9_specifies 41 = .ok (.bipush 36, 2) := by decide +kernel
theorem dX9_specifies_43 : decode cX9_specifies 43 = .ok (.invokevirtual 181, 3) := by decide +kernel
theorem dX9_specifies_46 : decode cX9_specifies 46 = .ok (.iadd, 1) := by decide +kernel
theorem dX9_specifies_47 : decode cX9_specifies 47 = .ok (.istore 4, 2) := by decide +kernel
theorem dX9_specifies_49 : decode cX9_specifies 49 = .ok (.goto 47, 3) := by decide +kernel
theorem dX9_specifies_52 : decode cX9_specifies 52 = .ok (.lload_n 2, 1) := by decide +kernel
theorem dX9_specifies_53 : decode cX9_specifies 53 = .ok (.ldc 197, 2) := by decide +kernel
theorem dX9_specifies_55 : decode cX9_specifies 55 = .ok (.invokestatic 193, 3) := by decide +kernel
theorem dX9_specifies_58 : decode cX9_specifies 58 = .ok (.lcmp, 1) := by decide +kernel
theorem dX9_specifies_59 : decode cX9_specifies 59 = .ok (.ifCond .ne 19, 3) := by decide +kernel
theorem dX9_specifies_62 : decode cX9_specifies 62 = .ok (.sipush 200, 3) := by decide +kernel
theorem dX9_specifies_65 : decode cX9_specifies 65 = .ok (.aload_n 0, 1) := by decide +kernel
theorem dX9_specifies_66 : decode cX9_specifies 66 = .ok (.iconst 1, 1) := by decide +kernel
theorem dX9_specifies_67 : decode cX9_specifies 67 = .ok (.bipush 99, 2) := by decide +kernel
theorem dX9_specifies_69 : decode cX9_specifies 69 = .ok (.invokevirtual 181, 3) := by decide +kernel
theorem dX9_specifies_72 : decode cX9_specifies 72 = .ok (.iadd, 1) := by decide +kernel
theorem dX9_specifies_73 : decode cX9_specifies 73 = .ok (.istore 4, 2) := by decide +kernel
theorem dX9_specifies_75 : decode cX9_specifies 75 = .ok (.goto 21, 3) := by decide +kernel
theorem dX9_specifies_78 : decode cX9_specifies 78 = .ok (.lload_n 2, 1) := by decide +kernel
theorem dX9_specifies_79 : decode cX9_specifies 79 = .ok (.ldc 199, 2) := by decide +kernel
theorem dX9_specifies_81 : decode cX9_specifies 81 = .ok (.invokestatic 193, 3) := by decide +kernel
theorem dX9_specifies_84 : decode cX9_specifies 84 = .ok (.lcmp, 1) := by decide +kernel
theorem dX9_specifies_85 : decode cX9_specifies 85 = .ok (.ifCond .eq 11, 3) := by decide +kernel
theorem dX9_specifies_88 : decode cX9_specifies 88 = .ok (.aload_n 0, 1) := by decide +kernel
theorem dX9_specifies_89 : decode cX9_specifies 89 = .ok (.aload_n 0, 1) := by decide +kernel
