theorem dX0_ofFloat_0 : decode cX0_ofFloat 0 = .ok (.fload_n 0, 1) := by decide +kernel
theorem dX0_ofFloat_1 : decode cX0_ofFloat 1 = .ok (.fconst 0, 1) := by decide +kernel
theorem dX0_ofFloat_2 : decode cX0_ofFloat 2 = .ok (.fcmp .g, 1) := by decide +kernel
theorem dX0_ofFloat_3 : decode cX0_ofFloat 3 = .ok (.ifCond .gt 5, 3) := by decide +kernel
theorem dX0_ofFloat_6 : decode cX0_ofFloat 6 = .ok (.iconst 0, 1) := by decide +kernel
theorem dX0_ofFloat_7 : decode cX0_ofFloat 7 = .ok (.ireturn, 1) := by decide +kernel
theorem dX0_ofFloat_8 : decode cX0_ofFloat 8 = .ok (.bipush 127, 2) := by decide +kernel
theorem dX0_ofFloat_10 : decode cX0_ofFloat 10 = .ok (.istore_n 1, 1) := by decide +kernel
theorem dX0_ofFloat_11 : decode cX0_ofFloat 11 = .ok (.fload_n 0, 1) := by decide +kernel
theorem dX0_ofFloat_12 : decode cX0_ofFloat 12 = .ok (.fstore_n 2, 1) := by decide +kernel
theorem dX0_ofFloat_13 : decode cX0_ofFloat 13 = .ok (.iconst 0, 1) := by decide +kernel
theorem dX0_ofFloat_14 : decode cX0_ofFloat 14 = .ok (.istore_n 3, 1) := by decide +kernel
theorem dX0_ofFloat_15 : decode cX0_ofFloat 15 = .ok (.iload_n 3, 1) := by decide +kernel
theorem dX0_ofFloat_16 : decode cX0_ofFloat 16 = .ok (.bipush 126, 2) := by decide +kernel
theorem dX0_ofFloat_18 : decode cX0_ofFloat 18 = .ok (.if_icmp .ge 22, 3) := by decide +kernel
theorem dX0_ofFloat_21 : decode cX0_ofFloat 21 = .ok (.fload_n 2, 1) := by decide +kernel
theorem dX0_ofFloat_22 : decode cX0_ofFloat 22 = .ok (.fconst 1, 1) := by decide +kernel
theorem dX0_ofFloat_23 : decode cX0_ofFloat 23 = .ok (.fcmp .g, 1) := by decide +kernel
theorem dX0_ofFloat_24 : decode cX0_ofFloat 24 = .ok (.ifCond .ge 16, 3) := by decide +kernel
theorem dX0_ofFloat_27 : decode cX0_ofFloat 27 = .ok (.fload_n 2, 1) := by decide +kernel
theorem dX0_ofFloat_28 : decode cX0_ofFloat 28 = .ok (.fconst 2, 1) := by decide +kernel
theorem dX0_ofFloat_29 : decode cX0_ofFloat 29 = .ok (.fmul, 1) := by decide +kernel
theorem dX0_ofFloat_30 : decode cX0_ofFloat 30 = .ok (.fstore_n 2, 1) := by decide +kernel
theorem dX0_ofFloat_31 : decode cX0_ofFloat 31 = .ok (.iinc 1 (-1), 3) := by decide +kernel
theorem dX0_ofFloat_34 : decode cX0_ofFloat 34 = .ok (.iinc 3 1, 3) := by decide +kernel
theorem dX0_ofFloat_37 : decode cX0_ofFloat 37 = .ok (.goto (-22), 3) := by decide +kernel
theorem dX0_ofFloat_40 : decode cX0_ofFloat 40 = .ok (.iload_n 1, 1) := by decide +kernel
theorem dX0_ofFloat_41 : decode cX0_ofFloat 41 = .ok (.bipush 23, 2) := by decide +kernel
theorem dX0_ofFloat_43 : decode cX0_ofFloat 43 = .ok (.ishl, 1) := by decide +kernel
theorem dX0_ofFloat_44 : decode cX0_ofFloat 44 = .ok (.fload_n 2, 1) := by decide +kernel
theorem dX0_ofFloat_45 : decode cX0_ofFloat 45 = .ok (.fconst 1, 1) := by decide +kernel
theorem dX0_ofFloat_46 : decode cX0_ofFloat 46 = .ok (.fsub, 1) := by decide +kernel
theorem dX0_ofFloat_47 : decode cX0_ofFloat 47 = .ok (.ldc 7, 2) := by decide +kernel
theorem dX0_ofFloat_49 : decode cX0_ofFloat 49 = .ok (.fmul, 1) := by decide +kernel
theorem dX0_ofFloat_50 : decode cX0_ofFloat 50 = .ok (.f2i, 1) := by decide +kernel
theorem dX0_ofFloat_51 : decode cX0_ofFloat 51 = .ok (.iadd, 1) := by decide +kernel
theorem dX0_ofFloat_52 : decode cX0_ofFloat 52 = .ok (.ireturn, 1) := by decide +kernel
theorem dX0_ofDouble_0 : decode cX0_ofDouble 0 = .ok (.dload_n 0, 1) := by decide +kernel
theorem dX0_ofDouble_1 : decode cX0_ofDouble 1 = .ok (.dconst 0, 1) := by decide +kernel
theorem dX0_ofDouble_2 : decode cX0_ofDouble 2 = .ok (.dcmp .g, 1) := by decide +kernel
theorem dX0_ofDouble_3 : decode cX0_ofDouble 3 = .ok (.ifCond .gt 5, 3) := by decide +kernel
theorem dX0_ofDouble_6 : decode cX0_ofDouble 6 = .ok (.lconst 0, 1) := by decide +kernel
theorem dX0_ofDouble_7 : decode cX0_ofDouble 7 = .ok (.lreturn, 1) := by decide +kernel
theorem dX0_ofDouble_8 : decode cX0_ofDouble 8 = .ok (.ldc2_w 8, 3) := by decide +kernel
theorem dX0_ofDouble_11 : decode cX0_ofDouble 11 = .ok (.lstore_n 2, 1) := by decide +kernel
theorem dX0_ofDouble_12 : decode cX0_ofDouble 12 = .ok (.dload_n 0, 1) := by decide +kernel
theorem dX0_ofDouble_13 : decode cX0_ofDouble 13 = .ok (.dstore 4, 2) := by decide +kernel
theorem dX0_ofDouble_15 : decode cX0_ofDouble 15 = .ok (.iconst 0, 1) := by decide +kernel
theorem dX0_ofDouble_16 : decode cX0_ofDouble 16 = .ok (.istore 6, 2) := by decide +kernel
theorem dX0_ofDouble_18 : decode cX0_ofDouble 18 = .ok (.iload 6, 2) := by decide +kernel
theorem dX0_ofDouble_20 : decode cX0_ofDouble 20 = .ok (.sipush 1022, 3) := by decide +kernel
theorem dX0_ofDouble_23 : decode cX0_ofDouble 23 = .ok (.if_icmp .ge 28, 3) := by decide +kernel
theorem dX0_ofDouble_26 : decode cX0_ofDouble 26 = .ok (.dload 4, 2) := by decide +kernel
theorem dX0_ofDouble_28 : decode cX0_ofDouble 28 = .ok (.dconst 1, 1) := by decide +kernel
theorem dX0_ofDouble_29 : decode cX0_ofDouble 29 = .ok (.dcmp .g, 1) := by decide +kernel
theorem dX0_ofDouble_30 : decode cX0_ofDouble 30 = .ok (.ifCond .ge 21, 3) := by decide +kernel
theorem dX0_ofDouble_33 : decode cX0_ofDouble 33 = .ok (.dload 4, 2) := by decide +kernel
theorem dX0_ofDouble_35 : decode cX0_ofDouble 35 = .ok (.ldc2_w 10, 3) := by decide +kernel
theorem dX0_ofDouble_38 : decode cX0_ofDouble 38 = .ok (.dmul, 1) := by decide +kernel
theorem dX0_ofDouble_39 : decode cX0_ofDouble 39 = .ok (.dstore 4, 2) := by decide +kernel
theorem dX0_ofDouble_41 : decode cX0_ofDouble 41 = .ok (.lload_n 2, 1) := by decide +kernel
theorem dX0_ofDouble_42 : decode cX0_ofDouble 42 = .ok (.lconst 1, 1) := by decide +kernel
theorem dX0_ofDouble_43 : decode cX0_ofDouble 43 = .ok (.lsub, 1) := by decide +kernel
theorem dX0_ofDouble_44 : decode cX0_ofDouble 44 = .ok (.lstore_n 2, 1) := by decide +kernel
theorem dX0_ofDouble_45 : decode cX0_ofDouble 45 = .ok (.iinc 6 1, 3) := by decide +kernel
theorem dX0_ofDouble_48 : decode cX0_ofDouble 48 = .ok (.goto (-30), 3) := by decide +kernel
theorem dX0_ofDouble_51 : decode cX0_ofDouble 51 = .ok (.lload_n 2, 1) := by decide +kernel
theorem dX0_ofDouble_52 : decode cX0_ofDouble 52 = .ok (.bipush 52, 2) := by decide +kernel
theorem dX0_ofDouble_54 : decode cX0_ofDouble 54 = .ok (.lshl, 1) := by decide +kernel
theorem dX0_ofDouble_55 : decode cX0_ofDouble 55 = .ok (.dload 4, 2) := by decide +kernel
theorem dX0_ofDouble_57 : decode cX0_ofDouble 57 = .ok (.dconst 1, 1) := by decide +kernel
theorem dX0_ofDouble_58 : decode cX0_ofDouble 58 = .ok (.dsub, 1) := by decide +kernel
theorem dX0_ofDouble_59 : decode cX0_ofDouble 59 = .ok (.ldc2_w 12, 3) := by decide +kernel
theorem dX0_ofDouble_62 : decode cX0_ofDouble 62 = .ok (.dmul, 1) := by decide +kernel
theorem dX0_ofDouble_63 : decode cX0_ofDouble 63 = .ok (.d2l, 1) := by decide +kernel
theorem dX0_ofDouble_64 : decode cX0_ofDouble 64 = .ok (.ladd, 1) := by decide +kernel
theorem dX0_ofDouble_65 : decode cX0_ofDouble 65 = .ok (.lreturn, 1) := by decide +kernel
theorem dX1_init_0 : decode cX1_init 0 = .ok (.aload_n 0, 1) := by decide +kernel
theorem dX1_init_1 : decode cX1_init 1 = .ok (.invokespecial 1, 3) := by decide +kernel
theorem dX1_init_4 : decode cX1_init 4 = .ok (.aload_n 0, 1) := by decide +kernel
theorem dX1_init_5 : decode cX1_init 5 = .ok (.new 7, 3) := by decide +kernel
theorem dX1_init_8 : decode cX1_init 8 = .ok (.dup, 1) := by decide +kernel
theorem dX1_init_9 : decode cX1_init 9 = .ok (.invokespecial 9, 3) := by decide +kernel
theorem dX1_init_12 : decode cX1_init 12 = .ok (.putfield 10, 3) := by decide +kernel
theorem dX1_init_15 : decode cX1_init 15 = .ok (.return_, 1) := by decide +kernel
theorem dX1_copyFrom_0 : decode cX1_copyFrom 0 = .ok (.aload_n 0, 1) := by decide +kernel
theorem dX1_copyFrom_1 : decode cX1_copyFrom 1 = .ok (.aload_n 1, 1) := by decide +kernel
theorem dX1_copyFrom_2 : decode cX1_copyFrom 2 = .ok (.getfield 16, 3) := by decide +kernel
theorem dX1_copyFrom_5 : decode cX1_copyFrom 5 = .ok (.putfield 16, 3) := by decide +kernel
theorem dX1_copyFrom_8 : decode cX1_copyFrom 8 = .ok (.aload_n 0, 1) := by decide +kernel
theorem dX1_copyFrom_9 : decode cX1_copyFrom 9 = .ok (.aload_n 1, 1) := by decide +kernel
theorem dX1_copyFrom_10 : decode cX1_copyFrom 10 = .ok (.getfield 20, 3) := by decide +kernel
theorem dX1_copyFrom_13 : decode cX1_copyFrom 13 = .ok (.putfield 20, 3) := by decide +kernel
theorem dX1_copyFrom_16 : decode cX1_copyFrom 16 = .ok (.aload_n 0, 1) := by decide +kernel
theorem dX1_copyFrom_17 : decode cX1_copyFrom 17 = .ok (.aload_n 1, 1) := by decide +kernel
theorem dX1_copyFrom_18 : decode cX1_copyFrom 18 = .ok (.getfield 23, 3) := by decide +kernel
theorem dX1_copyFrom_21 : decode cX1_copyFrom 21 = .ok (.putfield 23, 3) := by decide +kernel
theorem dX1_copyFrom_24 : decode cX1_copyFrom 24 = .ok (.aload_n 0, 1) := by decide +kernel
theorem dX1_copyFrom_25 : decode cX1_copyFrom 25 = .ok (.getfield 10, 3) := by decide +kernel
theorem dX1_copyFrom_28 : decode cX1_copyFrom 28 = .ok (.aload_n 1, 1) := by decide +kernel
theorem dX1_copyFrom_29 : decode cX1_copyFrom 29 = .ok (.getfield 10, 3) := by decide +kernel
theorem dX1_copyFrom_32 : decode cX1_copyFrom 32 = .ok (.invokevirtual 26, 3) := by decide +kernel
theorem dX1_copyFrom_35 : decode cX1_copyFrom 35 = .ok (.return_, 1) := by decide +kernel
theorem dX1_overlaps_0 : decode cX1_overlaps 0 = .ok (.aload_n 0, 1) := by decide +kernel
theorem dX1_overlaps_1 : decode cX1_overlaps 1 = .ok (.getfield 20, 3) := by decide +kernel
theorem dX1_overlaps_4 : decode cX1_overlaps 4 = .ok (.iload_n 1, 1) := by decide +kernel
theorem dX1_overlaps_5 : decode cX1_overlaps 5 = .ok (.iload_n 2, 1) := by decide +kernel
theorem dX1_overlaps_6 : decode cX1_overlaps 6 = .ok (.iadd, 1) := by decide +kernel
theorem dX1_overlaps_7 : decode cX1_overlaps 7 = .ok (.if_icmp .ge 20, 3) := by decide +kernel
theorem dX1_overlaps_10 : decode cX1_overlaps 10 = .ok (.iload_n 1, 1) := by decide +kernel
theorem dX1_overlaps_11 : decode cX1_overlaps 11 = .ok (.aload_n 0, 1) := by decide +kernel
theorem dX1_overlaps_12 : decode cX1_overlaps 12 = .ok (.getfield 20, 3) := by decide +kernel
theorem dX1_overlaps_15 : decode cX1_overlaps 15 = .ok (.aload_n 0, 1) := by decide +kernel
theorem dX1_overlaps_16 : decode cX1_overlaps 16 = .ok (.getfield 23, 3) := by decide +kernel
theorem dX1_overlaps_19 : decode cX1_overlaps 19 = .ok (.iadd, 1) := by decide +kernel
theorem dX1_overlaps_20 : decode cX1_overlaps 20 = .ok (.if_icmp .ge 7, 3) := by decide +kernel
theorem dX1_overlaps_23 : decode cX1_overlaps 23 = .ok (.iconst 1, 1) := by decide +kernel
theorem dX1_overlaps_24 : decode cX1_overlaps 24 = .ok (.goto 4, 3) := by decide +kernel
theorem dX1_overlaps_27 : decode cX1_overlaps 27 = .ok (.iconst 0, 1) := by decide +kernel
theorem dX1_overlaps_28 : decode cX1_overlaps 28 = .ok (.ireturn, 1) := by decide +kernel
theorem dX2_init_0 : decode cX2_init 0 = .ok (.aload_n 0, 1) := by decide +kernel
theorem dX2_init_1 : decode cX2_init 1 = .ok (.invokespecial 3, 3) := by decide +kernel
theorem dX2_init_4 : decode cX2_init 4 = .ok (.aload_n 0, 1) := by decide +kernel
theorem dX2_init_5 : decode cX2_init 5 = .ok (.iconst 3, 1) := by decide +kernel
theorem dX2_init_6 : decode cX2_init 6 = .ok (.newarray .boolean, 2) := by decide +kernel
theorem dX2_init_8 : decode cX2_init 8 = .ok (.putfield 9, 3) := by decide +kernel
theorem dX2_init_11 : decode cX2_init 11 = .ok (.aload_n 0, 1) := by decide +kernel
theorem dX2_init_12 : decode cX2_init 12 = .ok (.iconst 3, 1) := by decide +kernel
theorem dX2_init_13 : decode cX2_init 13 = .ok (.anewarray 15, 3) := by decide +kernel
theorem dX2_init_16 : decode cX2_init 16 = .ok (.putfield 17, 3) := by decide +kernel
theorem dX2_init_19 : decode cX2_init 19 = .ok (.iconst 0, 1) := by decide +kernel
theorem dX2_init_20 : decode cX2_init 20 = .ok (.istore_n 1, 1) := by decide +kernel
theorem dX2_init_21 : decode cX2_init 21 = .ok (.iload_n 1, 1) := by decide +kernel
theorem dX2_init_22 : decode cX2_init 22 = .ok (.iconst 3, 1) := by decide +kernel
theorem dX2_init_23 : decode cX2_init 23 = .ok (.if_icmp .ge 22, 3) := by decide +kernel
theorem dX2_init_26 : decode cX2_init 26 = .ok (.aload_n 0, 1) := by decide +kernel
theorem dX2_init_27 : decode cX2_init 27 = .ok (.getfield 17, 3) := by decide +kernel
theorem dX2_init_30 : decode cX2_init 30 = .ok (.iload_n 1, 1) := by decide +kernel
theorem dX2_init_31 : decode cX2_init 31 = .ok (.new 15, 3) := by decide +kernel
theorem dX2_init_34 : decode cX2_init 34 = .ok (.dup, 1) := by decide +kernel
theorem dX2_init_35 : decode cX2_init 35 = .ok (.invokespecial 21, 3) := by decide +kernel
theorem dX2_init_38 : decode cX2_init 38 = .ok (.aastore, 1) := by decide +kernel
theorem dX2_init_39 : decode cX2_init 39 = .ok (.iinc 1 1, 3) := by decide +kernel
theorem dX2_init_42 : decode cX2_init 42 = .ok (.goto (-21), 3) := by decide +kernel
theorem dX2_init_45 : decode cX2_init 45 = .ok (.return_, 1) := by decide +kernel
theorem dX2_remake_0 : decode cX2_remake 0 = .ok (.aload_n 0, 1) := by decide +kernel
theorem dX2_remake_1 : decode cX2_remake 1 = .ok (.iconst 1, 1) := by decide +kernel
theorem dX2_remake_2 : decode cX2_remake 2 = .ok (.putfield 22, 3) := by decide +kernel
theorem dX2_remake_5 : decode cX2_remake 5 = .ok (.aload_n 0, 1) := by decide +kernel
theorem dX2_remake_6 : decode cX2_remake 6 = .ok (.iload_n 1, 1) := by decide +kernel
theorem dX2_remake_7 : decode cX2_remake 7 = .ok (.putfield 26, 3) := by decide +kernel
theorem dX2_remake_10 : decode cX2_remake 10 = .ok (.aload_n 0, 1) := by decide +kernel
theorem dX2_remake_11 : decode cX2_remake 11 = .ok (.iload_n 2, 1) := by decide +kernel
theorem dX2_remake_12 : decode cX2_remake 12 = .ok (.putfield 30, 3) := by decide +kernel
theorem dX2_remake_15 : decode cX2_remake 15 = .ok (.iconst 0, 1) := by decide +kernel
theorem dX2_remake_16 : decode cX2_remake 16 = .ok (.istore_n 3, 1) := by decide +kernel
theorem dX2_remake_17 : decode cX2_remake 17 = .ok (.iload_n 3, 1) := by decide +kernel
theorem dX2_remake_18 : decode cX2_remake 18 = .ok (.iconst 3, 1) := by decide +kernel
theorem dX2_remake_19 : decode cX2_remake 19 = .ok (.if_icmp .ge 16, 3) := by decide +kernel
theorem dX2_remake_22 : decode cX2_remake 22 = .ok (.aload_n 0, 1) := by decide +kernel
theorem dX2_remake_23 : decode cX2_remake 23 = .ok (.getfield 9, 3) := by decide +kernel
theorem dX2_remake_26 : decode cX2_remake 26 = .ok (.iload_n 3, 1) := by decide +kernel
theorem dX2_remake_27 : decode cX2_remake 27 = .ok (.iconst 0, 1) := by decide +kernel
theorem dX2_remake_28 : decode cX2_remake 28 = .ok (.bastore, 1) := by decide +kernel
theorem dX2_remake_29 : decode cX2_remake 29 = .ok (.iinc 3 1, 3) := by decide +kernel
theorem dX2_remake_32 : decode cX2_remake 32 = .ok (.goto (-15), 3) := by decide +kernel
theorem dX2_remake_35 : decode cX2_remake 35 = .ok (.return_, 1) := by decide +kernel
theorem dX2_accepts_0 : decode cX2_accepts 0 = .ok (.iload_n 1, 1) := by decide +kernel
theorem dX2_accepts_1 : decode cX2_accepts 1 = .ok (.aload_n 0, 1) := by decide +kernel
theorem dX2_accepts_2 : decode cX2_accepts 2 = .ok (.getfield 26, 3) := by decide +kernel
theorem dX2_accepts_5 : decode cX2_accepts 5 = .ok (.if_icmp .eq 22, 3) := by decide +kernel
theorem dX2_accepts_8 : decode cX2_accepts 8 = .ok (.aload_n 0, 1) := by decide +kernel
theorem dX2_accepts_9 : decode cX2_accepts 9 = .ok (.getfield 26, 3) := by decide +kernel
theorem dX2_accepts_12 : decode cX2_accepts 12 = .ok (.iload_n 1, 1) := by decide +kernel
theorem dX2_accepts_13 : decode cX2_accepts 13 = .ok (.invokestatic 33, 3) := by decide +kernel
theorem dX2_accepts_16 : decode cX2_accepts 16 = .ok (.ifCond .eq 7, 3) := by decide +kernel
theorem dX2_accepts_19 : decode cX2_accepts 19 = .ok (.iconst 0, 1) := by decide +kernel
theorem dX2_accepts_20 : decode cX2_accepts 20 = .ok (.goto 4, 3) := by decide +kernel
theorem dX2_accepts_23 : decode cX2_accepts 23 = .ok (.iconst 4, 1) := by decide +kernel
theorem dX2_accepts_24 : decode cX2_accepts 24 = .ok (.if_icmp .ne 7, 3) := by decide +kernel
theorem dX2_accepts_27 : decode cX2_accepts 27 = .ok (.iconst 1, 1) := by decide +kernel
theorem dX2_accepts_28 : decode cX2_accepts 28 = .ok (.goto 4, 3) := by decide +kernel
theorem dX2_accepts_31 : decode cX2_accepts 31 = .ok (.iconst 0, 1) := by decide +kernel
theorem dX2_accepts_32 : decode cX2_accepts 32 = .ok (.ireturn, 1) := by decide +kernel
theorem dX3_init_0 : decode cX3_init 0 = .ok (.aload_n 0, 1) := by decide +kernel
theorem dX3_init_1 : decode cX3_init 1 = .ok (.invokespecial 3, 3) := by decide +kernel
theorem dX3_init_4 : decode cX3_init 4 = .ok (.aload_n 0, 1) := by decide +kernel
theorem dX3_init_5 : decode cX3_init 5 = .ok (.aload_n 1, 1) := by decide +kernel
theorem dX3_init_6 : decode cX3_init 6 = .ok (.putfield 9, 3) := by decide +kernel
theorem dX3_init_9 : decode cX3_init 9 = .ok (.aload_n 0, 1) := by decide +kernel
theorem dX3_init_10 : decode cX3_init 10 = .ok (.iconst 4, 1) := by decide +kernel
theorem dX3_init_11 : decode cX3_init 11 = .ok (.newarray .int, 2) := by decide +kernel
theorem dX3_init_13 : decode cX3_init 13 = .ok (.putfield 15, 3) := by decide +kernel
theorem dX3_init_16 : decode cX3_init 16 = .ok (.aload_n 0, 1) := by decide +kernel
theorem dX3_init_17 : decode cX3_init 17 = .ok (.iconst 4, 1) := by decide +kernel
theorem dX3_init_18 : decode cX3_init 18 = .ok (.newarray .int, 2) := by decide +kernel
theorem dX3_init_20 : decode cX3_init 20 = .ok (.putfield 19, 3) := by decide +kernel
theorem dX3_init_23 : decode cX3_init 23 = .ok (.aload_n 0, 1) := by decide +kernel
theorem dX3_init_24 : decode cX3_init 24 = .ok (.iconst 4, 1) := by decide +kernel
theorem dX3_init_25 : decode cX3_init 25 = .ok (.newarray .int, 2) := by decide +kernel
theorem dX3_init_27 : decode cX3_init 27 = .ok (.putfield 22, 3) := by decide +kernel
theorem dX3_init_30 : decode cX3_init 30 = .ok (.aload_n 0, 1) := by decide +kernel
theorem dX3_init_31 : decode cX3_init 31 = .ok (.iconst 4, 1) := by decide +kernel
theorem dX3_init_32 : decode cX3_init 32 = .ok (.iconst 4, 1) := by decide +kernel
theorem dX3_init_33 : decode cX3_init 33 = .ok (.multianewarray 25 2, 4) := by decide +kernel
theorem dX3_init_37 : decode cX3_init 37 = .ok (.putfield 27, 3) := by decide +kernel
theorem dX3_init_40 : decode cX3_init 40 = .ok (.aload_n 0, 1) := by decide +kernel
theorem dX3_init_41 : decode cX3_init 41 = .ok (.iconst 4, 1) := by decide +kernel
theorem dX3_init_42 : decode cX3_init 42 = .ok (.newarray .int, 2) := by decide +kernel
theorem dX3_init_44 : decode cX3_init 44 = .ok (.putfield 30, 3) := by decide +kernel
theorem dX3_init_47 : decode cX3_init 47 = .ok (.aload_n 0, 1) := by decide +kernel
theorem dX3_init_48 : decode cX3_init 48 = .ok (.iconst 4, 1) := by decide +kernel
theorem dX3_init_49 : decode cX3_init 49 = .ok (.newarray .int, 2) := by decide +kernel
theorem dX3_init_51 : decode cX3_init 51 = .ok (.putfield 33, 3) := by decide +kernel
theorem dX3_init_54 : decode cX3_init 54 = .ok (.aload_n 0, 1) := by decide +kernel
theorem dX3_init_55 : decode cX3_init 55 = .ok (.iconst 4, 1) := by decide +kernel
theorem dX3_init_56 : decode cX3_init 56 = .ok (.newarray .int, 2) := by decide +kernel
theorem dX3_init_58 : decode cX3_init 58 = .ok (.putfield 36, 3) := by decide +kernel
theorem dX3_init_61 : decode cX3_init 61 = .ok (.return_, 1) := by decide +kernel
theorem dX3_measure_0 : decode cX3_measure 0 = .ok (.aload_n 0, 1) := by decide +kernel
theorem dX3_measure_1 : decode cX3_measure 1 = .ok (.invokevirtual 39, 3) := by decide +kernel
theorem dX3_measure_4 : decode cX3_measure 4 = .ok (.iconst 2, 1) := by decide +kernel
theorem dX3_measure_5 : decode cX3_measure 5 = .ok (.istore_n 1, 1) := by decide +kernel
theorem dX3_measure_6 : decode cX3_measure 6 = .ok (.iload_n 1, 1) := by decide +kernel
theorem dX3_measure_7 : decode cX3_measure 7 = .ok (.aload_n 0, 1) := by decide +kernel
theorem dX3_measure_8 : decode cX3_measure 8 = .ok (.getfield 9, 3) := by decide +kernel
theorem dX3_measure_11 : decode cX3_measure 11 = .ok (.getfield 42, 3) := by decide +kernel
theorem dX3_measure_14 : decode cX3_measure 14 = .ok (.if_icmp .gt 14, 3) := by decide +kernel
theorem dX3_measure_17 : decode cX3_measure 17 = .ok (.aload_n 0, 1) := by decide +kernel
theorem dX3_measure_18 : decode cX3_measure 18 = .ok (.iload_n 1, 1) := by decide +kernel
theorem dX3_measure_19 : decode cX3_measure 19 = .ok (.invokevirtual 48, 3) := by decide +kernel
theorem dX3_measure_22 : decode cX3_measure 22 = .ok (.iinc 1 1, 3) := by decide +kernel
theorem dX3_measure_25 : decode cX3_measure 25 = .ok (.goto (-19), 3) := by decide +kernel
theorem dX3_measure_28 : decode cX3_measure 28 = .ok (.aload_n 0, 1) := by decide +kernel
theorem dX3_measure_29 : decode cX3_measure 29 = .ok (.invokevirtual 52, 3) := by decide +kernel
theorem dX3_measure_32 : decode cX3_measure 32 = .ok (.aload_n 0, 1) := by decide +kernel
theorem dX3_measure_33 : decode cX3_measure 33 = .ok (.invokevirtual 55, 3) := by decide +kernel
theorem dX3_measure_36 : decode cX3_measure 36 = .ok (.aload_n 0, 1) := by decide +kernel
theorem dX3_measure_37 : decode cX3_measure 37 = .ok (.invokevirtual 58, 3) := by decide +kernel
theorem dX3_measure_40 : decode cX3_measure 40 = .ok (.return_, 1) := by decide +kernel
theorem dX3_measureSingleCells_0 : decode cX3_measureSingleCells 0 = .ok (.iconst 0, 1) := by decide +kernel
theorem dX3_measureSingleCells_1 : decode cX3_measureSingleCells 1 = .ok (.istore_n 1, 1) := by decide +kernel
theorem dX3_measureSingleCells_2 : decode cX3_measureSingleCells 2 = .ok (.iload_n 1, 1) := by decide +kernel
theorem dX3_measureSingleCells_3 : decode cX3_measureSingleCells 3 = .ok (.aload_n 0, 1) := by decide +kernel
theorem dX3_measureSingleCells_4 : decode cX3_measureSingleCells 4 = .ok (.getfield 9, 3) := by decide +kernel
theorem dX3_measureSingleCells_7 : decode cX3_measureSingleCells 7 = .ok (.getfield 42, 3) := by decide +kernel
theorem dX3_measureSingleCells_10 : decode cX3_measureSingleCells 10 = .ok (.if_icmp .ge 23, 3) := by decide +kernel
theorem dX3_measureSingleCells_13 : decode cX3_measureSingleCells 13 = .ok (.aload_n 0, 1) := by decide +kernel
theorem dX3_measureSingleCells_14 : decode cX3_measureSingleCells 14 = .ok (.getfield 15, 3) := by decide +kernel
theorem dX3_measureSingleCells_17 : decode cX3_measureSingleCells 17 = .ok (.iload_n 1, 1) := by decide +kernel
theorem dX3_measureSingleCells_18 : decode cX3_measureSingleCells 18 = .ok (.iconst 1, 1) := by decide +kernel
theorem dX3_measureSingleCells_19 : decode cX3_measureSingleCells 19 = .ok (.iastore, 1) := by decide +kernel
theorem dX3_measureSingleCells_20 : decode cX3_measureSingleCells 20 = .ok (.aload_n 0, 1) := by decide +kernel
theorem dX3_measureSingleCells_21 : decode cX3_measureSingleCells 21 = .ok (.getfield 19, 3) := by decide +kernel
theorem dX3_measureSingleCells_24 : decode cX3_measureSingleCells 24 = .ok (.iload_n 1, 1) := by decide +kernel
theorem dX3_measureSingleCells_25 : decode cX3_measureSingleCells 25 = .ok (.iconst 1, 1) := by decide +kernel
theorem dX3_measureSingleCells_26 : decode cX3_measureSingleCells 26 = .ok (.iastore, 1) := by decide +kernel
theorem dX3_measureSingleCells_27 : decode cX3_measureSingleCells 27 = .ok (.iinc 1 1, 3) := by decide +kernel
theorem dX3_measureSingleCells_30 : decode cX3_measureSingleCells 30 = .ok (.goto (-28), 3) := by decide +kernel
theorem dX3_measureSingleCells_33 : decode cX3_measureSingleCells 33 = .ok (.iconst 0, 1) := by decide +kernel
theorem dX3_measureSingleCells_34 : decode cX3_measureSingleCells 34 = .ok (.istore_n 1, 1) := by decide +kernel
theorem dX3_measureSingleCells_35 : decode cX3_measureSingleCells 35 = .ok (.iload_n 1, 1) := by decide +kernel
theorem dX3_measureSingleCells_36 : decode cX3_measureSingleCells 36 = .ok (.aload_n 0, 1) := by decide +kernel
theorem dX3_measureSingleCells_37 : decode cX3_measureSingleCells 37 = .ok (.getfield 9, 3) := by decide +kernel
theorem dX3_measureSingleCells_40 : decode cX3_measureSingleCells 40 = .ok (.getfield 61, 3) := by decide +kernel
theorem dX3_measureSingleCells_43 : decode cX3_measureSingleCells 43 = .ok (.if_icmp .ge 85, 3) := by decide +kernel
theorem dX3_measureSingleCells_46 : decode cX3_measureSingleCells 46 = .ok (.aload_n 0, 1) := by decide +kernel
theorem dX3_measureSingleCells_47 : decode cX3_measureSingleCells 47 = .ok (.getfield 9, 3) := by decide +kernel
theorem dX3_measureSingleCells_50 : decode cX3_measureSingleCells 50 = .ok (.getfield 64, 3) := by decide +kernel
theorem dX3_measureSingleCells_53 : decode cX3_measureSingleCells 53 = .ok (.iload_n 1, 1) := by decide +kernel
theorem dX3_measureSingleCells_54 : decode cX3_measureSingleCells 54 = .ok (.aaload, 1) := by decide +kernel
theorem dX3_measureSingleCells_55 : decode cX3_measureSingleCells 55 = .ok (.astore_n 2, 1) := by decide +kernel
theorem dX3_measureSingleCells_56 : decode cX3_measureSingleCells 56 = .ok (.aload_n 2, 1) := by decide +kernel
theorem dX3_measureSingleCells_57 : decode cX3_measureSingleCells 57 = .ok (.getfield 68, 3) := by decide +kernel
theorem dX3_measureSingleCells_60 : decode cX3_measureSingleCells 60 = .ok (.iconst 1, 1) := by decide +kernel
theorem dX3_measureSingleCells_61 : decode cX3_measureSingleCells 61 = .ok (.if_icmp .ne 61, 3) := by decide +kernel
theorem dX3_measureSingleCells_64 : decode cX3_measureSingleCells 64 = .ok (.aload_n 0, 1) := by decide +kernel
theorem dX3_measureSingleCells_65 : decode cX3_measureSingleCells 65 = .ok (.getfield 15, 3) := by decide +kernel
theorem dX3_measureSingleCells_68 : decode cX3_measureSingleCells 68 = .ok (.aload_n 2, 1) := by decide +kernel
theorem dX3_measureSingleCells_69 : decode cX3_measureSingleCells 69 = .ok (.getfield 73, 3) := by decide +kernel
theorem dX3_measureSingleCells_72 : decode cX3_measureSingleCells 72 = .ok (.aload_n 0, 1) := by decide +kernel
theorem dX3_measureSingleCells_73 : decode cX3_measureSingleCells 73 = .ok (.getfield 15, 3) := by decide +kernel
theorem dX3_measureSingleCells_76 : decode cX3_measureSingleCells 76 = .ok (.aload_n 2, 1) := by decide +kernel
theorem dX3_measureSingleCells_77 : decode cX3_measureSingleCells 77 = .ok (.getfield 73, 3) := by decide +kernel
theorem dX3_measureSingleCells_80 : decode cX3_measureSingleCells 80 = .ok (.iaload, 1) := by decide +kernel
theorem dX3_measureSingleCells_81 : decode cX3_measureSingleCells 81 = .ok (.aload_n 0, 1) := by decide +kernel
theorem dX3_measureSingleCells_82 : decode cX3_measureSingleCells 82 = .ok (.getfield 9, 3) := by decide +kernel
theorem dX3_measureSingleCells_85 : decode cX3_measureSingleCells 85 = .ok (.aload_n 2, 1) := by decide +kernel
theorem dX3_measureSingleCells_86 : decode cX3_measureSingleCells 86 = .ok (.invokevirtual 76, 3) := by decide +kernel
theorem dX3_measureSingleCells_89 : decode cX3_measureSingleCells 89 = .ok (.invokestatic 80, 3) := by decide +kernel
theorem dX3_measureSingleCells_92 : decode cX3_measureSingleCells 92 = .ok (.iastore, 1) := by decide +kernel
theorem dX3_measureSingleCells_93 : decode cX3_measureSingleCells 93 = .ok (.aload_n 0, 1) := by decide +kernel
theorem dX3_measureSingleCells_94 : decode cX3_measureSingleCells 94 = .ok (.getfield 19, 3) := by decide +kernel
theorem dX3_measureSingleCells_97 : decode cX3_measureSingleCells 97 = .ok (.aload_n 2, 1) := by decide +kernel
theorem dX3_measureSingleCells_98 : decode cX3_measureSingleCells 98 = .ok (.getfield 73, 3) := by decide +kernel
theorem dX3_measureSingleCells_101 : decode cX3_measureSingleCells 101 = .ok (.aload_n 0, 1) := by decide +kernel
theorem dX3_measureSingleCells_102 : decode cX3_measureSingleCells 102 = .ok (.getfield 19, 3) := by decide +kernel
theorem dX3_measureSingleCells_105 : decode cX3_measureSingleCells 105 = .ok (.aload_n 2, 1) := by decide +kernel
theorem dX3_measureSingleCells_106 : decode cX3_measureSingleCells 106 = .ok (.getfield 73, 3) := by decide +kernel
theorem dX3_measureSingleCells_109 : decode cX3_measureSingleCells 109 = .ok (.iaload, 1) := by decide +kernel
theorem dX3_measureSingleCells_110 : decode cX3_measureSingleCells 110 = .ok (.aload_n 0, 1) := by decide +kernel
theorem dX3_measureSingleCells_111 : decode cX3_measureSingleCells 111 = .ok (.getfield 9, 3) := by decide +kernel
theorem dX3_measureSingleCells_114 : decode cX3_measureSingleCells 114 = .ok (.aload_n 2, 1) := by decide +kernel
theorem dX3_measureSingleCells_115 : decode cX3_measureSingleCells 115 = .ok (.invokevirtual 86, 3) := by decide +kernel
theorem dX3_measureSingleCells_118 : decode cX3_measureSingleCells 118 = .ok (.invokestatic 80, 3) := by decide +kernel
theorem dX3_measureSingleCells_121 : decode cX3_measureSingleCells 121 = .ok (.iastore, 1) := by decide +kernel
theorem dX3_measureSingleCells_122 : decode cX3_measureSingleCells 122 = .ok (.iinc 1 1, 3) := by decide +kernel
theorem dX3_measureSingleCells_125 : decode cX3_measureSingleCells 125 = .ok (.goto (-90), 3) := by decide +kernel
theorem dX3_measureSingleCells_128 : decode cX3_measureSingleCells 128 = .ok (.iconst 0, 1) := by decide +kernel
theorem dX3_measureSingleCells_129 : decode cX3_measureSingleCells 129 = .ok (.istore_n 1, 1) := by decide +kernel
theorem dX3_measureSingleCells_130 : decode cX3_measureSingleCells 130 = .ok (.iload_n 1, 1) := by decide +kernel
theorem dX3_measureSingleCells_131 : decode cX3_measureSingleCells 131 = .ok (.aload_n 0, 1) := by decide +kernel
theorem dX3_measureSingleCells_132 : decode cX3_measureSingleCells 132 = .ok (.getfield 9, 3) := by decide +kernel
theorem dX3_measureSingleCells_135 : decode cX3_measureSingleCells 135 = .ok (.getfield 42, 3) := by decide +kernel
theorem dX3_measureSingleCells_138 : decode cX3_measureSingleCells 138 = .ok (.if_icmp .ge 37, 3) := by decide +kernel
theorem dX3_measureSingleCells_141 : decode cX3_measureSingleCells 141 = .ok (.aload_n 0, 1) := by decide +kernel
theorem dX3_measureSingleCells_142 : decode cX3_measureSingleCells 142 = .ok (.getfield 9, 3) := by decide +kernel
theorem dX3_measureSingleCells_145 : decode cX3_measureSingleCells 145 = .ok (.getfield 89, 3) := by decide +kernel
theorem dX3_measureSingleCells_148 : decode cX3_measureSingleCells 148 = .ok (.iload_n 1, 1) := by decide +kernel
theorem dX3_measureSingleCells_149 : decode cX3_measureSingleCells 149 = .ok (.iaload, 1) := by decide +kernel
theorem dX3_measureSingleCells_150 : decode cX3_measureSingleCells 150 = .ok (.iconst 1, 1) := by decide +kernel
theorem dX3_measureSingleCells_151 : decode cX3_measureSingleCells 151 = .ok (.if_icmp .ne 18, 3) := by decide +kernel
theorem dX3_measureSingleCells_154 : decode cX3_measureSingleCells 154 = .ok (.aload_n 0, 1) := by decide +kernel
theorem dX3_measureSingleCells_155 : decode cX3_measureSingleCells 155 = .ok (.getfield 19, 3) := by decide +kernel
theorem dX3_measureSingleCells_158 : decode cX3_measureSingleCells 158 = .ok (.iload_n 1, 1) := by decide +kernel
theorem dX3_measureSingleCells_159 : decode cX3_measureSingleCells 159 = .ok (.aload_n 0, 1) := by decide +kernel
theorem dX3_measureSingleCells_160 : decode cX3_measureSingleCells 160 = .ok (.getfield 9, 3) := by decide +kernel
theorem dX3_measureSingleCells_163 : decode cX3_measureSingleCells 163 = .ok (.getfield 92, 3) := by decide +kernel
theorem dX3_measureSingleCells_166 : decode cX3_measureSingleCells 166 = .ok (.iload_n 1, 1) := by decide +kernel
theorem dX3_measureSingleCells_167 : decode cX3_measureSingleCells 167 = .ok (.iaload, 1) := by decide +kernel
theorem dX3_measureSingleCells_168 : decode cX3_measureSingleCells 168 = .ok (.iastore, 1) := by decide +kernel
theorem dX3_measureSingleCells_169 : decode cX3_measureSingleCells 169 = .ok (.iinc 1 1, 3) := by decide +kernel
theorem dX3_measureSingleCells_172 : decode cX3_measureSingleCells 172 = .ok (.goto (-42), 3) := by decide +kernel
theorem dX3_measureSingleCells_175 : decode cX3_measureSingleCells 175 = .ok (.aload_n 0, 1) := by decide +kernel
theorem dX3_measureSingleCells_176 : decode cX3_measureSingleCells 176 = .ok (.invokevirtual 95, 3) := by decide +kernel
theorem dX3_measureSingleCells_179 : decode cX3_measureSingleCells 179 = .ok (.return_, 1) := by decide +kernel
theorem dX3_raiseMaximums_0 : decode cX3_raiseMaximums 0 = .ok (.iconst 0, 1) := by decide +kernel
theorem dX3_raiseMaximums_1 : decode cX3_raiseMaximums 1 = .ok (.istore_n 1, 1) := by decide +kernel
theorem dX3_raiseMaximums_2 : decode cX3_raiseMaximums 2 = .ok (.iload_n 1, 1) := by decide +kernel
theorem dX3_raiseMaximums_3 : decode cX3_raiseMaximums 3 = .ok (.aload_n 0, 1) := by decide +kernel
theorem dX3_raiseMaximums_4 : decode cX3_raiseMaximums 4 = .ok (.getfield 9, 3) := by decide +kernel
theorem dX3_raiseMaximums_7 : decode cX3_raiseMaximums 7 = .ok (.getfield 42, 3) := by decide +kernel
theorem dX3_raiseMaximums_10 : decode cX3_raiseMaximums 10 = .ok (.if_icmp .ge 30, 3) := by decide +kernel
theorem dX3_raiseMaximums_13 : decode cX3_raiseMaximums 13 = .ok (.aload_n 0, 1) := by decide +kernel
theorem dX3_raiseMaximums_14 : decode cX3_raiseMaximums 14 = .ok (.getfield 19, 3) := by decide +kernel
theorem dX3_raiseMaximums_17 : decode cX3_raiseMaximums 17 = .ok (.iload_n 1, 1) := by decide +kernel
theorem dX3_raiseMaximums_18 : decode cX3_raiseMaximums 18 = .ok (.aload_n 0, 1) := by decide +kernel
theorem dX3_raiseMaximums_19 : decode cX3_raiseMaximums 19 = .ok (.getfield 19, 3) := by decide +kernel
theorem dX3_raiseMaximums_22 : decode cX3_raiseMaximums 22 = .ok (.iload_n 1, 1) := by decide +kernel
theorem dX3_raiseMaximums_23 : decode cX3_raiseMaximums 23 = .ok (.iaload, 1) := by decide +kernel
theorem dX3_raiseMaximums_24 : decode cX3_raiseMaximums 24 = .ok (.aload_n 0, 1) := by decide +kernel
theorem dX3_raiseMaximums_25 : decode cX3_raiseMaximums 25 = .ok (.getfield 15, 3) := by decide +kernel
theorem dX3_raiseMaximums_28 : decode cX3_raiseMaximums 28 = .ok (.iload_n 1, 1) := by decide +kernel
theorem dX3_raiseMaximums_29 : decode cX3_raiseMaximums 29 = .ok (.iaload, 1) := by decide +kernel
theorem dX3_raiseMaximums_30 : decode cX3_raiseMaximums 30 = .ok (.invokestatic 80, 3) := by decide +kernel
theorem dX3_raiseMaximums_33 : decode cX3_raiseMaximums 33 = .ok (.iastore, 1) := by decide +kernel
theorem dX3_raiseMaximums_34 : decode cX3_raiseMaximums 34 = .ok (.iinc 1 1, 3) := by decide +kernel
theorem dX3_raiseMaximums_37 : decode cX3_raiseMaximums 37 = .ok (.goto (-35), 3) := by decide +kernel
theorem dX3_raiseMaximums_40 : decode cX3_raiseMaximums 40 = .ok (.return_, 1) := by decide +kernel
theorem dX3_measureCellsOfSpan_0 : decode cX3_measureCellsOfSpan 0 = .ok (.iconst 0, 1) := by decide +kernel
theorem dX3_measureCellsOfSpan_1 : decode cX3_measureCellsOfSpan 1 = .ok (.istore_n 2, 1) := by decide +kernel
theorem dX3_measureCellsOfSpan_2 : decode cX3_measureCellsOfSpan 2 = .ok (.iload_n 2, 1) := by decide +kernel
theorem dX3_measureCellsOfSpan_3 : decode cX3_measureCellsOfSpan 3 = .ok (.aload_n 0, 1) := by decide +kernel
theorem dX3_measureCellsOfSpan_4 : decode cX3_measureCellsOfSpan 4 = .ok (.getfield 9, 3) := by decide +kernel
theorem dX3_measureCellsOfSpan_7 : decode cX3_measureCellsOfSpan 7 = .ok (.getfield 61, 3) := by decide +kernel
theorem dX3_measureCellsOfSpan_10 : decode cX3_measureCellsOfSpan 10 = .ok (.if_icmp .ge 65, 3) := by decide +kernel
theorem dX3_measureCellsOfSpan_13 : decode cX3_measureCellsOfSpan 13 = .ok (.aload_n 0, 1) := by decide +kernel
theorem dX3_measureCellsOfSpan_14 : decode cX3_measureCellsOfSpan 14 = .ok (.getfield 9, 3) := by decide +kernel
theorem dX3_measureCellsOfSpan_17 : decode cX3_measureCellsOfSpan 17 = .ok (.getfield 64, 3) := by decide +kernel
theorem dX3_measureCellsOfSpan_20 : decode cX3_measureCellsOfSpan 20 = .ok (.iload_n 2, 1) := by decide +kernel
theorem dX3_measureCellsOfSpan_21 : decode cX3_measureCellsOfSpan 21 = .ok (.aaload, 1) := by decide +kernel
theorem dX3_measureCellsOfSpan_22 : decode cX3_measureCellsOfSpan 22 = .ok (.astore_n 3, 1) := by decide +kernel
theorem dX3_measureCellsOfSpan_23 : decode cX3_measureCellsOfSpan 23 = .ok (.aload_n 3, 1) := by decide +kernel
theorem dX3_measureCellsOfSpan_24 : decode cX3_measureCellsOfSpan 24 = .ok (.getfield 68, 3) := by decide +kernel
theorem dX3_measureCellsOfSpan_27 : decode cX3_measureCellsOfSpan 27 = .ok (.iload_n 1, 1) := by decide +kernel
theorem dX3_measureCellsOfSpan_28 : decode cX3_measureCellsOfSpan 28 = .ok (.if_icmp .ne 41, 3) := by decide +kernel
theorem dX3_measureCellsOfSpan_31 : decode cX3_measureCellsOfSpan 31 = .ok (.aload_n 0, 1) := by decide +kernel
theorem dX3_measureCellsOfSpan_32 : decode cX3_measureCellsOfSpan 32 = .ok (.aload_n 3, 1) := by decide +kernel
theorem dX3_measureCellsOfSpan_33 : decode cX3_measureCellsOfSpan 33 = .ok (.aload_n 0, 1) := by decide +kernel
theorem dX3_measureCellsOfSpan_34 : decode cX3_measureCellsOfSpan 34 = .ok (.getfield 9, 3) := by decide +kernel
theorem dX3_measureCellsOfSpan_37 : decode cX3_measureCellsOfSpan 37 = .ok (.aload_n 3, 1) := by decide +kernel
theorem dX3_measureCellsOfSpan_38 : decode cX3_measureCellsOfSpan 38 = .ok (.invokevirtual 76, 3) := by decide +kernel
theorem dX3_measureCellsOfSpan_41 : decode cX3_measureCellsOfSpan 41 = .ok (.aload_n 0, 1) := by decide +kernel
theorem dX3_measureCellsOfSpan_42 : decode cX3_measureCellsOfSpan 42 = .ok (.getfield 15, 3) := by decide +kernel
theorem dX3_measureCellsOfSpan_45 : decode cX3_measureCellsOfSpan 45 = .ok (.invokevirtual 98, 3) := by decide +kernel
theorem dX3_measureCellsOfSpan_48 : decode cX3_measureCellsOfSpan 48 = .ok (.aload_n 0, 1) := by decide +kernel
theorem dX3_measureCellsOfSpan_49 : decode cX3_measureCellsOfSpan 49 = .ok (.invokevirtual 95, 3) := by decide +kernel
theorem dX3_measureCellsOfSpan_52 : decode cX3_measureCellsOfSpan 52 = .ok (.aload_n 0, 1) := by decide +kernel
theorem dX3_measureCellsOfSpan_53 : decode cX3_measureCellsOfSpan 53 = .ok (.aload_n 3, 1) := by decide +kernel
theorem dX3_measureCellsOfSpan_54 : decode cX3_measureCellsOfSpan 54 = .ok (.aload_n 0, 1) := by decide +kernel
theorem dX3_measureCellsOfSpan_55 : decode cX3_measureCellsOfSpan 55 = .ok (.getfield 9, 3) := by decide +kernel
theorem dX3_measureCellsOfSpan_58 : decode cX3_measureCellsOfSpan 58 = .ok (.aload_n 3, 1) := by decide +kernel
theorem dX3_measureCellsOfSpan_59 : decode cX3_measureCellsOfSpan 59 = .ok (.invokevirtual 86, 3) := by decide +kernel
theorem dX3_measureCellsOfSpan_62 : decode cX3_measureCellsOfSpan 62 = .ok (.aload_n 0, 1) := by decide +kernel
theorem dX3_measureCellsOfSpan_63 : decode cX3_measureCellsOfSpan 63 = .ok (.getfield 19, 3) := by decide +kernel
theorem dX3_measureCellsOfSpan_66 : decode cX3_measureCellsOfSpan 66 = .ok (.invokevirtual 98, 3) := by decide +kernel
theorem dX3_measureCellsOfSpan_69 : decode cX3_measureCellsOfSpan 69 = .ok (.iinc 2 1, 3) := by decide +kernel
theorem dX3_measureCellsOfSpan_72 : decode cX3_measureCellsOfSpan 72 = .ok (.goto (-70), 3) := by decide +kernel
theorem dX3_measureCellsOfSpan_75 : decode cX3_measureCellsOfSpan 75 = .ok (.return_, 1) := by decide +kernel
theorem dX3_widen_0 : decode cX3_widen 0 = .ok (.iload_n 2, 1) := by decide +kernel
theorem dX3_widen_1 : decode cX3_widen 1 = .ok (.aload_n 0, 1) := by decide +kernel
theorem dX3_widen_2 : decode cX3_widen 2 = .ok (.getfield 9, 3) := by decide +kernel
theorem dX3_widen_5 : decode cX3_widen 5 = .ok (.aload_n 1, 1) := by decide +kernel
theorem dX3_widen_6 : decode cX3_widen 6 = .ok (.aload_n 3, 1) := by decide +kernel
theorem dX3_widen_7 : decode cX3_widen 7 = .ok (.invokevirtual 102, 3) := by decide +kernel
theorem dX3_widen_10 : decode cX3_widen 10 = .ok (.isub, 1) := by decide +kernel
theorem dX3_widen_11 : decode cX3_widen 11 = .ok (.istore 4, 2) := by decide +kernel
theorem dX3_widen_13 : decode cX3_widen 13 = .ok (.iload 4, 2) := by decide +kernel
theorem dX3_widen_15 : decode cX3_widen 15 = .ok (.ifCond .le 15, 3) := by decide +kernel
theorem dX3_widen_18 : decode cX3_widen 18 = .ok (.aload_n 0, 1) := by decide +kernel
theorem dX3_widen_19 : decode cX3_widen 19 = .ok (.aload_n 1, 1) := by decide +kernel
theorem dX3_widen_20 : decode cX3_widen 20 = .ok (.invokevirtual 106, 3) := by decide +kernel
theorem dX3_widen_23 : decode cX3_widen 23 = .ok (.aload_n 0, 1) := by decide +kernel
theorem dX3_widen_24 : decode cX3_widen 24 = .ok (.iload 4, 2) := by decide +kernel
theorem dX3_widen_26 : decode cX3_widen 26 = .ok (.aload_n 3, 1) := by decide +kernel
theorem dX3_widen_27 : decode cX3_widen 27 = .ok (.invokevirtual 110, 3) := by decide +kernel
theorem dX3_widen_30 : decode cX3_widen 30 = .ok (.return_, 1) := by decide +kernel
theorem dX3_weighByMaximums_0 : decode cX3_weighByMaximums 0 = .ok (.iconst 1, 1) := by decide +kernel
theorem dX3_weighByMaximums_1 : decode cX3_weighByMaximums 1 = .ok (.istore_n 2, 1) := by decide +kernel
theorem dX3_weighByMaximums_2 : decode cX3_weighByMaximums 2 = .ok (.iconst 0, 1) := by decide +kernel
theorem dX3_weighByMaximums_3 : decode cX3_weighByMaximums 3 = .ok (.istore_n 3, 1) := by decide +kernel
theorem dX3_weighByMaximums_4 : decode cX3_weighByMaximums 4 = .ok (.iload_n 3, 1) := by decide +kernel
theorem dX3_weighByMaximums_5 : decode cX3_weighByMaximums 5 = .ok (.aload_n 0, 1) := by decide +kernel
theorem dX3_weighByMaximums_6 : decode cX3_weighByMaximums 6 = .ok (.getfield 9, 3) := by decide +kernel
theorem dX3_weighByMaximums_9 : decode cX3_weighByMaximums 9 = .ok (.getfield 42, 3) := by decide +kernel
theorem dX3_weighByMaximums_12 : decode cX3_weighByMaximums 12 = .ok (.if_icmp .ge 41, 3) := by decide +kernel
theorem dX3_weighByMaximums_15 : decode cX3_weighByMaximums 15 = .ok (.iload_n 2, 1) := by decide +kernel
theorem dX3_weighByMaximums_16 : decode cX3_weighByMaximums 16 = .ok (.ifCond .eq 29, 3) := by decide +kernel
theorem dX3_weighByMaximums_19 : decode cX3_weighByMaximums 19 = .ok (.aload_n 1, 1) := by decide +kernel
theorem dX3_weighByMaximums_20 : decode cX3_weighByMaximums 20 = .ok (.iload_n 3, 1) := by decide +kernel
theorem dX3_weighByMaximums_21 : decode cX3_weighByMaximums 21 = .ok (.iconst 1, 1) := by decide +kernel
theorem dX3_weighByMaximums_22 : decode cX3_weighByMaximums 22 = .ok (.invokevirtual 114, 3) := by decide +kernel
theorem dX3_weighByMaximums_25 : decode cX3_weighByMaximums 25 = .ok (.ifCond .eq 16, 3) := by decide +kernel
theorem dX3_weighByMaximums_28 : decode cX3_weighByMaximums 28 = .ok (.aload_n 0, 1) := by decide +kernel
theorem dX3_weighByMaximums_29 : decode cX3_weighByMaximums 29 = .ok (.getfield 9, 3) := by decide +kernel
theorem dX3_weighByMaximums_32 : decode cX3_weighByMaximums 32 = .ok (.getfield 89, 3) := by decide +kernel
theorem dX3_weighByMaximums_35 : decode cX3_weighByMaximums 35 = .ok (.iload_n 3, 1) := by decide +kernel
theorem dX3_weighByMaximums_36 : decode cX3_weighByMaximums 36 = .ok (.iaload, 1) := by decide +kernel
theorem dX3_weighByMaximums_37 : decode cX3_weighByMaximums 37 = .ok (.iconst 1, 1) := by decide +kernel
theorem dX3_weighByMaximums_38 : decode cX3_weighByMaximums 38 = .ok (.if_icmp .ne 7, 3) := by decide +kernel
theorem dX3_weighByMaximums_41 : decode cX3_weighByMaximums 41 = .ok (.iconst 1, 1) := by decide +kernel
theorem dX3_weighByMaximums_42 : decode cX3_weighByMaximums 42 = .ok (.goto 4, 3) := by decide +kernel
theorem dX3_weighByMaximums_45 : decode cX3_weighByMaximums 45 = .ok (.iconst 0, 1) := by decide +kernel
theorem dX3_weighByMaximums_46 : decode cX3_weighByMaximums 46 = .ok (.istore_n 2, 1) := by decide +kernel
theorem dX3_weighByMaximums_47 : decode cX3_weighByMaximums 47 = .ok (.iinc 3 1, 3) := by decide +kernel
theorem dX3_weighByMaximums_50 : decode cX3_weighByMaximums 50 = .ok (.goto (-46), 3) := by decide +kernel
theorem dX3_weighByMaximums_53 : decode cX3_weighByMaximums 53 = .ok (.iconst 0, 1) := by decide +kernel
theorem dX3_weighByMaximums_54 : decode cX3_weighByMaximums 54 = .ok (.istore_n 3, 1) := by decide +kernel
theorem dX3_weighByMaximums_55 : decode cX3_weighByMaximums 55 = .ok (.iload_n 3, 1) := by decide +kernel
theorem dX3_weighByMaximums_56 : decode cX3_weighByMaximums 56 = .ok (.aload_n 0, 1) := by decide +kernel
theorem dX3_weighByMaximums_57 : decode cX3_weighByMaximums 57 = .ok (.getfield 9, 3) := by decide +kernel
theorem dX3_weighByMaximums_60 : decode cX3_weighByMaximums 60 = .ok (.getfield 42, 3) := by decide +kernel
theorem dX3_weighByMaximums_63 : decode cX3_weighByMaximums 63 = .ok (.if_icmp .ge 63, 3) := by decide +kernel
theorem dX3_weighByMaximums_66 : decode cX3_weighByMaximums 66 = .ok (.aload_n 1, 1) := by decide +kernel
theorem dX3_weighByMaximums_67 : decode cX3_weighByMaximums 67 = .ok (.iload_n 3, 1) := by decide +kernel
theorem dX3_weighByMaximums_68 : decode cX3_weighByMaximums 68 = .ok (.iconst 1, 1) := by decide +kernel
theorem dX3_weighByMaximums_69 : decode cX3_weighByMaximums 69 = .ok (.invokevirtual 114, 3) := by decide +kernel
theorem dX3_weighByMaximums_72 : decode cX3_weighByMaximums 72 = .ok (.ifCond .eq 24, 3) := by decide +kernel
theorem dX3_weighByMaximums_75 : decode cX3_weighByMaximums 75 = .ok (.iload_n 2, 1) := by decide +kernel
theorem dX3_weighByMaximums_76 : decode cX3_weighByMaximums 76 = .ok (.ifCond .ne 16, 3) := by decide +kernel
theorem dX3_weighByMaximums_79 : decode cX3_weighByMaximums 79 = .ok (.aload_n 0, 1) := by decide +kernel
theorem dX3_weighByMaximums_80 : decode cX3_weighByMaximums 80 = .ok (.getfield 9, 3) := by decide +kernel
theorem dX3_weighByMaximums_83 : decode cX3_weighByMaximums 83 = .ok (.getfield 89, 3) := by decide +kernel
theorem dX3_weighByMaximums_86 : decode cX3_weighByMaximums 86 = .ok (.iload_n 3, 1) := by decide +kernel
theorem dX3_weighByMaximums_87 : decode cX3_weighByMaximums 87 = .ok (.iaload, 1) := by decide +kernel
theorem dX3_weighByMaximums_88 : decode cX3_weighByMaximums 88 = .ok (.iconst 1, 1) := by decide +kernel
theorem dX3_weighByMaximums_89 : decode cX3_weighByMaximums 89 = .ok (.if_icmp .eq 7, 3) := by decide +kernel
theorem dX3_weighByMaximums_92 : decode cX3_weighByMaximums 92 = .ok (.iconst 1, 1) := by decide +kernel
theorem dX3_weighByMaximums_93 : decode cX3_weighByMaximums 93 = .ok (.goto 4, 3) := by decide +kernel
theorem dX3_weighByMaximums_96 : decode cX3_weighByMaximums 96 = .ok (.iconst 0, 1) := by decide +kernel
theorem dX3_weighByMaximums_97 : decode cX3_weighByMaximums 97 = .ok (.istore 4, 2) := by decide +kernel
theorem dX3_weighByMaximums_99 : decode cX3_weighByMaximums 99 = .ok (.aload_n 0, 1) := by decide +kernel
theorem dX3_weighByMaximums_100 : decode cX3_weighByMaximums 100 = .ok (.getfield 36, 3) := by decide +kernel
theorem dX3_weighByMaximums_103 : decode cX3_weighByMaximums 103 = .ok (.iload_n 3, 1) := by decide +kernel
theorem dX3_weighByMaximums_104 : decode cX3_weighByMaximums 104 = .ok (.iload 4, 2) := by decide +kernel
theorem dX3_weighByMaximums_106 : decode cX3_weighByMaximums 106 = .ok (.ifCond .eq 12, 3) := by decide +kernel
theorem dX3_weighByMaximums_109 : decode cX3_weighByMaximums 109 = .ok (.aload_n 0, 1) := by decide +kernel
theorem dX3_weighByMaximums_110 : decode cX3_weighByMaximums 110 = .ok (.getfield 19, 3) := by decide +kernel
theorem dX3_weighByMaximums_113 : decode cX3_weighByMaximums 113 = .ok (.iload_n 3, 1) := by decide +kernel
theorem dX3_weighByMaximums_114 : decode cX3_weighByMaximums 114 = .ok (.iaload, 1) := by decide +kernel
theorem dX3_weighByMaximums_115 : decode cX3_weighByMaximums 115 = .ok (.goto 4, 3) := by decide +kernel
theorem dX3_weighByMaximums_118 : decode cX3_weighByMaximums 118 = .ok (.iconst 0, 1) := by decide +kernel
theorem dX3_weighByMaximums_119 : decode cX3_weighByMaximums 119 = .ok (.iastore, 1) := by decide +kernel
theorem dX3_weighByMaximums_120 : decode cX3_weighByMaximums 120 = .ok (.iinc 3 1, 3) := by decide +kernel
theorem dX3_weighByMaximums_123 : decode cX3_weighByMaximums 123 = .ok (.goto (-68), 3) := by decide +kernel
theorem dX3_weighByMaximums_126 : decode cX3_weighByMaximums 126 = .ok (.return_, 1) := by decide +kernel
theorem dX3_share_0 : decode cX3_share 0 = .ok (.iconst 0, 1) := by decide +kernel
theorem dX3_share_1 : decode cX3_share 1 = .ok (.istore_n 3, 1) := by decide +kernel
theorem dX3_share_2 : decode cX3_share 2 = .ok (.iconst 0, 1) := by decide +kernel
theorem dX3_share_3 : decode cX3_share 3 = .ok (.istore 4, 2) := by decide +kernel
theorem dX3_share_5 : decode cX3_share 5 = .ok (.iload 4, 2) := by decide +kernel
theorem dX3_share_7 : decode cX3_share 7 = .ok (.aload_n 0, 1) := by decide +kernel
theorem dX3_share_8 : decode cX3_share 8 = .ok (.getfield 9, 3) := by decide +kernel
theorem dX3_share_11 : decode cX3_share 11 = .ok (.getfield 42, 3) := by decide +kernel
theorem dX3_share_14 : decode cX3_share 14 = .ok (.if_icmp .ge 19, 3) := by decide +kernel
theorem dX3_share_17 : decode cX3_share 17 = .ok (.iload_n 3, 1) := by decide +kernel
theorem dX3_share_18 : decode cX3_share 18 = .ok (.aload_n 0, 1) := by decide +kernel
theorem dX3_share_19 : decode cX3_share 19 = .ok (.getfield 36, 3) := by decide +kernel
theorem dX3_share_22 : decode cX3_share 22 = .ok (.iload 4, 2) := by decide +kernel
theorem dX3_share_24 : decode cX3_share 24 = .ok (.iaload, 1) := by decide +kernel
theorem dX3_share_25 : decode cX3_share 25 = .ok (.iadd, 1) := by decide +kernel
theorem dX3_share_26 : decode cX3_share 26 = .ok (.istore_n 3, 1) := by decide +kernel
theorem dX3_share_27 : decode cX3_share 27 = .ok (.iinc 4 1, 3) := by decide +kernel
theorem dX3_share_30 : decode cX3_share 30 = .ok (.goto (-25), 3) := by decide +kernel
theorem dX3_share_33 : decode cX3_share 33 = .ok (.iload_n 3, 1) := by decide +kernel
theorem dX3_share_34 : decode cX3_share 34 = .ok (.ifCond .gt 4, 3) := by decide +kernel
theorem dX3_share_37 : decode cX3_share 37 = .ok (.return_, 1) := by decide +kernel
theorem dX3_share_38 : decode cX3_share 38 = .ok (.iload_n 1, 1) := by decide +kernel
theorem dX3_share_39 : decode cX3_share 39 = .ok (.istore 4, 2) := by decide +kernel
theorem dX3_share_41 : decode cX3_share 41 = .ok (.iconst 0, 1) := by decide +kernel
theorem dX3_share_42 : decode cX3_share 42 = .ok (.istore 5, 2) := by decide +kernel
theorem dX3_share_44 : decode cX3_share 44 = .ok (.iload 5, 2) := by decide +kernel
theorem dX3_share_46 : decode cX3_share 46 = .ok (.aload_n 0, 1) := by decide +kernel
theorem dX3_share_47 : decode cX3_share 47 = .ok (.getfield 9, 3) := by decide +kernel
theorem dX3_share_50 : decode cX3_share 50 = .ok (.getfield 42, 3) := by decide +kernel
theorem dX3_share_53 : decode cX3_share 53 = .ok (.if_icmp .ge 38, 3) := by decide +kernel
theorem dX3_share_56 : decode cX3_share 56 = .ok (.iload_n 1, 1) := by decide +kernel
theorem dX3_share_57 : decode cX3_share 57 = .ok (.aload_n 0, 1) := by decide +kernel
theorem dX3_share_58 : decode cX3_share 58 = .ok (.getfield 36, 3) := by decide +kernel
theorem dX3_share_61 : decode cX3_share 61 = .ok (.iload 5, 2) := by decide +kernel
theorem dX3_share_63 : decode cX3_share 63 = .ok (.iaload, 1) := by decide +kernel
theorem dX3_share_64 : decode cX3_share 64 = .ok (.imul, 1) := by decide +kernel
theorem dX3_share_65 : decode cX3_share 65 = .ok (.iload_n 3, 1) := by decide +kernel
theorem dX3_share_66 : decode cX3_share 66 = .ok (.idiv, 1) := by decide +kernel
theorem dX3_share_67 : decode cX3_share 67 = .ok (.istore 6, 2) := by decide +kernel
theorem dX3_share_69 : decode cX3_share 69 = .ok (.aload_n 2, 1) := by decide +kernel
theorem dX3_share_70 : decode cX3_share 70 = .ok (.iload 5, 2) := by decide +kernel
theorem dX3_share_72 : decode cX3_share 72 = .ok (.dup2, 1) := by decide +kernel
theorem dX3_share_73 : decode cX3_share 73 = .ok (.iaload, 1) := by decide +kernel
theorem dX3_share_74 : decode cX3_share 74 = .ok (.iload 6, 2) := by decide +kernel
theorem dX3_share_76 : decode cX3_share 76 = .ok (.iadd, 1) := by decide +kernel
theorem dX3_share_77 : decode cX3_share 77 = .ok (.iastore, 1) := by decide +kernel
theorem dX3_share_78 : decode cX3_share 78 = .ok (.iload 4, 2) := by decide +kernel
theorem dX3_share_80 : decode cX3_share 80 = .ok (.iload 6, 2) := by decide +kernel
theorem dX3_share_82 : decode cX3_share 82 = .ok (.isub, 1) := by decide +kernel
theorem dX3_share_83 : decode cX3_share 83 = .ok (.istore 4, 2) := by decide +kernel
theorem dX3_share_85 : decode cX3_share 85 = .ok (.iinc 5 1, 3) := by decide +kernel
theorem dX3_share_88 : decode cX3_share 88 = .ok (.goto (-44), 3) := by decide +kernel
theorem dX3_share_91 : decode cX3_share 91 = .ok (.iconst 0, 1) := by decide +kernel
theorem dX3_share_92 : decode cX3_share 92 = .ok (.istore 5, 2) := by decide +kernel
theorem dX3_share_94 : decode cX3_share 94 = .ok (.iload 5, 2) := by decide +kernel
theorem dX3_share_96 : decode cX3_share 96 = .ok (.aload_n 0, 1) := by decide +kernel
theorem dX3_share_97 : decode cX3_share 97 = .ok (.getfield 9, 3) := by decide +kernel
theorem dX3_share_100 : decode cX3_share 100 = .ok (.getfield 42, 3) := by decide +kernel
theorem dX3_share_103 : decode cX3_share 103 = .ok (.if_icmp .ge 35, 3) := by decide +kernel
theorem dX3_share_106 : decode cX3_share 106 = .ok (.iload 4, 2) := by decide +kernel
theorem dX3_share_108 : decode cX3_share 108 = .ok (.ifCond .le 30, 3) := by decide +kernel
theorem dX3_share_111 : decode cX3_share 111 = .ok (.aload_n 0, 1) := by decide +kernel
theorem dX3_share_112 : decode cX3_share 112 = .ok (.getfield 36, 3) := by decide +kernel
theorem dX3_share_115 : decode cX3_share 115 = .ok (.iload 5, 2) := by decide +kernel
theorem dX3_share_117 : decode cX3_share 117 = .ok (.iaload, 1) := by decide +kernel
theorem dX3_share_118 : decode cX3_share 118 = .ok (.ifCond .le 14, 3) := by decide +kernel
theorem dX3_share_121 : decode cX3_share 121 = .ok (.aload_n 2, 1) := by decide +kernel
theorem dX3_share_122 : decode cX3_share 122 = .ok (.iload 5, 2) := by decide +kernel
theorem dX3_share_124 : decode cX3_share 124 = .ok (.dup2, 1) := by decide +kernel
theorem dX3_share_125 : decode cX3_share 125 = .ok (.iaload, 1) := by decide +kernel
theorem dX3_share_126 : decode cX3_share 126 = .ok (.iconst 1, 1) := by decide +kernel
theorem dX3_share_127 : decode cX3_share 127 = .ok (.iadd, 1) := by decide +kernel
theorem dX3_share_128 : decode cX3_share 128 = .ok (.iastore, 1) := by decide +kernel
theorem dX3_share_129 : decode cX3_share 129 = .ok (.iinc 4 (-1), 3) := by decide +kernel
theorem dX3_share_132 : decode cX3_share 132 = .ok (.iinc 5 1, 3) := by decide +kernel
theorem dX3_share_135 : decode cX3_share 135 = .ok (.goto (-41), 3) := by decide +kernel
theorem dX3_share_138 : decode cX3_share 138 = .ok (.return_, 1) := by decide +kernel
theorem dX3_findPercentages_0 : decode cX3_findPercentages 0 = .ok (.bipush 100, 2) := by decide +kernel
theorem dX3_findPercentages_2 : decode cX3_findPercentages 2 = .ok (.istore_n 1, 1) := by decide +kernel
theorem dX3_findPercentages_3 : decode cX3_findPercentages 3 = .ok (.iconst 0, 1) := by decide +kernel
theorem dX3_findPercentages_4 : decode cX3_findPercentages 4 = .ok (.istore_n 2, 1) := by decide +kernel
theorem dX3_findPercentages_5 : decode cX3_findPercentages 5 = .ok (.iload_n 2, 1) := by decide +kernel
theorem dX3_findPercentages_6 : decode cX3_findPercentages 6 = .ok (.aload_n 0, 1) := by decide +kernel
theorem dX3_findPercentages_7 : decode cX3_findPercentages 7 = .ok (.getfield 9, 3) := by decide +kernel
theorem dX3_findPercentages_10 : decode cX3_findPercentages 10 = .ok (.getfield 42, 3) := by decide +kernel
theorem dX3_findPercentages_13 : decode cX3_findPercentages 13 = .ok (.if_icmp .ge 64, 3) := by decide +kernel
theorem dX3_findPercentages_16 : decode cX3_findPercentages 16 = .ok (.aload_n 0, 1) := by decide +kernel
theorem dX3_findPercentages_17 : decode cX3_findPercentages 17 = .ok (.getfield 9, 3) := by decide +kernel
theorem dX3_findPercentages_20 : decode cX3_findPercentages 20 = .ok (.getfield 89, 3) := by decide +kernel
theorem dX3_findPercentages_23 : decode cX3_findPercentages 23 = .ok (.iload_n 2, 1) := by decide +kernel
theorem dX3_findPercentages_24 : decode cX3_findPercentages 24 = .ok (.iaload, 1) := by decide +kernel
theorem dX3_findPercentages_25 : decode cX3_findPercentages 25 = .ok (.iconst 2, 1) := by decide +kernel
theorem dX3_findPercentages_26 : decode cX3_findPercentages 26 = .ok (.if_icmp .ne 7, 3) := by decide +kernel
theorem dX3_findPercentages_29 : decode cX3_findPercentages 29 = .ok (.iconst 1, 1) := by decide +kernel
theorem dX3_findPercentages_30 : decode cX3_findPercentages 30 = .ok (.goto 4, 3) := by decide +kernel
theorem dX3_findPercentages_33 : decode cX3_findPercentages 33 = .ok (.iconst 0, 1) := by decide +kernel
theorem dX3_findPercentages_34 : decode cX3_findPercentages 34 = .ok (.istore_n 3, 1) := by decide +kernel
theorem dX3_findPercentages_35 : decode cX3_findPercentages 35 = .ok (.aload_n 0, 1) := by decide +kernel
theorem dX3_findPercentages_36 : decode cX3_findPercentages 36 = .ok (.getfield 22, 3) := by decide +kernel
theorem dX3_findPercentages_39 : decode cX3_findPercentages 39 = .ok (.iload_n 2, 1) := by decide +kernel
theorem dX3_findPercentages_40 : decode cX3_findPercentages 40 = .ok (.iload_n 3, 1) := by decide +kernel
theorem dX3_findPercentages_41 : decode cX3_findPercentages 41 = .ok (.ifCond .eq 19, 3) := by decide +kernel
theorem dX3_findPercentages_44 : decode cX3_findPercentages 44 = .ok (.aload_n 0, 1) := by decide +kernel
theorem dX3_findPercentages_45 : decode cX3_findPercentages 45 = .ok (.getfield 9, 3) := by decide +kernel
theorem dX3_findPercentages_48 : decode cX3_findPercentages 48 = .ok (.getfield 92, 3) := by decide +kernel
theorem dX3_findPercentages_51 : decode cX3_findPercentages 51 = .ok (.iload_n 2, 1) := by decide +kernel
theorem dX3_findPercentages_52 : decode cX3_findPercentages 52 = .ok (.iaload, 1) := by decide +kernel
theorem dX3_findPercentages_53 : decode cX3_findPercentages 53 = .ok (.iload_n 1, 1) := by decide +kernel
theorem dX3_findPercentages_54 : decode cX3_findPercentages 54 = .ok (.invokestatic 118, 3) := by decide +kernel
theorem dX3_findPercentages_57 : decode cX3_findPercentages 57 = .ok (.goto 4, 3) := by decide +kernel
theorem dX3_findPercentages_60 : decode cX3_findPercentages 60 = .ok (.iconst 0, 1) := by decide +kernel
theorem dX3_findPercentages_61 : decode cX3_findPercentages 61 = .ok (.iastore, 1) := by decide +kernel
theorem dX3_findPercentages_62 : decode cX3_findPercentages 62 = .ok (.iload_n 1, 1) := by decide +kernel
theorem dX3_findPercentages_63 : decode cX3_findPercentages 63 = .ok (.aload_n 0, 1) := by decide +kernel
theorem dX3_findPercentages_64 : decode cX3_findPercentages 64 = .ok (.getfield 22, 3) := by decide +kernel
theorem dX3_findPercentages_67 : decode cX3_findPercentages 67 = .ok (.iload_n 2, 1) := by decide +kernel
theorem dX3_findPercentages_68 : decode cX3_findPercentages 68 = .ok (.iaload, 1) := by decide +kernel
theorem dX3_findPercentages_69 : decode cX3_findPercentages 69 = .ok (.isub, 1) := by decide +kernel
theorem dX3_findPercentages_70 : decode cX3_findPercentages 70 = .ok (.istore_n 1, 1) := by decide +kernel
theorem dX3_findPercentages_71 : decode cX3_findPercentages 71 = .ok (.iinc 2 1, 3) := by decide +kernel
theorem dX3_findPercentages_74 : decode cX3_findPercentages 74 = .ok (.goto (-69), 3) := by decide +kernel
theorem dX3_findPercentages_77 : decode cX3_findPercentages 77 = .ok (.return_, 1) := by decide +kernel
theorem dX3_findGuesses_0 : decode cX3_findGuesses 0 = .ok (.aload_n 0, 1) := by decide +kernel
theorem dX3_findGuesses_1 : decode cX3_findGuesses 1 = .ok (.getfield 9, 3) := by decide +kernel
theorem dX3_findGuesses_4 : decode cX3_findGuesses 4 = .ok (.aload_n 0, 1) := by decide +kernel
theorem dX3_findGuesses_5 : decode cX3_findGuesses 5 = .ok (.getfield 9, 3) := by decide +kernel
theorem dX3_findGuesses_8 : decode cX3_findGuesses 8 = .ok (.getfield 121, 3) := by decide +kernel
theorem dX3_findGuesses_11 : decode cX3_findGuesses 11 = .ok (.invokevirtual 124, 3) := by decide +kernel
theorem dX3_findGuesses_14 : decode cX3_findGuesses 14 = .ok (.istore_n 1, 1) := by decide +kernel
theorem dX3_findGuesses_15 : decode cX3_findGuesses 15 = .ok (.iconst 0, 1) := by decide +kernel
theorem dX3_findGuesses_16 : decode cX3_findGuesses 16 = .ok (.istore_n 2, 1) := by decide +kernel
theorem dX3_findGuesses_17 : decode cX3_findGuesses 17 = .ok (.iload_n 2, 1) := by decide +kernel
theorem dX3_findGuesses_18 : decode cX3_findGuesses 18 = .ok (.aload_n 0, 1) := by decide +kernel
theorem dX3_findGuesses_19 : decode cX3_findGuesses 19 = .ok (.getfield 9, 3) := by decide +kernel
theorem dX3_findGuesses_22 : decode cX3_findGuesses 22 = .ok (.getfield 42, 3) := by decide +kernel
theorem dX3_findGuesses_25 : decode cX3_findGuesses 25 = .ok (.if_icmp .ge 144, 3) := by decide +kernel
theorem dX3_findGuesses_28 : decode cX3_findGuesses 28 = .ok (.aload_n 0, 1) := by decide +kernel
theorem dX3_findGuesses_29 : decode cX3_findGuesses 29 = .ok (.getfield 9, 3) := by decide +kernel
theorem dX3_findGuesses_32 : decode cX3_findGuesses 32 = .ok (.getfield 89, 3) := by decide +kernel
theorem dX3_findGuesses_35 : decode cX3_findGuesses 35 = .ok (.iload_n 2, 1) := by decide +kernel
theorem dX3_findGuesses_36 : decode cX3_findGuesses 36 = .ok (.iaload, 1) := by decide +kernel
theorem dX3_findGuesses_37 : decode cX3_findGuesses 37 = .ok (.istore_n 3, 1) := by decide +kernel
theorem dX3_findGuesses_38 : decode cX3_findGuesses 38 = .ok (.aload_n 0, 1) := by decide +kernel
theorem dX3_findGuesses_39 : decode cX3_findGuesses 39 = .ok (.getfield 15, 3) := by decide +kernel
theorem dX3_findGuesses_42 : decode cX3_findGuesses 42 = .ok (.iload_n 2, 1) := by decide +kernel
theorem dX3_findGuesses_43 : decode cX3_findGuesses 43 = .ok (.iaload, 1) := by decide +kernel
theorem dX3_findGuesses_44 : decode cX3_findGuesses 44 = .ok (.istore 4, 2) := by decide +kernel
theorem dX3_findGuesses_46 : decode cX3_findGuesses 46 = .ok (.iload_n 3, 1) := by decide +kernel
theorem dX3_findGuesses_47 : decode cX3_findGuesses 47 = .ok (.iconst 2, 1) := by decide +kernel
theorem dX3_findGuesses_48 : decode cX3_findGuesses 48 = .ok (.if_icmp .ne 17, 3) := by decide +kernel
theorem dX3_findGuesses_51 : decode cX3_findGuesses 51 = .ok (.iload_n 1, 1) := by decide +kernel
theorem dX3_findGuesses_52 : decode cX3_findGuesses 52 = .ok (.aload_n 0, 1) := by decide +kernel
theorem dX3_findGuesses_53 : decode cX3_findGuesses 53 = .ok (.getfield 22, 3) := by decide +kernel
theorem dX3_findGuesses_56 : decode cX3_findGuesses 56 = .ok (.iload_n 2, 1) := by decide +kernel
theorem dX3_findGuesses_57 : decode cX3_findGuesses 57 = .ok (.iaload, 1) := by decide +kernel
theorem dX3_findGuesses_58 : decode cX3_findGuesses 58 = .ok (.imul, 1) := by decide +kernel
theorem dX3_findGuesses_59 : decode cX3_findGuesses 59 = .ok (.bipush 100, 2) := by decide +kernel
theorem dX3_findGuesses_61 : decode cX3_findGuesses 61 = .ok (.idiv, 1) := by decide +kernel
theorem dX3_findGuesses_62 : decode cX3_findGuesses 62 = .ok (.goto 4, 3) := by decide +kernel
theorem dX3_findGuesses_65 : decode cX3_findGuesses 65 = .ok (.iconst 0, 1) := by decide +kernel
theorem dX3_findGuesses_66 : decode cX3_findGuesses 66 = .ok (.istore 5, 2) := by decide +kernel
theorem dX3_findGuesses_68 : decode cX3_findGuesses 68 = .ok (.iload_n 3, 1) := by decide +kernel
theorem dX3_findGuesses_69 : decode cX3_findGuesses 69 = .ok (.iconst 1, 1) := by decide +kernel
theorem dX3_findGuesses_70 : decode cX3_findGuesses 70 = .ok (.if_icmp .ne 15, 3) := by decide +kernel
theorem dX3_findGuesses_73 : decode cX3_findGuesses 73 = .ok (.aload_n 0, 1) := by decide +kernel
theorem dX3_findGuesses_74 : decode cX3_findGuesses 74 = .ok (.getfield 9, 3) := by decide +kernel
theorem dX3_findGuesses_77 : decode cX3_findGuesses 77 = .ok (.getfield 92, 3) := by decide +kernel
theorem dX3_findGuesses_80 : decode cX3_findGuesses 80 = .ok (.iload_n 2, 1) := by decide +kernel
theorem dX3_findGuesses_81 : decode cX3_findGuesses 81 = .ok (.iaload, 1) := by decide +kernel
theorem dX3_findGuesses_82 : decode cX3_findGuesses 82 = .ok (.goto 4, 3) := by decide +kernel
theorem dX3_findGuesses_85 : decode cX3_findGuesses 85 = .ok (.iconst 0, 1) := by decide +kernel
theorem dX3_findGuesses_86 : decode cX3_findGuesses 86 = .ok (.istore 6, 2) := by decide +kernel
theorem dX3_findGuesses_88 : decode cX3_findGuesses 88 = .ok (.aload_n 0, 1) := by decide +kernel
theorem dX3_findGuesses_89 : decode cX3_findGuesses 89 = .ok (.getfield 27, 3) := by decide +kernel
theorem dX3_findGuesses_92 : decode cX3_findGuesses 92 = .ok (.iconst 0, 1) := by decide +kernel
theorem dX3_findGuesses_93 : decode cX3_findGuesses 93 = .ok (.aaload, 1) := by decide +kernel
theorem dX3_findGuesses_94 : decode cX3_findGuesses 94 = .ok (.iload_n 2, 1) := by decide +kernel
theorem dX3_findGuesses_95 : decode cX3_findGuesses 95 = .ok (.iload 4, 2) := by decide +kernel
theorem dX3_findGuesses_97 : decode cX3_findGuesses 97 = .ok (.iastore, 1) := by decide +kernel
theorem dX3_findGuesses_98 : decode cX3_findGuesses 98 = .ok (.aload_n 0, 1) := by decide +kernel
theorem dX3_findGuesses_99 : decode cX3_findGuesses 99 = .ok (.getfield 27, 3) := by decide +kernel
theorem dX3_findGuesses_102 : decode cX3_findGuesses 102 = .ok (.iconst 1, 1) := by decide +kernel
theorem dX3_findGuesses_103 : decode cX3_findGuesses 103 = .ok (.aaload, 1) := by decide +kernel
theorem dX3_findGuesses_104 : decode cX3_findGuesses 104 = .ok (.iload_n 2, 1) := by decide +kernel
theorem dX3_findGuesses_105 : decode cX3_findGuesses 105 = .ok (.iload 4, 2) := by decide +kernel
theorem dX3_findGuesses_107 : decode cX3_findGuesses 107 = .ok (.iload 5, 2) := by decide +kernel
theorem dX3_findGuesses_109 : decode cX3_findGuesses 109 = .ok (.invokestatic 80, 3) := by decide +kernel
theorem dX3_findGuesses_112 : decode cX3_findGuesses 112 = .ok (.iastore, 1) := by decide +kernel
theorem dX3_findGuesses_113 : decode cX3_findGuesses 113 = .ok (.aload_n 0, 1) := by decide +kernel
theorem dX3_findGuesses_114 : decode cX3_findGuesses 114 = .ok (.getfield 27, 3) := by decide +kernel
theorem dX3_findGuesses_117 : decode cX3_findGuesses 117 = .ok (.iconst 2, 1) := by decide +kernel
theorem dX3_findGuesses_118 : decode cX3_findGuesses 118 = .ok (.aaload, 1) := by decide +kernel
theorem dX3_findGuesses_119 : decode cX3_findGuesses 119 = .ok (.iload_n 2, 1) := by decide +kernel
theorem dX3_findGuesses_120 : decode cX3_findGuesses 120 = .ok (.aload_n 0, 1) := by decide +kernel
theorem dX3_findGuesses_121 : decode cX3_findGuesses 121 = .ok (.getfield 27, 3) := by decide +kernel
theorem dX3_findGuesses_124 : decode cX3_findGuesses 124 = .ok (.iconst 1, 1) := by decide +kernel
theorem dX3_findGuesses_125 : decode cX3_findGuesses 125 = .ok (.aaload, 1) := by decide +kernel
theorem dX3_findGuesses_126 : decode cX3_findGuesses 126 = .ok (.iload_n 2, 1) := by decide +kernel
theorem dX3_findGuesses_127 : decode cX3_findGuesses 127 = .ok (.iaload, 1) := by decide +kernel
theorem dX3_findGuesses_128 : decode cX3_findGuesses 128 = .ok (.iload 6, 2) := by decide +kernel
theorem dX3_findGuesses_130 : decode cX3_findGuesses 130 = .ok (.invokestatic 80, 3) := by decide +kernel
theorem dX3_findGuesses_133 : decode cX3_findGuesses 133 = .ok (.iastore, 1) := by decide +kernel
theorem dX3_findGuesses_134 : decode cX3_findGuesses 134 = .ok (.aload_n 0, 1) := by decide +kernel
theorem dX3_findGuesses_135 : decode cX3_findGuesses 135 = .ok (.getfield 27, 3) := by decide +kernel
theorem dX3_findGuesses_138 : decode cX3_findGuesses 138 = .ok (.iconst 3, 1) := by decide +kernel
theorem dX3_findGuesses_139 : decode cX3_findGuesses 139 = .ok (.aaload, 1) := by decide +kernel
theorem dX3_findGuesses_140 : decode cX3_findGuesses 140 = .ok (.iload_n 2, 1) := by decide +kernel
theorem dX3_findGuesses_141 : decode cX3_findGuesses 141 = .ok (.iload_n 3, 1) := by decide +kernel
theorem dX3_findGuesses_142 : decode cX3_findGuesses 142 = .ok (.ifCond .ne 12, 3) := by decide +kernel
theorem dX3_findGuesses_145 : decode cX3_findGuesses 145 = .ok (.aload_n 0, 1) := by decide +kernel
theorem dX3_findGuesses_146 : decode cX3_findGuesses 146 = .ok (.getfield 19, 3) := by decide +kernel
theorem dX3_findGuesses_149 : decode cX3_findGuesses 149 = .ok (.iload_n 2, 1) := by decide +kernel
theorem dX3_findGuesses_150 : decode cX3_findGuesses 150 = .ok (.iaload, 1) := by decide +kernel
theorem dX3_findGuesses_151 : decode cX3_findGuesses 151 = .ok (.goto 11, 3) := by decide +kernel
theorem dX3_findGuesses_154 : decode cX3_findGuesses 154 = .ok (.aload_n 0, 1) := by decide +kernel
theorem dX3_findGuesses_155 : decode cX3_findGuesses 155 = .ok (.getfield 27, 3) := by decide +kernel
theorem dX3_findGuesses_158 : decode cX3_findGuesses 158 = .ok (.iconst 2, 1) := by decide +kernel
theorem dX3_findGuesses_159 : decode cX3_findGuesses 159 = .ok (.aaload, 1) := by decide +kernel
theorem dX3_findGuesses_160 : decode cX3_findGuesses 160 = .ok (.iload_n 2, 1) := by decide +kernel
theorem dX3_findGuesses_161 : decode cX3_findGuesses 161 = .ok (.iaload, 1) := by decide +kernel
theorem dX3_findGuesses_162 : decode cX3_findGuesses 162 = .ok (.iastore, 1) := by decide +kernel
theorem dX3_findGuesses_163 : decode cX3_findGuesses 163 = .ok (.iinc 2 1, 3) := by decide +kernel
theorem dX3_findGuesses_166 : decode cX3_findGuesses 166 = .ok (.goto (-149), 3) := by decide +kernel
theorem dX3_findGuesses_169 : decode cX3_findGuesses 169 = .ok (.iconst 0, 1) := by decide +kernel
theorem dX3_findGuesses_170 : decode cX3_findGuesses 170 = .ok (.istore_n 2, 1) := by decide +kernel
theorem dX3_findGuesses_171 : decode cX3_findGuesses 171 = .ok (.iload_n 2, 1) := by decide +kernel
theorem dX3_findGuesses_172 : decode cX3_findGuesses 172 = .ok (.iconst 4, 1) := by decide +kernel
theorem dX3_findGuesses_173 : decode cX3_findGuesses 173 = .ok (.if_icmp .ge 52, 3) := by decide +kernel
theorem dX3_findGuesses_176 : decode cX3_findGuesses 176 = .ok (.aload_n 0, 1) := by decide +kernel
theorem dX3_findGuesses_177 : decode cX3_findGuesses 177 = .ok (.getfield 30, 3) := by decide +kernel
theorem dX3_findGuesses_180 : decode cX3_findGuesses 180 = .ok (.iload_n 2, 1) := by decide +kernel
theorem dX3_findGuesses_181 : decode cX3_findGuesses 181 = .ok (.iconst 0, 1) := by decide +kernel
theorem dX3_findGuesses_182 : decode cX3_findGuesses 182 = .ok (.iastore, 1) := by decide +kernel
theorem dX3_findGuesses_183 : decode cX3_findGuesses 183 = .ok (.iconst 0, 1) := by decide +kernel
theorem dX3_findGuesses_184 : decode cX3_findGuesses 184 = .ok (.istore_n 3, 1) := by decide +kernel
theorem dX3_findGuesses_185 : decode cX3_findGuesses 185 = .ok (.iload_n 3, 1) := by decide +kernel
theorem dX3_findGuesses_186 : decode cX3_findGuesses 186 = .ok (.aload_n 0, 1) := by decide +kernel
theorem dX3_findGuesses_187 : decode cX3_findGuesses 187 = .ok (.getfield 9, 3) := by decide +kernel
theorem dX3_findGuesses_190 : decode cX3_findGuesses 190 = .ok (.getfield 42, 3) := by decide +kernel
theorem dX3_findGuesses_193 : decode cX3_findGuesses 193 = .ok (.if_icmp .ge 26, 3) := by decide +kernel
theorem dX3_findGuesses_196 : decode cX3_findGuesses 196 = .ok (.aload_n 0, 1) := by decide +kernel
theorem dX3_findGuesses_197 : decode cX3_findGuesses 197 = .ok (.getfield 30, 3) := by decide +kernel
theorem dX3_findGuesses_200 : decode cX3_findGuesses 200 = .ok (.iload_n 2, 1) := by decide +kernel
theorem dX3_findGuesses_201 : decode cX3_findGuesses 201 = .ok (.dup2, 1) := by decide +kernel
theorem dX3_findGuesses_202 : decode cX3_findGuesses 202 = .ok (.iaload, 1) := by decide +kernel
theorem dX3_findGuesses_203 : decode cX3_findGuesses 203 = .ok (.aload_n 0, 1) := by decide +kernel
theorem dX3_findGuesses_204 : decode cX3_findGuesses 204 = .ok (.getfield 27, 3) := by decide +kernel
theorem dX3_findGuesses_207 : decode cX3_findGuesses 207 = .ok (.iload_n 2, 1) := by decide +kernel
theorem dX3_findGuesses_208 : decode cX3_findGuesses 208 = .ok (.aaload, 1) := by decide +kernel
theorem dX3_findGuesses_209 : decode cX3_findGuesses 209 = .ok (.iload_n 3, 1) := by decide +kernel
theorem dX3_findGuesses_210 : decode cX3_findGuesses 210 = .ok (.iaload, 1) := by decide +kernel
theorem dX3_findGuesses_211 : decode cX3_findGuesses 211 = .ok (.iadd, 1) := by decide +kernel
theorem dX3_findGuesses_212 : decode cX3_findGuesses 212 = .ok (.iastore, 1) := by decide +kernel
theorem dX3_findGuesses_213 : decode cX3_findGuesses 213 = .ok (.iinc 3 1, 3) := by decide +kernel
theorem dX3_findGuesses_216 : decode cX3_findGuesses 216 = .ok (.goto (-31), 3) := by decide +kernel
theorem dX3_findGuesses_219 : decode cX3_findGuesses 219 = .ok (.iinc 2 1, 3) := by decide +kernel
theorem dX3_findGuesses_222 : decode cX3_findGuesses 222 = .ok (.goto (-51), 3) := by decide +kernel
theorem dX3_findGuesses_225 : decode cX3_findGuesses 225 = .ok (.return_, 1) := by decide +kernel
theorem dX3_findAutomatic_0 : decode cX3_findAutomatic 0 = .ok (.aload_n 0, 1) := by decide +kernel
theorem dX3_findAutomatic_1 : decode cX3_findAutomatic 1 = .ok (.getfield 9, 3) := by decide +kernel
theorem dX3_findAutomatic_4 : decode cX3_findAutomatic 4 = .ok (.aload_n 0, 1) := by decide +kernel
theorem dX3_findAutomatic_5 : decode cX3_findAutomatic 5 = .ok (.getfield 9, 3) := by decide +kernel
theorem dX3_findAutomatic_8 : decode cX3_findAutomatic 8 = .ok (.getfield 121, 3) := by decide +kernel
theorem dX3_findAutomatic_11 : decode cX3_findAutomatic 11 = .ok (.invokevirtual 124, 3) := by decide +kernel
theorem dX3_findAutomatic_14 : decode cX3_findAutomatic 14 = .ok (.istore_n 1, 1) := by decide +kernel
theorem dX3_findAutomatic_15 : decode cX3_findAutomatic 15 = .ok (.aload_n 0, 1) := by decide +kernel
theorem dX3_findAutomatic_16 : decode cX3_findAutomatic 16 = .ok (.iload_n 1, 1) := by decide +kernel
theorem dX3_findAutomatic_17 : decode cX3_findAutomatic 17 = .ok (.aload_n 0, 1) := by decide +kernel
theorem dX3_findAutomatic_18 : decode cX3_findAutomatic 18 = .ok (.getfield 30, 3) := by decide +kernel
theorem dX3_findAutomatic_21 : decode cX3_findAutomatic 21 = .ok (.iconst 0, 1) := by decide +kernel
theorem dX3_findAutomatic_22 : decode cX3_findAutomatic 22 = .ok (.iaload, 1) := by decide +kernel
theorem dX3_findAutomatic_23 : decode cX3_findAutomatic 23 = .ok (.if_icmp .lt 7, 3) := by decide +kernel
theorem dX3_findAutomatic_26 : decode cX3_findAutomatic 26 = .ok (.iconst 1, 1) := by decide +kernel
theorem dX3_findAutomatic_27 : decode cX3_findAutomatic 27 = .ok (.goto 4, 3) := by decide +kernel
theorem dX3_findAutomatic_30 : decode cX3_findAutomatic 30 = .ok (.iconst 0, 1) := by decide +kernel
theorem dX3_findAutomatic_31 : decode cX3_findAutomatic 31 = .ok (.putfield 128, 3) := by decide +kernel
theorem dX3_findAutomatic_34 : decode cX3_findAutomatic 34 = .ok (.iconst 0, 1) := by decide +kernel
theorem dX3_findAutomatic_35 : decode cX3_findAutomatic 35 = .ok (.istore_n 2, 1) := by decide +kernel
theorem dX3_findAutomatic_36 : decode cX3_findAutomatic 36 = .ok (.iconst 1, 1) := by decide +kernel
theorem dX3_findAutomatic_37 : decode cX3_findAutomatic 37 = .ok (.istore_n 3, 1) := by decide +kernel
theorem dX3_findAutomatic_38 : decode cX3_findAutomatic 38 = .ok (.iload_n 3, 1) := by decide +kernel
theorem dX3_findAutomatic_39 : decode cX3_findAutomatic 39 = .ok (.iconst 4, 1) := by decide +kernel
theorem dX3_findAutomatic_40 : decode cX3_findAutomatic 40 = .ok (.if_icmp .ge 21, 3) := by decide +kernel
theorem dX3_findAutomatic_43 : decode cX3_findAutomatic 43 = .ok (.aload_n 0, 1) := by decide +kernel
theorem dX3_findAutomatic_44 : decode cX3_findAutomatic 44 = .ok (.getfield 30, 3) := by decide +kernel
theorem dX3_findAutomatic_47 : decode cX3_findAutomatic 47 = .ok (.iload_n 3, 1) := by decide +kernel
theorem dX3_findAutomatic_48 : decode cX3_findAutomatic 48 = .ok (.iaload, 1) := by decide +kernel
theorem dX3_findAutomatic_49 : decode cX3_findAutomatic 49 = .ok (.iload_n 1, 1) := by decide +kernel
theorem dX3_findAutomatic_50 : decode cX3_findAutomatic 50 = .ok (.if_icmp .gt 5, 3) := by decide +kernel
theorem dX3_findAutomatic_53 : decode cX3_findAutomatic 53 = .ok (.iload_n 3, 1) := by decide +kernel
theorem dX3_findAutomatic_54 : decode cX3_findAutomatic 54 = .ok (.istore_n 2, 1) := by decide +kernel
theorem dX3_findAutomatic_55 : decode cX3_findAutomatic 55 = .ok (.iinc 3 1, 3) := by decide +kernel
theorem dX3_findAutomatic_58 : decode cX3_findAutomatic 58 = .ok (.goto (-20), 3) := by decide +kernel
theorem dX3_findAutomatic_61 : decode cX3_findAutomatic 61 = .ok (.iconst 0, 1) := by decide +kernel
theorem dX3_findAutomatic_62 : decode cX3_findAutomatic 62 = .ok (.istore_n 3, 1) := by decide +kernel
theorem dX3_findAutomatic_63 : decode cX3_findAutomatic 63 = .ok (.iload_n 3, 1) := by decide +kernel
theorem dX3_findAutomatic_64 : decode cX3_findAutomatic 64 = .ok (.aload_n 0, 1) := by decide +kernel
theorem dX3_findAutomatic_65 : decode cX3_findAutomatic 65 = .ok (.getfield 9, 3) := by decide +kernel
theorem dX3_findAutomatic_68 : decode cX3_findAutomatic 68 = .ok (.getfield 42, 3) := by decide +kernel
theorem dX3_findAutomatic_71 : decode cX3_findAutomatic 71 = .ok (.if_icmp .ge 23, 3) := by decide +kernel
theorem dX3_findAutomatic_74 : decode cX3_findAutomatic 74 = .ok (.aload_n 0, 1) := by decide +kernel
theorem dX3_findAutomatic_75 : decode cX3_findAutomatic 75 = .ok (.getfield 33, 3) := by decide +kernel
theorem dX3_findAutomatic_78 : decode cX3_findAutomatic 78 = .ok (.iload_n 3, 1) := by decide +kernel
theorem dX3_findAutomatic_79 : decode cX3_findAutomatic 79 = .ok (.aload_n 0, 1) := by decide +kernel
theorem dX3_findAutomatic_80 : decode cX3_findAutomatic 80 = .ok (.getfield 27, 3) := by decide +kernel
theorem dX3_findAutomatic_83 : decode cX3_findAutomatic 83 = .ok (.iload_n 2, 1) := by decide +kernel
theorem dX3_findAutomatic_84 : decode cX3_findAutomatic 84 = .ok (.aaload, 1) := by decide +kernel
theorem dX3_findAutomatic_85 : decode cX3_findAutomatic 85 = .ok (.iload_n 3, 1) := by decide +kernel
theorem dX3_findAutomatic_86 : decode cX3_findAutomatic 86 = .ok (.iaload, 1) := by decide +kernel
theorem dX3_findAutomatic_87 : decode cX3_findAutomatic 87 = .ok (.iastore, 1) := by decide +kernel
theorem dX3_findAutomatic_88 : decode cX3_findAutomatic 88 = .ok (.iinc 3 1, 3) := by decide +kernel
theorem dX3_findAutomatic_91 : decode cX3_findAutomatic 91 = .ok (.goto (-28), 3) := by decide +kernel
theorem dX3_findAutomatic_94 : decode cX3_findAutomatic 94 = .ok (.aload_n 0, 1) := by decide +kernel
theorem dX3_findAutomatic_95 : decode cX3_findAutomatic 95 = .ok (.getfield 30, 3) := by decide +kernel
theorem dX3_findAutomatic_98 : decode cX3_findAutomatic 98 = .ok (.iload_n 2, 1) := by decide +kernel
theorem dX3_findAutomatic_99 : decode cX3_findAutomatic 99 = .ok (.iaload, 1) := by decide +kernel
theorem dX3_findAutomatic_100 : decode cX3_findAutomatic 100 = .ok (.iload_n 1, 1) := by decide +kernel
theorem dX3_findAutomatic_101 : decode cX3_findAutomatic 101 = .ok (.if_icmp .ge 24, 3) := by decide +kernel
theorem dX3_findAutomatic_104 : decode cX3_findAutomatic 104 = .ok (.aload_n 0, 1) := by decide +kernel
theorem dX3_findAutomatic_105 : decode cX3_findAutomatic 105 = .ok (.iload_n 2, 1) := by decide +kernel
theorem dX3_findAutomatic_106 : decode cX3_findAutomatic 106 = .ok (.invokevirtual 132, 3) := by decide +kernel
theorem dX3_findAutomatic_109 : decode cX3_findAutomatic 109 = .ok (.aload_n 0, 1) := by decide +kernel
theorem dX3_findAutomatic_110 : decode cX3_findAutomatic 110 = .ok (.iload_n 1, 1) := by decide +kernel
theorem dX3_findAutomatic_111 : decode cX3_findAutomatic 111 = .ok (.aload_n 0, 1) := by decide +kernel
theorem dX3_findAutomatic_112 : decode cX3_findAutomatic 112 = .ok (.getfield 30, 3) := by decide +kernel
theorem dX3_findAutomatic_115 : decode cX3_findAutomatic 115 = .ok (.iload_n 2, 1) := by decide +kernel
theorem dX3_findAutomatic_116 : decode cX3_findAutomatic 116 = .ok (.iaload, 1) := by decide +kernel
theorem dX3_findAutomatic_117 : decode cX3_findAutomatic 117 = .ok (.isub, 1) := by decide +kernel
theorem dX3_findAutomatic_118 : decode cX3_findAutomatic 118 = .ok (.aload_n 0, 1) := by decide +kernel
theorem dX3_findAutomatic_119 : decode cX3_findAutomatic 119 = .ok (.getfield 33, 3) := by decide +kernel
theorem dX3_findAutomatic_122 : decode cX3_findAutomatic 122 = .ok (.invokevirtual 110, 3) := by decide +kernel
theorem dX3_findAutomatic_125 : decode cX3_findAutomatic 125 = .ok (.return_, 1) := by decide +kernel
theorem dX3_weighRest_0 : decode cX3_weighRest 0 = .ok (.iconst 2, 1) := by decide +kernel
theorem dX3_weighRest_1 : decode cX3_weighRest 1 = .ok (.istore_n 2, 1) := by decide +kernel
theorem dX3_weighRest_2 : decode cX3_weighRest 2 = .ok (.iconst 0, 1) := by decide +kernel
theorem dX3_weighRest_3 : decode cX3_weighRest 3 = .ok (.istore_n 3, 1) := by decide +kernel
theorem dX3_weighRest_4 : decode cX3_weighRest 4 = .ok (.iload_n 3, 1) := by decide +kernel
theorem dX3_weighRest_5 : decode cX3_weighRest 5 = .ok (.aload_n 0, 1) := by decide +kernel
theorem dX3_weighRest_6 : decode cX3_weighRest 6 = .ok (.getfield 9, 3) := by decide +kernel
theorem dX3_weighRest_9 : decode cX3_weighRest 9 = .ok (.getfield 42, 3) := by decide +kernel
theorem dX3_weighRest_12 : decode cX3_weighRest 12 = .ok (.if_icmp .ge 23, 3) := by decide +kernel
theorem dX3_weighRest_15 : decode cX3_weighRest 15 = .ok (.iload_n 2, 1) := by decide +kernel
theorem dX3_weighRest_16 : decode cX3_weighRest 16 = .ok (.aload_n 0, 1) := by decide +kernel
theorem dX3_weighRest_17 : decode cX3_weighRest 17 = .ok (.getfield 9, 3) := by decide +kernel
theorem dX3_weighRest_20 : decode cX3_weighRest 20 = .ok (.getfield 89, 3) := by decide +kernel
theorem dX3_weighRest_23 : decode cX3_weighRest 23 = .ok (.iload_n 3, 1) := by decide +kernel
theorem dX3_weighRest_24 : decode cX3_weighRest 24 = .ok (.iaload, 1) := by decide +kernel
theorem dX3_weighRest_25 : decode cX3_weighRest 25 = .ok (.invokestatic 118, 3) := by decide +kernel
theorem dX3_weighRest_28 : decode cX3_weighRest 28 = .ok (.istore_n 2, 1) := by decide +kernel
theorem dX3_weighRest_29 : decode cX3_weighRest 29 = .ok (.iinc 3 1, 3) := by decide +kernel
theorem dX3_weighRest_32 : decode cX3_weighRest 32 = .ok (.goto (-28), 3) := by decide +kernel
theorem dX3_weighRest_35 : decode cX3_weighRest 35 = .ok (.iconst 0, 1) := by decide +kernel
theorem dX3_weighRest_36 : decode cX3_weighRest 36 = .ok (.istore_n 3, 1) := by decide +kernel
theorem dX3_weighRest_37 : decode cX3_weighRest 37 = .ok (.iload_n 3, 1) := by decide +kernel
theorem dX3_weighRest_38 : decode cX3_weighRest 38 = .ok (.aload_n 0, 1) := by decide +kernel
theorem dX3_weighRest_39 : decode cX3_weighRest 39 = .ok (.getfield 9, 3) := by decide +kernel
theorem dX3_weighRest_42 : decode cX3_weighRest 42 = .ok (.getfield 42, 3) := by decide +kernel
theorem dX3_weighRest_45 : decode cX3_weighRest 45 = .ok (.if_icmp .ge 95, 3) := by decide +kernel
theorem dX3_weighRest_48 : decode cX3_weighRest 48 = .ok (.iload_n 1, 1) := by decide +kernel
theorem dX3_weighRest_49 : decode cX3_weighRest 49 = .ok (.iconst 3, 1) := by decide +kernel
theorem dX3_weighRest_50 : decode cX3_weighRest 50 = .ok (.if_icmp .ge 31, 3) := by decide +kernel
theorem dX3_weighRest_53 : decode cX3_weighRest 53 = .ok (.aload_n 0, 1) := by decide +kernel
theorem dX3_weighRest_54 : decode cX3_weighRest 54 = .ok (.getfield 36, 3) := by decide +kernel
theorem dX3_weighRest_57 : decode cX3_weighRest 57 = .ok (.iload_n 3, 1) := by decide +kernel
theorem dX3_weighRest_58 : decode cX3_weighRest 58 = .ok (.aload_n 0, 1) := by decide +kernel
theorem dX3_weighRest_59 : decode cX3_weighRest 59 = .ok (.getfield 27, 3) := by decide +kernel
theorem dX3_weighRest_62 : decode cX3_weighRest 62 = .ok (.iload_n 1, 1) := by decide +kernel
theorem dX3_weighRest_63 : decode cX3_weighRest 63 = .ok (.iconst 1, 1) := by decide +kernel
theorem dX3_weighRest_64 : decode cX3_weighRest 64 = .ok (.iadd, 1) := by decide +kernel
theorem dX3_weighRest_65 : decode cX3_weighRest 65 = .ok (.aaload, 1) := by decide +kernel
theorem dX3_weighRest_66 : decode cX3_weighRest 66 = .ok (.iload_n 3, 1) := by decide +kernel
theorem dX3_weighRest_67 : decode cX3_weighRest 67 = .ok (.iaload, 1) := by decide +kernel
theorem dX3_weighRest_68 : decode cX3_weighRest 68 = .ok (.aload_n 0, 1) := by decide +kernel
theorem dX3_weighRest_69 : decode cX3_weighRest 69 = .ok (.getfield 27, 3) := by decide +kernel
theorem dX3_weighRest_72 : decode cX3_weighRest 72 = .ok (.iload_n 1, 1) := by decide +kernel
theorem dX3_weighRest_73 : decode cX3_weighRest 73 = .ok (.aaload, 1) := by decide +kernel
theorem dX3_weighRest_74 : decode cX3_weighRest 74 = .ok (.iload_n 3, 1) := by decide +kernel
theorem dX3_weighRest_75 : decode cX3_weighRest 75 = .ok (.iaload, 1) := by decide +kernel
theorem dX3_weighRest_76 : decode cX3_weighRest 76 = .ok (.isub, 1) := by decide +kernel
theorem dX3_weighRest_77 : decode cX3_weighRest 77 = .ok (.iastore, 1) := by decide +kernel
theorem dX3_weighRest_78 : decode cX3_weighRest 78 = .ok (.goto 56, 3) := by decide +kernel
theorem dX3_weighRest_81 : decode cX3_weighRest 81 = .ok (.iload_n 2, 1) := by decide +kernel
theorem dX3_weighRest_82 : decode cX3_weighRest 82 = .ok (.iconst 2, 1) := by decide +kernel
theorem dX3_weighRest_83 : decode cX3_weighRest 83 = .ok (.if_icmp .ne 20, 3) := by decide +kernel
theorem dX3_weighRest_86 : decode cX3_weighRest 86 = .ok (.aload_n 0, 1) := by decide +kernel
theorem dX3_weighRest_87 : decode cX3_weighRest 87 = .ok (.getfield 36, 3) := by decide +kernel
theorem dX3_weighRest_90 : decode cX3_weighRest 90 = .ok (.iload_n 3, 1) := by decide +kernel
theorem dX3_weighRest_91 : decode cX3_weighRest 91 = .ok (.aload_n 0, 1) := by decide +kernel
theorem dX3_weighRest_92 : decode cX3_weighRest 92 = .ok (.getfield 22, 3) := by decide +kernel
theorem dX3_weighRest_95 : decode cX3_weighRest 95 = .ok (.iload_n 3, 1) := by decide +kernel
theorem dX3_weighRest_96 : decode cX3_weighRest 96 = .ok (.iaload, 1) := by decide +kernel
theorem dX3_weighRest_97 : decode cX3_weighRest 97 = .ok (.iconst 1, 1) := by decide +kernel
theorem dX3_weighRest_98 : decode cX3_weighRest 98 = .ok (.iadd, 1) := by decide +kernel
theorem dX3_weighRest_99 : decode cX3_weighRest 99 = .ok (.iastore, 1) := by decide +kernel
theorem dX3_weighRest_100 : decode cX3_weighRest 100 = .ok (.goto 34, 3) := by decide +kernel
theorem dX3_weighRest_103 : decode cX3_weighRest 103 = .ok (.aload_n 0, 1) := by decide +kernel
theorem dX3_weighRest_104 : decode cX3_weighRest 104 = .ok (.getfield 36, 3) := by decide +kernel
theorem dX3_weighRest_107 : decode cX3_weighRest 107 = .ok (.iload_n 3, 1) := by decide +kernel
theorem dX3_weighRest_108 : decode cX3_weighRest 108 = .ok (.aload_n 0, 1) := by decide +kernel
theorem dX3_weighRest_109 : decode cX3_weighRest 109 = .ok (.getfield 9, 3) := by decide +kernel
theorem dX3_weighRest_112 : decode cX3_weighRest 112 = .ok (.getfield 89, 3) := by decide +kernel
theorem dX3_weighRest_115 : decode cX3_weighRest 115 = .ok (.iload_n 3, 1) := by decide +kernel
theorem dX3_weighRest_116 : decode cX3_weighRest 116 = .ok (.iaload, 1) := by decide +kernel
theorem dX3_weighRest_117 : decode cX3_weighRest 117 = .ok (.iload_n 2, 1) := by decide +kernel
theorem dX3_weighRest_118 : decode cX3_weighRest 118 = .ok (.if_icmp .ne 14, 3) := by decide +kernel
theorem dX3_weighRest_121 : decode cX3_weighRest 121 = .ok (.aload_n 0, 1) := by decide +kernel
theorem dX3_weighRest_122 : decode cX3_weighRest 122 = .ok (.getfield 27, 3) := by decide +kernel
theorem dX3_weighRest_125 : decode cX3_weighRest 125 = .ok (.iconst 3, 1) := by decide +kernel
theorem dX3_weighRest_126 : decode cX3_weighRest 126 = .ok (.aaload, 1) := by decide +kernel
theorem dX3_weighRest_127 : decode cX3_weighRest 127 = .ok (.iload_n 3, 1) := by decide +kernel
theorem dX3_weighRest_128 : decode cX3_weighRest 128 = .ok (.iaload, 1) := by decide +kernel
theorem dX3_weighRest_129 : decode cX3_weighRest 129 = .ok (.goto 4, 3) := by decide +kernel
theorem dX3_weighRest_132 : decode cX3_weighRest 132 = .ok (.iconst 0, 1) := by decide +kernel
theorem dX3_weighRest_133 : decode cX3_weighRest 133 = .ok (.iastore, 1) := by decide +kernel
theorem dX3_weighRest_134 : decode cX3_weighRest 134 = .ok (.iinc 3 1, 3) := by decide +kernel
theorem dX3_weighRest_137 : decode cX3_weighRest 137 = .ok (.goto (-100), 3) := by decide +kernel
theorem dX3_weighRest_140 : decode cX3_weighRest 140 = .ok (.return_, 1) := by decide +kernel
theorem dX4_init_0 : decode cX4_init 0 = .ok (.aload_n 0, 1) := by decide +kernel
theorem dX4_init_1 : decode cX4_init 1 = .ok (.invokespecial 3, 3) := by decide +kernel
theorem dX4_init_4 : decode cX4_init 4 = .ok (.aload_n 0, 1) := by decide +kernel
theorem dX4_init_5 : decode cX4_init 5 = .ok (.bipush 12, 2) := by decide +kernel
theorem dX4_init_7 : decode cX4_init 7 = .ok (.newarray .int, 2) := by decide +kernel
theorem dX4_init_9 : decode cX4_init 9 = .ok (.putfield 9, 3) := by decide +kernel
theorem dX4_init_12 : decode cX4_init 12 = .ok (.aload_n 0, 1) := by decide +kernel
theorem dX4_init_13 : decode cX4_init 13 = .ok (.bipush 12, 2) := by decide +kernel
theorem dX4_init_15 : decode cX4_init 15 = .ok (.newarray .int, 2) := by decide +kernel
theorem dX4_init_17 : decode cX4_init 17 = .ok (.putfield 15, 3) := by decide +kernel
theorem dX4_init_20 : decode cX4_init 20 = .ok (.aload_n 0, 1) := by decide +kernel
theorem dX4_init_21 : decode cX4_init 21 = .ok (.bipush 12, 2) := by decide +kernel
theorem dX4_init_23 : decode cX4_init 23 = .ok (.newarray .int, 2) := by decide +kernel
theorem dX4_init_25 : decode cX4_init 25 = .ok (.putfield 18, 3) := by decide +kernel
theorem dX4_init_28 : decode cX4_init 28 = .ok (.aload_n 0, 1) := by decide +kernel
theorem dX4_init_29 : decode cX4_init 29 = .ok (.bipush 12, 2) := by decide +kernel
theorem dX4_init_31 : decode cX4_init 31 = .ok (.newarray .int, 2) := by decide +kernel
theorem dX4_init_33 : decode cX4_init 33 = .ok (.putfield 21, 3) := by decide +kernel
theorem dX4_init_36 : decode cX4_init 36 = .ok (.aload_n 0, 1) := by decide +kernel
theorem dX4_init_37 : decode cX4_init 37 = .ok (.bipush 12, 2) := by decide +kernel
theorem dX4_init_39 : decode cX4_init 39 = .ok (.newarray .boolean, 2) := by decide +kernel
theorem dX4_init_41 : decode cX4_init 41 = .ok (.putfield 24, 3) := by decide +kernel
theorem dX4_init_44 : decode cX4_init 44 = .ok (.aload_n 0, 1) := by decide +kernel
theorem dX4_init_45 : decode cX4_init 45 = .ok (.bipush 12, 2) := by decide +kernel
theorem dX4_init_47 : decode cX4_init 47 = .ok (.newarray .int, 2) := by decide +kernel
theorem dX4_init_49 : decode cX4_init 49 = .ok (.putfield 28, 3) := by decide +kernel
theorem dX4_init_52 : decode cX4_init 52 = .ok (.aload_n 0, 1) := by decide +kernel
theorem dX4_init_53 : decode cX4_init 53 = .ok (.bipush 37, 2) := by decide +kernel
theorem dX4_init_55 : decode cX4_init 55 = .ok (.newarray .int, 2) := by decide +kernel
theorem dX4_init_57 : decode cX4_init 57 = .ok (.putfield 31, 3) := by decide +kernel
theorem dX4_init_60 : decode cX4_init 60 = .ok (.return_, 1) := by decide +kernel
theorem dX4_begin_0 : decode cX4_begin 0 = .ok (.aload_n 0, 1) := by decide +kernel
theorem dX4_begin_1 : decode cX4_begin 1 = .ok (.iload_n 1, 1) := by decide +kernel
theorem dX4_begin_2 : decode cX4_begin 2 = .ok (.putfield 34, 3) := by decide +kernel
theorem dX4_begin_5 : decode cX4_begin 5 = .ok (.aload_n 0, 1) := by decide +kernel
theorem dX4_begin_6 : decode cX4_begin 6 = .ok (.iconst 1, 1) := by decide +kernel
theorem dX4_begin_7 : decode cX4_begin 7 = .ok (.putfield 38, 3) := by decide +kernel
theorem dX4_begin_10 : decode cX4_begin 10 = .ok (.aload_n 0, 1) := by decide +kernel
theorem dX4_begin_11 : decode cX4_begin 11 = .ok (.iconst 1, 1) := by decide +kernel
theorem dX4_begin_12 : decode cX4_begin 12 = .ok (.putfield 41, 3) := by decide +kernel
theorem dX4_begin_15 : decode cX4_begin 15 = .ok (.aload_n 0, 1) := by decide +kernel
theorem dX4_begin_16 : decode cX4_begin 16 = .ok (.iconst 0, 1) := by decide +kernel
theorem dX4_begin_17 : decode cX4_begin 17 = .ok (.putfield 44, 3) := by decide +kernel
theorem dX4_begin_20 : decode cX4_begin 20 = .ok (.aload_n 0, 1) := by decide +kernel
theorem dX4_begin_21 : decode cX4_begin 21 = .ok (.invokevirtual 47, 3) := by decide +kernel
theorem dX4_begin_24 : decode cX4_begin 24 = .ok (.return_, 1) := by decide +kernel
theorem dX4_copyFrom_0 : decode cX4_copyFrom 0 = .ok (.aload_n 0, 1) := by decide +kernel
theorem dX4_copyFrom_1 : decode cX4_copyFrom 1 = .ok (.aload_n 1, 1) := by decide +kernel
theorem dX4_copyFrom_2 : decode cX4_copyFrom 2 = .ok (.getfield 34, 3) := by decide +kernel
theorem dX4_copyFrom_5 : decode cX4_copyFrom 5 = .ok (.putfield 34, 3) := by decide +kernel
theorem dX4_copyFrom_8 : decode cX4_copyFrom 8 = .ok (.aload_n 0, 1) := by decide +kernel
theorem dX4_copyFrom_9 : decode cX4_copyFrom 9 = .ok (.aload_n 1, 1) := by decide +kernel
theorem dX4_copyFrom_10 : decode cX4_copyFrom 10 = .ok (.getfield 38, 3) := by decide +kernel
theorem dX4_copyFrom_13 : decode cX4_copyFrom 13 = .ok (.putfield 38, 3) := by decide +kernel
theorem dX4_copyFrom_16 : decode cX4_copyFrom 16 = .ok (.aload_n 0, 1) := by decide +kernel
theorem dX4_copyFrom_17 : decode cX4_copyFrom 17 = .ok (.aload_n 1, 1) := by decide +kernel
theorem dX4_copyFrom_18 : decode cX4_copyFrom 18 = .ok (.getfield 41, 3) := by decide +kernel
theorem dX4_copyFrom_21 : decode cX4_copyFrom 21 = .ok (.putfield 41, 3) := by decide +kernel
theorem dX4_copyFrom_24 : decode cX4_copyFrom 24 = .ok (.aload_n 0, 1) := by decide +kernel
theorem dX4_copyFrom_25 : decode cX4_copyFrom 25 = .ok (.aload_n 1, 1) := by decide +kernel
theorem dX4_copyFrom_26 : decode cX4_copyFrom 26 = .ok (.getfield 44, 3) := by decide +kernel
theorem dX4_copyFrom_29 : decode cX4_copyFrom 29 = .ok (.putfield 44, 3) := by decide +kernel
theorem dX4_copyFrom_32 : decode cX4_copyFrom 32 = .ok (.aload_n 0, 1) := by decide +kernel
theorem dX4_copyFrom_33 : decode cX4_copyFrom 33 = .ok (.aload_n 1, 1) := by decide +kernel
theorem dX4_copyFrom_34 : decode cX4_copyFrom 34 = .ok (.getfield 50, 3) := by decide +kernel
theorem dX4_copyFrom_37 : decode cX4_copyFrom 37 = .ok (.putfield 50, 3) := by decide +kernel
theorem dX4_copyFrom_40 : decode cX4_copyFrom 40 = .ok (.aload_n 0, 1) := by decide +kernel
theorem dX4_copyFrom_41 : decode cX4_copyFrom 41 = .ok (.aload_n 1, 1) := by decide +kernel
theorem dX4_copyFrom_42 : decode cX4_copyFrom 42 = .ok (.getfield 53, 3) := by decide +kernel
theorem dX4_copyFrom_45 : decode cX4_copyFrom 45 = .ok (.putfield 53, 3) := by decide +kernel
theorem dX4_copyFrom_48 : decode cX4_copyFrom 48 = .ok (.iconst 0, 1) := by decide +kernel
theorem dX4_copyFrom_49 : decode cX4_copyFrom 49 = .ok (.istore_n 2, 1) := by decide +kernel
theorem dX4_copyFrom_50 : decode cX4_copyFrom 50 = .ok (.iload_n 2, 1) := by decide +kernel
theorem dX4_copyFrom_51 : decode cX4_copyFrom 51 = .ok (.aload_n 0, 1) := by decide +kernel
theorem dX4_copyFrom_52 : decode cX4_copyFrom 52 = .ok (.getfield 44, 3) := by decide +kernel
theorem dX4_copyFrom_55 : decode cX4_copyFrom 55 = .ok (.if_icmp .ge 33, 3) := by decide +kernel
theorem dX4_copyFrom_58 : decode cX4_copyFrom 58 = .ok (.aload_n 0, 1) := by decide +kernel
theorem dX4_copyFrom_59 : decode cX4_copyFrom 59 = .ok (.getfield 9, 3) := by decide +kernel
theorem dX4_copyFrom_62 : decode cX4_copyFrom 62 = .ok (.iload_n 2, 1) := by decide +kernel
theorem dX4_copyFrom_63 : decode cX4_copyFrom 63 = .ok (.aload_n 1, 1) := by decide +kernel
theorem dX4_copyFrom_64 : decode cX4_copyFrom 64 = .ok (.getfield 9, 3) := by decide +kernel
theorem dX4_copyFrom_67 : decode cX4_copyFrom 67 = .ok (.iload_n 2, 1) := by decide +kernel
theorem dX4_copyFrom_68 : decode cX4_copyFrom 68 = .ok (.iaload, 1) := by decide +kernel
theorem dX4_copyFrom_69 : decode cX4_copyFrom 69 = .ok (.iastore, 1) := by decide +kernel
theorem dX4_copyFrom_70 : decode cX4_copyFrom 70 = .ok (.aload_n 0, 1) := by decide +kernel
theorem dX4_copyFrom_71 : decode cX4_copyFrom 71 = .ok (.getfield 15, 3) := by decide +kernel
theorem dX4_copyFrom_74 : decode cX4_copyFrom 74 = .ok (.iload_n 2, 1) := by decide +kernel
theorem dX4_copyFrom_75 : decode cX4_copyFrom 75 = .ok (.aload_n 1, 1) := by decide +kernel
theorem dX4_copyFrom_76 : decode cX4_copyFrom 76 = .ok (.getfield 15, 3) := by decide +kernel
theorem dX4_copyFrom_79 : decode cX4_copyFrom 79 = .ok (.iload_n 2, 1) := by decide +kernel
theorem dX4_copyFrom_80 : decode cX4_copyFrom 80 = .ok (.iaload, 1) := by decide +kernel
theorem dX4_copyFrom_81 : decode cX4_copyFrom 81 = .ok (.iastore, 1) := by decide +kernel
theorem dX4_copyFrom_82 : decode cX4_copyFrom 82 = .ok (.iinc 2 1, 3) := by decide +kernel
theorem dX4_copyFrom_85 : decode cX4_copyFrom 85 = .ok (.goto (-35), 3) := by decide +kernel
theorem dX4_copyFrom_88 : decode cX4_copyFrom 88 = .ok (.iconst 0, 1) := by decide +kernel
theorem dX4_copyFrom_89 : decode cX4_copyFrom 89 = .ok (.istore_n 2, 1) := by decide +kernel
theorem dX4_copyFrom_90 : decode cX4_copyFrom 90 = .ok (.iload_n 2, 1) := by decide +kernel
theorem dX4_copyFrom_91 : decode cX4_copyFrom 91 = .ok (.aload_n 0, 1) := by decide +kernel
theorem dX4_copyFrom_92 : decode cX4_copyFrom 92 = .ok (.getfield 53, 3) := by decide +kernel
theorem dX4_copyFrom_95 : decode cX4_copyFrom 95 = .ok (.if_icmp .ge 45, 3) := by decide +kernel
theorem dX4_copyFrom_98 : decode cX4_copyFrom 98 = .ok (.aload_n 0, 1) := by decide +kernel
theorem dX4_copyFrom_99 : decode cX4_copyFrom 99 = .ok (.getfield 18, 3) := by decide +kernel
theorem dX4_copyFrom_102 : decode cX4_copyFrom 102 = .ok (.iload_n 2, 1) := by decide +kernel
theorem dX4_copyFrom_103 : decode cX4_copyFrom 103 = .ok (.aload_n 1, 1) := by decide +kernel
theorem dX4_copyFrom_104 : decode cX4_copyFrom 104 = .ok (.getfield 18, 3) := by decide +kernel
theorem dX4_copyFrom_107 : decode cX4_copyFrom 107 = .ok (.iload_n 2, 1) := by decide +kernel
theorem dX4_copyFrom_108 : decode cX4_copyFrom 108 = .ok (.iaload, 1) := by decide +kernel
theorem dX4_copyFrom_109 : decode cX4_copyFrom 109 = .ok (.iastore, 1) := by decide +kernel
theorem dX4_copyFrom_110 : decode cX4_copyFrom 110 = .ok (.aload_n 0, 1) := by decide +kernel
theorem dX4_copyFrom_111 : decode cX4_copyFrom 111 = .ok (.getfield 21, 3) := by decide +kernel
theorem dX4_copyFrom_114 : decode cX4_copyFrom 114 = .ok (.iload_n 2, 1) := by decide +kernel
theorem dX4_copyFrom_115 : decode cX4_copyFrom 115 = .ok (.aload_n 1, 1) := by decide +kernel
theorem dX4_copyFrom_116 : decode cX4_copyFrom 116 = .ok (.getfield 21, 3) := by decide +kernel
theorem dX4_copyFrom_119 : decode cX4_copyFrom 119 = .ok (.iload_n 2, 1) := by decide +kernel
theorem dX4_copyFrom_120 : decode cX4_copyFrom 120 = .ok (.iaload, 1) := by decide +kernel
theorem dX4_copyFrom_121 : decode cX4_copyFrom 121 = .ok (.iastore, 1) := by decide +kernel
theorem dX4_copyFrom_122 : decode cX4_copyFrom 122 = .ok (.aload_n 0, 1) := by decide +kernel
theorem dX4_copyFrom_123 : decode cX4_copyFrom 123 = .ok (.getfield 24, 3) := by decide +kernel
theorem dX4_copyFrom_126 : decode cX4_copyFrom 126 = .ok (.iload_n 2, 1) := by decide +kernel
theorem dX4_copyFrom_127 : decode cX4_copyFrom 127 = .ok (.aload_n 1, 1) := by decide +kernel
theorem dX4_copyFrom_128 : decode cX4_copyFrom 128 = .ok (.getfield 24, 3) := by decide +kernel
theorem dX4_copyFrom_131 : decode cX4_copyFrom 131 = .ok (.iload_n 2, 1) := by decide +kernel
theorem dX4_copyFrom_132 : decode cX4_copyFrom 132 = .ok (.baload, 1) := by decide +kernel
theorem dX4_copyFrom_133 : decode cX4_copyFrom 133 = .ok (.bastore, 1) := by decide +kernel
theorem dX4_copyFrom_134 : decode cX4_copyFrom 134 = .ok (.iinc 2 1, 3) := by decide +kernel
theorem dX4_copyFrom_137 : decode cX4_copyFrom 137 = .ok (.goto (-47), 3) := by decide +kernel
theorem dX4_copyFrom_140 : decode cX4_copyFrom 140 = .ok (.aload_n 1, 1) := by decide +kernel
theorem dX4_copyFrom_141 : decode cX4_copyFrom 141 = .ok (.getfield 31, 3) := by decide +kernel
theorem dX4_copyFrom_144 : decode cX4_copyFrom 144 = .ok (.iconst 0, 1) := by decide +kernel
theorem dX4_copyFrom_145 : decode cX4_copyFrom 145 = .ok (.aload_n 0, 1) := by decide +kernel
theorem dX4_copyFrom_146 : decode cX4_copyFrom 146 = .ok (.getfield 31, 3) := by decide +kernel
theorem dX4_copyFrom_149 : decode cX4_copyFrom 149 = .ok (.iconst 0, 1) := by decide +kernel
theorem dX4_copyFrom_150 : decode cX4_copyFrom 150 = .ok (.aload_n 0, 1) := by decide +kernel
theorem dX4_copyFrom_151 : decode cX4_copyFrom 151 = .ok (.getfield 31, 3) := by decide +kernel
theorem dX4_copyFrom_154 : decode cX4_copyFrom 154 = .ok (.arraylength, 1) := by decide +kernel
theorem dX4_copyFrom_155 : decode cX4_copyFrom 155 = .ok (.invokestatic 56, 3) := by decide +kernel
theorem dX4_copyFrom_158 : decode cX4_copyFrom 158 = .ok (.return_, 1) := by decide +kernel
theorem dX4_resize_0 : decode cX4_resize 0 = .ok (.aload_n 0, 1) := by decide +kernel
theorem dX4_resize_1 : decode cX4_resize 1 = .ok (.iload_n 1, 1) := by decide +kernel
theorem dX4_resize_2 : decode cX4_resize 2 = .ok (.putfield 38, 3) := by decide +kernel
theorem dX4_resize_5 : decode cX4_resize 5 = .ok (.aload_n 0, 1) := by decide +kernel
theorem dX4_resize_6 : decode cX4_resize 6 = .ok (.iload_n 2, 1) := by decide +kernel
theorem dX4_resize_7 : decode cX4_resize 7 = .ok (.putfield 41, 3) := by decide +kernel
theorem dX4_resize_10 : decode cX4_resize 10 = .ok (.aload_n 0, 1) := by decide +kernel
theorem dX4_resize_11 : decode cX4_resize 11 = .ok (.invokevirtual 47, 3) := by decide +kernel
theorem dX4_resize_14 : decode cX4_resize 14 = .ok (.return_, 1) := by decide +kernel
theorem dX4_turnInto_0 : decode cX4_turnInto 0 = .ok (.aload_n 0, 1) := by decide +kernel
theorem dX4_turnInto_1 : decode cX4_turnInto 1 = .ok (.iload_n 1, 1) := by decide +kernel
theorem dX4_turnInto_2 : decode cX4_turnInto 2 = .ok (.putfield 34, 3) := by decide +kernel
theorem dX4_turnInto_5 : decode cX4_turnInto 5 = .ok (.aload_n 0, 1) := by decide +kernel
theorem dX4_turnInto_6 : decode cX4_turnInto 6 = .ok (.invokevirtual 47, 3) := by decide +kernel
theorem dX4_turnInto_9 : decode cX4_turnInto 9 = .ok (.return_, 1) := by decide +kernel
theorem dX4_push_0 : decode cX4_push 0 = .ok (.aload_n 0, 1) := by decide +kernel
theorem dX4_push_1 : decode cX4_push 1 = .ok (.getfield 44, 3) := by decide +kernel
theorem dX4_push_4 : decode cX4_push 4 = .ok (.bipush 12, 2) := by decide +kernel
theorem dX4_push_6 : decode cX4_push 6 = .ok (.if_icmp .ge 33, 3) := by decide +kernel
theorem dX4_push_9 : decode cX4_push 9 = .ok (.aload_n 0, 1) := by decide +kernel
theorem dX4_push_10 : decode cX4_push 10 = .ok (.getfield 9, 3) := by decide +kernel
theorem dX4_push_13 : decode cX4_push 13 = .ok (.aload_n 0, 1) := by decide +kernel
theorem dX4_push_14 : decode cX4_push 14 = .ok (.getfield 44, 3) := by decide +kernel
theorem dX4_push_17 : decode cX4_push 17 = .ok (.iload_n 1, 1) := by decide +kernel
theorem dX4_push_18 : decode cX4_push 18 = .ok (.iastore, 1) := by decide +kernel
theorem dX4_push_19 : decode cX4_push 19 = .ok (.aload_n 0, 1) := by decide +kernel
theorem dX4_push_20 : decode cX4_push 20 = .ok (.getfield 15, 3) := by decide +kernel
theorem dX4_push_23 : decode cX4_push 23 = .ok (.aload_n 0, 1) := by decide +kernel
theorem dX4_push_24 : decode cX4_push 24 = .ok (.getfield 44, 3) := by decide +kernel
theorem dX4_push_27 : decode cX4_push 27 = .ok (.iload_n 2, 1) := by decide +kernel
theorem dX4_push_28 : decode cX4_push 28 = .ok (.iastore, 1) := by decide +kernel
theorem dX4_push_29 : decode cX4_push 29 = .ok (.aload_n 0, 1) := by decide +kernel
theorem dX4_push_30 : decode cX4_push 30 = .ok (.dup, 1) := by decide +kernel
theorem dX4_push_31 : decode cX4_push 31 = .ok (.getfield 44, 3) := by decide +kernel
theorem dX4_push_34 : decode cX4_push 34 = .ok (.iconst 1, 1) := by decide +kernel
theorem dX4_push_35 : decode cX4_push 35 = .ok (.iadd, 1) := by decide +kernel
theorem dX4_push_36 : decode cX4_push 36 = .ok (.putfield 44, 3) := by decide +kernel
theorem dX4_push_39 : decode cX4_push 39 = .ok (.aload_n 0, 1) := by decide +kernel
theorem dX4_push_40 : decode cX4_push 40 = .ok (.invokevirtual 47, 3) := by decide +kernel
theorem dX4_push_43 : decode cX4_push 43 = .ok (.return_, 1) := by decide +kernel
theorem dX4_pushAfterSpace_0 : decode cX4_pushAfterSpace 0 = .ok (.aload_n 0, 1) := by decide +kernel
theorem dX4_pushAfterSpace_1 : decode cX4_pushAfterSpace 1 = .ok (.getfield 44, 3) := by decide +kernel
theorem dX4_pushAfterSpace_4 : decode cX4_pushAfterSpace 4 = .ok (.ifCond .le 15, 3) := by decide +kernel
theorem dX4_pushAfterSpace_7 : decode cX4_pushAfterSpace 7 = .ok (.aload_n 0, 1) := by decide +kernel
theorem dX4_pushAfterSpace_8 : decode cX4_pushAfterSpace 8 = .ok (.getfield 15, 3) := by decide +kernel
theorem dX4_pushAfterSpace_11 : decode cX4_pushAfterSpace 11 = .ok (.aload_n 0, 1) := by decide +kernel
theorem dX4_pushAfterSpace_12 : decode cX4_pushAfterSpace 12 = .ok (.getfield 44, 3) := by decide +kernel
theorem dX4_pushAfterSpace_15 : decode cX4_pushAfterSpace 15 = .ok (.iconst 1, 1) := by decide +kernel
theorem dX4_pushAfterSpace_16 : decode cX4_pushAfterSpace 16 = .ok (.isub, 1) := by decide +kernel
theorem dX4_pushAfterSpace_17 : decode cX4_pushAfterSpace 17 = .ok (.iconst 0, 1) := by decide +kernel
theorem dX4_pushAfterSpace_18 : decode cX4_pushAfterSpace 18 = .ok (.iastore, 1) := by decide +kernel
theorem dX4_pushAfterSpace_19 : decode cX4_pushAfterSpace 19 = .ok (.aload_n 0, 1) := by decide +kernel
theorem dX4_pushAfterSpace_20 : decode cX4_pushAfterSpace 20 = .ok (.iload_n 1, 1) := by decide +kernel
theorem dX4_pushAfterSpace_21 : decode cX4_pushAfterSpace 21 = .ok (.iconst 0, 1) := by decide +kernel
theorem dX4_pushAfterSpace_22 : decode cX4_pushAfterSpace 22 = .ok (.invokevirtual 62, 3) := by decide +kernel
theorem dX4_pushAfterSpace_25 : decode cX4_pushAfterSpace 25 = .ok (.return_, 1) := by decide +kernel
theorem dX4_settle_0 : decode cX4_settle 0 = .ok (.aload_n 0, 1) := by decide +kernel
theorem dX4_settle_1 : decode cX4_settle 1 = .ok (.aload_n 0, 1) := by decide +kernel
theorem dX4_settle_2 : decode cX4_settle 2 = .ok (.getfield 34, 3) := by decide +kernel
theorem dX4_settle_5 : decode cX4_settle 5 = .ok (.iconst 2, 1) := by decide +kernel
theorem dX4_settle_6 : decode cX4_settle 6 = .ok (.if_icmp .ne 7, 3) := by decide +kernel
theorem dX4_settle_9 : decode cX4_settle 9 = .ok (.iconst 2, 1) := by decide +kernel
theorem dX4_settle_10 : decode cX4_settle 10 = .ok (.goto 4, 3) := by decide +kernel
theorem dX4_settle_13 : decode cX4_settle 13 = .ok (.iconst 0, 1) := by decide +kernel
theorem dX4_settle_14 : decode cX4_settle 14 = .ok (.putfield 50, 3) := by decide +kernel
theorem dX4_settle_17 : decode cX4_settle 17 = .ok (.aload_n 0, 1) := by decide +kernel
theorem dX4_settle_18 : decode cX4_settle 18 = .ok (.iconst 0, 1) := by decide +kernel
theorem dX4_settle_19 : decode cX4_settle 19 = .ok (.putfield 53, 3) := by decide +kernel
theorem dX4_settle_22 : decode cX4_settle 22 = .ok (.iconst 0, 1) := by decide +kernel
theorem dX4_settle_23 : decode cX4_settle 23 = .ok (.istore_n 1, 1) := by decide +kernel
theorem dX4_settle_24 : decode cX4_settle 24 = .ok (.iconst 0, 1) := by decide +kernel
theorem dX4_settle_25 : decode cX4_settle 25 = .ok (.istore_n 2, 1) := by decide +kernel
theorem dX4_settle_26 : decode cX4_settle 26 = .ok (.iload_n 2, 1) := by decide +kernel
theorem dX4_settle_27 : decode cX4_settle 27 = .ok (.aload_n 0, 1) := by decide +kernel
theorem dX4_settle_28 : decode cX4_settle 28 = .ok (.getfield 44, 3) := by decide +kernel
theorem dX4_settle_31 : decode cX4_settle 31 = .ok (.if_icmp .ge 76, 3) := by decide +kernel
theorem dX4_settle_34 : decode cX4_settle 34 = .ok (.iload_n 1, 1) := by decide +kernel
theorem dX4_settle_35 : decode cX4_settle 35 = .ok (.aload_n 0, 1) := by decide +kernel
theorem dX4_settle_36 : decode cX4_settle 36 = .ok (.getfield 9, 3) := by decide +kernel
theorem dX4_settle_39 : decode cX4_settle 39 = .ok (.iload_n 2, 1) := by decide +kernel
theorem dX4_settle_40 : decode cX4_settle 40 = .ok (.iaload, 1) := by decide +kernel
theorem dX4_settle_41 : decode cX4_settle 41 = .ok (.iadd, 1) := by decide +kernel
theorem dX4_settle_42 : decode cX4_settle 42 = .ok (.istore_n 1, 1) := by decide +kernel
theorem dX4_settle_43 : decode cX4_settle 43 = .ok (.aload_n 0, 1) := by decide +kernel
theorem dX4_settle_44 : decode cX4_settle 44 = .ok (.getfield 15, 3) := by decide +kernel
theorem dX4_settle_47 : decode cX4_settle 47 = .ok (.iload_n 2, 1) := by decide +kernel
theorem dX4_settle_48 : decode cX4_settle 48 = .ok (.iaload, 1) := by decide +kernel
theorem dX4_settle_49 : decode cX4_settle 49 = .ok (.istore_n 3, 1) := by decide +kernel
theorem dX4_settle_50 : decode cX4_settle 50 = .ok (.iload_n 2, 1) := by decide +kernel
theorem dX4_settle_51 : decode cX4_settle 51 = .ok (.aload_n 0, 1) := by decide +kernel
theorem dX4_settle_52 : decode cX4_settle 52 = .ok (.getfield 44, 3) := by decide +kernel
theorem dX4_settle_55 : decode cX4_settle 55 = .ok (.iconst 1, 1) := by decide +kernel
theorem dX4_settle_56 : decode cX4_settle 56 = .ok (.isub, 1) := by decide +kernel
theorem dX4_settle_57 : decode cX4_settle 57 = .ok (.if_icmp .ne 12, 3) := by decide +kernel
theorem dX4_settle_60 : decode cX4_settle 60 = .ok (.aload_n 0, 1) := by decide +kernel
theorem dX4_settle_61 : decode cX4_settle 61 = .ok (.iload_n 1, 1) := by decide +kernel
theorem dX4_settle_62 : decode cX4_settle 62 = .ok (.iconst 1, 1) := by decide +kernel
theorem dX4_settle_63 : decode cX4_settle 63 = .ok (.invokevirtual 66, 3) := by decide +kernel
theorem dX4_settle_66 : decode cX4_settle 66 = .ok (.goto 35, 3) := by decide +kernel
theorem dX4_settle_69 : decode cX4_settle 69 = .ok (.aload_n 0, 1) := by decide +kernel
theorem dX4_settle_70 : decode cX4_settle 70 = .ok (.iload_n 3, 1) := by decide +kernel
theorem dX4_settle_71 : decode cX4_settle 71 = .ok (.invokevirtual 69, 3) := by decide +kernel
theorem dX4_settle_74 : decode cX4_settle 74 = .ok (.ifCond .eq 19, 3) := by decide +kernel
theorem dX4_settle_77 : decode cX4_settle 77 = .ok (.iload_n 1, 1) := by decide +kernel
theorem dX4_settle_78 : decode cX4_settle 78 = .ok (.iload_n 3, 1) := by decide +kernel
theorem dX4_settle_79 : decode cX4_settle 79 = .ok (.iconst 3, 1) := by decide +kernel
theorem dX4_settle_80 : decode cX4_settle 80 = .ok (.if_icmp .ne 7, 3) := by decide +kernel
theorem dX4_settle_83 : decode cX4_settle 83 = .ok (.iconst 0, 1) := by decide +kernel
theorem dX4_settle_84 : decode cX4_settle 84 = .ok (.goto 4, 3) := by decide +kernel
theorem dX4_settle_87 : decode cX4_settle 87 = .ok (.iconst 1, 1) := by decide +kernel
theorem dX4_settle_88 : decode cX4_settle 88 = .ok (.iadd, 1) := by decide +kernel
theorem dX4_settle_89 : decode cX4_settle 89 = .ok (.istore_n 1, 1) := by decide +kernel
theorem dX4_settle_90 : decode cX4_settle 90 = .ok (.goto 11, 3) := by decide +kernel
theorem dX4_settle_93 : decode cX4_settle 93 = .ok (.aload_n 0, 1) := by decide +kernel
theorem dX4_settle_94 : decode cX4_settle 94 = .ok (.iload_n 1, 1) := by decide +kernel
theorem dX4_settle_95 : decode cX4_settle 95 = .ok (.iload_n 3, 1) := by decide +kernel
theorem dX4_settle_96 : decode cX4_settle 96 = .ok (.invokevirtual 66, 3) := by decide +kernel
theorem dX4_settle_99 : decode cX4_settle 99 = .ok (.iconst 0, 1) := by decide +kernel
theorem dX4_settle_100 : decode cX4_settle 100 = .ok (.istore_n 1, 1) := by decide +kernel
theorem dX4_settle_101 : decode cX4_settle 101 = .ok (.iinc 2 1, 3) := by decide +kernel
theorem dX4_settle_104 : decode cX4_settle 104 = .ok (.goto (-78), 3) := by decide +kernel
theorem dX4_settle_107 : decode cX4_settle 107 = .ok (.aload_n 0, 1) := by decide +kernel
theorem dX4_settle_108 : decode cX4_settle 108 = .ok (.getfield 31, 3) := by decide +kernel
theorem dX4_settle_111 : decode cX4_settle 111 = .ok (.iconst (-1), 1) := by decide +kernel
theorem dX4_settle_112 : decode cX4_settle 112 = .ok (.invokestatic 73, 3) := by decide +kernel
theorem dX4_settle_115 : decode cX4_settle 115 = .ok (.return_, 1) := by decide +kernel
theorem dX4_keepPiece_0 : decode cX4_keepPiece 0 = .ok (.aload_n 0, 1) := by decide +kernel
theorem dX4_keepPiece_1 : decode cX4_keepPiece 1 = .ok (.getfield 53, 3) := by decide +kernel
theorem dX4_keepPiece_4 : decode cX4_keepPiece 4 = .ok (.bipush 12, 2) := by decide +kernel
theorem dX4_keepPiece_6 : decode cX4_keepPiece 6 = .ok (.if_icmp .ge 73, 3) := by decide +kernel
theorem dX4_keepPiece_9 : decode cX4_keepPiece 9 = .ok (.aload_n 0, 1) := by decide +kernel
theorem dX4_keepPiece_10 : decode cX4_keepPiece 10 = .ok (.getfield 18, 3) := by decide +kernel
theorem dX4_keepPiece_13 : decode cX4_keepPiece 13 = .ok (.aload_n 0, 1) := by decide +kernel
theorem dX4_keepPiece_14 : decode cX4_keepPiece 14 = .ok (.getfield 53, 3) := by decide +kernel
theorem dX4_keepPiece_17 : decode cX4_keepPiece 17 = .ok (.iload_n 1, 1) := by decide +kernel
theorem dX4_keepPiece_18 : decode cX4_keepPiece 18 = .ok (.iload_n 2, 1) := by decide +kernel
theorem dX4_keepPiece_19 : decode cX4_keepPiece 19 = .ok (.iconst 3, 1) := by decide +kernel
theorem dX4_keepPiece_20 : decode cX4_keepPiece 20 = .ok (.if_icmp .ne 7, 3) := by decide +kernel
theorem dX4_keepPiece_23 : decode cX4_keepPiece 23 = .ok (.iconst 1, 1) := by decide +kernel
theorem dX4_keepPiece_24 : decode cX4_keepPiece 24 = .ok (.goto 4, 3) := by decide +kernel
theorem dX4_keepPiece_27 : decode cX4_keepPiece 27 = .ok (.iconst 0, 1) := by decide +kernel
theorem dX4_keepPiece_28 : decode cX4_keepPiece 28 = .ok (.iadd, 1) := by decide +kernel
theorem dX4_keepPiece_29 : decode cX4_keepPiece 29 = .ok (.iastore, 1) := by decide +kernel
theorem dX4_keepPiece_30 : decode cX4_keepPiece 30 = .ok (.aload_n 0, 1) := by decide +kernel
theorem dX4_keepPiece_31 : decode cX4_keepPiece 31 = .ok (.getfield 21, 3) := by decide +kernel
theorem dX4_keepPiece_34 : decode cX4_keepPiece 34 = .ok (.aload_n 0, 1) := by decide +kernel
theorem dX4_keepPiece_35 : decode cX4_keepPiece 35 = .ok (.getfield 53, 3) := by decide +kernel
theorem dX4_keepPiece_38 : decode cX4_keepPiece 38 = .ok (.iload_n 1, 1) := by decide +kernel
theorem dX4_keepPiece_39 : decode cX4_keepPiece 39 = .ok (.iload_n 2, 1) := by decide +kernel
theorem dX4_keepPiece_40 : decode cX4_keepPiece 40 = .ok (.ifCond .ne 7, 3) := by decide +kernel
theorem dX4_keepPiece_43 : decode cX4_keepPiece 43 = .ok (.iconst 1, 1) := by decide +kernel
theorem dX4_keepPiece_44 : decode cX4_keepPiece 44 = .ok (.goto 4, 3) := by decide +kernel
theorem dX4_keepPiece_47 : decode cX4_keepPiece 47 = .ok (.iconst 0, 1) := by decide +kernel
theorem dX4_keepPiece_48 : decode cX4_keepPiece 48 = .ok (.iadd, 1) := by decide +kernel
theorem dX4_keepPiece_49 : decode cX4_keepPiece 49 = .ok (.iastore, 1) := by decide +kernel
theorem dX4_keepPiece_50 : decode cX4_keepPiece 50 = .ok (.aload_n 0, 1) := by decide +kernel
theorem dX4_keepPiece_51 : decode cX4_keepPiece 51 = .ok (.getfield 24, 3) := by decide +kernel
theorem dX4_keepPiece_54 : decode cX4_keepPiece 54 = .ok (.aload_n 0, 1) := by decide +kernel
theorem dX4_keepPiece_55 : decode cX4_keepPiece 55 = .ok (.getfield 53, 3) := by decide +kernel
theorem dX4_keepPiece_58 : decode cX4_keepPiece 58 = .ok (.iload_n 2, 1) := by decide +kernel
theorem dX4_keepPiece_59 : decode cX4_keepPiece 59 = .ok (.iconst 1, 1) := by decide +kernel
theorem dX4_keepPiece_60 : decode cX4_keepPiece 60 = .ok (.if_icmp .ne 7, 3) := by decide +kernel
theorem dX4_keepPiece_63 : decode cX4_keepPiece 63 = .ok (.iconst 1, 1) := by decide +kernel
theorem dX4_keepPiece_64 : decode cX4_keepPiece 64 = .ok (.goto 4, 3) := by decide +kernel
theorem dX4_keepPiece_67 : decode cX4_keepPiece 67 = .ok (.iconst 0, 1) := by decide +kernel
theorem dX4_keepPiece_68 : decode cX4_keepPiece 68 = .ok (.bastore, 1) := by decide +kernel
theorem dX4_keepPiece_69 : decode cX4_keepPiece 69 = .ok (.aload_n 0, 1) := by decide +kernel
theorem dX4_keepPiece_70 : decode cX4_keepPiece 70 = .ok (.dup, 1) := by decide +kernel
theorem dX4_keepPiece_71 : decode cX4_keepPiece 71 = .ok (.getfield 53, 3) := by decide +kernel
theorem dX4_keepPiece_74 : decode cX4_keepPiece 74 = .ok (.iconst 1, 1) := by decide +kernel
theorem dX4_keepPiece_75 : decode cX4_keepPiece 75 = .ok (.iadd, 1) := by decide +kernel
theorem dX4_keepPiece_76 : decode cX4_keepPiece 76 = .ok (.putfield 53, 3) := by decide +kernel
theorem dX4_keepPiece_79 : decode cX4_keepPiece 79 = .ok (.return_, 1) := by decide +kernel
theorem dX4_joins_0 : decode cX4_joins 0 = .ok (.iload_n 1, 1) := by decide +kernel
theorem dX4_joins_1 : decode cX4_joins 1 = .ok (.iconst 2, 1) := by decide +kernel
theorem dX4_joins_2 : decode cX4_joins 2 = .ok (.if_icmp .eq 16, 3) := by decide +kernel
theorem dX4_joins_5 : decode cX4_joins 5 = .ok (.aload_n 0, 1) := by decide +kernel
theorem dX4_joins_6 : decode cX4_joins 6 = .ok (.getfield 34, 3) := by decide +kernel
theorem dX4_joins_9 : decode cX4_joins 9 = .ok (.iconst 3, 1) := by decide +kernel
theorem dX4_joins_10 : decode cX4_joins 10 = .ok (.if_icmp .ne 12, 3) := by decide +kernel
theorem dX4_joins_13 : decode cX4_joins 13 = .ok (.iload_n 1, 1) := by decide +kernel
theorem dX4_joins_14 : decode cX4_joins 14 = .ok (.iconst 1, 1) := by decide +kernel
theorem dX4_joins_15 : decode cX4_joins 15 = .ok (.if_icmp .eq 7, 3) := by decide +kernel
theorem dX4_joins_18 : decode cX4_joins 18 = .ok (.iconst 1, 1) := by decide +kernel
theorem dX4_joins_19 : decode cX4_joins 19 = .ok (.goto 4, 3) := by decide +kernel
theorem dX4_joins_22 : decode cX4_joins 22 = .ok (.iconst 0, 1) := by decide +kernel
theorem dX4_joins_23 : decode cX4_joins 23 = .ok (.ireturn, 1) := by decide +kernel
theorem dX4_isText_0 : decode cX4_isText 0 = .ok (.aload_n 0, 1) := by decide +kernel
theorem dX4_isText_1 : decode cX4_isText 1 = .ok (.getfield 34, 3) := by decide +kernel
theorem dX4_isText_4 : decode cX4_isText 4 = .ok (.iconst 3, 1) := by decide +kernel
theorem dX4_isText_5 : decode cX4_isText 5 = .ok (.if_icmp .gt 7, 3) := by decide +kernel
theorem dX4_isText_8 : decode cX4_isText 8 = .ok (.iconst 1, 1) := by decide +kernel
theorem dX4_isText_9 : decode cX4_isText 9 = .ok (.goto 4, 3) := by decide +kernel
theorem dX4_isText_12 : decode cX4_isText 12 = .ok (.iconst 0, 1) := by decide +kernel
theorem dX4_isText_13 : decode cX4_isText 13 = .ok (.ireturn, 1) := by decide +kernel
theorem dX4_minimum_0 : decode cX4_minimum 0 = .ok (.aload_n 0, 1) := by decide +kernel
theorem dX4_minimum_1 : decode cX4_minimum 1 = .ok (.invokevirtual 79, 3) := by decide +kernel
theorem dX4_minimum_4 : decode cX4_minimum 4 = .ok (.ifCond .ne 27, 3) := by decide +kernel
theorem dX4_minimum_7 : decode cX4_minimum 7 = .ok (.aload_n 0, 1) := by decide +kernel
theorem dX4_minimum_8 : decode cX4_minimum 8 = .ok (.getfield 34, 3) := by decide +kernel
theorem dX4_minimum_11 : decode cX4_minimum 11 = .ok (.iconst 4, 1) := by decide +kernel
theorem dX4_minimum_12 : decode cX4_minimum 12 = .ok (.if_icmp .ne 14, 3) := by decide +kernel
theorem dX4_minimum_15 : decode cX4_minimum 15 = .ok (.aload_n 0, 1) := by decide +kernel
theorem dX4_minimum_16 : decode cX4_minimum 16 = .ok (.getfield 38, 3) := by decide +kernel
theorem dX4_minimum_19 : decode cX4_minimum 19 = .ok (.iconst 1, 1) := by decide +kernel
theorem dX4_minimum_20 : decode cX4_minimum 20 = .ok (.iadd, 1) := by decide +kernel
theorem dX4_minimum_21 : decode cX4_minimum 21 = .ok (.iconst 2, 1) := by decide +kernel
theorem dX4_minimum_22 : decode cX4_minimum 22 = .ok (.idiv, 1) := by decide +kernel
theorem dX4_minimum_23 : decode cX4_minimum 23 = .ok (.goto 7, 3) := by decide +kernel
theorem dX4_minimum_26 : decode cX4_minimum 26 = .ok (.aload_n 0, 1) := by decide +kernel
theorem dX4_minimum_27 : decode cX4_minimum 27 = .ok (.getfield 38, 3) := by decide +kernel
theorem dX4_minimum_30 : decode cX4_minimum 30 = .ok (.ireturn, 1) := by decide +kernel
theorem dX4_minimum_31 : decode cX4_minimum 31 = .ok (.iconst 0, 1) := by decide +kernel
theorem dX4_minimum_32 : decode cX4_minimum 32 = .ok (.istore_n 1, 1) := by decide +kernel
theorem dX4_minimum_33 : decode cX4_minimum 33 = .ok (.iconst 0, 1) := by decide +kernel
theorem dX4_minimum_34 : decode cX4_minimum 34 = .ok (.istore_n 2, 1) := by decide +kernel
theorem dX4_minimum_35 : decode cX4_minimum 35 = .ok (.iload_n 2, 1) := by decide +kernel
theorem dX4_minimum_36 : decode cX4_minimum 36 = .ok (.aload_n 0, 1) := by decide +kernel
theorem dX4_minimum_37 : decode cX4_minimum 37 = .ok (.getfield 53, 3) := by decide +kernel
theorem dX4_minimum_40 : decode cX4_minimum 40 = .ok (.if_icmp .ge 20, 3) := by decide +kernel
theorem dX4_minimum_43 : decode cX4_minimum 43 = .ok (.iload_n 1, 1) := by decide +kernel
theorem dX4_minimum_44 : decode cX4_minimum 44 = .ok (.aload_n 0, 1) := by decide +kernel
theorem dX4_minimum_45 : decode cX4_minimum 45 = .ok (.getfield 18, 3) := by decide +kernel
theorem dX4_minimum_48 : decode cX4_minimum 48 = .ok (.iload_n 2, 1) := by decide +kernel
theorem dX4_minimum_49 : decode cX4_minimum 49 = .ok (.iaload, 1) := by decide +kernel
theorem dX4_minimum_50 : decode cX4_minimum 50 = .ok (.invokestatic 83, 3) := by decide +kernel
theorem dX4_minimum_53 : decode cX4_minimum 53 = .ok (.istore_n 1, 1) := by decide +kernel
theorem dX4_minimum_54 : decode cX4_minimum 54 = .ok (.iinc 2 1, 3) := by decide +kernel
theorem dX4_minimum_57 : decode cX4_minimum 57 = .ok (.goto (-22), 3) := by decide +kernel
theorem dX4_minimum_60 : decode cX4_minimum 60 = .ok (.aload_n 0, 1) := by decide +kernel
theorem dX4_minimum_61 : decode cX4_minimum 61 = .ok (.getfield 50, 3) := by decide +kernel
theorem dX4_minimum_64 : decode cX4_minimum 64 = .ok (.iload_n 1, 1) := by decide +kernel
theorem dX4_minimum_65 : decode cX4_minimum 65 = .ok (.iadd, 1) := by decide +kernel
theorem dX4_minimum_66 : decode cX4_minimum 66 = .ok (.ireturn, 1) := by decide +kernel
theorem dX4_maximum_0 : decode cX4_maximum 0 = .ok (.aload_n 0, 1) := by decide +kernel
theorem dX4_maximum_1 : decode cX4_maximum 1 = .ok (.invokevirtual 79, 3) := by decide +kernel
theorem dX4_maximum_4 : decode cX4_maximum 4 = .ok (.ifCond .ne 8, 3) := by decide +kernel
theorem dX4_maximum_7 : decode cX4_maximum 7 = .ok (.aload_n 0, 1) := by decide +kernel
theorem dX4_maximum_8 : decode cX4_maximum 8 = .ok (.getfield 38, 3) := by decide +kernel
theorem dX4_maximum_11 : decode cX4_maximum 11 = .ok (.ireturn, 1) := by decide +kernel
theorem dX4_maximum_12 : decode cX4_maximum 12 = .ok (.iconst 0, 1) := by decide +kernel
theorem dX4_maximum_13 : decode cX4_maximum 13 = .ok (.istore_n 1, 1) := by decide +kernel
theorem dX4_maximum_14 : decode cX4_maximum 14 = .ok (.iconst 0, 1) := by decide +kernel
theorem dX4_maximum_15 : decode cX4_maximum 15 = .ok (.istore_n 2, 1) := by decide +kernel
theorem dX4_maximum_16 : decode cX4_maximum 16 = .ok (.iconst 0, 1) := by decide +kernel
theorem dX4_maximum_17 : decode cX4_maximum 17 = .ok (.istore_n 3, 1) := by decide +kernel
theorem dX4_maximum_18 : decode cX4_maximum 18 = .ok (.iload_n 3, 1) := by decide +kernel
theorem dX4_maximum_19 : decode cX4_maximum 19 = .ok (.aload_n 0, 1) := by decide +kernel
theorem dX4_maximum_20 : decode cX4_maximum 20 = .ok (.getfield 53, 3) := by decide +kernel
theorem dX4_maximum_23 : decode cX4_maximum 23 = .ok (.if_icmp .ge 45, 3) := by decide +kernel
theorem dX4_maximum_26 : decode cX4_maximum 26 = .ok (.aload_n 0, 1) := by decide +kernel
theorem dX4_maximum_27 : decode cX4_maximum 27 = .ok (.getfield 24, 3) := by decide +kernel
theorem dX4_maximum_30 : decode cX4_maximum 30 = .ok (.iload_n 3, 1) := by decide +kernel
theorem dX4_maximum_31 : decode cX4_maximum 31 = .ok (.baload, 1) := by decide +kernel
theorem dX4_maximum_32 : decode cX4_maximum 32 = .ok (.ifCond .eq 21, 3) := by decide +kernel
theorem dX4_maximum_35 : decode cX4_maximum 35 = .ok (.iload_n 1, 1) := by decide +kernel
theorem dX4_maximum_36 : decode cX4_maximum 36 = .ok (.iload_n 2, 1) := by decide +kernel
theorem dX4_maximum_37 : decode cX4_maximum 37 = .ok (.aload_n 0, 1) := by decide +kernel
theorem dX4_maximum_38 : decode cX4_maximum 38 = .ok (.getfield 18, 3) := by decide +kernel
theorem dX4_maximum_41 : decode cX4_maximum 41 = .ok (.iload_n 3, 1) := by decide +kernel
theorem dX4_maximum_42 : decode cX4_maximum 42 = .ok (.iaload, 1) := by decide +kernel
theorem dX4_maximum_43 : decode cX4_maximum 43 = .ok (.iadd, 1) := by decide +kernel
theorem dX4_maximum_44 : decode cX4_maximum 44 = .ok (.invokestatic 83, 3) := by decide +kernel
theorem dX4_maximum_47 : decode cX4_maximum 47 = .ok (.istore_n 1, 1) := by decide +kernel
theorem dX4_maximum_48 : decode cX4_maximum 48 = .ok (.iconst 0, 1) := by decide +kernel
theorem dX4_maximum_49 : decode cX4_maximum 49 = .ok (.istore_n 2, 1) := by decide +kernel
theorem dX4_maximum_50 : decode cX4_maximum 50 = .ok (.goto 12, 3) := by decide +kernel
theorem dX4_maximum_53 : decode cX4_maximum 53 = .ok (.iload_n 2, 1) := by decide +kernel
theorem dX4_maximum_54 : decode cX4_maximum 54 = .ok (.aload_n 0, 1) := by decide +kernel
theorem dX4_maximum_55 : decode cX4_maximum 55 = .ok (.getfield 21, 3) := by decide +kernel
theorem dX4_maximum_58 : decode cX4_maximum 58 = .ok (.iload_n 3, 1) := by decide +kernel
theorem dX4_maximum_59 : decode cX4_maximum 59 = .ok (.iaload, 1) := by decide +kernel
theorem dX4_maximum_60 : decode cX4_maximum 60 = .ok (.iadd, 1) := by decide +kernel
theorem dX4_maximum_61 : decode cX4_maximum 61 = .ok (.istore_n 2, 1) := by decide +kernel
theorem dX4_maximum_62 : decode cX4_maximum 62 = .ok (.iinc 3 1, 3) := by decide +kernel
theorem dX4_maximum_65 : decode cX4_maximum 65 = .ok (.goto (-47), 3) := by decide +kernel
theorem dX4_maximum_68 : decode cX4_maximum 68 = .ok (.aload_n 0, 1) := by decide +kernel
theorem dX4_maximum_69 : decode cX4_maximum 69 = .ok (.getfield 50, 3) := by decide +kernel
theorem dX4_maximum_72 : decode cX4_maximum 72 = .ok (.iload_n 1, 1) := by decide +kernel
theorem dX4_maximum_73 : decode cX4_maximum 73 = .ok (.iadd, 1) := by decide +kernel
theorem dX4_maximum_74 : decode cX4_maximum 74 = .ok (.ireturn, 1) := by decide +kernel
theorem dX4_breakLines_0 : decode cX4_breakLines 0 = .ok (.iload_n 1, 1) := by decide +kernel
theorem dX4_breakLines_1 : decode cX4_breakLines 1 = .ok (.aload_n 0, 1) := by decide +kernel
theorem dX4_breakLines_2 : decode cX4_breakLines 2 = .ok (.getfield 50, 3) := by decide +kernel
theorem dX4_breakLines_5 : decode cX4_breakLines 5 = .ok (.isub, 1) := by decide +kernel
theorem dX4_breakLines_6 : decode cX4_breakLines 6 = .ok (.istore_n 2, 1) := by decide +kernel
theorem dX4_breakLines_7 : decode cX4_breakLines 7 = .ok (.iconst 0, 1) := by decide +kernel
theorem dX4_breakLines_8 : decode cX4_breakLines 8 = .ok (.istore_n 3, 1) := by decide +kernel
theorem dX4_breakLines_9 : decode cX4_breakLines 9 = .ok (.iconst 0, 1) := by decide +kernel
theorem dX4_breakLines_10 : decode cX4_breakLines 10 = .ok (.istore 4, 2) := by decide +kernel
theorem dX4_breakLines_12 : decode cX4_breakLines 12 = .ok (.iconst 0, 1) := by decide +kernel
theorem dX4_breakLines_13 : decode cX4_breakLines 13 = .ok (.istore 5, 2) := by decide +kernel
theorem dX4_breakLines_15 : decode cX4_breakLines 15 = .ok (.iconst 0, 1) := by decide +kernel
theorem dX4_breakLines_16 : decode cX4_breakLines 16 = .ok (.istore 6, 2) := by decide +kernel
theorem dX4_breakLines_18 : decode cX4_breakLines 18 = .ok (.iload 6, 2) := by decide +kernel
theorem dX4_breakLines_20 : decode cX4_breakLines 20 = .ok (.aload_n 0, 1) := by decide +kernel
theorem dX4_breakLines_21 : decode cX4_breakLines 21 = .ok (.getfield 53, 3) := by decide +kernel
theorem dX4_breakLines_24 : decode cX4_breakLines 24 = .ok (.if_icmp .ge 81, 3) := by decide +kernel
theorem dX4_breakLines_27 : decode cX4_breakLines 27 = .ok (.iload 5, 2) := by decide +kernel
theorem dX4_breakLines_29 : decode cX4_breakLines 29 = .ok (.ifCond .eq 17, 3) := by decide +kernel
theorem dX4_breakLines_32 : decode cX4_breakLines 32 = .ok (.iload 4, 2) := by decide +kernel
theorem dX4_breakLines_34 : decode cX4_breakLines 34 = .ok (.aload_n 0, 1) := by decide +kernel
theorem dX4_breakLines_35 : decode cX4_breakLines 35 = .ok (.getfield 18, 3) := by decide +kernel
theorem dX4_breakLines_38 : decode cX4_breakLines 38 = .ok (.iload 6, 2) := by decide +kernel
theorem dX4_breakLines_40 : decode cX4_breakLines 40 = .ok (.iaload, 1) := by decide +kernel
theorem dX4_breakLines_41 : decode cX4_breakLines 41 = .ok (.iadd, 1) := by decide +kernel
theorem dX4_breakLines_42 : decode cX4_breakLines 42 = .ok (.iload_n 2, 1) := by decide +kernel
theorem dX4_breakLines_43 : decode cX4_breakLines 43 = .ok (.if_icmp .le 9, 3) := by decide +kernel
theorem dX4_breakLines_46 : decode cX4_breakLines 46 = .ok (.iconst 0, 1) := by decide +kernel
theorem dX4_breakLines_47 : decode cX4_breakLines 47 = .ok (.istore 4, 2) := by decide +kernel
theorem dX4_breakLines_49 : decode cX4_breakLines 49 = .ok (.iinc 3 1, 3) := by decide +kernel
theorem dX4_breakLines_52 : decode cX4_breakLines 52 = .ok (.aload_n 0, 1) := by decide +kernel
theorem dX4_breakLines_53 : decode cX4_breakLines 53 = .ok (.getfield 28, 3) := by decide +kernel
theorem dX4_breakLines_56 : decode cX4_breakLines 56 = .ok (.iload_n 3, 1) := by decide +kernel
theorem dX4_breakLines_57 : decode cX4_breakLines 57 = .ok (.iconst 1, 1) := by decide +kernel
theorem dX4_breakLines_58 : decode cX4_breakLines 58 = .ok (.isub, 1) := by decide +kernel
theorem dX4_breakLines_59 : decode cX4_breakLines 59 = .ok (.iload 4, 2) := by decide +kernel
theorem dX4_breakLines_61 : decode cX4_breakLines 61 = .ok (.aload_n 0, 1) := by decide +kernel
theorem dX4_breakLines_62 : decode cX4_breakLines 62 = .ok (.getfield 18, 3) := by decide +kernel
theorem dX4_breakLines_65 : decode cX4_breakLines 65 = .ok (.iload 6, 2) := by decide +kernel
theorem dX4_breakLines_67 : decode cX4_breakLines 67 = .ok (.iaload, 1) := by decide +kernel
theorem dX4_breakLines_68 : decode cX4_breakLines 68 = .ok (.iadd, 1) := by decide +kernel
theorem dX4_breakLines_69 : decode cX4_breakLines 69 = .ok (.iastore, 1) := by decide +kernel
theorem dX4_breakLines_70 : decode cX4_breakLines 70 = .ok (.iload 4, 2) := by decide +kernel
theorem dX4_breakLines_72 : decode cX4_breakLines 72 = .ok (.aload_n 0, 1) := by decide +kernel
theorem dX4_breakLines_73 : decode cX4_breakLines 73 = .ok (.getfield 21, 3) := by decide +kernel
theorem dX4_breakLines_76 : decode cX4_breakLines 76 = .ok (.iload 6, 2) := by decide +kernel
theorem dX4_breakLines_78 : decode cX4_breakLines 78 = .ok (.iaload, 1) := by decide +kernel
theorem dX4_breakLines_79 : decode cX4_breakLines 79 = .ok (.iadd, 1) := by decide +kernel
theorem dX4_breakLines_80 : decode cX4_breakLines 80 = .ok (.istore 4, 2) := by decide +kernel
theorem dX4_breakLines_82 : decode cX4_breakLines 82 = .ok (.aload_n 0, 1) := by decide +kernel
theorem dX4_breakLines_83 : decode cX4_breakLines 83 = .ok (.getfield 24, 3) := by decide +kernel
theorem dX4_breakLines_86 : decode cX4_breakLines 86 = .ok (.iload 6, 2) := by decide +kernel
theorem dX4_breakLines_88 : decode cX4_breakLines 88 = .ok (.baload, 1) := by decide +kernel
theorem dX4_breakLines_89 : decode cX4_breakLines 89 = .ok (.ifCond .ne 7, 3) := by decide +kernel
theorem dX4_breakLines_92 : decode cX4_breakLines 92 = .ok (.iconst 1, 1) := by decide +kernel
theorem dX4_breakLines_93 : decode cX4_breakLines 93 = .ok (.goto 4, 3) := by decide +kernel
theorem dX4_breakLines_96 : decode cX4_breakLines 96 = .ok (.iconst 0, 1) := by decide +kernel
theorem dX4_breakLines_97 : decode cX4_breakLines 97 = .ok (.istore 5, 2) := by decide +kernel
theorem dX4_breakLines_99 : decode cX4_breakLines 99 = .ok (.iinc 6 1, 3) := by decide +kernel
theorem dX4_breakLines_102 : decode cX4_breakLines 102 = .ok (.goto (-84), 3) := by decide +kernel
theorem dX4_breakLines_105 : decode cX4_breakLines 105 = .ok (.iload_n 3, 1) := by decide +kernel
theorem dX4_breakLines_106 : decode cX4_breakLines 106 = .ok (.ireturn, 1) := by decide +kernel
theorem dX4_heightWithin_0 : decode cX4_heightWithin 0 = .ok (.iload_n 1, 1) := by decide +kernel
theorem dX4_heightWithin_1 : decode cX4_heightWithin 1 = .ok (.iconst 0, 1) := by decide +kernel
theorem dX4_heightWithin_2 : decode cX4_heightWithin 2 = .ok (.bipush 36, 2) := by decide +kernel
theorem dX4_heightWithin_4 : decode cX4_heightWithin 4 = .ok (.invokestatic 89, 3) := by decide +kernel
theorem dX4_heightWithin_7 : decode cX4_heightWithin 7 = .ok (.istore_n 2, 1) := by decide +kernel
theorem dX4_heightWithin_8 : decode cX4_heightWithin 8 = .ok (.iload_n 2, 1) := by decide +kernel
theorem dX4_heightWithin_9 : decode cX4_heightWithin 9 = .ok (.ifCond .eq 20, 3) := by decide +kernel
theorem dX4_heightWithin_12 : decode cX4_heightWithin 12 = .ok (.aload_n 0, 1) := by decide +kernel
theorem dX4_heightWithin_13 : decode cX4_heightWithin 13 = .ok (.getfield 31, 3) := by decide +kernel
theorem dX4_heightWithin_16 : decode cX4_heightWithin 16 = .ok (.iload_n 1, 1) := by decide +kernel
theorem dX4_heightWithin_17 : decode cX4_heightWithin 17 = .ok (.iaload, 1) := by decide +kernel
theorem dX4_heightWithin_18 : decode cX4_heightWithin 18 = .ok (.iconst (-1), 1) := by decide +kernel
theorem dX4_heightWithin_19 : decode cX4_heightWithin 19 = .ok (.if_icmp .eq 10, 3) := by decide +kernel
theorem dX4_heightWithin_22 : decode cX4_heightWithin 22 = .ok (.aload_n 0, 1) := by decide +kernel
theorem dX4_heightWithin_23 : decode cX4_heightWithin 23 = .ok (.getfield 31, 3) := by decide +kernel
theorem dX4_heightWithin_26 : decode cX4_heightWithin 26 = .ok (.iload_n 1, 1) := by decide +kernel
theorem dX4_heightWithin_27 : decode cX4_heightWithin 27 = .ok (.iaload, 1) := by decide +kernel
theorem dX4_heightWithin_28 : decode cX4_heightWithin 28 = .ok (.ireturn, 1) := by decide +kernel
theorem dX4_heightWithin_29 : decode cX4_heightWithin 29 = .ok (.aload_n 0, 1) := by decide +kernel
theorem dX4_heightWithin_30 : decode cX4_heightWithin 30 = .ok (.invokevirtual 79, 3) := by decide +kernel
theorem dX4_heightWithin_33 : decode cX4_heightWithin 33 = .ok (.ifCond .eq 26, 3) := by decide +kernel
theorem dX4_heightWithin_36 : decode cX4_heightWithin 36 = .ok (.aload_n 0, 1) := by decide +kernel
theorem dX4_heightWithin_37 : decode cX4_heightWithin 37 = .ok (.iload_n 1, 1) := by decide +kernel
theorem dX4_heightWithin_38 : decode cX4_heightWithin 38 = .ok (.invokevirtual 93, 3) := by decide +kernel
theorem dX4_heightWithin_41 : decode cX4_heightWithin 41 = .ok (.aload_n 0, 1) := by decide +kernel
theorem dX4_heightWithin_42 : decode cX4_heightWithin 42 = .ok (.getfield 34, 3) := by decide +kernel
theorem dX4_heightWithin_45 : decode cX4_heightWithin 45 = .ok (.iconst 1, 1) := by decide +kernel
theorem dX4_heightWithin_46 : decode cX4_heightWithin 46 = .ok (.if_icmp .ne 7, 3) := by decide +kernel
theorem dX4_heightWithin_49 : decode cX4_heightWithin 49 = .ok (.iconst 2, 1) := by decide +kernel
theorem dX4_heightWithin_50 : decode cX4_heightWithin 50 = .ok (.goto 4, 3) := by decide +kernel
theorem dX4_heightWithin_53 : decode cX4_heightWithin 53 = .ok (.iconst 1, 1) := by decide +kernel
theorem dX4_heightWithin_54 : decode cX4_heightWithin 54 = .ok (.imul, 1) := by decide +kernel
theorem dX4_heightWithin_55 : decode cX4_heightWithin 55 = .ok (.istore_n 3, 1) := by decide +kernel
theorem dX4_heightWithin_56 : decode cX4_heightWithin 56 = .ok (.goto 9, 3) := by decide +kernel
theorem dX4_heightWithin_59 : decode cX4_heightWithin 59 = .ok (.aload_n 0, 1) := by decide +kernel
theorem dX4_heightWithin_60 : decode cX4_heightWithin 60 = .ok (.iload_n 1, 1) := by decide +kernel
theorem dX4_heightWithin_61 : decode cX4_heightWithin 61 = .ok (.invokevirtual 97, 3) := by decide +kernel
theorem dX4_heightWithin_64 : decode cX4_heightWithin 64 = .ok (.istore_n 3, 1) := by decide +kernel
theorem dX4_heightWithin_65 : decode cX4_heightWithin 65 = .ok (.iload_n 2, 1) := by decide +kernel
theorem dX4_heightWithin_66 : decode cX4_heightWithin 66 = .ok (.ifCond .eq 10, 3) := by decide +kernel
theorem dX4_heightWithin_69 : decode cX4_heightWithin 69 = .ok (.aload_n 0, 1) := by decide +kernel
theorem dX4_heightWithin_70 : decode cX4_heightWithin 70 = .ok (.getfield 31, 3) := by decide +kernel
theorem dX4_heightWithin_73 : decode cX4_heightWithin 73 = .ok (.iload_n 1, 1) := by decide +kernel
theorem dX4_heightWithin_74 : decode cX4_heightWithin 74 = .ok (.iload_n 3, 1) := by decide +kernel
theorem dX4_heightWithin_75 : decode cX4_heightWithin 75 = .ok (.iastore, 1) := by decide +kernel
theorem dX4_heightWithin_76 : decode cX4_heightWithin 76 = .ok (.iload_n 3, 1) := by decide +kernel
theorem dX4_heightWithin_77 : decode cX4_heightWithin 77 = .ok (.ireturn, 1) := by decide +kernel
theorem dX4_pictureHeight_0 : decode cX4_pictureHeight 0 = .ok (.aload_n 0, 1) := by decide +kernel
theorem dX4_pictureHeight_1 : decode cX4_pictureHeight 1 = .ok (.getfield 34, 3) := by decide +kernel
theorem dX4_pictureHeight_4 : decode cX4_pictureHeight 4 = .ok (.iconst 5, 1) := by decide +kernel
theorem dX4_pictureHeight_5 : decode cX4_pictureHeight 5 = .ok (.if_icmp .eq 19, 3) := by decide +kernel
theorem dX4_pictureHeight_8 : decode cX4_pictureHeight 8 = .ok (.iload_n 1, 1) := by decide +kernel
theorem dX4_pictureHeight_9 : decode cX4_pictureHeight 9 = .ok (.aload_n 0, 1) := by decide +kernel
theorem dX4_pictureHeight_10 : decode cX4_pictureHeight 10 = .ok (.getfield 38, 3) := by decide +kernel
theorem dX4_pictureHeight_13 : decode cX4_pictureHeight 13 = .ok (.if_icmp .ge 11, 3) := by decide +kernel
theorem dX4_pictureHeight_16 : decode cX4_pictureHeight 16 = .ok (.aload_n 0, 1) := by decide +kernel
theorem dX4_pictureHeight_17 : decode cX4_pictureHeight 17 = .ok (.getfield 38, 3) := by decide +kernel
theorem dX4_pictureHeight_20 : decode cX4_pictureHeight 20 = .ok (.iconst 1, 1) := by decide +kernel
theorem dX4_pictureHeight_21 : decode cX4_pictureHeight 21 = .ok (.if_icmp .ge 8, 3) := by decide +kernel
theorem dX4_pictureHeight_24 : decode cX4_pictureHeight 24 = .ok (.aload_n 0, 1) := by decide +kernel
theorem dX4_pictureHeight_25 : decode cX4_pictureHeight 25 = .ok (.getfield 41, 3) := by decide +kernel
theorem dX4_pictureHeight_28 : decode cX4_pictureHeight 28 = .ok (.ireturn, 1) := by decide +kernel
theorem dX4_pictureHeight_29 : decode cX4_pictureHeight 29 = .ok (.iconst 1, 1) := by decide +kernel
theorem dX4_pictureHeight_30 : decode cX4_pictureHeight 30 = .ok (.iload_n 1, 1) := by decide +kernel
theorem dX4_pictureHeight_31 : decode cX4_pictureHeight 31 = .ok (.i2f, 1) := by decide +kernel
theorem dX4_pictureHeight_32 : decode cX4_pictureHeight 32 = .ok (.aload_n 0, 1) := by decide +kernel
theorem dX4_pictureHeight_33 : decode cX4_pictureHeight 33 = .ok (.getfield 38, 3) := by decide +kernel
theorem dX4_pictureHeight_36 : decode cX4_pictureHeight 36 = .ok (.i2f, 1) := by decide +kernel
theorem dX4_pictureHeight_37 : decode cX4_pictureHeight 37 = .ok (.fdiv, 1) := by decide +kernel
theorem dX4_pictureHeight_38 : decode cX4_pictureHeight 38 = .ok (.aload_n 0, 1) := by decide +kernel
theorem dX4_pictureHeight_39 : decode cX4_pictureHeight 39 = .ok (.getfield 41, 3) := by decide +kernel
theorem dX4_pictureHeight_42 : decode cX4_pictureHeight 42 = .ok (.i2f, 1) := by decide +kernel
theorem dX4_pictureHeight_43 : decode cX4_pictureHeight 43 = .ok (.fmul, 1) := by decide +kernel
theorem dX4_pictureHeight_44 : decode cX4_pictureHeight 44 = .ok (.f2i, 1) := by decide +kernel
theorem dX4_pictureHeight_45 : decode cX4_pictureHeight 45 = .ok (.invokestatic 83, 3) := by decide +kernel
theorem dX4_pictureHeight_48 : decode cX4_pictureHeight 48 = .ok (.ireturn, 1) := by decide +kernel
theorem dX4_raggedness_0 : decode cX4_raggedness 0 = .ok (.iload_n 1, 1) := by decide +kernel
theorem dX4_raggedness_1 : decode cX4_raggedness 1 = .ok (.aload_n 0, 1) := by decide +kernel
theorem dX4_raggedness_2 : decode cX4_raggedness 2 = .ok (.getfield 50, 3) := by decide +kernel
theorem dX4_raggedness_5 : decode cX4_raggedness 5 = .ok (.isub, 1) := by decide +kernel
theorem dX4_raggedness_6 : decode cX4_raggedness 6 = .ok (.istore_n 2, 1) := by decide +kernel
theorem dX4_raggedness_7 : decode cX4_raggedness 7 = .ok (.aload_n 0, 1) := by decide +kernel
theorem dX4_raggedness_8 : decode cX4_raggedness 8 = .ok (.iload_n 1, 1) := by decide +kernel
theorem dX4_raggedness_9 : decode cX4_raggedness 9 = .ok (.invokevirtual 93, 3) := by decide +kernel
theorem dX4_raggedness_12 : decode cX4_raggedness 12 = .ok (.istore_n 3, 1) := by decide +kernel
theorem dX4_raggedness_13 : decode cX4_raggedness 13 = .ok (.iload_n 3, 1) := by decide +kernel
theorem dX4_raggedness_14 : decode cX4_raggedness 14 = .ok (.iconst 1, 1) := by decide +kernel
theorem dX4_raggedness_15 : decode cX4_raggedness 15 = .ok (.if_icmp .lt 8, 3) := by decide +kernel
theorem dX4_raggedness_18 : decode cX4_raggedness 18 = .ok (.iload_n 2, 1) := by decide +kernel
theorem dX4_raggedness_19 : decode cX4_raggedness 19 = .ok (.iconst 1, 1) := by decide +kernel
theorem dX4_raggedness_20 : decode cX4_raggedness 20 = .ok (.if_icmp .ge 5, 3) := by decide +kernel
theorem dX4_raggedness_23 : decode cX4_raggedness 23 = .ok (.fconst 0, 1) := by decide +kernel
theorem dX4_raggedness_24 : decode cX4_raggedness 24 = .ok (.freturn, 1) := by decide +kernel
theorem dX4_raggedness_25 : decode cX4_raggedness 25 = .ok (.fconst 0, 1) := by decide +kernel
theorem dX4_raggedness_26 : decode cX4_raggedness 26 = .ok (.fstore 4, 2) := by decide +kernel
theorem dX4_raggedness_28 : decode cX4_raggedness 28 = .ok (.iconst 0, 1) := by decide +kernel
theorem dX4_raggedness_29 : decode cX4_raggedness 29 = .ok (.istore 5, 2) := by decide +kernel
theorem dX4_raggedness_31 : decode cX4_raggedness 31 = .ok (.iload 5, 2) := by decide +kernel
theorem dX4_raggedness_33 : decode cX4_raggedness 33 = .ok (.iload_n 3, 1) := by decide +kernel
theorem dX4_raggedness_34 : decode cX4_raggedness 34 = .ok (.if_icmp .ge 34, 3) := by decide +kernel
theorem dX4_raggedness_37 : decode cX4_raggedness 37 = .ok (.iload_n 2, 1) := by decide +kernel
theorem dX4_raggedness_38 : decode cX4_raggedness 38 = .ok (.aload_n 0, 1) := by decide +kernel
theorem dX4_raggedness_39 : decode cX4_raggedness 39 = .ok (.getfield 28, 3) := by decide +kernel
theorem dX4_raggedness_42 : decode cX4_raggedness 42 = .ok (.iload 5, 2) := by decide +kernel
theorem dX4_raggedness_44 : decode cX4_raggedness 44 = .ok (.iaload, 1) := by decide +kernel
theorem dX4_raggedness_45 : decode cX4_raggedness 45 = .ok (.isub, 1) := by decide +kernel
theorem dX4_raggedness_46 : decode cX4_raggedness 46 = .ok (.i2f, 1) := by decide +kernel
theorem dX4_raggedness_47 : decode cX4_raggedness 47 = .ok (.iload_n 2, 1) := by decide +kernel
theorem dX4_raggedness_48 : decode cX4_raggedness 48 = .ok (.i2f, 1) := by decide +kernel
theorem dX4_raggedness_49 : decode cX4_raggedness 49 = .ok (.fdiv, 1) := by decide +kernel
theorem dX4_raggedness_50 : decode cX4_raggedness 50 = .ok (.fstore 6, 2) := by decide +kernel
theorem dX4_raggedness_52 : decode cX4_raggedness 52 = .ok (.fload 4, 2) := by decide +kernel
theorem dX4_raggedness_54 : decode cX4_raggedness 54 = .ok (.fload 6, 2) := by decide +kernel
theorem dX4_raggedness_56 : decode cX4_raggedness 56 = .ok (.fload 6, 2) := by decide +kernel
theorem dX4_raggedness_58 : decode cX4_raggedness 58 = .ok (.fmul, 1) := by decide +kernel
theorem dX4_raggedness_59 : decode cX4_raggedness 59 = .ok (.fadd, 1) := by decide +kernel
theorem dX4_raggedness_60 : decode cX4_raggedness 60 = .ok (.fstore 4, 2) := by decide +kernel
theorem dX4_raggedness_62 : decode cX4_raggedness 62 = .ok (.iinc 5 1, 3) := by decide +kernel
theorem dX4_raggedness_65 : decode cX4_raggedness 65 = .ok (.goto (-34), 3) := by decide +kernel
theorem dX4_raggedness_68 : decode cX4_raggedness 68 = .ok (.fload 4, 2) := by decide +kernel
theorem dX4_raggedness_70 : decode cX4_raggedness 70 = .ok (.iload_n 3, 1) := by decide +kernel
theorem dX4_raggedness_71 : decode cX4_raggedness 71 = .ok (.i2f, 1) := by decide +kernel
theorem dX4_raggedness_72 : decode cX4_raggedness 72 = .ok (.fdiv, 1) := by decide +kernel
theorem dX4_raggedness_73 : decode cX4_raggedness 73 = .ok (.freturn, 1) := by decide +kernel
theorem dX4_inkWithin_0 : decode cX4_inkWithin 0 = .ok (.aload_n 0, 1) := by decide +kernel
theorem dX4_inkWithin_1 : decode cX4_inkWithin 1 = .ok (.invokevirtual 79, 3) := by decide +kernel
theorem dX4_inkWithin_4 : decode cX4_inkWithin 4 = .ok (.ifCond .ne 18, 3) := by decide +kernel
theorem dX4_inkWithin_7 : decode cX4_inkWithin 7 = .ok (.aload_n 0, 1) := by decide +kernel
theorem dX4_inkWithin_8 : decode cX4_inkWithin 8 = .ok (.getfield 38, 3) := by decide +kernel
theorem dX4_inkWithin_11 : decode cX4_inkWithin 11 = .ok (.iload_n 1, 1) := by decide +kernel
theorem dX4_inkWithin_12 : decode cX4_inkWithin 12 = .ok (.invokestatic 100, 3) := by decide +kernel
theorem dX4_inkWithin_15 : decode cX4_inkWithin 15 = .ok (.aload_n 0, 1) := by decide +kernel
theorem dX4_inkWithin_16 : decode cX4_inkWithin 16 = .ok (.iload_n 1, 1) := by decide +kernel
theorem dX4_inkWithin_17 : decode cX4_inkWithin 17 = .ok (.invokevirtual 103, 3) := by decide +kernel
theorem dX4_inkWithin_20 : decode cX4_inkWithin 20 = .ok (.imul, 1) := by decide +kernel
theorem dX4_inkWithin_21 : decode cX4_inkWithin 21 = .ok (.ireturn, 1) := by decide +kernel
theorem dX4_inkWithin_22 : decode cX4_inkWithin 22 = .ok (.iconst 0, 1) := by decide +kernel
theorem dX4_inkWithin_23 : decode cX4_inkWithin 23 = .ok (.istore_n 2, 1) := by decide +kernel
theorem dX4_inkWithin_24 : decode cX4_inkWithin 24 = .ok (.iconst 0, 1) := by decide +kernel
theorem dX4_inkWithin_25 : decode cX4_inkWithin 25 = .ok (.istore_n 3, 1) := by decide +kernel
theorem dX4_inkWithin_26 : decode cX4_inkWithin 26 = .ok (.iload_n 3, 1) := by decide +kernel
theorem dX4_inkWithin_27 : decode cX4_inkWithin 27 = .ok (.aload_n 0, 1) := by decide +kernel
theorem dX4_inkWithin_28 : decode cX4_inkWithin 28 = .ok (.getfield 44, 3) := by decide +kernel
theorem dX4_inkWithin_31 : decode cX4_inkWithin 31 = .ok (.if_icmp .ge 18, 3) := by decide +kernel
theorem dX4_inkWithin_34 : decode cX4_inkWithin 34 = .ok (.iload_n 2, 1) := by decide +kernel
theorem dX4_inkWithin_35 : decode cX4_inkWithin 35 = .ok (.aload_n 0, 1) := by decide +kernel
theorem dX4_inkWithin_36 : decode cX4_inkWithin 36 = .ok (.getfield 9, 3) := by decide +kernel
theorem dX4_inkWithin_39 : decode cX4_inkWithin 39 = .ok (.iload_n 3, 1) := by decide +kernel
theorem dX4_inkWithin_40 : decode cX4_inkWithin 40 = .ok (.iaload, 1) := by decide +kernel
theorem dX4_inkWithin_41 : decode cX4_inkWithin 41 = .ok (.iadd, 1) := by decide +kernel
theorem dX4_inkWithin_42 : decode cX4_inkWithin 42 = .ok (.istore_n 2, 1) := by decide +kernel
theorem dX4_inkWithin_43 : decode cX4_inkWithin 43 = .ok (.iinc 3 1, 3) := by decide +kernel
theorem dX4_inkWithin_46 : decode cX4_inkWithin 46 = .ok (.goto (-20), 3) := by decide +kernel
theorem dX4_inkWithin_49 : decode cX4_inkWithin 49 = .ok (.iload_n 2, 1) := by decide +kernel
theorem dX4_inkWithin_50 : decode cX4_inkWithin 50 = .ok (.ireturn, 1) := by decide +kernel
theorem dX5_init_0 : decode cX5_init 0 = .ok (.aload_n 0, 1) := by decide +kernel
theorem dX5_init_1 : decode cX5_init 1 = .ok (.invokespecial 3, 3) := by decide +kernel
theorem dX5_init_4 : decode cX5_init 4 = .ok (.aload_n 0, 1) := by decide +kernel
theorem dX5_init_5 : decode cX5_init 5 = .ok (.bipush 60, 2) := by decide +kernel
theorem dX5_init_7 : decode cX5_init 7 = .ok (.newarray .char, 2) := by decide +kernel
theorem dX5_init_9 : decode cX5_init 9 = .ok (.putfield 9, 3) := by decide +kernel
theorem dX5_init_12 : decode cX5_init 12 = .ok (.aload_n 0, 1) := by decide +kernel
theorem dX5_init_13 : decode cX5_init 13 = .ok (.iconst (-1), 1) := by decide +kernel
theorem dX5_init_14 : decode cX5_init 14 = .ok (.putfield 15, 3) := by decide +kernel
theorem dX5_init_17 : decode cX5_init 17 = .ok (.aload_n 0, 1) := by decide +kernel
theorem dX5_init_18 : decode cX5_init 18 = .ok (.new 19, 3) := by decide +kernel
theorem dX5_init_21 : decode cX5_init 21 = .ok (.dup, 1) := by decide +kernel
theorem dX5_init_22 : decode cX5_init 22 = .ok (.invokespecial 21, 3) := by decide +kernel
theorem dX5_init_25 : decode cX5_init 25 = .ok (.putfield 22, 3) := by decide +kernel
theorem dX5_init_28 : decode cX5_init 28 = .ok (.return_, 1) := by decide +kernel
theorem dX5_push_0 : decode cX5_push 0 = .ok (.iload_n 1, 1) := by decide +kernel
theorem dX5_push_1 : decode cX5_push 1 = .ok (.ifCond .eq 33, 3) := by decide +kernel
theorem dX5_push_4 : decode cX5_push 4 = .ok (.aload_n 0, 1) := by decide +kernel
theorem dX5_push_5 : decode cX5_push 5 = .ok (.getfield 26, 3) := by decide +kernel
theorem dX5_push_8 : decode cX5_push 8 = .ok (.bipush 60, 2) := by decide +kernel
theorem dX5_push_10 : decode cX5_push 10 = .ok (.if_icmp .ge 24, 3) := by decide +kernel
theorem dX5_push_13 : decode cX5_push 13 = .ok (.aload_n 0, 1) := by decide +kernel
theorem dX5_push_14 : decode cX5_push 14 = .ok (.getfield 9, 3) := by decide +kernel
theorem dX5_push_17 : decode cX5_push 17 = .ok (.aload_n 0, 1) := by decide +kernel
theorem dX5_push_18 : decode cX5_push 18 = .ok (.getfield 26, 3) := by decide +kernel
theorem dX5_push_21 : decode cX5_push 21 = .ok (.iload_n 1, 1) := by decide +kernel
theorem dX5_push_22 : decode cX5_push 22 = .ok (.i2c, 1) := by decide +kernel
theorem dX5_push_23 : decode cX5_push 23 = .ok (.castore, 1) := by decide +kernel
theorem dX5_push_24 : decode cX5_push 24 = .ok (.aload_n 0, 1) := by decide +kernel
theorem dX5_push_25 : decode cX5_push 25 = .ok (.dup, 1) := by decide +kernel
theorem dX5_push_26 : decode cX5_push 26 = .ok (.getfield 26, 3) := by decide +kernel
theorem dX5_push_29 : decode cX5_push 29 = .ok (.iconst 1, 1) := by decide +kernel
theorem dX5_push_30 : decode cX5_push 30 = .ok (.iadd, 1) := by decide +kernel
theorem dX5_push_31 : decode cX5_push 31 = .ok (.putfield 26, 3) := by decide +kernel
theorem dX5_push_34 : decode cX5_push 34 = .ok (.return_, 1) := by decide +kernel
theorem dX5_run_0 : decode cX5_run 0 = .ok (.aload_n 0, 1) := by decide +kernel
theorem dX5_run_1 : decode cX5_run 1 = .ok (.aload_n 1, 1) := by decide +kernel
theorem dX5_run_2 : decode cX5_run 2 = .ok (.putfield 29, 3) := by decide +kernel
theorem dX5_run_5 : decode cX5_run 5 = .ok (.aload_n 0, 1) := by decide +kernel
theorem dX5_run_6 : decode cX5_run 6 = .ok (.aload_n 0, 1) := by decide +kernel
theorem dX5_run_7 : decode cX5_run 7 = .ok (.getfield 26, 3) := by decide +kernel
theorem dX5_run_10 : decode cX5_run 10 = .ok (.putfield 33, 3) := by decide +kernel
theorem dX5_run_13 : decode cX5_run 13 = .ok (.aload_n 0, 1) := by decide +kernel
theorem dX5_run_14 : decode cX5_run 14 = .ok (.iconst 0, 1) := by decide +kernel
theorem dX5_run_15 : decode cX5_run 15 = .ok (.putfield 26, 3) := by decide +kernel
theorem dX5_run_18 : decode cX5_run 18 = .ok (.aload_n 0, 1) := by decide +kernel
theorem dX5_run_19 : decode cX5_run 19 = .ok (.iconst 0, 1) := by decide +kernel
theorem dX5_run_20 : decode cX5_run 20 = .ok (.putfield 36, 3) := by decide +kernel
theorem dX5_run_23 : decode cX5_run 23 = .ok (.aload_n 0, 1) := by decide +kernel
theorem dX5_run_24 : decode cX5_run 24 = .ok (.iconst (-1), 1) := by decide +kernel
theorem dX5_run_25 : decode cX5_run 25 = .ok (.putfield 39, 3) := by decide +kernel
theorem dX5_run_28 : decode cX5_run 28 = .ok (.iconst 1, 1) := by decide +kernel
theorem dX5_run_29 : decode cX5_run 29 = .ok (.istore_n 2, 1) := by decide +kernel
theorem dX5_run_30 : decode cX5_run 30 = .ok (.aload_n 0, 1) := by decide +kernel
theorem dX5_run_31 : decode cX5_run 31 = .ok (.invokevirtual 42, 3) := by decide +kernel
theorem dX5_run_34 : decode cX5_run 34 = .ok (.aload_n 0, 1) := by decide +kernel
theorem dX5_run_35 : decode cX5_run 35 = .ok (.getfield 36, 3) := by decide +kernel
theorem dX5_run_38 : decode cX5_run 38 = .ok (.aload_n 0, 1) := by decide +kernel
theorem dX5_run_39 : decode cX5_run 39 = .ok (.getfield 33, 3) := by decide +kernel
theorem dX5_run_42 : decode cX5_run 42 = .ok (.if_icmp .ge 19, 3) := by decide +kernel
theorem dX5_run_45 : decode cX5_run 45 = .ok (.iload_n 2, 1) := by decide +kernel
theorem dX5_run_46 : decode cX5_run 46 = .ok (.bipush 60, 2) := by decide +kernel
theorem dX5_run_48 : decode cX5_run 48 = .ok (.if_icmp .ge 13, 3) := by decide +kernel
theorem dX5_run_51 : decode cX5_run 51 = .ok (.aload_n 0, 1) := by decide +kernel
theorem dX5_run_52 : decode cX5_run 52 = .ok (.invokevirtual 42, 3) := by decide +kernel
theorem dX5_run_55 : decode cX5_run 55 = .ok (.iinc 2 1, 3) := by decide +kernel
theorem dX5_run_58 : decode cX5_run 58 = .ok (.goto (-24), 3) := by decide +kernel
theorem dX5_run_61 : decode cX5_run 61 = .ok (.aload_n 0, 1) := by decide +kernel
theorem dX5_run_62 : decode cX5_run 62 = .ok (.aload_n 0, 1) := by decide +kernel
theorem dX5_run_63 : decode cX5_run 63 = .ok (.getfield 39, 3) := by decide +kernel
theorem dX5_run_66 : decode cX5_run 66 = .ok (.putfield 15, 3) := by decide +kernel
theorem dX5_run_69 : decode cX5_run 69 = .ok (.iload_n 2, 1) := by decide +kernel
theorem dX5_run_70 : decode cX5_run 70 = .ok (.ireturn, 1) := by decide +kernel
theorem dX5_readCommand_0 : decode cX5_readCommand 0 = .ok (.aload_n 0, 1) := by decide +kernel
theorem dX5_readCommand_1 : decode cX5_readCommand 1 = .ok (.getfield 36, 3) := by decide +kernel
theorem dX5_readCommand_4 : decode cX5_readCommand 4 = .ok (.istore_n 1, 1) := by decide +kernel
theorem dX5_readCommand_5 : decode cX5_readCommand 5 = .ok (.aload_n 0, 1) := by decide +kernel
theorem dX5_readCommand_6 : decode cX5_readCommand 6 = .ok (.invokevirtual 45, 3) := by decide +kernel
theorem dX5_readCommand_9 : decode cX5_readCommand 9 = .ok (.istore_n 2, 1) := by decide +kernel
theorem dX5_readCommand_10 : decode cX5_readCommand 10 = .ok (.aload_n 0, 1) := by decide +kernel
theorem dX5_readCommand_11 : decode cX5_readCommand 11 = .ok (.iload_n 2, 1) := by decide +kernel
theorem dX5_readCommand_12 : decode cX5_readCommand 12 = .ok (.putfield 36, 3) := by decide +kernel
theorem dX5_readCommand_15 : decode cX5_readCommand 15 = .ok (.aload_n 0, 1) := by decide +kernel
theorem dX5_readCommand_16 : decode cX5_readCommand 16 = .ok (.iload_n 1, 1) := by decide +kernel
theorem dX5_readCommand_17 : decode cX5_readCommand 17 = .ok (.iload_n 2, 1) := by decide +kernel
theorem dX5_readCommand_18 : decode cX5_readCommand 18 = .ok (.ldc 49, 2) := by decide +kernel
theorem dX5_readCommand_20 : decode cX5_readCommand 20 = .ok (.invokevirtual 51, 3) := by decide +kernel
theorem dX5_readCommand_23 : decode cX5_readCommand 23 = .ok (.ifCond .eq 21, 3) := by decide +kernel
theorem dX5_readCommand_26 : decode cX5_readCommand 26 = .ok (.aload_n 0, 1) := by decide +kernel
theorem dX5_readCommand_27 : decode cX5_readCommand 27 = .ok (.getfield 29, 3) := by decide +kernel
theorem dX5_readCommand_30 : decode cX5_readCommand 30 = .ok (.aload_n 0, 1) := by decide +kernel
theorem dX5_readCommand_31 : decode cX5_readCommand 31 = .ok (.bipush 8, 2) := by decide +kernel
theorem dX5_readCommand_33 : decode cX5_readCommand 33 = .ok (.bipush 36, 2) := by decide +kernel
theorem dX5_readCommand_35 : decode cX5_readCommand 35 = .ok (.invokevirtual 55, 3) := by decide +kernel
theorem dX5_readCommand_38 : decode cX5_readCommand 38 = .ok (.putfield 59, 3) := by decide +kernel
theorem dX5_readCommand_41 : decode cX5_readCommand 41 = .ok (.goto 138, 3) := by decide +kernel
theorem dX5_readCommand_44 : decode cX5_readCommand 44 = .ok (.aload_n 0, 1) := by decide +kernel
theorem dX5_readCommand_45 : decode cX5_readCommand 45 = .ok (.iload_n 1, 1) := by decide +kernel
theorem dX5_readCommand_46 : decode cX5_readCommand 46 = .ok (.iload_n 2, 1) := by decide +kernel
theorem dX5_readCommand_47 : decode cX5_readCommand 47 = .ok (.ldc 63, 2) := by decide +kernel
theorem dX5_readCommand_49 : decode cX5_readCommand 49 = .ok (.invokevirtual 51, 3) := by decide +kernel
theorem dX5_readCommand_52 : decode cX5_readCommand 52 = .ok (.ifCond .eq 19, 3) := by decide +kernel
theorem dX5_readCommand_55 : decode cX5_readCommand 55 = .ok (.aload_n 0, 1) := by decide +kernel
theorem dX5_readCommand_56 : decode cX5_readCommand 56 = .ok (.getfield 29, 3) := by decide +kernel
theorem dX5_readCommand_59 : decode cX5_readCommand 59 = .ok (.aload_n 0, 1) := by decide +kernel
theorem dX5_readCommand_60 : decode cX5_readCommand 60 = .ok (.iconst 0, 1) := by decide +kernel
theorem dX5_readCommand_61 : decode cX5_readCommand 61 = .ok (.iconst 2, 1) := by decide +kernel
theorem dX5_readCommand_62 : decode cX5_readCommand 62 = .ok (.invokevirtual 55, 3) := by decide +kernel
theorem dX5_readCommand_65 : decode cX5_readCommand 65 = .ok (.putfield 65, 3) := by decide +kernel
theorem dX5_readCommand_68 : decode cX5_readCommand 68 = .ok (.goto 111, 3) := by decide +kernel
theorem dX5_readCommand_71 : decode cX5_readCommand 71 = .ok (.aload_n 0, 1) := by decide +kernel
theorem dX5_readCommand_72 : decode cX5_readCommand 72 = .ok (.iload_n 1, 1) := by decide +kernel
theorem dX5_readCommand_73 : decode cX5_readCommand 73 = .ok (.iload_n 2, 1) := by decide +kernel
theorem dX5_readCommand_74 : decode cX5_readCommand 74 = .ok (.ldc 67, 2) := by decide +kernel
theorem dX5_readCommand_76 : decode cX5_readCommand 76 = .ok (.invokevirtual 51, 3) := by decide +kernel
theorem dX5_readCommand_79 : decode cX5_readCommand 79 = .ok (.ifCond .eq 19, 3) := by decide +kernel
theorem dX5_readCommand_82 : decode cX5_readCommand 82 = .ok (.aload_n 0, 1) := by decide +kernel
theorem dX5_readCommand_83 : decode cX5_readCommand 83 = .ok (.getfield 29, 3) := by decide +kernel
theorem dX5_readCommand_86 : decode cX5_readCommand 86 = .ok (.aload_n 0, 1) := by decide +kernel
theorem dX5_readCommand_87 : decode cX5_readCommand 87 = .ok (.iconst 0, 1) := by decide +kernel
theorem dX5_readCommand_88 : decode cX5_readCommand 88 = .ok (.iconst 2, 1) := by decide +kernel
theorem dX5_readCommand_89 : decode cX5_readCommand 89 = .ok (.invokevirtual 55, 3) := by decide +kernel
theorem dX5_readCommand_92 : decode cX5_readCommand 92 = .ok (.putfield 69, 3) := by decide +kernel
theorem dX5_readCommand_95 : decode cX5_readCommand 95 = .ok (.goto 84, 3) := by decide +kernel
theorem dX5_readCommand_98 : decode cX5_readCommand 98 = .ok (.aload_n 0, 1) := by decide +kernel
theorem dX5_readCommand_99 : decode cX5_readCommand 99 = .ok (.iload_n 1, 1) := by decide +kernel
theorem dX5_readCommand_100 : decode cX5_readCommand 100 = .ok (.iload_n 2, 1) := by decide +kernel
theorem dX5_readCommand_101 : decode cX5_readCommand 101 = .ok (.ldc 72, 2) := by decide +kernel
theorem dX5_readCommand_103 : decode cX5_readCommand 103 = .ok (.invokevirtual 51, 3) := by decide +kernel
theorem dX5_readCommand_106 : decode cX5_readCommand 106 = .ok (.ifCond .eq 10, 3) := by decide +kernel
theorem dX5_readCommand_109 : decode cX5_readCommand 109 = .ok (.aload_n 0, 1) := by decide +kernel
theorem dX5_readCommand_110 : decode cX5_readCommand 110 = .ok (.invokevirtual 74, 3) := by decide +kernel
theorem dX5_readCommand_113 : decode cX5_readCommand 113 = .ok (.goto 66, 3) := by decide +kernel
theorem dX5_readCommand_116 : decode cX5_readCommand 116 = .ok (.aload_n 0, 1) := by decide +kernel
theorem dX5_readCommand_117 : decode cX5_readCommand 117 = .ok (.iload_n 1, 1) := by decide +kernel
theorem dX5_readCommand_118 : decode cX5_readCommand 118 = .ok (.iload_n 2, 1) := by decide +kernel
theorem dX5_readCommand_119 : decode cX5_readCommand 119 = .ok (.ldc 77, 2) := by decide +kernel
theorem dX5_readCommand_121 : decode cX5_readCommand 121 = .ok (.invokevirtual 51, 3) := by decide +kernel
theorem dX5_readCommand_124 : decode cX5_readCommand 124 = .ok (.ifCond .eq 11, 3) := by decide +kernel
theorem dX5_readCommand_127 : decode cX5_readCommand 127 = .ok (.aload_n 0, 1) := by decide +kernel
theorem dX5_readCommand_128 : decode cX5_readCommand 128 = .ok (.iload_n 1, 1) := by decide +kernel
theorem dX5_readCommand_129 : decode cX5_readCommand 129 = .ok (.invokevirtual 79, 3) := by decide +kernel
theorem dX5_readCommand_132 : decode cX5_readCommand 132 = .ok (.goto 47, 3) := by decide +kernel
theorem dX5_readCommand_135 : decode cX5_readCommand 135 = .ok (.aload_n 0, 1) := by decide +kernel
theorem dX5_readCommand_136 : decode cX5_readCommand 136 = .ok (.iload_n 1, 1) := by decide +kernel
theorem dX5_readCommand_137 : decode cX5_readCommand 137 = .ok (.iload_n 2, 1) := by decide +kernel
theorem dX5_readCommand_138 : decode cX5_readCommand 138 = .ok (.ldc 83, 2) := by decide +kernel
theorem dX5_readCommand_140 : decode cX5_readCommand 140 = .ok (.invokevirtual 51, 3) := by decide +kernel
theorem dX5_readCommand_143 : decode cX5_readCommand 143 = .ok (.ifCond .eq 11, 3) := by decide +kernel
theorem dX5_readCommand_146 : decode cX5_readCommand 146 = .ok (.aload_n 0, 1) := by decide +kernel
theorem dX5_readCommand_147 : decode cX5_readCommand 147 = .ok (.iload_n 1, 1) := by decide +kernel
theorem dX5_readCommand_148 : decode cX5_readCommand 148 = .ok (.invokevirtual 85, 3) := by decide +kernel
theorem dX5_readCommand_151 : decode cX5_readCommand 151 = .ok (.goto 28, 3) := by decide +kernel
theorem dX5_readCommand_154 : decode cX5_readCommand 154 = .ok (.aload_n 0, 1) := by decide +kernel
theorem dX5_readCommand_155 : decode cX5_readCommand 155 = .ok (.iload_n 1, 1) := by decide +kernel
theorem dX5_readCommand_156 : decode cX5_readCommand 156 = .ok (.iload_n 2, 1) := by decide +kernel
theorem dX5_readCommand_157 : decode cX5_readCommand 157 = .ok (.ldc 88, 2) := by decide +kernel
theorem dX5_readCommand_159 : decode cX5_readCommand 159 = .ok (.invokevirtual 51, 3) := by decide +kernel
theorem dX5_readCommand_162 : decode cX5_readCommand 162 = .ok (.ifCond .eq 11, 3) := by decide +kernel
theorem dX5_readCommand_165 : decode cX5_readCommand 165 = .ok (.aload_n 0, 1) := by decide +kernel
theorem dX5_readCommand_166 : decode cX5_readCommand 166 = .ok (.iload_n 1, 1) := by decide +kernel
theorem dX5_readCommand_167 : decode cX5_readCommand 167 = .ok (.invokevirtual 90, 3) := by decide +kernel
theorem dX5_readCommand_170 : decode cX5_readCommand 170 = .ok (.goto 9, 3) := by decide +kernel
theorem dX5_readCommand_173 : decode cX5_readCommand 173 = .ok (.aload_n 0, 1) := by decide +kernel
theorem dX5_readCommand_174 : decode cX5_readCommand 174 = .ok (.iconst 0, 1) := by decide +kernel
theorem dX5_readCommand_175 : decode cX5_readCommand 175 = .ok (.iload_n 1, 1) := by decide +kernel
theorem dX5_readCommand_176 : decode cX5_readCommand 176 = .ok (.invokevirtual 93, 3) := by decide +kernel
theorem dX5_readCommand_179 : decode cX5_readCommand 179 = .ok (.return_, 1) := by decide +kernel
theorem dX5_readMeasure_0 : decode cX5_readMeasure 0 = .ok (.aload_n 0, 1) := by decide +kernel
theorem dX5_readMeasure_1 : decode cX5_readMeasure 1 = .ok (.bipush 61, 2) := by decide +kernel
theorem dX5_readMeasure_3 : decode cX5_readMeasure 3 = .ok (.invokevirtual 97, 3) := by decide +kernel
theorem dX5_readMeasure_6 : decode cX5_readMeasure 6 = .ok (.aload_n 0, 1) := by decide +kernel
theorem dX5_readMeasure_7 : decode cX5_readMeasure 7 = .ok (.iload_n 1, 1) := by decide +kernel
theorem dX5_readMeasure_8 : decode cX5_readMeasure 8 = .ok (.iload_n 2, 1) := by decide +kernel
theorem dX5_readMeasure_9 : decode cX5_readMeasure 9 = .ok (.invokevirtual 101, 3) := by decide +kernel
theorem dX5_readMeasure_12 : decode cX5_readMeasure 12 = .ok (.istore_n 3, 1) := by decide +kernel
theorem dX5_readMeasure_13 : decode cX5_readMeasure 13 = .ok (.aload_n 0, 1) := by decide +kernel
theorem dX5_readMeasure_14 : decode cX5_readMeasure 14 = .ok (.bipush 59, 2) := by decide +kernel
theorem dX5_readMeasure_16 : decode cX5_readMeasure 16 = .ok (.invokevirtual 97, 3) := by decide +kernel
theorem dX5_readMeasure_19 : decode cX5_readMeasure 19 = .ok (.iload_n 3, 1) := by decide +kernel
theorem dX5_readMeasure_20 : decode cX5_readMeasure 20 = .ok (.ireturn, 1) := by decide +kernel
theorem dX5_readColumnCommand_0 : decode cX5_readColumnCommand 0 = .ok (.aload_n 0, 1) := by decide +kernel
theorem dX5_readColumnCommand_1 : decode cX5_readColumnCommand 1 = .ok (.invokevirtual 104, 3) := by decide +kernel
theorem dX5_readColumnCommand_4 : decode cX5_readColumnCommand 4 = .ok (.istore_n 1, 1) := by decide +kernel
theorem dX5_readColumnCommand_5 : decode cX5_readColumnCommand 5 = .ok (.aload_n 0, 1) := by decide +kernel
theorem dX5_readColumnCommand_6 : decode cX5_readColumnCommand 6 = .ok (.bipush 61, 2) := by decide +kernel
theorem dX5_readColumnCommand_8 : decode cX5_readColumnCommand 8 = .ok (.invokevirtual 97, 3) := by decide +kernel
theorem dX5_readColumnCommand_11 : decode cX5_readColumnCommand 11 = .ok (.aload_n 0, 1) := by decide +kernel
theorem dX5_readColumnCommand_12 : decode cX5_readColumnCommand 12 = .ok (.getfield 36, 3) := by decide +kernel
theorem dX5_readColumnCommand_15 : decode cX5_readColumnCommand 15 = .ok (.istore_n 2, 1) := by decide +kernel
theorem dX5_readColumnCommand_16 : decode cX5_readColumnCommand 16 = .ok (.aload_n 0, 1) := by decide +kernel
theorem dX5_readColumnCommand_17 : decode cX5_readColumnCommand 17 = .ok (.invokevirtual 45, 3) := by decide +kernel
theorem dX5_readColumnCommand_20 : decode cX5_readColumnCommand 20 = .ok (.istore_n 3, 1) := by decide +kernel
theorem dX5_readColumnCommand_21 : decode cX5_readColumnCommand 21 = .ok (.aload_n 0, 1) := by decide +kernel
theorem dX5_readColumnCommand_22 : decode cX5_readColumnCommand 22 = .ok (.iload_n 3, 1) := by decide +kernel
theorem dX5_readColumnCommand_23 : decode cX5_readColumnCommand 23 = .ok (.putfield 36, 3) := by decide +kernel
theorem dX5_readColumnCommand_26 : decode cX5_readColumnCommand 26 = .ok (.iconst 0, 1) := by decide +kernel
theorem dX5_readColumnCommand_27 : decode cX5_readColumnCommand 27 = .ok (.istore 4, 2) := by decide +kernel
theorem dX5_readColumnCommand_29 : decode cX5_readColumnCommand 29 = .ok (.iconst 0, 1) := by decide +kernel
theorem dX5_readColumnCommand_30 : decode cX5_readColumnCommand 30 = .ok (.istore 5, 2) := by decide +kernel
theorem dX5_readColumnCommand_32 : decode cX5_readColumnCommand 32 = .ok (.aload_n 0, 1) := by decide +kernel
theorem dX5_readColumnCommand_33 : decode cX5_readColumnCommand 33 = .ok (.iload_n 2, 1) := by decide +kernel
theorem dX5_readColumnCommand_34 : decode cX5_readColumnCommand 34 = .ok (.iload_n 3, 1) := by decide +kernel
theorem dX5_readColumnCommand_35 : decode cX5_readColumnCommand 35 = .ok (.ldc 107, 2) := by decide +kernel
theorem dX5_readColumnCommand_37 : decode cX5_readColumnCommand 37 = .ok (.invokevirtual 51, 3) := by decide +kernel
theorem dX5_readColumnCommand_40 : decode cX5_readColumnCommand 40 = .ok (.ifCond .eq 18, 3) := by decide +kernel
theorem dX5_readColumnCommand_43 : decode cX5_readColumnCommand 43 = .ok (.iconst 1, 1) := by decide +kernel
theorem dX5_readColumnCommand_44 : decode cX5_readColumnCommand 44 = .ok (.istore 4, 2) := by decide +kernel
theorem dX5_readColumnCommand_46 : decode cX5_readColumnCommand 46 = .ok (.aload_n 0, 1) := by decide +kernel
theorem dX5_readColumnCommand_47 : decode cX5_readColumnCommand 47 = .ok (.iconst 1, 1) := by decide +kernel
theorem dX5_readColumnCommand_48 : decode cX5_readColumnCommand 48 = .ok (.bipush 36, 2) := by decide +kernel
theorem dX5_readColumnCommand_50 : decode cX5_readColumnCommand 50 = .ok (.invokevirtual 101, 3) := by decide +kernel
theorem dX5_readColumnCommand_53 : decode cX5_readColumnCommand 53 = .ok (.istore 5, 2) := by decide +kernel
theorem dX5_readColumnCommand_55 : decode cX5_readColumnCommand 55 = .ok (.goto 42, 3) := by decide +kernel
theorem dX5_readColumnCommand_58 : decode cX5_readColumnCommand 58 = .ok (.aload_n 0, 1) := by decide +kernel
theorem dX5_readColumnCommand_59 : decode cX5_readColumnCommand 59 = .ok (.iload_n 2, 1) := by decide +kernel
theorem dX5_readColumnCommand_60 : decode cX5_readColumnCommand 60 = .ok (.iload_n 3, 1) := by decide +kernel
theorem dX5_readColumnCommand_61 : decode cX5_readColumnCommand 61 = .ok (.ldc 109, 2) := by decide +kernel
theorem dX5_readColumnCommand_63 : decode cX5_readColumnCommand 63 = .ok (.invokevirtual 51, 3) := by decide +kernel
theorem dX5_readColumnCommand_66 : decode cX5_readColumnCommand 66 = .ok (.ifCond .eq 18, 3) := by decide +kernel
theorem dX5_readColumnCommand_69 : decode cX5_readColumnCommand 69 = .ok (.iconst 2, 1) := by decide +kernel
theorem dX5_readColumnCommand_70 : decode cX5_readColumnCommand 70 = .ok (.istore 4, 2) := by decide +kernel
theorem dX5_readColumnCommand_72 : decode cX5_readColumnCommand 72 = .ok (.aload_n 0, 1) := by decide +kernel
theorem dX5_readColumnCommand_73 : decode cX5_readColumnCommand 73 = .ok (.iconst 1, 1) := by decide +kernel
theorem dX5_readColumnCommand_74 : decode cX5_readColumnCommand 74 = .ok (.bipush 99, 2) := by decide +kernel
theorem dX5_readColumnCommand_76 : decode cX5_readColumnCommand 76 = .ok (.invokevirtual 101, 3) := by decide +kernel
theorem dX5_readColumnCommand_79 : decode cX5_readColumnCommand 79 = .ok (.istore 5, 2) := by decide +kernel
theorem dX5_readColumnCommand_81 : decode cX5_readColumnCommand 81 = .ok (.goto 16, 3) := by decide +kernel
theorem dX5_readColumnCommand_84 : decode cX5_readColumnCommand 84 = .ok (.aload_n 0, 1) := by decide +kernel
theorem dX5_readColumnCommand_85 : decode cX5_readColumnCommand 85 = .ok (.aload_n 0, 1) := by decide +kernel
theorem dX5_readColumnCommand_86 : decode cX5_readColumnCommand 86 = .ok (.iload_n 2, 1) := by decide +kernel
theorem dX5_readColumnCommand_87 : decode cX5_readColumnCommand 87 = .ok (.iload_n 3, 1) := by decide +kernel
theorem dX5_readColumnCommand_88 : decode cX5_readColumnCommand 88 = .ok (.ldc 111, 2) := by decide +kernel
theorem dX5_readColumnCommand_90 : decode cX5_readColumnCommand 90 = .ok (.invokevirtual 51, 3) := by decide +kernel
theorem dX5_readColumnCommand_93 : decode cX5_readColumnCommand 93 = .ok (.iload_n 2, 1) := by decide +kernel
theorem dX5_readColumnCommand_94 : decode cX5_readColumnCommand 94 = .ok (.invokevirtual 93, 3) := by decide +kernel
theorem dX5_readColumnCommand_97 : decode cX5_readColumnCommand 97 = .ok (.aload_n 0, 1) := by decide +kernel
theorem dX5_readColumnCommand_98 : decode cX5_readColumnCommand 98 = .ok (.bipush 59, 2) := by decide +kernel
theorem dX5_readColumnCommand_100 : decode cX5_readColumnCommand 100 = .ok (.invokevirtual 97, 3) := by decide +kernel
theorem dX5_readColumnCommand_103 : decode cX5_readColumnCommand 103 = .ok (.aload_n 0, 1) := by decide +kernel
theorem dX5_readColumnCommand_104 : decode cX5_readColumnCommand 104 = .ok (.getfield 29, 3) := by decide +kernel
theorem dX5_readColumnCommand_107 : decode cX5_readColumnCommand 107 = .ok (.iload_n 1, 1) := by decide +kernel
theorem dX5_readColumnCommand_108 : decode cX5_readColumnCommand 108 = .ok (.iload 4, 2) := by decide +kernel
theorem dX5_readColumnCommand_110 : decode cX5_readColumnCommand 110 = .ok (.iload 5, 2) := by decide +kernel
theorem dX5_readColumnCommand_112 : decode cX5_readColumnCommand 112 = .ok (.invokevirtual 113, 3) := by decide +kernel
theorem dX5_readColumnCommand_115 : decode cX5_readColumnCommand 115 = .ok (.return_, 1) := by decide +kernel
theorem dX5_readRowCommand_0 : decode cX5_readRowCommand 0 = .ok (.aload_n 0, 1) := by decide +kernel
theorem dX5_readRowCommand_1 : decode cX5_readRowCommand 1 = .ok (.bipush 59, 2) := by decide +kernel
theorem dX5_readRowCommand_3 : decode cX5_readRowCommand 3 = .ok (.invokevirtual 97, 3) := by decide +kernel
theorem dX5_readRowCommand_6 : decode cX5_readRowCommand 6 = .ok (.aload_n 0, 1) := by decide +kernel
theorem dX5_readRowCommand_7 : decode cX5_readRowCommand 7 = .ok (.getfield 29, 3) := by decide +kernel
theorem dX5_readRowCommand_10 : decode cX5_readRowCommand 10 = .ok (.getfield 117, 3) := by decide +kernel
theorem dX5_readRowCommand_13 : decode cX5_readRowCommand 13 = .ok (.bipush 6, 2) := by decide +kernel
theorem dX5_readRowCommand_15 : decode cX5_readRowCommand 15 = .ok (.if_icmp .lt 11, 3) := by decide +kernel
theorem dX5_readRowCommand_18 : decode cX5_readRowCommand 18 = .ok (.aload_n 0, 1) := by decide +kernel
theorem dX5_readRowCommand_19 : decode cX5_readRowCommand 19 = .ok (.iload_n 1, 1) := by decide +kernel
theorem dX5_readRowCommand_20 : decode cX5_readRowCommand 20 = .ok (.invokevirtual 120, 3) := by decide +kernel
theorem dX5_readRowCommand_23 : decode cX5_readRowCommand 23 = .ok (.goto 16, 3) := by decide +kernel
theorem dX5_readRowCommand_26 : decode cX5_readRowCommand 26 = .ok (.aload_n 0, 1) := by decide +kernel
theorem dX5_readRowCommand_27 : decode cX5_readRowCommand 27 = .ok (.getfield 29, 3) := by decide +kernel
theorem dX5_readRowCommand_30 : decode cX5_readRowCommand 30 = .ok (.dup, 1) := by decide +kernel
theorem dX5_readRowCommand_31 : decode cX5_readRowCommand 31 = .ok (.getfield 117, 3) := by decide +kernel
theorem dX5_readRowCommand_34 : decode cX5_readRowCommand 34 = .ok (.iconst 1, 1) := by decide +kernel
theorem dX5_readRowCommand_35 : decode cX5_readRowCommand 35 = .ok (.iadd, 1) := by decide +kernel
theorem dX5_readRowCommand_36 : decode cX5_readRowCommand 36 = .ok (.putfield 117, 3) := by decide +kernel
theorem dX5_readRowCommand_39 : decode cX5_readRowCommand 39 = .ok (.return_, 1) := by decide +kernel
theorem dX5_readCellCommand_0 : decode cX5_readCellCommand 0 = .ok (.aload_n 0, 1) := by decide +kernel
theorem dX5_readCellCommand_1 : decode cX5_readCellCommand 1 = .ok (.invokevirtual 104, 3) := by decide +kernel
theorem dX5_readCellCommand_4 : decode cX5_readCellCommand 4 = .ok (.istore_n 2, 1) := by decide +kernel
theorem dX5_readCellCommand_5 : decode cX5_readCellCommand 5 = .ok (.aload_n 0, 1) := by decide +kernel
theorem dX5_readCellCommand_6 : decode cX5_readCellCommand 6 = .ok (.iload_n 2, 1) := by decide +kernel
theorem dX5_readCellCommand_7 : decode cX5_readCellCommand 7 = .ok (.invokevirtual 123, 3) := by decide +kernel
theorem dX5_readCellCommand_10 : decode cX5_readCellCommand 10 = .ok (.istore_n 3, 1) := by decide +kernel
theorem dX5_readCellCommand_11 : decode cX5_readCellCommand 11 = .ok (.aload_n 0, 1) := by decide +kernel
theorem dX5_readCellCommand_12 : decode cX5_readCellCommand 12 = .ok (.getfield 22, 3) := by decide +kernel
theorem dX5_readCellCommand_15 : decode cX5_readCellCommand 15 = .ok (.aload_n 0, 1) := by decide +kernel
theorem dX5_readCellCommand_16 : decode cX5_readCellCommand 16 = .ok (.invokevirtual 127, 3) := by decide +kernel
theorem dX5_readCellCommand_19 : decode cX5_readCellCommand 19 = .ok (.invokevirtual 130, 3) := by decide +kernel
theorem dX5_readCellCommand_22 : decode cX5_readCellCommand 22 = .ok (.aload_n 0, 1) := by decide +kernel
theorem dX5_readCellCommand_23 : decode cX5_readCellCommand 23 = .ok (.bipush 61, 2) := by decide +kernel
theorem dX5_readCellCommand_25 : decode cX5_readCellCommand 25 = .ok (.invokevirtual 97, 3) := by decide +kernel
theorem dX5_readCellCommand_28 : decode cX5_readCellCommand 28 = .ok (.aload_n 0, 1) := by decide +kernel
theorem dX5_readCellCommand_29 : decode cX5_readCellCommand 29 = .ok (.invokevirtual 133, 3) := by decide +kernel
theorem dX5_readCellCommand_32 : decode cX5_readCellCommand 32 = .ok (.istore 4, 2) := by decide +kernel
theorem dX5_readCellCommand_34 : decode cX5_readCellCommand 34 = .ok (.iconst 1, 1) := by decide +kernel
theorem dX5_readCellCommand_35 : decode cX5_readCellCommand 35 = .ok (.istore 5, 2) := by decide +kernel
theorem dX5_readCellCommand_37 : decode cX5_readCellCommand 37 = .ok (.iload 5, 2) := by decide +kernel
theorem dX5_readCellCommand_39 : decode cX5_readCellCommand 39 = .ok (.bipush 12, 2) := by decide +kernel
theorem dX5_readCellCommand_41 : decode cX5_readCellCommand 41 = .ok (.if_icmp .ge 57, 3) := by decide +kernel
theorem dX5_readCellCommand_44 : decode cX5_readCellCommand 44 = .ok (.aload_n 0, 1) := by decide +kernel
theorem dX5_readCellCommand_45 : decode cX5_readCellCommand 45 = .ok (.aload_n 0, 1) := by decide +kernel
theorem dX5_readCellCommand_46 : decode cX5_readCellCommand 46 = .ok (.getfield 36, 3) := by decide +kernel
theorem dX5_readCellCommand_49 : decode cX5_readCellCommand 49 = .ok (.invokevirtual 136, 3) := by decide +kernel
theorem dX5_readCellCommand_52 : decode cX5_readCellCommand 52 = .ok (.ifCond .eq 46, 3) := by decide +kernel
theorem dX5_readCellCommand_55 : decode cX5_readCellCommand 55 = .ok (.aload_n 0, 1) := by decide +kernel
theorem dX5_readCellCommand_56 : decode cX5_readCellCommand 56 = .ok (.getfield 22, 3) := by decide +kernel
theorem dX5_readCellCommand_59 : decode cX5_readCellCommand 59 = .ok (.iload 4, 2) := by decide +kernel
theorem dX5_readCellCommand_61 : decode cX5_readCellCommand 61 = .ok (.aload_n 0, 1) := by decide +kernel
theorem dX5_readCellCommand_62 : decode cX5_readCellCommand 62 = .ok (.getfield 9, 3) := by decide +kernel
theorem dX5_readCellCommand_65 : decode cX5_readCellCommand 65 = .ok (.aload_n 0, 1) := by decide +kernel
theorem dX5_readCellCommand_66 : decode cX5_readCellCommand 66 = .ok (.getfield 36, 3) := by decide +kernel
theorem dX5_readCellCommand_69 : decode cX5_readCellCommand 69 = .ok (.caload, 1) := by decide +kernel
theorem dX5_readCellCommand_70 : decode cX5_readCellCommand 70 = .ok (.invokestatic 140, 3) := by decide +kernel
theorem dX5_readCellCommand_73 : decode cX5_readCellCommand 73 = .ok (.invokevirtual 144, 3) := by decide +kernel
theorem dX5_readCellCommand_76 : decode cX5_readCellCommand 76 = .ok (.aload_n 0, 1) := by decide +kernel
theorem dX5_readCellCommand_77 : decode cX5_readCellCommand 77 = .ok (.dup, 1) := by decide +kernel
theorem dX5_readCellCommand_78 : decode cX5_readCellCommand 78 = .ok (.getfield 36, 3) := by decide +kernel
theorem dX5_readCellCommand_81 : decode cX5_readCellCommand 81 = .ok (.iconst 1, 1) := by decide +kernel
theorem dX5_readCellCommand_82 : decode cX5_readCellCommand 82 = .ok (.iadd, 1) := by decide +kernel
theorem dX5_readCellCommand_83 : decode cX5_readCellCommand 83 = .ok (.putfield 36, 3) := by decide +kernel
theorem dX5_readCellCommand_86 : decode cX5_readCellCommand 86 = .ok (.aload_n 0, 1) := by decide +kernel
theorem dX5_readCellCommand_87 : decode cX5_readCellCommand 87 = .ok (.invokevirtual 133, 3) := by decide +kernel
theorem dX5_readCellCommand_90 : decode cX5_readCellCommand 90 = .ok (.istore 4, 2) := by decide +kernel
theorem dX5_readCellCommand_92 : decode cX5_readCellCommand 92 = .ok (.iinc 5 1, 3) := by decide +kernel
theorem dX5_readCellCommand_95 : decode cX5_readCellCommand 95 = .ok (.goto (-58), 3) := by decide +kernel
theorem dX5_readCellCommand_98 : decode cX5_readCellCommand 98 = .ok (.aload_n 0, 1) := by decide +kernel
theorem dX5_readCellCommand_99 : decode cX5_readCellCommand 99 = .ok (.getfield 22, 3) := by decide +kernel
theorem dX5_readCellCommand_102 : decode cX5_readCellCommand 102 = .ok (.iload 4, 2) := by decide +kernel
theorem dX5_readCellCommand_104 : decode cX5_readCellCommand 104 = .ok (.iconst 0, 1) := by decide +kernel
theorem dX5_readCellCommand_105 : decode cX5_readCellCommand 105 = .ok (.invokevirtual 144, 3) := by decide +kernel
theorem dX5_readCellCommand_108 : decode cX5_readCellCommand 108 = .ok (.aload_n 0, 1) := by decide +kernel
theorem dX5_readCellCommand_109 : decode cX5_readCellCommand 109 = .ok (.bipush 59, 2) := by decide +kernel
theorem dX5_readCellCommand_111 : decode cX5_readCellCommand 111 = .ok (.invokevirtual 97, 3) := by decide +kernel
theorem dX5_readCellCommand_114 : decode cX5_readCellCommand 114 = .ok (.aload_n 0, 1) := by decide +kernel
theorem dX5_readCellCommand_115 : decode cX5_readCellCommand 115 = .ok (.iload_n 1, 1) := by decide +kernel
theorem dX5_readCellCommand_116 : decode cX5_readCellCommand 116 = .ok (.iload_n 2, 1) := by decide +kernel
theorem dX5_readCellCommand_117 : decode cX5_readCellCommand 117 = .ok (.iload_n 3, 1) := by decide +kernel
theorem dX5_readCellCommand_118 : decode cX5_readCellCommand 118 = .ok (.invokevirtual 148, 3) := by decide +kernel
theorem dX5_readCellCommand_121 : decode cX5_readCellCommand 121 = .ok (.return_, 1) := by decide +kernel
theorem dX5_readPictureCommand_0 : decode cX5_readPictureCommand 0 = .ok (.aload_n 0, 1) := by decide +kernel
theorem dX5_readPictureCommand_1 : decode cX5_readPictureCommand 1 = .ok (.invokevirtual 104, 3) := by decide +kernel
theorem dX5_readPictureCommand_4 : decode cX5_readPictureCommand 4 = .ok (.istore_n 2, 1) := by decide +kernel
theorem dX5_readPictureCommand_5 : decode cX5_readPictureCommand 5 = .ok (.aload_n 0, 1) := by decide +kernel
theorem dX5_readPictureCommand_6 : decode cX5_readPictureCommand 6 = .ok (.iload_n 2, 1) := by decide +kernel
theorem dX5_readPictureCommand_7 : decode cX5_readPictureCommand 7 = .ok (.invokevirtual 123, 3) := by decide +kernel
theorem dX5_readPictureCommand_10 : decode cX5_readPictureCommand 10 = .ok (.istore_n 3, 1) := by decide +kernel
theorem dX5_readPictureCommand_11 : decode cX5_readPictureCommand 11 = .ok (.aload_n 0, 1) := by decide +kernel
theorem dX5_readPictureCommand_12 : decode cX5_readPictureCommand 12 = .ok (.bipush 61, 2) := by decide +kernel
theorem dX5_readPictureCommand_14 : decode cX5_readPictureCommand 14 = .ok (.invokevirtual 97, 3) := by decide +kernel
theorem dX5_readPictureCommand_17 : decode cX5_readPictureCommand 17 = .ok (.aload_n 0, 1) := by decide +kernel
theorem dX5_readPictureCommand_18 : decode cX5_readPictureCommand 18 = .ok (.iconst 1, 1) := by decide +kernel
theorem dX5_readPictureCommand_19 : decode cX5_readPictureCommand 19 = .ok (.bipush 20, 2) := by decide +kernel
theorem dX5_readPictureCommand_21 : decode cX5_readPictureCommand 21 = .ok (.invokevirtual 101, 3) := by decide +kernel
theorem dX5_readPictureCommand_24 : decode cX5_readPictureCommand 24 = .ok (.istore 4, 2) := by decide +kernel
theorem dX5_readPictureCommand_26 : decode cX5_readPictureCommand 26 = .ok (.aload_n 0, 1) := by decide +kernel
theorem dX5_readPictureCommand_27 : decode cX5_readPictureCommand 27 = .ok (.bipush 120, 2) := by decide +kernel
theorem dX5_readPictureCommand_29 : decode cX5_readPictureCommand 29 = .ok (.invokevirtual 97, 3) := by decide +kernel
theorem dX5_readPictureCommand_32 : decode cX5_readPictureCommand 32 = .ok (.aload_n 0, 1) := by decide +kernel
theorem dX5_readPictureCommand_33 : decode cX5_readPictureCommand 33 = .ok (.iconst 1, 1) := by decide +kernel
theorem dX5_readPictureCommand_34 : decode cX5_readPictureCommand 34 = .ok (.bipush 20, 2) := by decide +kernel
theorem dX5_readPictureCommand_36 : decode cX5_readPictureCommand 36 = .ok (.invokevirtual 101, 3) := by decide +kernel
theorem dX5_readPictureCommand_39 : decode cX5_readPictureCommand 39 = .ok (.istore 5, 2) := by decide +kernel
theorem dX5_readPictureCommand_41 : decode cX5_readPictureCommand 41 = .ok (.aload_n 0, 1) := by decide +kernel
theorem dX5_readPictureCommand_42 : decode cX5_readPictureCommand 42 = .ok (.bipush 59, 2) := by decide +kernel
theorem dX5_readPictureCommand_44 : decode cX5_readPictureCommand 44 = .ok (.invokevirtual 97, 3) := by decide +kernel
theorem dX5_readPictureCommand_47 : decode cX5_readPictureCommand 47 = .ok (.aload_n 0, 1) := by decide +kernel
theorem dX5_readPictureCommand_48 : decode cX5_readPictureCommand 48 = .ok (.getfield 22, 3) := by decide +kernel
theorem dX5_readPictureCommand_51 : decode cX5_readPictureCommand 51 = .ok (.iconst 4, 1) := by decide +kernel
theorem dX5_readPictureCommand_52 : decode cX5_readPictureCommand 52 = .ok (.invokevirtual 130, 3) := by decide +kernel
theorem dX5_readPictureCommand_55 : decode cX5_readPictureCommand 55 = .ok (.aload_n 0, 1) := by decide +kernel
theorem dX5_readPictureCommand_56 : decode cX5_readPictureCommand 56 = .ok (.getfield 22, 3) := by decide +kernel
theorem dX5_readPictureCommand_59 : decode cX5_readPictureCommand 59 = .ok (.iload 4, 2) := by decide +kernel
theorem dX5_readPictureCommand_61 : decode cX5_readPictureCommand 61 = .ok (.iload 5, 2) := by decide +kernel
theorem dX5_readPictureCommand_63 : decode cX5_readPictureCommand 63 = .ok (.invokevirtual 151, 3) := by decide +kernel
theorem dX5_readPictureCommand_66 : decode cX5_readPictureCommand 66 = .ok (.aload_n 0, 1) := by decide +kernel
theorem dX5_readPictureCommand_67 : decode cX5_readPictureCommand 67 = .ok (.iload_n 1, 1) := by decide +kernel
theorem dX5_readPictureCommand_68 : decode cX5_readPictureCommand 68 = .ok (.iload_n 2, 1) := by decide +kernel
theorem dX5_readPictureCommand_69 : decode cX5_readPictureCommand 69 = .ok (.iload_n 3, 1) := by decide +kernel
theorem dX5_readPictureCommand_70 : decode cX5_readPictureCommand 70 = .ok (.invokevirtual 148, 3) := by decide +kernel
theorem dX5_readPictureCommand_73 : decode cX5_readPictureCommand 73 = .ok (.return_, 1) := by decide +kernel
theorem dX5_putContent_0 : decode cX5_putContent 0 = .ok (.aload_n 0, 1) := by decide +kernel
theorem dX5_putContent_1 : decode cX5_putContent 1 = .ok (.getfield 29, 3) := by decide +kernel
theorem dX5_putContent_4 : decode cX5_putContent 4 = .ok (.getfield 117, 3) := by decide +kernel
theorem dX5_putContent_7 : decode cX5_putContent 7 = .ok (.iconst 1, 1) := by decide +kernel
theorem dX5_putContent_8 : decode cX5_putContent 8 = .ok (.isub, 1) := by decide +kernel
theorem dX5_putContent_9 : decode cX5_putContent 9 = .ok (.istore 4, 2) := by decide +kernel
theorem dX5_putContent_11 : decode cX5_putContent 11 = .ok (.iload 4, 2) := by decide +kernel
theorem dX5_putContent_13 : decode cX5_putContent 13 = .ok (.ifCond .lt 17, 3) := by decide +kernel
theorem dX5_putContent_16 : decode cX5_putContent 16 = .ok (.aload_n 0, 1) := by decide +kernel
theorem dX5_putContent_17 : decode cX5_putContent 17 = .ok (.getfield 29, 3) := by decide +kernel
theorem dX5_putContent_20 : decode cX5_putContent 20 = .ok (.iload 4, 2) := by decide +kernel
theorem dX5_putContent_22 : decode cX5_putContent 22 = .ok (.iload_n 2, 1) := by decide +kernel
theorem dX5_putContent_23 : decode cX5_putContent 23 = .ok (.iload_n 3, 1) := by decide +kernel
theorem dX5_putContent_24 : decode cX5_putContent 24 = .ok (.invokevirtual 154, 3) := by decide +kernel
theorem dX5_putContent_27 : decode cX5_putContent 27 = .ok (.ifCond .ne 11, 3) := by decide +kernel
theorem dX5_putContent_30 : decode cX5_putContent 30 = .ok (.aload_n 0, 1) := by decide +kernel
theorem dX5_putContent_31 : decode cX5_putContent 31 = .ok (.iload_n 1, 1) := by decide +kernel
theorem dX5_putContent_32 : decode cX5_putContent 32 = .ok (.invokevirtual 120, 3) := by decide +kernel
theorem dX5_putContent_35 : decode cX5_putContent 35 = .ok (.goto 21, 3) := by decide +kernel
theorem dX5_putContent_38 : decode cX5_putContent 38 = .ok (.aload_n 0, 1) := by decide +kernel
theorem dX5_putContent_39 : decode cX5_putContent 39 = .ok (.getfield 29, 3) := by decide +kernel
theorem dX5_putContent_42 : decode cX5_putContent 42 = .ok (.iload 4, 2) := by decide +kernel
theorem dX5_putContent_44 : decode cX5_putContent 44 = .ok (.iload_n 2, 1) := by decide +kernel
theorem dX5_putContent_45 : decode cX5_putContent 45 = .ok (.iload_n 3, 1) := by decide +kernel
theorem dX5_putContent_46 : decode cX5_putContent 46 = .ok (.invokevirtual 158, 3) := by decide +kernel
theorem dX5_putContent_49 : decode cX5_putContent 49 = .ok (.aload_n 0, 1) := by decide +kernel
theorem dX5_putContent_50 : decode cX5_putContent 50 = .ok (.getfield 22, 3) := by decide +kernel
theorem dX5_putContent_53 : decode cX5_putContent 53 = .ok (.invokevirtual 162, 3) := by decide +kernel
theorem dX5_putContent_56 : decode cX5_putContent 56 = .ok (.return_, 1) := by decide +kernel
theorem dX5_block_0 : decode cX5_block 0 = .ok (.aload_n 0, 1) := by decide +kernel
theorem dX5_block_1 : decode cX5_block 1 = .ok (.aload_n 0, 1) := by decide +kernel
theorem dX5_block_2 : decode cX5_block 2 = .ok (.getfield 39, 3) := by decide +kernel
theorem dX5_block_5 : decode cX5_block 5 = .ok (.ifCond .ge 7, 3) := by decide +kernel
theorem dX5_block_8 : decode cX5_block 8 = .ok (.iload_n 1, 1) := by decide +kernel
theorem dX5_block_9 : decode cX5_block 9 = .ok (.goto 7, 3) := by decide +kernel
theorem dX5_block_12 : decode cX5_block 12 = .ok (.aload_n 0, 1) := by decide +kernel
theorem dX5_block_13 : decode cX5_block 13 = .ok (.getfield 39, 3) := by decide +kernel
theorem dX5_block_16 : decode cX5_block 16 = .ok (.putfield 39, 3) := by decide +kernel
theorem dX5_block_19 : decode cX5_block 19 = .ok (.return_, 1) := by decide +kernel
theorem dX5_readColumn_0 : decode cX5_readColumn 0 = .ok (.aload_n 0, 1) := by decide +kernel
theorem dX5_readColumn_1 : decode cX5_readColumn 1 = .ok (.getfield 36, 3) := by decide +kernel
theorem dX5_readColumn_4 : decode cX5_readColumn 4 = .ok (.istore_n 1, 1) := by decide +kernel
theorem dX5_readColumn_5 : decode cX5_readColumn 5 = .ok (.aload_n 0, 1) := by decide +kernel
theorem dX5_readColumn_6 : decode cX5_readColumn 6 = .ok (.invokevirtual 166, 3) := by decide +kernel
theorem dX5_readColumn_9 : decode cX5_readColumn 9 = .ok (.istore_n 2, 1) := by decide +kernel
theorem dX5_readColumn_10 : decode cX5_readColumn 10 = .ok (.aload_n 0, 1) := by decide +kernel
theorem dX5_readColumn_11 : decode cX5_readColumn 11 = .ok (.iload_n 2, 1) := by decide +kernel
theorem dX5_readColumn_12 : decode cX5_readColumn 12 = .ok (.aload_n 0, 1) := by decide +kernel
theorem dX5_readColumn_13 : decode cX5_readColumn 13 = .ok (.getfield 29, 3) := by decide +kernel
theorem dX5_readColumn_16 : decode cX5_readColumn 16 = .ok (.getfield 169, 3) := by decide +kernel
theorem dX5_readColumn_19 : decode cX5_readColumn 19 = .ok (.if_icmp .ge 7, 3) := by decide +kernel
theorem dX5_readColumn_22 : decode cX5_readColumn 22 = .ok (.iconst 1, 1) := by decide +kernel
theorem dX5_readColumn_23 : decode cX5_readColumn 23 = .ok (.goto 4, 3) := by decide +kernel
theorem dX5_readColumn_26 : decode cX5_readColumn 26 = .ok (.iconst 0, 1) := by decide +kernel
theorem dX5_readColumn_27 : decode cX5_readColumn 27 = .ok (.iload_n 1, 1) := by decide +kernel
theorem dX5_readColumn_28 : decode cX5_readColumn 28 = .ok (.invokevirtual 93, 3) := by decide +kernel
theorem dX5_readColumn_31 : decode cX5_readColumn 31 = .ok (.iload_n 2, 1) := by decide +kernel
theorem dX5_readColumn_32 : decode cX5_readColumn 32 = .ok (.ireturn, 1) := by decide +kernel
theorem dX5_readSpan_0 : decode cX5_readSpan 0 = .ok (.aload_n 0, 1) := by decide +kernel
theorem dX5_readSpan_1 : decode cX5_readSpan 1 = .ok (.getfield 36, 3) := by decide +kernel
theorem dX5_readSpan_4 : decode cX5_readSpan 4 = .ok (.istore_n 2, 1) := by decide +kernel
theorem dX5_readSpan_5 : decode cX5_readSpan 5 = .ok (.aload_n 0, 1) := by decide +kernel
theorem dX5_readSpan_6 : decode cX5_readSpan 6 = .ok (.invokevirtual 166, 3) := by decide +kernel
theorem dX5_readSpan_9 : decode cX5_readSpan 9 = .ok (.istore_n 3, 1) := by decide +kernel
theorem dX5_readSpan_10 : decode cX5_readSpan 10 = .ok (.aload_n 0, 1) := by decide +kernel
theorem dX5_readSpan_11 : decode cX5_readSpan 11 = .ok (.iload_n 3, 1) := by decide +kernel
theorem dX5_readSpan_12 : decode cX5_readSpan 12 = .ok (.iconst 1, 1) := by decide +kernel
theorem dX5_readSpan_13 : decode cX5_readSpan 13 = .ok (.if_icmp .lt 20, 3) := by decide +kernel
theorem dX5_readSpan_16 : decode cX5_readSpan 16 = .ok (.iload_n 1, 1) := by decide +kernel
theorem dX5_readSpan_17 : decode cX5_readSpan 17 = .ok (.iload_n 3, 1) := by decide +kernel
theorem dX5_readSpan_18 : decode cX5_readSpan 18 = .ok (.iadd, 1) := by decide +kernel
theorem dX5_readSpan_19 : decode cX5_readSpan 19 = .ok (.aload_n 0, 1) := by decide +kernel
theorem dX5_readSpan_20 : decode cX5_readSpan 20 = .ok (.getfield 29, 3) := by decide +kernel
theorem dX5_readSpan_23 : decode cX5_readSpan 23 = .ok (.getfield 169, 3) := by decide +kernel
theorem dX5_readSpan_26 : decode cX5_readSpan 26 = .ok (.if_icmp .gt 7, 3) := by decide +kernel
theorem dX5_readSpan_29 : decode cX5_readSpan 29 = .ok (.iconst 1, 1) := by decide +kernel
theorem dX5_readSpan_30 : decode cX5_readSpan 30 = .ok (.goto 4, 3) := by decide +kernel
theorem dX5_readSpan_33 : decode cX5_readSpan 33 = .ok (.iconst 0, 1) := by decide +kernel
theorem dX5_readSpan_34 : decode cX5_readSpan 34 = .ok (.iload_n 2, 1) := by decide +kernel
theorem dX5_readSpan_35 : decode cX5_readSpan 35 = .ok (.invokevirtual 93, 3) := by decide +kernel
theorem dX5_readSpan_38 : decode cX5_readSpan 38 = .ok (.iload_n 3, 1) := by decide +kernel
theorem dX5_readSpan_39 : decode cX5_readSpan 39 = .ok (.ireturn, 1) := by decide +kernel
theorem dX5_readKind_0 : decode cX5_readKind 0 = .ok (.aload_n 0, 1) := by decide +kernel
theorem dX5_readKind_1 : decode cX5_readKind 1 = .ok (.getfield 36, 3) := by decide +kernel
theorem dX5_readKind_4 : decode cX5_readKind 4 = .ok (.aload_n 0, 1) := by decide +kernel
theorem dX5_readKind_5 : decode cX5_readKind 5 = .ok (.getfield 33, 3) := by decide +kernel
theorem dX5_readKind_8 : decode cX5_readKind 8 = .ok (.if_icmp .ge 18, 3) := by decide +kernel
theorem dX5_readKind_11 : decode cX5_readKind 11 = .ok (.aload_n 0, 1) := by decide +kernel
theorem dX5_readKind_12 : decode cX5_readKind 12 = .ok (.getfield 9, 3) := by decide +kernel
theorem dX5_readKind_15 : decode cX5_readKind 15 = .ok (.aload_n 0, 1) := by decide +kernel
theorem dX5_readKind_16 : decode cX5_readKind 16 = .ok (.getfield 36, 3) := by decide +kernel
theorem dX5_readKind_19 : decode cX5_readKind 19 = .ok (.caload, 1) := by decide +kernel
theorem dX5_readKind_20 : decode cX5_readKind 20 = .ok (.invokestatic 172, 3) := by decide +kernel
theorem dX5_readKind_23 : decode cX5_readKind 23 = .ok (.goto 4, 3) := by decide +kernel
theorem dX5_readKind_26 : decode cX5_readKind 26 = .ok (.iconst (-1), 1) := by decide +kernel
theorem dX5_readKind_27 : decode cX5_readKind 27 = .ok (.istore_n 1, 1) := by decide +kernel
theorem dX5_readKind_28 : decode cX5_readKind 28 = .ok (.aload_n 0, 1) := by decide +kernel
theorem dX5_readKind_29 : decode cX5_readKind 29 = .ok (.iload_n 1, 1) := by decide +kernel
theorem dX5_readKind_30 : decode cX5_readKind 30 = .ok (.ifCond .lt 7, 3) := by decide +kernel
theorem dX5_readKind_33 : decode cX5_readKind 33 = .ok (.iconst 1, 1) := by decide +kernel
theorem dX5_readKind_34 : decode cX5_readKind 34 = .ok (.goto 4, 3) := by decide +kernel
theorem dX5_readKind_37 : decode cX5_readKind 37 = .ok (.iconst 0, 1) := by decide +kernel
theorem dX5_readKind_38 : decode cX5_readKind 38 = .ok (.aload_n 0, 1) := by decide +kernel
theorem dX5_readKind_39 : decode cX5_readKind 39 = .ok (.getfield 36, 3) := by decide +kernel
theorem dX5_readKind_42 : decode cX5_readKind 42 = .ok (.invokevirtual 93, 3) := by decide +kernel
theorem dX5_readKind_45 : decode cX5_readKind 45 = .ok (.aload_n 0, 1) := by decide +kernel
theorem dX5_readKind_46 : decode cX5_readKind 46 = .ok (.dup, 1) := by decide +kernel
theorem dX5_readKind_47 : decode cX5_readKind 47 = .ok (.getfield 36, 3) := by decide +kernel
theorem dX5_readKind_50 : decode cX5_readKind 50 = .ok (.iconst 1, 1) := by decide +kernel
theorem dX5_readKind_51 : decode cX5_readKind 51 = .ok (.iadd, 1) := by decide +kernel
theorem dX5_readKind_52 : decode cX5_readKind 52 = .ok (.putfield 36, 3) := by decide +kernel
theorem dX5_readKind_55 : decode cX5_readKind 55 = .ok (.iload_n 1, 1) := by decide +kernel
theorem dX5_readKind_56 : decode cX5_readKind 56 = .ok (.ireturn, 1) := by decide +kernel
theorem dX5_readWord_0 : decode cX5_readWord 0 = .ok (.aload_n 0, 1) := by decide +kernel
theorem dX5_readWord_1 : decode cX5_readWord 1 = .ok (.invokevirtual 45, 3) := by decide +kernel
theorem dX5_readWord_4 : decode cX5_readWord 4 = .ok (.aload_n 0, 1) := by decide +kernel
theorem dX5_readWord_5 : decode cX5_readWord 5 = .ok (.getfield 36, 3) := by decide +kernel
theorem dX5_readWord_8 : decode cX5_readWord 8 = .ok (.bipush 12, 2) := by decide +kernel
theorem dX5_readWord_10 : decode cX5_readWord 10 = .ok (.iadd, 1) := by decide +kernel
theorem dX5_readWord_11 : decode cX5_readWord 11 = .ok (.invokestatic 175, 3) := by decide +kernel
theorem dX5_readWord_14 : decode cX5_readWord 14 = .ok (.istore_n 1, 1) := by decide +kernel
theorem dX5_readWord_15 : decode cX5_readWord 15 = .ok (.iload_n 1, 1) := by decide +kernel
theorem dX5_readWord_16 : decode cX5_readWord 16 = .ok (.aload_n 0, 1) := by decide +kernel
theorem dX5_readWord_17 : decode cX5_readWord 17 = .ok (.getfield 36, 3) := by decide +kernel
theorem dX5_readWord_20 : decode cX5_readWord 20 = .ok (.isub, 1) := by decide +kernel
theorem dX5_readWord_21 : decode cX5_readWord 21 = .ok (.istore_n 2, 1) := by decide +kernel
theorem dX5_readWord_22 : decode cX5_readWord 22 = .ok (.aload_n 0, 1) := by decide +kernel
theorem dX5_readWord_23 : decode cX5_readWord 23 = .ok (.iload_n 2, 1) := by decide +kernel
theorem dX5_readWord_24 : decode cX5_readWord 24 = .ok (.ifCond .le 7, 3) := by decide +kernel
theorem dX5_readWord_27 : decode cX5_readWord 27 = .ok (.iconst 1, 1) := by decide +kernel
theorem dX5_readWord_28 : decode cX5_readWord 28 = .ok (.goto 4, 3) := by decide +kernel
theorem dX5_readWord_31 : decode cX5_readWord 31 = .ok (.iconst 0, 1) := by decide +kernel
theorem dX5_readWord_32 : decode cX5_readWord 32 = .ok (.aload_n 0, 1) := by decide +kernel
theorem dX5_readWord_33 : decode cX5_readWord 33 = .ok (.getfield 36, 3) := by decide +kernel
theorem dX5_readWord_36 : decode cX5_readWord 36 = .ok (.invokevirtual 93, 3) := by decide +kernel
theorem dX5_readWord_39 : decode cX5_readWord 39 = .ok (.aload_n 0, 1) := by decide +kernel
theorem dX5_readWord_40 : decode cX5_readWord 40 = .ok (.iload_n 1, 1) := by decide +kernel
theorem dX5_readWord_41 : decode cX5_readWord 41 = .ok (.putfield 36, 3) := by decide +kernel
theorem dX5_readWord_44 : decode cX5_readWord 44 = .ok (.iload_n 2, 1) := by decide +kernel
theorem dX5_readWord_45 : decode cX5_readWord 45 = .ok (.ireturn, 1) := by decide +kernel
theorem dX5_readNumber_0 : decode cX5_readNumber 0 = .ok (.aload_n 0, 1) := by decide +kernel
theorem dX5_readNumber_1 : decode cX5_readNumber 1 = .ok (.getfield 36, 3) := by decide +kernel
theorem dX5_readNumber_4 : decode cX5_readNumber 4 = .ok (.istore_n 3, 1) := by decide +kernel
theorem dX5_readNumber_5 : decode cX5_readNumber 5 = .ok (.aload_n 0, 1) := by decide +kernel
theorem dX5_readNumber_6 : decode cX5_readNumber 6 = .ok (.invokevirtual 166, 3) := by decide +kernel
theorem dX5_readNumber_9 : decode cX5_readNumber 9 = .ok (.istore 4, 2) := by decide +kernel
theorem dX5_readNumber_11 : decode cX5_readNumber 11 = .ok (.iload 4, 2) := by decide +kernel
theorem dX5_readNumber_13 : decode cX5_readNumber 13 = .ok (.ifCond .le 26, 3) := by decide +kernel
theorem dX5_readNumber_16 : decode cX5_readNumber 16 = .ok (.aload_n 0, 1) := by decide +kernel
theorem dX5_readNumber_17 : decode cX5_readNumber 17 = .ok (.aload_n 0, 1) := by decide +kernel
theorem dX5_readNumber_18 : decode cX5_readNumber 18 = .ok (.getfield 36, 3) := by decide +kernel
theorem dX5_readNumber_21 : decode cX5_readNumber 21 = .ok (.invokevirtual 180, 3) := by decide +kernel
theorem dX5_readNumber_24 : decode cX5_readNumber 24 = .ok (.ifCond .eq 15, 3) := by decide +kernel
theorem dX5_readNumber_27 : decode cX5_readNumber 27 = .ok (.bipush 10, 2) := by decide +kernel
theorem dX5_readNumber_29 : decode cX5_readNumber 29 = .ok (.iload 4, 2) := by decide +kernel
theorem dX5_readNumber_31 : decode cX5_readNumber 31 = .ok (.imul, 1) := by decide +kernel
theorem dX5_readNumber_32 : decode cX5_readNumber 32 = .ok (.aload_n 0, 1) := by decide +kernel
theorem dX5_readNumber_33 : decode cX5_readNumber 33 = .ok (.invokevirtual 166, 3) := by decide +kernel
theorem dX5_readNumber_36 : decode cX5_readNumber 36 = .ok (.iadd, 1) := by decide +kernel
theorem dX5_readNumber_37 : decode cX5_readNumber 37 = .ok (.istore 4, 2) := by decide +kernel
theorem dX5_readNumber_39 : decode cX5_readNumber 39 = .ok (.aload_n 0, 1) := by decide +kernel
theorem dX5_readNumber_40 : decode cX5_readNumber 40 = .ok (.iload 4, 2) := by decide +kernel
theorem dX5_readNumber_42 : decode cX5_readNumber 42 = .ok (.iload_n 1, 1) := by decide +kernel
theorem dX5_readNumber_43 : decode cX5_readNumber 43 = .ok (.iload_n 2, 1) := by decide +kernel
theorem dX5_readNumber_44 : decode cX5_readNumber 44 = .ok (.invokestatic 183, 3) := by decide +kernel
theorem dX5_readNumber_47 : decode cX5_readNumber 47 = .ok (.iload_n 3, 1) := by decide +kernel
theorem dX5_readNumber_48 : decode cX5_readNumber 48 = .ok (.invokevirtual 93, 3) := by decide +kernel
theorem dX5_readNumber_51 : decode cX5_readNumber 51 = .ok (.iload 4, 2) := by decide +kernel
theorem dX5_readNumber_53 : decode cX5_readNumber 53 = .ok (.ireturn, 1) := by decide +kernel
theorem dX5_readDigit_0 : decode cX5_readDigit 0 = .ok (.aload_n 0, 1) := by decide +kernel
theorem dX5_readDigit_1 : decode cX5_readDigit 1 = .ok (.aload_n 0, 1) := by decide +kernel
theorem dX5_readDigit_2 : decode cX5_readDigit 2 = .ok (.aload_n 0, 1) := by decide +kernel
theorem dX5_readDigit_3 : decode cX5_readDigit 3 = .ok (.getfield 36, 3) := by decide +kernel
theorem dX5_readDigit_6 : decode cX5_readDigit 6 = .ok (.invokevirtual 180, 3) := by decide +kernel
theorem dX5_readDigit_9 : decode cX5_readDigit 9 = .ok (.aload_n 0, 1) := by decide +kernel
theorem dX5_readDigit_10 : decode cX5_readDigit 10 = .ok (.getfield 36, 3) := by decide +kernel
theorem dX5_readDigit_13 : decode cX5_readDigit 13 = .ok (.invokevirtual 93, 3) := by decide +kernel
theorem dX5_readDigit_16 : decode cX5_readDigit 16 = .ok (.aload_n 0, 1) := by decide +kernel
theorem dX5_readDigit_17 : decode cX5_readDigit 17 = .ok (.getfield 36, 3) := by decide +kernel
theorem dX5_readDigit_20 : decode cX5_readDigit 20 = .ok (.aload_n 0, 1) := by decide +kernel
theorem dX5_readDigit_21 : decode cX5_readDigit 21 = .ok (.getfield 33, 3) := by decide +kernel
theorem dX5_readDigit_24 : decode cX5_readDigit 24 = .ok (.if_icmp .ge 18, 3) := by decide +kernel
theorem dX5_readDigit_27 : decode cX5_readDigit 27 = .ok (.aload_n 0, 1) := by decide +kernel
theorem dX5_readDigit_28 : decode cX5_readDigit 28 = .ok (.getfield 9, 3) := by decide +kernel
theorem dX5_readDigit_31 : decode cX5_readDigit 31 = .ok (.aload_n 0, 1) := by decide +kernel
theorem dX5_readDigit_32 : decode cX5_readDigit 32 = .ok (.getfield 36, 3) := by decide +kernel
theorem dX5_readDigit_35 : decode cX5_readDigit 35 = .ok (.caload, 1) := by decide +kernel
theorem dX5_readDigit_36 : decode cX5_readDigit 36 = .ok (.bipush 48, 2) := by decide +kernel
theorem dX5_readDigit_38 : decode cX5_readDigit 38 = .ok (.isub, 1) := by decide +kernel
theorem dX5_readDigit_39 : decode cX5_readDigit 39 = .ok (.goto 4, 3) := by decide +kernel
theorem dX5_readDigit_42 : decode cX5_readDigit 42 = .ok (.iconst 0, 1) := by decide +kernel
theorem dX5_readDigit_43 : decode cX5_readDigit 43 = .ok (.istore_n 1, 1) := by decide +kernel
theorem dX5_readDigit_44 : decode cX5_readDigit 44 = .ok (.aload_n 0, 1) := by decide +kernel
theorem dX5_readDigit_45 : decode cX5_readDigit 45 = .ok (.dup, 1) := by decide +kernel
theorem dX5_readDigit_46 : decode cX5_readDigit 46 = .ok (.getfield 36, 3) := by decide +kernel
theorem dX5_readDigit_49 : decode cX5_readDigit 49 = .ok (.iconst 1, 1) := by decide +kernel
theorem dX5_readDigit_50 : decode cX5_readDigit 50 = .ok (.iadd, 1) := by decide +kernel
theorem dX5_readDigit_51 : decode cX5_readDigit 51 = .ok (.putfield 36, 3) := by decide +kernel
theorem dX5_readDigit_54 : decode cX5_readDigit 54 = .ok (.iload_n 1, 1) := by decide +kernel
theorem dX5_readDigit_55 : decode cX5_readDigit 55 = .ok (.ireturn, 1) := by decide +kernel
theorem dX5_skip_0 : decode cX5_skip 0 = .ok (.aload_n 0, 1) := by decide +kernel
theorem dX5_skip_1 : decode cX5_skip 1 = .ok (.aload_n 0, 1) := by decide +kernel
theorem dX5_skip_2 : decode cX5_skip 2 = .ok (.getfield 36, 3) := by decide +kernel
theorem dX5_skip_5 : decode cX5_skip 5 = .ok (.aload_n 0, 1) := by decide +kernel
theorem dX5_skip_6 : decode cX5_skip 6 = .ok (.getfield 33, 3) := by decide +kernel
theorem dX5_skip_9 : decode cX5_skip 9 = .ok (.if_icmp .ge 20, 3) := by decide +kernel
theorem dX5_skip_12 : decode cX5_skip 12 = .ok (.aload_n 0, 1) := by decide +kernel
theorem dX5_skip_13 : decode cX5_skip 13 = .ok (.getfield 9, 3) := by decide +kernel
theorem dX5_skip_16 : decode cX5_skip 16 = .ok (.aload_n 0, 1) := by decide +kernel
theorem dX5_skip_17 : decode cX5_skip 17 = .ok (.getfield 36, 3) := by decide +kernel
theorem dX5_skip_20 : decode cX5_skip 20 = .ok (.caload, 1) := by decide +kernel
theorem dX5_skip_21 : decode cX5_skip 21 = .ok (.iload_n 1, 1) := by decide +kernel
theorem dX5_skip_22 : decode cX5_skip 22 = .ok (.if_icmp .ne 7, 3) := by decide +kernel
theorem dX5_skip_25 : decode cX5_skip 25 = .ok (.iconst 1, 1) := by decide +kernel
theorem dX5_skip_26 : decode cX5_skip 26 = .ok (.goto 4, 3) := by decide +kernel
theorem dX5_skip_29 : decode cX5_skip 29 = .ok (.iconst 0, 1) := by decide +kernel
theorem dX5_skip_30 : decode cX5_skip 30 = .ok (.aload_n 0, 1) := by decide +kernel
theorem dX5_skip_31 : decode cX5_skip 31 = .ok (.getfield 36, 3) := by decide +kernel
theorem dX5_skip_34 : decode cX5_skip 34 = .ok (.invokevirtual 93, 3) := by decide +kernel
theorem dX5_skip_37 : decode cX5_skip 37 = .ok (.aload_n 0, 1) := by decide +kernel
theorem dX5_skip_38 : decode cX5_skip 38 = .ok (.dup, 1) := by decide +kernel
theorem dX5_skip_39 : decode cX5_skip 39 = .ok (.getfield 36, 3) := by decide +kernel
theorem dX5_skip_42 : decode cX5_skip 42 = .ok (.iconst 1, 1) := by decide +kernel
theorem dX5_skip_43 : decode cX5_skip 43 = .ok (.iadd, 1) := by decide +kernel
theorem dX5_skip_44 : decode cX5_skip 44 = .ok (.putfield 36, 3) := by decide +kernel
theorem dX5_skip_47 : decode cX5_skip 47 = .ok (.return_, 1) := by decide +kernel
theorem dX5_isDigitAt_0 : decode cX5_isDigitAt 0 = .ok (.iload_n 1, 1) := by decide +kernel
theorem dX5_isDigitAt_1 : decode cX5_isDigitAt 1 = .ok (.aload_n 0, 1) := by decide +kernel
theorem dX5_isDigitAt_2 : decode cX5_isDigitAt 2 = .ok (.getfield 33, 3) := by decide +kernel
theorem dX5_isDigitAt_5 : decode cX5_isDigitAt 5 = .ok (.if_icmp .ge 29, 3) := by decide +kernel
theorem dX5_isDigitAt_8 : decode cX5_isDigitAt 8 = .ok (.aload_n 0, 1) := by decide +kernel
theorem dX5_isDigitAt_9 : decode cX5_isDigitAt 9 = .ok (.getfield 9, 3) := by decide +kernel
theorem dX5_isDigitAt_12 : decode cX5_isDigitAt 12 = .ok (.iload_n 1, 1) := by decide +kernel
theorem dX5_isDigitAt_13 : decode cX5_isDigitAt 13 = .ok (.caload, 1) := by decide +kernel
theorem dX5_isDigitAt_14 : decode cX5_isDigitAt 14 = .ok (.bipush 48, 2) := by decide +kernel
theorem dX5_isDigitAt_16 : decode cX5_isDigitAt 16 = .ok (.if_icmp .lt 18, 3) := by decide +kernel
theorem dX5_isDigitAt_19 : decode cX5_isDigitAt 19 = .ok (.aload_n 0, 1) := by decide +kernel
theorem dX5_isDigitAt_20 : decode cX5_isDigitAt 20 = .ok (.getfield 9, 3) := by decide +kernel
theorem dX5_isDigitAt_23 : decode cX5_isDigitAt 23 = .ok (.iload_n 1, 1) := by decide +kernel
theorem dX5_isDigitAt_24 : decode cX5_isDigitAt 24 = .ok (.caload, 1) := by decide +kernel
theorem dX5_isDigitAt_25 : decode cX5_isDigitAt 25 = .ok (.bipush 57, 2) := by decide +kernel
theorem dX5_isDigitAt_27 : decode cX5_isDigitAt 27 = .ok (.if_icmp .gt 7, 3) := by decide +kernel
theorem dX5_isDigitAt_30 : decode cX5_isDigitAt 30 = .ok (.iconst 1, 1) := by decide +kernel
theorem dX5_isDigitAt_31 : decode cX5_isDigitAt 31 = .ok (.goto 4, 3) := by decide +kernel
theorem dX5_isDigitAt_34 : decode cX5_isDigitAt 34 = .ok (.iconst 0, 1) := by decide +kernel
theorem dX5_isDigitAt_35 : decode cX5_isDigitAt 35 = .ok (.ireturn, 1) := by decide +kernel
theorem dX5_isMarkAt_0 : decode cX5_isMarkAt 0 = .ok (.iload_n 1, 1) := by decide +kernel
theorem dX5_isMarkAt_1 : decode cX5_isMarkAt 1 = .ok (.aload_n 0, 1) := by decide +kernel
theorem dX5_isMarkAt_2 : decode cX5_isMarkAt 2 = .ok (.getfield 33, 3) := by decide +kernel
theorem dX5_isMarkAt_5 : decode cX5_isMarkAt 5 = .ok (.if_icmp .ge 19, 3) := by decide +kernel
theorem dX5_isMarkAt_8 : decode cX5_isMarkAt 8 = .ok (.aload_n 0, 1) := by decide +kernel
theorem dX5_isMarkAt_9 : decode cX5_isMarkAt 9 = .ok (.getfield 9, 3) := by decide +kernel
theorem dX5_isMarkAt_12 : decode cX5_isMarkAt 12 = .ok (.iload_n 1, 1) := by decide +kernel
theorem dX5_isMarkAt_13 : decode cX5_isMarkAt 13 = .ok (.caload, 1) := by decide +kernel
theorem dX5_isMarkAt_14 : decode cX5_isMarkAt 14 = .ok (.invokestatic 140, 3) := by decide +kernel
theorem dX5_isMarkAt_17 : decode cX5_isMarkAt 17 = .ok (.ifCond .lt 7, 3) := by decide +kernel
theorem dX5_isMarkAt_20 : decode cX5_isMarkAt 20 = .ok (.iconst 1, 1) := by decide +kernel
theorem dX5_isMarkAt_21 : decode cX5_isMarkAt 21 = .ok (.goto 4, 3) := by decide +kernel
theorem dX5_isMarkAt_24 : decode cX5_isMarkAt 24 = .ok (.iconst 0, 1) := by decide +kernel
theorem dX5_isMarkAt_25 : decode cX5_isMarkAt 25 = .ok (.ireturn, 1) := by decide +kernel
theorem dX5_endOfLetters_0 : decode cX5_endOfLetters 0 = .ok (.aload_n 0, 1) := by decide +kernel
theorem dX5_endOfLetters_1 : decode cX5_endOfLetters 1 = .ok (.getfield 36, 3) := by decide +kernel
theorem dX5_endOfLetters_4 : decode cX5_endOfLetters 4 = .ok (.istore_n 1, 1) := by decide +kernel
theorem dX5_endOfLetters_5 : decode cX5_endOfLetters 5 = .ok (.iload_n 1, 1) := by decide +kernel
theorem dX5_endOfLetters_6 : decode cX5_endOfLetters 6 = .ok (.aload_n 0, 1) := by decide +kernel
theorem dX5_endOfLetters_7 : decode cX5_endOfLetters 7 = .ok (.getfield 33, 3) := by decide +kernel
theorem dX5_endOfLetters_10 : decode cX5_endOfLetters 10 = .ok (.if_icmp .ge 31, 3) := by decide +kernel
theorem dX5_endOfLetters_13 : decode cX5_endOfLetters 13 = .ok (.aload_n 0, 1) := by decide +kernel
theorem dX5_endOfLetters_14 : decode cX5_endOfLetters 14 = .ok (.getfield 9, 3) := by decide +kernel
theorem dX5_endOfLetters_17 : decode cX5_endOfLetters 17 = .ok (.iload_n 1, 1) := by decide +kernel
theorem dX5_endOfLetters_18 : decode cX5_endOfLetters 18 = .ok (.caload, 1) := by decide +kernel
theorem dX5_endOfLetters_19 : decode cX5_endOfLetters 19 = .ok (.bipush 97, 2) := by decide +kernel
theorem dX5_endOfLetters_21 : decode cX5_endOfLetters 21 = .ok (.if_icmp .lt 20, 3) := by decide +kernel
theorem dX5_endOfLetters_24 : decode cX5_endOfLetters 24 = .ok (.aload_n 0, 1) := by decide +kernel
theorem dX5_endOfLetters_25 : decode cX5_endOfLetters 25 = .ok (.getfield 9, 3) := by decide +kernel
theorem dX5_endOfLetters_28 : decode cX5_endOfLetters 28 = .ok (.iload_n 1, 1) := by decide +kernel
theorem dX5_endOfLetters_29 : decode cX5_endOfLetters 29 = .ok (.caload, 1) := by decide +kernel
theorem dX5_endOfLetters_30 : decode cX5_endOfLetters 30 = .ok (.bipush 122, 2) := by decide +kernel
theorem dX5_endOfLetters_32 : decode cX5_endOfLetters 32 = .ok (.if_icmp .gt 9, 3) := by decide +kernel
theorem dX5_endOfLetters_35 : decode cX5_endOfLetters 35 = .ok (.iinc 1 1, 3) := by decide +kernel
theorem dX5_endOfLetters_38 : decode cX5_endOfLetters 38 = .ok (.goto (-33), 3) := by decide +kernel
theorem dX5_endOfLetters_41 : decode cX5_endOfLetters 41 = .ok (.iload_n 1, 1) := by decide +kernel
theorem dX5_endOfLetters_42 : decode cX5_endOfLetters 42 = .ok (.ireturn, 1) := by decide +kernel
theorem dX5_spells_0 : decode cX5_spells 0 = .ok (.iload_n 2, 1) := by decide +kernel
theorem dX5_spells_1 : decode cX5_spells 1 = .ok (.iload_n 1, 1) := by decide +kernel
theorem dX5_spells_2 : decode cX5_spells 2 = .ok (.isub, 1) := by decide +kernel
theorem dX5_spells_3 : decode cX5_spells 3 = .ok (.aload_n 3, 1) := by decide +kernel
theorem dX5_spells_4 : decode cX5_spells 4 = .ok (.invokevirtual 186, 3) := by decide +kernel
theorem dX5_spells_7 : decode cX5_spells 7 = .ok (.if_icmp .ne 7, 3) := by decide +kernel
theorem dX5_spells_10 : decode cX5_spells 10 = .ok (.iconst 1, 1) := by decide +kernel
theorem dX5_spells_11 : decode cX5_spells 11 = .ok (.goto 4, 3) := by decide +kernel
theorem dX5_spells_14 : decode cX5_spells 14 = .ok (.iconst 0, 1) := by decide +kernel
theorem dX5_spells_15 : decode cX5_spells 15 = .ok (.istore 4, 2) := by decide +kernel
theorem dX5_spells_17 : decode cX5_spells 17 = .ok (.iconst 0, 1) := by decide +kernel
theorem dX5_spells_18 : decode cX5_spells 18 = .ok (.istore 5, 2) := by decide +kernel
theorem dX5_spells_20 : decode cX5_spells 20 = .ok (.iload 4, 2) := by decide +kernel
theorem dX5_spells_22 : decode cX5_spells 22 = .ok (.ifCond .eq 43, 3) := by decide +kernel
theorem dX5_spells_25 : decode cX5_spells 25 = .ok (.iload 5, 2) := by decide +kernel
theorem dX5_spells_27 : decode cX5_spells 27 = .ok (.aload_n 3, 1) := by decide +kernel
theorem dX5_spells_28 : decode cX5_spells 28 = .ok (.invokevirtual 186, 3) := by decide +kernel
theorem dX5_spells_31 : decode cX5_spells 31 = .ok (.if_icmp .ge 34, 3) := by decide +kernel
theorem dX5_spells_34 : decode cX5_spells 34 = .ok (.aload_n 0, 1) := by decide +kernel
theorem dX5_spells_35 : decode cX5_spells 35 = .ok (.getfield 9, 3) := by decide +kernel
theorem dX5_spells_38 : decode cX5_spells 38 = .ok (.iload_n 1, 1) := by decide +kernel
theorem dX5_spells_39 : decode cX5_spells 39 = .ok (.iload 5, 2) := by decide +kernel
theorem dX5_spells_41 : decode cX5_spells 41 = .ok (.iadd, 1) := by decide +kernel
theorem dX5_spells_42 : decode cX5_spells 42 = .ok (.caload, 1) := by decide +kernel
theorem dX5_spells_43 : decode cX5_spells 43 = .ok (.aload_n 3, 1) := by decide +kernel
theorem dX5_spells_44 : decode cX5_spells 44 = .ok (.iload 5, 2) := by decide +kernel
theorem dX5_spells_46 : decode cX5_spells 46 = .ok (.invokevirtual 190, 3) := by decide +kernel
theorem dX5_spells_49 : decode cX5_spells 49 = .ok (.if_icmp .ne 7, 3) := by decide +kernel
theorem dX5_spells_52 : decode cX5_spells 52 = .ok (.iconst 1, 1) := by decide +kernel
theorem dX5_spells_53 : decode cX5_spells 53 = .ok (.goto 4, 3) := by decide +kernel
theorem dX5_spells_56 : decode cX5_spells 56 = .ok (.iconst 0, 1) := by decide +kernel
theorem dX5_spells_57 : decode cX5_spells 57 = .ok (.istore 4, 2) := by decide +kernel
theorem dX5_spells_59 : decode cX5_spells 59 = .ok (.iinc 5 1, 3) := by decide +kernel
theorem dX5_spells_62 : decode cX5_spells 62 = .ok (.goto (-42), 3) := by decide +kernel
theorem dX5_spells_65 : decode cX5_spells 65 = .ok (.iload 4, 2) := by decide +kernel
theorem dX5_spells_67 : decode cX5_spells 67 = .ok (.ireturn, 1) := by decide +kernel
theorem dX5_demand_0 : decode cX5_demand 0 = .ok (.iload_n 1, 1) := by decide +kernel
theorem dX5_demand_1 : decode cX5_demand 1 = .ok (.ifCond .ne 16, 3) := by decide +kernel
theorem dX5_demand_4 : decode cX5_demand 4 = .ok (.aload_n 0, 1) := by decide +kernel
theorem dX5_demand_5 : decode cX5_demand 5 = .ok (.iload_n 2, 1) := by decide +kernel
theorem dX5_demand_6 : decode cX5_demand 6 = .ok (.putfield 15, 3) := by decide +kernel
theorem dX5_demand_9 : decode cX5_demand 9 = .ok (.new 194, 3) := by decide +kernel
theorem dX5_demand_12 : decode cX5_demand 12 = .ok (.dup, 1) := by decide +kernel
theorem dX5_demand_13 : decode cX5_demand 13 = .ok (.invokespecial 196, 3) := by decide +kernel
theorem dX5_demand_16 : decode cX5_demand 16 = .ok (.athrow, 1) := by decide +kernel
theorem dX5_demand_17 : decode cX5_demand 17 = .ok (.return_, 1) := by decide +kernel
theorem dX5_kindFor_0 : decode cX5_kindFor 0 = .ok (.iload_n 0, 1) := by decide +kernel
theorem dX5_kindFor_1 : decode cX5_kindFor 1 = .ok (.lookupswitch 51 #[(99, 49), (104, 45), (112, 43), (113, 47)], 43) := by decide +kernel
theorem dX5_kindFor_44 : decode cX5_kindFor 44 = .ok (.iconst 0, 1) := by decide +kernel
theorem dX5_kindFor_45 : decode cX5_kindFor 45 = .ok (.ireturn, 1) := by decide +kernel
theorem dX5_kindFor_46 : decode cX5_kindFor 46 = .ok (.iconst 1, 1) := by decide +kernel
theorem dX5_kindFor_47 : decode cX5_kindFor 47 = .ok (.ireturn, 1) := by decide +kernel
theorem dX5_kindFor_48 : decode cX5_kindFor 48 = .ok (.iconst 2, 1) := by decide +kernel
theorem dX5_kindFor_49 : decode cX5_kindFor 49 = .ok (.ireturn, 1) := by decide +kernel
theorem dX5_kindFor_50 : decode cX5_kindFor 50 = .ok (.iconst 3, 1) := by decide +kernel
theorem dX5_kindFor_51 : decode cX5_kindFor 51 = .ok (.ireturn, 1) := by decide +kernel
theorem dX5_kindFor_52 : decode cX5_kindFor 52 = .ok (.iconst (-1), 1) := by decide +kernel
theorem dX5_kindFor_53 : decode cX5_kindFor 53 = .ok (.ireturn, 1) := by decide +kernel
theorem dX5_breakFor_0 : decode cX5_breakFor 0 = .ok (.iload_n 0, 1) := by decide +kernel
theorem dX5_breakFor_1 : decode cX5_breakFor 1 = .ok (.lookupswitch 51 #[(45, 49), (47, 45), (95, 43), (126, 47)], 43) := by decide +kernel
theorem dX5_breakFor_44 : decode cX5_breakFor 44 = .ok (.iconst 0, 1) := by decide +kernel
theorem dX5_breakFor_45 : decode cX5_breakFor 45 = .ok (.ireturn, 1) := by decide +kernel
theorem dX5_breakFor_46 : decode cX5_breakFor 46 = .ok (.iconst 1, 1) := by decide +kernel
theorem dX5_breakFor_47 : decode cX5_breakFor 47 = .ok (.ireturn, 1) := by decide +kernel
theorem dX5_breakFor_48 : decode cX5_breakFor 48 = .ok (.iconst 2, 1) := by decide +kernel
theorem dX5_breakFor_49 : decode cX5_breakFor 49 = .ok (.ireturn, 1) := by decide +kernel
theorem dX5_breakFor_50 : decode cX5_breakFor 50 = .ok (.iconst 3, 1) := by decide +kernel
theorem dX5_breakFor_51 : decode cX5_breakFor 51 = .ok (.ireturn, 1) := by decide +kernel
theorem dX5_breakFor_52 : decode cX5_breakFor 52 = .ok (.iconst (-1), 1) := by decide +kernel
theorem dX5_breakFor_53 : decode cX5_breakFor 53 = .ok (.ireturn, 1) := by decide +kernel
theorem dX6_init_0 : decode cX6_init 0 = .ok (.aload_n 0, 1) := by decide +kernel
theorem dX6_init_1 : decode cX6_init 1 = .ok (.invokespecial 3, 3) := by decide +kernel
theorem dX6_init_4 : decode cX6_init 4 = .ok (.aload_n 0, 1) := by decide +kernel
theorem dX6_init_5 : decode cX6_init 5 = .ok (.aload_n 1, 1) := by decide +kernel
theorem dX6_init_6 : decode cX6_init 6 = .ok (.putfield 9, 3) := by decide +kernel
theorem dX6_init_9 : decode cX6_init 9 = .ok (.aload_n 0, 1) := by decide +kernel
theorem dX6_init_10 : decode cX6_init 10 = .ok (.aload_n 2, 1) := by decide +kernel
theorem dX6_init_11 : decode cX6_init 11 = .ok (.putfield 15, 3) := by decide +kernel
theorem dX6_init_14 : decode cX6_init 14 = .ok (.aload_n 0, 1) := by decide +kernel
theorem dX6_init_15 : decode cX6_init 15 = .ok (.bipush 37, 2) := by decide +kernel
theorem dX6_init_17 : decode cX6_init 17 = .ok (.newarray .int, 2) := by decide +kernel
theorem dX6_init_19 : decode cX6_init 19 = .ok (.putfield 19, 3) := by decide +kernel
theorem dX6_init_22 : decode cX6_init 22 = .ok (.aload_n 0, 1) := by decide +kernel
theorem dX6_init_23 : decode cX6_init 23 = .ok (.bipush 37, 2) := by decide +kernel
theorem dX6_init_25 : decode cX6_init 25 = .ok (.iconst 4, 1) := by decide +kernel
theorem dX6_init_26 : decode cX6_init 26 = .ok (.multianewarray 23 2, 4) := by decide +kernel
theorem dX6_init_30 : decode cX6_init 30 = .ok (.putfield 25, 3) := by decide +kernel
theorem dX6_init_33 : decode cX6_init 33 = .ok (.aload_n 0, 1) := by decide +kernel
theorem dX6_init_34 : decode cX6_init 34 = .ok (.iconst 4, 1) := by decide +kernel
theorem dX6_init_35 : decode cX6_init 35 = .ok (.newarray .int, 2) := by decide +kernel
theorem dX6_init_37 : decode cX6_init 37 = .ok (.putfield 28, 3) := by decide +kernel
theorem dX6_init_40 : decode cX6_init 40 = .ok (.aload_n 0, 1) := by decide +kernel
theorem dX6_init_41 : decode cX6_init 41 = .ok (.iconst 5, 1) := by decide +kernel
theorem dX6_init_42 : decode cX6_init 42 = .ok (.bipush 6, 2) := by decide +kernel
theorem dX6_init_44 : decode cX6_init 44 = .ok (.multianewarray 23 2, 4) := by decide +kernel
theorem dX6_init_48 : decode cX6_init 48 = .ok (.putfield 31, 3) := by decide +kernel
theorem dX6_init_51 : decode cX6_init 51 = .ok (.aload_n 0, 1) := by decide +kernel
theorem dX6_init_52 : decode cX6_init 52 = .ok (.iconst 4, 1) := by decide +kernel
theorem dX6_init_53 : decode cX6_init 53 = .ok (.newarray .int, 2) := by decide +kernel
theorem dX6_init_55 : decode cX6_init 55 = .ok (.putfield 34, 3) := by decide +kernel
theorem dX6_init_58 : decode cX6_init 58 = .ok (.return_, 1) := by decide +kernel
theorem dX6_restart_0 : decode cX6_restart 0 = .ok (.aload_n 0, 1) := by decide +kernel
theorem dX6_restart_1 : decode cX6_restart 1 = .ok (.iload_n 1, 1) := by decide +kernel
theorem dX6_restart_2 : decode cX6_restart 2 = .ok (.putfield 37, 3) := by decide +kernel
theorem dX6_restart_5 : decode cX6_restart 5 = .ok (.aload_n 0, 1) := by decide +kernel
theorem dX6_restart_6 : decode cX6_restart 6 = .ok (.iconst 0, 1) := by decide +kernel
theorem dX6_restart_7 : decode cX6_restart 7 = .ok (.putfield 41, 3) := by decide +kernel
theorem dX6_restart_10 : decode cX6_restart 10 = .ok (.aload_n 0, 1) := by decide +kernel
theorem dX6_restart_11 : decode cX6_restart 11 = .ok (.iconst (-1), 1) := by decide +kernel
theorem dX6_restart_12 : decode cX6_restart 12 = .ok (.putfield 44, 3) := by decide +kernel
theorem dX6_restart_15 : decode cX6_restart 15 = .ok (.iconst 0, 1) := by decide +kernel
theorem dX6_restart_16 : decode cX6_restart 16 = .ok (.istore_n 2, 1) := by decide +kernel
theorem dX6_restart_17 : decode cX6_restart 17 = .ok (.iload_n 2, 1) := by decide +kernel
theorem dX6_restart_18 : decode cX6_restart 18 = .ok (.aload_n 0, 1) := by decide +kernel
theorem dX6_restart_19 : decode cX6_restart 19 = .ok (.getfield 9, 3) := by decide +kernel
theorem dX6_restart_22 : decode cX6_restart 22 = .ok (.getfield 47, 3) := by decide +kernel
theorem dX6_restart_25 : decode cX6_restart 25 = .ok (.if_icmp .ge 81, 3) := by decide +kernel
theorem dX6_restart_28 : decode cX6_restart 28 = .ok (.aload_n 0, 1) := by decide +kernel
theorem dX6_restart_29 : decode cX6_restart 29 = .ok (.getfield 28, 3) := by decide +kernel
theorem dX6_restart_32 : decode cX6_restart 32 = .ok (.iload_n 2, 1) := by decide +kernel
theorem dX6_restart_33 : decode cX6_restart 33 = .ok (.aload_n 0, 1) := by decide +kernel
theorem dX6_restart_34 : decode cX6_restart 34 = .ok (.iload_n 2, 1) := by decide +kernel
theorem dX6_restart_35 : decode cX6_restart 35 = .ok (.invokevirtual 52, 3) := by decide +kernel
theorem dX6_restart_38 : decode cX6_restart 38 = .ok (.ifCond .eq 15, 3) := by decide +kernel
theorem dX6_restart_41 : decode cX6_restart 41 = .ok (.aload_n 0, 1) := by decide +kernel
theorem dX6_restart_42 : decode cX6_restart 42 = .ok (.getfield 15, 3) := by decide +kernel
theorem dX6_restart_45 : decode cX6_restart 45 = .ok (.getfield 56, 3) := by decide +kernel
theorem dX6_restart_48 : decode cX6_restart 48 = .ok (.iload_n 2, 1) := by decide +kernel
theorem dX6_restart_49 : decode cX6_restart 49 = .ok (.iaload, 1) := by decide +kernel
theorem dX6_restart_50 : decode cX6_restart 50 = .ok (.goto 14, 3) := by decide +kernel
theorem dX6_restart_53 : decode cX6_restart 53 = .ok (.aload_n 0, 1) := by decide +kernel
theorem dX6_restart_54 : decode cX6_restart 54 = .ok (.getfield 15, 3) := by decide +kernel
theorem dX6_restart_57 : decode cX6_restart 57 = .ok (.getfield 61, 3) := by decide +kernel
theorem dX6_restart_60 : decode cX6_restart 60 = .ok (.iconst 2, 1) := by decide +kernel
theorem dX6_restart_61 : decode cX6_restart 61 = .ok (.aaload, 1) := by decide +kernel
theorem dX6_restart_62 : decode cX6_restart 62 = .ok (.iload_n 2, 1) := by decide +kernel
theorem dX6_restart_63 : decode cX6_restart 63 = .ok (.iaload, 1) := by decide +kernel
theorem dX6_restart_64 : decode cX6_restart 64 = .ok (.iastore, 1) := by decide +kernel
theorem dX6_restart_65 : decode cX6_restart 65 = .ok (.aload_n 0, 1) := by decide +kernel
theorem dX6_restart_66 : decode cX6_restart 66 = .ok (.dup, 1) := by decide +kernel
theorem dX6_restart_67 : decode cX6_restart 67 = .ok (.getfield 41, 3) := by decide +kernel
theorem dX6_restart_70 : decode cX6_restart 70 = .ok (.aload_n 0, 1) := by decide +kernel
theorem dX6_restart_71 : decode cX6_restart 71 = .ok (.getfield 28, 3) := by decide +kernel
theorem dX6_restart_74 : decode cX6_restart 74 = .ok (.iload_n 2, 1) := by decide +kernel
theorem dX6_restart_75 : decode cX6_restart 75 = .ok (.iaload, 1) := by decide +kernel
theorem dX6_restart_76 : decode cX6_restart 76 = .ok (.iadd, 1) := by decide +kernel
theorem dX6_restart_77 : decode cX6_restart 77 = .ok (.putfield 41, 3) := by decide +kernel
theorem dX6_restart_80 : decode cX6_restart 80 = .ok (.aload_n 0, 1) := by decide +kernel
theorem dX6_restart_81 : decode cX6_restart 81 = .ok (.aload_n 0, 1) := by decide +kernel
theorem dX6_restart_82 : decode cX6_restart 82 = .ok (.iload_n 2, 1) := by decide +kernel
theorem dX6_restart_83 : decode cX6_restart 83 = .ok (.invokevirtual 52, 3) := by decide +kernel
theorem dX6_restart_86 : decode cX6_restart 86 = .ok (.ifCond .eq 7, 3) := by decide +kernel
theorem dX6_restart_89 : decode cX6_restart 89 = .ok (.iload_n 2, 1) := by decide +kernel
theorem dX6_restart_90 : decode cX6_restart 90 = .ok (.goto 7, 3) := by decide +kernel
theorem dX6_restart_93 : decode cX6_restart 93 = .ok (.aload_n 0, 1) := by decide +kernel
theorem dX6_restart_94 : decode cX6_restart 94 = .ok (.getfield 44, 3) := by decide +kernel
theorem dX6_restart_97 : decode cX6_restart 97 = .ok (.putfield 44, 3) := by decide +kernel
theorem dX6_restart_100 : decode cX6_restart 100 = .ok (.iinc 2 1, 3) := by decide +kernel
theorem dX6_restart_103 : decode cX6_restart 103 = .ok (.goto (-86), 3) := by decide +kernel
theorem dX6_restart_106 : decode cX6_restart 106 = .ok (.aload_n 0, 1) := by decide +kernel
theorem dX6_restart_107 : decode cX6_restart 107 = .ok (.getfield 19, 3) := by decide +kernel
theorem dX6_restart_110 : decode cX6_restart 110 = .ok (.bipush (-2), 2) := by decide +kernel
theorem dX6_restart_112 : decode cX6_restart 112 = .ok (.invokestatic 64, 3) := by decide +kernel
theorem dX6_restart_115 : decode cX6_restart 115 = .ok (.return_, 1) := by decide +kernel
theorem dX6_widthsFor_0 : decode cX6_widthsFor 0 = .ok (.aload_n 0, 1) := by decide +kernel
theorem dX6_widthsFor_1 : decode cX6_widthsFor 1 = .ok (.getfield 25, 3) := by decide +kernel
theorem dX6_widthsFor_4 : decode cX6_widthsFor 4 = .ok (.iload_n 1, 1) := by decide +kernel
theorem dX6_widthsFor_5 : decode cX6_widthsFor 5 = .ok (.aaload, 1) := by decide +kernel
theorem dX6_widthsFor_6 : decode cX6_widthsFor 6 = .ok (.areturn, 1) := by decide +kernel
theorem dX6_leastHeight_0 : decode cX6_leastHeight 0 = .ok (.aload_n 0, 1) := by decide +kernel
theorem dX6_leastHeight_1 : decode cX6_leastHeight 1 = .ok (.getfield 19, 3) := by decide +kernel
theorem dX6_leastHeight_4 : decode cX6_leastHeight 4 = .ok (.iload_n 1, 1) := by decide +kernel
theorem dX6_leastHeight_5 : decode cX6_leastHeight 5 = .ok (.iaload, 1) := by decide +kernel
theorem dX6_leastHeight_6 : decode cX6_leastHeight 6 = .ok (.bipush (-2), 2) := by decide +kernel
theorem dX6_leastHeight_8 : decode cX6_leastHeight 8 = .ok (.if_icmp .ne 81, 3) := by decide +kernel
theorem dX6_leastHeight_11 : decode cX6_leastHeight 11 = .ok (.aload_n 0, 1) := by decide +kernel
theorem dX6_leastHeight_12 : decode cX6_leastHeight 12 = .ok (.getfield 9, 3) := by decide +kernel
theorem dX6_leastHeight_15 : decode cX6_leastHeight 15 = .ok (.iload_n 1, 1) := by decide +kernel
theorem dX6_leastHeight_16 : decode cX6_leastHeight 16 = .ok (.invokevirtual 70, 3) := by decide +kernel
theorem dX6_leastHeight_19 : decode cX6_leastHeight 19 = .ok (.aload_n 0, 1) := by decide +kernel
theorem dX6_leastHeight_20 : decode cX6_leastHeight 20 = .ok (.getfield 41, 3) := by decide +kernel
theorem dX6_leastHeight_23 : decode cX6_leastHeight 23 = .ok (.isub, 1) := by decide +kernel
theorem dX6_leastHeight_24 : decode cX6_leastHeight 24 = .ok (.istore_n 2, 1) := by decide +kernel
theorem dX6_leastHeight_25 : decode cX6_leastHeight 25 = .ok (.aload_n 0, 1) := by decide +kernel
theorem dX6_leastHeight_26 : decode cX6_leastHeight 26 = .ok (.aload_n 0, 1) := by decide +kernel
theorem dX6_leastHeight_27 : decode cX6_leastHeight 27 = .ok (.getfield 37, 3) := by decide +kernel
theorem dX6_leastHeight_30 : decode cX6_leastHeight 30 = .ok (.putfield 74, 3) := by decide +kernel
theorem dX6_leastHeight_33 : decode cX6_leastHeight 33 = .ok (.aload_n 0, 1) := by decide +kernel
theorem dX6_leastHeight_34 : decode cX6_leastHeight 34 = .ok (.iload_n 1, 1) := by decide +kernel
theorem dX6_leastHeight_35 : decode cX6_leastHeight 35 = .ok (.putfield 77, 3) := by decide +kernel
theorem dX6_leastHeight_38 : decode cX6_leastHeight 38 = .ok (.iload_n 2, 1) := by decide +kernel
theorem dX6_leastHeight_39 : decode cX6_leastHeight 39 = .ok (.ifCond .eq 14, 3) := by decide +kernel
theorem dX6_leastHeight_42 : decode cX6_leastHeight 42 = .ok (.iload_n 2, 1) := by decide +kernel
theorem dX6_leastHeight_43 : decode cX6_leastHeight 43 = .ok (.ifCond .le 21, 3) := by decide +kernel
theorem dX6_leastHeight_46 : decode cX6_leastHeight 46 = .ok (.aload_n 0, 1) := by decide +kernel
theorem dX6_leastHeight_47 : decode cX6_leastHeight 47 = .ok (.getfield 44, 3) := by decide +kernel
theorem dX6_leastHeight_50 : decode cX6_leastHeight 50 = .ok (.ifCond .lt 14, 3) := by decide +kernel
theorem dX6_leastHeight_53 : decode cX6_leastHeight 53 = .ok (.aload_n 0, 1) := by decide +kernel
theorem dX6_leastHeight_54 : decode cX6_leastHeight 54 = .ok (.iload_n 2, 1) := by decide +kernel
theorem dX6_leastHeight_55 : decode cX6_leastHeight 55 = .ok (.invokevirtual 80, 3) := by decide +kernel
theorem dX6_leastHeight_58 : decode cX6_leastHeight 58 = .ok (.aload_n 0, 1) := by decide +kernel
theorem dX6_leastHeight_59 : decode cX6_leastHeight 59 = .ok (.iconst 0, 1) := by decide +kernel
theorem dX6_leastHeight_60 : decode cX6_leastHeight 60 = .ok (.iload_n 2, 1) := by decide +kernel
theorem dX6_leastHeight_61 : decode cX6_leastHeight 61 = .ok (.invokestatic 84, 3) := by decide +kernel
theorem dX6_leastHeight_64 : decode cX6_leastHeight 64 = .ok (.aload_n 0, 1) := by decide +kernel
theorem dX6_leastHeight_65 : decode cX6_leastHeight 65 = .ok (.getfield 19, 3) := by decide +kernel
theorem dX6_leastHeight_68 : decode cX6_leastHeight 68 = .ok (.iload_n 1, 1) := by decide +kernel
theorem dX6_leastHeight_69 : decode cX6_leastHeight 69 = .ok (.aload_n 0, 1) := by decide +kernel
theorem dX6_leastHeight_70 : decode cX6_leastHeight 70 = .ok (.getfield 74, 3) := by decide +kernel
theorem dX6_leastHeight_73 : decode cX6_leastHeight 73 = .ok (.aload_n 0, 1) := by decide +kernel
theorem dX6_leastHeight_74 : decode cX6_leastHeight 74 = .ok (.getfield 37, 3) := by decide +kernel
theorem dX6_leastHeight_77 : decode cX6_leastHeight 77 = .ok (.if_icmp .ge 10, 3) := by decide +kernel
theorem dX6_leastHeight_80 : decode cX6_leastHeight 80 = .ok (.aload_n 0, 1) := by decide +kernel
theorem dX6_leastHeight_81 : decode cX6_leastHeight 81 = .ok (.getfield 74, 3) := by decide +kernel
theorem dX6_leastHeight_84 : decode cX6_leastHeight 84 = .ok (.goto 4, 3) := by decide +kernel
theorem dX6_leastHeight_87 : decode cX6_leastHeight 87 = .ok (.iconst (-1), 1) := by decide +kernel
theorem dX6_leastHeight_88 : decode cX6_leastHeight 88 = .ok (.iastore, 1) := by decide +kernel
theorem dX6_leastHeight_89 : decode cX6_leastHeight 89 = .ok (.aload_n 0, 1) := by decide +kernel
theorem dX6_leastHeight_90 : decode cX6_leastHeight 90 = .ok (.getfield 19, 3) := by decide +kernel
theorem dX6_leastHeight_93 : decode cX6_leastHeight 93 = .ok (.iload_n 1, 1) := by decide +kernel
theorem dX6_leastHeight_94 : decode cX6_leastHeight 94 = .ok (.iaload, 1) := by decide +kernel
theorem dX6_leastHeight_95 : decode cX6_leastHeight 95 = .ok (.ireturn, 1) := by decide +kernel
theorem dX6_isFree_0 : decode cX6_isFree 0 = .ok (.aload_n 0, 1) := by decide +kernel
theorem dX6_isFree_1 : decode cX6_isFree 1 = .ok (.getfield 9, 3) := by decide +kernel
theorem dX6_isFree_4 : decode cX6_isFree 4 = .ok (.getfield 88, 3) := by decide +kernel
theorem dX6_isFree_7 : decode cX6_isFree 7 = .ok (.iload_n 1, 1) := by decide +kernel
theorem dX6_isFree_8 : decode cX6_isFree 8 = .ok (.iaload, 1) := by decide +kernel
theorem dX6_isFree_9 : decode cX6_isFree 9 = .ok (.iconst 1, 1) := by decide +kernel
theorem dX6_isFree_10 : decode cX6_isFree 10 = .ok (.if_icmp .eq 7, 3) := by decide +kernel
theorem dX6_isFree_13 : decode cX6_isFree 13 = .ok (.iconst 1, 1) := by decide +kernel
theorem dX6_isFree_14 : decode cX6_isFree 14 = .ok (.goto 4, 3) := by decide +kernel
theorem dX6_isFree_17 : decode cX6_isFree 17 = .ok (.iconst 0, 1) := by decide +kernel
theorem dX6_isFree_18 : decode cX6_isFree 18 = .ok (.ireturn, 1) := by decide +kernel
theorem dX6_boundRows_0 : decode cX6_boundRows 0 = .ok (.aload_n 0, 1) := by decide +kernel
theorem dX6_boundRows_1 : decode cX6_boundRows 1 = .ok (.getfield 31, 3) := by decide +kernel
theorem dX6_boundRows_4 : decode cX6_boundRows 4 = .ok (.iconst 0, 1) := by decide +kernel
theorem dX6_boundRows_5 : decode cX6_boundRows 5 = .ok (.aaload, 1) := by decide +kernel
theorem dX6_boundRows_6 : decode cX6_boundRows 6 = .ok (.iconst 0, 1) := by decide +kernel
theorem dX6_boundRows_7 : decode cX6_boundRows 7 = .ok (.invokestatic 64, 3) := by decide +kernel
theorem dX6_boundRows_10 : decode cX6_boundRows 10 = .ok (.iconst 0, 1) := by decide +kernel
theorem dX6_boundRows_11 : decode cX6_boundRows 11 = .ok (.istore_n 2, 1) := by decide +kernel
theorem dX6_boundRows_12 : decode cX6_boundRows 12 = .ok (.iload_n 2, 1) := by decide +kernel
theorem dX6_boundRows_13 : decode cX6_boundRows 13 = .ok (.aload_n 0, 1) := by decide +kernel
theorem dX6_boundRows_14 : decode cX6_boundRows 14 = .ok (.getfield 9, 3) := by decide +kernel
theorem dX6_boundRows_17 : decode cX6_boundRows 17 = .ok (.getfield 91, 3) := by decide +kernel
theorem dX6_boundRows_20 : decode cX6_boundRows 20 = .ok (.if_icmp .ge 87, 3) := by decide +kernel
theorem dX6_boundRows_23 : decode cX6_boundRows 23 = .ok (.aload_n 0, 1) := by decide +kernel
theorem dX6_boundRows_24 : decode cX6_boundRows 24 = .ok (.getfield 9, 3) := by decide +kernel
theorem dX6_boundRows_27 : decode cX6_boundRows 27 = .ok (.getfield 94, 3) := by decide +kernel
theorem dX6_boundRows_30 : decode cX6_boundRows 30 = .ok (.iload_n 2, 1) := by decide +kernel
theorem dX6_boundRows_31 : decode cX6_boundRows 31 = .ok (.aaload, 1) := by decide +kernel
theorem dX6_boundRows_32 : decode cX6_boundRows 32 = .ok (.astore_n 3, 1) := by decide +kernel
theorem dX6_boundRows_33 : decode cX6_boundRows 33 = .ok (.aload_n 0, 1) := by decide +kernel
theorem dX6_boundRows_34 : decode cX6_boundRows 34 = .ok (.getfield 9, 3) := by decide +kernel
theorem dX6_boundRows_37 : decode cX6_boundRows 37 = .ok (.aload_n 3, 1) := by decide +kernel
theorem dX6_boundRows_38 : decode cX6_boundRows 38 = .ok (.aload_n 0, 1) := by decide +kernel
theorem dX6_boundRows_39 : decode cX6_boundRows 39 = .ok (.getfield 28, 3) := by decide +kernel
theorem dX6_boundRows_42 : decode cX6_boundRows 42 = .ok (.invokevirtual 98, 3) := by decide +kernel
theorem dX6_boundRows_45 : decode cX6_boundRows 45 = .ok (.istore 4, 2) := by decide +kernel
theorem dX6_boundRows_47 : decode cX6_boundRows 47 = .ok (.aload_n 0, 1) := by decide +kernel
theorem dX6_boundRows_48 : decode cX6_boundRows 48 = .ok (.getfield 9, 3) := by decide +kernel
theorem dX6_boundRows_51 : decode cX6_boundRows 51 = .ok (.aload_n 3, 1) := by decide +kernel
theorem dX6_boundRows_52 : decode cX6_boundRows 52 = .ok (.iload 4, 2) := by decide +kernel
theorem dX6_boundRows_54 : decode cX6_boundRows 54 = .ok (.invokevirtual 102, 3) := by decide +kernel
theorem dX6_boundRows_57 : decode cX6_boundRows 57 = .ok (.aload_n 0, 1) := by decide +kernel
theorem dX6_boundRows_58 : decode cX6_boundRows 58 = .ok (.getfield 9, 3) := by decide +kernel
theorem dX6_boundRows_61 : decode cX6_boundRows 61 = .ok (.aload_n 3, 1) := by decide +kernel
theorem dX6_boundRows_62 : decode cX6_boundRows 62 = .ok (.iload 4, 2) := by decide +kernel
theorem dX6_boundRows_64 : decode cX6_boundRows 64 = .ok (.iload_n 1, 1) := by decide +kernel
theorem dX6_boundRows_65 : decode cX6_boundRows 65 = .ok (.iadd, 1) := by decide +kernel
theorem dX6_boundRows_66 : decode cX6_boundRows 66 = .ok (.invokevirtual 102, 3) := by decide +kernel
theorem dX6_boundRows_69 : decode cX6_boundRows 69 = .ok (.invokestatic 106, 3) := by decide +kernel
theorem dX6_boundRows_72 : decode cX6_boundRows 72 = .ok (.istore 5, 2) := by decide +kernel
theorem dX6_boundRows_74 : decode cX6_boundRows 74 = .ok (.aload_n 0, 1) := by decide +kernel
theorem dX6_boundRows_75 : decode cX6_boundRows 75 = .ok (.getfield 31, 3) := by decide +kernel
theorem dX6_boundRows_78 : decode cX6_boundRows 78 = .ok (.iconst 0, 1) := by decide +kernel
theorem dX6_boundRows_79 : decode cX6_boundRows 79 = .ok (.aaload, 1) := by decide +kernel
theorem dX6_boundRows_80 : decode cX6_boundRows 80 = .ok (.aload_n 3, 1) := by decide +kernel
theorem dX6_boundRows_81 : decode cX6_boundRows 81 = .ok (.getfield 112, 3) := by decide +kernel
theorem dX6_boundRows_84 : decode cX6_boundRows 84 = .ok (.aload_n 0, 1) := by decide +kernel
theorem dX6_boundRows_85 : decode cX6_boundRows 85 = .ok (.getfield 31, 3) := by decide +kernel
theorem dX6_boundRows_88 : decode cX6_boundRows 88 = .ok (.iconst 0, 1) := by decide +kernel
theorem dX6_boundRows_89 : decode cX6_boundRows 89 = .ok (.aaload, 1) := by decide +kernel
theorem dX6_boundRows_90 : decode cX6_boundRows 90 = .ok (.aload_n 3, 1) := by decide +kernel
theorem dX6_boundRows_91 : decode cX6_boundRows 91 = .ok (.getfield 112, 3) := by decide +kernel
theorem dX6_boundRows_94 : decode cX6_boundRows 94 = .ok (.iaload, 1) := by decide +kernel
theorem dX6_boundRows_95 : decode cX6_boundRows 95 = .ok (.iload 5, 2) := by decide +kernel
theorem dX6_boundRows_97 : decode cX6_boundRows 97 = .ok (.invokestatic 117, 3) := by decide +kernel
theorem dX6_boundRows_100 : decode cX6_boundRows 100 = .ok (.iastore, 1) := by decide +kernel
theorem dX6_boundRows_101 : decode cX6_boundRows 101 = .ok (.iinc 2 1, 3) := by decide +kernel
theorem dX6_boundRows_104 : decode cX6_boundRows 104 = .ok (.goto (-92), 3) := by decide +kernel
theorem dX6_boundRows_107 : decode cX6_boundRows 107 = .ok (.return_, 1) := by decide +kernel
theorem dX6_descend_0 : decode cX6_descend 0 = .ok (.iload_n 1, 1) := by decide +kernel
theorem dX6_descend_1 : decode cX6_descend 1 = .ok (.aload_n 0, 1) := by decide +kernel
theorem dX6_descend_2 : decode cX6_descend 2 = .ok (.getfield 9, 3) := by decide +kernel
theorem dX6_descend_5 : decode cX6_descend 5 = .ok (.getfield 47, 3) := by decide +kernel
theorem dX6_descend_8 : decode cX6_descend 8 = .ok (.if_icmp .lt 8, 3) := by decide +kernel
theorem dX6_descend_11 : decode cX6_descend 11 = .ok (.aload_n 0, 1) := by decide +kernel
theorem dX6_descend_12 : decode cX6_descend 12 = .ok (.invokevirtual 120, 3) := by decide +kernel
theorem dX6_descend_15 : decode cX6_descend 15 = .ok (.return_, 1) := by decide +kernel
theorem dX6_descend_16 : decode cX6_descend 16 = .ok (.iload_n 1, 1) := by decide +kernel
theorem dX6_descend_17 : decode cX6_descend 17 = .ok (.aload_n 0, 1) := by decide +kernel
theorem dX6_descend_18 : decode cX6_descend 18 = .ok (.getfield 44, 3) := by decide +kernel
theorem dX6_descend_21 : decode cX6_descend 21 = .ok (.if_icmp .ne 7, 3) := by decide +kernel
theorem dX6_descend_24 : decode cX6_descend 24 = .ok (.iload_n 2, 1) := by decide +kernel
theorem dX6_descend_25 : decode cX6_descend 25 = .ok (.goto 4, 3) := by decide +kernel
theorem dX6_descend_28 : decode cX6_descend 28 = .ok (.iconst 0, 1) := by decide +kernel
theorem dX6_descend_29 : decode cX6_descend 29 = .ok (.istore_n 3, 1) := by decide +kernel
theorem dX6_descend_30 : decode cX6_descend 30 = .ok (.aload_n 0, 1) := by decide +kernel
theorem dX6_descend_31 : decode cX6_descend 31 = .ok (.iload_n 1, 1) := by decide +kernel
theorem dX6_descend_32 : decode cX6_descend 32 = .ok (.invokevirtual 52, 3) := by decide +kernel
theorem dX6_descend_35 : decode cX6_descend 35 = .ok (.ifCond .eq 7, 3) := by decide +kernel
theorem dX6_descend_38 : decode cX6_descend 38 = .ok (.iload_n 2, 1) := by decide +kernel
theorem dX6_descend_39 : decode cX6_descend 39 = .ok (.goto 4, 3) := by decide +kernel
theorem dX6_descend_42 : decode cX6_descend 42 = .ok (.iconst 0, 1) := by decide +kernel
theorem dX6_descend_43 : decode cX6_descend 43 = .ok (.istore 4, 2) := by decide +kernel
theorem dX6_descend_45 : decode cX6_descend 45 = .ok (.iload_n 3, 1) := by decide +kernel
theorem dX6_descend_46 : decode cX6_descend 46 = .ok (.istore 5, 2) := by decide +kernel
theorem dX6_descend_48 : decode cX6_descend 48 = .ok (.iload 5, 2) := by decide +kernel
theorem dX6_descend_50 : decode cX6_descend 50 = .ok (.iload 4, 2) := by decide +kernel
theorem dX6_descend_52 : decode cX6_descend 52 = .ok (.if_icmp .gt 47, 3) := by decide +kernel
theorem dX6_descend_55 : decode cX6_descend 55 = .ok (.aload_n 0, 1) := by decide +kernel
theorem dX6_descend_56 : decode cX6_descend 56 = .ok (.getfield 34, 3) := by decide +kernel
theorem dX6_descend_59 : decode cX6_descend 59 = .ok (.iload_n 1, 1) := by decide +kernel
theorem dX6_descend_60 : decode cX6_descend 60 = .ok (.aload_n 0, 1) := by decide +kernel
theorem dX6_descend_61 : decode cX6_descend 61 = .ok (.getfield 28, 3) := by decide +kernel
theorem dX6_descend_64 : decode cX6_descend 64 = .ok (.iload_n 1, 1) := by decide +kernel
theorem dX6_descend_65 : decode cX6_descend 65 = .ok (.iaload, 1) := by decide +kernel
theorem dX6_descend_66 : decode cX6_descend 66 = .ok (.iload 5, 2) := by decide +kernel
theorem dX6_descend_68 : decode cX6_descend 68 = .ok (.iadd, 1) := by decide +kernel
theorem dX6_descend_69 : decode cX6_descend 69 = .ok (.iastore, 1) := by decide +kernel
theorem dX6_descend_70 : decode cX6_descend 70 = .ok (.aload_n 0, 1) := by decide +kernel
theorem dX6_descend_71 : decode cX6_descend 71 = .ok (.iload_n 1, 1) := by decide +kernel
theorem dX6_descend_72 : decode cX6_descend 72 = .ok (.invokevirtual 123, 3) := by decide +kernel
theorem dX6_descend_75 : decode cX6_descend 75 = .ok (.aload_n 0, 1) := by decide +kernel
theorem dX6_descend_76 : decode cX6_descend 76 = .ok (.getfield 74, 3) := by decide +kernel
theorem dX6_descend_79 : decode cX6_descend 79 = .ok (.if_icmp .ge 14, 3) := by decide +kernel
theorem dX6_descend_82 : decode cX6_descend 82 = .ok (.aload_n 0, 1) := by decide +kernel
theorem dX6_descend_83 : decode cX6_descend 83 = .ok (.iload_n 1, 1) := by decide +kernel
theorem dX6_descend_84 : decode cX6_descend 84 = .ok (.iconst 1, 1) := by decide +kernel
theorem dX6_descend_85 : decode cX6_descend 85 = .ok (.iadd, 1) := by decide +kernel
theorem dX6_descend_86 : decode cX6_descend 86 = .ok (.iload_n 2, 1) := by decide +kernel
theorem dX6_descend_87 : decode cX6_descend 87 = .ok (.iload 5, 2) := by decide +kernel
theorem dX6_descend_89 : decode cX6_descend 89 = .ok (.isub, 1) := by decide +kernel
theorem dX6_descend_90 : decode cX6_descend 90 = .ok (.invokestatic 84, 3) := by decide +kernel
theorem dX6_descend_93 : decode cX6_descend 93 = .ok (.iinc 5 1, 3) := by decide +kernel
theorem dX6_descend_96 : decode cX6_descend 96 = .ok (.goto (-48), 3) := by decide +kernel
theorem dX6_descend_99 : decode cX6_descend 99 = .ok (.return_, 1) := by decide +kernel
theorem dX6_keepTried_0 : decode cX6_keepTried 0 = .ok (.aload_n 0, 1) := by decide +kernel
theorem dX6_keepTried_1 : decode cX6_keepTried 1 = .ok (.aload_n 0, 1) := by decide +kernel
theorem dX6_keepTried_2 : decode cX6_keepTried 2 = .ok (.aload_n 0, 1) := by decide +kernel
theorem dX6_keepTried_3 : decode cX6_keepTried 3 = .ok (.getfield 31, 3) := by decide +kernel
theorem dX6_keepTried_6 : decode cX6_keepTried 6 = .ok (.aload_n 0, 1) := by decide +kernel
theorem dX6_keepTried_7 : decode cX6_keepTried 7 = .ok (.getfield 9, 3) := by decide +kernel
theorem dX6_keepTried_10 : decode cX6_keepTried 10 = .ok (.getfield 47, 3) := by decide +kernel
theorem dX6_keepTried_13 : decode cX6_keepTried 13 = .ok (.aaload, 1) := by decide +kernel
theorem dX6_keepTried_14 : decode cX6_keepTried 14 = .ok (.invokevirtual 126, 3) := by decide +kernel
theorem dX6_keepTried_17 : decode cX6_keepTried 17 = .ok (.putfield 74, 3) := by decide +kernel
theorem dX6_keepTried_20 : decode cX6_keepTried 20 = .ok (.iconst 0, 1) := by decide +kernel
theorem dX6_keepTried_21 : decode cX6_keepTried 21 = .ok (.istore_n 1, 1) := by decide +kernel
theorem dX6_keepTried_22 : decode cX6_keepTried 22 = .ok (.iload_n 1, 1) := by decide +kernel
theorem dX6_keepTried_23 : decode cX6_keepTried 23 = .ok (.aload_n 0, 1) := by decide +kernel
theorem dX6_keepTried_24 : decode cX6_keepTried 24 = .ok (.getfield 9, 3) := by decide +kernel
theorem dX6_keepTried_27 : decode cX6_keepTried 27 = .ok (.getfield 47, 3) := by decide +kernel
theorem dX6_keepTried_30 : decode cX6_keepTried 30 = .ok (.if_icmp .ge 26, 3) := by decide +kernel
theorem dX6_keepTried_33 : decode cX6_keepTried 33 = .ok (.aload_n 0, 1) := by decide +kernel
theorem dX6_keepTried_34 : decode cX6_keepTried 34 = .ok (.getfield 25, 3) := by decide +kernel
theorem dX6_keepTried_37 : decode cX6_keepTried 37 = .ok (.aload_n 0, 1) := by decide +kernel
theorem dX6_keepTried_38 : decode cX6_keepTried 38 = .ok (.getfield 77, 3) := by decide +kernel
theorem dX6_keepTried_41 : decode cX6_keepTried 41 = .ok (.aaload, 1) := by decide +kernel
theorem dX6_keepTried_42 : decode cX6_keepTried 42 = .ok (.iload_n 1, 1) := by decide +kernel
theorem dX6_keepTried_43 : decode cX6_keepTried 43 = .ok (.aload_n 0, 1) := by decide +kernel
theorem dX6_keepTried_44 : decode cX6_keepTried 44 = .ok (.getfield 34, 3) := by decide +kernel
theorem dX6_keepTried_47 : decode cX6_keepTried 47 = .ok (.iload_n 1, 1) := by decide +kernel
theorem dX6_keepTried_48 : decode cX6_keepTried 48 = .ok (.iaload, 1) := by decide +kernel
theorem dX6_keepTried_49 : decode cX6_keepTried 49 = .ok (.iastore, 1) := by decide +kernel
theorem dX6_keepTried_50 : decode cX6_keepTried 50 = .ok (.iinc 1 1, 3) := by decide +kernel
theorem dX6_keepTried_53 : decode cX6_keepTried 53 = .ok (.goto (-31), 3) := by decide +kernel
theorem dX6_keepTried_56 : decode cX6_keepTried 56 = .ok (.return_, 1) := by decide +kernel
theorem dX6_boundWith_0 : decode cX6_boundWith 0 = .ok (.aload_n 0, 1) := by decide +kernel
theorem dX6_boundWith_1 : decode cX6_boundWith 1 = .ok (.getfield 31, 3) := by decide +kernel
theorem dX6_boundWith_4 : decode cX6_boundWith 4 = .ok (.iload_n 1, 1) := by decide +kernel
theorem dX6_boundWith_5 : decode cX6_boundWith 5 = .ok (.iconst 1, 1) := by decide +kernel
theorem dX6_boundWith_6 : decode cX6_boundWith 6 = .ok (.iadd, 1) := by decide +kernel
theorem dX6_boundWith_7 : decode cX6_boundWith 7 = .ok (.aaload, 1) := by decide +kernel
theorem dX6_boundWith_8 : decode cX6_boundWith 8 = .ok (.astore_n 2, 1) := by decide +kernel
theorem dX6_boundWith_9 : decode cX6_boundWith 9 = .ok (.iconst 2, 1) := by decide +kernel
theorem dX6_boundWith_10 : decode cX6_boundWith 10 = .ok (.aload_n 0, 1) := by decide +kernel
theorem dX6_boundWith_11 : decode cX6_boundWith 11 = .ok (.getfield 9, 3) := by decide +kernel
theorem dX6_boundWith_14 : decode cX6_boundWith 14 = .ok (.getfield 130, 3) := by decide +kernel
theorem dX6_boundWith_17 : decode cX6_boundWith 17 = .ok (.imul, 1) := by decide +kernel
theorem dX6_boundWith_18 : decode cX6_boundWith 18 = .ok (.istore_n 3, 1) := by decide +kernel
theorem dX6_boundWith_19 : decode cX6_boundWith 19 = .ok (.iconst 0, 1) := by decide +kernel
theorem dX6_boundWith_20 : decode cX6_boundWith 20 = .ok (.istore 4, 2) := by decide +kernel
theorem dX6_boundWith_22 : decode cX6_boundWith 22 = .ok (.iload 4, 2) := by decide +kernel
theorem dX6_boundWith_24 : decode cX6_boundWith 24 = .ok (.aload_n 0, 1) := by decide +kernel
theorem dX6_boundWith_25 : decode cX6_boundWith 25 = .ok (.getfield 9, 3) := by decide +kernel
theorem dX6_boundWith_28 : decode cX6_boundWith 28 = .ok (.getfield 133, 3) := by decide +kernel
theorem dX6_boundWith_31 : decode cX6_boundWith 31 = .ok (.if_icmp .ge 22, 3) := by decide +kernel
theorem dX6_boundWith_34 : decode cX6_boundWith 34 = .ok (.aload_n 2, 1) := by decide +kernel
theorem dX6_boundWith_35 : decode cX6_boundWith 35 = .ok (.iload 4, 2) := by decide +kernel
theorem dX6_boundWith_37 : decode cX6_boundWith 37 = .ok (.aload_n 0, 1) := by decide +kernel
theorem dX6_boundWith_38 : decode cX6_boundWith 38 = .ok (.getfield 31, 3) := by decide +kernel
theorem dX6_boundWith_41 : decode cX6_boundWith 41 = .ok (.iload_n 1, 1) := by decide +kernel
theorem dX6_boundWith_42 : decode cX6_boundWith 42 = .ok (.aaload, 1) := by decide +kernel
theorem dX6_boundWith_43 : decode cX6_boundWith 43 = .ok (.iload 4, 2) := by decide +kernel
theorem dX6_boundWith_45 : decode cX6_boundWith 45 = .ok (.iaload, 1) := by decide +kernel
theorem dX6_boundWith_46 : decode cX6_boundWith 46 = .ok (.iastore, 1) := by decide +kernel
theorem dX6_boundWith_47 : decode cX6_boundWith 47 = .ok (.iinc 4 1, 3) := by decide +kernel
theorem dX6_boundWith_50 : decode cX6_boundWith 50 = .ok (.goto (-28), 3) := by decide +kernel
theorem dX6_boundWith_53 : decode cX6_boundWith 53 = .ok (.iconst 0, 1) := by decide +kernel
theorem dX6_boundWith_54 : decode cX6_boundWith 54 = .ok (.istore 4, 2) := by decide +kernel
theorem dX6_boundWith_56 : decode cX6_boundWith 56 = .ok (.iload 4, 2) := by decide +kernel
theorem dX6_boundWith_58 : decode cX6_boundWith 58 = .ok (.aload_n 0, 1) := by decide +kernel
theorem dX6_boundWith_59 : decode cX6_boundWith 59 = .ok (.getfield 9, 3) := by decide +kernel
theorem dX6_boundWith_62 : decode cX6_boundWith 62 = .ok (.getfield 91, 3) := by decide +kernel
theorem dX6_boundWith_65 : decode cX6_boundWith 65 = .ok (.if_icmp .ge 84, 3) := by decide +kernel
theorem dX6_boundWith_68 : decode cX6_boundWith 68 = .ok (.aload_n 0, 1) := by decide +kernel
theorem dX6_boundWith_69 : decode cX6_boundWith 69 = .ok (.getfield 9, 3) := by decide +kernel
theorem dX6_boundWith_72 : decode cX6_boundWith 72 = .ok (.getfield 94, 3) := by decide +kernel
theorem dX6_boundWith_75 : decode cX6_boundWith 75 = .ok (.iload 4, 2) := by decide +kernel
theorem dX6_boundWith_77 : decode cX6_boundWith 77 = .ok (.aaload, 1) := by decide +kernel
theorem dX6_boundWith_78 : decode cX6_boundWith 78 = .ok (.astore 5, 2) := by decide +kernel
theorem dX6_boundWith_80 : decode cX6_boundWith 80 = .ok (.aload 5, 2) := by decide +kernel
theorem dX6_boundWith_82 : decode cX6_boundWith 82 = .ok (.getfield 136, 3) := by decide +kernel
theorem dX6_boundWith_85 : decode cX6_boundWith 85 = .ok (.aload 5, 2) := by decide +kernel
theorem dX6_boundWith_87 : decode cX6_boundWith 87 = .ok (.getfield 139, 3) := by decide +kernel
theorem dX6_boundWith_90 : decode cX6_boundWith 90 = .ok (.iadd, 1) := by decide +kernel
theorem dX6_boundWith_91 : decode cX6_boundWith 91 = .ok (.iload_n 1, 1) := by decide +kernel
theorem dX6_boundWith_92 : decode cX6_boundWith 92 = .ok (.iconst 1, 1) := by decide +kernel
theorem dX6_boundWith_93 : decode cX6_boundWith 93 = .ok (.iadd, 1) := by decide +kernel
theorem dX6_boundWith_94 : decode cX6_boundWith 94 = .ok (.if_icmp .ne 49, 3) := by decide +kernel
theorem dX6_boundWith_97 : decode cX6_boundWith 97 = .ok (.aload 5, 2) := by decide +kernel
theorem dX6_boundWith_99 : decode cX6_boundWith 99 = .ok (.getfield 142, 3) := by decide +kernel
theorem dX6_boundWith_102 : decode cX6_boundWith 102 = .ok (.aload_n 0, 1) := by decide +kernel
theorem dX6_boundWith_103 : decode cX6_boundWith 103 = .ok (.getfield 9, 3) := by decide +kernel
theorem dX6_boundWith_106 : decode cX6_boundWith 106 = .ok (.aload 5, 2) := by decide +kernel
theorem dX6_boundWith_108 : decode cX6_boundWith 108 = .ok (.aload_n 0, 1) := by decide +kernel
theorem dX6_boundWith_109 : decode cX6_boundWith 109 = .ok (.getfield 34, 3) := by decide +kernel
theorem dX6_boundWith_112 : decode cX6_boundWith 112 = .ok (.invokevirtual 98, 3) := by decide +kernel
theorem dX6_boundWith_115 : decode cX6_boundWith 115 = .ok (.iload_n 3, 1) := by decide +kernel
theorem dX6_boundWith_116 : decode cX6_boundWith 116 = .ok (.isub, 1) := by decide +kernel
theorem dX6_boundWith_117 : decode cX6_boundWith 117 = .ok (.invokevirtual 146, 3) := by decide +kernel
theorem dX6_boundWith_120 : decode cX6_boundWith 120 = .ok (.iload_n 3, 1) := by decide +kernel
theorem dX6_boundWith_121 : decode cX6_boundWith 121 = .ok (.iadd, 1) := by decide +kernel
theorem dX6_boundWith_122 : decode cX6_boundWith 122 = .ok (.istore 6, 2) := by decide +kernel
theorem dX6_boundWith_124 : decode cX6_boundWith 124 = .ok (.aload_n 2, 1) := by decide +kernel
theorem dX6_boundWith_125 : decode cX6_boundWith 125 = .ok (.aload 5, 2) := by decide +kernel
theorem dX6_boundWith_127 : decode cX6_boundWith 127 = .ok (.getfield 112, 3) := by decide +kernel
theorem dX6_boundWith_130 : decode cX6_boundWith 130 = .ok (.aload_n 2, 1) := by decide +kernel
theorem dX6_boundWith_131 : decode cX6_boundWith 131 = .ok (.aload 5, 2) := by decide +kernel
theorem dX6_boundWith_133 : decode cX6_boundWith 133 = .ok (.getfield 112, 3) := by decide +kernel
theorem dX6_boundWith_136 : decode cX6_boundWith 136 = .ok (.iaload, 1) := by decide +kernel
theorem dX6_boundWith_137 : decode cX6_boundWith 137 = .ok (.iload 6, 2) := by decide +kernel
theorem dX6_boundWith_139 : decode cX6_boundWith 139 = .ok (.invokestatic 117, 3) := by decide +kernel
theorem dX6_boundWith_142 : decode cX6_boundWith 142 = .ok (.iastore, 1) := by decide +kernel
theorem dX6_boundWith_143 : decode cX6_boundWith 143 = .ok (.iinc 4 1, 3) := by decide +kernel
theorem dX6_boundWith_146 : decode cX6_boundWith 146 = .ok (.goto (-90), 3) := by decide +kernel
theorem dX6_boundWith_149 : decode cX6_boundWith 149 = .ok (.aload_n 0, 1) := by decide +kernel
theorem dX6_boundWith_150 : decode cX6_boundWith 150 = .ok (.aload_n 2, 1) := by decide +kernel
theorem dX6_boundWith_151 : decode cX6_boundWith 151 = .ok (.invokevirtual 126, 3) := by decide +kernel
theorem dX6_boundWith_154 : decode cX6_boundWith 154 = .ok (.ireturn, 1) := by decide +kernel
theorem dX6_sumOf_0 : decode cX6_sumOf 0 = .ok (.aload_n 0, 1) := by decide +kernel
theorem dX6_sumOf_1 : decode cX6_sumOf 1 = .ok (.getfield 9, 3) := by decide +kernel
theorem dX6_sumOf_4 : decode cX6_sumOf 4 = .ok (.getfield 150, 3) := by decide +kernel
theorem dX6_sumOf_7 : decode cX6_sumOf 7 = .ok (.aload_n 0, 1) := by decide +kernel
theorem dX6_sumOf_8 : decode cX6_sumOf 8 = .ok (.getfield 9, 3) := by decide +kernel
theorem dX6_sumOf_11 : decode cX6_sumOf 11 = .ok (.getfield 133, 3) := by decide +kernel
theorem dX6_sumOf_14 : decode cX6_sumOf 14 = .ok (.iconst 1, 1) := by decide +kernel
theorem dX6_sumOf_15 : decode cX6_sumOf 15 = .ok (.iadd, 1) := by decide +kernel
theorem dX6_sumOf_16 : decode cX6_sumOf 16 = .ok (.imul, 1) := by decide +kernel
theorem dX6_sumOf_17 : decode cX6_sumOf 17 = .ok (.istore_n 2, 1) := by decide +kernel
theorem dX6_sumOf_18 : decode cX6_sumOf 18 = .ok (.iconst 0, 1) := by decide +kernel
theorem dX6_sumOf_19 : decode cX6_sumOf 19 = .ok (.istore_n 3, 1) := by decide +kernel
theorem dX6_sumOf_20 : decode cX6_sumOf 20 = .ok (.iload_n 3, 1) := by decide +kernel
theorem dX6_sumOf_21 : decode cX6_sumOf 21 = .ok (.aload_n 0, 1) := by decide +kernel
theorem dX6_sumOf_22 : decode cX6_sumOf 22 = .ok (.getfield 9, 3) := by decide +kernel
theorem dX6_sumOf_25 : decode cX6_sumOf 25 = .ok (.getfield 133, 3) := by decide +kernel
theorem dX6_sumOf_28 : decode cX6_sumOf 28 = .ok (.if_icmp .ge 15, 3) := by decide +kernel
theorem dX6_sumOf_31 : decode cX6_sumOf 31 = .ok (.iload_n 2, 1) := by decide +kernel
theorem dX6_sumOf_32 : decode cX6_sumOf 32 = .ok (.aload_n 1, 1) := by decide +kernel
theorem dX6_sumOf_33 : decode cX6_sumOf 33 = .ok (.iload_n 3, 1) := by decide +kernel
theorem dX6_sumOf_34 : decode cX6_sumOf 34 = .ok (.iaload, 1) := by decide +kernel
theorem dX6_sumOf_35 : decode cX6_sumOf 35 = .ok (.iadd, 1) := by decide +kernel
theorem dX6_sumOf_36 : decode cX6_sumOf 36 = .ok (.istore_n 2, 1) := by decide +kernel
theorem dX6_sumOf_37 : decode cX6_sumOf 37 = .ok (.iinc 3 1, 3) := by decide +kernel
theorem dX6_sumOf_40 : decode cX6_sumOf 40 = .ok (.goto (-20), 3) := by decide +kernel
theorem dX6_sumOf_43 : decode cX6_sumOf 43 = .ok (.iload_n 2, 1) := by decide +kernel
theorem dX6_sumOf_44 : decode cX6_sumOf 44 = .ok (.ireturn, 1) := by decide +kernel
theorem dX7_init_0 : decode cX7_init 0 = .ok (.aload_n 0, 1) := by decide +kernel
theorem dX7_init_1 : decode cX7_init 1 = .ok (.invokespecial 3, 3) := by decide +kernel
theorem dX7_init_4 : decode cX7_init 4 = .ok (.aload_n 0, 1) := by decide +kernel
theorem dX7_init_5 : decode cX7_init 5 = .ok (.bipush 30, 2) := by decide +kernel
theorem dX7_init_7 : decode cX7_init 7 = .ok (.putfield 9, 3) := by decide +kernel
theorem dX7_init_10 : decode cX7_init 10 = .ok (.aload_n 0, 1) := by decide +kernel
theorem dX7_init_11 : decode cX7_init 11 = .ok (.iconst 1, 1) := by decide +kernel
theorem dX7_init_12 : decode cX7_init 12 = .ok (.putfield 15, 3) := by decide +kernel
theorem dX7_init_15 : decode cX7_init 15 = .ok (.aload_n 0, 1) := by decide +kernel
theorem dX7_init_16 : decode cX7_init 16 = .ok (.iconst 3, 1) := by decide +kernel
theorem dX7_init_17 : decode cX7_init 17 = .ok (.putfield 18, 3) := by decide +kernel
theorem dX7_init_20 : decode cX7_init 20 = .ok (.aload_n 0, 1) := by decide +kernel
theorem dX7_init_21 : decode cX7_init 21 = .ok (.iconst 4, 1) := by decide +kernel
theorem dX7_init_22 : decode cX7_init 22 = .ok (.newarray .int, 2) := by decide +kernel
theorem dX7_init_24 : decode cX7_init 24 = .ok (.putfield 21, 3) := by decide +kernel
theorem dX7_init_27 : decode cX7_init 27 = .ok (.aload_n 0, 1) := by decide +kernel
theorem dX7_init_28 : decode cX7_init 28 = .ok (.iconst 4, 1) := by decide +kernel
theorem dX7_init_29 : decode cX7_init 29 = .ok (.newarray .int, 2) := by decide +kernel
theorem dX7_init_31 : decode cX7_init 31 = .ok (.putfield 25, 3) := by decide +kernel
theorem dX7_init_34 : decode cX7_init 34 = .ok (.aload_n 0, 1) := by decide +kernel
theorem dX7_init_35 : decode cX7_init 35 = .ok (.bipush 16, 2) := by decide +kernel
theorem dX7_init_37 : decode cX7_init 37 = .ok (.anewarray 28, 3) := by decide +kernel
theorem dX7_init_40 : decode cX7_init 40 = .ok (.putfield 30, 3) := by decide +kernel
theorem dX7_init_43 : decode cX7_init 43 = .ok (.iconst 0, 1) := by decide +kernel
theorem dX7_init_44 : decode cX7_init 44 = .ok (.istore_n 1, 1) := by decide +kernel
theorem dX7_init_45 : decode cX7_init 45 = .ok (.iload_n 1, 1) := by decide +kernel
theorem dX7_init_46 : decode cX7_init 46 = .ok (.bipush 16, 2) := by decide +kernel
theorem dX7_init_48 : decode cX7_init 48 = .ok (.if_icmp .ge 22, 3) := by decide +kernel
theorem dX7_init_51 : decode cX7_init 51 = .ok (.aload_n 0, 1) := by decide +kernel
theorem dX7_init_52 : decode cX7_init 52 = .ok (.getfield 30, 3) := by decide +kernel
theorem dX7_init_55 : decode cX7_init 55 = .ok (.iload_n 1, 1) := by decide +kernel
theorem dX7_init_56 : decode cX7_init 56 = .ok (.new 28, 3) := by decide +kernel
theorem dX7_init_59 : decode cX7_init 59 = .ok (.dup, 1) := by decide +kernel
theorem dX7_init_60 : decode cX7_init 60 = .ok (.invokespecial 34, 3) := by decide +kernel
theorem dX7_init_63 : decode cX7_init 63 = .ok (.aastore, 1) := by decide +kernel
theorem dX7_init_64 : decode cX7_init 64 = .ok (.iinc 1 1, 3) := by decide +kernel
theorem dX7_init_67 : decode cX7_init 67 = .ok (.goto (-22), 3) := by decide +kernel
theorem dX7_init_70 : decode cX7_init 70 = .ok (.return_, 1) := by decide +kernel
theorem dX7_copyFrom_0 : decode cX7_copyFrom 0 = .ok (.aload_n 0, 1) := by decide +kernel
theorem dX7_copyFrom_1 : decode cX7_copyFrom 1 = .ok (.aload_n 1, 1) := by decide +kernel
theorem dX7_copyFrom_2 : decode cX7_copyFrom 2 = .ok (.getfield 9, 3) := by decide +kernel
theorem dX7_copyFrom_5 : decode cX7_copyFrom 5 = .ok (.putfield 9, 3) := by decide +kernel
theorem dX7_copyFrom_8 : decode cX7_copyFrom 8 = .ok (.aload_n 0, 1) := by decide +kernel
theorem dX7_copyFrom_9 : decode cX7_copyFrom 9 = .ok (.aload_n 1, 1) := by decide +kernel
theorem dX7_copyFrom_10 : decode cX7_copyFrom 10 = .ok (.getfield 15, 3) := by decide +kernel
theorem dX7_copyFrom_13 : decode cX7_copyFrom 13 = .ok (.putfield 15, 3) := by decide +kernel
theorem dX7_copyFrom_16 : decode cX7_copyFrom 16 = .ok (.aload_n 0, 1) := by decide +kernel
theorem dX7_copyFrom_17 : decode cX7_copyFrom 17 = .ok (.aload_n 1, 1) := by decide +kernel
theorem dX7_copyFrom_18 : decode cX7_copyFrom 18 = .ok (.getfield 35, 3) := by decide +kernel
theorem dX7_copyFrom_21 : decode cX7_copyFrom 21 = .ok (.putfield 35, 3) := by decide +kernel
theorem dX7_copyFrom_24 : decode cX7_copyFrom 24 = .ok (.aload_n 0, 1) := by decide +kernel
theorem dX7_copyFrom_25 : decode cX7_copyFrom 25 = .ok (.aload_n 1, 1) := by decide +kernel
theorem dX7_copyFrom_26 : decode cX7_copyFrom 26 = .ok (.getfield 18, 3) := by decide +kernel
theorem dX7_copyFrom_29 : decode cX7_copyFrom 29 = .ok (.putfield 18, 3) := by decide +kernel
theorem dX7_copyFrom_32 : decode cX7_copyFrom 32 = .ok (.aload_n 0, 1) := by decide +kernel
theorem dX7_copyFrom_33 : decode cX7_copyFrom 33 = .ok (.aload_n 1, 1) := by decide +kernel
theorem dX7_copyFrom_34 : decode cX7_copyFrom 34 = .ok (.getfield 38, 3) := by decide +kernel
theorem dX7_copyFrom_37 : decode cX7_copyFrom 37 = .ok (.putfield 38, 3) := by decide +kernel
theorem dX7_copyFrom_40 : decode cX7_copyFrom 40 = .ok (.aload_n 0, 1) := by decide +kernel
theorem dX7_copyFrom_41 : decode cX7_copyFrom 41 = .ok (.aload_n 1, 1) := by decide +kernel
theorem dX7_copyFrom_42 : decode cX7_copyFrom 42 = .ok (.getfield 41, 3) := by decide +kernel
theorem dX7_copyFrom_45 : decode cX7_copyFrom 45 = .ok (.putfield 41, 3) := by decide +kernel
theorem dX7_copyFrom_48 : decode cX7_copyFrom 48 = .ok (.iconst 0, 1) := by decide +kernel
theorem dX7_copyFrom_49 : decode cX7_copyFrom 49 = .ok (.istore_n 2, 1) := by decide +kernel
theorem dX7_copyFrom_50 : decode cX7_copyFrom 50 = .ok (.iload_n 2, 1) := by decide +kernel
theorem dX7_copyFrom_51 : decode cX7_copyFrom 51 = .ok (.iconst 4, 1) := by decide +kernel
theorem dX7_copyFrom_52 : decode cX7_copyFrom 52 = .ok (.if_icmp .ge 33, 3) := by decide +kernel
theorem dX7_copyFrom_55 : decode cX7_copyFrom 55 = .ok (.aload_n 0, 1) := by decide +kernel
theorem dX7_copyFrom_56 : decode cX7_copyFrom 56 = .ok (.getfield 21, 3) := by decide +kernel
theorem dX7_copyFrom_59 : decode cX7_copyFrom 59 = .ok (.iload_n 2, 1) := by decide +kernel
theorem dX7_copyFrom_60 : decode cX7_copyFrom 60 = .ok (.aload_n 1, 1) := by decide +kernel
theorem dX7_copyFrom_61 : decode cX7_copyFrom 61 = .ok (.getfield 21, 3) := by decide +kernel
theorem dX7_copyFrom_64 : decode cX7_copyFrom 64 = .ok (.iload_n 2, 1) := by decide +kernel
theorem dX7_copyFrom_65 : decode cX7_copyFrom 65 = .ok (.iaload, 1) := by decide +kernel
theorem dX7_copyFrom_66 : decode cX7_copyFrom 66 = .ok (.iastore, 1) := by decide +kernel
theorem dX7_copyFrom_67 : decode cX7_copyFrom 67 = .ok (.aload_n 0, 1) := by decide +kernel
theorem dX7_copyFrom_68 : decode cX7_copyFrom 68 = .ok (.getfield 25, 3) := by decide +kernel
theorem dX7_copyFrom_71 : decode cX7_copyFrom 71 = .ok (.iload_n 2, 1) := by decide +kernel
theorem dX7_copyFrom_72 : decode cX7_copyFrom 72 = .ok (.aload_n 1, 1) := by decide +kernel
theorem dX7_copyFrom_73 : decode cX7_copyFrom 73 = .ok (.getfield 25, 3) := by decide +kernel
theorem dX7_copyFrom_76 : decode cX7_copyFrom 76 = .ok (.iload_n 2, 1) := by decide +kernel
theorem dX7_copyFrom_77 : decode cX7_copyFrom 77 = .ok (.iaload, 1) := by decide +kernel
theorem dX7_copyFrom_78 : decode cX7_copyFrom 78 = .ok (.iastore, 1) := by decide +kernel
theorem dX7_copyFrom_79 : decode cX7_copyFrom 79 = .ok (.iinc 2 1, 3) := by decide +kernel
theorem dX7_copyFrom_82 : decode cX7_copyFrom 82 = .ok (.goto (-32), 3) := by decide +kernel
theorem dX7_copyFrom_85 : decode cX7_copyFrom 85 = .ok (.iconst 0, 1) := by decide +kernel
theorem dX7_copyFrom_86 : decode cX7_copyFrom 86 = .ok (.istore_n 2, 1) := by decide +kernel
theorem dX7_copyFrom_87 : decode cX7_copyFrom 87 = .ok (.iload_n 2, 1) := by decide +kernel
theorem dX7_copyFrom_88 : decode cX7_copyFrom 88 = .ok (.aload_n 0, 1) := by decide +kernel
theorem dX7_copyFrom_89 : decode cX7_copyFrom 89 = .ok (.getfield 41, 3) := by decide +kernel
theorem dX7_copyFrom_92 : decode cX7_copyFrom 92 = .ok (.if_icmp .ge 24, 3) := by decide +kernel
theorem dX7_copyFrom_95 : decode cX7_copyFrom 95 = .ok (.aload_n 0, 1) := by decide +kernel
theorem dX7_copyFrom_96 : decode cX7_copyFrom 96 = .ok (.getfield 30, 3) := by decide +kernel
theorem dX7_copyFrom_99 : decode cX7_copyFrom 99 = .ok (.iload_n 2, 1) := by decide +kernel
theorem dX7_copyFrom_100 : decode cX7_copyFrom 100 = .ok (.aaload, 1) := by decide +kernel
theorem dX7_copyFrom_101 : decode cX7_copyFrom 101 = .ok (.aload_n 1, 1) := by decide +kernel
theorem dX7_copyFrom_102 : decode cX7_copyFrom 102 = .ok (.getfield 30, 3) := by decide +kernel
theorem dX7_copyFrom_105 : decode cX7_copyFrom 105 = .ok (.iload_n 2, 1) := by decide +kernel
theorem dX7_copyFrom_106 : decode cX7_copyFrom 106 = .ok (.aaload, 1) := by decide +kernel
theorem dX7_copyFrom_107 : decode cX7_copyFrom 107 = .ok (.invokevirtual 44, 3) := by decide +kernel
theorem dX7_copyFrom_110 : decode cX7_copyFrom 110 = .ok (.iinc 2 1, 3) := by decide +kernel
theorem dX7_copyFrom_113 : decode cX7_copyFrom 113 = .ok (.goto (-26), 3) := by decide +kernel
theorem dX7_copyFrom_116 : decode cX7_copyFrom 116 = .ok (.return_, 1) := by decide +kernel
theorem dX7_restartColumns_0 : decode cX7_restartColumns 0 = .ok (.aload_n 0, 1) := by decide +kernel
theorem dX7_restartColumns_1 : decode cX7_restartColumns 1 = .ok (.iload_n 1, 1) := by decide +kernel
theorem dX7_restartColumns_2 : decode cX7_restartColumns 2 = .ok (.putfield 18, 3) := by decide +kernel
theorem dX7_restartColumns_5 : decode cX7_restartColumns 5 = .ok (.iconst 0, 1) := by decide +kernel
theorem dX7_restartColumns_6 : decode cX7_restartColumns 6 = .ok (.istore_n 2, 1) := by decide +kernel
theorem dX7_restartColumns_7 : decode cX7_restartColumns 7 = .ok (.iload_n 2, 1) := by decide +kernel
theorem dX7_restartColumns_8 : decode cX7_restartColumns 8 = .ok (.iconst 4, 1) := by decide +kernel
theorem dX7_restartColumns_9 : decode cX7_restartColumns 9 = .ok (.if_icmp .ge 16, 3) := by decide +kernel
theorem dX7_restartColumns_12 : decode cX7_restartColumns 12 = .ok (.aload_n 0, 1) := by decide +kernel
theorem dX7_restartColumns_13 : decode cX7_restartColumns 13 = .ok (.iload_n 2, 1) := by decide +kernel
theorem dX7_restartColumns_14 : decode cX7_restartColumns 14 = .ok (.iconst 0, 1) := by decide +kernel
theorem dX7_restartColumns_15 : decode cX7_restartColumns 15 = .ok (.iconst 0, 1) := by decide +kernel
theorem dX7_restartColumns_16 : decode cX7_restartColumns 16 = .ok (.invokevirtual 48, 3) := by decide +kernel
theorem dX7_restartColumns_19 : decode cX7_restartColumns 19 = .ok (.iinc 2 1, 3) := by decide +kernel
theorem dX7_restartColumns_22 : decode cX7_restartColumns 22 = .ok (.goto (-15), 3) := by decide +kernel
theorem dX7_restartColumns_25 : decode cX7_restartColumns 25 = .ok (.return_, 1) := by decide +kernel
theorem dX7_specify_0 : decode cX7_specify 0 = .ok (.aload_n 0, 1) := by decide +kernel
theorem dX7_specify_1 : decode cX7_specify 1 = .ok (.getfield 21, 3) := by decide +kernel
theorem dX7_specify_4 : decode cX7_specify 4 = .ok (.iload_n 1, 1) := by decide +kernel
theorem dX7_specify_5 : decode cX7_specify 5 = .ok (.iload_n 2, 1) := by decide +kernel
theorem dX7_specify_6 : decode cX7_specify 6 = .ok (.iastore, 1) := by decide +kernel
theorem dX7_specify_7 : decode cX7_specify 7 = .ok (.aload_n 0, 1) := by decide +kernel
theorem dX7_specify_8 : decode cX7_specify 8 = .ok (.getfield 25, 3) := by decide +kernel
theorem dX7_specify_11 : decode cX7_specify 11 = .ok (.iload_n 1, 1) := by decide +kernel
theorem dX7_specify_12 : decode cX7_specify 12 = .ok (.iload_n 2, 1) := by decide +kernel
theorem dX7_specify_13 : decode cX7_specify 13 = .ok (.ifCond .ne 7, 3) := by decide +kernel
theorem dX7_specify_16 : decode cX7_specify 16 = .ok (.iconst 0, 1) := by decide +kernel
theorem dX7_specify_17 : decode cX7_specify 17 = .ok (.goto 4, 3) := by decide +kernel
theorem dX7_specify_20 : decode cX7_specify 20 = .ok (.iload_n 3, 1) := by decide +kernel
theorem dX7_specify_21 : decode cX7_specify 21 = .ok (.iastore, 1) := by decide +kernel
theorem dX7_specify_22 : decode cX7_specify 22 = .ok (.return_, 1) := by decide +kernel
theorem dX7_usableWidth_0 : decode cX7_usableWidth 0 = .ok (.iload_n 1, 1) := by decide +kernel
theorem dX7_usableWidth_1 : decode cX7_usableWidth 1 = .ok (.aload_n 0, 1) := by decide +kernel
theorem dX7_usableWidth_2 : decode cX7_usableWidth 2 = .ok (.getfield 15, 3) := by decide +kernel
theorem dX7_usableWidth_5 : decode cX7_usableWidth 5 = .ok (.aload_n 0, 1) := by decide +kernel
theorem dX7_usableWidth_6 : decode cX7_usableWidth 6 = .ok (.getfield 18, 3) := by decide +kernel
theorem dX7_usableWidth_9 : decode cX7_usableWidth 9 = .ok (.iconst 1, 1) := by decide +kernel
theorem dX7_usableWidth_10 : decode cX7_usableWidth 10 = .ok (.iadd, 1) := by decide +kernel
theorem dX7_usableWidth_11 : decode cX7_usableWidth 11 = .ok (.imul, 1) := by decide +kernel
theorem dX7_usableWidth_12 : decode cX7_usableWidth 12 = .ok (.isub, 1) := by decide +kernel
theorem dX7_usableWidth_13 : decode cX7_usableWidth 13 = .ok (.ireturn, 1) := by decide +kernel
theorem dX7_occupant_0 : decode cX7_occupant 0 = .ok (.iconst 0, 1) := by decide +kernel
theorem dX7_occupant_1 : decode cX7_occupant 1 = .ok (.istore_n 3, 1) := by decide +kernel
theorem dX7_occupant_2 : decode cX7_occupant 2 = .ok (.iload_n 3, 1) := by decide +kernel
theorem dX7_occupant_3 : decode cX7_occupant 3 = .ok (.aload_n 0, 1) := by decide +kernel
theorem dX7_occupant_4 : decode cX7_occupant 4 = .ok (.getfield 41, 3) := by decide +kernel
theorem dX7_occupant_7 : decode cX7_occupant 7 = .ok (.if_icmp .ge 38, 3) := by decide +kernel
theorem dX7_occupant_10 : decode cX7_occupant 10 = .ok (.aload_n 0, 1) := by decide +kernel
theorem dX7_occupant_11 : decode cX7_occupant 11 = .ok (.getfield 30, 3) := by decide +kernel
theorem dX7_occupant_14 : decode cX7_occupant 14 = .ok (.iload_n 3, 1) := by decide +kernel
theorem dX7_occupant_15 : decode cX7_occupant 15 = .ok (.aaload, 1) := by decide +kernel
theorem dX7_occupant_16 : decode cX7_occupant 16 = .ok (.getfield 52, 3) := by decide +kernel
theorem dX7_occupant_19 : decode cX7_occupant 19 = .ok (.iload_n 1, 1) := by decide +kernel
theorem dX7_occupant_20 : decode cX7_occupant 20 = .ok (.if_icmp .ne 19, 3) := by decide +kernel
theorem dX7_occupant_23 : decode cX7_occupant 23 = .ok (.aload_n 0, 1) := by decide +kernel
theorem dX7_occupant_24 : decode cX7_occupant 24 = .ok (.getfield 30, 3) := by decide +kernel
theorem dX7_occupant_27 : decode cX7_occupant 27 = .ok (.iload_n 3, 1) := by decide +kernel
theorem dX7_occupant_28 : decode cX7_occupant 28 = .ok (.aaload, 1) := by decide +kernel
theorem dX7_occupant_29 : decode cX7_occupant 29 = .ok (.iload_n 2, 1) := by decide +kernel
theorem dX7_occupant_30 : decode cX7_occupant 30 = .ok (.iconst 1, 1) := by decide +kernel
theorem dX7_occupant_31 : decode cX7_occupant 31 = .ok (.invokevirtual 55, 3) := by decide +kernel
theorem dX7_occupant_34 : decode cX7_occupant 34 = .ok (.ifCond .eq 5, 3) := by decide +kernel
theorem dX7_occupant_37 : decode cX7_occupant 37 = .ok (.iload_n 3, 1) := by decide +kernel
theorem dX7_occupant_38 : decode cX7_occupant 38 = .ok (.ireturn, 1) := by decide +kernel
theorem dX7_occupant_39 : decode cX7_occupant 39 = .ok (.iinc 3 1, 3) := by decide +kernel
theorem dX7_occupant_42 : decode cX7_occupant 42 = .ok (.goto (-40), 3) := by decide +kernel
theorem dX7_occupant_45 : decode cX7_occupant 45 = .ok (.iconst (-1), 1) := by decide +kernel
theorem dX7_occupant_46 : decode cX7_occupant 46 = .ok (.ireturn, 1) := by decide +kernel
theorem dX7_hasRoom_0 : decode cX7_hasRoom 0 = .ok (.aload_n 0, 1) := by decide +kernel
theorem dX7_hasRoom_1 : decode cX7_hasRoom 1 = .ok (.getfield 41, 3) := by decide +kernel
theorem dX7_hasRoom_4 : decode cX7_hasRoom 4 = .ok (.bipush 16, 2) := by decide +kernel
theorem dX7_hasRoom_6 : decode cX7_hasRoom 6 = .ok (.if_icmp .ge 7, 3) := by decide +kernel
theorem dX7_hasRoom_9 : decode cX7_hasRoom 9 = .ok (.iconst 1, 1) := by decide +kernel
theorem dX7_hasRoom_10 : decode cX7_hasRoom 10 = .ok (.goto 4, 3) := by decide +kernel
theorem dX7_hasRoom_13 : decode cX7_hasRoom 13 = .ok (.iconst 0, 1) := by decide +kernel
theorem dX7_hasRoom_14 : decode cX7_hasRoom 14 = .ok (.istore 4, 2) := by decide +kernel
theorem dX7_hasRoom_16 : decode cX7_hasRoom 16 = .ok (.iconst 0, 1) := by decide +kernel
theorem dX7_hasRoom_17 : decode cX7_hasRoom 17 = .ok (.istore 5, 2) := by decide +kernel
theorem dX7_hasRoom_19 : decode cX7_hasRoom 19 = .ok (.iload 5, 2) := by decide +kernel
theorem dX7_hasRoom_21 : decode cX7_hasRoom 21 = .ok (.aload_n 0, 1) := by decide +kernel
theorem dX7_hasRoom_22 : decode cX7_hasRoom 22 = .ok (.getfield 41, 3) := by decide +kernel
theorem dX7_hasRoom_25 : decode cX7_hasRoom 25 = .ok (.if_icmp .ge 50, 3) := by decide +kernel
theorem dX7_hasRoom_28 : decode cX7_hasRoom 28 = .ok (.iload 4, 2) := by decide +kernel
theorem dX7_hasRoom_30 : decode cX7_hasRoom 30 = .ok (.ifCond .eq 36, 3) := by decide +kernel
theorem dX7_hasRoom_33 : decode cX7_hasRoom 33 = .ok (.aload_n 0, 1) := by decide +kernel
theorem dX7_hasRoom_34 : decode cX7_hasRoom 34 = .ok (.getfield 30, 3) := by decide +kernel
theorem dX7_hasRoom_37 : decode cX7_hasRoom 37 = .ok (.iload 5, 2) := by decide +kernel
theorem dX7_hasRoom_39 : decode cX7_hasRoom 39 = .ok (.aaload, 1) := by decide +kernel
theorem dX7_hasRoom_40 : decode cX7_hasRoom 40 = .ok (.getfield 52, 3) := by decide +kernel
theorem dX7_hasRoom_43 : decode cX7_hasRoom 43 = .ok (.iload_n 1, 1) := by decide +kernel
theorem dX7_hasRoom_44 : decode cX7_hasRoom 44 = .ok (.if_icmp .ne 18, 3) := by decide +kernel
theorem dX7_hasRoom_47 : decode cX7_hasRoom 47 = .ok (.aload_n 0, 1) := by decide +kernel
theorem dX7_hasRoom_48 : decode cX7_hasRoom 48 = .ok (.getfield 30, 3) := by decide +kernel
theorem dX7_hasRoom_51 : decode cX7_hasRoom 51 = .ok (.iload 5, 2) := by decide +kernel
theorem dX7_hasRoom_53 : decode cX7_hasRoom 53 = .ok (.aaload, 1) := by decide +kernel
theorem dX7_hasRoom_54 : decode cX7_hasRoom 54 = .ok (.iload_n 2, 1) := by decide +kernel
theorem dX7_hasRoom_55 : decode cX7_hasRoom 55 = .ok (.iload_n 3, 1) := by decide +kernel
theorem dX7_hasRoom_56 : decode cX7_hasRoom 56 = .ok (.invokevirtual 55, 3) := by decide +kernel
theorem dX7_hasRoom_59 : decode cX7_hasRoom 59 = .ok (.ifCond .ne 7, 3) := by decide +kernel
theorem dX7_hasRoom_62 : decode cX7_hasRoom 62 = .ok (.iconst 1, 1) := by decide +kernel
theorem dX7_hasRoom_63 : decode cX7_hasRoom 63 = .ok (.goto 4, 3) := by decide +kernel
theorem dX7_hasRoom_66 : decode cX7_hasRoom 66 = .ok (.iconst 0, 1) := by decide +kernel
theorem dX7_hasRoom_67 : decode cX7_hasRoom 67 = .ok (.istore 4, 2) := by decide +kernel
theorem dX7_hasRoom_69 : decode cX7_hasRoom 69 = .ok (.iinc 5 1, 3) := by decide +kernel
theorem dX7_hasRoom_72 : decode cX7_hasRoom 72 = .ok (.goto (-53), 3) := by decide +kernel
theorem dX7_hasRoom_75 : decode cX7_hasRoom 75 = .ok (.iload 4, 2) := by decide +kernel
theorem dX7_hasRoom_77 : decode cX7_hasRoom 77 = .ok (.ireturn, 1) := by decide +kernel
theorem dX7_place_0 : decode cX7_place 0 = .ok (.aload_n 0, 1) := by decide +kernel
theorem dX7_place_1 : decode cX7_place 1 = .ok (.getfield 30, 3) := by decide +kernel
theorem dX7_place_4 : decode cX7_place 4 = .ok (.aload_n 0, 1) := by decide +kernel
theorem dX7_place_5 : decode cX7_place 5 = .ok (.getfield 41, 3) := by decide +kernel
theorem dX7_place_8 : decode cX7_place 8 = .ok (.aaload, 1) := by decide +kernel
theorem dX7_place_9 : decode cX7_place 9 = .ok (.astore 4, 2) := by decide +kernel
theorem dX7_place_11 : decode cX7_place 11 = .ok (.aload 4, 2) := by decide +kernel
theorem dX7_place_13 : decode cX7_place 13 = .ok (.iload_n 1, 1) := by decide +kernel
theorem dX7_place_14 : decode cX7_place 14 = .ok (.putfield 52, 3) := by decide +kernel
theorem dX7_place_17 : decode cX7_place 17 = .ok (.aload 4, 2) := by decide +kernel
theorem dX7_place_19 : decode cX7_place 19 = .ok (.iload_n 2, 1) := by decide +kernel
theorem dX7_place_20 : decode cX7_place 20 = .ok (.putfield 59, 3) := by decide +kernel
theorem dX7_place_23 : decode cX7_place 23 = .ok (.aload 4, 2) := by decide +kernel
theorem dX7_place_25 : decode cX7_place 25 = .ok (.iload_n 3, 1) := by decide +kernel
theorem dX7_place_26 : decode cX7_place 26 = .ok (.putfield 62, 3) := by decide +kernel
theorem dX7_place_29 : decode cX7_place 29 = .ok (.aload_n 0, 1) := by decide +kernel
theorem dX7_place_30 : decode cX7_place 30 = .ok (.dup, 1) := by decide +kernel
theorem dX7_place_31 : decode cX7_place 31 = .ok (.getfield 41, 3) := by decide +kernel
theorem dX7_place_34 : decode cX7_place 34 = .ok (.iconst 1, 1) := by decide +kernel
theorem dX7_place_35 : decode cX7_place 35 = .ok (.iadd, 1) := by decide +kernel
theorem dX7_place_36 : decode cX7_place 36 = .ok (.putfield 41, 3) := by decide +kernel
theorem dX7_place_39 : decode cX7_place 39 = .ok (.aload 4, 2) := by decide +kernel
theorem dX7_place_41 : decode cX7_place 41 = .ok (.getfield 65, 3) := by decide +kernel
theorem dX7_place_44 : decode cX7_place 44 = .ok (.areturn, 1) := by decide +kernel
theorem dX7_takeOut_0 : decode cX7_takeOut 0 = .ok (.aload_n 0, 1) := by decide +kernel
theorem dX7_takeOut_1 : decode cX7_takeOut 1 = .ok (.getfield 30, 3) := by decide +kernel
theorem dX7_takeOut_4 : decode cX7_takeOut 4 = .ok (.iload_n 1, 1) := by decide +kernel
theorem dX7_takeOut_5 : decode cX7_takeOut 5 = .ok (.aaload, 1) := by decide +kernel
theorem dX7_takeOut_6 : decode cX7_takeOut 6 = .ok (.astore_n 2, 1) := by decide +kernel
theorem dX7_takeOut_7 : decode cX7_takeOut 7 = .ok (.iload_n 1, 1) := by decide +kernel
theorem dX7_takeOut_8 : decode cX7_takeOut 8 = .ok (.iconst 1, 1) := by decide +kernel
theorem dX7_takeOut_9 : decode cX7_takeOut 9 = .ok (.iadd, 1) := by decide +kernel
theorem dX7_takeOut_10 : decode cX7_takeOut 10 = .ok (.istore_n 3, 1) := by decide +kernel
theorem dX7_takeOut_11 : decode cX7_takeOut 11 = .ok (.iload_n 3, 1) := by decide +kernel
theorem dX7_takeOut_12 : decode cX7_takeOut 12 = .ok (.aload_n 0, 1) := by decide +kernel
theorem dX7_takeOut_13 : decode cX7_takeOut 13 = .ok (.getfield 41, 3) := by decide +kernel
theorem dX7_takeOut_16 : decode cX7_takeOut 16 = .ok (.if_icmp .ge 23, 3) := by decide +kernel
theorem dX7_takeOut_19 : decode cX7_takeOut 19 = .ok (.aload_n 0, 1) := by decide +kernel
theorem dX7_takeOut_20 : decode cX7_takeOut 20 = .ok (.getfield 30, 3) := by decide +kernel
theorem dX7_takeOut_23 : decode cX7_takeOut 23 = .ok (.iload_n 3, 1) := by decide +kernel
theorem dX7_takeOut_24 : decode cX7_takeOut 24 = .ok (.iconst 1, 1) := by decide +kernel
theorem dX7_takeOut_25 : decode cX7_takeOut 25 = .ok (.isub, 1) := by decide +kernel
theorem dX7_takeOut_26 : decode cX7_takeOut 26 = .ok (.aload_n 0, 1) := by decide +kernel
theorem dX7_takeOut_27 : decode cX7_takeOut 27 = .ok (.getfield 30, 3) := by decide +kernel
theorem dX7_takeOut_30 : decode cX7_takeOut 30 = .ok (.iload_n 3, 1) := by decide +kernel
theorem dX7_takeOut_31 : decode cX7_takeOut 31 = .ok (.aaload, 1) := by decide +kernel
theorem dX7_takeOut_32 : decode cX7_takeOut 32 = .ok (.aastore, 1) := by decide +kernel
theorem dX7_takeOut_33 : decode cX7_takeOut 33 = .ok (.iinc 3 1, 3) := by decide +kernel
theorem dX7_takeOut_36 : decode cX7_takeOut 36 = .ok (.goto (-25), 3) := by decide +kernel
theorem dX7_takeOut_39 : decode cX7_takeOut 39 = .ok (.aload_n 0, 1) := by decide +kernel
theorem dX7_takeOut_40 : decode cX7_takeOut 40 = .ok (.dup, 1) := by decide +kernel
theorem dX7_takeOut_41 : decode cX7_takeOut 41 = .ok (.getfield 41, 3) := by decide +kernel
theorem dX7_takeOut_44 : decode cX7_takeOut 44 = .ok (.iconst 1, 1) := by decide +kernel
theorem dX7_takeOut_45 : decode cX7_takeOut 45 = .ok (.isub, 1) := by decide +kernel
theorem dX7_takeOut_46 : decode cX7_takeOut 46 = .ok (.putfield 41, 3) := by decide +kernel
theorem dX7_takeOut_49 : decode cX7_takeOut 49 = .ok (.aload_n 0, 1) := by decide +kernel
theorem dX7_takeOut_50 : decode cX7_takeOut 50 = .ok (.getfield 30, 3) := by decide +kernel
theorem dX7_takeOut_53 : decode cX7_takeOut 53 = .ok (.aload_n 0, 1) := by decide +kernel
theorem dX7_takeOut_54 : decode cX7_takeOut 54 = .ok (.getfield 41, 3) := by decide +kernel
theorem dX7_takeOut_57 : decode cX7_takeOut 57 = .ok (.aload_n 2, 1) := by decide +kernel
theorem dX7_takeOut_58 : decode cX7_takeOut 58 = .ok (.aastore, 1) := by decide +kernel
theorem dX7_takeOut_59 : decode cX7_takeOut 59 = .ok (.return_, 1) := by decide +kernel
theorem dX7_minimumOf_0 : decode cX7_minimumOf 0 = .ok (.aload_n 1, 1) := by decide +kernel
theorem dX7_minimumOf_1 : decode cX7_minimumOf 1 = .ok (.getfield 65, 3) := by decide +kernel
theorem dX7_minimumOf_4 : decode cX7_minimumOf 4 = .ok (.invokevirtual 69, 3) := by decide +kernel
theorem dX7_minimumOf_7 : decode cX7_minimumOf 7 = .ok (.iconst 2, 1) := by decide +kernel
theorem dX7_minimumOf_8 : decode cX7_minimumOf 8 = .ok (.aload_n 0, 1) := by decide +kernel
theorem dX7_minimumOf_9 : decode cX7_minimumOf 9 = .ok (.getfield 35, 3) := by decide +kernel
theorem dX7_minimumOf_12 : decode cX7_minimumOf 12 = .ok (.imul, 1) := by decide +kernel
theorem dX7_minimumOf_13 : decode cX7_minimumOf 13 = .ok (.iadd, 1) := by decide +kernel
theorem dX7_minimumOf_14 : decode cX7_minimumOf 14 = .ok (.ireturn, 1) := by decide +kernel
theorem dX7_maximumOf_0 : decode cX7_maximumOf 0 = .ok (.aload_n 1, 1) := by decide +kernel
theorem dX7_maximumOf_1 : decode cX7_maximumOf 1 = .ok (.getfield 65, 3) := by decide +kernel
theorem dX7_maximumOf_4 : decode cX7_maximumOf 4 = .ok (.invokevirtual 75, 3) := by decide +kernel
theorem dX7_maximumOf_7 : decode cX7_maximumOf 7 = .ok (.iconst 2, 1) := by decide +kernel
theorem dX7_maximumOf_8 : decode cX7_maximumOf 8 = .ok (.aload_n 0, 1) := by decide +kernel
theorem dX7_maximumOf_9 : decode cX7_maximumOf 9 = .ok (.getfield 35, 3) := by decide +kernel
theorem dX7_maximumOf_12 : decode cX7_maximumOf 12 = .ok (.imul, 1) := by decide +kernel
theorem dX7_maximumOf_13 : decode cX7_maximumOf 13 = .ok (.iadd, 1) := by decide +kernel
theorem dX7_maximumOf_14 : decode cX7_maximumOf 14 = .ok (.ireturn, 1) := by decide +kernel
theorem dX7_heightWithin_0 : decode cX7_heightWithin 0 = .ok (.aload_n 1, 1) := by decide +kernel
theorem dX7_heightWithin_1 : decode cX7_heightWithin 1 = .ok (.getfield 65, 3) := by decide +kernel
theorem dX7_heightWithin_4 : decode cX7_heightWithin 4 = .ok (.iload_n 2, 1) := by decide +kernel
theorem dX7_heightWithin_5 : decode cX7_heightWithin 5 = .ok (.iconst 2, 1) := by decide +kernel
theorem dX7_heightWithin_6 : decode cX7_heightWithin 6 = .ok (.aload_n 0, 1) := by decide +kernel
theorem dX7_heightWithin_7 : decode cX7_heightWithin 7 = .ok (.getfield 35, 3) := by decide +kernel
theorem dX7_heightWithin_10 : decode cX7_heightWithin 10 = .ok (.imul, 1) := by decide +kernel
theorem dX7_heightWithin_11 : decode cX7_heightWithin 11 = .ok (.isub, 1) := by decide +kernel
theorem dX7_heightWithin_12 : decode cX7_heightWithin 12 = .ok (.invokevirtual 78, 3) := by decide +kernel
theorem dX7_heightWithin_15 : decode cX7_heightWithin 15 = .ok (.iconst 2, 1) := by decide +kernel
theorem dX7_heightWithin_16 : decode cX7_heightWithin 16 = .ok (.aload_n 0, 1) := by decide +kernel
theorem dX7_heightWithin_17 : decode cX7_heightWithin 17 = .ok (.getfield 35, 3) := by decide +kernel
theorem dX7_heightWithin_20 : decode cX7_heightWithin 20 = .ok (.imul, 1) := by decide +kernel
theorem dX7_heightWithin_21 : decode cX7_heightWithin 21 = .ok (.iadd, 1) := by decide +kernel
theorem dX7_heightWithin_22 : decode cX7_heightWithin 22 = .ok (.ireturn, 1) := by decide +kernel
theorem dX7_widthIn_0 : decode cX7_widthIn 0 = .ok (.aload_n 0, 1) := by decide +kernel
theorem dX7_widthIn_1 : decode cX7_widthIn 1 = .ok (.getfield 15, 3) := by decide +kernel
theorem dX7_widthIn_4 : decode cX7_widthIn 4 = .ok (.aload_n 1, 1) := by decide +kernel
theorem dX7_widthIn_5 : decode cX7_widthIn 5 = .ok (.getfield 62, 3) := by decide +kernel
theorem dX7_widthIn_8 : decode cX7_widthIn 8 = .ok (.iconst 1, 1) := by decide +kernel
theorem dX7_widthIn_9 : decode cX7_widthIn 9 = .ok (.isub, 1) := by decide +kernel
theorem dX7_widthIn_10 : decode cX7_widthIn 10 = .ok (.imul, 1) := by decide +kernel
theorem dX7_widthIn_11 : decode cX7_widthIn 11 = .ok (.istore_n 3, 1) := by decide +kernel
theorem dX7_widthIn_12 : decode cX7_widthIn 12 = .ok (.aload_n 1, 1) := by decide +kernel
theorem dX7_widthIn_13 : decode cX7_widthIn 13 = .ok (.getfield 59, 3) := by decide +kernel
theorem dX7_widthIn_16 : decode cX7_widthIn 16 = .ok (.istore 4, 2) := by decide +kernel
theorem dX7_widthIn_18 : decode cX7_widthIn 18 = .ok (.iload 4, 2) := by decide +kernel
theorem dX7_widthIn_20 : decode cX7_widthIn 20 = .ok (.aload_n 1, 1) := by decide +kernel
theorem dX7_widthIn_21 : decode cX7_widthIn 21 = .ok (.getfield 59, 3) := by decide +kernel
theorem dX7_widthIn_24 : decode cX7_widthIn 24 = .ok (.aload_n 1, 1) := by decide +kernel
