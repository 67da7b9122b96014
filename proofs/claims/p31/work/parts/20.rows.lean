/-! own: rows of the methods, for the rules -/
set_option maxRecDepth 100000
theorem rX0_init_0 : am_rw mX0_init 0 = some (.aload_n 0, 1, 0, 0) := by decide +kernel
theorem rX0_init_1 : am_rw mX0_init 1 = some (.invokespecial 3, 3, 999, 1) := by decide +kernel
theorem rX0_init_4 : am_rw mX0_init 4 = some (.aload_n 0, 1, 0, 0) := by decide +kernel
theorem rX0_init_5 : am_rw mX0_init 5 = some (.new 9, 3, 2, 0) := by decide +kernel
theorem rX0_init_8 : am_rw mX0_init 8 = some (.dup, 1, 0, 0) := by decide +kernel
theorem rX0_init_9 : am_rw mX0_init 9 = some (.invokespecial 11, 3, 7, 1) := by decide +kernel
theorem rX0_init_12 : am_rw mX0_init 12 = some (.putfield 12, 3, 0, 0) := by decide +kernel
theorem rX0_init_15 : am_rw mX0_init 15 = some (.aload_n 0, 1, 0, 0) := by decide +kernel
theorem rX0_init_16 : am_rw mX0_init 16 = some (.sipush 201, 3, 201, 0) := by decide +kernel
theorem rX0_init_19 : am_rw mX0_init 19 = some (.newarray .float, 2, 22, 0) := by decide +kernel
theorem rX0_init_21 : am_rw mX0_init 21 = some (.putfield 18, 3, 0, 1) := by decide +kernel
theorem rX0_init_24 : am_rw mX0_init 24 = some (.aload_n 0, 1, 0, 0) := by decide +kernel
theorem rX0_init_25 : am_rw mX0_init 25 = some (.iconst 0, 1, 0, 0) := by decide +kernel
theorem rX0_init_26 : am_rw mX0_init 26 = some (.putfield 22, 3, 0, 2) := by decide +kernel
theorem rX0_init_29 : am_rw mX0_init 29 = some (.aload_n 0, 1, 0, 0) := by decide +kernel
theorem rX0_init_30 : am_rw mX0_init 30 = some (.iconst (-1), 1, 1, 1) := by decide +kernel
theorem rX0_init_31 : am_rw mX0_init 31 = some (.putfield 26, 3, 0, 3) := by decide +kernel
theorem rX0_init_34 : am_rw mX0_init 34 = some (.aload_n 0, 1, 0, 0) := by decide +kernel
theorem rX0_init_35 : am_rw mX0_init 35 = some (.iconst 0, 1, 0, 0) := by decide +kernel
theorem rX0_init_36 : am_rw mX0_init 36 = some (.putfield 30, 3, 0, 4) := by decide +kernel
theorem rX0_init_39 : am_rw mX0_init 39 = some (.aload_n 0, 1, 0, 0) := by decide +kernel
theorem rX0_init_40 : am_rw mX0_init 40 = some (.fconst 0, 1, 0, 0) := by decide +kernel
theorem rX0_init_41 : am_rw mX0_init 41 = some (.putfield 33, 3, 0, 5) := by decide +kernel
theorem rX0_init_44 : am_rw mX0_init 44 = some (.aload_n 0, 1, 0, 0) := by decide +kernel
theorem rX0_init_45 : am_rw mX0_init 45 = some (.iconst 0, 1, 0, 0) := by decide +kernel
theorem rX0_init_46 : am_rw mX0_init 46 = some (.putfield 37, 3, 0, 6) := by decide +kernel
theorem rX0_init_49 : am_rw mX0_init 49 = some (.aload_n 0, 1, 0, 0) := by decide +kernel
theorem rX0_init_50 : am_rw mX0_init 50 = some (.iconst (-1), 1, 1, 1) := by decide +kernel
theorem rX0_init_51 : am_rw mX0_init 51 = some (.putfield 40, 3, 0, 7) := by decide +kernel
theorem rX0_init_54 : am_rw mX0_init 54 = some (.aload_n 0, 1, 0, 0) := by decide +kernel
theorem rX0_init_55 : am_rw mX0_init 55 = some (.iconst 0, 1, 0, 0) := by decide +kernel
theorem rX0_init_56 : am_rw mX0_init 56 = some (.putfield 43, 3, 0, 8) := by decide +kernel
theorem rX0_init_59 : am_rw mX0_init 59 = some (.aload_n 0, 1, 0, 0) := by decide +kernel
theorem rX0_init_60 : am_rw mX0_init 60 = some (.iconst 0, 1, 0, 0) := by decide +kernel
theorem rX0_init_61 : am_rw mX0_init 61 = some (.putfield 46, 3, 0, 9) := by decide +kernel
theorem rX0_init_64 : am_rw mX0_init 64 = some (.aload_n 0, 1, 0, 0) := by decide +kernel
theorem rX0_init_65 : am_rw mX0_init 65 = some (.iconst 0, 1, 0, 0) := by decide +kernel
theorem rX0_init_66 : am_rw mX0_init 66 = some (.putfield 49, 3, 0, 10) := by decide +kernel
theorem rX0_init_69 : am_rw mX0_init 69 = some (.aload_n 0, 1, 0, 0) := by decide +kernel
theorem rX0_init_70 : am_rw mX0_init 70 = some (.iconst 0, 1, 0, 0) := by decide +kernel
theorem rX0_init_71 : am_rw mX0_init 71 = some (.putfield 52, 3, 0, 11) := by decide +kernel
theorem rX0_init_74 : am_rw mX0_init 74 = some (.aload_n 0, 1, 0, 0) := by decide +kernel
theorem rX0_init_75 : am_rw mX0_init 75 = some (.fconst 1, 1, 0, 0) := by decide +kernel
theorem rX0_init_76 : am_rw mX0_init 76 = some (.putfield 55, 3, 0, 12) := by decide +kernel
theorem rX0_init_79 : am_rw mX0_init 79 = some (.aload_n 0, 1, 0, 0) := by decide +kernel
theorem rX0_init_80 : am_rw mX0_init 80 = some (.iconst 0, 1, 0, 0) := by decide +kernel
theorem rX0_init_81 : am_rw mX0_init 81 = some (.putfield 58, 3, 0, 13) := by decide +kernel
theorem rX0_init_84 : am_rw mX0_init 84 = some (.return_, 1, 0, 0) := by decide +kernel
theorem rX0_letThrough_0 : am_rw mX0_letThrough 0 = some (.aload_n 0, 1, 0, 0) := by decide +kernel
theorem rX0_letThrough_1 : am_rw mX0_letThrough 1 = some (.getfield 33, 3, 0, 5) := by decide +kernel
theorem rX0_letThrough_4 : am_rw mX0_letThrough 4 = some (.fload_n 2, 1, 0, 0) := by decide +kernel
theorem rX0_letThrough_5 : am_rw mX0_letThrough 5 = some (.fadd, 1, 0, 0) := by decide +kernel
theorem rX0_letThrough_6 : am_rw mX0_letThrough 6 = some (.fstore 4, 2, 0, 0) := by decide +kernel
theorem rX0_letThrough_8 : am_rw mX0_letThrough 8 = some (.fload_n 3, 1, 0, 0) := by decide +kernel
theorem rX0_letThrough_9 : am_rw mX0_letThrough 9 = some (.fconst 0, 1, 0, 0) := by decide +kernel
theorem rX0_letThrough_10 : am_rw mX0_letThrough 10 = some (.fcmp .g, 1, 0, 0) := by decide +kernel
theorem rX0_letThrough_11 : am_rw mX0_letThrough 11 = some (.ifCond .ge 7, 3, 18, 0) := by decide +kernel
theorem rX0_letThrough_14 : am_rw mX0_letThrough 14 = some (.fconst 0, 1, 0, 0) := by decide +kernel
theorem rX0_letThrough_15 : am_rw mX0_letThrough 15 = some (.goto 16, 3, 31, 0) := by decide +kernel
theorem rX0_letThrough_18 : am_rw mX0_letThrough 18 = some (.fload_n 3, 1, 0, 0) := by decide +kernel
theorem rX0_letThrough_19 : am_rw mX0_letThrough 19 = some (.fload 4, 2, 0, 0) := by decide +kernel
theorem rX0_letThrough_21 : am_rw mX0_letThrough 21 = some (.fcmp .l, 1, 0, 0) := by decide +kernel
theorem rX0_letThrough_22 : am_rw mX0_letThrough 22 = some (.ifCond .le 8, 3, 30, 0) := by decide +kernel
theorem rX0_letThrough_25 : am_rw mX0_letThrough 25 = some (.fload 4, 2, 0, 0) := by decide +kernel
theorem rX0_letThrough_27 : am_rw mX0_letThrough 27 = some (.goto 4, 3, 31, 0) := by decide +kernel
theorem rX0_letThrough_30 : am_rw mX0_letThrough 30 = some (.fload_n 3, 1, 0, 0) := by decide +kernel
theorem rX0_letThrough_31 : am_rw mX0_letThrough 31 = some (.fstore 5, 2, 0, 0) := by decide +kernel
theorem rX0_letThrough_33 : am_rw mX0_letThrough 33 = some (.fload 4, 2, 0, 0) := by decide +kernel
theorem rX0_letThrough_35 : am_rw mX0_letThrough 35 = some (.fload 5, 2, 0, 0) := by decide +kernel
theorem rX0_letThrough_37 : am_rw mX0_letThrough 37 = some (.fsub, 1, 0, 0) := by decide +kernel
theorem rX0_letThrough_38 : am_rw mX0_letThrough 38 = some (.fstore 6, 2, 0, 0) := by decide +kernel
theorem rX0_letThrough_40 : am_rw mX0_letThrough 40 = some (.fload 6, 2, 0, 0) := by decide +kernel
theorem rX0_letThrough_42 : am_rw mX0_letThrough 42 = some (.aload_n 0, 1, 0, 0) := by decide +kernel
theorem rX0_letThrough_43 : am_rw mX0_letThrough 43 = some (.getfield 30, 3, 0, 4) := by decide +kernel
theorem rX0_letThrough_46 : am_rw mX0_letThrough 46 = some (.i2f, 1, 0, 0) := by decide +kernel
theorem rX0_letThrough_47 : am_rw mX0_letThrough 47 = some (.fcmp .l, 1, 0, 0) := by decide +kernel
theorem rX0_letThrough_48 : am_rw mX0_letThrough 48 = some (.ifCond .le 14, 3, 62, 0) := by decide +kernel
theorem rX0_letThrough_51 : am_rw mX0_letThrough 51 = some (.fload 6, 2, 0, 0) := by decide +kernel
theorem rX0_letThrough_53 : am_rw mX0_letThrough 53 = some (.aload_n 0, 1, 0, 0) := by decide +kernel
theorem rX0_letThrough_54 : am_rw mX0_letThrough 54 = some (.getfield 30, 3, 0, 4) := by decide +kernel
theorem rX0_letThrough_57 : am_rw mX0_letThrough 57 = some (.i2f, 1, 0, 0) := by decide +kernel
theorem rX0_letThrough_58 : am_rw mX0_letThrough 58 = some (.fsub, 1, 0, 0) := by decide +kernel
theorem rX0_letThrough_59 : am_rw mX0_letThrough 59 = some (.goto 4, 3, 63, 0) := by decide +kernel
theorem rX0_letThrough_62 : am_rw mX0_letThrough 62 = some (.fconst 0, 1, 0, 0) := by decide +kernel
theorem rX0_letThrough_63 : am_rw mX0_letThrough 63 = some (.fstore 7, 2, 0, 0) := by decide +kernel
theorem rX0_letThrough_65 : am_rw mX0_letThrough 65 = some (.aload_n 0, 1, 0, 0) := by decide +kernel
theorem rX0_letThrough_66 : am_rw mX0_letThrough 66 = some (.fload 6, 2, 0, 0) := by decide +kernel
theorem rX0_letThrough_68 : am_rw mX0_letThrough 68 = some (.fload 7, 2, 0, 0) := by decide +kernel
theorem rX0_letThrough_70 : am_rw mX0_letThrough 70 = some (.fsub, 1, 0, 0) := by decide +kernel
theorem rX0_letThrough_71 : am_rw mX0_letThrough 71 = some (.putfield 33, 3, 0, 5) := by decide +kernel
theorem rX0_letThrough_74 : am_rw mX0_letThrough 74 = some (.iload_n 1, 1, 0, 0) := by decide +kernel
theorem rX0_letThrough_75 : am_rw mX0_letThrough 75 = some (.invokestatic 61, 3, 89, 1) := by decide +kernel
theorem rX0_letThrough_78 : am_rw mX0_letThrough 78 = some (.ifCond .eq 14, 3, 92, 0) := by decide +kernel
theorem rX0_letThrough_81 : am_rw mX0_letThrough 81 = some (.aload_n 0, 1, 0, 0) := by decide +kernel
theorem rX0_letThrough_82 : am_rw mX0_letThrough 82 = some (.getfield 18, 3, 0, 1) := by decide +kernel
theorem rX0_letThrough_85 : am_rw mX0_letThrough 85 = some (.iload_n 1, 1, 0, 0) := by decide +kernel
theorem rX0_letThrough_86 : am_rw mX0_letThrough 86 = some (.fload 5, 2, 0, 0) := by decide +kernel
theorem rX0_letThrough_88 : am_rw mX0_letThrough 88 = some (.fload 7, 2, 0, 0) := by decide +kernel
theorem rX0_letThrough_90 : am_rw mX0_letThrough 90 = some (.fadd, 1, 0, 0) := by decide +kernel
theorem rX0_letThrough_91 : am_rw mX0_letThrough 91 = some (.fastore, 1, 0, 0) := by decide +kernel
theorem rX0_letThrough_92 : am_rw mX0_letThrough 92 = some (.return_, 1, 0, 0) := by decide +kernel
theorem rX1_init_0 : am_rw mX1_init 0 = some (.aload_n 0, 1, 0, 0) := by decide +kernel
theorem rX1_init_1 : am_rw mX1_init 1 = some (.invokespecial 3, 3, 999, 1) := by decide +kernel
theorem rX1_init_4 : am_rw mX1_init 4 = some (.aload_n 0, 1, 0, 0) := by decide +kernel
theorem rX1_init_5 : am_rw mX1_init 5 = some (.bipush 40, 2, 40, 0) := by decide +kernel
theorem rX1_init_7 : am_rw mX1_init 7 = some (.newarray .char, 2, 24, 0) := by decide +kernel
theorem rX1_init_9 : am_rw mX1_init 9 = some (.putfield 9, 3, 1, 0) := by decide +kernel
theorem rX1_init_12 : am_rw mX1_init 12 = some (.aload_n 0, 1, 0, 0) := by decide +kernel
theorem rX1_init_13 : am_rw mX1_init 13 = some (.iconst 0, 1, 0, 0) := by decide +kernel
theorem rX1_init_14 : am_rw mX1_init 14 = some (.putfield 15, 3, 1, 1) := by decide +kernel
theorem rX1_init_17 : am_rw mX1_init 17 = some (.return_, 1, 0, 0) := by decide +kernel
theorem rX1_mayHold_0 : am_rw mX1_mayHold 0 = some (.iload_n 0, 1, 0, 0) := by decide +kernel
theorem rX1_mayHold_1 : am_rw mX1_mayHold 1 = some (.bipush 97, 2, 97, 0) := by decide +kernel
theorem rX1_mayHold_3 : am_rw mX1_mayHold 3 = some (.if_icmp .lt 9, 3, 12, 0) := by decide +kernel
theorem rX1_mayHold_6 : am_rw mX1_mayHold 6 = some (.iload_n 0, 1, 0, 0) := by decide +kernel
theorem rX1_mayHold_7 : am_rw mX1_mayHold 7 = some (.bipush 122, 2, 122, 0) := by decide +kernel
theorem rX1_mayHold_9 : am_rw mX1_mayHold 9 = some (.if_icmp .le 24, 3, 33, 0) := by decide +kernel
theorem rX1_mayHold_12 : am_rw mX1_mayHold 12 = some (.iload_n 0, 1, 0, 0) := by decide +kernel
theorem rX1_mayHold_13 : am_rw mX1_mayHold 13 = some (.bipush 48, 2, 48, 0) := by decide +kernel
theorem rX1_mayHold_15 : am_rw mX1_mayHold 15 = some (.if_icmp .lt 9, 3, 24, 0) := by decide +kernel
theorem rX1_mayHold_18 : am_rw mX1_mayHold 18 = some (.iload_n 0, 1, 0, 0) := by decide +kernel
theorem rX1_mayHold_19 : am_rw mX1_mayHold 19 = some (.bipush 57, 2, 57, 0) := by decide +kernel
theorem rX1_mayHold_21 : am_rw mX1_mayHold 21 = some (.if_icmp .le 12, 3, 33, 0) := by decide +kernel
theorem rX1_mayHold_24 : am_rw mX1_mayHold 24 = some (.ldc 19, 2, 2, 0) := by decide +kernel
theorem rX1_mayHold_26 : am_rw mX1_mayHold 26 = some (.iload_n 0, 1, 0, 0) := by decide +kernel
theorem rX1_mayHold_27 : am_rw mX1_mayHold 27 = some (.invokevirtual 21, 3, 104, 2) := by decide +kernel
theorem rX1_mayHold_30 : am_rw mX1_mayHold 30 = some (.ifCond .lt 7, 3, 37, 0) := by decide +kernel
theorem rX1_mayHold_33 : am_rw mX1_mayHold 33 = some (.iconst 1, 1, 1, 0) := by decide +kernel
theorem rX1_mayHold_34 : am_rw mX1_mayHold 34 = some (.goto 4, 3, 38, 0) := by decide +kernel
theorem rX1_mayHold_37 : am_rw mX1_mayHold 37 = some (.iconst 0, 1, 0, 0) := by decide +kernel
theorem rX1_mayHold_38 : am_rw mX1_mayHold 38 = some (.ireturn, 1, 0, 0) := by decide +kernel
theorem rX1_isFull_0 : am_rw mX1_isFull 0 = some (.aload_n 0, 1, 0, 0) := by decide +kernel
theorem rX1_isFull_1 : am_rw mX1_isFull 1 = some (.getfield 15, 3, 1, 1) := by decide +kernel
theorem rX1_isFull_4 : am_rw mX1_isFull 4 = some (.aload_n 0, 1, 0, 0) := by decide +kernel
theorem rX1_isFull_5 : am_rw mX1_isFull 5 = some (.getfield 9, 3, 1, 0) := by decide +kernel
theorem rX1_isFull_8 : am_rw mX1_isFull 8 = some (.arraylength, 1, 0, 0) := by decide +kernel
theorem rX1_isFull_9 : am_rw mX1_isFull 9 = some (.if_icmp .lt 7, 3, 16, 0) := by decide +kernel
theorem rX1_isFull_12 : am_rw mX1_isFull 12 = some (.iconst 1, 1, 1, 0) := by decide +kernel
theorem rX1_isFull_13 : am_rw mX1_isFull 13 = some (.goto 4, 3, 17, 0) := by decide +kernel
theorem rX1_isFull_16 : am_rw mX1_isFull 16 = some (.iconst 0, 1, 0, 0) := by decide +kernel
theorem rX1_isFull_17 : am_rw mX1_isFull 17 = some (.ireturn, 1, 0, 0) := by decide +kernel
theorem rX1_add_0 : am_rw mX1_add 0 = some (.aload_n 0, 1, 0, 0) := by decide +kernel
theorem rX1_add_1 : am_rw mX1_add 1 = some (.getfield 15, 3, 1, 1) := by decide +kernel
theorem rX1_add_4 : am_rw mX1_add 4 = some (.ifCond .lt 35, 3, 39, 0) := by decide +kernel
theorem rX1_add_7 : am_rw mX1_add 7 = some (.aload_n 0, 1, 0, 0) := by decide +kernel
theorem rX1_add_8 : am_rw mX1_add 8 = some (.getfield 15, 3, 1, 1) := by decide +kernel
theorem rX1_add_11 : am_rw mX1_add 11 = some (.aload_n 0, 1, 0, 0) := by decide +kernel
theorem rX1_add_12 : am_rw mX1_add 12 = some (.getfield 9, 3, 1, 0) := by decide +kernel
theorem rX1_add_15 : am_rw mX1_add 15 = some (.arraylength, 1, 0, 0) := by decide +kernel
theorem rX1_add_16 : am_rw mX1_add 16 = some (.if_icmp .ge 23, 3, 39, 0) := by decide +kernel
theorem rX1_add_19 : am_rw mX1_add 19 = some (.aload_n 0, 1, 0, 0) := by decide +kernel
theorem rX1_add_20 : am_rw mX1_add 20 = some (.getfield 9, 3, 1, 0) := by decide +kernel
theorem rX1_add_23 : am_rw mX1_add 23 = some (.aload_n 0, 1, 0, 0) := by decide +kernel
theorem rX1_add_24 : am_rw mX1_add 24 = some (.getfield 15, 3, 1, 1) := by decide +kernel
theorem rX1_add_27 : am_rw mX1_add 27 = some (.iload_n 1, 1, 0, 0) := by decide +kernel
theorem rX1_add_28 : am_rw mX1_add 28 = some (.castore, 1, 0, 0) := by decide +kernel
theorem rX1_add_29 : am_rw mX1_add 29 = some (.aload_n 0, 1, 0, 0) := by decide +kernel
theorem rX1_add_30 : am_rw mX1_add 30 = some (.dup, 1, 0, 0) := by decide +kernel
theorem rX1_add_31 : am_rw mX1_add 31 = some (.getfield 15, 3, 1, 1) := by decide +kernel
theorem rX1_add_34 : am_rw mX1_add 34 = some (.iconst 1, 1, 1, 0) := by decide +kernel
theorem rX1_add_35 : am_rw mX1_add 35 = some (.iadd, 1, 0, 0) := by decide +kernel
theorem rX1_add_36 : am_rw mX1_add 36 = some (.putfield 15, 3, 1, 1) := by decide +kernel
theorem rX1_add_39 : am_rw mX1_add 39 = some (.aload_n 0, 1, 0, 0) := by decide +kernel
theorem rX1_add_40 : am_rw mX1_add 40 = some (.getfield 15, 3, 1, 1) := by decide +kernel
theorem rX1_add_43 : am_rw mX1_add 43 = some (.ireturn, 1, 0, 0) := by decide +kernel
theorem rX1_clear_0 : am_rw mX1_clear 0 = some (.aload_n 0, 1, 0, 0) := by decide +kernel
theorem rX1_clear_1 : am_rw mX1_clear 1 = some (.getfield 15, 3, 1, 1) := by decide +kernel
theorem rX1_clear_4 : am_rw mX1_clear 4 = some (.istore_n 1, 1, 0, 0) := by decide +kernel
theorem rX1_clear_5 : am_rw mX1_clear 5 = some (.aload_n 0, 1, 0, 0) := by decide +kernel
theorem rX1_clear_6 : am_rw mX1_clear 6 = some (.iconst 0, 1, 0, 0) := by decide +kernel
theorem rX1_clear_7 : am_rw mX1_clear 7 = some (.putfield 15, 3, 1, 1) := by decide +kernel
theorem rX1_clear_10 : am_rw mX1_clear 10 = some (.iload_n 1, 1, 0, 0) := by decide +kernel
theorem rX1_clear_11 : am_rw mX1_clear 11 = some (.ireturn, 1, 0, 0) := by decide +kernel
theorem rX2_init_0 : am_rw mX2_init 0 = some (.aload_n 0, 1, 0, 0) := by decide +kernel
theorem rX2_init_1 : am_rw mX2_init 1 = some (.invokespecial 3, 3, 999, 1) := by decide +kernel
theorem rX2_init_4 : am_rw mX2_init 4 = some (.aload_n 0, 1, 0, 0) := by decide +kernel
theorem rX2_init_5 : am_rw mX2_init 5 = some (.bipush 40, 2, 40, 0) := by decide +kernel
theorem rX2_init_7 : am_rw mX2_init 7 = some (.newarray .int, 2, 20, 0) := by decide +kernel
theorem rX2_init_9 : am_rw mX2_init 9 = some (.putfield 9, 3, 2, 0) := by decide +kernel
theorem rX2_init_12 : am_rw mX2_init 12 = some (.aload_n 0, 1, 0, 0) := by decide +kernel
theorem rX2_init_13 : am_rw mX2_init 13 = some (.bipush 40, 2, 40, 0) := by decide +kernel
theorem rX2_init_15 : am_rw mX2_init 15 = some (.newarray .int, 2, 20, 0) := by decide +kernel
theorem rX2_init_17 : am_rw mX2_init 17 = some (.putfield 15, 3, 2, 1) := by decide +kernel
theorem rX2_init_20 : am_rw mX2_init 20 = some (.aload_n 0, 1, 0, 0) := by decide +kernel
theorem rX2_init_21 : am_rw mX2_init 21 = some (.iconst 0, 1, 0, 0) := by decide +kernel
theorem rX2_init_22 : am_rw mX2_init 22 = some (.putfield 18, 3, 2, 2) := by decide +kernel
theorem rX2_init_25 : am_rw mX2_init 25 = some (.aload_n 0, 1, 0, 0) := by decide +kernel
theorem rX2_init_26 : am_rw mX2_init 26 = some (.iconst 0, 1, 0, 0) := by decide +kernel
theorem rX2_init_27 : am_rw mX2_init 27 = some (.putfield 22, 3, 2, 3) := by decide +kernel
theorem rX2_init_30 : am_rw mX2_init 30 = some (.aload_n 0, 1, 0, 0) := by decide +kernel
theorem rX2_init_31 : am_rw mX2_init 31 = some (.iconst 0, 1, 0, 0) := by decide +kernel
theorem rX2_init_32 : am_rw mX2_init 32 = some (.putfield 25, 3, 2, 4) := by decide +kernel
theorem rX2_init_35 : am_rw mX2_init 35 = some (.return_, 1, 0, 0) := by decide +kernel
theorem rX2_clear_0 : am_rw mX2_clear 0 = some (.aload_n 0, 1, 0, 0) := by decide +kernel
theorem rX2_clear_1 : am_rw mX2_clear 1 = some (.iconst 0, 1, 0, 0) := by decide +kernel
theorem rX2_clear_2 : am_rw mX2_clear 2 = some (.putfield 18, 3, 2, 2) := by decide +kernel
theorem rX2_clear_5 : am_rw mX2_clear 5 = some (.aload_n 0, 1, 0, 0) := by decide +kernel
theorem rX2_clear_6 : am_rw mX2_clear 6 = some (.iconst 0, 1, 0, 0) := by decide +kernel
theorem rX2_clear_7 : am_rw mX2_clear 7 = some (.putfield 22, 3, 2, 3) := by decide +kernel
theorem rX2_clear_10 : am_rw mX2_clear 10 = some (.aload_n 0, 1, 0, 0) := by decide +kernel
theorem rX2_clear_11 : am_rw mX2_clear 11 = some (.iconst 0, 1, 0, 0) := by decide +kernel
theorem rX2_clear_12 : am_rw mX2_clear 12 = some (.putfield 25, 3, 2, 4) := by decide +kernel
theorem rX2_clear_15 : am_rw mX2_clear 15 = some (.return_, 1, 0, 0) := by decide +kernel
theorem rX2_add_0 : am_rw mX2_add 0 = some (.aload_n 0, 1, 0, 0) := by decide +kernel
theorem rX2_add_1 : am_rw mX2_add 1 = some (.getfield 18, 3, 2, 2) := by decide +kernel
theorem rX2_add_4 : am_rw mX2_add 4 = some (.ifCond .lt 57, 3, 61, 0) := by decide +kernel
theorem rX2_add_7 : am_rw mX2_add 7 = some (.aload_n 0, 1, 0, 0) := by decide +kernel
theorem rX2_add_8 : am_rw mX2_add 8 = some (.getfield 18, 3, 2, 2) := by decide +kernel
theorem rX2_add_11 : am_rw mX2_add 11 = some (.aload_n 0, 1, 0, 0) := by decide +kernel
theorem rX2_add_12 : am_rw mX2_add 12 = some (.getfield 9, 3, 2, 0) := by decide +kernel
theorem rX2_add_15 : am_rw mX2_add 15 = some (.arraylength, 1, 0, 0) := by decide +kernel
theorem rX2_add_16 : am_rw mX2_add 16 = some (.if_icmp .ge 45, 3, 61, 0) := by decide +kernel
theorem rX2_add_19 : am_rw mX2_add 19 = some (.aload_n 0, 1, 0, 0) := by decide +kernel
theorem rX2_add_20 : am_rw mX2_add 20 = some (.getfield 18, 3, 2, 2) := by decide +kernel
theorem rX2_add_23 : am_rw mX2_add 23 = some (.aload_n 0, 1, 0, 0) := by decide +kernel
theorem rX2_add_24 : am_rw mX2_add 24 = some (.getfield 15, 3, 2, 1) := by decide +kernel
theorem rX2_add_27 : am_rw mX2_add 27 = some (.arraylength, 1, 0, 0) := by decide +kernel
theorem rX2_add_28 : am_rw mX2_add 28 = some (.if_icmp .ge 33, 3, 61, 0) := by decide +kernel
theorem rX2_add_31 : am_rw mX2_add 31 = some (.aload_n 0, 1, 0, 0) := by decide +kernel
theorem rX2_add_32 : am_rw mX2_add 32 = some (.getfield 9, 3, 2, 0) := by decide +kernel
theorem rX2_add_35 : am_rw mX2_add 35 = some (.aload_n 0, 1, 0, 0) := by decide +kernel
theorem rX2_add_36 : am_rw mX2_add 36 = some (.getfield 18, 3, 2, 2) := by decide +kernel
theorem rX2_add_39 : am_rw mX2_add 39 = some (.iload_n 1, 1, 0, 0) := by decide +kernel
theorem rX2_add_40 : am_rw mX2_add 40 = some (.iastore, 1, 0, 0) := by decide +kernel
theorem rX2_add_41 : am_rw mX2_add 41 = some (.aload_n 0, 1, 0, 0) := by decide +kernel
theorem rX2_add_42 : am_rw mX2_add 42 = some (.getfield 15, 3, 2, 1) := by decide +kernel
theorem rX2_add_45 : am_rw mX2_add 45 = some (.aload_n 0, 1, 0, 0) := by decide +kernel
theorem rX2_add_46 : am_rw mX2_add 46 = some (.getfield 18, 3, 2, 2) := by decide +kernel
theorem rX2_add_49 : am_rw mX2_add 49 = some (.iload_n 2, 1, 0, 0) := by decide +kernel
theorem rX2_add_50 : am_rw mX2_add 50 = some (.iastore, 1, 0, 0) := by decide +kernel
theorem rX2_add_51 : am_rw mX2_add 51 = some (.aload_n 0, 1, 0, 0) := by decide +kernel
theorem rX2_add_52 : am_rw mX2_add 52 = some (.dup, 1, 0, 0) := by decide +kernel
theorem rX2_add_53 : am_rw mX2_add 53 = some (.getfield 18, 3, 2, 2) := by decide +kernel
theorem rX2_add_56 : am_rw mX2_add 56 = some (.iconst 1, 1, 1, 0) := by decide +kernel
theorem rX2_add_57 : am_rw mX2_add 57 = some (.iadd, 1, 0, 0) := by decide +kernel
theorem rX2_add_58 : am_rw mX2_add 58 = some (.putfield 18, 3, 2, 2) := by decide +kernel
theorem rX2_add_61 : am_rw mX2_add 61 = some (.return_, 1, 0, 0) := by decide +kernel
theorem rX2_addName_0 : am_rw mX2_addName 0 = some (.aload_n 0, 1, 0, 0) := by decide +kernel
theorem rX2_addName_1 : am_rw mX2_addName 1 = some (.iconst 1, 1, 1, 0) := by decide +kernel
theorem rX2_addName_2 : am_rw mX2_addName 2 = some (.iload_n 1, 1, 0, 0) := by decide +kernel
theorem rX2_addName_3 : am_rw mX2_addName 3 = some (.invokevirtual 28, 3, 9, 3) := by decide +kernel
theorem rX2_addName_6 : am_rw mX2_addName 6 = some (.iload_n 1, 1, 0, 0) := by decide +kernel
theorem rX2_addName_7 : am_rw mX2_addName 7 = some (.ifCond .lt 25, 3, 32, 0) := by decide +kernel
theorem rX2_addName_10 : am_rw mX2_addName 10 = some (.iload_n 1, 1, 0, 0) := by decide +kernel
theorem rX2_addName_11 : am_rw mX2_addName 11 = some (.iconst 3, 1, 3, 0) := by decide +kernel
theorem rX2_addName_12 : am_rw mX2_addName 12 = some (.if_icmp .ge 20, 3, 32, 0) := by decide +kernel
theorem rX2_addName_15 : am_rw mX2_addName 15 = some (.aload_n 0, 1, 0, 0) := by decide +kernel
theorem rX2_addName_16 : am_rw mX2_addName 16 = some (.dup, 1, 0, 0) := by decide +kernel
theorem rX2_addName_17 : am_rw mX2_addName 17 = some (.getfield 25, 3, 2, 4) := by decide +kernel
theorem rX2_addName_20 : am_rw mX2_addName 20 = some (.iconst 1, 1, 1, 0) := by decide +kernel
theorem rX2_addName_21 : am_rw mX2_addName 21 = some (.iload_n 1, 1, 0, 0) := by decide +kernel
theorem rX2_addName_22 : am_rw mX2_addName 22 = some (.iconst 0, 1, 0, 0) := by decide +kernel
theorem rX2_addName_23 : am_rw mX2_addName 23 = some (.isub, 1, 0, 0) := by decide +kernel
theorem rX2_addName_24 : am_rw mX2_addName 24 = some (.ishl, 1, 0, 0) := by decide +kernel
theorem rX2_addName_25 : am_rw mX2_addName 25 = some (.ior, 1, 0, 0) := by decide +kernel
theorem rX2_addName_26 : am_rw mX2_addName 26 = some (.putfield 25, 3, 2, 4) := by decide +kernel
theorem rX2_addName_29 : am_rw mX2_addName 29 = some (.goto 58, 3, 87, 0) := by decide +kernel
theorem rX2_addName_32 : am_rw mX2_addName 32 = some (.iload_n 1, 1, 0, 0) := by decide +kernel
theorem rX2_addName_33 : am_rw mX2_addName 33 = some (.iconst 3, 1, 3, 0) := by decide +kernel
theorem rX2_addName_34 : am_rw mX2_addName 34 = some (.if_icmp .lt 26, 3, 60, 0) := by decide +kernel
theorem rX2_addName_37 : am_rw mX2_addName 37 = some (.iload_n 1, 1, 0, 0) := by decide +kernel
theorem rX2_addName_38 : am_rw mX2_addName 38 = some (.bipush 9, 2, 9, 0) := by decide +kernel
theorem rX2_addName_40 : am_rw mX2_addName 40 = some (.if_icmp .ge 20, 3, 60, 0) := by decide +kernel
theorem rX2_addName_43 : am_rw mX2_addName 43 = some (.aload_n 0, 1, 0, 0) := by decide +kernel
theorem rX2_addName_44 : am_rw mX2_addName 44 = some (.dup, 1, 0, 0) := by decide +kernel
theorem rX2_addName_45 : am_rw mX2_addName 45 = some (.getfield 22, 3, 2, 3) := by decide +kernel
theorem rX2_addName_48 : am_rw mX2_addName 48 = some (.iconst 1, 1, 1, 0) := by decide +kernel
theorem rX2_addName_49 : am_rw mX2_addName 49 = some (.iload_n 1, 1, 0, 0) := by decide +kernel
theorem rX2_addName_50 : am_rw mX2_addName 50 = some (.iconst 3, 1, 3, 0) := by decide +kernel
theorem rX2_addName_51 : am_rw mX2_addName 51 = some (.isub, 1, 0, 0) := by decide +kernel
theorem rX2_addName_52 : am_rw mX2_addName 52 = some (.ishl, 1, 0, 0) := by decide +kernel
theorem rX2_addName_53 : am_rw mX2_addName 53 = some (.ior, 1, 0, 0) := by decide +kernel
theorem rX2_addName_54 : am_rw mX2_addName 54 = some (.putfield 22, 3, 2, 3) := by decide +kernel
theorem rX2_addName_57 : am_rw mX2_addName 57 = some (.goto 30, 3, 87, 0) := by decide +kernel
theorem rX2_addName_60 : am_rw mX2_addName 60 = some (.iload_n 1, 1, 0, 0) := by decide +kernel
theorem rX2_addName_61 : am_rw mX2_addName 61 = some (.bipush 9, 2, 9, 0) := by decide +kernel
theorem rX2_addName_63 : am_rw mX2_addName 63 = some (.if_icmp .lt 24, 3, 87, 0) := by decide +kernel
theorem rX2_addName_66 : am_rw mX2_addName 66 = some (.iload_n 1, 1, 0, 0) := by decide +kernel
theorem rX2_addName_67 : am_rw mX2_addName 67 = some (.bipush 15, 2, 15, 0) := by decide +kernel
theorem rX2_addName_69 : am_rw mX2_addName 69 = some (.if_icmp .ge 18, 3, 87, 0) := by decide +kernel
theorem rX2_addName_72 : am_rw mX2_addName 72 = some (.aload_n 0, 1, 0, 0) := by decide +kernel
theorem rX2_addName_73 : am_rw mX2_addName 73 = some (.dup, 1, 0, 0) := by decide +kernel
theorem rX2_addName_74 : am_rw mX2_addName 74 = some (.getfield 22, 3, 2, 3) := by decide +kernel
theorem rX2_addName_77 : am_rw mX2_addName 77 = some (.iconst 1, 1, 1, 0) := by decide +kernel
theorem rX2_addName_78 : am_rw mX2_addName 78 = some (.iload_n 1, 1, 0, 0) := by decide +kernel
theorem rX2_addName_79 : am_rw mX2_addName 79 = some (.bipush 9, 2, 9, 0) := by decide +kernel
theorem rX2_addName_81 : am_rw mX2_addName 81 = some (.isub, 1, 0, 0) := by decide +kernel
theorem rX2_addName_82 : am_rw mX2_addName 82 = some (.ishl, 1, 0, 0) := by decide +kernel
theorem rX2_addName_83 : am_rw mX2_addName 83 = some (.ior, 1, 0, 0) := by decide +kernel
theorem rX2_addName_84 : am_rw mX2_addName 84 = some (.putfield 22, 3, 2, 3) := by decide +kernel
theorem rX2_addName_87 : am_rw mX2_addName 87 = some (.return_, 1, 0, 0) := by decide +kernel
theorem rX2_copy_0 : am_rw mX2_copy 0 = some (.iconst 0, 1, 0, 0) := by decide +kernel
theorem rX2_copy_1 : am_rw mX2_copy 1 = some (.istore_n 2, 1, 0, 0) := by decide +kernel
theorem rX2_copy_2 : am_rw mX2_copy 2 = some (.iload_n 2, 1, 0, 0) := by decide +kernel
theorem rX2_copy_3 : am_rw mX2_copy 3 = some (.bipush 40, 2, 40, 0) := by decide +kernel
theorem rX2_copy_5 : am_rw mX2_copy 5 = some (.if_icmp .ge 33, 3, 38, 0) := by decide +kernel
theorem rX2_copy_8 : am_rw mX2_copy 8 = some (.aload_n 0, 1, 0, 0) := by decide +kernel
theorem rX2_copy_9 : am_rw mX2_copy 9 = some (.getfield 9, 3, 2, 0) := by decide +kernel
theorem rX2_copy_12 : am_rw mX2_copy 12 = some (.iload_n 2, 1, 0, 0) := by decide +kernel
theorem rX2_copy_13 : am_rw mX2_copy 13 = some (.aload_n 1, 1, 0, 0) := by decide +kernel
theorem rX2_copy_14 : am_rw mX2_copy 14 = some (.getfield 9, 3, 2, 0) := by decide +kernel
theorem rX2_copy_17 : am_rw mX2_copy 17 = some (.iload_n 2, 1, 0, 0) := by decide +kernel
theorem rX2_copy_18 : am_rw mX2_copy 18 = some (.iaload, 1, 0, 0) := by decide +kernel
theorem rX2_copy_19 : am_rw mX2_copy 19 = some (.iastore, 1, 0, 0) := by decide +kernel
theorem rX2_copy_20 : am_rw mX2_copy 20 = some (.aload_n 0, 1, 0, 0) := by decide +kernel
theorem rX2_copy_21 : am_rw mX2_copy 21 = some (.getfield 15, 3, 2, 1) := by decide +kernel
theorem rX2_copy_24 : am_rw mX2_copy 24 = some (.iload_n 2, 1, 0, 0) := by decide +kernel
theorem rX2_copy_25 : am_rw mX2_copy 25 = some (.aload_n 1, 1, 0, 0) := by decide +kernel
theorem rX2_copy_26 : am_rw mX2_copy 26 = some (.getfield 15, 3, 2, 1) := by decide +kernel
theorem rX2_copy_29 : am_rw mX2_copy 29 = some (.iload_n 2, 1, 0, 0) := by decide +kernel
theorem rX2_copy_30 : am_rw mX2_copy 30 = some (.iaload, 1, 0, 0) := by decide +kernel
theorem rX2_copy_31 : am_rw mX2_copy 31 = some (.iastore, 1, 0, 0) := by decide +kernel
theorem rX2_copy_32 : am_rw mX2_copy 32 = some (.iinc 2 1, 3, 0, 0) := by decide +kernel
theorem rX2_copy_35 : am_rw mX2_copy 35 = some (.goto (-33), 3, 2, 0) := by decide +kernel
theorem rX2_copy_38 : am_rw mX2_copy 38 = some (.aload_n 0, 1, 0, 0) := by decide +kernel
theorem rX2_copy_39 : am_rw mX2_copy 39 = some (.aload_n 1, 1, 0, 0) := by decide +kernel
theorem rX2_copy_40 : am_rw mX2_copy 40 = some (.getfield 18, 3, 2, 2) := by decide +kernel
theorem rX2_copy_43 : am_rw mX2_copy 43 = some (.putfield 18, 3, 2, 2) := by decide +kernel
theorem rX2_copy_46 : am_rw mX2_copy 46 = some (.aload_n 0, 1, 0, 0) := by decide +kernel
theorem rX2_copy_47 : am_rw mX2_copy 47 = some (.aload_n 1, 1, 0, 0) := by decide +kernel
theorem rX2_copy_48 : am_rw mX2_copy 48 = some (.getfield 22, 3, 2, 3) := by decide +kernel
theorem rX2_copy_51 : am_rw mX2_copy 51 = some (.putfield 22, 3, 2, 3) := by decide +kernel
theorem rX2_copy_54 : am_rw mX2_copy 54 = some (.aload_n 0, 1, 0, 0) := by decide +kernel
theorem rX2_copy_55 : am_rw mX2_copy 55 = some (.aload_n 1, 1, 0, 0) := by decide +kernel
theorem rX2_copy_56 : am_rw mX2_copy 56 = some (.getfield 25, 3, 2, 4) := by decide +kernel
theorem rX2_copy_59 : am_rw mX2_copy 59 = some (.putfield 25, 3, 2, 4) := by decide +kernel
theorem rX2_copy_62 : am_rw mX2_copy 62 = some (.return_, 1, 0, 0) := by decide +kernel
theorem rX3_init_0 : am_rw mX3_init 0 = some (.aload_n 0, 1, 0, 0) := by decide +kernel
theorem rX3_init_1 : am_rw mX3_init 1 = some (.invokespecial 3, 3, 999, 1) := by decide +kernel
theorem rX3_init_4 : am_rw mX3_init 4 = some (.aload_n 0, 1, 0, 0) := by decide +kernel
theorem rX3_init_5 : am_rw mX3_init 5 = some (.new 9, 3, 2, 0) := by decide +kernel
theorem rX3_init_8 : am_rw mX3_init 8 = some (.dup, 1, 0, 0) := by decide +kernel
theorem rX3_init_9 : am_rw mX3_init 9 = some (.invokespecial 11, 3, 7, 1) := by decide +kernel
theorem rX3_init_12 : am_rw mX3_init 12 = some (.putfield 12, 3, 3, 0) := by decide +kernel
theorem rX3_init_15 : am_rw mX3_init 15 = some (.aload_n 0, 1, 0, 0) := by decide +kernel
theorem rX3_init_16 : am_rw mX3_init 16 = some (.bipush 40, 2, 40, 0) := by decide +kernel
theorem rX3_init_18 : am_rw mX3_init 18 = some (.newarray .int, 2, 20, 0) := by decide +kernel
theorem rX3_init_20 : am_rw mX3_init 20 = some (.putfield 18, 3, 3, 1) := by decide +kernel
theorem rX3_init_23 : am_rw mX3_init 23 = some (.aload_n 0, 1, 0, 0) := by decide +kernel
theorem rX3_init_24 : am_rw mX3_init 24 = some (.bipush 40, 2, 40, 0) := by decide +kernel
theorem rX3_init_26 : am_rw mX3_init 26 = some (.newarray .int, 2, 20, 0) := by decide +kernel
theorem rX3_init_28 : am_rw mX3_init 28 = some (.putfield 22, 3, 3, 2) := by decide +kernel
theorem rX3_init_31 : am_rw mX3_init 31 = some (.aload_n 0, 1, 0, 0) := by decide +kernel
theorem rX3_init_32 : am_rw mX3_init 32 = some (.iconst 0, 1, 0, 0) := by decide +kernel
theorem rX3_init_33 : am_rw mX3_init 33 = some (.putfield 25, 3, 3, 3) := by decide +kernel
theorem rX3_init_36 : am_rw mX3_init 36 = some (.aload_n 0, 1, 0, 0) := by decide +kernel
theorem rX3_init_37 : am_rw mX3_init 37 = some (.iconst 0, 1, 0, 0) := by decide +kernel
theorem rX3_init_38 : am_rw mX3_init 38 = some (.putfield 29, 3, 3, 4) := by decide +kernel
theorem rX3_init_41 : am_rw mX3_init 41 = some (.aload_n 0, 1, 0, 0) := by decide +kernel
theorem rX3_init_42 : am_rw mX3_init 42 = some (.iconst 0, 1, 0, 0) := by decide +kernel
theorem rX3_init_43 : am_rw mX3_init 43 = some (.putfield 32, 3, 3, 5) := by decide +kernel
theorem rX3_init_46 : am_rw mX3_init 46 = some (.aload_n 0, 1, 0, 0) := by decide +kernel
theorem rX3_init_47 : am_rw mX3_init 47 = some (.iconst 0, 1, 0, 0) := by decide +kernel
theorem rX3_init_48 : am_rw mX3_init 48 = some (.putfield 36, 3, 3, 6) := by decide +kernel
theorem rX3_init_51 : am_rw mX3_init 51 = some (.aload_n 0, 1, 0, 0) := by decide +kernel
theorem rX3_init_52 : am_rw mX3_init 52 = some (.iconst 0, 1, 0, 0) := by decide +kernel
theorem rX3_init_53 : am_rw mX3_init 53 = some (.putfield 39, 3, 3, 7) := by decide +kernel
theorem rX3_init_56 : am_rw mX3_init 56 = some (.aload_n 0, 1, 0, 0) := by decide +kernel
theorem rX3_init_57 : am_rw mX3_init 57 = some (.iconst 0, 1, 0, 0) := by decide +kernel
theorem rX3_init_58 : am_rw mX3_init 58 = some (.putfield 42, 3, 3, 8) := by decide +kernel
theorem rX3_init_61 : am_rw mX3_init 61 = some (.aload_n 0, 1, 0, 0) := by decide +kernel
theorem rX3_init_62 : am_rw mX3_init 62 = some (.iconst 0, 1, 0, 0) := by decide +kernel
theorem rX3_init_63 : am_rw mX3_init 63 = some (.putfield 45, 3, 3, 9) := by decide +kernel
theorem rX3_init_66 : am_rw mX3_init 66 = some (.return_, 1, 0, 0) := by decide +kernel
theorem rX3_read_0 : am_rw mX3_read 0 = some (.aload_n 0, 1, 0, 0) := by decide +kernel
theorem rX3_read_1 : am_rw mX3_read 1 = some (.getfield 12, 3, 3, 0) := by decide +kernel
theorem rX3_read_4 : am_rw mX3_read 4 = some (.invokevirtual 48, 3, 8, 1) := by decide +kernel
theorem rX3_read_7 : am_rw mX3_read 7 = some (.aload_n 0, 1, 0, 0) := by decide +kernel
theorem rX3_read_8 : am_rw mX3_read 8 = some (.iconst 0, 1, 0, 0) := by decide +kernel
theorem rX3_read_9 : am_rw mX3_read 9 = some (.putfield 25, 3, 3, 3) := by decide +kernel
theorem rX3_read_12 : am_rw mX3_read 12 = some (.aload_n 0, 1, 0, 0) := by decide +kernel
theorem rX3_read_13 : am_rw mX3_read 13 = some (.iconst 0, 1, 0, 0) := by decide +kernel
theorem rX3_read_14 : am_rw mX3_read 14 = some (.putfield 29, 3, 3, 4) := by decide +kernel
theorem rX3_read_17 : am_rw mX3_read 17 = some (.aload_n 0, 1, 0, 0) := by decide +kernel
theorem rX3_read_18 : am_rw mX3_read 18 = some (.iload_n 2, 1, 0, 0) := by decide +kernel
theorem rX3_read_19 : am_rw mX3_read 19 = some (.putfield 32, 3, 3, 5) := by decide +kernel
theorem rX3_read_22 : am_rw mX3_read 22 = some (.iconst 0, 1, 0, 0) := by decide +kernel
theorem rX3_read_23 : am_rw mX3_read 23 = some (.istore_n 3, 1, 0, 0) := by decide +kernel
theorem rX3_read_24 : am_rw mX3_read 24 = some (.iload_n 3, 1, 0, 0) := by decide +kernel
theorem rX3_read_25 : am_rw mX3_read 25 = some (.aload_n 1, 1, 0, 0) := by decide +kernel
theorem rX3_read_26 : am_rw mX3_read 26 = some (.getfield 51, 3, 1, 1) := by decide +kernel
theorem rX3_read_29 : am_rw mX3_read 29 = some (.if_icmp .ge 33, 3, 62, 0) := by decide +kernel
theorem rX3_read_32 : am_rw mX3_read 32 = some (.iload_n 3, 1, 0, 0) := by decide +kernel
theorem rX3_read_33 : am_rw mX3_read 33 = some (.aload_n 1, 1, 0, 0) := by decide +kernel
theorem rX3_read_34 : am_rw mX3_read 34 = some (.getfield 56, 3, 1, 0) := by decide +kernel
theorem rX3_read_37 : am_rw mX3_read 37 = some (.arraylength, 1, 0, 0) := by decide +kernel
theorem rX3_read_38 : am_rw mX3_read 38 = some (.if_icmp .ge 24, 3, 62, 0) := by decide +kernel
theorem rX3_read_41 : am_rw mX3_read 41 = some (.aload_n 0, 1, 0, 0) := by decide +kernel
theorem rX3_read_42 : am_rw mX3_read 42 = some (.aload_n 1, 1, 0, 0) := by decide +kernel
theorem rX3_read_43 : am_rw mX3_read 43 = some (.getfield 56, 3, 1, 0) := by decide +kernel
theorem rX3_read_46 : am_rw mX3_read 46 = some (.iload_n 3, 1, 0, 0) := by decide +kernel
theorem rX3_read_47 : am_rw mX3_read 47 = some (.caload, 1, 0, 0) := by decide +kernel
theorem rX3_read_48 : am_rw mX3_read 48 = some (.invokevirtual 60, 3, 14, 2) := by decide +kernel
theorem rX3_read_51 : am_rw mX3_read 51 = some (.ifCond .ne 5, 3, 56, 0) := by decide +kernel
theorem rX3_read_54 : am_rw mX3_read 54 = some (.iload_n 3, 1, 0, 0) := by decide +kernel
theorem rX3_read_55 : am_rw mX3_read 55 = some (.ireturn, 1, 0, 0) := by decide +kernel
theorem rX3_read_56 : am_rw mX3_read 56 = some (.iinc 3 1, 3, 0, 0) := by decide +kernel
theorem rX3_read_59 : am_rw mX3_read 59 = some (.goto (-35), 3, 24, 0) := by decide +kernel
theorem rX3_read_62 : am_rw mX3_read 62 = some (.aload_n 0, 1, 0, 0) := by decide +kernel
theorem rX3_read_63 : am_rw mX3_read 63 = some (.invokevirtual 64, 3, 21, 1) := by decide +kernel
theorem rX3_read_66 : am_rw mX3_read 66 = some (.aload_n 0, 1, 0, 0) := by decide +kernel
theorem rX3_read_67 : am_rw mX3_read 67 = some (.iconst 1, 1, 1, 0) := by decide +kernel
theorem rX3_read_68 : am_rw mX3_read 68 = some (.invokevirtual 67, 3, 27, 2) := by decide +kernel
theorem rX3_read_71 : am_rw mX3_read 71 = some (.aload_n 0, 1, 0, 0) := by decide +kernel
theorem rX3_read_72 : am_rw mX3_read 72 = some (.getfield 29, 3, 3, 4) := by decide +kernel
theorem rX3_read_75 : am_rw mX3_read 75 = some (.bipush 6, 2, 6, 0) := by decide +kernel
theorem rX3_read_77 : am_rw mX3_read 77 = some (.if_icmp .ne 14, 3, 91, 0) := by decide +kernel
theorem rX3_read_80 : am_rw mX3_read 80 = some (.aload_n 0, 1, 0, 0) := by decide +kernel
theorem rX3_read_81 : am_rw mX3_read 81 = some (.getfield 25, 3, 3, 3) := by decide +kernel
theorem rX3_read_84 : am_rw mX3_read 84 = some (.ifCond .ne 7, 3, 91, 0) := by decide +kernel
theorem rX3_read_87 : am_rw mX3_read 87 = some (.iconst (-1), 1, 1, 1) := by decide +kernel
theorem rX3_read_88 : am_rw mX3_read 88 = some (.goto 7, 3, 95, 0) := by decide +kernel
theorem rX3_read_91 : am_rw mX3_read 91 = some (.aload_n 1, 1, 0, 0) := by decide +kernel
theorem rX3_read_92 : am_rw mX3_read 92 = some (.getfield 51, 3, 1, 1) := by decide +kernel
theorem rX3_read_95 : am_rw mX3_read 95 = some (.ireturn, 1, 0, 0) := by decide +kernel
theorem rX3_takes_0 : am_rw mX3_takes 0 = some (.iload_n 1, 1, 0, 0) := by decide +kernel
theorem rX3_takes_1 : am_rw mX3_takes 1 = some (.bipush 48, 2, 48, 0) := by decide +kernel
theorem rX3_takes_3 : am_rw mX3_takes 3 = some (.if_icmp .lt 16, 3, 19, 0) := by decide +kernel
theorem rX3_takes_6 : am_rw mX3_takes 6 = some (.iload_n 1, 1, 0, 0) := by decide +kernel
theorem rX3_takes_7 : am_rw mX3_takes 7 = some (.bipush 57, 2, 57, 0) := by decide +kernel
theorem rX3_takes_9 : am_rw mX3_takes 9 = some (.if_icmp .gt 10, 3, 19, 0) := by decide +kernel
theorem rX3_takes_12 : am_rw mX3_takes 12 = some (.iload_n 1, 1, 0, 0) := by decide +kernel
theorem rX3_takes_13 : am_rw mX3_takes 13 = some (.bipush 48, 2, 48, 0) := by decide +kernel
theorem rX3_takes_15 : am_rw mX3_takes 15 = some (.isub, 1, 0, 0) := by decide +kernel
theorem rX3_takes_16 : am_rw mX3_takes 16 = some (.goto 4, 3, 20, 0) := by decide +kernel
theorem rX3_takes_19 : am_rw mX3_takes 19 = some (.iconst (-1), 1, 1, 1) := by decide +kernel
theorem rX3_takes_20 : am_rw mX3_takes 20 = some (.istore_n 2, 1, 0, 0) := by decide +kernel
theorem rX3_takes_21 : am_rw mX3_takes 21 = some (.aload_n 0, 1, 0, 0) := by decide +kernel
theorem rX3_takes_22 : am_rw mX3_takes 22 = some (.getfield 29, 3, 3, 4) := by decide +kernel
theorem rX3_takes_25 : am_rw mX3_takes 25 = some (.lookupswitch 103 #[(0, 35), (4, 71), (5, 54)], 35, 0, 0) := by decide +kernel
theorem rX3_takes_60 : am_rw mX3_takes 60 = some (.iload_n 2, 1, 0, 0) := by decide +kernel
theorem rX3_takes_61 : am_rw mX3_takes 61 = some (.iconst (-1), 1, 1, 1) := by decide +kernel
theorem rX3_takes_62 : am_rw mX3_takes 62 = some (.if_icmp .eq 11, 3, 73, 0) := by decide +kernel
theorem rX3_takes_65 : am_rw mX3_takes 65 = some (.aload_n 0, 1, 0, 0) := by decide +kernel
theorem rX3_takes_66 : am_rw mX3_takes 66 = some (.iload_n 2, 1, 0, 0) := by decide +kernel
theorem rX3_takes_67 : am_rw mX3_takes 67 = some (.invokevirtual 71, 3, 15, 2) := by decide +kernel
theorem rX3_takes_70 : am_rw mX3_takes 70 = some (.goto 8, 3, 78, 0) := by decide +kernel
theorem rX3_takes_73 : am_rw mX3_takes 73 = some (.aload_n 0, 1, 0, 0) := by decide +kernel
theorem rX3_takes_74 : am_rw mX3_takes 74 = some (.iload_n 1, 1, 0, 0) := by decide +kernel
theorem rX3_takes_75 : am_rw mX3_takes 75 = some (.invokevirtual 75, 3, 16, 2) := by decide +kernel
theorem rX3_takes_78 : am_rw mX3_takes 78 = some (.ireturn, 1, 0, 0) := by decide +kernel
theorem rX3_takes_79 : am_rw mX3_takes 79 = some (.aload_n 0, 1, 0, 0) := by decide +kernel
theorem rX3_takes_80 : am_rw mX3_takes 80 = some (.iconst 0, 1, 0, 0) := by decide +kernel
theorem rX3_takes_81 : am_rw mX3_takes 81 = some (.putfield 29, 3, 3, 4) := by decide +kernel
theorem rX3_takes_84 : am_rw mX3_takes 84 = some (.iload_n 1, 1, 0, 0) := by decide +kernel
theorem rX3_takes_85 : am_rw mX3_takes 85 = some (.bipush 40, 2, 40, 0) := by decide +kernel
theorem rX3_takes_87 : am_rw mX3_takes 87 = some (.if_icmp .ne 7, 3, 94, 0) := by decide +kernel
theorem rX3_takes_90 : am_rw mX3_takes 90 = some (.iconst 1, 1, 1, 0) := by decide +kernel
theorem rX3_takes_91 : am_rw mX3_takes 91 = some (.goto 4, 3, 95, 0) := by decide +kernel
theorem rX3_takes_94 : am_rw mX3_takes 94 = some (.iconst 0, 1, 0, 0) := by decide +kernel
theorem rX3_takes_95 : am_rw mX3_takes 95 = some (.ireturn, 1, 0, 0) := by decide +kernel
theorem rX3_takes_96 : am_rw mX3_takes 96 = some (.iload_n 2, 1, 0, 0) := by decide +kernel
theorem rX3_takes_97 : am_rw mX3_takes 97 = some (.iconst (-1), 1, 1, 1) := by decide +kernel
theorem rX3_takes_98 : am_rw mX3_takes 98 = some (.if_icmp .eq 28, 3, 126, 0) := by decide +kernel
theorem rX3_takes_101 : am_rw mX3_takes 101 = some (.iload_n 2, 1, 0, 0) := by decide +kernel
theorem rX3_takes_102 : am_rw mX3_takes 102 = some (.aload_n 0, 1, 0, 0) := by decide +kernel
theorem rX3_takes_103 : am_rw mX3_takes 103 = some (.getfield 45, 3, 3, 9) := by decide +kernel
theorem rX3_takes_106 : am_rw mX3_takes 106 = some (.if_icmp .ge 20, 3, 126, 0) := by decide +kernel
theorem rX3_takes_109 : am_rw mX3_takes 109 = some (.aload_n 0, 1, 0, 0) := by decide +kernel
theorem rX3_takes_110 : am_rw mX3_takes 110 = some (.aload_n 0, 1, 0, 0) := by decide +kernel
theorem rX3_takes_111 : am_rw mX3_takes 111 = some (.getfield 42, 3, 3, 8) := by decide +kernel
theorem rX3_takes_114 : am_rw mX3_takes 114 = some (.iload_n 2, 1, 0, 0) := by decide +kernel
theorem rX3_takes_115 : am_rw mX3_takes 115 = some (.iadd, 1, 0, 0) := by decide +kernel
theorem rX3_takes_116 : am_rw mX3_takes 116 = some (.invokevirtual 78, 3, 18, 2) := by decide +kernel
theorem rX3_takes_119 : am_rw mX3_takes 119 = some (.ifCond .eq 7, 3, 126, 0) := by decide +kernel
theorem rX3_takes_122 : am_rw mX3_takes 122 = some (.iconst 1, 1, 1, 0) := by decide +kernel
theorem rX3_takes_123 : am_rw mX3_takes 123 = some (.goto 4, 3, 127, 0) := by decide +kernel
theorem rX3_takes_126 : am_rw mX3_takes 126 = some (.iconst 0, 1, 0, 0) := by decide +kernel
theorem rX3_takes_127 : am_rw mX3_takes 127 = some (.ireturn, 1, 0, 0) := by decide +kernel
theorem rX3_takes_128 : am_rw mX3_takes 128 = some (.iload_n 2, 1, 0, 0) := by decide +kernel
theorem rX3_takes_129 : am_rw mX3_takes 129 = some (.iconst (-1), 1, 1, 1) := by decide +kernel
theorem rX3_takes_130 : am_rw mX3_takes 130 = some (.if_icmp .eq 11, 3, 141, 0) := by decide +kernel
theorem rX3_takes_133 : am_rw mX3_takes 133 = some (.aload_n 0, 1, 0, 0) := by decide +kernel
theorem rX3_takes_134 : am_rw mX3_takes 134 = some (.iload_n 2, 1, 0, 0) := by decide +kernel
theorem rX3_takes_135 : am_rw mX3_takes 135 = some (.invokevirtual 81, 3, 20, 2) := by decide +kernel
theorem rX3_takes_138 : am_rw mX3_takes 138 = some (.goto 8, 3, 146, 0) := by decide +kernel
theorem rX3_takes_141 : am_rw mX3_takes 141 = some (.aload_n 0, 1, 0, 0) := by decide +kernel
theorem rX3_takes_142 : am_rw mX3_takes 142 = some (.iload_n 1, 1, 0, 0) := by decide +kernel
theorem rX3_takes_143 : am_rw mX3_takes 143 = some (.invokevirtual 84, 3, 22, 2) := by decide +kernel
theorem rX3_takes_146 : am_rw mX3_takes 146 = some (.ireturn, 1, 0, 0) := by decide +kernel
theorem rX3_startsNumber_0 : am_rw mX3_startsNumber 0 = some (.aload_n 0, 1, 0, 0) := by decide +kernel
theorem rX3_startsNumber_1 : am_rw mX3_startsNumber 1 = some (.iload_n 1, 1, 0, 0) := by decide +kernel
theorem rX3_startsNumber_2 : am_rw mX3_startsNumber 2 = some (.putfield 36, 3, 3, 6) := by decide +kernel
theorem rX3_startsNumber_5 : am_rw mX3_startsNumber 5 = some (.aload_n 0, 1, 0, 0) := by decide +kernel
theorem rX3_startsNumber_6 : am_rw mX3_startsNumber 6 = some (.iconst 1, 1, 1, 0) := by decide +kernel
theorem rX3_startsNumber_7 : am_rw mX3_startsNumber 7 = some (.putfield 39, 3, 3, 7) := by decide +kernel
theorem rX3_startsNumber_10 : am_rw mX3_startsNumber 10 = some (.aload_n 0, 1, 0, 0) := by decide +kernel
theorem rX3_startsNumber_11 : am_rw mX3_startsNumber 11 = some (.iconst 1, 1, 1, 0) := by decide +kernel
theorem rX3_startsNumber_12 : am_rw mX3_startsNumber 12 = some (.putfield 29, 3, 3, 4) := by decide +kernel
theorem rX3_startsNumber_15 : am_rw mX3_startsNumber 15 = some (.iconst 1, 1, 1, 0) := by decide +kernel
theorem rX3_startsNumber_16 : am_rw mX3_startsNumber 16 = some (.ireturn, 1, 0, 0) := by decide +kernel
theorem rX3_startsFactor_0 : am_rw mX3_startsFactor 0 = some (.iload_n 1, 1, 0, 0) := by decide +kernel
theorem rX3_startsFactor_1 : am_rw mX3_startsFactor 1 = some (.lookupswitch 351 #[(40, 139), (45, 131), (97, 179), (102, 307), (103, 216), (104, 187), (105, 163), (108, 285), (109, 238), (110, 155), (112, 194), (113, 261), (114, 329), (116, 171), (120, 147)], 131, 0, 0) := by decide +kernel
theorem rX3_startsFactor_132 : am_rw mX3_startsFactor 132 = some (.aload_n 0, 1, 0, 0) := by decide +kernel
theorem rX3_startsFactor_133 : am_rw mX3_startsFactor 133 = some (.bipush 6, 2, 6, 0) := by decide +kernel
theorem rX3_startsFactor_135 : am_rw mX3_startsFactor 135 = some (.iconst 0, 1, 0, 0) := by decide +kernel
theorem rX3_startsFactor_136 : am_rw mX3_startsFactor 136 = some (.invokevirtual 87, 3, 26, 3) := by decide +kernel
theorem rX3_startsFactor_139 : am_rw mX3_startsFactor 139 = some (.ireturn, 1, 0, 0) := by decide +kernel
theorem rX3_startsFactor_140 : am_rw mX3_startsFactor 140 = some (.aload_n 0, 1, 0, 0) := by decide +kernel
theorem rX3_startsFactor_141 : am_rw mX3_startsFactor 141 = some (.bipush 12, 2, 12, 0) := by decide +kernel
theorem rX3_startsFactor_143 : am_rw mX3_startsFactor 143 = some (.iconst 0, 1, 0, 0) := by decide +kernel
theorem rX3_startsFactor_144 : am_rw mX3_startsFactor 144 = some (.invokevirtual 87, 3, 26, 3) := by decide +kernel
theorem rX3_startsFactor_147 : am_rw mX3_startsFactor 147 = some (.ireturn, 1, 0, 0) := by decide +kernel
theorem rX3_startsFactor_148 : am_rw mX3_startsFactor 148 = some (.aload_n 0, 1, 0, 0) := by decide +kernel
theorem rX3_startsFactor_149 : am_rw mX3_startsFactor 149 = some (.bipush 7, 2, 7, 0) := by decide +kernel
theorem rX3_startsFactor_151 : am_rw mX3_startsFactor 151 = some (.iconst 1, 1, 1, 0) := by decide +kernel
theorem rX3_startsFactor_152 : am_rw mX3_startsFactor 152 = some (.invokevirtual 91, 3, 17, 3) := by decide +kernel
theorem rX3_startsFactor_155 : am_rw mX3_startsFactor 155 = some (.ireturn, 1, 0, 0) := by decide +kernel
theorem rX3_startsFactor_156 : am_rw mX3_startsFactor 156 = some (.aload_n 0, 1, 0, 0) := by decide +kernel
theorem rX3_startsFactor_157 : am_rw mX3_startsFactor 157 = some (.bipush 8, 2, 8, 0) := by decide +kernel
theorem rX3_startsFactor_159 : am_rw mX3_startsFactor 159 = some (.iconst 1, 1, 1, 0) := by decide +kernel
theorem rX3_startsFactor_160 : am_rw mX3_startsFactor 160 = some (.invokevirtual 91, 3, 17, 3) := by decide +kernel
theorem rX3_startsFactor_163 : am_rw mX3_startsFactor 163 = some (.ireturn, 1, 0, 0) := by decide +kernel
theorem rX3_startsFactor_164 : am_rw mX3_startsFactor 164 = some (.aload_n 0, 1, 0, 0) := by decide +kernel
theorem rX3_startsFactor_165 : am_rw mX3_startsFactor 165 = some (.bipush 9, 2, 9, 0) := by decide +kernel
theorem rX3_startsFactor_167 : am_rw mX3_startsFactor 167 = some (.iconst 2, 1, 2, 0) := by decide +kernel
theorem rX3_startsFactor_168 : am_rw mX3_startsFactor 168 = some (.invokevirtual 91, 3, 17, 3) := by decide +kernel
theorem rX3_startsFactor_171 : am_rw mX3_startsFactor 171 = some (.ireturn, 1, 0, 0) := by decide +kernel
theorem rX3_startsFactor_172 : am_rw mX3_startsFactor 172 = some (.aload_n 0, 1, 0, 0) := by decide +kernel
theorem rX3_startsFactor_173 : am_rw mX3_startsFactor 173 = some (.bipush 10, 2, 10, 0) := by decide +kernel
theorem rX3_startsFactor_175 : am_rw mX3_startsFactor 175 = some (.iconst 0, 1, 0, 0) := by decide +kernel
theorem rX3_startsFactor_176 : am_rw mX3_startsFactor 176 = some (.invokevirtual 91, 3, 17, 3) := by decide +kernel
theorem rX3_startsFactor_179 : am_rw mX3_startsFactor 179 = some (.ireturn, 1, 0, 0) := by decide +kernel
theorem rX3_startsFactor_180 : am_rw mX3_startsFactor 180 = some (.aload_n 0, 1, 0, 0) := by decide +kernel
theorem rX3_startsFactor_181 : am_rw mX3_startsFactor 181 = some (.bipush 11, 2, 11, 0) := by decide +kernel
theorem rX3_startsFactor_183 : am_rw mX3_startsFactor 183 = some (.iconst 0, 1, 0, 0) := by decide +kernel
theorem rX3_startsFactor_184 : am_rw mX3_startsFactor 184 = some (.invokevirtual 91, 3, 17, 3) := by decide +kernel
theorem rX3_startsFactor_187 : am_rw mX3_startsFactor 187 = some (.ireturn, 1, 0, 0) := by decide +kernel
theorem rX3_startsFactor_188 : am_rw mX3_startsFactor 188 = some (.aload_n 0, 1, 0, 0) := by decide +kernel
theorem rX3_startsFactor_189 : am_rw mX3_startsFactor 189 = some (.bipush 16, 2, 16, 0) := by decide +kernel
theorem rX3_startsFactor_191 : am_rw mX3_startsFactor 191 = some (.invokevirtual 78, 3, 18, 2) := by decide +kernel
theorem rX3_startsFactor_194 : am_rw mX3_startsFactor 194 = some (.ireturn, 1, 0, 0) := by decide +kernel
theorem rX3_startsFactor_195 : am_rw mX3_startsFactor 195 = some (.aload_n 0, 1, 0, 0) := by decide +kernel
theorem rX3_startsFactor_196 : am_rw mX3_startsFactor 196 = some (.getfield 32, 3, 3, 5) := by decide +kernel
theorem rX3_startsFactor_199 : am_rw mX3_startsFactor 199 = some (.ifCond .ne 16, 3, 215, 0) := by decide +kernel
theorem rX3_startsFactor_202 : am_rw mX3_startsFactor 202 = some (.aload_n 0, 1, 0, 0) := by decide +kernel
theorem rX3_startsFactor_203 : am_rw mX3_startsFactor 203 = some (.bipush 15, 2, 15, 0) := by decide +kernel
theorem rX3_startsFactor_205 : am_rw mX3_startsFactor 205 = some (.invokevirtual 78, 3, 18, 2) := by decide +kernel
theorem rX3_startsFactor_208 : am_rw mX3_startsFactor 208 = some (.ifCond .eq 7, 3, 215, 0) := by decide +kernel
theorem rX3_startsFactor_211 : am_rw mX3_startsFactor 211 = some (.iconst 1, 1, 1, 0) := by decide +kernel
theorem rX3_startsFactor_212 : am_rw mX3_startsFactor 212 = some (.goto 4, 3, 216, 0) := by decide +kernel
theorem rX3_startsFactor_215 : am_rw mX3_startsFactor 215 = some (.iconst 0, 1, 0, 0) := by decide +kernel
theorem rX3_startsFactor_216 : am_rw mX3_startsFactor 216 = some (.ireturn, 1, 0, 0) := by decide +kernel
theorem rX3_startsFactor_217 : am_rw mX3_startsFactor 217 = some (.aload_n 0, 1, 0, 0) := by decide +kernel
theorem rX3_startsFactor_218 : am_rw mX3_startsFactor 218 = some (.getfield 32, 3, 3, 5) := by decide +kernel
theorem rX3_startsFactor_221 : am_rw mX3_startsFactor 221 = some (.ifCond .ne 16, 3, 237, 0) := by decide +kernel
theorem rX3_startsFactor_224 : am_rw mX3_startsFactor 224 = some (.aload_n 0, 1, 0, 0) := by decide +kernel
theorem rX3_startsFactor_225 : am_rw mX3_startsFactor 225 = some (.iconst 0, 1, 0, 0) := by decide +kernel
theorem rX3_startsFactor_226 : am_rw mX3_startsFactor 226 = some (.iconst 3, 1, 3, 0) := by decide +kernel
theorem rX3_startsFactor_227 : am_rw mX3_startsFactor 227 = some (.invokevirtual 94, 3, 19, 3) := by decide +kernel
theorem rX3_startsFactor_230 : am_rw mX3_startsFactor 230 = some (.ifCond .eq 7, 3, 237, 0) := by decide +kernel
theorem rX3_startsFactor_233 : am_rw mX3_startsFactor 233 = some (.iconst 1, 1, 1, 0) := by decide +kernel
theorem rX3_startsFactor_234 : am_rw mX3_startsFactor 234 = some (.goto 4, 3, 238, 0) := by decide +kernel
theorem rX3_startsFactor_237 : am_rw mX3_startsFactor 237 = some (.iconst 0, 1, 0, 0) := by decide +kernel
theorem rX3_startsFactor_238 : am_rw mX3_startsFactor 238 = some (.ireturn, 1, 0, 0) := by decide +kernel
theorem rX3_startsFactor_239 : am_rw mX3_startsFactor 239 = some (.aload_n 0, 1, 0, 0) := by decide +kernel
theorem rX3_startsFactor_240 : am_rw mX3_startsFactor 240 = some (.getfield 32, 3, 3, 5) := by decide +kernel
theorem rX3_startsFactor_243 : am_rw mX3_startsFactor 243 = some (.ifCond .ne 17, 3, 260, 0) := by decide +kernel
theorem rX3_startsFactor_246 : am_rw mX3_startsFactor 246 = some (.aload_n 0, 1, 0, 0) := by decide +kernel
theorem rX3_startsFactor_247 : am_rw mX3_startsFactor 247 = some (.iconst 3, 1, 3, 0) := by decide +kernel
theorem rX3_startsFactor_248 : am_rw mX3_startsFactor 248 = some (.bipush 6, 2, 6, 0) := by decide +kernel
theorem rX3_startsFactor_250 : am_rw mX3_startsFactor 250 = some (.invokevirtual 94, 3, 19, 3) := by decide +kernel
theorem rX3_startsFactor_253 : am_rw mX3_startsFactor 253 = some (.ifCond .eq 7, 3, 260, 0) := by decide +kernel
theorem rX3_startsFactor_256 : am_rw mX3_startsFactor 256 = some (.iconst 1, 1, 1, 0) := by decide +kernel
theorem rX3_startsFactor_257 : am_rw mX3_startsFactor 257 = some (.goto 4, 3, 261, 0) := by decide +kernel
theorem rX3_startsFactor_260 : am_rw mX3_startsFactor 260 = some (.iconst 0, 1, 0, 0) := by decide +kernel
theorem rX3_startsFactor_261 : am_rw mX3_startsFactor 261 = some (.ireturn, 1, 0, 0) := by decide +kernel
theorem rX3_startsFactor_262 : am_rw mX3_startsFactor 262 = some (.aload_n 0, 1, 0, 0) := by decide +kernel
theorem rX3_startsFactor_263 : am_rw mX3_startsFactor 263 = some (.getfield 32, 3, 3, 5) := by decide +kernel
theorem rX3_startsFactor_266 : am_rw mX3_startsFactor 266 = some (.ifCond .ne 18, 3, 284, 0) := by decide +kernel
theorem rX3_startsFactor_269 : am_rw mX3_startsFactor 269 = some (.aload_n 0, 1, 0, 0) := by decide +kernel
theorem rX3_startsFactor_270 : am_rw mX3_startsFactor 270 = some (.bipush 9, 2, 9, 0) := by decide +kernel
theorem rX3_startsFactor_272 : am_rw mX3_startsFactor 272 = some (.bipush 6, 2, 6, 0) := by decide +kernel
theorem rX3_startsFactor_274 : am_rw mX3_startsFactor 274 = some (.invokevirtual 94, 3, 19, 3) := by decide +kernel
theorem rX3_startsFactor_277 : am_rw mX3_startsFactor 277 = some (.ifCond .eq 7, 3, 284, 0) := by decide +kernel
theorem rX3_startsFactor_280 : am_rw mX3_startsFactor 280 = some (.iconst 1, 1, 1, 0) := by decide +kernel
theorem rX3_startsFactor_281 : am_rw mX3_startsFactor 281 = some (.goto 4, 3, 285, 0) := by decide +kernel
theorem rX3_startsFactor_284 : am_rw mX3_startsFactor 284 = some (.iconst 0, 1, 0, 0) := by decide +kernel
theorem rX3_startsFactor_285 : am_rw mX3_startsFactor 285 = some (.ireturn, 1, 0, 0) := by decide +kernel
theorem rX3_startsFactor_286 : am_rw mX3_startsFactor 286 = some (.aload_n 0, 1, 0, 0) := by decide +kernel
theorem rX3_startsFactor_287 : am_rw mX3_startsFactor 287 = some (.getfield 32, 3, 3, 5) := by decide +kernel
theorem rX3_startsFactor_290 : am_rw mX3_startsFactor 290 = some (.ifCond .eq 16, 3, 306, 0) := by decide +kernel
theorem rX3_startsFactor_293 : am_rw mX3_startsFactor 293 = some (.aload_n 0, 1, 0, 0) := by decide +kernel
theorem rX3_startsFactor_294 : am_rw mX3_startsFactor 294 = some (.bipush 17, 2, 17, 0) := by decide +kernel
theorem rX3_startsFactor_296 : am_rw mX3_startsFactor 296 = some (.invokevirtual 78, 3, 18, 2) := by decide +kernel
theorem rX3_startsFactor_299 : am_rw mX3_startsFactor 299 = some (.ifCond .eq 7, 3, 306, 0) := by decide +kernel
theorem rX3_startsFactor_302 : am_rw mX3_startsFactor 302 = some (.iconst 1, 1, 1, 0) := by decide +kernel
theorem rX3_startsFactor_303 : am_rw mX3_startsFactor 303 = some (.goto 4, 3, 307, 0) := by decide +kernel
theorem rX3_startsFactor_306 : am_rw mX3_startsFactor 306 = some (.iconst 0, 1, 0, 0) := by decide +kernel
theorem rX3_startsFactor_307 : am_rw mX3_startsFactor 307 = some (.ireturn, 1, 0, 0) := by decide +kernel
theorem rX3_startsFactor_308 : am_rw mX3_startsFactor 308 = some (.aload_n 0, 1, 0, 0) := by decide +kernel
theorem rX3_startsFactor_309 : am_rw mX3_startsFactor 309 = some (.getfield 32, 3, 3, 5) := by decide +kernel
theorem rX3_startsFactor_312 : am_rw mX3_startsFactor 312 = some (.ifCond .eq 16, 3, 328, 0) := by decide +kernel
theorem rX3_startsFactor_315 : am_rw mX3_startsFactor 315 = some (.aload_n 0, 1, 0, 0) := by decide +kernel
theorem rX3_startsFactor_316 : am_rw mX3_startsFactor 316 = some (.bipush 18, 2, 18, 0) := by decide +kernel
theorem rX3_startsFactor_318 : am_rw mX3_startsFactor 318 = some (.invokevirtual 78, 3, 18, 2) := by decide +kernel
theorem rX3_startsFactor_321 : am_rw mX3_startsFactor 321 = some (.ifCond .eq 7, 3, 328, 0) := by decide +kernel
theorem rX3_startsFactor_324 : am_rw mX3_startsFactor 324 = some (.iconst 1, 1, 1, 0) := by decide +kernel
theorem rX3_startsFactor_325 : am_rw mX3_startsFactor 325 = some (.goto 4, 3, 329, 0) := by decide +kernel
theorem rX3_startsFactor_328 : am_rw mX3_startsFactor 328 = some (.iconst 0, 1, 0, 0) := by decide +kernel
theorem rX3_startsFactor_329 : am_rw mX3_startsFactor 329 = some (.ireturn, 1, 0, 0) := by decide +kernel
theorem rX3_startsFactor_330 : am_rw mX3_startsFactor 330 = some (.aload_n 0, 1, 0, 0) := by decide +kernel
theorem rX3_startsFactor_331 : am_rw mX3_startsFactor 331 = some (.getfield 32, 3, 3, 5) := by decide +kernel
theorem rX3_startsFactor_334 : am_rw mX3_startsFactor 334 = some (.ifCond .eq 16, 3, 350, 0) := by decide +kernel
theorem rX3_startsFactor_337 : am_rw mX3_startsFactor 337 = some (.aload_n 0, 1, 0, 0) := by decide +kernel
theorem rX3_startsFactor_338 : am_rw mX3_startsFactor 338 = some (.bipush 19, 2, 19, 0) := by decide +kernel
theorem rX3_startsFactor_340 : am_rw mX3_startsFactor 340 = some (.invokevirtual 78, 3, 18, 2) := by decide +kernel
theorem rX3_startsFactor_343 : am_rw mX3_startsFactor 343 = some (.ifCond .eq 7, 3, 350, 0) := by decide +kernel
theorem rX3_startsFactor_346 : am_rw mX3_startsFactor 346 = some (.iconst 1, 1, 1, 0) := by decide +kernel
theorem rX3_startsFactor_347 : am_rw mX3_startsFactor 347 = some (.goto 4, 3, 351, 0) := by decide +kernel
theorem rX3_startsFactor_350 : am_rw mX3_startsFactor 350 = some (.iconst 0, 1, 0, 0) := by decide +kernel
theorem rX3_startsFactor_351 : am_rw mX3_startsFactor 351 = some (.ireturn, 1, 0, 0) := by decide +kernel
theorem rX3_startsFactor_352 : am_rw mX3_startsFactor 352 = some (.iconst 0, 1, 0, 0) := by decide +kernel
theorem rX3_startsFactor_353 : am_rw mX3_startsFactor 353 = some (.ireturn, 1, 0, 0) := by decide +kernel
theorem rX3_startsFunction_0 : am_rw mX3_startsFunction 0 = some (.aload_n 0, 1, 0, 0) := by decide +kernel
theorem rX3_startsFunction_1 : am_rw mX3_startsFunction 1 = some (.iconst 5, 1, 5, 0) := by decide +kernel
theorem rX3_startsFunction_2 : am_rw mX3_startsFunction 2 = some (.putfield 29, 3, 3, 4) := by decide +kernel
theorem rX3_startsFunction_5 : am_rw mX3_startsFunction 5 = some (.aload_n 0, 1, 0, 0) := by decide +kernel
theorem rX3_startsFunction_6 : am_rw mX3_startsFunction 6 = some (.iload_n 1, 1, 0, 0) := by decide +kernel
theorem rX3_startsFunction_7 : am_rw mX3_startsFunction 7 = some (.iload_n 2, 1, 0, 0) := by decide +kernel
theorem rX3_startsFunction_8 : am_rw mX3_startsFunction 8 = some (.invokevirtual 87, 3, 26, 3) := by decide +kernel
theorem rX3_startsFunction_11 : am_rw mX3_startsFunction 11 = some (.ireturn, 1, 0, 0) := by decide +kernel
theorem rX3_endsName_0 : am_rw mX3_endsName 0 = some (.aload_n 0, 1, 0, 0) := by decide +kernel
theorem rX3_endsName_1 : am_rw mX3_endsName 1 = some (.getfield 12, 3, 3, 0) := by decide +kernel
theorem rX3_endsName_4 : am_rw mX3_endsName 4 = some (.iload_n 1, 1, 0, 0) := by decide +kernel
theorem rX3_endsName_5 : am_rw mX3_endsName 5 = some (.invokevirtual 97, 3, 10, 2) := by decide +kernel
theorem rX3_endsName_8 : am_rw mX3_endsName 8 = some (.aload_n 0, 1, 0, 0) := by decide +kernel
theorem rX3_endsName_9 : am_rw mX3_endsName 9 = some (.bipush 6, 2, 6, 0) := by decide +kernel
theorem rX3_endsName_11 : am_rw mX3_endsName 11 = some (.putfield 29, 3, 3, 4) := by decide +kernel
theorem rX3_endsName_14 : am_rw mX3_endsName 14 = some (.iconst 1, 1, 1, 0) := by decide +kernel
theorem rX3_endsName_15 : am_rw mX3_endsName 15 = some (.ireturn, 1, 0, 0) := by decide +kernel
theorem rX3_startsName_0 : am_rw mX3_startsName 0 = some (.aload_n 0, 1, 0, 0) := by decide +kernel
theorem rX3_startsName_1 : am_rw mX3_startsName 1 = some (.iload_n 1, 1, 0, 0) := by decide +kernel
theorem rX3_startsName_2 : am_rw mX3_startsName 2 = some (.putfield 42, 3, 3, 8) := by decide +kernel
theorem rX3_startsName_5 : am_rw mX3_startsName 5 = some (.aload_n 0, 1, 0, 0) := by decide +kernel
theorem rX3_startsName_6 : am_rw mX3_startsName 6 = some (.iload_n 2, 1, 0, 0) := by decide +kernel
theorem rX3_startsName_7 : am_rw mX3_startsName 7 = some (.putfield 45, 3, 3, 9) := by decide +kernel
theorem rX3_startsName_10 : am_rw mX3_startsName 10 = some (.aload_n 0, 1, 0, 0) := by decide +kernel
theorem rX3_startsName_11 : am_rw mX3_startsName 11 = some (.iconst 4, 1, 4, 0) := by decide +kernel
theorem rX3_startsName_12 : am_rw mX3_startsName 12 = some (.putfield 29, 3, 3, 4) := by decide +kernel
theorem rX3_startsName_15 : am_rw mX3_startsName 15 = some (.iconst 1, 1, 1, 0) := by decide +kernel
theorem rX3_startsName_16 : am_rw mX3_startsName 16 = some (.ireturn, 1, 0, 0) := by decide +kernel
theorem rX3_takesFigure_0 : am_rw mX3_takesFigure 0 = some (.aload_n 0, 1, 0, 0) := by decide +kernel
theorem rX3_takesFigure_1 : am_rw mX3_takesFigure 1 = some (.getfield 29, 3, 3, 4) := by decide +kernel
theorem rX3_takesFigure_4 : am_rw mX3_takesFigure 4 = some (.iconst 1, 1, 1, 0) := by decide +kernel
theorem rX3_takesFigure_5 : am_rw mX3_takesFigure 5 = some (.if_icmp .ne 11, 3, 16, 0) := by decide +kernel
theorem rX3_takesFigure_8 : am_rw mX3_takesFigure 8 = some (.aload_n 0, 1, 0, 0) := by decide +kernel
theorem rX3_takesFigure_9 : am_rw mX3_takesFigure 9 = some (.getfield 39, 3, 3, 7) := by decide +kernel
theorem rX3_takesFigure_12 : am_rw mX3_takesFigure 12 = some (.iconst 3, 1, 3, 0) := by decide +kernel
theorem rX3_takesFigure_13 : am_rw mX3_takesFigure 13 = some (.if_icmp .lt 19, 3, 32, 0) := by decide +kernel
theorem rX3_takesFigure_16 : am_rw mX3_takesFigure 16 = some (.aload_n 0, 1, 0, 0) := by decide +kernel
theorem rX3_takesFigure_17 : am_rw mX3_takesFigure 17 = some (.getfield 29, 3, 3, 4) := by decide +kernel
theorem rX3_takesFigure_20 : am_rw mX3_takesFigure 20 = some (.iconst 2, 1, 2, 0) := by decide +kernel
theorem rX3_takesFigure_21 : am_rw mX3_takesFigure 21 = some (.if_icmp .eq 11, 3, 32, 0) := by decide +kernel
theorem rX3_takesFigure_24 : am_rw mX3_takesFigure 24 = some (.aload_n 0, 1, 0, 0) := by decide +kernel
theorem rX3_takesFigure_25 : am_rw mX3_takesFigure 25 = some (.getfield 29, 3, 3, 4) := by decide +kernel
theorem rX3_takesFigure_28 : am_rw mX3_takesFigure 28 = some (.iconst 3, 1, 3, 0) := by decide +kernel
theorem rX3_takesFigure_29 : am_rw mX3_takesFigure 29 = some (.if_icmp .ne 7, 3, 36, 0) := by decide +kernel
theorem rX3_takesFigure_32 : am_rw mX3_takesFigure 32 = some (.iconst 1, 1, 1, 0) := by decide +kernel
theorem rX3_takesFigure_33 : am_rw mX3_takesFigure 33 = some (.goto 4, 3, 37, 0) := by decide +kernel
theorem rX3_takesFigure_36 : am_rw mX3_takesFigure 36 = some (.iconst 0, 1, 0, 0) := by decide +kernel
theorem rX3_takesFigure_37 : am_rw mX3_takesFigure 37 = some (.istore_n 2, 1, 0, 0) := by decide +kernel
theorem rX3_takesFigure_38 : am_rw mX3_takesFigure 38 = some (.iload_n 2, 1, 0, 0) := by decide +kernel
theorem rX3_takesFigure_39 : am_rw mX3_takesFigure 39 = some (.ifCond .ne 5, 3, 44, 0) := by decide +kernel
theorem rX3_takesFigure_42 : am_rw mX3_takesFigure 42 = some (.iconst 0, 1, 0, 0) := by decide +kernel
theorem rX3_takesFigure_43 : am_rw mX3_takesFigure 43 = some (.ireturn, 1, 0, 0) := by decide +kernel
theorem rX3_takesFigure_44 : am_rw mX3_takesFigure 44 = some (.aload_n 0, 1, 0, 0) := by decide +kernel
theorem rX3_takesFigure_45 : am_rw mX3_takesFigure 45 = some (.aload_n 0, 1, 0, 0) := by decide +kernel
theorem rX3_takesFigure_46 : am_rw mX3_takesFigure 46 = some (.getfield 36, 3, 3, 6) := by decide +kernel
theorem rX3_takesFigure_49 : am_rw mX3_takesFigure 49 = some (.bipush 10, 2, 10, 0) := by decide +kernel
theorem rX3_takesFigure_51 : am_rw mX3_takesFigure 51 = some (.imul, 1, 0, 0) := by decide +kernel
theorem rX3_takesFigure_52 : am_rw mX3_takesFigure 52 = some (.iload_n 1, 1, 0, 0) := by decide +kernel
theorem rX3_takesFigure_53 : am_rw mX3_takesFigure 53 = some (.iadd, 1, 0, 0) := by decide +kernel
theorem rX3_takesFigure_54 : am_rw mX3_takesFigure 54 = some (.putfield 36, 3, 3, 6) := by decide +kernel
theorem rX3_takesFigure_57 : am_rw mX3_takesFigure 57 = some (.aload_n 0, 1, 0, 0) := by decide +kernel
theorem rX3_takesFigure_58 : am_rw mX3_takesFigure 58 = some (.dup, 1, 0, 0) := by decide +kernel
theorem rX3_takesFigure_59 : am_rw mX3_takesFigure 59 = some (.getfield 39, 3, 3, 7) := by decide +kernel
theorem rX3_takesFigure_62 : am_rw mX3_takesFigure 62 = some (.iconst 1, 1, 1, 0) := by decide +kernel
theorem rX3_takesFigure_63 : am_rw mX3_takesFigure 63 = some (.iadd, 1, 0, 0) := by decide +kernel
theorem rX3_takesFigure_64 : am_rw mX3_takesFigure 64 = some (.putfield 39, 3, 3, 7) := by decide +kernel
theorem rX3_takesFigure_67 : am_rw mX3_takesFigure 67 = some (.aload_n 0, 1, 0, 0) := by decide +kernel
theorem rX3_takesFigure_68 : am_rw mX3_takesFigure 68 = some (.getfield 29, 3, 3, 4) := by decide +kernel
theorem rX3_takesFigure_71 : am_rw mX3_takesFigure 71 = some (.iconst 2, 1, 2, 0) := by decide +kernel
theorem rX3_takesFigure_72 : am_rw mX3_takesFigure 72 = some (.if_icmp .ne 11, 3, 83, 0) := by decide +kernel
theorem rX3_takesFigure_75 : am_rw mX3_takesFigure 75 = some (.aload_n 0, 1, 0, 0) := by decide +kernel
theorem rX3_takesFigure_76 : am_rw mX3_takesFigure 76 = some (.iconst 3, 1, 3, 0) := by decide +kernel
theorem rX3_takesFigure_77 : am_rw mX3_takesFigure 77 = some (.putfield 29, 3, 3, 4) := by decide +kernel
theorem rX3_takesFigure_80 : am_rw mX3_takesFigure 80 = some (.goto 29, 3, 109, 0) := by decide +kernel
theorem rX3_takesFigure_83 : am_rw mX3_takesFigure 83 = some (.aload_n 0, 1, 0, 0) := by decide +kernel
theorem rX3_takesFigure_84 : am_rw mX3_takesFigure 84 = some (.getfield 29, 3, 3, 4) := by decide +kernel
theorem rX3_takesFigure_87 : am_rw mX3_takesFigure 87 = some (.iconst 3, 1, 3, 0) := by decide +kernel
theorem rX3_takesFigure_88 : am_rw mX3_takesFigure 88 = some (.if_icmp .ne 21, 3, 109, 0) := by decide +kernel
theorem rX3_takesFigure_91 : am_rw mX3_takesFigure 91 = some (.aload_n 0, 1, 0, 0) := by decide +kernel
theorem rX3_takesFigure_92 : am_rw mX3_takesFigure 92 = some (.getfield 12, 3, 3, 0) := by decide +kernel
theorem rX3_takesFigure_95 : am_rw mX3_takesFigure 95 = some (.iconst 0, 1, 0, 0) := by decide +kernel
theorem rX3_takesFigure_96 : am_rw mX3_takesFigure 96 = some (.aload_n 0, 1, 0, 0) := by decide +kernel
theorem rX3_takesFigure_97 : am_rw mX3_takesFigure 97 = some (.getfield 36, 3, 3, 6) := by decide +kernel
theorem rX3_takesFigure_100 : am_rw mX3_takesFigure 100 = some (.invokevirtual 100, 3, 9, 3) := by decide +kernel
theorem rX3_takesFigure_103 : am_rw mX3_takesFigure 103 = some (.aload_n 0, 1, 0, 0) := by decide +kernel
theorem rX3_takesFigure_104 : am_rw mX3_takesFigure 104 = some (.bipush 6, 2, 6, 0) := by decide +kernel
theorem rX3_takesFigure_106 : am_rw mX3_takesFigure 106 = some (.putfield 29, 3, 3, 4) := by decide +kernel
theorem rX3_takesFigure_109 : am_rw mX3_takesFigure 109 = some (.iconst 1, 1, 1, 0) := by decide +kernel
theorem rX3_takesFigure_110 : am_rw mX3_takesFigure 110 = some (.ireturn, 1, 0, 0) := by decide +kernel
theorem rX3_endNumber_0 : am_rw mX3_endNumber 0 = some (.aload_n 0, 1, 0, 0) := by decide +kernel
theorem rX3_endNumber_1 : am_rw mX3_endNumber 1 = some (.getfield 29, 3, 3, 4) := by decide +kernel
theorem rX3_endNumber_4 : am_rw mX3_endNumber 4 = some (.iconst 1, 1, 1, 0) := by decide +kernel
theorem rX3_endNumber_5 : am_rw mX3_endNumber 5 = some (.if_icmp .ne 27, 3, 32, 0) := by decide +kernel
theorem rX3_endNumber_8 : am_rw mX3_endNumber 8 = some (.aload_n 0, 1, 0, 0) := by decide +kernel
theorem rX3_endNumber_9 : am_rw mX3_endNumber 9 = some (.getfield 12, 3, 3, 0) := by decide +kernel
theorem rX3_endNumber_12 : am_rw mX3_endNumber 12 = some (.iconst 0, 1, 0, 0) := by decide +kernel
theorem rX3_endNumber_13 : am_rw mX3_endNumber 13 = some (.aload_n 0, 1, 0, 0) := by decide +kernel
theorem rX3_endNumber_14 : am_rw mX3_endNumber 14 = some (.getfield 36, 3, 3, 6) := by decide +kernel
theorem rX3_endNumber_17 : am_rw mX3_endNumber 17 = some (.bipush 100, 2, 100, 0) := by decide +kernel
theorem rX3_endNumber_19 : am_rw mX3_endNumber 19 = some (.imul, 1, 0, 0) := by decide +kernel
theorem rX3_endNumber_20 : am_rw mX3_endNumber 20 = some (.invokevirtual 100, 3, 9, 3) := by decide +kernel
theorem rX3_endNumber_23 : am_rw mX3_endNumber 23 = some (.aload_n 0, 1, 0, 0) := by decide +kernel
theorem rX3_endNumber_24 : am_rw mX3_endNumber 24 = some (.bipush 6, 2, 6, 0) := by decide +kernel
theorem rX3_endNumber_26 : am_rw mX3_endNumber 26 = some (.putfield 29, 3, 3, 4) := by decide +kernel
theorem rX3_endNumber_29 : am_rw mX3_endNumber 29 = some (.goto 32, 3, 61, 0) := by decide +kernel
theorem rX3_endNumber_32 : am_rw mX3_endNumber 32 = some (.aload_n 0, 1, 0, 0) := by decide +kernel
theorem rX3_endNumber_33 : am_rw mX3_endNumber 33 = some (.getfield 29, 3, 3, 4) := by decide +kernel
theorem rX3_endNumber_36 : am_rw mX3_endNumber 36 = some (.iconst 3, 1, 3, 0) := by decide +kernel
theorem rX3_endNumber_37 : am_rw mX3_endNumber 37 = some (.if_icmp .ne 24, 3, 61, 0) := by decide +kernel
theorem rX3_endNumber_40 : am_rw mX3_endNumber 40 = some (.aload_n 0, 1, 0, 0) := by decide +kernel
theorem rX3_endNumber_41 : am_rw mX3_endNumber 41 = some (.getfield 12, 3, 3, 0) := by decide +kernel
theorem rX3_endNumber_44 : am_rw mX3_endNumber 44 = some (.iconst 0, 1, 0, 0) := by decide +kernel
theorem rX3_endNumber_45 : am_rw mX3_endNumber 45 = some (.aload_n 0, 1, 0, 0) := by decide +kernel
theorem rX3_endNumber_46 : am_rw mX3_endNumber 46 = some (.getfield 36, 3, 3, 6) := by decide +kernel
theorem rX3_endNumber_49 : am_rw mX3_endNumber 49 = some (.bipush 10, 2, 10, 0) := by decide +kernel
theorem rX3_endNumber_51 : am_rw mX3_endNumber 51 = some (.imul, 1, 0, 0) := by decide +kernel
theorem rX3_endNumber_52 : am_rw mX3_endNumber 52 = some (.invokevirtual 100, 3, 9, 3) := by decide +kernel
theorem rX3_endNumber_55 : am_rw mX3_endNumber 55 = some (.aload_n 0, 1, 0, 0) := by decide +kernel
theorem rX3_endNumber_56 : am_rw mX3_endNumber 56 = some (.bipush 6, 2, 6, 0) := by decide +kernel
theorem rX3_endNumber_58 : am_rw mX3_endNumber 58 = some (.putfield 29, 3, 3, 4) := by decide +kernel
theorem rX3_endNumber_61 : am_rw mX3_endNumber 61 = some (.return_, 1, 0, 0) := by decide +kernel
theorem rX3_goesOn_0 : am_rw mX3_goesOn 0 = some (.aload_n 0, 1, 0, 0) := by decide +kernel
theorem rX3_goesOn_1 : am_rw mX3_goesOn 1 = some (.getfield 29, 3, 3, 4) := by decide +kernel
theorem rX3_goesOn_4 : am_rw mX3_goesOn 4 = some (.iconst 1, 1, 1, 0) := by decide +kernel
theorem rX3_goesOn_5 : am_rw mX3_goesOn 5 = some (.if_icmp .ne 16, 3, 21, 0) := by decide +kernel
theorem rX3_goesOn_8 : am_rw mX3_goesOn 8 = some (.iload_n 1, 1, 0, 0) := by decide +kernel
theorem rX3_goesOn_9 : am_rw mX3_goesOn 9 = some (.bipush 46, 2, 46, 0) := by decide +kernel
theorem rX3_goesOn_11 : am_rw mX3_goesOn 11 = some (.if_icmp .ne 10, 3, 21, 0) := by decide +kernel
theorem rX3_goesOn_14 : am_rw mX3_goesOn 14 = some (.aload_n 0, 1, 0, 0) := by decide +kernel
theorem rX3_goesOn_15 : am_rw mX3_goesOn 15 = some (.iconst 2, 1, 2, 0) := by decide +kernel
theorem rX3_goesOn_16 : am_rw mX3_goesOn 16 = some (.putfield 29, 3, 3, 4) := by decide +kernel
theorem rX3_goesOn_19 : am_rw mX3_goesOn 19 = some (.iconst 1, 1, 1, 0) := by decide +kernel
theorem rX3_goesOn_20 : am_rw mX3_goesOn 20 = some (.ireturn, 1, 0, 0) := by decide +kernel
theorem rX3_goesOn_21 : am_rw mX3_goesOn 21 = some (.aload_n 0, 1, 0, 0) := by decide +kernel
theorem rX3_goesOn_22 : am_rw mX3_goesOn 22 = some (.invokevirtual 64, 3, 21, 1) := by decide +kernel
theorem rX3_goesOn_25 : am_rw mX3_goesOn 25 = some (.aload_n 0, 1, 0, 0) := by decide +kernel
theorem rX3_goesOn_26 : am_rw mX3_goesOn 26 = some (.getfield 29, 3, 3, 4) := by decide +kernel
theorem rX3_goesOn_29 : am_rw mX3_goesOn 29 = some (.bipush 6, 2, 6, 0) := by decide +kernel
theorem rX3_goesOn_31 : am_rw mX3_goesOn 31 = some (.if_icmp .eq 5, 3, 36, 0) := by decide +kernel
theorem rX3_goesOn_34 : am_rw mX3_goesOn 34 = some (.iconst 0, 1, 0, 0) := by decide +kernel
theorem rX3_goesOn_35 : am_rw mX3_goesOn 35 = some (.ireturn, 1, 0, 0) := by decide +kernel
theorem rX3_goesOn_36 : am_rw mX3_goesOn 36 = some (.iload_n 1, 1, 0, 0) := by decide +kernel
theorem rX3_goesOn_37 : am_rw mX3_goesOn 37 = some (.tableswitch 81 41 47 #[76, 57, 43, 71, 50, 81, 64], 43, 0, 0) := by decide +kernel
theorem rX3_goesOn_80 : am_rw mX3_goesOn 80 = some (.aload_n 0, 1, 0, 0) := by decide +kernel
theorem rX3_goesOn_81 : am_rw mX3_goesOn 81 = some (.iconst 2, 1, 2, 0) := by decide +kernel
theorem rX3_goesOn_82 : am_rw mX3_goesOn 82 = some (.iconst 1, 1, 1, 0) := by decide +kernel
theorem rX3_goesOn_83 : am_rw mX3_goesOn 83 = some (.invokevirtual 104, 3, 23, 3) := by decide +kernel
theorem rX3_goesOn_86 : am_rw mX3_goesOn 86 = some (.ireturn, 1, 0, 0) := by decide +kernel
theorem rX3_goesOn_87 : am_rw mX3_goesOn 87 = some (.aload_n 0, 1, 0, 0) := by decide +kernel
theorem rX3_goesOn_88 : am_rw mX3_goesOn 88 = some (.iconst 3, 1, 3, 0) := by decide +kernel
theorem rX3_goesOn_89 : am_rw mX3_goesOn 89 = some (.iconst 1, 1, 1, 0) := by decide +kernel
theorem rX3_goesOn_90 : am_rw mX3_goesOn 90 = some (.invokevirtual 104, 3, 23, 3) := by decide +kernel
theorem rX3_goesOn_93 : am_rw mX3_goesOn 93 = some (.ireturn, 1, 0, 0) := by decide +kernel
theorem rX3_goesOn_94 : am_rw mX3_goesOn 94 = some (.aload_n 0, 1, 0, 0) := by decide +kernel
theorem rX3_goesOn_95 : am_rw mX3_goesOn 95 = some (.iconst 4, 1, 4, 0) := by decide +kernel
theorem rX3_goesOn_96 : am_rw mX3_goesOn 96 = some (.iconst 2, 1, 2, 0) := by decide +kernel
theorem rX3_goesOn_97 : am_rw mX3_goesOn 97 = some (.invokevirtual 104, 3, 23, 3) := by decide +kernel
theorem rX3_goesOn_100 : am_rw mX3_goesOn 100 = some (.ireturn, 1, 0, 0) := by decide +kernel
theorem rX3_goesOn_101 : am_rw mX3_goesOn 101 = some (.aload_n 0, 1, 0, 0) := by decide +kernel
theorem rX3_goesOn_102 : am_rw mX3_goesOn 102 = some (.iconst 5, 1, 5, 0) := by decide +kernel
theorem rX3_goesOn_103 : am_rw mX3_goesOn 103 = some (.iconst 2, 1, 2, 0) := by decide +kernel
theorem rX3_goesOn_104 : am_rw mX3_goesOn 104 = some (.invokevirtual 104, 3, 23, 3) := by decide +kernel
theorem rX3_goesOn_107 : am_rw mX3_goesOn 107 = some (.ireturn, 1, 0, 0) := by decide +kernel
theorem rX3_goesOn_108 : am_rw mX3_goesOn 108 = some (.aload_n 0, 1, 0, 0) := by decide +kernel
theorem rX3_goesOn_109 : am_rw mX3_goesOn 109 = some (.invokevirtual 107, 3, 24, 1) := by decide +kernel
theorem rX3_goesOn_112 : am_rw mX3_goesOn 112 = some (.ireturn, 1, 0, 0) := by decide +kernel
theorem rX3_goesOn_113 : am_rw mX3_goesOn 113 = some (.aload_n 0, 1, 0, 0) := by decide +kernel
theorem rX3_goesOn_114 : am_rw mX3_goesOn 114 = some (.invokevirtual 111, 3, 25, 1) := by decide +kernel
theorem rX3_goesOn_117 : am_rw mX3_goesOn 117 = some (.ireturn, 1, 0, 0) := by decide +kernel
theorem rX3_goesOn_118 : am_rw mX3_goesOn 118 = some (.iconst 0, 1, 0, 0) := by decide +kernel
theorem rX3_goesOn_119 : am_rw mX3_goesOn 119 = some (.ireturn, 1, 0, 0) := by decide +kernel
theorem rX3_operates_0 : am_rw mX3_operates 0 = some (.aload_n 0, 1, 0, 0) := by decide +kernel
theorem rX3_operates_1 : am_rw mX3_operates 1 = some (.iload_n 2, 1, 0, 0) := by decide +kernel
theorem rX3_operates_2 : am_rw mX3_operates 2 = some (.invokevirtual 67, 3, 27, 2) := by decide +kernel
theorem rX3_operates_5 : am_rw mX3_operates 5 = some (.aload_n 0, 1, 0, 0) := by decide +kernel
theorem rX3_operates_6 : am_rw mX3_operates 6 = some (.iconst 0, 1, 0, 0) := by decide +kernel
theorem rX3_operates_7 : am_rw mX3_operates 7 = some (.putfield 29, 3, 3, 4) := by decide +kernel
theorem rX3_operates_10 : am_rw mX3_operates 10 = some (.aload_n 0, 1, 0, 0) := by decide +kernel
theorem rX3_operates_11 : am_rw mX3_operates 11 = some (.iload_n 1, 1, 0, 0) := by decide +kernel
theorem rX3_operates_12 : am_rw mX3_operates 12 = some (.iconst 0, 1, 0, 0) := by decide +kernel
theorem rX3_operates_13 : am_rw mX3_operates 13 = some (.invokevirtual 87, 3, 26, 3) := by decide +kernel
theorem rX3_operates_16 : am_rw mX3_operates 16 = some (.ireturn, 1, 0, 0) := by decide +kernel
theorem rX3_takesComma_0 : am_rw mX3_takesComma 0 = some (.aload_n 0, 1, 0, 0) := by decide +kernel
theorem rX3_takesComma_1 : am_rw mX3_takesComma 1 = some (.iconst 1, 1, 1, 0) := by decide +kernel
theorem rX3_takesComma_2 : am_rw mX3_takesComma 2 = some (.invokevirtual 67, 3, 27, 2) := by decide +kernel
theorem rX3_takesComma_5 : am_rw mX3_takesComma 5 = some (.aload_n 0, 1, 0, 0) := by decide +kernel
theorem rX3_takesComma_6 : am_rw mX3_takesComma 6 = some (.getfield 25, 3, 3, 3) := by decide +kernel
theorem rX3_takesComma_9 : am_rw mX3_takesComma 9 = some (.iconst 1, 1, 1, 0) := by decide +kernel
theorem rX3_takesComma_10 : am_rw mX3_takesComma 10 = some (.isub, 1, 0, 0) := by decide +kernel
theorem rX3_takesComma_11 : am_rw mX3_takesComma 11 = some (.istore_n 1, 1, 0, 0) := by decide +kernel
theorem rX3_takesComma_12 : am_rw mX3_takesComma 12 = some (.iload_n 1, 1, 0, 0) := by decide +kernel
theorem rX3_takesComma_13 : am_rw mX3_takesComma 13 = some (.ifCond .lt 21, 3, 34, 0) := by decide +kernel
theorem rX3_takesComma_16 : am_rw mX3_takesComma 16 = some (.iload_n 1, 1, 0, 0) := by decide +kernel
theorem rX3_takesComma_17 : am_rw mX3_takesComma 17 = some (.aload_n 0, 1, 0, 0) := by decide +kernel
theorem rX3_takesComma_18 : am_rw mX3_takesComma 18 = some (.getfield 22, 3, 3, 2) := by decide +kernel
theorem rX3_takesComma_21 : am_rw mX3_takesComma 21 = some (.arraylength, 1, 0, 0) := by decide +kernel
theorem rX3_takesComma_22 : am_rw mX3_takesComma 22 = some (.if_icmp .ge 12, 3, 34, 0) := by decide +kernel
theorem rX3_takesComma_25 : am_rw mX3_takesComma 25 = some (.aload_n 0, 1, 0, 0) := by decide +kernel
theorem rX3_takesComma_26 : am_rw mX3_takesComma 26 = some (.getfield 22, 3, 3, 2) := by decide +kernel
theorem rX3_takesComma_29 : am_rw mX3_takesComma 29 = some (.iload_n 1, 1, 0, 0) := by decide +kernel
theorem rX3_takesComma_30 : am_rw mX3_takesComma 30 = some (.iaload, 1, 0, 0) := by decide +kernel
theorem rX3_takesComma_31 : am_rw mX3_takesComma 31 = some (.ifCond .ne 5, 3, 36, 0) := by decide +kernel
theorem rX3_takesComma_34 : am_rw mX3_takesComma 34 = some (.iconst 0, 1, 0, 0) := by decide +kernel
theorem rX3_takesComma_35 : am_rw mX3_takesComma 35 = some (.ireturn, 1, 0, 0) := by decide +kernel
theorem rX3_takesComma_36 : am_rw mX3_takesComma 36 = some (.aload_n 0, 1, 0, 0) := by decide +kernel
theorem rX3_takesComma_37 : am_rw mX3_takesComma 37 = some (.getfield 22, 3, 3, 2) := by decide +kernel
theorem rX3_takesComma_40 : am_rw mX3_takesComma 40 = some (.iload_n 1, 1, 0, 0) := by decide +kernel
theorem rX3_takesComma_41 : am_rw mX3_takesComma 41 = some (.dup2, 1, 0, 0) := by decide +kernel
theorem rX3_takesComma_42 : am_rw mX3_takesComma 42 = some (.iaload, 1, 0, 0) := by decide +kernel
theorem rX3_takesComma_43 : am_rw mX3_takesComma 43 = some (.iconst 1, 1, 1, 0) := by decide +kernel
theorem rX3_takesComma_44 : am_rw mX3_takesComma 44 = some (.isub, 1, 0, 0) := by decide +kernel
theorem rX3_takesComma_45 : am_rw mX3_takesComma 45 = some (.iastore, 1, 0, 0) := by decide +kernel
theorem rX3_takesComma_46 : am_rw mX3_takesComma 46 = some (.aload_n 0, 1, 0, 0) := by decide +kernel
theorem rX3_takesComma_47 : am_rw mX3_takesComma 47 = some (.iconst 0, 1, 0, 0) := by decide +kernel
theorem rX3_takesComma_48 : am_rw mX3_takesComma 48 = some (.putfield 29, 3, 3, 4) := by decide +kernel
theorem rX3_takesComma_51 : am_rw mX3_takesComma 51 = some (.iconst 1, 1, 1, 0) := by decide +kernel
theorem rX3_takesComma_52 : am_rw mX3_takesComma 52 = some (.ireturn, 1, 0, 0) := by decide +kernel
theorem rX3_takesBracket_0 : am_rw mX3_takesBracket 0 = some (.aload_n 0, 1, 0, 0) := by decide +kernel
theorem rX3_takesBracket_1 : am_rw mX3_takesBracket 1 = some (.iconst 1, 1, 1, 0) := by decide +kernel
theorem rX3_takesBracket_2 : am_rw mX3_takesBracket 2 = some (.invokevirtual 67, 3, 27, 2) := by decide +kernel
theorem rX3_takesBracket_5 : am_rw mX3_takesBracket 5 = some (.aload_n 0, 1, 0, 0) := by decide +kernel
theorem rX3_takesBracket_6 : am_rw mX3_takesBracket 6 = some (.getfield 25, 3, 3, 3) := by decide +kernel
theorem rX3_takesBracket_9 : am_rw mX3_takesBracket 9 = some (.iconst 1, 1, 1, 0) := by decide +kernel
theorem rX3_takesBracket_10 : am_rw mX3_takesBracket 10 = some (.isub, 1, 0, 0) := by decide +kernel
theorem rX3_takesBracket_11 : am_rw mX3_takesBracket 11 = some (.istore_n 1, 1, 0, 0) := by decide +kernel
theorem rX3_takesBracket_12 : am_rw mX3_takesBracket 12 = some (.iload_n 1, 1, 0, 0) := by decide +kernel
theorem rX3_takesBracket_13 : am_rw mX3_takesBracket 13 = some (.ifCond .lt 30, 3, 43, 0) := by decide +kernel
theorem rX3_takesBracket_16 : am_rw mX3_takesBracket 16 = some (.iload_n 1, 1, 0, 0) := by decide +kernel
theorem rX3_takesBracket_17 : am_rw mX3_takesBracket 17 = some (.aload_n 0, 1, 0, 0) := by decide +kernel
theorem rX3_takesBracket_18 : am_rw mX3_takesBracket 18 = some (.getfield 22, 3, 3, 2) := by decide +kernel
theorem rX3_takesBracket_21 : am_rw mX3_takesBracket 21 = some (.arraylength, 1, 0, 0) := by decide +kernel
theorem rX3_takesBracket_22 : am_rw mX3_takesBracket 22 = some (.if_icmp .ge 21, 3, 43, 0) := by decide +kernel
theorem rX3_takesBracket_25 : am_rw mX3_takesBracket 25 = some (.iload_n 1, 1, 0, 0) := by decide +kernel
theorem rX3_takesBracket_26 : am_rw mX3_takesBracket 26 = some (.aload_n 0, 1, 0, 0) := by decide +kernel
theorem rX3_takesBracket_27 : am_rw mX3_takesBracket 27 = some (.getfield 18, 3, 3, 1) := by decide +kernel
theorem rX3_takesBracket_30 : am_rw mX3_takesBracket 30 = some (.arraylength, 1, 0, 0) := by decide +kernel
theorem rX3_takesBracket_31 : am_rw mX3_takesBracket 31 = some (.if_icmp .ge 12, 3, 43, 0) := by decide +kernel
theorem rX3_takesBracket_34 : am_rw mX3_takesBracket 34 = some (.aload_n 0, 1, 0, 0) := by decide +kernel
theorem rX3_takesBracket_35 : am_rw mX3_takesBracket 35 = some (.getfield 22, 3, 3, 2) := by decide +kernel
theorem rX3_takesBracket_38 : am_rw mX3_takesBracket 38 = some (.iload_n 1, 1, 0, 0) := by decide +kernel
theorem rX3_takesBracket_39 : am_rw mX3_takesBracket 39 = some (.iaload, 1, 0, 0) := by decide +kernel
theorem rX3_takesBracket_40 : am_rw mX3_takesBracket 40 = some (.ifCond .eq 5, 3, 45, 0) := by decide +kernel
theorem rX3_takesBracket_43 : am_rw mX3_takesBracket 43 = some (.iconst 0, 1, 0, 0) := by decide +kernel
theorem rX3_takesBracket_44 : am_rw mX3_takesBracket 44 = some (.ireturn, 1, 0, 0) := by decide +kernel
theorem rX3_takesBracket_45 : am_rw mX3_takesBracket 45 = some (.aload_n 0, 1, 0, 0) := by decide +kernel
theorem rX3_takesBracket_46 : am_rw mX3_takesBracket 46 = some (.iload_n 1, 1, 0, 0) := by decide +kernel
theorem rX3_takesBracket_47 : am_rw mX3_takesBracket 47 = some (.putfield 25, 3, 3, 3) := by decide +kernel
theorem rX3_takesBracket_50 : am_rw mX3_takesBracket 50 = some (.aload_n 0, 1, 0, 0) := by decide +kernel
theorem rX3_takesBracket_51 : am_rw mX3_takesBracket 51 = some (.getfield 18, 3, 3, 1) := by decide +kernel
theorem rX3_takesBracket_54 : am_rw mX3_takesBracket 54 = some (.iload_n 1, 1, 0, 0) := by decide +kernel
theorem rX3_takesBracket_55 : am_rw mX3_takesBracket 55 = some (.iaload, 1, 0, 0) := by decide +kernel
theorem rX3_takesBracket_56 : am_rw mX3_takesBracket 56 = some (.bipush 12, 2, 12, 0) := by decide +kernel
theorem rX3_takesBracket_58 : am_rw mX3_takesBracket 58 = some (.if_icmp .eq 17, 3, 75, 0) := by decide +kernel
theorem rX3_takesBracket_61 : am_rw mX3_takesBracket 61 = some (.aload_n 0, 1, 0, 0) := by decide +kernel
theorem rX3_takesBracket_62 : am_rw mX3_takesBracket 62 = some (.getfield 12, 3, 3, 0) := by decide +kernel
theorem rX3_takesBracket_65 : am_rw mX3_takesBracket 65 = some (.aload_n 0, 1, 0, 0) := by decide +kernel
theorem rX3_takesBracket_66 : am_rw mX3_takesBracket 66 = some (.getfield 18, 3, 3, 1) := by decide +kernel
theorem rX3_takesBracket_69 : am_rw mX3_takesBracket 69 = some (.iload_n 1, 1, 0, 0) := by decide +kernel
theorem rX3_takesBracket_70 : am_rw mX3_takesBracket 70 = some (.iaload, 1, 0, 0) := by decide +kernel
theorem rX3_takesBracket_71 : am_rw mX3_takesBracket 71 = some (.iconst 0, 1, 0, 0) := by decide +kernel
theorem rX3_takesBracket_72 : am_rw mX3_takesBracket 72 = some (.invokevirtual 100, 3, 9, 3) := by decide +kernel
theorem rX3_takesBracket_75 : am_rw mX3_takesBracket 75 = some (.iconst 1, 1, 1, 0) := by decide +kernel
theorem rX3_takesBracket_76 : am_rw mX3_takesBracket 76 = some (.ireturn, 1, 0, 0) := by decide +kernel
theorem rX3_hold_0 : am_rw mX3_hold 0 = some (.aload_n 0, 1, 0, 0) := by decide +kernel
theorem rX3_hold_1 : am_rw mX3_hold 1 = some (.getfield 25, 3, 3, 3) := by decide +kernel
theorem rX3_hold_4 : am_rw mX3_hold 4 = some (.ifCond .lt 27, 3, 31, 0) := by decide +kernel
theorem rX3_hold_7 : am_rw mX3_hold 7 = some (.aload_n 0, 1, 0, 0) := by decide +kernel
theorem rX3_hold_8 : am_rw mX3_hold 8 = some (.getfield 25, 3, 3, 3) := by decide +kernel
theorem rX3_hold_11 : am_rw mX3_hold 11 = some (.aload_n 0, 1, 0, 0) := by decide +kernel
theorem rX3_hold_12 : am_rw mX3_hold 12 = some (.getfield 18, 3, 3, 1) := by decide +kernel
theorem rX3_hold_15 : am_rw mX3_hold 15 = some (.arraylength, 1, 0, 0) := by decide +kernel
theorem rX3_hold_16 : am_rw mX3_hold 16 = some (.if_icmp .ge 15, 3, 31, 0) := by decide +kernel
theorem rX3_hold_19 : am_rw mX3_hold 19 = some (.aload_n 0, 1, 0, 0) := by decide +kernel
theorem rX3_hold_20 : am_rw mX3_hold 20 = some (.getfield 25, 3, 3, 3) := by decide +kernel
theorem rX3_hold_23 : am_rw mX3_hold 23 = some (.aload_n 0, 1, 0, 0) := by decide +kernel
theorem rX3_hold_24 : am_rw mX3_hold 24 = some (.getfield 22, 3, 3, 2) := by decide +kernel
theorem rX3_hold_27 : am_rw mX3_hold 27 = some (.arraylength, 1, 0, 0) := by decide +kernel
theorem rX3_hold_28 : am_rw mX3_hold 28 = some (.if_icmp .lt 5, 3, 33, 0) := by decide +kernel
theorem rX3_hold_31 : am_rw mX3_hold 31 = some (.iconst 0, 1, 0, 0) := by decide +kernel
theorem rX3_hold_32 : am_rw mX3_hold 32 = some (.ireturn, 1, 0, 0) := by decide +kernel
theorem rX3_hold_33 : am_rw mX3_hold 33 = some (.aload_n 0, 1, 0, 0) := by decide +kernel
theorem rX3_hold_34 : am_rw mX3_hold 34 = some (.getfield 18, 3, 3, 1) := by decide +kernel
theorem rX3_hold_37 : am_rw mX3_hold 37 = some (.aload_n 0, 1, 0, 0) := by decide +kernel
theorem rX3_hold_38 : am_rw mX3_hold 38 = some (.getfield 25, 3, 3, 3) := by decide +kernel
theorem rX3_hold_41 : am_rw mX3_hold 41 = some (.iload_n 1, 1, 0, 0) := by decide +kernel
theorem rX3_hold_42 : am_rw mX3_hold 42 = some (.iastore, 1, 0, 0) := by decide +kernel
theorem rX3_hold_43 : am_rw mX3_hold 43 = some (.aload_n 0, 1, 0, 0) := by decide +kernel
theorem rX3_hold_44 : am_rw mX3_hold 44 = some (.getfield 22, 3, 3, 2) := by decide +kernel
theorem rX3_hold_47 : am_rw mX3_hold 47 = some (.aload_n 0, 1, 0, 0) := by decide +kernel
theorem rX3_hold_48 : am_rw mX3_hold 48 = some (.getfield 25, 3, 3, 3) := by decide +kernel
theorem rX3_hold_51 : am_rw mX3_hold 51 = some (.iload_n 2, 1, 0, 0) := by decide +kernel
theorem rX3_hold_52 : am_rw mX3_hold 52 = some (.iastore, 1, 0, 0) := by decide +kernel
theorem rX3_hold_53 : am_rw mX3_hold 53 = some (.aload_n 0, 1, 0, 0) := by decide +kernel
theorem rX3_hold_54 : am_rw mX3_hold 54 = some (.dup, 1, 0, 0) := by decide +kernel
theorem rX3_hold_55 : am_rw mX3_hold 55 = some (.getfield 25, 3, 3, 3) := by decide +kernel
theorem rX3_hold_58 : am_rw mX3_hold 58 = some (.iconst 1, 1, 1, 0) := by decide +kernel
theorem rX3_hold_59 : am_rw mX3_hold 59 = some (.iadd, 1, 0, 0) := by decide +kernel
theorem rX3_hold_60 : am_rw mX3_hold 60 = some (.putfield 25, 3, 3, 3) := by decide +kernel
theorem rX3_hold_63 : am_rw mX3_hold 63 = some (.iconst 1, 1, 1, 0) := by decide +kernel
theorem rX3_hold_64 : am_rw mX3_hold 64 = some (.ireturn, 1, 0, 0) := by decide +kernel
theorem rX3_settle_0 : am_rw mX3_settle 0 = some (.aload_n 0, 1, 0, 0) := by decide +kernel
theorem rX3_settle_1 : am_rw mX3_settle 1 = some (.getfield 25, 3, 3, 3) := by decide +kernel
theorem rX3_settle_4 : am_rw mX3_settle 4 = some (.ifCond .le 65, 3, 69, 0) := by decide +kernel
theorem rX3_settle_7 : am_rw mX3_settle 7 = some (.aload_n 0, 1, 0, 0) := by decide +kernel
theorem rX3_settle_8 : am_rw mX3_settle 8 = some (.getfield 25, 3, 3, 3) := by decide +kernel
theorem rX3_settle_11 : am_rw mX3_settle 11 = some (.aload_n 0, 1, 0, 0) := by decide +kernel
theorem rX3_settle_12 : am_rw mX3_settle 12 = some (.getfield 18, 3, 3, 1) := by decide +kernel
theorem rX3_settle_15 : am_rw mX3_settle 15 = some (.arraylength, 1, 0, 0) := by decide +kernel
theorem rX3_settle_16 : am_rw mX3_settle 16 = some (.if_icmp .gt 53, 3, 69, 0) := by decide +kernel
theorem rX3_settle_19 : am_rw mX3_settle 19 = some (.aload_n 0, 1, 0, 0) := by decide +kernel
theorem rX3_settle_20 : am_rw mX3_settle 20 = some (.getfield 18, 3, 3, 1) := by decide +kernel
theorem rX3_settle_23 : am_rw mX3_settle 23 = some (.aload_n 0, 1, 0, 0) := by decide +kernel
theorem rX3_settle_24 : am_rw mX3_settle 24 = some (.getfield 25, 3, 3, 3) := by decide +kernel
theorem rX3_settle_27 : am_rw mX3_settle 27 = some (.iconst 1, 1, 1, 0) := by decide +kernel
theorem rX3_settle_28 : am_rw mX3_settle 28 = some (.isub, 1, 0, 0) := by decide +kernel
theorem rX3_settle_29 : am_rw mX3_settle 29 = some (.iaload, 1, 0, 0) := by decide +kernel
theorem rX3_settle_30 : am_rw mX3_settle 30 = some (.invokestatic 114, 3, 28, 1) := by decide +kernel
theorem rX3_settle_33 : am_rw mX3_settle 33 = some (.iload_n 1, 1, 0, 0) := by decide +kernel
theorem rX3_settle_34 : am_rw mX3_settle 34 = some (.if_icmp .lt 35, 3, 69, 0) := by decide +kernel
theorem rX3_settle_37 : am_rw mX3_settle 37 = some (.aload_n 0, 1, 0, 0) := by decide +kernel
theorem rX3_settle_38 : am_rw mX3_settle 38 = some (.getfield 12, 3, 3, 0) := by decide +kernel
theorem rX3_settle_41 : am_rw mX3_settle 41 = some (.aload_n 0, 1, 0, 0) := by decide +kernel
theorem rX3_settle_42 : am_rw mX3_settle 42 = some (.getfield 18, 3, 3, 1) := by decide +kernel
theorem rX3_settle_45 : am_rw mX3_settle 45 = some (.aload_n 0, 1, 0, 0) := by decide +kernel
theorem rX3_settle_46 : am_rw mX3_settle 46 = some (.getfield 25, 3, 3, 3) := by decide +kernel
theorem rX3_settle_49 : am_rw mX3_settle 49 = some (.iconst 1, 1, 1, 0) := by decide +kernel
theorem rX3_settle_50 : am_rw mX3_settle 50 = some (.isub, 1, 0, 0) := by decide +kernel
theorem rX3_settle_51 : am_rw mX3_settle 51 = some (.iaload, 1, 0, 0) := by decide +kernel
theorem rX3_settle_52 : am_rw mX3_settle 52 = some (.iconst 0, 1, 0, 0) := by decide +kernel
theorem rX3_settle_53 : am_rw mX3_settle 53 = some (.invokevirtual 100, 3, 9, 3) := by decide +kernel
theorem rX3_settle_56 : am_rw mX3_settle 56 = some (.aload_n 0, 1, 0, 0) := by decide +kernel
theorem rX3_settle_57 : am_rw mX3_settle 57 = some (.dup, 1, 0, 0) := by decide +kernel
theorem rX3_settle_58 : am_rw mX3_settle 58 = some (.getfield 25, 3, 3, 3) := by decide +kernel
theorem rX3_settle_61 : am_rw mX3_settle 61 = some (.iconst 1, 1, 1, 0) := by decide +kernel
theorem rX3_settle_62 : am_rw mX3_settle 62 = some (.isub, 1, 0, 0) := by decide +kernel
theorem rX3_settle_63 : am_rw mX3_settle 63 = some (.putfield 25, 3, 3, 3) := by decide +kernel
theorem rX3_settle_66 : am_rw mX3_settle 66 = some (.goto (-66), 3, 0, 0) := by decide +kernel
theorem rX3_settle_69 : am_rw mX3_settle 69 = some (.return_, 1, 0, 0) := by decide +kernel
theorem rX3_strengthOf_0 : am_rw mX3_strengthOf 0 = some (.iload_n 0, 1, 0, 0) := by decide +kernel
theorem rX3_strengthOf_1 : am_rw mX3_strengthOf 1 = some (.tableswitch 41 2 6 #[39, 39, 37, 37, 35], 35, 0, 0) := by decide +kernel
theorem rX3_strengthOf_36 : am_rw mX3_strengthOf 36 = some (.iconst 3, 1, 3, 0) := by decide +kernel
theorem rX3_strengthOf_37 : am_rw mX3_strengthOf 37 = some (.ireturn, 1, 0, 0) := by decide +kernel
theorem rX3_strengthOf_38 : am_rw mX3_strengthOf 38 = some (.iconst 2, 1, 2, 0) := by decide +kernel
theorem rX3_strengthOf_39 : am_rw mX3_strengthOf 39 = some (.ireturn, 1, 0, 0) := by decide +kernel
theorem rX3_strengthOf_40 : am_rw mX3_strengthOf 40 = some (.iconst 1, 1, 1, 0) := by decide +kernel
theorem rX3_strengthOf_41 : am_rw mX3_strengthOf 41 = some (.ireturn, 1, 0, 0) := by decide +kernel
theorem rX3_strengthOf_42 : am_rw mX3_strengthOf 42 = some (.iconst 0, 1, 0, 0) := by decide +kernel
theorem rX3_strengthOf_43 : am_rw mX3_strengthOf 43 = some (.ireturn, 1, 0, 0) := by decide +kernel
theorem rX4_init_0 : am_rw mX4_init 0 = some (.aload_n 0, 1, 0, 0) := by decide +kernel
theorem rX4_init_1 : am_rw mX4_init 1 = some (.invokespecial 3, 3, 999, 1) := by decide +kernel
theorem rX4_init_4 : am_rw mX4_init 4 = some (.aload_n 0, 1, 0, 0) := by decide +kernel
theorem rX4_init_5 : am_rw mX4_init 5 = some (.bipush 20, 2, 20, 0) := by decide +kernel
theorem rX4_init_7 : am_rw mX4_init 7 = some (.newarray .float, 2, 22, 0) := by decide +kernel
theorem rX4_init_9 : am_rw mX4_init 9 = some (.putfield 9, 3, 4, 0) := by decide +kernel
theorem rX4_init_12 : am_rw mX4_init 12 = some (.aload_n 0, 1, 0, 0) := by decide +kernel
theorem rX4_init_13 : am_rw mX4_init 13 = some (.bipush 40, 2, 40, 0) := by decide +kernel
theorem rX4_init_15 : am_rw mX4_init 15 = some (.newarray .float, 2, 22, 0) := by decide +kernel
theorem rX4_init_17 : am_rw mX4_init 17 = some (.putfield 15, 3, 4, 1) := by decide +kernel
theorem rX4_init_20 : am_rw mX4_init 20 = some (.aload_n 0, 1, 0, 0) := by decide +kernel
theorem rX4_init_21 : am_rw mX4_init 21 = some (.iconst 0, 1, 0, 0) := by decide +kernel
theorem rX4_init_22 : am_rw mX4_init 22 = some (.putfield 18, 3, 4, 2) := by decide +kernel
theorem rX4_init_25 : am_rw mX4_init 25 = some (.return_, 1, 0, 0) := by decide +kernel
theorem rX4_workOut_0 : am_rw mX4_workOut 0 = some (.aload_n 0, 1, 0, 0) := by decide +kernel
theorem rX4_workOut_1 : am_rw mX4_workOut 1 = some (.iconst 0, 1, 0, 0) := by decide +kernel
theorem rX4_workOut_2 : am_rw mX4_workOut 2 = some (.putfield 18, 3, 4, 2) := by decide +kernel
theorem rX4_workOut_5 : am_rw mX4_workOut 5 = some (.iconst 0, 1, 0, 0) := by decide +kernel
theorem rX4_workOut_6 : am_rw mX4_workOut 6 = some (.istore_n 2, 1, 0, 0) := by decide +kernel
theorem rX4_workOut_7 : am_rw mX4_workOut 7 = some (.iload_n 2, 1, 0, 0) := by decide +kernel
theorem rX4_workOut_8 : am_rw mX4_workOut 8 = some (.aload_n 1, 1, 0, 0) := by decide +kernel
theorem rX4_workOut_9 : am_rw mX4_workOut 9 = some (.getfield 22, 3, 2, 2) := by decide +kernel
theorem rX4_workOut_12 : am_rw mX4_workOut 12 = some (.if_icmp .ge 102, 3, 114, 0) := by decide +kernel
theorem rX4_workOut_15 : am_rw mX4_workOut 15 = some (.iload_n 2, 1, 0, 0) := by decide +kernel
theorem rX4_workOut_16 : am_rw mX4_workOut 16 = some (.aload_n 1, 1, 0, 0) := by decide +kernel
theorem rX4_workOut_17 : am_rw mX4_workOut 17 = some (.getfield 27, 3, 2, 0) := by decide +kernel
theorem rX4_workOut_20 : am_rw mX4_workOut 20 = some (.arraylength, 1, 0, 0) := by decide +kernel
theorem rX4_workOut_21 : am_rw mX4_workOut 21 = some (.if_icmp .ge 93, 3, 114, 0) := by decide +kernel
theorem rX4_workOut_24 : am_rw mX4_workOut 24 = some (.iload_n 2, 1, 0, 0) := by decide +kernel
theorem rX4_workOut_25 : am_rw mX4_workOut 25 = some (.aload_n 1, 1, 0, 0) := by decide +kernel
theorem rX4_workOut_26 : am_rw mX4_workOut 26 = some (.getfield 31, 3, 2, 1) := by decide +kernel
theorem rX4_workOut_29 : am_rw mX4_workOut 29 = some (.arraylength, 1, 0, 0) := by decide +kernel
theorem rX4_workOut_30 : am_rw mX4_workOut 30 = some (.if_icmp .ge 84, 3, 114, 0) := by decide +kernel
theorem rX4_workOut_33 : am_rw mX4_workOut 33 = some (.aload_n 1, 1, 0, 0) := by decide +kernel
theorem rX4_workOut_34 : am_rw mX4_workOut 34 = some (.getfield 27, 3, 2, 0) := by decide +kernel
theorem rX4_workOut_37 : am_rw mX4_workOut 37 = some (.iload_n 2, 1, 0, 0) := by decide +kernel
theorem rX4_workOut_38 : am_rw mX4_workOut 38 = some (.iaload, 1, 0, 0) := by decide +kernel
theorem rX4_workOut_39 : am_rw mX4_workOut 39 = some (.istore_n 3, 1, 0, 0) := by decide +kernel
theorem rX4_workOut_40 : am_rw mX4_workOut 40 = some (.aload_n 1, 1, 0, 0) := by decide +kernel
theorem rX4_workOut_41 : am_rw mX4_workOut 41 = some (.getfield 31, 3, 2, 1) := by decide +kernel
theorem rX4_workOut_44 : am_rw mX4_workOut 44 = some (.iload_n 2, 1, 0, 0) := by decide +kernel
theorem rX4_workOut_45 : am_rw mX4_workOut 45 = some (.iaload, 1, 0, 0) := by decide +kernel
theorem rX4_workOut_46 : am_rw mX4_workOut 46 = some (.istore 4, 2, 0, 0) := by decide +kernel
theorem rX4_workOut_48 : am_rw mX4_workOut 48 = some (.iload_n 3, 1, 0, 0) := by decide +kernel
theorem rX4_workOut_49 : am_rw mX4_workOut 49 = some (.ifCond .ne 16, 3, 65, 0) := by decide +kernel
theorem rX4_workOut_52 : am_rw mX4_workOut 52 = some (.aload_n 0, 1, 0, 0) := by decide +kernel
theorem rX4_workOut_53 : am_rw mX4_workOut 53 = some (.iload 4, 2, 0, 0) := by decide +kernel
theorem rX4_workOut_55 : am_rw mX4_workOut 55 = some (.i2f, 1, 0, 0) := by decide +kernel
theorem rX4_workOut_56 : am_rw mX4_workOut 56 = some (.ldc 34, 2, 1, 1120403456) := by decide +kernel
theorem rX4_workOut_58 : am_rw mX4_workOut 58 = some (.fdiv, 1, 0, 0) := by decide +kernel
theorem rX4_workOut_59 : am_rw mX4_workOut 59 = some (.invokevirtual 35, 3, 33, 2) := by decide +kernel
theorem rX4_workOut_62 : am_rw mX4_workOut 62 = some (.goto 46, 3, 108, 0) := by decide +kernel
theorem rX4_workOut_65 : am_rw mX4_workOut 65 = some (.iload_n 3, 1, 0, 0) := by decide +kernel
theorem rX4_workOut_66 : am_rw mX4_workOut 66 = some (.iconst 1, 1, 1, 0) := by decide +kernel
theorem rX4_workOut_67 : am_rw mX4_workOut 67 = some (.if_icmp .ne 36, 3, 103, 0) := by decide +kernel
theorem rX4_workOut_70 : am_rw mX4_workOut 70 = some (.aload_n 0, 1, 0, 0) := by decide +kernel
theorem rX4_workOut_71 : am_rw mX4_workOut 71 = some (.iload 4, 2, 0, 0) := by decide +kernel
theorem rX4_workOut_73 : am_rw mX4_workOut 73 = some (.ifCond .lt 23, 3, 96, 0) := by decide +kernel
theorem rX4_workOut_76 : am_rw mX4_workOut 76 = some (.iload 4, 2, 0, 0) := by decide +kernel
theorem rX4_workOut_78 : am_rw mX4_workOut 78 = some (.aload_n 0, 1, 0, 0) := by decide +kernel
theorem rX4_workOut_79 : am_rw mX4_workOut 79 = some (.getfield 9, 3, 4, 0) := by decide +kernel
theorem rX4_workOut_82 : am_rw mX4_workOut 82 = some (.arraylength, 1, 0, 0) := by decide +kernel
theorem rX4_workOut_83 : am_rw mX4_workOut 83 = some (.if_icmp .ge 13, 3, 96, 0) := by decide +kernel
theorem rX4_workOut_86 : am_rw mX4_workOut 86 = some (.aload_n 0, 1, 0, 0) := by decide +kernel
theorem rX4_workOut_87 : am_rw mX4_workOut 87 = some (.getfield 9, 3, 4, 0) := by decide +kernel
theorem rX4_workOut_90 : am_rw mX4_workOut 90 = some (.iload 4, 2, 0, 0) := by decide +kernel
theorem rX4_workOut_92 : am_rw mX4_workOut 92 = some (.faload, 1, 0, 0) := by decide +kernel
theorem rX4_workOut_93 : am_rw mX4_workOut 93 = some (.goto 4, 3, 97, 0) := by decide +kernel
theorem rX4_workOut_96 : am_rw mX4_workOut 96 = some (.fconst 0, 1, 0, 0) := by decide +kernel
theorem rX4_workOut_97 : am_rw mX4_workOut 97 = some (.invokevirtual 35, 3, 33, 2) := by decide +kernel
theorem rX4_workOut_100 : am_rw mX4_workOut 100 = some (.goto 8, 3, 108, 0) := by decide +kernel
theorem rX4_workOut_103 : am_rw mX4_workOut 103 = some (.aload_n 0, 1, 0, 0) := by decide +kernel
theorem rX4_workOut_104 : am_rw mX4_workOut 104 = some (.iload_n 3, 1, 0, 0) := by decide +kernel
theorem rX4_workOut_105 : am_rw mX4_workOut 105 = some (.invokevirtual 39, 3, 31, 2) := by decide +kernel
theorem rX4_workOut_108 : am_rw mX4_workOut 108 = some (.iinc 2 1, 3, 0, 0) := by decide +kernel
theorem rX4_workOut_111 : am_rw mX4_workOut 111 = some (.goto (-104), 3, 7, 0) := by decide +kernel
theorem rX4_workOut_114 : am_rw mX4_workOut 114 = some (.aload_n 0, 1, 0, 0) := by decide +kernel
theorem rX4_workOut_115 : am_rw mX4_workOut 115 = some (.invokevirtual 43, 3, 34, 1) := by decide +kernel
theorem rX4_workOut_118 : am_rw mX4_workOut 118 = some (.freturn, 1, 0, 0) := by decide +kernel
theorem rX4_operate_0 : am_rw mX4_operate 0 = some (.aload_n 0, 1, 0, 0) := by decide +kernel
theorem rX4_operate_1 : am_rw mX4_operate 1 = some (.invokevirtual 43, 3, 34, 1) := by decide +kernel
theorem rX4_operate_4 : am_rw mX4_operate 4 = some (.fstore_n 2, 1, 0, 0) := by decide +kernel
theorem rX4_operate_5 : am_rw mX4_operate 5 = some (.iload_n 1, 1, 0, 0) := by decide +kernel
theorem rX4_operate_6 : am_rw mX4_operate 6 = some (.tableswitch 104 6 11 #[38, 104, 104, 78, 48, 58], 38, 0, 0) := by decide +kernel
theorem rX4_operate_44 : am_rw mX4_operate 44 = some (.aload_n 0, 1, 0, 0) := by decide +kernel
theorem rX4_operate_45 : am_rw mX4_operate 45 = some (.fconst 0, 1, 0, 0) := by decide +kernel
theorem rX4_operate_46 : am_rw mX4_operate 46 = some (.fload_n 2, 1, 0, 0) := by decide +kernel
theorem rX4_operate_47 : am_rw mX4_operate 47 = some (.fsub, 1, 0, 0) := by decide +kernel
theorem rX4_operate_48 : am_rw mX4_operate 48 = some (.invokevirtual 35, 3, 33, 2) := by decide +kernel
theorem rX4_operate_51 : am_rw mX4_operate 51 = some (.goto 72, 3, 123, 0) := by decide +kernel
theorem rX4_operate_54 : am_rw mX4_operate 54 = some (.aload_n 0, 1, 0, 0) := by decide +kernel
theorem rX4_operate_55 : am_rw mX4_operate 55 = some (.fload_n 2, 1, 0, 0) := by decide +kernel
theorem rX4_operate_56 : am_rw mX4_operate 56 = some (.f2i, 1, 0, 0) := by decide +kernel
theorem rX4_operate_57 : am_rw mX4_operate 57 = some (.i2f, 1, 0, 0) := by decide +kernel
theorem rX4_operate_58 : am_rw mX4_operate 58 = some (.invokevirtual 35, 3, 33, 2) := by decide +kernel
theorem rX4_operate_61 : am_rw mX4_operate 61 = some (.goto 62, 3, 123, 0) := by decide +kernel
theorem rX4_operate_64 : am_rw mX4_operate 64 = some (.aload_n 0, 1, 0, 0) := by decide +kernel
theorem rX4_operate_65 : am_rw mX4_operate 65 = some (.fload_n 2, 1, 0, 0) := by decide +kernel
theorem rX4_operate_66 : am_rw mX4_operate 66 = some (.fconst 0, 1, 0, 0) := by decide +kernel
theorem rX4_operate_67 : am_rw mX4_operate 67 = some (.fcmp .g, 1, 0, 0) := by decide +kernel
theorem rX4_operate_68 : am_rw mX4_operate 68 = some (.ifCond .ge 9, 3, 77, 0) := by decide +kernel
theorem rX4_operate_71 : am_rw mX4_operate 71 = some (.fconst 0, 1, 0, 0) := by decide +kernel
theorem rX4_operate_72 : am_rw mX4_operate 72 = some (.fload_n 2, 1, 0, 0) := by decide +kernel
theorem rX4_operate_73 : am_rw mX4_operate 73 = some (.fsub, 1, 0, 0) := by decide +kernel
theorem rX4_operate_74 : am_rw mX4_operate 74 = some (.goto 4, 3, 78, 0) := by decide +kernel
theorem rX4_operate_77 : am_rw mX4_operate 77 = some (.fload_n 2, 1, 0, 0) := by decide +kernel
theorem rX4_operate_78 : am_rw mX4_operate 78 = some (.invokevirtual 35, 3, 33, 2) := by decide +kernel
theorem rX4_operate_81 : am_rw mX4_operate 81 = some (.goto 42, 3, 123, 0) := by decide +kernel
theorem rX4_operate_84 : am_rw mX4_operate 84 = some (.aload_n 0, 1, 0, 0) := by decide +kernel
theorem rX4_operate_85 : am_rw mX4_operate 85 = some (.invokevirtual 43, 3, 34, 1) := by decide +kernel
theorem rX4_operate_88 : am_rw mX4_operate 88 = some (.fstore_n 3, 1, 0, 0) := by decide +kernel
theorem rX4_operate_89 : am_rw mX4_operate 89 = some (.aload_n 0, 1, 0, 0) := by decide +kernel
theorem rX4_operate_90 : am_rw mX4_operate 90 = some (.aload_n 0, 1, 0, 0) := by decide +kernel
theorem rX4_operate_91 : am_rw mX4_operate 91 = some (.invokevirtual 43, 3, 34, 1) := by decide +kernel
theorem rX4_operate_94 : am_rw mX4_operate 94 = some (.fconst 0, 1, 0, 0) := by decide +kernel
theorem rX4_operate_95 : am_rw mX4_operate 95 = some (.fcmp .l, 1, 0, 0) := by decide +kernel
theorem rX4_operate_96 : am_rw mX4_operate 96 = some (.ifCond .le 7, 3, 103, 0) := by decide +kernel
theorem rX4_operate_99 : am_rw mX4_operate 99 = some (.fload_n 3, 1, 0, 0) := by decide +kernel
theorem rX4_operate_100 : am_rw mX4_operate 100 = some (.goto 4, 3, 104, 0) := by decide +kernel
theorem rX4_operate_103 : am_rw mX4_operate 103 = some (.fload_n 2, 1, 0, 0) := by decide +kernel
theorem rX4_operate_104 : am_rw mX4_operate 104 = some (.invokevirtual 35, 3, 33, 2) := by decide +kernel
theorem rX4_operate_107 : am_rw mX4_operate 107 = some (.goto 16, 3, 123, 0) := by decide +kernel
theorem rX4_operate_110 : am_rw mX4_operate 110 = some (.aload_n 0, 1, 0, 0) := by decide +kernel
theorem rX4_operate_111 : am_rw mX4_operate 111 = some (.iload_n 1, 1, 0, 0) := by decide +kernel
theorem rX4_operate_112 : am_rw mX4_operate 112 = some (.aload_n 0, 1, 0, 0) := by decide +kernel
theorem rX4_operate_113 : am_rw mX4_operate 113 = some (.invokevirtual 43, 3, 34, 1) := by decide +kernel
theorem rX4_operate_116 : am_rw mX4_operate 116 = some (.fload_n 2, 1, 0, 0) := by decide +kernel
theorem rX4_operate_117 : am_rw mX4_operate 117 = some (.invokestatic 47, 3, 32, 3) := by decide +kernel
theorem rX4_operate_120 : am_rw mX4_operate 120 = some (.invokevirtual 35, 3, 33, 2) := by decide +kernel
theorem rX4_operate_123 : am_rw mX4_operate 123 = some (.return_, 1, 0, 0) := by decide +kernel
theorem rX4_join_0 : am_rw mX4_join 0 = some (.iload_n 0, 1, 0, 0) := by decide +kernel
theorem rX4_join_1 : am_rw mX4_join 1 = some (.tableswitch 77 2 7 #[39, 43, 47, 51, 77, 65], 39, 0, 0) := by decide +kernel
theorem rX4_join_40 : am_rw mX4_join 40 = some (.fload_n 1, 1, 0, 0) := by decide +kernel
theorem rX4_join_41 : am_rw mX4_join 41 = some (.fload_n 2, 1, 0, 0) := by decide +kernel
theorem rX4_join_42 : am_rw mX4_join 42 = some (.fadd, 1, 0, 0) := by decide +kernel
theorem rX4_join_43 : am_rw mX4_join 43 = some (.freturn, 1, 0, 0) := by decide +kernel
theorem rX4_join_44 : am_rw mX4_join 44 = some (.fload_n 1, 1, 0, 0) := by decide +kernel
theorem rX4_join_45 : am_rw mX4_join 45 = some (.fload_n 2, 1, 0, 0) := by decide +kernel
theorem rX4_join_46 : am_rw mX4_join 46 = some (.fsub, 1, 0, 0) := by decide +kernel
theorem rX4_join_47 : am_rw mX4_join 47 = some (.freturn, 1, 0, 0) := by decide +kernel
theorem rX4_join_48 : am_rw mX4_join 48 = some (.fload_n 1, 1, 0, 0) := by decide +kernel
theorem rX4_join_49 : am_rw mX4_join 49 = some (.fload_n 2, 1, 0, 0) := by decide +kernel
theorem rX4_join_50 : am_rw mX4_join 50 = some (.fmul, 1, 0, 0) := by decide +kernel
theorem rX4_join_51 : am_rw mX4_join 51 = some (.freturn, 1, 0, 0) := by decide +kernel
theorem rX4_join_52 : am_rw mX4_join 52 = some (.fload_n 2, 1, 0, 0) := by decide +kernel
theorem rX4_join_53 : am_rw mX4_join 53 = some (.fconst 0, 1, 0, 0) := by decide +kernel
theorem rX4_join_54 : am_rw mX4_join 54 = some (.fcmp .l, 1, 0, 0) := by decide +kernel
theorem rX4_join_55 : am_rw mX4_join 55 = some (.ifCond .ne 7, 3, 62, 0) := by decide +kernel
theorem rX4_join_58 : am_rw mX4_join 58 = some (.fconst 0, 1, 0, 0) := by decide +kernel
theorem rX4_join_59 : am_rw mX4_join 59 = some (.goto 6, 3, 65, 0) := by decide +kernel
theorem rX4_join_62 : am_rw mX4_join 62 = some (.fload_n 1, 1, 0, 0) := by decide +kernel
theorem rX4_join_63 : am_rw mX4_join 63 = some (.fload_n 2, 1, 0, 0) := by decide +kernel
theorem rX4_join_64 : am_rw mX4_join 64 = some (.fdiv, 1, 0, 0) := by decide +kernel
theorem rX4_join_65 : am_rw mX4_join 65 = some (.freturn, 1, 0, 0) := by decide +kernel
theorem rX4_join_66 : am_rw mX4_join 66 = some (.fload_n 1, 1, 0, 0) := by decide +kernel
theorem rX4_join_67 : am_rw mX4_join 67 = some (.fload_n 2, 1, 0, 0) := by decide +kernel
theorem rX4_join_68 : am_rw mX4_join 68 = some (.fcmp .l, 1, 0, 0) := by decide +kernel
theorem rX4_join_69 : am_rw mX4_join 69 = some (.ifCond .lt 7, 3, 76, 0) := by decide +kernel
theorem rX4_join_72 : am_rw mX4_join 72 = some (.fload_n 1, 1, 0, 0) := by decide +kernel
theorem rX4_join_73 : am_rw mX4_join 73 = some (.goto 4, 3, 77, 0) := by decide +kernel
theorem rX4_join_76 : am_rw mX4_join 76 = some (.fload_n 2, 1, 0, 0) := by decide +kernel
theorem rX4_join_77 : am_rw mX4_join 77 = some (.freturn, 1, 0, 0) := by decide +kernel
theorem rX4_join_78 : am_rw mX4_join 78 = some (.fload_n 1, 1, 0, 0) := by decide +kernel
theorem rX4_join_79 : am_rw mX4_join 79 = some (.fload_n 2, 1, 0, 0) := by decide +kernel
theorem rX4_join_80 : am_rw mX4_join 80 = some (.fcmp .g, 1, 0, 0) := by decide +kernel
theorem rX4_join_81 : am_rw mX4_join 81 = some (.ifCond .gt 7, 3, 88, 0) := by decide +kernel
theorem rX4_join_84 : am_rw mX4_join 84 = some (.fload_n 1, 1, 0, 0) := by decide +kernel
theorem rX4_join_85 : am_rw mX4_join 85 = some (.goto 4, 3, 89, 0) := by decide +kernel
theorem rX4_join_88 : am_rw mX4_join 88 = some (.fload_n 2, 1, 0, 0) := by decide +kernel
theorem rX4_join_89 : am_rw mX4_join 89 = some (.freturn, 1, 0, 0) := by decide +kernel
theorem rX4_keep_0 : am_rw mX4_keep 0 = some (.fload_n 1, 1, 0, 0) := by decide +kernel
theorem rX4_keep_1 : am_rw mX4_keep 1 = some (.ldc 51, 2, 1, 1315859240) := by decide +kernel
theorem rX4_keep_3 : am_rw mX4_keep 3 = some (.fcmp .l, 1, 0, 0) := by decide +kernel
theorem rX4_keep_4 : am_rw mX4_keep 4 = some (.ifCond .le 8, 3, 12, 0) := by decide +kernel
theorem rX4_keep_7 : am_rw mX4_keep 7 = some (.ldc 51, 2, 1, 1315859240) := by decide +kernel
theorem rX4_keep_9 : am_rw mX4_keep 9 = some (.goto 16, 3, 25, 0) := by decide +kernel
theorem rX4_keep_12 : am_rw mX4_keep 12 = some (.fload_n 1, 1, 0, 0) := by decide +kernel
theorem rX4_keep_13 : am_rw mX4_keep 13 = some (.ldc 52, 2, 1, 3463342888) := by decide +kernel
theorem rX4_keep_15 : am_rw mX4_keep 15 = some (.fcmp .g, 1, 0, 0) := by decide +kernel
theorem rX4_keep_16 : am_rw mX4_keep 16 = some (.ifCond .ge 8, 3, 24, 0) := by decide +kernel
theorem rX4_keep_19 : am_rw mX4_keep 19 = some (.ldc 52, 2, 1, 3463342888) := by decide +kernel
theorem rX4_keep_21 : am_rw mX4_keep 21 = some (.goto 4, 3, 25, 0) := by decide +kernel
theorem rX4_keep_24 : am_rw mX4_keep 24 = some (.fload_n 1, 1, 0, 0) := by decide +kernel
theorem rX4_keep_25 : am_rw mX4_keep 25 = some (.fstore_n 2, 1, 0, 0) := by decide +kernel
theorem rX4_keep_26 : am_rw mX4_keep 26 = some (.aload_n 0, 1, 0, 0) := by decide +kernel
theorem rX4_keep_27 : am_rw mX4_keep 27 = some (.getfield 18, 3, 4, 2) := by decide +kernel
theorem rX4_keep_30 : am_rw mX4_keep 30 = some (.ifCond .lt 45, 3, 75, 0) := by decide +kernel
theorem rX4_keep_33 : am_rw mX4_keep 33 = some (.aload_n 0, 1, 0, 0) := by decide +kernel
theorem rX4_keep_34 : am_rw mX4_keep 34 = some (.getfield 18, 3, 4, 2) := by decide +kernel
theorem rX4_keep_37 : am_rw mX4_keep 37 = some (.aload_n 0, 1, 0, 0) := by decide +kernel
theorem rX4_keep_38 : am_rw mX4_keep 38 = some (.getfield 15, 3, 4, 1) := by decide +kernel
theorem rX4_keep_41 : am_rw mX4_keep 41 = some (.arraylength, 1, 0, 0) := by decide +kernel
theorem rX4_keep_42 : am_rw mX4_keep 42 = some (.if_icmp .ge 33, 3, 75, 0) := by decide +kernel
theorem rX4_keep_45 : am_rw mX4_keep 45 = some (.aload_n 0, 1, 0, 0) := by decide +kernel
theorem rX4_keep_46 : am_rw mX4_keep 46 = some (.getfield 15, 3, 4, 1) := by decide +kernel
theorem rX4_keep_49 : am_rw mX4_keep 49 = some (.aload_n 0, 1, 0, 0) := by decide +kernel
theorem rX4_keep_50 : am_rw mX4_keep 50 = some (.getfield 18, 3, 4, 2) := by decide +kernel
theorem rX4_keep_53 : am_rw mX4_keep 53 = some (.fload_n 2, 1, 0, 0) := by decide +kernel
theorem rX4_keep_54 : am_rw mX4_keep 54 = some (.fconst 0, 1, 0, 0) := by decide +kernel
theorem rX4_keep_55 : am_rw mX4_keep 55 = some (.fcmp .l, 1, 0, 0) := by decide +kernel
theorem rX4_keep_56 : am_rw mX4_keep 56 = some (.ifCond .ne 7, 3, 63, 0) := by decide +kernel
theorem rX4_keep_59 : am_rw mX4_keep 59 = some (.fconst 0, 1, 0, 0) := by decide +kernel
theorem rX4_keep_60 : am_rw mX4_keep 60 = some (.goto 4, 3, 64, 0) := by decide +kernel
theorem rX4_keep_63 : am_rw mX4_keep 63 = some (.fload_n 2, 1, 0, 0) := by decide +kernel
theorem rX4_keep_64 : am_rw mX4_keep 64 = some (.fastore, 1, 0, 0) := by decide +kernel
theorem rX4_keep_65 : am_rw mX4_keep 65 = some (.aload_n 0, 1, 0, 0) := by decide +kernel
theorem rX4_keep_66 : am_rw mX4_keep 66 = some (.dup, 1, 0, 0) := by decide +kernel
theorem rX4_keep_67 : am_rw mX4_keep 67 = some (.getfield 18, 3, 4, 2) := by decide +kernel
theorem rX4_keep_70 : am_rw mX4_keep 70 = some (.iconst 1, 1, 1, 0) := by decide +kernel
theorem rX4_keep_71 : am_rw mX4_keep 71 = some (.iadd, 1, 0, 0) := by decide +kernel
theorem rX4_keep_72 : am_rw mX4_keep 72 = some (.putfield 18, 3, 4, 2) := by decide +kernel
theorem rX4_keep_75 : am_rw mX4_keep 75 = some (.return_, 1, 0, 0) := by decide +kernel
theorem rX4_take_0 : am_rw mX4_take 0 = some (.aload_n 0, 1, 0, 0) := by decide +kernel
theorem rX4_take_1 : am_rw mX4_take 1 = some (.getfield 18, 3, 4, 2) := by decide +kernel
theorem rX4_take_4 : am_rw mX4_take 4 = some (.iconst 1, 1, 1, 0) := by decide +kernel
theorem rX4_take_5 : am_rw mX4_take 5 = some (.if_icmp .lt 15, 3, 20, 0) := by decide +kernel
theorem rX4_take_8 : am_rw mX4_take 8 = some (.aload_n 0, 1, 0, 0) := by decide +kernel
theorem rX4_take_9 : am_rw mX4_take 9 = some (.getfield 18, 3, 4, 2) := by decide +kernel
theorem rX4_take_12 : am_rw mX4_take 12 = some (.aload_n 0, 1, 0, 0) := by decide +kernel
theorem rX4_take_13 : am_rw mX4_take 13 = some (.getfield 15, 3, 4, 1) := by decide +kernel
theorem rX4_take_16 : am_rw mX4_take 16 = some (.arraylength, 1, 0, 0) := by decide +kernel
theorem rX4_take_17 : am_rw mX4_take 17 = some (.if_icmp .le 5, 3, 22, 0) := by decide +kernel
theorem rX4_take_20 : am_rw mX4_take 20 = some (.fconst 0, 1, 0, 0) := by decide +kernel
theorem rX4_take_21 : am_rw mX4_take 21 = some (.freturn, 1, 0, 0) := by decide +kernel
theorem rX4_take_22 : am_rw mX4_take 22 = some (.aload_n 0, 1, 0, 0) := by decide +kernel
theorem rX4_take_23 : am_rw mX4_take 23 = some (.dup, 1, 0, 0) := by decide +kernel
theorem rX4_take_24 : am_rw mX4_take 24 = some (.getfield 18, 3, 4, 2) := by decide +kernel
theorem rX4_take_27 : am_rw mX4_take 27 = some (.iconst 1, 1, 1, 0) := by decide +kernel
theorem rX4_take_28 : am_rw mX4_take 28 = some (.isub, 1, 0, 0) := by decide +kernel
theorem rX4_take_29 : am_rw mX4_take 29 = some (.putfield 18, 3, 4, 2) := by decide +kernel
theorem rX4_take_32 : am_rw mX4_take 32 = some (.aload_n 0, 1, 0, 0) := by decide +kernel
theorem rX4_take_33 : am_rw mX4_take 33 = some (.getfield 15, 3, 4, 1) := by decide +kernel
theorem rX4_take_36 : am_rw mX4_take 36 = some (.aload_n 0, 1, 0, 0) := by decide +kernel
theorem rX4_take_37 : am_rw mX4_take 37 = some (.getfield 18, 3, 4, 2) := by decide +kernel
theorem rX4_take_40 : am_rw mX4_take 40 = some (.faload, 1, 0, 0) := by decide +kernel
theorem rX4_take_41 : am_rw mX4_take 41 = some (.freturn, 1, 0, 0) := by decide +kernel
theorem rX5_init_0 : am_rw mX5_init 0 = some (.aload_n 0, 1, 0, 0) := by decide +kernel
theorem rX5_init_1 : am_rw mX5_init 1 = some (.invokespecial 3, 3, 999, 1) := by decide +kernel
theorem rX5_init_4 : am_rw mX5_init 4 = some (.aload_n 0, 1, 0, 0) := by decide +kernel
theorem rX5_init_5 : am_rw mX5_init 5 = some (.iconst (-1), 1, 1, 1) := by decide +kernel
theorem rX5_init_6 : am_rw mX5_init 6 = some (.putfield 9, 3, 5, 0) := by decide +kernel
theorem rX5_init_9 : am_rw mX5_init 9 = some (.aload_n 0, 1, 0, 0) := by decide +kernel
theorem rX5_init_10 : am_rw mX5_init 10 = some (.iconst 0, 1, 0, 0) := by decide +kernel
theorem rX5_init_11 : am_rw mX5_init 11 = some (.putfield 15, 3, 5, 1) := by decide +kernel
theorem rX5_init_14 : am_rw mX5_init 14 = some (.aload_n 0, 1, 0, 0) := by decide +kernel
theorem rX5_init_15 : am_rw mX5_init 15 = some (.iconst 0, 1, 0, 0) := by decide +kernel
theorem rX5_init_16 : am_rw mX5_init 16 = some (.putfield 18, 3, 5, 2) := by decide +kernel
theorem rX5_init_19 : am_rw mX5_init 19 = some (.aload_n 0, 1, 0, 0) := by decide +kernel
theorem rX5_init_20 : am_rw mX5_init 20 = some (.fconst 0, 1, 0, 0) := by decide +kernel
theorem rX5_init_21 : am_rw mX5_init 21 = some (.putfield 21, 3, 5, 3) := by decide +kernel
theorem rX5_init_24 : am_rw mX5_init 24 = some (.aload_n 0, 1, 0, 0) := by decide +kernel
theorem rX5_init_25 : am_rw mX5_init 25 = some (.iconst 0, 1, 0, 0) := by decide +kernel
theorem rX5_init_26 : am_rw mX5_init 26 = some (.putfield 25, 3, 5, 4) := by decide +kernel
theorem rX5_init_29 : am_rw mX5_init 29 = some (.aload_n 0, 1, 0, 0) := by decide +kernel
theorem rX5_init_30 : am_rw mX5_init 30 = some (.iconst 0, 1, 0, 0) := by decide +kernel
theorem rX5_init_31 : am_rw mX5_init 31 = some (.putfield 28, 3, 5, 5) := by decide +kernel
theorem rX5_init_34 : am_rw mX5_init 34 = some (.return_, 1, 0, 0) := by decide +kernel
theorem rX5_lookAhead_0 : am_rw mX5_lookAhead 0 = some (.aload_n 0, 1, 0, 0) := by decide +kernel
theorem rX5_lookAhead_1 : am_rw mX5_lookAhead 1 = some (.iload_n 2, 1, 0, 0) := by decide +kernel
theorem rX5_lookAhead_2 : am_rw mX5_lookAhead 2 = some (.putfield 9, 3, 5, 0) := by decide +kernel
theorem rX5_lookAhead_5 : am_rw mX5_lookAhead 5 = some (.aload_n 0, 1, 0, 0) := by decide +kernel
theorem rX5_lookAhead_6 : am_rw mX5_lookAhead 6 = some (.iload_n 3, 1, 0, 0) := by decide +kernel
theorem rX5_lookAhead_7 : am_rw mX5_lookAhead 7 = some (.putfield 15, 3, 5, 1) := by decide +kernel
theorem rX5_lookAhead_10 : am_rw mX5_lookAhead 10 = some (.aload_n 0, 1, 0, 0) := by decide +kernel
theorem rX5_lookAhead_11 : am_rw mX5_lookAhead 11 = some (.iload 4, 2, 0, 0) := by decide +kernel
theorem rX5_lookAhead_13 : am_rw mX5_lookAhead 13 = some (.putfield 18, 3, 5, 2) := by decide +kernel
theorem rX5_lookAhead_16 : am_rw mX5_lookAhead 16 = some (.aload_n 0, 1, 0, 0) := by decide +kernel
theorem rX5_lookAhead_17 : am_rw mX5_lookAhead 17 = some (.iconst 0, 1, 0, 0) := by decide +kernel
theorem rX5_lookAhead_18 : am_rw mX5_lookAhead 18 = some (.putfield 28, 3, 5, 5) := by decide +kernel
theorem rX5_lookAhead_21 : am_rw mX5_lookAhead 21 = some (.aload_n 0, 1, 0, 0) := by decide +kernel
theorem rX5_lookAhead_22 : am_rw mX5_lookAhead 22 = some (.aload_n 1, 1, 0, 0) := by decide +kernel
theorem rX5_lookAhead_23 : am_rw mX5_lookAhead 23 = some (.aload_n 0, 1, 0, 0) := by decide +kernel
theorem rX5_lookAhead_24 : am_rw mX5_lookAhead 24 = some (.getfield 9, 3, 5, 0) := by decide +kernel
theorem rX5_lookAhead_27 : am_rw mX5_lookAhead 27 = some (.aload_n 0, 1, 0, 0) := by decide +kernel
theorem rX5_lookAhead_28 : am_rw mX5_lookAhead 28 = some (.getfield 15, 3, 5, 1) := by decide +kernel
theorem rX5_lookAhead_31 : am_rw mX5_lookAhead 31 = some (.invokevirtual 32, 3, 55, 3) := by decide +kernel
theorem rX5_lookAhead_34 : am_rw mX5_lookAhead 34 = some (.putfield 21, 3, 5, 3) := by decide +kernel
theorem rX5_lookAhead_37 : am_rw mX5_lookAhead 37 = some (.aload_n 0, 1, 0, 0) := by decide +kernel
theorem rX5_lookAhead_38 : am_rw mX5_lookAhead 38 = some (.aload_n 0, 1, 0, 0) := by decide +kernel
theorem rX5_lookAhead_39 : am_rw mX5_lookAhead 39 = some (.getfield 15, 3, 5, 1) := by decide +kernel
theorem rX5_lookAhead_42 : am_rw mX5_lookAhead 42 = some (.putfield 25, 3, 5, 4) := by decide +kernel
theorem rX5_lookAhead_45 : am_rw mX5_lookAhead 45 = some (.aload_n 0, 1, 0, 0) := by decide +kernel
theorem rX5_lookAhead_46 : am_rw mX5_lookAhead 46 = some (.getfield 15, 3, 5, 1) := by decide +kernel
theorem rX5_lookAhead_49 : am_rw mX5_lookAhead 49 = some (.iconst 1, 1, 1, 0) := by decide +kernel
theorem rX5_lookAhead_50 : am_rw mX5_lookAhead 50 = some (.iadd, 1, 0, 0) := by decide +kernel
theorem rX5_lookAhead_51 : am_rw mX5_lookAhead 51 = some (.istore 5, 2, 0, 0) := by decide +kernel
theorem rX5_lookAhead_53 : am_rw mX5_lookAhead 53 = some (.iload 5, 2, 0, 0) := by decide +kernel
theorem rX5_lookAhead_55 : am_rw mX5_lookAhead 55 = some (.aload_n 0, 1, 0, 0) := by decide +kernel
theorem rX5_lookAhead_56 : am_rw mX5_lookAhead 56 = some (.getfield 18, 3, 5, 2) := by decide +kernel
theorem rX5_lookAhead_59 : am_rw mX5_lookAhead 59 = some (.if_icmp .gt 43, 3, 102, 0) := by decide +kernel
theorem rX5_lookAhead_62 : am_rw mX5_lookAhead 62 = some (.aload_n 1, 1, 0, 0) := by decide +kernel
theorem rX5_lookAhead_63 : am_rw mX5_lookAhead 63 = some (.aload_n 0, 1, 0, 0) := by decide +kernel
theorem rX5_lookAhead_64 : am_rw mX5_lookAhead 64 = some (.getfield 9, 3, 5, 0) := by decide +kernel
theorem rX5_lookAhead_67 : am_rw mX5_lookAhead 67 = some (.iload 5, 2, 0, 0) := by decide +kernel
theorem rX5_lookAhead_69 : am_rw mX5_lookAhead 69 = some (.invokevirtual 32, 3, 55, 3) := by decide +kernel
theorem rX5_lookAhead_72 : am_rw mX5_lookAhead 72 = some (.fstore 6, 2, 0, 0) := by decide +kernel
theorem rX5_lookAhead_74 : am_rw mX5_lookAhead 74 = some (.fload 6, 2, 0, 0) := by decide +kernel
theorem rX5_lookAhead_76 : am_rw mX5_lookAhead 76 = some (.aload_n 0, 1, 0, 0) := by decide +kernel
theorem rX5_lookAhead_77 : am_rw mX5_lookAhead 77 = some (.getfield 21, 3, 5, 3) := by decide +kernel
theorem rX5_lookAhead_80 : am_rw mX5_lookAhead 80 = some (.fcmp .l, 1, 0, 0) := by decide +kernel
theorem rX5_lookAhead_81 : am_rw mX5_lookAhead 81 = some (.ifCond .le 15, 3, 96, 0) := by decide +kernel
theorem rX5_lookAhead_84 : am_rw mX5_lookAhead 84 = some (.aload_n 0, 1, 0, 0) := by decide +kernel
theorem rX5_lookAhead_85 : am_rw mX5_lookAhead 85 = some (.fload 6, 2, 0, 0) := by decide +kernel
theorem rX5_lookAhead_87 : am_rw mX5_lookAhead 87 = some (.putfield 21, 3, 5, 3) := by decide +kernel
theorem rX5_lookAhead_90 : am_rw mX5_lookAhead 90 = some (.aload_n 0, 1, 0, 0) := by decide +kernel
theorem rX5_lookAhead_91 : am_rw mX5_lookAhead 91 = some (.iload 5, 2, 0, 0) := by decide +kernel
theorem rX5_lookAhead_93 : am_rw mX5_lookAhead 93 = some (.putfield 25, 3, 5, 4) := by decide +kernel
theorem rX5_lookAhead_96 : am_rw mX5_lookAhead 96 = some (.iinc 5 1, 3, 0, 0) := by decide +kernel
theorem rX5_lookAhead_99 : am_rw mX5_lookAhead 99 = some (.goto (-46), 3, 53, 0) := by decide +kernel
theorem rX5_lookAhead_102 : am_rw mX5_lookAhead 102 = some (.return_, 1, 0, 0) := by decide +kernel
theorem rX6_init_0 : am_rw mX6_init 0 = some (.aload_n 0, 1, 0, 0) := by decide +kernel
theorem rX6_init_1 : am_rw mX6_init 1 = some (.invokespecial 3, 3, 999, 1) := by decide +kernel
theorem rX6_init_4 : am_rw mX6_init 4 = some (.aload_n 0, 1, 0, 0) := by decide +kernel
theorem rX6_init_5 : am_rw mX6_init 5 = some (.new 9, 3, 4, 0) := by decide +kernel
theorem rX6_init_8 : am_rw mX6_init 8 = some (.dup, 1, 0, 0) := by decide +kernel
theorem rX6_init_9 : am_rw mX6_init 9 = some (.invokespecial 11, 3, 29, 1) := by decide +kernel
theorem rX6_init_12 : am_rw mX6_init 12 = some (.putfield 12, 3, 6, 0) := by decide +kernel
theorem rX6_init_15 : am_rw mX6_init 15 = some (.aload_n 0, 1, 0, 0) := by decide +kernel
theorem rX6_init_16 : am_rw mX6_init 16 = some (.bipush 60, 2, 60, 0) := by decide +kernel
theorem rX6_init_18 : am_rw mX6_init 18 = some (.anewarray 18, 3, 30, 0) := by decide +kernel
theorem rX6_init_21 : am_rw mX6_init 21 = some (.putfield 20, 3, 6, 1) := by decide +kernel
theorem rX6_init_24 : am_rw mX6_init 24 = some (.aload_n 0, 1, 0, 0) := by decide +kernel
theorem rX6_init_25 : am_rw mX6_init 25 = some (.bipush 6, 2, 6, 0) := by decide +kernel
theorem rX6_init_27 : am_rw mX6_init 27 = some (.newarray .int, 2, 20, 0) := by decide +kernel
theorem rX6_init_29 : am_rw mX6_init 29 = some (.putfield 24, 3, 6, 2) := by decide +kernel
theorem rX6_init_32 : am_rw mX6_init 32 = some (.aload_n 0, 1, 0, 0) := by decide +kernel
theorem rX6_init_33 : am_rw mX6_init 33 = some (.iconst 3, 1, 3, 0) := by decide +kernel
theorem rX6_init_34 : am_rw mX6_init 34 = some (.sipush 201, 3, 201, 0) := by decide +kernel
theorem rX6_init_37 : am_rw mX6_init 37 = some (.multianewarray 28 2, 4, 34, 0) := by decide +kernel
theorem rX6_init_41 : am_rw mX6_init 41 = some (.putfield 30, 3, 6, 3) := by decide +kernel
theorem rX6_init_44 : am_rw mX6_init 44 = some (.aload_n 0, 1, 0, 0) := by decide +kernel
theorem rX6_init_45 : am_rw mX6_init 45 = some (.iconst 0, 1, 0, 0) := by decide +kernel
theorem rX6_init_46 : am_rw mX6_init 46 = some (.putfield 33, 3, 6, 4) := by decide +kernel
theorem rX6_init_49 : am_rw mX6_init 49 = some (.iconst 0, 1, 0, 0) := by decide +kernel
theorem rX6_init_50 : am_rw mX6_init 50 = some (.istore_n 1, 1, 0, 0) := by decide +kernel
theorem rX6_init_51 : am_rw mX6_init 51 = some (.iload_n 1, 1, 0, 0) := by decide +kernel
theorem rX6_init_52 : am_rw mX6_init 52 = some (.aload_n 0, 1, 0, 0) := by decide +kernel
theorem rX6_init_53 : am_rw mX6_init 53 = some (.getfield 20, 3, 6, 1) := by decide +kernel
theorem rX6_init_56 : am_rw mX6_init 56 = some (.arraylength, 1, 0, 0) := by decide +kernel
theorem rX6_init_57 : am_rw mX6_init 57 = some (.if_icmp .ge 22, 3, 79, 0) := by decide +kernel
theorem rX6_init_60 : am_rw mX6_init 60 = some (.aload_n 0, 1, 0, 0) := by decide +kernel
theorem rX6_init_61 : am_rw mX6_init 61 = some (.getfield 20, 3, 6, 1) := by decide +kernel
theorem rX6_init_64 : am_rw mX6_init 64 = some (.iload_n 1, 1, 0, 0) := by decide +kernel
theorem rX6_init_65 : am_rw mX6_init 65 = some (.new 18, 3, 8, 0) := by decide +kernel
theorem rX6_init_68 : am_rw mX6_init 68 = some (.dup, 1, 0, 0) := by decide +kernel
theorem rX6_init_69 : am_rw mX6_init 69 = some (.invokespecial 37, 3, 58, 1) := by decide +kernel
theorem rX6_init_72 : am_rw mX6_init 72 = some (.aastore, 1, 0, 0) := by decide +kernel
theorem rX6_init_73 : am_rw mX6_init 73 = some (.iinc 1 1, 3, 0, 0) := by decide +kernel
theorem rX6_init_76 : am_rw mX6_init 76 = some (.goto (-25), 3, 51, 0) := by decide +kernel
theorem rX6_init_79 : am_rw mX6_init 79 = some (.iconst 0, 1, 0, 0) := by decide +kernel
theorem rX6_init_80 : am_rw mX6_init 80 = some (.istore_n 1, 1, 0, 0) := by decide +kernel
theorem rX6_init_81 : am_rw mX6_init 81 = some (.iload_n 1, 1, 0, 0) := by decide +kernel
theorem rX6_init_82 : am_rw mX6_init 82 = some (.aload_n 0, 1, 0, 0) := by decide +kernel
theorem rX6_init_83 : am_rw mX6_init 83 = some (.getfield 24, 3, 6, 2) := by decide +kernel
theorem rX6_init_86 : am_rw mX6_init 86 = some (.arraylength, 1, 0, 0) := by decide +kernel
theorem rX6_init_87 : am_rw mX6_init 87 = some (.if_icmp .ge 16, 3, 103, 0) := by decide +kernel
theorem rX6_init_90 : am_rw mX6_init 90 = some (.aload_n 0, 1, 0, 0) := by decide +kernel
theorem rX6_init_91 : am_rw mX6_init 91 = some (.getfield 24, 3, 6, 2) := by decide +kernel
theorem rX6_init_94 : am_rw mX6_init 94 = some (.iload_n 1, 1, 0, 0) := by decide +kernel
theorem rX6_init_95 : am_rw mX6_init 95 = some (.iconst (-1), 1, 1, 1) := by decide +kernel
theorem rX6_init_96 : am_rw mX6_init 96 = some (.iastore, 1, 0, 0) := by decide +kernel
theorem rX6_init_97 : am_rw mX6_init 97 = some (.iinc 1 1, 3, 0, 0) := by decide +kernel
theorem rX6_init_100 : am_rw mX6_init 100 = some (.goto (-19), 3, 81, 0) := by decide +kernel
theorem rX6_init_103 : am_rw mX6_init 103 = some (.return_, 1, 0, 0) := by decide +kernel
theorem rX6_has_0 : am_rw mX6_has 0 = some (.iload_n 1, 1, 0, 0) := by decide +kernel
theorem rX6_has_1 : am_rw mX6_has 1 = some (.ifCond .lt 24, 3, 25, 0) := by decide +kernel
theorem rX6_has_4 : am_rw mX6_has 4 = some (.iload_n 1, 1, 0, 0) := by decide +kernel
theorem rX6_has_5 : am_rw mX6_has 5 = some (.aload_n 0, 1, 0, 0) := by decide +kernel
theorem rX6_has_6 : am_rw mX6_has 6 = some (.getfield 33, 3, 6, 4) := by decide +kernel
theorem rX6_has_9 : am_rw mX6_has 9 = some (.if_icmp .ge 16, 3, 25, 0) := by decide +kernel
theorem rX6_has_12 : am_rw mX6_has 12 = some (.iload_n 1, 1, 0, 0) := by decide +kernel
theorem rX6_has_13 : am_rw mX6_has 13 = some (.aload_n 0, 1, 0, 0) := by decide +kernel
theorem rX6_has_14 : am_rw mX6_has 14 = some (.getfield 20, 3, 6, 1) := by decide +kernel
theorem rX6_has_17 : am_rw mX6_has 17 = some (.arraylength, 1, 0, 0) := by decide +kernel
theorem rX6_has_18 : am_rw mX6_has 18 = some (.if_icmp .ge 7, 3, 25, 0) := by decide +kernel
theorem rX6_has_21 : am_rw mX6_has 21 = some (.iconst 1, 1, 1, 0) := by decide +kernel
theorem rX6_has_22 : am_rw mX6_has 22 = some (.goto 4, 3, 26, 0) := by decide +kernel
theorem rX6_has_25 : am_rw mX6_has 25 = some (.iconst 0, 1, 0, 0) := by decide +kernel
theorem rX6_has_26 : am_rw mX6_has 26 = some (.ireturn, 1, 0, 0) := by decide +kernel
theorem rX6_latestOf_0 : am_rw mX6_latestOf 0 = some (.iload_n 1, 1, 0, 0) := by decide +kernel
theorem rX6_latestOf_1 : am_rw mX6_latestOf 1 = some (.ifCond .lt 21, 3, 22, 0) := by decide +kernel
theorem rX6_latestOf_4 : am_rw mX6_latestOf 4 = some (.iload_n 1, 1, 0, 0) := by decide +kernel
theorem rX6_latestOf_5 : am_rw mX6_latestOf 5 = some (.aload_n 0, 1, 0, 0) := by decide +kernel
theorem rX6_latestOf_6 : am_rw mX6_latestOf 6 = some (.getfield 24, 3, 6, 2) := by decide +kernel
theorem rX6_latestOf_9 : am_rw mX6_latestOf 9 = some (.arraylength, 1, 0, 0) := by decide +kernel
theorem rX6_latestOf_10 : am_rw mX6_latestOf 10 = some (.if_icmp .ge 12, 3, 22, 0) := by decide +kernel
theorem rX6_latestOf_13 : am_rw mX6_latestOf 13 = some (.aload_n 0, 1, 0, 0) := by decide +kernel
theorem rX6_latestOf_14 : am_rw mX6_latestOf 14 = some (.getfield 24, 3, 6, 2) := by decide +kernel
theorem rX6_latestOf_17 : am_rw mX6_latestOf 17 = some (.iload_n 1, 1, 0, 0) := by decide +kernel
theorem rX6_latestOf_18 : am_rw mX6_latestOf 18 = some (.iaload, 1, 0, 0) := by decide +kernel
theorem rX6_latestOf_19 : am_rw mX6_latestOf 19 = some (.goto 4, 3, 23, 0) := by decide +kernel
theorem rX6_latestOf_22 : am_rw mX6_latestOf 22 = some (.iconst (-1), 1, 1, 1) := by decide +kernel
theorem rX6_latestOf_23 : am_rw mX6_latestOf 23 = some (.ireturn, 1, 0, 0) := by decide +kernel
theorem rX6_isLatest_0 : am_rw mX6_isLatest 0 = some (.aload_n 0, 1, 0, 0) := by decide +kernel
theorem rX6_isLatest_1 : am_rw mX6_isLatest 1 = some (.iload_n 1, 1, 0, 0) := by decide +kernel
theorem rX6_isLatest_2 : am_rw mX6_isLatest 2 = some (.invokevirtual 38, 3, 38, 2) := by decide +kernel
theorem rX6_isLatest_5 : am_rw mX6_isLatest 5 = some (.ifCond .eq 24, 3, 29, 0) := by decide +kernel
theorem rX6_isLatest_8 : am_rw mX6_isLatest 8 = some (.aload_n 0, 1, 0, 0) := by decide +kernel
theorem rX6_isLatest_9 : am_rw mX6_isLatest 9 = some (.aload_n 0, 1, 0, 0) := by decide +kernel
theorem rX6_isLatest_10 : am_rw mX6_isLatest 10 = some (.getfield 20, 3, 6, 1) := by decide +kernel
theorem rX6_isLatest_13 : am_rw mX6_isLatest 13 = some (.iload_n 1, 1, 0, 0) := by decide +kernel
theorem rX6_isLatest_14 : am_rw mX6_isLatest 14 = some (.aaload, 1, 0, 0) := by decide +kernel
theorem rX6_isLatest_15 : am_rw mX6_isLatest 15 = some (.getfield 42, 3, 8, 3) := by decide +kernel
theorem rX6_isLatest_18 : am_rw mX6_isLatest 18 = some (.invokevirtual 45, 3, 39, 2) := by decide +kernel
theorem rX6_isLatest_21 : am_rw mX6_isLatest 21 = some (.iload_n 1, 1, 0, 0) := by decide +kernel
theorem rX6_isLatest_22 : am_rw mX6_isLatest 22 = some (.if_icmp .ne 7, 3, 29, 0) := by decide +kernel
theorem rX6_isLatest_25 : am_rw mX6_isLatest 25 = some (.iconst 1, 1, 1, 0) := by decide +kernel
theorem rX6_isLatest_26 : am_rw mX6_isLatest 26 = some (.goto 4, 3, 30, 0) := by decide +kernel
theorem rX6_isLatest_29 : am_rw mX6_isLatest 29 = some (.iconst 0, 1, 0, 0) := by decide +kernel
theorem rX6_isLatest_30 : am_rw mX6_isLatest 30 = some (.ireturn, 1, 0, 0) := by decide +kernel
theorem rX6_modelOf_0 : am_rw mX6_modelOf 0 = some (.aload_n 0, 1, 0, 0) := by decide +kernel
theorem rX6_modelOf_1 : am_rw mX6_modelOf 1 = some (.iload_n 1, 1, 0, 0) := by decide +kernel
theorem rX6_modelOf_2 : am_rw mX6_modelOf 2 = some (.invokevirtual 38, 3, 38, 2) := by decide +kernel
theorem rX6_modelOf_5 : am_rw mX6_modelOf 5 = some (.ifCond .eq 15, 3, 20, 0) := by decide +kernel
theorem rX6_modelOf_8 : am_rw mX6_modelOf 8 = some (.aload_n 0, 1, 0, 0) := by decide +kernel
theorem rX6_modelOf_9 : am_rw mX6_modelOf 9 = some (.getfield 20, 3, 6, 1) := by decide +kernel
theorem rX6_modelOf_12 : am_rw mX6_modelOf 12 = some (.iload_n 1, 1, 0, 0) := by decide +kernel
theorem rX6_modelOf_13 : am_rw mX6_modelOf 13 = some (.aaload, 1, 0, 0) := by decide +kernel
theorem rX6_modelOf_14 : am_rw mX6_modelOf 14 = some (.getfield 42, 3, 8, 3) := by decide +kernel
theorem rX6_modelOf_17 : am_rw mX6_modelOf 17 = some (.goto 4, 3, 21, 0) := by decide +kernel
theorem rX6_modelOf_20 : am_rw mX6_modelOf 20 = some (.iconst (-1), 1, 1, 1) := by decide +kernel
theorem rX6_modelOf_21 : am_rw mX6_modelOf 21 = some (.ireturn, 1, 0, 0) := by decide +kernel
theorem rX6_pinOf_0 : am_rw mX6_pinOf 0 = some (.aload_n 0, 1, 0, 0) := by decide +kernel
theorem rX6_pinOf_1 : am_rw mX6_pinOf 1 = some (.iload_n 1, 1, 0, 0) := by decide +kernel
theorem rX6_pinOf_2 : am_rw mX6_pinOf 2 = some (.invokevirtual 38, 3, 38, 2) := by decide +kernel
theorem rX6_pinOf_5 : am_rw mX6_pinOf 5 = some (.ifCond .eq 24, 3, 29, 0) := by decide +kernel
theorem rX6_pinOf_8 : am_rw mX6_pinOf 8 = some (.iload_n 2, 1, 0, 0) := by decide +kernel
theorem rX6_pinOf_9 : am_rw mX6_pinOf 9 = some (.invokestatic 49, 3, 88, 1) := by decide +kernel
theorem rX6_pinOf_12 : am_rw mX6_pinOf 12 = some (.ifCond .eq 17, 3, 29, 0) := by decide +kernel
theorem rX6_pinOf_15 : am_rw mX6_pinOf 15 = some (.aload_n 0, 1, 0, 0) := by decide +kernel
theorem rX6_pinOf_16 : am_rw mX6_pinOf 16 = some (.getfield 20, 3, 6, 1) := by decide +kernel
theorem rX6_pinOf_19 : am_rw mX6_pinOf 19 = some (.iload_n 1, 1, 0, 0) := by decide +kernel
theorem rX6_pinOf_20 : am_rw mX6_pinOf 20 = some (.aaload, 1, 0, 0) := by decide +kernel
theorem rX6_pinOf_21 : am_rw mX6_pinOf 21 = some (.getfield 52, 3, 8, 1) := by decide +kernel
theorem rX6_pinOf_24 : am_rw mX6_pinOf 24 = some (.iload_n 2, 1, 0, 0) := by decide +kernel
theorem rX6_pinOf_25 : am_rw mX6_pinOf 25 = some (.iaload, 1, 0, 0) := by decide +kernel
theorem rX6_pinOf_26 : am_rw mX6_pinOf 26 = some (.goto 4, 3, 30, 0) := by decide +kernel
theorem rX6_pinOf_29 : am_rw mX6_pinOf 29 = some (.iconst (-1), 1, 1, 1) := by decide +kernel
theorem rX6_pinOf_30 : am_rw mX6_pinOf 30 = some (.ireturn, 1, 0, 0) := by decide +kernel
theorem rX6_names_0 : am_rw mX6_names 0 = some (.aload_n 0, 1, 0, 0) := by decide +kernel
theorem rX6_names_1 : am_rw mX6_names 1 = some (.iload_n 1, 1, 0, 0) := by decide +kernel
theorem rX6_names_2 : am_rw mX6_names 2 = some (.invokevirtual 38, 3, 38, 2) := by decide +kernel
theorem rX6_names_5 : am_rw mX6_names 5 = some (.ifCond .eq 23, 3, 28, 0) := by decide +kernel
theorem rX6_names_8 : am_rw mX6_names 8 = some (.aload_n 0, 1, 0, 0) := by decide +kernel
theorem rX6_names_9 : am_rw mX6_names 9 = some (.getfield 20, 3, 6, 1) := by decide +kernel
theorem rX6_names_12 : am_rw mX6_names 12 = some (.iload_n 1, 1, 0, 0) := by decide +kernel
theorem rX6_names_13 : am_rw mX6_names 13 = some (.aaload, 1, 0, 0) := by decide +kernel
theorem rX6_names_14 : am_rw mX6_names 14 = some (.getfield 55, 3, 8, 4) := by decide +kernel
theorem rX6_names_17 : am_rw mX6_names 17 = some (.iload_n 2, 1, 0, 0) := by decide +kernel
theorem rX6_names_18 : am_rw mX6_names 18 = some (.ishr, 1, 0, 0) := by decide +kernel
theorem rX6_names_19 : am_rw mX6_names 19 = some (.iconst 1, 1, 1, 0) := by decide +kernel
theorem rX6_names_20 : am_rw mX6_names 20 = some (.iand, 1, 0, 0) := by decide +kernel
theorem rX6_names_21 : am_rw mX6_names 21 = some (.ifCond .eq 7, 3, 28, 0) := by decide +kernel
theorem rX6_names_24 : am_rw mX6_names 24 = some (.iconst 1, 1, 1, 0) := by decide +kernel
theorem rX6_names_25 : am_rw mX6_names 25 = some (.goto 4, 3, 29, 0) := by decide +kernel
theorem rX6_names_28 : am_rw mX6_names 28 = some (.iconst 0, 1, 0, 0) := by decide +kernel
theorem rX6_names_29 : am_rw mX6_names 29 = some (.ireturn, 1, 0, 0) := by decide +kernel
theorem rX6_modelsUnder_0 : am_rw mX6_modelsUnder 0 = some (.aload_n 0, 1, 0, 0) := by decide +kernel
theorem rX6_modelsUnder_1 : am_rw mX6_modelsUnder 1 = some (.iload_n 1, 1, 0, 0) := by decide +kernel
theorem rX6_modelsUnder_2 : am_rw mX6_modelsUnder 2 = some (.invokevirtual 58, 3, 45, 2) := by decide +kernel
theorem rX6_modelsUnder_5 : am_rw mX6_modelsUnder 5 = some (.istore_n 2, 1, 0, 0) := by decide +kernel
theorem rX6_modelsUnder_6 : am_rw mX6_modelsUnder 6 = some (.iconst 0, 1, 0, 0) := by decide +kernel
theorem rX6_modelsUnder_7 : am_rw mX6_modelsUnder 7 = some (.istore_n 3, 1, 0, 0) := by decide +kernel
theorem rX6_modelsUnder_8 : am_rw mX6_modelsUnder 8 = some (.iload_n 3, 1, 0, 0) := by decide +kernel
theorem rX6_modelsUnder_9 : am_rw mX6_modelsUnder 9 = some (.bipush 6, 2, 6, 0) := by decide +kernel
theorem rX6_modelsUnder_11 : am_rw mX6_modelsUnder 11 = some (.if_icmp .ge 47, 3, 58, 0) := by decide +kernel
theorem rX6_modelsUnder_14 : am_rw mX6_modelsUnder 14 = some (.iconst 0, 1, 0, 0) := by decide +kernel
theorem rX6_modelsUnder_15 : am_rw mX6_modelsUnder 15 = some (.istore 4, 2, 0, 0) := by decide +kernel
theorem rX6_modelsUnder_17 : am_rw mX6_modelsUnder 17 = some (.iload 4, 2, 0, 0) := by decide +kernel
theorem rX6_modelsUnder_19 : am_rw mX6_modelsUnder 19 = some (.bipush 6, 2, 6, 0) := by decide +kernel
theorem rX6_modelsUnder_21 : am_rw mX6_modelsUnder 21 = some (.if_icmp .ge 31, 3, 52, 0) := by decide +kernel
theorem rX6_modelsUnder_24 : am_rw mX6_modelsUnder 24 = some (.iload_n 2, 1, 0, 0) := by decide +kernel
theorem rX6_modelsUnder_25 : am_rw mX6_modelsUnder 25 = some (.iload_n 2, 1, 0, 0) := by decide +kernel
theorem rX6_modelsUnder_26 : am_rw mX6_modelsUnder 26 = some (.iload 4, 2, 0, 0) := by decide +kernel
theorem rX6_modelsUnder_28 : am_rw mX6_modelsUnder 28 = some (.ishr, 1, 0, 0) := by decide +kernel
theorem rX6_modelsUnder_29 : am_rw mX6_modelsUnder 29 = some (.iconst 1, 1, 1, 0) := by decide +kernel
theorem rX6_modelsUnder_30 : am_rw mX6_modelsUnder 30 = some (.iand, 1, 0, 0) := by decide +kernel
theorem rX6_modelsUnder_31 : am_rw mX6_modelsUnder 31 = some (.ifCond .eq 12, 3, 43, 0) := by decide +kernel
theorem rX6_modelsUnder_34 : am_rw mX6_modelsUnder 34 = some (.aload_n 0, 1, 0, 0) := by decide +kernel
theorem rX6_modelsUnder_35 : am_rw mX6_modelsUnder 35 = some (.iload 4, 2, 0, 0) := by decide +kernel
theorem rX6_modelsUnder_37 : am_rw mX6_modelsUnder 37 = some (.invokevirtual 58, 3, 45, 2) := by decide +kernel
theorem rX6_modelsUnder_40 : am_rw mX6_modelsUnder 40 = some (.goto 4, 3, 44, 0) := by decide +kernel
theorem rX6_modelsUnder_43 : am_rw mX6_modelsUnder 43 = some (.iconst 0, 1, 0, 0) := by decide +kernel
theorem rX6_modelsUnder_44 : am_rw mX6_modelsUnder 44 = some (.ior, 1, 0, 0) := by decide +kernel
theorem rX6_modelsUnder_45 : am_rw mX6_modelsUnder 45 = some (.istore_n 2, 1, 0, 0) := by decide +kernel
theorem rX6_modelsUnder_46 : am_rw mX6_modelsUnder 46 = some (.iinc 4 1, 3, 0, 0) := by decide +kernel
theorem rX6_modelsUnder_49 : am_rw mX6_modelsUnder 49 = some (.goto (-32), 3, 17, 0) := by decide +kernel
theorem rX6_modelsUnder_52 : am_rw mX6_modelsUnder 52 = some (.iinc 3 1, 3, 0, 0) := by decide +kernel
theorem rX6_modelsUnder_55 : am_rw mX6_modelsUnder 55 = some (.goto (-47), 3, 8, 0) := by decide +kernel
theorem rX6_modelsUnder_58 : am_rw mX6_modelsUnder 58 = some (.iload_n 2, 1, 0, 0) := by decide +kernel
theorem rX6_modelsUnder_59 : am_rw mX6_modelsUnder 59 = some (.ireturn, 1, 0, 0) := by decide +kernel
theorem rX6_namedBy_0 : am_rw mX6_namedBy 0 = some (.aload_n 0, 1, 0, 0) := by decide +kernel
theorem rX6_namedBy_1 : am_rw mX6_namedBy 1 = some (.iload_n 1, 1, 0, 0) := by decide +kernel
theorem rX6_namedBy_2 : am_rw mX6_namedBy 2 = some (.invokevirtual 45, 3, 39, 2) := by decide +kernel
theorem rX6_namedBy_5 : am_rw mX6_namedBy 5 = some (.istore_n 2, 1, 0, 0) := by decide +kernel
theorem rX6_namedBy_6 : am_rw mX6_namedBy 6 = some (.aload_n 0, 1, 0, 0) := by decide +kernel
theorem rX6_namedBy_7 : am_rw mX6_namedBy 7 = some (.iload_n 2, 1, 0, 0) := by decide +kernel
theorem rX6_namedBy_8 : am_rw mX6_namedBy 8 = some (.invokevirtual 38, 3, 38, 2) := by decide +kernel
theorem rX6_namedBy_11 : am_rw mX6_namedBy 11 = some (.ifCond .eq 18, 3, 29, 0) := by decide +kernel
theorem rX6_namedBy_14 : am_rw mX6_namedBy 14 = some (.aload_n 0, 1, 0, 0) := by decide +kernel
theorem rX6_namedBy_15 : am_rw mX6_namedBy 15 = some (.getfield 20, 3, 6, 1) := by decide +kernel
theorem rX6_namedBy_18 : am_rw mX6_namedBy 18 = some (.iload_n 2, 1, 0, 0) := by decide +kernel
theorem rX6_namedBy_19 : am_rw mX6_namedBy 19 = some (.aaload, 1, 0, 0) := by decide +kernel
theorem rX6_namedBy_20 : am_rw mX6_namedBy 20 = some (.getfield 61, 3, 8, 0) := by decide +kernel
theorem rX6_namedBy_23 : am_rw mX6_namedBy 23 = some (.getfield 65, 3, 2, 3) := by decide +kernel
theorem rX6_namedBy_26 : am_rw mX6_namedBy 26 = some (.goto 4, 3, 30, 0) := by decide +kernel
theorem rX6_namedBy_29 : am_rw mX6_namedBy 29 = some (.iconst 0, 1, 0, 0) := by decide +kernel
theorem rX6_namedBy_30 : am_rw mX6_namedBy 30 = some (.ireturn, 1, 0, 0) := by decide +kernel
theorem rX6_modelsOn_0 : am_rw mX6_modelsOn 0 = some (.iconst 0, 1, 0, 0) := by decide +kernel
theorem rX6_modelsOn_1 : am_rw mX6_modelsOn 1 = some (.istore_n 2, 1, 0, 0) := by decide +kernel
theorem rX6_modelsOn_2 : am_rw mX6_modelsOn 2 = some (.iconst 0, 1, 0, 0) := by decide +kernel
theorem rX6_modelsOn_3 : am_rw mX6_modelsOn 3 = some (.istore_n 3, 1, 0, 0) := by decide +kernel
theorem rX6_modelsOn_4 : am_rw mX6_modelsOn 4 = some (.iload_n 3, 1, 0, 0) := by decide +kernel
theorem rX6_modelsOn_5 : am_rw mX6_modelsOn 5 = some (.bipush 6, 2, 6, 0) := by decide +kernel
theorem rX6_modelsOn_7 : am_rw mX6_modelsOn 7 = some (.if_icmp .ge 23, 3, 30, 0) := by decide +kernel
theorem rX6_modelsOn_10 : am_rw mX6_modelsOn 10 = some (.iload_n 2, 1, 0, 0) := by decide +kernel
theorem rX6_modelsOn_11 : am_rw mX6_modelsOn 11 = some (.aload_n 0, 1, 0, 0) := by decide +kernel
theorem rX6_modelsOn_12 : am_rw mX6_modelsOn 12 = some (.iload_n 3, 1, 0, 0) := by decide +kernel
theorem rX6_modelsOn_13 : am_rw mX6_modelsOn 13 = some (.invokevirtual 70, 3, 44, 2) := by decide +kernel
theorem rX6_modelsOn_16 : am_rw mX6_modelsOn 16 = some (.iload_n 1, 1, 0, 0) := by decide +kernel
theorem rX6_modelsOn_17 : am_rw mX6_modelsOn 17 = some (.ishr, 1, 0, 0) := by decide +kernel
theorem rX6_modelsOn_18 : am_rw mX6_modelsOn 18 = some (.iconst 1, 1, 1, 0) := by decide +kernel
theorem rX6_modelsOn_19 : am_rw mX6_modelsOn 19 = some (.iand, 1, 0, 0) := by decide +kernel
theorem rX6_modelsOn_20 : am_rw mX6_modelsOn 20 = some (.iload_n 3, 1, 0, 0) := by decide +kernel
theorem rX6_modelsOn_21 : am_rw mX6_modelsOn 21 = some (.ishl, 1, 0, 0) := by decide +kernel
theorem rX6_modelsOn_22 : am_rw mX6_modelsOn 22 = some (.ior, 1, 0, 0) := by decide +kernel
theorem rX6_modelsOn_23 : am_rw mX6_modelsOn 23 = some (.istore_n 2, 1, 0, 0) := by decide +kernel
theorem rX6_modelsOn_24 : am_rw mX6_modelsOn 24 = some (.iinc 3 1, 3, 0, 0) := by decide +kernel
theorem rX6_modelsOn_27 : am_rw mX6_modelsOn 27 = some (.goto (-23), 3, 4, 0) := by decide +kernel
theorem rX6_modelsOn_30 : am_rw mX6_modelsOn 30 = some (.iload_n 2, 1, 0, 0) := by decide +kernel
theorem rX6_modelsOn_31 : am_rw mX6_modelsOn 31 = some (.ireturn, 1, 0, 0) := by decide +kernel
theorem rX6_mayTake_0 : am_rw mX6_mayTake 0 = some (.aload_n 0, 1, 0, 0) := by decide +kernel
theorem rX6_mayTake_1 : am_rw mX6_mayTake 1 = some (.iload_n 1, 1, 0, 0) := by decide +kernel
theorem rX6_mayTake_2 : am_rw mX6_mayTake 2 = some (.invokevirtual 73, 3, 46, 2) := by decide +kernel
theorem rX6_mayTake_5 : am_rw mX6_mayTake 5 = some (.istore_n 3, 1, 0, 0) := by decide +kernel
theorem rX6_mayTake_6 : am_rw mX6_mayTake 6 = some (.iload_n 3, 1, 0, 0) := by decide +kernel
theorem rX6_mayTake_7 : am_rw mX6_mayTake 7 = some (.iconst 1, 1, 1, 0) := by decide +kernel
theorem rX6_mayTake_8 : am_rw mX6_mayTake 8 = some (.iload_n 1, 1, 0, 0) := by decide +kernel
theorem rX6_mayTake_9 : am_rw mX6_mayTake 9 = some (.ishl, 1, 0, 0) := by decide +kernel
theorem rX6_mayTake_10 : am_rw mX6_mayTake 10 = some (.ior, 1, 0, 0) := by decide +kernel
theorem rX6_mayTake_11 : am_rw mX6_mayTake 11 = some (.aload_n 2, 1, 0, 0) := by decide +kernel
theorem rX6_mayTake_12 : am_rw mX6_mayTake 12 = some (.getfield 65, 3, 2, 3) := by decide +kernel
theorem rX6_mayTake_15 : am_rw mX6_mayTake 15 = some (.iand, 1, 0, 0) := by decide +kernel
theorem rX6_mayTake_16 : am_rw mX6_mayTake 16 = some (.ifCond .eq 5, 3, 21, 0) := by decide +kernel
theorem rX6_mayTake_19 : am_rw mX6_mayTake 19 = some (.iconst 0, 1, 0, 0) := by decide +kernel
theorem rX6_mayTake_20 : am_rw mX6_mayTake 20 = some (.ireturn, 1, 0, 0) := by decide +kernel
theorem rX6_mayTake_21 : am_rw mX6_mayTake 21 = some (.iconst 0, 1, 0, 0) := by decide +kernel
theorem rX6_mayTake_22 : am_rw mX6_mayTake 22 = some (.istore 4, 2, 0, 0) := by decide +kernel
theorem rX6_mayTake_24 : am_rw mX6_mayTake 24 = some (.iload 4, 2, 0, 0) := by decide +kernel
theorem rX6_mayTake_26 : am_rw mX6_mayTake 26 = some (.bipush 6, 2, 6, 0) := by decide +kernel
theorem rX6_mayTake_28 : am_rw mX6_mayTake 28 = some (.if_icmp .ge 33, 3, 61, 0) := by decide +kernel
theorem rX6_mayTake_31 : am_rw mX6_mayTake 31 = some (.aload_n 2, 1, 0, 0) := by decide +kernel
theorem rX6_mayTake_32 : am_rw mX6_mayTake 32 = some (.getfield 65, 3, 2, 3) := by decide +kernel
theorem rX6_mayTake_35 : am_rw mX6_mayTake 35 = some (.iload 4, 2, 0, 0) := by decide +kernel
theorem rX6_mayTake_37 : am_rw mX6_mayTake 37 = some (.ishr, 1, 0, 0) := by decide +kernel
theorem rX6_mayTake_38 : am_rw mX6_mayTake 38 = some (.iconst 1, 1, 1, 0) := by decide +kernel
theorem rX6_mayTake_39 : am_rw mX6_mayTake 39 = some (.iand, 1, 0, 0) := by decide +kernel
theorem rX6_mayTake_40 : am_rw mX6_mayTake 40 = some (.ifCond .eq 15, 3, 55, 0) := by decide +kernel
theorem rX6_mayTake_43 : am_rw mX6_mayTake 43 = some (.aload_n 0, 1, 0, 0) := by decide +kernel
theorem rX6_mayTake_44 : am_rw mX6_mayTake 44 = some (.iload 4, 2, 0, 0) := by decide +kernel
theorem rX6_mayTake_46 : am_rw mX6_mayTake 46 = some (.invokevirtual 45, 3, 39, 2) := by decide +kernel
theorem rX6_mayTake_49 : am_rw mX6_mayTake 49 = some (.iconst (-1), 1, 1, 1) := by decide +kernel
theorem rX6_mayTake_50 : am_rw mX6_mayTake 50 = some (.if_icmp .ne 5, 3, 55, 0) := by decide +kernel
theorem rX6_mayTake_53 : am_rw mX6_mayTake 53 = some (.iconst 0, 1, 0, 0) := by decide +kernel
theorem rX6_mayTake_54 : am_rw mX6_mayTake 54 = some (.ireturn, 1, 0, 0) := by decide +kernel
theorem rX6_mayTake_55 : am_rw mX6_mayTake 55 = some (.iinc 4 1, 3, 0, 0) := by decide +kernel
theorem rX6_mayTake_58 : am_rw mX6_mayTake 58 = some (.goto (-34), 3, 24, 0) := by decide +kernel
theorem rX6_mayTake_61 : am_rw mX6_mayTake 61 = some (.aload_n 0, 1, 0, 0) := by decide +kernel
theorem rX6_mayTake_62 : am_rw mX6_mayTake 62 = some (.getfield 33, 3, 6, 4) := by decide +kernel
theorem rX6_mayTake_65 : am_rw mX6_mayTake 65 = some (.iconst 1, 1, 1, 0) := by decide +kernel
theorem rX6_mayTake_66 : am_rw mX6_mayTake 66 = some (.iadd, 1, 0, 0) := by decide +kernel
theorem rX6_mayTake_67 : am_rw mX6_mayTake 67 = some (.iload_n 3, 1, 0, 0) := by decide +kernel
theorem rX6_mayTake_68 : am_rw mX6_mayTake 68 = some (.invokestatic 76, 3, 100, 1) := by decide +kernel
theorem rX6_mayTake_71 : am_rw mX6_mayTake 71 = some (.iadd, 1, 0, 0) := by decide +kernel
theorem rX6_mayTake_72 : am_rw mX6_mayTake 72 = some (.bipush 60, 2, 60, 0) := by decide +kernel
theorem rX6_mayTake_74 : am_rw mX6_mayTake 74 = some (.if_icmp .gt 7, 3, 81, 0) := by decide +kernel
theorem rX6_mayTake_77 : am_rw mX6_mayTake 77 = some (.iconst 1, 1, 1, 0) := by decide +kernel
theorem rX6_mayTake_78 : am_rw mX6_mayTake 78 = some (.goto 4, 3, 82, 0) := by decide +kernel
theorem rX6_mayTake_81 : am_rw mX6_mayTake 81 = some (.iconst 0, 1, 0, 0) := by decide +kernel
theorem rX6_mayTake_82 : am_rw mX6_mayTake 82 = some (.ireturn, 1, 0, 0) := by decide +kernel
theorem rX6_take_0 : am_rw mX6_take 0 = some (.aload_n 0, 1, 0, 0) := by decide +kernel
theorem rX6_take_1 : am_rw mX6_take 1 = some (.iload_n 1, 1, 0, 0) := by decide +kernel
theorem rX6_take_2 : am_rw mX6_take 2 = some (.aload_n 2, 1, 0, 0) := by decide +kernel
theorem rX6_take_3 : am_rw mX6_take 3 = some (.invokevirtual 81, 3, 49, 3) := by decide +kernel
theorem rX6_take_6 : am_rw mX6_take 6 = some (.istore_n 3, 1, 0, 0) := by decide +kernel
theorem rX6_take_7 : am_rw mX6_take 7 = some (.aload_n 0, 1, 0, 0) := by decide +kernel
theorem rX6_take_8 : am_rw mX6_take 8 = some (.invokevirtual 85, 3, 50, 1) := by decide +kernel
theorem rX6_take_11 : am_rw mX6_take 11 = some (.istore 4, 2, 0, 0) := by decide +kernel
theorem rX6_take_13 : am_rw mX6_take 13 = some (.iconst 0, 1, 0, 0) := by decide +kernel
theorem rX6_take_14 : am_rw mX6_take 14 = some (.istore 5, 2, 0, 0) := by decide +kernel
theorem rX6_take_16 : am_rw mX6_take 16 = some (.iload 5, 2, 0, 0) := by decide +kernel
theorem rX6_take_18 : am_rw mX6_take 18 = some (.bipush 6, 2, 6, 0) := by decide +kernel
theorem rX6_take_20 : am_rw mX6_take 20 = some (.if_icmp .ge 48, 3, 68, 0) := by decide +kernel
theorem rX6_take_23 : am_rw mX6_take 23 = some (.aload_n 0, 1, 0, 0) := by decide +kernel
theorem rX6_take_24 : am_rw mX6_take 24 = some (.iload 4, 2, 0, 0) := by decide +kernel
theorem rX6_take_26 : am_rw mX6_take 26 = some (.invokevirtual 38, 3, 38, 2) := by decide +kernel
theorem rX6_take_29 : am_rw mX6_take 29 = some (.ifCond .eq 39, 3, 68, 0) := by decide +kernel
theorem rX6_take_32 : am_rw mX6_take 32 = some (.aload_n 0, 1, 0, 0) := by decide +kernel
theorem rX6_take_33 : am_rw mX6_take 33 = some (.getfield 20, 3, 6, 1) := by decide +kernel
theorem rX6_take_36 : am_rw mX6_take 36 = some (.iload 4, 2, 0, 0) := by decide +kernel
theorem rX6_take_38 : am_rw mX6_take 38 = some (.aaload, 1, 0, 0) := by decide +kernel
theorem rX6_take_39 : am_rw mX6_take 39 = some (.astore 6, 2, 0, 0) := by decide +kernel
theorem rX6_take_41 : am_rw mX6_take 41 = some (.aload_n 0, 1, 0, 0) := by decide +kernel
theorem rX6_take_42 : am_rw mX6_take 42 = some (.aload 6, 2, 0, 0) := by decide +kernel
theorem rX6_take_44 : am_rw mX6_take 44 = some (.getfield 42, 3, 8, 3) := by decide +kernel
theorem rX6_take_47 : am_rw mX6_take 47 = some (.aload 6, 2, 0, 0) := by decide +kernel
theorem rX6_take_49 : am_rw mX6_take 49 = some (.getfield 61, 3, 8, 0) := by decide +kernel
theorem rX6_take_52 : am_rw mX6_take 52 = some (.invokevirtual 81, 3, 49, 3) := by decide +kernel
theorem rX6_take_55 : am_rw mX6_take 55 = some (.pop, 1, 0, 0) := by decide +kernel
theorem rX6_take_56 : am_rw mX6_take 56 = some (.aload_n 0, 1, 0, 0) := by decide +kernel
theorem rX6_take_57 : am_rw mX6_take 57 = some (.invokevirtual 85, 3, 50, 1) := by decide +kernel
theorem rX6_take_60 : am_rw mX6_take 60 = some (.istore 4, 2, 0, 0) := by decide +kernel
theorem rX6_take_62 : am_rw mX6_take 62 = some (.iinc 5 1, 3, 0, 0) := by decide +kernel
theorem rX6_take_65 : am_rw mX6_take 65 = some (.goto (-49), 3, 16, 0) := by decide +kernel
theorem rX6_take_68 : am_rw mX6_take 68 = some (.iload_n 3, 1, 0, 0) := by decide +kernel
theorem rX6_take_69 : am_rw mX6_take 69 = some (.ireturn, 1, 0, 0) := by decide +kernel
theorem rX6_shelve_0 : am_rw mX6_shelve 0 = some (.aload_n 0, 1, 0, 0) := by decide +kernel
theorem rX6_shelve_1 : am_rw mX6_shelve 1 = some (.getfield 33, 3, 6, 4) := by decide +kernel
theorem rX6_shelve_4 : am_rw mX6_shelve 4 = some (.ifCond .lt 22, 3, 26, 0) := by decide +kernel
theorem rX6_shelve_7 : am_rw mX6_shelve 7 = some (.aload_n 0, 1, 0, 0) := by decide +kernel
theorem rX6_shelve_8 : am_rw mX6_shelve 8 = some (.getfield 33, 3, 6, 4) := by decide +kernel
theorem rX6_shelve_11 : am_rw mX6_shelve 11 = some (.aload_n 0, 1, 0, 0) := by decide +kernel
theorem rX6_shelve_12 : am_rw mX6_shelve 12 = some (.getfield 20, 3, 6, 1) := by decide +kernel
theorem rX6_shelve_15 : am_rw mX6_shelve 15 = some (.arraylength, 1, 0, 0) := by decide +kernel
theorem rX6_shelve_16 : am_rw mX6_shelve 16 = some (.if_icmp .ge 10, 3, 26, 0) := by decide +kernel
theorem rX6_shelve_19 : am_rw mX6_shelve 19 = some (.iload_n 1, 1, 0, 0) := by decide +kernel
theorem rX6_shelve_20 : am_rw mX6_shelve 20 = some (.invokestatic 49, 3, 88, 1) := by decide +kernel
theorem rX6_shelve_23 : am_rw mX6_shelve 23 = some (.ifCond .ne 5, 3, 28, 0) := by decide +kernel
theorem rX6_shelve_26 : am_rw mX6_shelve 26 = some (.iconst (-1), 1, 1, 1) := by decide +kernel
theorem rX6_shelve_27 : am_rw mX6_shelve 27 = some (.ireturn, 1, 0, 0) := by decide +kernel
theorem rX6_shelve_28 : am_rw mX6_shelve 28 = some (.aload_n 0, 1, 0, 0) := by decide +kernel
theorem rX6_shelve_29 : am_rw mX6_shelve 29 = some (.getfield 20, 3, 6, 1) := by decide +kernel
theorem rX6_shelve_32 : am_rw mX6_shelve 32 = some (.aload_n 0, 1, 0, 0) := by decide +kernel
theorem rX6_shelve_33 : am_rw mX6_shelve 33 = some (.getfield 33, 3, 6, 4) := by decide +kernel
theorem rX6_shelve_36 : am_rw mX6_shelve 36 = some (.aaload, 1, 0, 0) := by decide +kernel
theorem rX6_shelve_37 : am_rw mX6_shelve 37 = some (.astore_n 3, 1, 0, 0) := by decide +kernel
theorem rX6_shelve_38 : am_rw mX6_shelve 38 = some (.aload_n 3, 1, 0, 0) := by decide +kernel
theorem rX6_shelve_39 : am_rw mX6_shelve 39 = some (.iload_n 1, 1, 0, 0) := by decide +kernel
theorem rX6_shelve_40 : am_rw mX6_shelve 40 = some (.putfield 42, 3, 8, 3) := by decide +kernel
theorem rX6_shelve_43 : am_rw mX6_shelve 43 = some (.aload_n 3, 1, 0, 0) := by decide +kernel
theorem rX6_shelve_44 : am_rw mX6_shelve 44 = some (.getfield 61, 3, 8, 0) := by decide +kernel
theorem rX6_shelve_47 : am_rw mX6_shelve 47 = some (.aload_n 2, 1, 0, 0) := by decide +kernel
theorem rX6_shelve_48 : am_rw mX6_shelve 48 = some (.invokevirtual 89, 3, 11, 2) := by decide +kernel
theorem rX6_shelve_51 : am_rw mX6_shelve 51 = some (.aload_n 3, 1, 0, 0) := by decide +kernel
theorem rX6_shelve_52 : am_rw mX6_shelve 52 = some (.aload_n 2, 1, 0, 0) := by decide +kernel
theorem rX6_shelve_53 : am_rw mX6_shelve 53 = some (.getfield 93, 3, 2, 4) := by decide +kernel
theorem rX6_shelve_56 : am_rw mX6_shelve 56 = some (.putfield 55, 3, 8, 4) := by decide +kernel
theorem rX6_shelve_59 : am_rw mX6_shelve 59 = some (.aload_n 3, 1, 0, 0) := by decide +kernel
theorem rX6_shelve_60 : am_rw mX6_shelve 60 = some (.lconst 1, 1, 0, 0) := by decide +kernel
theorem rX6_shelve_61 : am_rw mX6_shelve 61 = some (.aload_n 0, 1, 0, 0) := by decide +kernel
theorem rX6_shelve_62 : am_rw mX6_shelve 62 = some (.getfield 33, 3, 6, 4) := by decide +kernel
theorem rX6_shelve_65 : am_rw mX6_shelve 65 = some (.lshl, 1, 0, 0) := by decide +kernel
theorem rX6_shelve_66 : am_rw mX6_shelve 66 = some (.putfield 94, 3, 8, 5) := by decide +kernel
theorem rX6_shelve_69 : am_rw mX6_shelve 69 = some (.iconst 0, 1, 0, 0) := by decide +kernel
theorem rX6_shelve_70 : am_rw mX6_shelve 70 = some (.istore 4, 2, 0, 0) := by decide +kernel
theorem rX6_shelve_72 : am_rw mX6_shelve 72 = some (.iload 4, 2, 0, 0) := by decide +kernel
theorem rX6_shelve_74 : am_rw mX6_shelve 74 = some (.bipush 6, 2, 6, 0) := by decide +kernel
theorem rX6_shelve_76 : am_rw mX6_shelve 76 = some (.if_icmp .ge 89, 3, 165, 0) := by decide +kernel
theorem rX6_shelve_79 : am_rw mX6_shelve 79 = some (.aload_n 2, 1, 0, 0) := by decide +kernel
theorem rX6_shelve_80 : am_rw mX6_shelve 80 = some (.getfield 65, 3, 2, 3) := by decide +kernel
theorem rX6_shelve_83 : am_rw mX6_shelve 83 = some (.iload 4, 2, 0, 0) := by decide +kernel
theorem rX6_shelve_85 : am_rw mX6_shelve 85 = some (.ishr, 1, 0, 0) := by decide +kernel
theorem rX6_shelve_86 : am_rw mX6_shelve 86 = some (.iconst 1, 1, 1, 0) := by decide +kernel
theorem rX6_shelve_87 : am_rw mX6_shelve 87 = some (.iand, 1, 0, 0) := by decide +kernel
theorem rX6_shelve_88 : am_rw mX6_shelve 88 = some (.ifCond .eq 12, 3, 100, 0) := by decide +kernel
theorem rX6_shelve_91 : am_rw mX6_shelve 91 = some (.aload_n 0, 1, 0, 0) := by decide +kernel
theorem rX6_shelve_92 : am_rw mX6_shelve 92 = some (.iload 4, 2, 0, 0) := by decide +kernel
theorem rX6_shelve_94 : am_rw mX6_shelve 94 = some (.invokevirtual 45, 3, 39, 2) := by decide +kernel
theorem rX6_shelve_97 : am_rw mX6_shelve 97 = some (.goto 4, 3, 101, 0) := by decide +kernel
theorem rX6_shelve_100 : am_rw mX6_shelve 100 = some (.iconst (-1), 1, 1, 1) := by decide +kernel
theorem rX6_shelve_101 : am_rw mX6_shelve 101 = some (.istore 5, 2, 0, 0) := by decide +kernel
theorem rX6_shelve_103 : am_rw mX6_shelve 103 = some (.aload_n 3, 1, 0, 0) := by decide +kernel
theorem rX6_shelve_104 : am_rw mX6_shelve 104 = some (.getfield 52, 3, 8, 1) := by decide +kernel
theorem rX6_shelve_107 : am_rw mX6_shelve 107 = some (.iload 4, 2, 0, 0) := by decide +kernel
theorem rX6_shelve_109 : am_rw mX6_shelve 109 = some (.iload 5, 2, 0, 0) := by decide +kernel
theorem rX6_shelve_111 : am_rw mX6_shelve 111 = some (.iastore, 1, 0, 0) := by decide +kernel
theorem rX6_shelve_112 : am_rw mX6_shelve 112 = some (.aload_n 0, 1, 0, 0) := by decide +kernel
theorem rX6_shelve_113 : am_rw mX6_shelve 113 = some (.iload 5, 2, 0, 0) := by decide +kernel
theorem rX6_shelve_115 : am_rw mX6_shelve 115 = some (.invokevirtual 38, 3, 38, 2) := by decide +kernel
theorem rX6_shelve_118 : am_rw mX6_shelve 118 = some (.ifCond .eq 41, 3, 159, 0) := by decide +kernel
theorem rX6_shelve_121 : am_rw mX6_shelve 121 = some (.aload_n 3, 1, 0, 0) := by decide +kernel
theorem rX6_shelve_122 : am_rw mX6_shelve 122 = some (.dup, 1, 0, 0) := by decide +kernel
theorem rX6_shelve_123 : am_rw mX6_shelve 123 = some (.getfield 55, 3, 8, 4) := by decide +kernel
theorem rX6_shelve_126 : am_rw mX6_shelve 126 = some (.aload_n 0, 1, 0, 0) := by decide +kernel
theorem rX6_shelve_127 : am_rw mX6_shelve 127 = some (.getfield 20, 3, 6, 1) := by decide +kernel
theorem rX6_shelve_130 : am_rw mX6_shelve 130 = some (.iload 5, 2, 0, 0) := by decide +kernel
theorem rX6_shelve_132 : am_rw mX6_shelve 132 = some (.aaload, 1, 0, 0) := by decide +kernel
theorem rX6_shelve_133 : am_rw mX6_shelve 133 = some (.getfield 55, 3, 8, 4) := by decide +kernel
theorem rX6_shelve_136 : am_rw mX6_shelve 136 = some (.ior, 1, 0, 0) := by decide +kernel
theorem rX6_shelve_137 : am_rw mX6_shelve 137 = some (.putfield 55, 3, 8, 4) := by decide +kernel
theorem rX6_shelve_140 : am_rw mX6_shelve 140 = some (.aload_n 3, 1, 0, 0) := by decide +kernel
theorem rX6_shelve_141 : am_rw mX6_shelve 141 = some (.dup, 1, 0, 0) := by decide +kernel
theorem rX6_shelve_142 : am_rw mX6_shelve 142 = some (.getfield 94, 3, 8, 5) := by decide +kernel
theorem rX6_shelve_145 : am_rw mX6_shelve 145 = some (.aload_n 0, 1, 0, 0) := by decide +kernel
theorem rX6_shelve_146 : am_rw mX6_shelve 146 = some (.getfield 20, 3, 6, 1) := by decide +kernel
theorem rX6_shelve_149 : am_rw mX6_shelve 149 = some (.iload 5, 2, 0, 0) := by decide +kernel
theorem rX6_shelve_151 : am_rw mX6_shelve 151 = some (.aaload, 1, 0, 0) := by decide +kernel
theorem rX6_shelve_152 : am_rw mX6_shelve 152 = some (.getfield 94, 3, 8, 5) := by decide +kernel
theorem rX6_shelve_155 : am_rw mX6_shelve 155 = some (.lor, 1, 0, 0) := by decide +kernel
theorem rX6_shelve_156 : am_rw mX6_shelve 156 = some (.putfield 94, 3, 8, 5) := by decide +kernel
theorem rX6_shelve_159 : am_rw mX6_shelve 159 = some (.iinc 4 1, 3, 0, 0) := by decide +kernel
theorem rX6_shelve_162 : am_rw mX6_shelve 162 = some (.goto (-90), 3, 72, 0) := by decide +kernel
theorem rX6_shelve_165 : am_rw mX6_shelve 165 = some (.aload_n 0, 1, 0, 0) := by decide +kernel
theorem rX6_shelve_166 : am_rw mX6_shelve 166 = some (.getfield 24, 3, 6, 2) := by decide +kernel
theorem rX6_shelve_169 : am_rw mX6_shelve 169 = some (.iload_n 1, 1, 0, 0) := by decide +kernel
theorem rX6_shelve_170 : am_rw mX6_shelve 170 = some (.aload_n 0, 1, 0, 0) := by decide +kernel
theorem rX6_shelve_171 : am_rw mX6_shelve 171 = some (.getfield 33, 3, 6, 4) := by decide +kernel
theorem rX6_shelve_174 : am_rw mX6_shelve 174 = some (.iastore, 1, 0, 0) := by decide +kernel
theorem rX6_shelve_175 : am_rw mX6_shelve 175 = some (.aload_n 0, 1, 0, 0) := by decide +kernel
theorem rX6_shelve_176 : am_rw mX6_shelve 176 = some (.dup, 1, 0, 0) := by decide +kernel
theorem rX6_shelve_177 : am_rw mX6_shelve 177 = some (.getfield 33, 3, 6, 4) := by decide +kernel
theorem rX6_shelve_180 : am_rw mX6_shelve 180 = some (.iconst 1, 1, 1, 0) := by decide +kernel
theorem rX6_shelve_181 : am_rw mX6_shelve 181 = some (.iadd, 1, 0, 0) := by decide +kernel
theorem rX6_shelve_182 : am_rw mX6_shelve 182 = some (.putfield 33, 3, 6, 4) := by decide +kernel
theorem rX6_shelve_185 : am_rw mX6_shelve 185 = some (.aload_n 0, 1, 0, 0) := by decide +kernel
theorem rX6_shelve_186 : am_rw mX6_shelve 186 = some (.getfield 33, 3, 6, 4) := by decide +kernel
theorem rX6_shelve_189 : am_rw mX6_shelve 189 = some (.iconst 1, 1, 1, 0) := by decide +kernel
theorem rX6_shelve_190 : am_rw mX6_shelve 190 = some (.isub, 1, 0, 0) := by decide +kernel
theorem rX6_shelve_191 : am_rw mX6_shelve 191 = some (.ireturn, 1, 0, 0) := by decide +kernel
theorem rX6_nextToBind_0 : am_rw mX6_nextToBind 0 = some (.iconst 0, 1, 0, 0) := by decide +kernel
theorem rX6_nextToBind_1 : am_rw mX6_nextToBind 1 = some (.istore_n 1, 1, 0, 0) := by decide +kernel
theorem rX6_nextToBind_2 : am_rw mX6_nextToBind 2 = some (.iconst 0, 1, 0, 0) := by decide +kernel
theorem rX6_nextToBind_3 : am_rw mX6_nextToBind 3 = some (.istore_n 2, 1, 0, 0) := by decide +kernel
theorem rX6_nextToBind_4 : am_rw mX6_nextToBind 4 = some (.iload_n 2, 1, 0, 0) := by decide +kernel
theorem rX6_nextToBind_5 : am_rw mX6_nextToBind 5 = some (.bipush 6, 2, 6, 0) := by decide +kernel
theorem rX6_nextToBind_7 : am_rw mX6_nextToBind 7 = some (.if_icmp .ge 31, 3, 38, 0) := by decide +kernel
theorem rX6_nextToBind_10 : am_rw mX6_nextToBind 10 = some (.iload_n 1, 1, 0, 0) := by decide +kernel
theorem rX6_nextToBind_11 : am_rw mX6_nextToBind 11 = some (.aload_n 0, 1, 0, 0) := by decide +kernel
theorem rX6_nextToBind_12 : am_rw mX6_nextToBind 12 = some (.aload_n 0, 1, 0, 0) := by decide +kernel
theorem rX6_nextToBind_13 : am_rw mX6_nextToBind 13 = some (.iload_n 2, 1, 0, 0) := by decide +kernel
theorem rX6_nextToBind_14 : am_rw mX6_nextToBind 14 = some (.invokevirtual 45, 3, 39, 2) := by decide +kernel
theorem rX6_nextToBind_17 : am_rw mX6_nextToBind 17 = some (.invokevirtual 98, 3, 51, 2) := by decide +kernel
theorem rX6_nextToBind_20 : am_rw mX6_nextToBind 20 = some (.ifCond .eq 9, 3, 29, 0) := by decide +kernel
theorem rX6_nextToBind_23 : am_rw mX6_nextToBind 23 = some (.iconst 1, 1, 1, 0) := by decide +kernel
theorem rX6_nextToBind_24 : am_rw mX6_nextToBind 24 = some (.iload_n 2, 1, 0, 0) := by decide +kernel
theorem rX6_nextToBind_25 : am_rw mX6_nextToBind 25 = some (.ishl, 1, 0, 0) := by decide +kernel
theorem rX6_nextToBind_26 : am_rw mX6_nextToBind 26 = some (.goto 4, 3, 30, 0) := by decide +kernel
theorem rX6_nextToBind_29 : am_rw mX6_nextToBind 29 = some (.iconst 0, 1, 0, 0) := by decide +kernel
theorem rX6_nextToBind_30 : am_rw mX6_nextToBind 30 = some (.ior, 1, 0, 0) := by decide +kernel
theorem rX6_nextToBind_31 : am_rw mX6_nextToBind 31 = some (.istore_n 1, 1, 0, 0) := by decide +kernel
theorem rX6_nextToBind_32 : am_rw mX6_nextToBind 32 = some (.iinc 2 1, 3, 0, 0) := by decide +kernel
theorem rX6_nextToBind_35 : am_rw mX6_nextToBind 35 = some (.goto (-31), 3, 4, 0) := by decide +kernel
theorem rX6_nextToBind_38 : am_rw mX6_nextToBind 38 = some (.iconst 0, 1, 0, 0) := by decide +kernel
theorem rX6_nextToBind_39 : am_rw mX6_nextToBind 39 = some (.istore_n 2, 1, 0, 0) := by decide +kernel
theorem rX6_nextToBind_40 : am_rw mX6_nextToBind 40 = some (.iload_n 2, 1, 0, 0) := by decide +kernel
theorem rX6_nextToBind_41 : am_rw mX6_nextToBind 41 = some (.bipush 6, 2, 6, 0) := by decide +kernel
theorem rX6_nextToBind_43 : am_rw mX6_nextToBind 43 = some (.if_icmp .ge 33, 3, 76, 0) := by decide +kernel
theorem rX6_nextToBind_46 : am_rw mX6_nextToBind 46 = some (.iload_n 1, 1, 0, 0) := by decide +kernel
theorem rX6_nextToBind_47 : am_rw mX6_nextToBind 47 = some (.iload_n 2, 1, 0, 0) := by decide +kernel
theorem rX6_nextToBind_48 : am_rw mX6_nextToBind 48 = some (.ishr, 1, 0, 0) := by decide +kernel
theorem rX6_nextToBind_49 : am_rw mX6_nextToBind 49 = some (.iconst 1, 1, 1, 0) := by decide +kernel
theorem rX6_nextToBind_50 : am_rw mX6_nextToBind 50 = some (.iand, 1, 0, 0) := by decide +kernel
theorem rX6_nextToBind_51 : am_rw mX6_nextToBind 51 = some (.ifCond .eq 19, 3, 70, 0) := by decide +kernel
theorem rX6_nextToBind_54 : am_rw mX6_nextToBind 54 = some (.aload_n 0, 1, 0, 0) := by decide +kernel
theorem rX6_nextToBind_55 : am_rw mX6_nextToBind 55 = some (.iload_n 2, 1, 0, 0) := by decide +kernel
theorem rX6_nextToBind_56 : am_rw mX6_nextToBind 56 = some (.invokevirtual 70, 3, 44, 2) := by decide +kernel
theorem rX6_nextToBind_59 : am_rw mX6_nextToBind 59 = some (.iload_n 1, 1, 0, 0) := by decide +kernel
theorem rX6_nextToBind_60 : am_rw mX6_nextToBind 60 = some (.iand, 1, 0, 0) := by decide +kernel
theorem rX6_nextToBind_61 : am_rw mX6_nextToBind 61 = some (.ifCond .ne 9, 3, 70, 0) := by decide +kernel
theorem rX6_nextToBind_64 : am_rw mX6_nextToBind 64 = some (.aload_n 0, 1, 0, 0) := by decide +kernel
theorem rX6_nextToBind_65 : am_rw mX6_nextToBind 65 = some (.iload_n 2, 1, 0, 0) := by decide +kernel
theorem rX6_nextToBind_66 : am_rw mX6_nextToBind 66 = some (.invokevirtual 45, 3, 39, 2) := by decide +kernel
theorem rX6_nextToBind_69 : am_rw mX6_nextToBind 69 = some (.ireturn, 1, 0, 0) := by decide +kernel
theorem rX6_nextToBind_70 : am_rw mX6_nextToBind 70 = some (.iinc 2 1, 3, 0, 0) := by decide +kernel
theorem rX6_nextToBind_73 : am_rw mX6_nextToBind 73 = some (.goto (-33), 3, 40, 0) := by decide +kernel
theorem rX6_nextToBind_76 : am_rw mX6_nextToBind 76 = some (.iconst (-1), 1, 1, 1) := by decide +kernel
theorem rX6_nextToBind_77 : am_rw mX6_nextToBind 77 = some (.ireturn, 1, 0, 0) := by decide +kernel
theorem rX6_pinsOld_0 : am_rw mX6_pinsOld 0 = some (.iconst 0, 1, 0, 0) := by decide +kernel
theorem rX6_pinsOld_1 : am_rw mX6_pinsOld 1 = some (.istore_n 2, 1, 0, 0) := by decide +kernel
theorem rX6_pinsOld_2 : am_rw mX6_pinsOld 2 = some (.iload_n 2, 1, 0, 0) := by decide +kernel
theorem rX6_pinsOld_3 : am_rw mX6_pinsOld 3 = some (.bipush 6, 2, 6, 0) := by decide +kernel
theorem rX6_pinsOld_5 : am_rw mX6_pinsOld 5 = some (.if_icmp .ge 32, 3, 37, 0) := by decide +kernel
theorem rX6_pinsOld_8 : am_rw mX6_pinsOld 8 = some (.aload_n 0, 1, 0, 0) := by decide +kernel
theorem rX6_pinsOld_9 : am_rw mX6_pinsOld 9 = some (.iload_n 1, 1, 0, 0) := by decide +kernel
theorem rX6_pinsOld_10 : am_rw mX6_pinsOld 10 = some (.iload_n 2, 1, 0, 0) := by decide +kernel
theorem rX6_pinsOld_11 : am_rw mX6_pinsOld 11 = some (.invokevirtual 101, 3, 42, 3) := by decide +kernel
theorem rX6_pinsOld_14 : am_rw mX6_pinsOld 14 = some (.istore_n 3, 1, 0, 0) := by decide +kernel
theorem rX6_pinsOld_15 : am_rw mX6_pinsOld 15 = some (.iload_n 3, 1, 0, 0) := by decide +kernel
theorem rX6_pinsOld_16 : am_rw mX6_pinsOld 16 = some (.iconst (-1), 1, 1, 1) := by decide +kernel
theorem rX6_pinsOld_17 : am_rw mX6_pinsOld 17 = some (.if_icmp .eq 14, 3, 31, 0) := by decide +kernel
theorem rX6_pinsOld_20 : am_rw mX6_pinsOld 20 = some (.iload_n 3, 1, 0, 0) := by decide +kernel
theorem rX6_pinsOld_21 : am_rw mX6_pinsOld 21 = some (.aload_n 0, 1, 0, 0) := by decide +kernel
theorem rX6_pinsOld_22 : am_rw mX6_pinsOld 22 = some (.iload_n 2, 1, 0, 0) := by decide +kernel
theorem rX6_pinsOld_23 : am_rw mX6_pinsOld 23 = some (.invokevirtual 45, 3, 39, 2) := by decide +kernel
theorem rX6_pinsOld_26 : am_rw mX6_pinsOld 26 = some (.if_icmp .eq 5, 3, 31, 0) := by decide +kernel
theorem rX6_pinsOld_29 : am_rw mX6_pinsOld 29 = some (.iconst 1, 1, 1, 0) := by decide +kernel
theorem rX6_pinsOld_30 : am_rw mX6_pinsOld 30 = some (.ireturn, 1, 0, 0) := by decide +kernel
theorem rX6_pinsOld_31 : am_rw mX6_pinsOld 31 = some (.iinc 2 1, 3, 0, 0) := by decide +kernel
theorem rX6_pinsOld_34 : am_rw mX6_pinsOld 34 = some (.goto (-32), 3, 2, 0) := by decide +kernel
theorem rX6_pinsOld_37 : am_rw mX6_pinsOld 37 = some (.iconst 0, 1, 0, 0) := by decide +kernel
theorem rX6_pinsOld_38 : am_rw mX6_pinsOld 38 = some (.ireturn, 1, 0, 0) := by decide +kernel
theorem rX6_giveUp_0 : am_rw mX6_giveUp 0 = some (.aload_n 0, 1, 0, 0) := by decide +kernel
theorem rX6_giveUp_1 : am_rw mX6_giveUp 1 = some (.iload_n 1, 1, 0, 0) := by decide +kernel
theorem rX6_giveUp_2 : am_rw mX6_giveUp 2 = some (.invokevirtual 45, 3, 39, 2) := by decide +kernel
theorem rX6_giveUp_5 : am_rw mX6_giveUp 5 = some (.istore_n 2, 1, 0, 0) := by decide +kernel
theorem rX6_giveUp_6 : am_rw mX6_giveUp 6 = some (.iload_n 1, 1, 0, 0) := by decide +kernel
theorem rX6_giveUp_7 : am_rw mX6_giveUp 7 = some (.invokestatic 49, 3, 88, 1) := by decide +kernel
theorem rX6_giveUp_10 : am_rw mX6_giveUp 10 = some (.ifCond .eq 10, 3, 20, 0) := by decide +kernel
theorem rX6_giveUp_13 : am_rw mX6_giveUp 13 = some (.aload_n 0, 1, 0, 0) := by decide +kernel
theorem rX6_giveUp_14 : am_rw mX6_giveUp 14 = some (.getfield 24, 3, 6, 2) := by decide +kernel
theorem rX6_giveUp_17 : am_rw mX6_giveUp 17 = some (.iload_n 1, 1, 0, 0) := by decide +kernel
theorem rX6_giveUp_18 : am_rw mX6_giveUp 18 = some (.iconst (-1), 1, 1, 1) := by decide +kernel
theorem rX6_giveUp_19 : am_rw mX6_giveUp 19 = some (.iastore, 1, 0, 0) := by decide +kernel
theorem rX6_giveUp_20 : am_rw mX6_giveUp 20 = some (.iload_n 2, 1, 0, 0) := by decide +kernel
theorem rX6_giveUp_21 : am_rw mX6_giveUp 21 = some (.ireturn, 1, 0, 0) := by decide +kernel
theorem rX6_tellRain_0 : am_rw mX6_tellRain 0 = some (.iload_n 1, 1, 0, 0) := by decide +kernel
theorem rX6_tellRain_1 : am_rw mX6_tellRain 1 = some (.ifCond .lt 15, 3, 16, 0) := by decide +kernel
theorem rX6_tellRain_4 : am_rw mX6_tellRain 4 = some (.iload_n 1, 1, 0, 0) := by decide +kernel
theorem rX6_tellRain_5 : am_rw mX6_tellRain 5 = some (.iconst 3, 1, 3, 0) := by decide +kernel
theorem rX6_tellRain_6 : am_rw mX6_tellRain 6 = some (.if_icmp .ge 10, 3, 16, 0) := by decide +kernel
theorem rX6_tellRain_9 : am_rw mX6_tellRain 9 = some (.iload_n 2, 1, 0, 0) := by decide +kernel
theorem rX6_tellRain_10 : am_rw mX6_tellRain 10 = some (.invokestatic 105, 3, 89, 1) := by decide +kernel
theorem rX6_tellRain_13 : am_rw mX6_tellRain 13 = some (.ifCond .ne 5, 3, 18, 0) := by decide +kernel
theorem rX6_tellRain_16 : am_rw mX6_tellRain 16 = some (.iconst 0, 1, 0, 0) := by decide +kernel
theorem rX6_tellRain_17 : am_rw mX6_tellRain 17 = some (.ireturn, 1, 0, 0) := by decide +kernel
theorem rX6_tellRain_18 : am_rw mX6_tellRain 18 = some (.aload_n 0, 1, 0, 0) := by decide +kernel
theorem rX6_tellRain_19 : am_rw mX6_tellRain 19 = some (.getfield 30, 3, 6, 3) := by decide +kernel
theorem rX6_tellRain_22 : am_rw mX6_tellRain 22 = some (.iload_n 1, 1, 0, 0) := by decide +kernel
theorem rX6_tellRain_23 : am_rw mX6_tellRain 23 = some (.aaload, 1, 0, 0) := by decide +kernel
theorem rX6_tellRain_24 : am_rw mX6_tellRain 24 = some (.iload_n 2, 1, 0, 0) := by decide +kernel
theorem rX6_tellRain_25 : am_rw mX6_tellRain 25 = some (.iaload, 1, 0, 0) := by decide +kernel
theorem rX6_tellRain_26 : am_rw mX6_tellRain 26 = some (.istore 4, 2, 0, 0) := by decide +kernel
theorem rX6_tellRain_28 : am_rw mX6_tellRain 28 = some (.aload_n 0, 1, 0, 0) := by decide +kernel
theorem rX6_tellRain_29 : am_rw mX6_tellRain 29 = some (.getfield 30, 3, 6, 3) := by decide +kernel
theorem rX6_tellRain_32 : am_rw mX6_tellRain 32 = some (.iload_n 1, 1, 0, 0) := by decide +kernel
theorem rX6_tellRain_33 : am_rw mX6_tellRain 33 = some (.aaload, 1, 0, 0) := by decide +kernel
theorem rX6_tellRain_34 : am_rw mX6_tellRain 34 = some (.iload_n 2, 1, 0, 0) := by decide +kernel
theorem rX6_tellRain_35 : am_rw mX6_tellRain 35 = some (.iload_n 3, 1, 0, 0) := by decide +kernel
theorem rX6_tellRain_36 : am_rw mX6_tellRain 36 = some (.iastore, 1, 0, 0) := by decide +kernel
theorem rX6_tellRain_37 : am_rw mX6_tellRain 37 = some (.iconst 0, 1, 0, 0) := by decide +kernel
theorem rX6_tellRain_38 : am_rw mX6_tellRain 38 = some (.istore 5, 2, 0, 0) := by decide +kernel
theorem rX6_tellRain_40 : am_rw mX6_tellRain 40 = some (.iload 5, 2, 0, 0) := by decide +kernel
theorem rX6_tellRain_42 : am_rw mX6_tellRain 42 = some (.aload_n 0, 1, 0, 0) := by decide +kernel
theorem rX6_tellRain_43 : am_rw mX6_tellRain 43 = some (.getfield 33, 3, 6, 4) := by decide +kernel
theorem rX6_tellRain_46 : am_rw mX6_tellRain 46 = some (.if_icmp .ge 61, 3, 107, 0) := by decide +kernel
theorem rX6_tellRain_49 : am_rw mX6_tellRain 49 = some (.iload 5, 2, 0, 0) := by decide +kernel
theorem rX6_tellRain_51 : am_rw mX6_tellRain 51 = some (.aload_n 0, 1, 0, 0) := by decide +kernel
theorem rX6_tellRain_52 : am_rw mX6_tellRain 52 = some (.getfield 20, 3, 6, 1) := by decide +kernel
theorem rX6_tellRain_55 : am_rw mX6_tellRain 55 = some (.arraylength, 1, 0, 0) := by decide +kernel
theorem rX6_tellRain_56 : am_rw mX6_tellRain 56 = some (.if_icmp .ge 51, 3, 107, 0) := by decide +kernel
theorem rX6_tellRain_59 : am_rw mX6_tellRain 59 = some (.iload 4, 2, 0, 0) := by decide +kernel
theorem rX6_tellRain_61 : am_rw mX6_tellRain 61 = some (.iload_n 3, 1, 0, 0) := by decide +kernel
theorem rX6_tellRain_62 : am_rw mX6_tellRain 62 = some (.if_icmp .eq 45, 3, 107, 0) := by decide +kernel
theorem rX6_tellRain_65 : am_rw mX6_tellRain 65 = some (.aload_n 0, 1, 0, 0) := by decide +kernel
theorem rX6_tellRain_66 : am_rw mX6_tellRain 66 = some (.getfield 20, 3, 6, 1) := by decide +kernel
theorem rX6_tellRain_69 : am_rw mX6_tellRain 69 = some (.iload 5, 2, 0, 0) := by decide +kernel
theorem rX6_tellRain_71 : am_rw mX6_tellRain 71 = some (.aaload, 1, 0, 0) := by decide +kernel
theorem rX6_tellRain_72 : am_rw mX6_tellRain 72 = some (.astore 6, 2, 0, 0) := by decide +kernel
theorem rX6_tellRain_74 : am_rw mX6_tellRain 74 = some (.aload 6, 2, 0, 0) := by decide +kernel
theorem rX6_tellRain_76 : am_rw mX6_tellRain 76 = some (.getfield 55, 3, 8, 4) := by decide +kernel
theorem rX6_tellRain_79 : am_rw mX6_tellRain 79 = some (.iload_n 1, 1, 0, 0) := by decide +kernel
theorem rX6_tellRain_80 : am_rw mX6_tellRain 80 = some (.ishr, 1, 0, 0) := by decide +kernel
theorem rX6_tellRain_81 : am_rw mX6_tellRain 81 = some (.iconst 1, 1, 1, 0) := by decide +kernel
theorem rX6_tellRain_82 : am_rw mX6_tellRain 82 = some (.iand, 1, 0, 0) := by decide +kernel
theorem rX6_tellRain_83 : am_rw mX6_tellRain 83 = some (.ifCond .eq 18, 3, 101, 0) := by decide +kernel
theorem rX6_tellRain_86 : am_rw mX6_tellRain 86 = some (.aload 6, 2, 0, 0) := by decide +kernel
theorem rX6_tellRain_88 : am_rw mX6_tellRain 88 = some (.getfield 108, 3, 8, 6) := by decide +kernel
theorem rX6_tellRain_91 : am_rw mX6_tellRain 91 = some (.iload_n 2, 1, 0, 0) := by decide +kernel
theorem rX6_tellRain_92 : am_rw mX6_tellRain 92 = some (.if_icmp .le 9, 3, 101, 0) := by decide +kernel
theorem rX6_tellRain_95 : am_rw mX6_tellRain 95 = some (.aload 6, 2, 0, 0) := by decide +kernel
theorem rX6_tellRain_97 : am_rw mX6_tellRain 97 = some (.iload_n 2, 1, 0, 0) := by decide +kernel
theorem rX6_tellRain_98 : am_rw mX6_tellRain 98 = some (.putfield 108, 3, 8, 6) := by decide +kernel
theorem rX6_tellRain_101 : am_rw mX6_tellRain 101 = some (.iinc 5 1, 3, 0, 0) := by decide +kernel
theorem rX6_tellRain_104 : am_rw mX6_tellRain 104 = some (.goto (-64), 3, 40, 0) := by decide +kernel
theorem rX6_tellRain_107 : am_rw mX6_tellRain 107 = some (.iload 4, 2, 0, 0) := by decide +kernel
theorem rX6_tellRain_109 : am_rw mX6_tellRain 109 = some (.ireturn, 1, 0, 0) := by decide +kernel
theorem rX6_forget_0 : am_rw mX6_forget 0 = some (.aload_n 0, 1, 0, 0) := by decide +kernel
theorem rX6_forget_1 : am_rw mX6_forget 1 = some (.iload_n 1, 1, 0, 0) := by decide +kernel
theorem rX6_forget_2 : am_rw mX6_forget 2 = some (.invokevirtual 38, 3, 38, 2) := by decide +kernel
theorem rX6_forget_5 : am_rw mX6_forget 5 = some (.ifCond .ne 4, 3, 9, 0) := by decide +kernel
theorem rX6_forget_8 : am_rw mX6_forget 8 = some (.return_, 1, 0, 0) := by decide +kernel
theorem rX6_forget_9 : am_rw mX6_forget 9 = some (.iconst 0, 1, 0, 0) := by decide +kernel
theorem rX6_forget_10 : am_rw mX6_forget 10 = some (.istore_n 2, 1, 0, 0) := by decide +kernel
theorem rX6_forget_11 : am_rw mX6_forget 11 = some (.iload_n 2, 1, 0, 0) := by decide +kernel
theorem rX6_forget_12 : am_rw mX6_forget 12 = some (.iload_n 1, 1, 0, 0) := by decide +kernel
theorem rX6_forget_13 : am_rw mX6_forget 13 = some (.if_icmp .gt 37, 3, 50, 0) := by decide +kernel
theorem rX6_forget_16 : am_rw mX6_forget 16 = some (.aload_n 0, 1, 0, 0) := by decide +kernel
theorem rX6_forget_17 : am_rw mX6_forget 17 = some (.getfield 20, 3, 6, 1) := by decide +kernel
theorem rX6_forget_20 : am_rw mX6_forget 20 = some (.iload_n 1, 1, 0, 0) := by decide +kernel
theorem rX6_forget_21 : am_rw mX6_forget 21 = some (.aaload, 1, 0, 0) := by decide +kernel
theorem rX6_forget_22 : am_rw mX6_forget 22 = some (.getfield 94, 3, 8, 5) := by decide +kernel
theorem rX6_forget_25 : am_rw mX6_forget 25 = some (.iload_n 2, 1, 0, 0) := by decide +kernel
theorem rX6_forget_26 : am_rw mX6_forget 26 = some (.lshr, 1, 0, 0) := by decide +kernel
theorem rX6_forget_27 : am_rw mX6_forget 27 = some (.lconst 1, 1, 0, 0) := by decide +kernel
theorem rX6_forget_28 : am_rw mX6_forget 28 = some (.land, 1, 0, 0) := by decide +kernel
theorem rX6_forget_29 : am_rw mX6_forget 29 = some (.lconst 0, 1, 0, 0) := by decide +kernel
theorem rX6_forget_30 : am_rw mX6_forget 30 = some (.lcmp, 1, 0, 0) := by decide +kernel
theorem rX6_forget_31 : am_rw mX6_forget 31 = some (.ifCond .eq 13, 3, 44, 0) := by decide +kernel
theorem rX6_forget_34 : am_rw mX6_forget 34 = some (.aload_n 0, 1, 0, 0) := by decide +kernel
theorem rX6_forget_35 : am_rw mX6_forget 35 = some (.getfield 20, 3, 6, 1) := by decide +kernel
theorem rX6_forget_38 : am_rw mX6_forget 38 = some (.iload_n 2, 1, 0, 0) := by decide +kernel
theorem rX6_forget_39 : am_rw mX6_forget 39 = some (.aaload, 1, 0, 0) := by decide +kernel
theorem rX6_forget_40 : am_rw mX6_forget 40 = some (.iconst 0, 1, 0, 0) := by decide +kernel
theorem rX6_forget_41 : am_rw mX6_forget 41 = some (.putfield 108, 3, 8, 6) := by decide +kernel
theorem rX6_forget_44 : am_rw mX6_forget 44 = some (.iinc 2 1, 3, 0, 0) := by decide +kernel
theorem rX6_forget_47 : am_rw mX6_forget 47 = some (.goto (-36), 3, 11, 0) := by decide +kernel
theorem rX6_forget_50 : am_rw mX6_forget 50 = some (.return_, 1, 0, 0) := by decide +kernel
theorem rX6_outputOf_0 : am_rw mX6_outputOf 0 = some (.aload_n 0, 1, 0, 0) := by decide +kernel
theorem rX6_outputOf_1 : am_rw mX6_outputOf 1 = some (.iload_n 1, 1, 0, 0) := by decide +kernel
theorem rX6_outputOf_2 : am_rw mX6_outputOf 2 = some (.invokevirtual 38, 3, 38, 2) := by decide +kernel
theorem rX6_outputOf_5 : am_rw mX6_outputOf 5 = some (.ifCond .eq 10, 3, 15, 0) := by decide +kernel
theorem rX6_outputOf_8 : am_rw mX6_outputOf 8 = some (.iload_n 2, 1, 0, 0) := by decide +kernel
theorem rX6_outputOf_9 : am_rw mX6_outputOf 9 = some (.invokestatic 105, 3, 89, 1) := by decide +kernel
theorem rX6_outputOf_12 : am_rw mX6_outputOf 12 = some (.ifCond .ne 5, 3, 17, 0) := by decide +kernel
theorem rX6_outputOf_15 : am_rw mX6_outputOf 15 = some (.fconst 0, 1, 0, 0) := by decide +kernel
theorem rX6_outputOf_16 : am_rw mX6_outputOf 16 = some (.freturn, 1, 0, 0) := by decide +kernel
theorem rX6_outputOf_17 : am_rw mX6_outputOf 17 = some (.iconst 0, 1, 0, 0) := by decide +kernel
theorem rX6_outputOf_18 : am_rw mX6_outputOf 18 = some (.istore_n 3, 1, 0, 0) := by decide +kernel
theorem rX6_outputOf_19 : am_rw mX6_outputOf 19 = some (.iload_n 3, 1, 0, 0) := by decide +kernel
theorem rX6_outputOf_20 : am_rw mX6_outputOf 20 = some (.iload_n 1, 1, 0, 0) := by decide +kernel
theorem rX6_outputOf_21 : am_rw mX6_outputOf 21 = some (.if_icmp .gt 38, 3, 59, 0) := by decide +kernel
theorem rX6_outputOf_24 : am_rw mX6_outputOf 24 = some (.aload_n 0, 1, 0, 0) := by decide +kernel
theorem rX6_outputOf_25 : am_rw mX6_outputOf 25 = some (.getfield 20, 3, 6, 1) := by decide +kernel
theorem rX6_outputOf_28 : am_rw mX6_outputOf 28 = some (.iload_n 1, 1, 0, 0) := by decide +kernel
theorem rX6_outputOf_29 : am_rw mX6_outputOf 29 = some (.aaload, 1, 0, 0) := by decide +kernel
theorem rX6_outputOf_30 : am_rw mX6_outputOf 30 = some (.getfield 94, 3, 8, 5) := by decide +kernel
theorem rX6_outputOf_33 : am_rw mX6_outputOf 33 = some (.iload_n 3, 1, 0, 0) := by decide +kernel
theorem rX6_outputOf_34 : am_rw mX6_outputOf 34 = some (.lshr, 1, 0, 0) := by decide +kernel
theorem rX6_outputOf_35 : am_rw mX6_outputOf 35 = some (.lconst 1, 1, 0, 0) := by decide +kernel
theorem rX6_outputOf_36 : am_rw mX6_outputOf 36 = some (.land, 1, 0, 0) := by decide +kernel
theorem rX6_outputOf_37 : am_rw mX6_outputOf 37 = some (.lconst 0, 1, 0, 0) := by decide +kernel
theorem rX6_outputOf_38 : am_rw mX6_outputOf 38 = some (.lcmp, 1, 0, 0) := by decide +kernel
theorem rX6_outputOf_39 : am_rw mX6_outputOf 39 = some (.ifCond .eq 14, 3, 53, 0) := by decide +kernel
theorem rX6_outputOf_42 : am_rw mX6_outputOf 42 = some (.aload_n 0, 1, 0, 0) := by decide +kernel
theorem rX6_outputOf_43 : am_rw mX6_outputOf 43 = some (.aload_n 0, 1, 0, 0) := by decide +kernel
theorem rX6_outputOf_44 : am_rw mX6_outputOf 44 = some (.getfield 20, 3, 6, 1) := by decide +kernel
theorem rX6_outputOf_47 : am_rw mX6_outputOf 47 = some (.iload_n 3, 1, 0, 0) := by decide +kernel
theorem rX6_outputOf_48 : am_rw mX6_outputOf 48 = some (.aaload, 1, 0, 0) := by decide +kernel
theorem rX6_outputOf_49 : am_rw mX6_outputOf 49 = some (.iload_n 2, 1, 0, 0) := by decide +kernel
theorem rX6_outputOf_50 : am_rw mX6_outputOf 50 = some (.invokevirtual 111, 3, 56, 3) := by decide +kernel
theorem rX6_outputOf_53 : am_rw mX6_outputOf 53 = some (.iinc 3 1, 3, 0, 0) := by decide +kernel
theorem rX6_outputOf_56 : am_rw mX6_outputOf 56 = some (.goto (-37), 3, 19, 0) := by decide +kernel
theorem rX6_outputOf_59 : am_rw mX6_outputOf 59 = some (.aload_n 0, 1, 0, 0) := by decide +kernel
theorem rX6_outputOf_60 : am_rw mX6_outputOf 60 = some (.getfield 20, 3, 6, 1) := by decide +kernel
theorem rX6_outputOf_63 : am_rw mX6_outputOf 63 = some (.iload_n 1, 1, 0, 0) := by decide +kernel
theorem rX6_outputOf_64 : am_rw mX6_outputOf 64 = some (.aaload, 1, 0, 0) := by decide +kernel
theorem rX6_outputOf_65 : am_rw mX6_outputOf 65 = some (.getfield 115, 3, 8, 2) := by decide +kernel
theorem rX6_outputOf_68 : am_rw mX6_outputOf 68 = some (.iload_n 2, 1, 0, 0) := by decide +kernel
theorem rX6_outputOf_69 : am_rw mX6_outputOf 69 = some (.faload, 1, 0, 0) := by decide +kernel
theorem rX6_outputOf_70 : am_rw mX6_outputOf 70 = some (.freturn, 1, 0, 0) := by decide +kernel
theorem rX6_fill_0 : am_rw mX6_fill 0 = some (.aload_n 0, 1, 0, 0) := by decide +kernel
theorem rX6_fill_1 : am_rw mX6_fill 1 = some (.getfield 12, 3, 6, 0) := by decide +kernel
theorem rX6_fill_4 : am_rw mX6_fill 4 = some (.getfield 119, 3, 4, 0) := by decide +kernel
theorem rX6_fill_7 : am_rw mX6_fill 7 = some (.astore_n 3, 1, 0, 0) := by decide +kernel
theorem rX6_fill_8 : am_rw mX6_fill 8 = some (.aload_n 1, 1, 0, 0) := by decide +kernel
theorem rX6_fill_9 : am_rw mX6_fill 9 = some (.getfield 108, 3, 8, 6) := by decide +kernel
theorem rX6_fill_12 : am_rw mX6_fill 12 = some (.istore 4, 2, 0, 0) := by decide +kernel
theorem rX6_fill_14 : am_rw mX6_fill 14 = some (.iload 4, 2, 0, 0) := by decide +kernel
theorem rX6_fill_16 : am_rw mX6_fill 16 = some (.ifCond .lt 207, 3, 223, 0) := by decide +kernel
theorem rX6_fill_19 : am_rw mX6_fill 19 = some (.iload 4, 2, 0, 0) := by decide +kernel
theorem rX6_fill_21 : am_rw mX6_fill 21 = some (.iload_n 2, 1, 0, 0) := by decide +kernel
theorem rX6_fill_22 : am_rw mX6_fill 22 = some (.if_icmp .gt 201, 3, 223, 0) := by decide +kernel
theorem rX6_fill_25 : am_rw mX6_fill 25 = some (.iload 4, 2, 0, 0) := by decide +kernel
theorem rX6_fill_27 : am_rw mX6_fill 27 = some (.sipush 201, 3, 201, 0) := by decide +kernel
theorem rX6_fill_30 : am_rw mX6_fill 30 = some (.if_icmp .ge 193, 3, 223, 0) := by decide +kernel
theorem rX6_fill_33 : am_rw mX6_fill 33 = some (.iconst 0, 1, 0, 0) := by decide +kernel
theorem rX6_fill_34 : am_rw mX6_fill 34 = some (.istore 5, 2, 0, 0) := by decide +kernel
theorem rX6_fill_36 : am_rw mX6_fill 36 = some (.iload 5, 2, 0, 0) := by decide +kernel
theorem rX6_fill_38 : am_rw mX6_fill 38 = some (.iconst 3, 1, 3, 0) := by decide +kernel
theorem rX6_fill_39 : am_rw mX6_fill 39 = some (.if_icmp .ge 26, 3, 65, 0) := by decide +kernel
theorem rX6_fill_42 : am_rw mX6_fill 42 = some (.aload_n 3, 1, 0, 0) := by decide +kernel
theorem rX6_fill_43 : am_rw mX6_fill 43 = some (.iconst 0, 1, 0, 0) := by decide +kernel
theorem rX6_fill_44 : am_rw mX6_fill 44 = some (.iload 5, 2, 0, 0) := by decide +kernel
theorem rX6_fill_46 : am_rw mX6_fill 46 = some (.iadd, 1, 0, 0) := by decide +kernel
theorem rX6_fill_47 : am_rw mX6_fill 47 = some (.aload_n 0, 1, 0, 0) := by decide +kernel
theorem rX6_fill_48 : am_rw mX6_fill 48 = some (.getfield 30, 3, 6, 3) := by decide +kernel
theorem rX6_fill_51 : am_rw mX6_fill 51 = some (.iload 5, 2, 0, 0) := by decide +kernel
theorem rX6_fill_53 : am_rw mX6_fill 53 = some (.aaload, 1, 0, 0) := by decide +kernel
theorem rX6_fill_54 : am_rw mX6_fill 54 = some (.iload 4, 2, 0, 0) := by decide +kernel
theorem rX6_fill_56 : am_rw mX6_fill 56 = some (.iaload, 1, 0, 0) := by decide +kernel
theorem rX6_fill_57 : am_rw mX6_fill 57 = some (.i2f, 1, 0, 0) := by decide +kernel
theorem rX6_fill_58 : am_rw mX6_fill 58 = some (.fastore, 1, 0, 0) := by decide +kernel
theorem rX6_fill_59 : am_rw mX6_fill 59 = some (.iinc 5 1, 3, 0, 0) := by decide +kernel
theorem rX6_fill_62 : am_rw mX6_fill 62 = some (.goto (-26), 3, 36, 0) := by decide +kernel
theorem rX6_fill_65 : am_rw mX6_fill 65 = some (.iconst 0, 1, 0, 0) := by decide +kernel
theorem rX6_fill_66 : am_rw mX6_fill 66 = some (.istore 5, 2, 0, 0) := by decide +kernel
theorem rX6_fill_68 : am_rw mX6_fill 68 = some (.iload 5, 2, 0, 0) := by decide +kernel
theorem rX6_fill_70 : am_rw mX6_fill 70 = some (.bipush 6, 2, 6, 0) := by decide +kernel
theorem rX6_fill_72 : am_rw mX6_fill 72 = some (.if_icmp .ge 90, 3, 162, 0) := by decide +kernel
theorem rX6_fill_75 : am_rw mX6_fill 75 = some (.aload_n 1, 1, 0, 0) := by decide +kernel
theorem rX6_fill_76 : am_rw mX6_fill 76 = some (.getfield 52, 3, 8, 1) := by decide +kernel
theorem rX6_fill_79 : am_rw mX6_fill 79 = some (.iload 5, 2, 0, 0) := by decide +kernel
theorem rX6_fill_81 : am_rw mX6_fill 81 = some (.iaload, 1, 0, 0) := by decide +kernel
theorem rX6_fill_82 : am_rw mX6_fill 82 = some (.istore 6, 2, 0, 0) := by decide +kernel
theorem rX6_fill_84 : am_rw mX6_fill 84 = some (.aload_n 0, 1, 0, 0) := by decide +kernel
theorem rX6_fill_85 : am_rw mX6_fill 85 = some (.iload 6, 2, 0, 0) := by decide +kernel
theorem rX6_fill_87 : am_rw mX6_fill 87 = some (.invokevirtual 38, 3, 38, 2) := by decide +kernel
theorem rX6_fill_90 : am_rw mX6_fill 90 = some (.istore 7, 2, 0, 0) := by decide +kernel
theorem rX6_fill_92 : am_rw mX6_fill 92 = some (.aload_n 3, 1, 0, 0) := by decide +kernel
theorem rX6_fill_93 : am_rw mX6_fill 93 = some (.iconst 3, 1, 3, 0) := by decide +kernel
theorem rX6_fill_94 : am_rw mX6_fill 94 = some (.iload 5, 2, 0, 0) := by decide +kernel
theorem rX6_fill_96 : am_rw mX6_fill 96 = some (.iadd, 1, 0, 0) := by decide +kernel
theorem rX6_fill_97 : am_rw mX6_fill 97 = some (.iload 7, 2, 0, 0) := by decide +kernel
theorem rX6_fill_99 : am_rw mX6_fill 99 = some (.ifCond .eq 19, 3, 118, 0) := by decide +kernel
theorem rX6_fill_102 : am_rw mX6_fill 102 = some (.aload_n 0, 1, 0, 0) := by decide +kernel
theorem rX6_fill_103 : am_rw mX6_fill 103 = some (.getfield 20, 3, 6, 1) := by decide +kernel
theorem rX6_fill_106 : am_rw mX6_fill 106 = some (.iload 6, 2, 0, 0) := by decide +kernel
theorem rX6_fill_108 : am_rw mX6_fill 108 = some (.aaload, 1, 0, 0) := by decide +kernel
theorem rX6_fill_109 : am_rw mX6_fill 109 = some (.getfield 115, 3, 8, 2) := by decide +kernel
theorem rX6_fill_112 : am_rw mX6_fill 112 = some (.iload 4, 2, 0, 0) := by decide +kernel
theorem rX6_fill_114 : am_rw mX6_fill 114 = some (.faload, 1, 0, 0) := by decide +kernel
theorem rX6_fill_115 : am_rw mX6_fill 115 = some (.goto 4, 3, 119, 0) := by decide +kernel
theorem rX6_fill_118 : am_rw mX6_fill 118 = some (.fconst 0, 1, 0, 0) := by decide +kernel
theorem rX6_fill_119 : am_rw mX6_fill 119 = some (.fastore, 1, 0, 0) := by decide +kernel
theorem rX6_fill_120 : am_rw mX6_fill 120 = some (.aload_n 3, 1, 0, 0) := by decide +kernel
theorem rX6_fill_121 : am_rw mX6_fill 121 = some (.bipush 9, 2, 9, 0) := by decide +kernel
theorem rX6_fill_123 : am_rw mX6_fill 123 = some (.iload 5, 2, 0, 0) := by decide +kernel
theorem rX6_fill_125 : am_rw mX6_fill 125 = some (.iadd, 1, 0, 0) := by decide +kernel
theorem rX6_fill_126 : am_rw mX6_fill 126 = some (.iload 7, 2, 0, 0) := by decide +kernel
theorem rX6_fill_128 : am_rw mX6_fill 128 = some (.ifCond .eq 26, 3, 154, 0) := by decide +kernel
theorem rX6_fill_131 : am_rw mX6_fill 131 = some (.iload 4, 2, 0, 0) := by decide +kernel
theorem rX6_fill_133 : am_rw mX6_fill 133 = some (.ifCond .le 21, 3, 154, 0) := by decide +kernel
theorem rX6_fill_136 : am_rw mX6_fill 136 = some (.aload_n 0, 1, 0, 0) := by decide +kernel
theorem rX6_fill_137 : am_rw mX6_fill 137 = some (.getfield 20, 3, 6, 1) := by decide +kernel
theorem rX6_fill_140 : am_rw mX6_fill 140 = some (.iload 6, 2, 0, 0) := by decide +kernel
theorem rX6_fill_142 : am_rw mX6_fill 142 = some (.aaload, 1, 0, 0) := by decide +kernel
theorem rX6_fill_143 : am_rw mX6_fill 143 = some (.getfield 115, 3, 8, 2) := by decide +kernel
theorem rX6_fill_146 : am_rw mX6_fill 146 = some (.iload 4, 2, 0, 0) := by decide +kernel
theorem rX6_fill_148 : am_rw mX6_fill 148 = some (.iconst 1, 1, 1, 0) := by decide +kernel
theorem rX6_fill_149 : am_rw mX6_fill 149 = some (.isub, 1, 0, 0) := by decide +kernel
theorem rX6_fill_150 : am_rw mX6_fill 150 = some (.faload, 1, 0, 0) := by decide +kernel
theorem rX6_fill_151 : am_rw mX6_fill 151 = some (.goto 4, 3, 155, 0) := by decide +kernel
theorem rX6_fill_154 : am_rw mX6_fill 154 = some (.fconst 0, 1, 0, 0) := by decide +kernel
theorem rX6_fill_155 : am_rw mX6_fill 155 = some (.fastore, 1, 0, 0) := by decide +kernel
theorem rX6_fill_156 : am_rw mX6_fill 156 = some (.iinc 5 1, 3, 0, 0) := by decide +kernel
theorem rX6_fill_159 : am_rw mX6_fill 159 = some (.goto (-91), 3, 68, 0) := by decide +kernel
theorem rX6_fill_162 : am_rw mX6_fill 162 = some (.aload_n 3, 1, 0, 0) := by decide +kernel
theorem rX6_fill_163 : am_rw mX6_fill 163 = some (.bipush 15, 2, 15, 0) := by decide +kernel
theorem rX6_fill_165 : am_rw mX6_fill 165 = some (.iload 4, 2, 0, 0) := by decide +kernel
theorem rX6_fill_167 : am_rw mX6_fill 167 = some (.ifCond .le 15, 3, 182, 0) := by decide +kernel
theorem rX6_fill_170 : am_rw mX6_fill 170 = some (.aload_n 1, 1, 0, 0) := by decide +kernel
theorem rX6_fill_171 : am_rw mX6_fill 171 = some (.getfield 115, 3, 8, 2) := by decide +kernel
theorem rX6_fill_174 : am_rw mX6_fill 174 = some (.iload 4, 2, 0, 0) := by decide +kernel
theorem rX6_fill_176 : am_rw mX6_fill 176 = some (.iconst 1, 1, 1, 0) := by decide +kernel
theorem rX6_fill_177 : am_rw mX6_fill 177 = some (.isub, 1, 0, 0) := by decide +kernel
theorem rX6_fill_178 : am_rw mX6_fill 178 = some (.faload, 1, 0, 0) := by decide +kernel
theorem rX6_fill_179 : am_rw mX6_fill 179 = some (.goto 4, 3, 183, 0) := by decide +kernel
theorem rX6_fill_182 : am_rw mX6_fill 182 = some (.fconst 0, 1, 0, 0) := by decide +kernel
theorem rX6_fill_183 : am_rw mX6_fill 183 = some (.fastore, 1, 0, 0) := by decide +kernel
theorem rX6_fill_184 : am_rw mX6_fill 184 = some (.aload_n 3, 1, 0, 0) := by decide +kernel
theorem rX6_fill_185 : am_rw mX6_fill 185 = some (.bipush 16, 2, 16, 0) := by decide +kernel
theorem rX6_fill_187 : am_rw mX6_fill 187 = some (.iload 4, 2, 0, 0) := by decide +kernel
theorem rX6_fill_189 : am_rw mX6_fill 189 = some (.i2f, 1, 0, 0) := by decide +kernel
theorem rX6_fill_190 : am_rw mX6_fill 190 = some (.fastore, 1, 0, 0) := by decide +kernel
theorem rX6_fill_191 : am_rw mX6_fill 191 = some (.aload_n 1, 1, 0, 0) := by decide +kernel
theorem rX6_fill_192 : am_rw mX6_fill 192 = some (.getfield 115, 3, 8, 2) := by decide +kernel
theorem rX6_fill_195 : am_rw mX6_fill 195 = some (.iload 4, 2, 0, 0) := by decide +kernel
theorem rX6_fill_197 : am_rw mX6_fill 197 = some (.aload_n 0, 1, 0, 0) := by decide +kernel
theorem rX6_fill_198 : am_rw mX6_fill 198 = some (.getfield 12, 3, 6, 0) := by decide +kernel
theorem rX6_fill_201 : am_rw mX6_fill 201 = some (.aload_n 1, 1, 0, 0) := by decide +kernel
theorem rX6_fill_202 : am_rw mX6_fill 202 = some (.getfield 61, 3, 8, 0) := by decide +kernel
theorem rX6_fill_205 : am_rw mX6_fill 205 = some (.invokevirtual 122, 3, 30, 2) := by decide +kernel
theorem rX6_fill_208 : am_rw mX6_fill 208 = some (.fastore, 1, 0, 0) := by decide +kernel
theorem rX6_fill_209 : am_rw mX6_fill 209 = some (.aload_n 1, 1, 0, 0) := by decide +kernel
theorem rX6_fill_210 : am_rw mX6_fill 210 = some (.iload 4, 2, 0, 0) := by decide +kernel
theorem rX6_fill_212 : am_rw mX6_fill 212 = some (.iconst 1, 1, 1, 0) := by decide +kernel
theorem rX6_fill_213 : am_rw mX6_fill 213 = some (.iadd, 1, 0, 0) := by decide +kernel
theorem rX6_fill_214 : am_rw mX6_fill 214 = some (.putfield 108, 3, 8, 6) := by decide +kernel
theorem rX6_fill_217 : am_rw mX6_fill 217 = some (.iinc 4 1, 3, 0, 0) := by decide +kernel
theorem rX6_fill_220 : am_rw mX6_fill 220 = some (.goto (-206), 3, 14, 0) := by decide +kernel
theorem rX6_fill_223 : am_rw mX6_fill 223 = some (.return_, 1, 0, 0) := by decide +kernel
theorem rX7_init_0 : am_rw mX7_init 0 = some (.aload_n 0, 1, 0, 0) := by decide +kernel
theorem rX7_init_1 : am_rw mX7_init 1 = some (.invokespecial 3, 3, 999, 1) := by decide +kernel
theorem rX7_init_4 : am_rw mX7_init 4 = some (.aload_n 0, 1, 0, 0) := by decide +kernel
theorem rX7_init_5 : am_rw mX7_init 5 = some (.iconst (-1), 1, 1, 1) := by decide +kernel
theorem rX7_init_6 : am_rw mX7_init 6 = some (.putfield 9, 3, 7, 0) := by decide +kernel
theorem rX7_init_9 : am_rw mX7_init 9 = some (.aload_n 0, 1, 0, 0) := by decide +kernel
theorem rX7_init_10 : am_rw mX7_init 10 = some (.iconst (-1), 1, 1, 1) := by decide +kernel
theorem rX7_init_11 : am_rw mX7_init 11 = some (.putfield 15, 3, 7, 1) := by decide +kernel
theorem rX7_init_14 : am_rw mX7_init 14 = some (.aload_n 0, 1, 0, 0) := by decide +kernel
theorem rX7_init_15 : am_rw mX7_init 15 = some (.iconst 0, 1, 0, 0) := by decide +kernel
theorem rX7_init_16 : am_rw mX7_init 16 = some (.putfield 18, 3, 7, 2) := by decide +kernel
theorem rX7_init_19 : am_rw mX7_init 19 = some (.aload_n 0, 1, 0, 0) := by decide +kernel
theorem rX7_init_20 : am_rw mX7_init 20 = some (.iconst 0, 1, 0, 0) := by decide +kernel
theorem rX7_init_21 : am_rw mX7_init 21 = some (.putfield 21, 3, 7, 3) := by decide +kernel
theorem rX7_init_24 : am_rw mX7_init 24 = some (.aload_n 0, 1, 0, 0) := by decide +kernel
theorem rX7_init_25 : am_rw mX7_init 25 = some (.iconst 0, 1, 0, 0) := by decide +kernel
theorem rX7_init_26 : am_rw mX7_init 26 = some (.putfield 24, 3, 7, 4) := by decide +kernel
theorem rX7_init_29 : am_rw mX7_init 29 = some (.return_, 1, 0, 0) := by decide +kernel
theorem rX8_init_0 : am_rw mX8_init 0 = some (.aload_n 0, 1, 0, 0) := by decide +kernel
theorem rX8_init_1 : am_rw mX8_init 1 = some (.invokespecial 3, 3, 999, 1) := by decide +kernel
theorem rX8_init_4 : am_rw mX8_init 4 = some (.aload_n 0, 1, 0, 0) := by decide +kernel
theorem rX8_init_5 : am_rw mX8_init 5 = some (.new 9, 3, 2, 0) := by decide +kernel
theorem rX8_init_8 : am_rw mX8_init 8 = some (.dup, 1, 0, 0) := by decide +kernel
theorem rX8_init_9 : am_rw mX8_init 9 = some (.invokespecial 11, 3, 7, 1) := by decide +kernel
theorem rX8_init_12 : am_rw mX8_init 12 = some (.putfield 12, 3, 8, 0) := by decide +kernel
theorem rX8_init_15 : am_rw mX8_init 15 = some (.aload_n 0, 1, 0, 0) := by decide +kernel
theorem rX8_init_16 : am_rw mX8_init 16 = some (.bipush 6, 2, 6, 0) := by decide +kernel
theorem rX8_init_18 : am_rw mX8_init 18 = some (.newarray .int, 2, 20, 0) := by decide +kernel
theorem rX8_init_20 : am_rw mX8_init 20 = some (.putfield 18, 3, 8, 1) := by decide +kernel
theorem rX8_init_23 : am_rw mX8_init 23 = some (.aload_n 0, 1, 0, 0) := by decide +kernel
theorem rX8_init_24 : am_rw mX8_init 24 = some (.sipush 201, 3, 201, 0) := by decide +kernel
theorem rX8_init_27 : am_rw mX8_init 27 = some (.newarray .float, 2, 22, 0) := by decide +kernel
theorem rX8_init_29 : am_rw mX8_init 29 = some (.putfield 22, 3, 8, 2) := by decide +kernel
theorem rX8_init_32 : am_rw mX8_init 32 = some (.aload_n 0, 1, 0, 0) := by decide +kernel
theorem rX8_init_33 : am_rw mX8_init 33 = some (.iconst (-1), 1, 1, 1) := by decide +kernel
theorem rX8_init_34 : am_rw mX8_init 34 = some (.putfield 26, 3, 8, 3) := by decide +kernel
theorem rX8_init_37 : am_rw mX8_init 37 = some (.aload_n 0, 1, 0, 0) := by decide +kernel
theorem rX8_init_38 : am_rw mX8_init 38 = some (.iconst 0, 1, 0, 0) := by decide +kernel
theorem rX8_init_39 : am_rw mX8_init 39 = some (.putfield 30, 3, 8, 4) := by decide +kernel
theorem rX8_init_42 : am_rw mX8_init 42 = some (.aload_n 0, 1, 0, 0) := by decide +kernel
theorem rX8_init_43 : am_rw mX8_init 43 = some (.lconst 0, 1, 0, 0) := by decide +kernel
theorem rX8_init_44 : am_rw mX8_init 44 = some (.putfield 33, 3, 8, 5) := by decide +kernel
theorem rX8_init_47 : am_rw mX8_init 47 = some (.aload_n 0, 1, 0, 0) := by decide +kernel
theorem rX8_init_48 : am_rw mX8_init 48 = some (.iconst 0, 1, 0, 0) := by decide +kernel
theorem rX8_init_49 : am_rw mX8_init 49 = some (.putfield 37, 3, 8, 6) := by decide +kernel
theorem rX8_init_52 : am_rw mX8_init 52 = some (.return_, 1, 0, 0) := by decide +kernel
theorem rJ6_bitCount_0f7a4_0 : am_rw mJ6_bitCount_0f7a4 0 = some (.iload_n 0, 1, 0, 0) := by decide +kernel
theorem rJ6_bitCount_0f7a4_1 : am_rw mJ6_bitCount_0f7a4 1 = some (.iload_n 0, 1, 0, 0) := by decide +kernel
theorem rJ6_bitCount_0f7a4_2 : am_rw mJ6_bitCount_0f7a4 2 = some (.iconst 1, 1, 1, 0) := by decide +kernel
theorem rJ6_bitCount_0f7a4_3 : am_rw mJ6_bitCount_0f7a4 3 = some (.iushr, 1, 0, 0) := by decide +kernel
theorem rJ6_bitCount_0f7a4_4 : am_rw mJ6_bitCount_0f7a4 4 = some (.ldc_w 265, 3, 0, 1431655765) := by decide +kernel
theorem rJ6_bitCount_0f7a4_7 : am_rw mJ6_bitCount_0f7a4 7 = some (.iand, 1, 0, 0) := by decide +kernel
theorem rJ6_bitCount_0f7a4_8 : am_rw mJ6_bitCount_0f7a4 8 = some (.isub, 1, 0, 0) := by decide +kernel
theorem rJ6_bitCount_0f7a4_9 : am_rw mJ6_bitCount_0f7a4 9 = some (.istore_n 0, 1, 0, 0) := by decide +kernel
theorem rJ6_bitCount_0f7a4_10 : am_rw mJ6_bitCount_0f7a4 10 = some (.iload_n 0, 1, 0, 0) := by decide +kernel
theorem rJ6_bitCount_0f7a4_11 : am_rw mJ6_bitCount_0f7a4 11 = some (.ldc_w 266, 3, 0, 858993459) := by decide +kernel
theorem rJ6_bitCount_0f7a4_14 : am_rw mJ6_bitCount_0f7a4 14 = some (.iand, 1, 0, 0) := by decide +kernel
theorem rJ6_bitCount_0f7a4_15 : am_rw mJ6_bitCount_0f7a4 15 = some (.iload_n 0, 1, 0, 0) := by decide +kernel
theorem rJ6_bitCount_0f7a4_16 : am_rw mJ6_bitCount_0f7a4 16 = some (.iconst 2, 1, 2, 0) := by decide +kernel
theorem rJ6_bitCount_0f7a4_17 : am_rw mJ6_bitCount_0f7a4 17 = some (.iushr, 1, 0, 0) := by decide +kernel
theorem rJ6_bitCount_0f7a4_18 : am_rw mJ6_bitCount_0f7a4 18 = some (.ldc_w 266, 3, 0, 858993459) := by decide +kernel
theorem rJ6_bitCount_0f7a4_21 : am_rw mJ6_bitCount_0f7a4 21 = some (.iand, 1, 0, 0) := by decide +kernel
theorem rJ6_bitCount_0f7a4_22 : am_rw mJ6_bitCount_0f7a4 22 = some (.iadd, 1, 0, 0) := by decide +kernel
theorem rJ6_bitCount_0f7a4_23 : am_rw mJ6_bitCount_0f7a4 23 = some (.istore_n 0, 1, 0, 0) := by decide +kernel
theorem rJ6_bitCount_0f7a4_24 : am_rw mJ6_bitCount_0f7a4 24 = some (.iload_n 0, 1, 0, 0) := by decide +kernel
theorem rJ6_bitCount_0f7a4_25 : am_rw mJ6_bitCount_0f7a4 25 = some (.iload_n 0, 1, 0, 0) := by decide +kernel
theorem rJ6_bitCount_0f7a4_26 : am_rw mJ6_bitCount_0f7a4 26 = some (.iconst 4, 1, 4, 0) := by decide +kernel
theorem rJ6_bitCount_0f7a4_27 : am_rw mJ6_bitCount_0f7a4 27 = some (.iushr, 1, 0, 0) := by decide +kernel
theorem rJ6_bitCount_0f7a4_28 : am_rw mJ6_bitCount_0f7a4 28 = some (.iadd, 1, 0, 0) := by decide +kernel
theorem rJ6_bitCount_0f7a4_29 : am_rw mJ6_bitCount_0f7a4 29 = some (.ldc_w 267, 3, 0, 252645135) := by decide +kernel
theorem rJ6_bitCount_0f7a4_32 : am_rw mJ6_bitCount_0f7a4 32 = some (.iand, 1, 0, 0) := by decide +kernel
theorem rJ6_bitCount_0f7a4_33 : am_rw mJ6_bitCount_0f7a4 33 = some (.istore_n 0, 1, 0, 0) := by decide +kernel
theorem rJ6_bitCount_0f7a4_34 : am_rw mJ6_bitCount_0f7a4 34 = some (.iload_n 0, 1, 0, 0) := by decide +kernel
theorem rJ6_bitCount_0f7a4_35 : am_rw mJ6_bitCount_0f7a4 35 = some (.iload_n 0, 1, 0, 0) := by decide +kernel
theorem rJ6_bitCount_0f7a4_36 : am_rw mJ6_bitCount_0f7a4 36 = some (.bipush 8, 2, 8, 0) := by decide +kernel
theorem rJ6_bitCount_0f7a4_38 : am_rw mJ6_bitCount_0f7a4 38 = some (.iushr, 1, 0, 0) := by decide +kernel
theorem rJ6_bitCount_0f7a4_39 : am_rw mJ6_bitCount_0f7a4 39 = some (.iadd, 1, 0, 0) := by decide +kernel
theorem rJ6_bitCount_0f7a4_40 : am_rw mJ6_bitCount_0f7a4 40 = some (.istore_n 0, 1, 0, 0) := by decide +kernel
theorem rJ6_bitCount_0f7a4_41 : am_rw mJ6_bitCount_0f7a4 41 = some (.iload_n 0, 1, 0, 0) := by decide +kernel
theorem rJ6_bitCount_0f7a4_42 : am_rw mJ6_bitCount_0f7a4 42 = some (.iload_n 0, 1, 0, 0) := by decide +kernel
theorem rJ6_bitCount_0f7a4_43 : am_rw mJ6_bitCount_0f7a4 43 = some (.bipush 16, 2, 16, 0) := by decide +kernel
theorem rJ6_bitCount_0f7a4_45 : am_rw mJ6_bitCount_0f7a4 45 = some (.iushr, 1, 0, 0) := by decide +kernel
theorem rJ6_bitCount_0f7a4_46 : am_rw mJ6_bitCount_0f7a4 46 = some (.iadd, 1, 0, 0) := by decide +kernel
theorem rJ6_bitCount_0f7a4_47 : am_rw mJ6_bitCount_0f7a4 47 = some (.istore_n 0, 1, 0, 0) := by decide +kernel
theorem rJ6_bitCount_0f7a4_48 : am_rw mJ6_bitCount_0f7a4 48 = some (.iload_n 0, 1, 0, 0) := by decide +kernel
theorem rJ6_bitCount_0f7a4_49 : am_rw mJ6_bitCount_0f7a4 49 = some (.bipush 63, 2, 63, 0) := by decide +kernel
theorem rJ6_bitCount_0f7a4_51 : am_rw mJ6_bitCount_0f7a4 51 = some (.iand, 1, 0, 0) := by decide +kernel
theorem rJ6_bitCount_0f7a4_52 : am_rw mJ6_bitCount_0f7a4 52 = some (.ireturn, 1, 0, 0) := by decide +kernel
theorem rJ9_max_7cf53_0 : am_rw mJ9_max_7cf53 0 = some (.iload_n 0, 1, 0, 0) := by decide +kernel
theorem rJ9_max_7cf53_1 : am_rw mJ9_max_7cf53 1 = some (.iload_n 1, 1, 0, 0) := by decide +kernel
theorem rJ9_max_7cf53_2 : am_rw mJ9_max_7cf53 2 = some (.if_icmp .lt 7, 3, 9, 0) := by decide +kernel
theorem rJ9_max_7cf53_5 : am_rw mJ9_max_7cf53 5 = some (.iload_n 0, 1, 0, 0) := by decide +kernel
theorem rJ9_max_7cf53_6 : am_rw mJ9_max_7cf53 6 = some (.goto 4, 3, 10, 0) := by decide +kernel
theorem rJ9_max_7cf53_9 : am_rw mJ9_max_7cf53 9 = some (.iload_n 1, 1, 0, 0) := by decide +kernel
theorem rJ9_max_7cf53_10 : am_rw mJ9_max_7cf53 10 = some (.ireturn, 1, 0, 0) := by decide +kernel
theorem rJ9_min_7cf53_0 : am_rw mJ9_min_7cf53 0 = some (.iload_n 0, 1, 0, 0) := by decide +kernel
theorem rJ9_min_7cf53_1 : am_rw mJ9_min_7cf53 1 = some (.iload_n 1, 1, 0, 0) := by decide +kernel
theorem rJ9_min_7cf53_2 : am_rw mJ9_min_7cf53 2 = some (.if_icmp .gt 7, 3, 9, 0) := by decide +kernel
theorem rJ9_min_7cf53_5 : am_rw mJ9_min_7cf53 5 = some (.iload_n 0, 1, 0, 0) := by decide +kernel
theorem rJ9_min_7cf53_6 : am_rw mJ9_min_7cf53 6 = some (.goto 4, 3, 10, 0) := by decide +kernel
theorem rJ9_min_7cf53_9 : am_rw mJ9_min_7cf53 9 = some (.iload_n 1, 1, 0, 0) := by decide +kernel
theorem rJ9_min_7cf53_10 : am_rw mJ9_min_7cf53 10 = some (.ireturn, 1, 0, 0) := by decide +kernel
theorem rJ0_length_8abf5_0 : am_rw mJ0_length_8abf5 0 = some (.aload_n 0, 1, 0, 0) := by decide +kernel
theorem rJ0_length_8abf5_1 : am_rw mJ0_length_8abf5 1 = some (.getfield 9, 3, 20, 0) := by decide +kernel
theorem rJ0_length_8abf5_4 : am_rw mJ0_length_8abf5 4 = some (.arraylength, 1, 2, 0) := by decide +kernel
theorem rJ0_length_8abf5_5 : am_rw mJ0_length_8abf5 5 = some (.aload_n 0, 1, 0, 0) := by decide +kernel
theorem rJ0_length_8abf5_6 : am_rw mJ0_length_8abf5 6 = some (.invokevirtual 335, 3, 106, 1) := by decide +kernel
theorem rJ0_length_8abf5_9 : am_rw mJ0_length_8abf5 9 = some (.ishr, 1, 0, 0) := by decide +kernel
theorem rJ0_length_8abf5_10 : am_rw mJ0_length_8abf5 10 = some (.ireturn, 1, 0, 0) := by decide +kernel
theorem rJ0_indexOf_0f7a4_0 : am_rw mJ0_indexOf_0f7a4 0 = some (.aload_n 0, 1, 0, 0) := by decide +kernel
theorem rJ0_indexOf_0f7a4_1 : am_rw mJ0_indexOf_0f7a4 1 = some (.iload_n 1, 1, 0, 0) := by decide +kernel
theorem rJ0_indexOf_0f7a4_2 : am_rw mJ0_indexOf_0f7a4 2 = some (.iconst 0, 1, 0, 0) := by decide +kernel
theorem rJ0_indexOf_0f7a4_3 : am_rw mJ0_indexOf_0f7a4 3 = some (.invokevirtual 633, 3, 105, 3) := by decide +kernel
theorem rJ0_indexOf_0f7a4_6 : am_rw mJ0_indexOf_0f7a4 6 = some (.ireturn, 1, 0, 0) := by decide +kernel
theorem rJ0_indexOf_7cf53_0 : am_rw mJ0_indexOf_7cf53 0 = some (.aload_n 0, 1, 0, 0) := by decide +kernel
theorem rJ0_indexOf_7cf53_1 : am_rw mJ0_indexOf_7cf53 1 = some (.invokevirtual 492, 3, 107, 1) := by decide +kernel
theorem rJ0_indexOf_7cf53_4 : am_rw mJ0_indexOf_7cf53 4 = some (.ifCond .eq 19, 3, 23, 0) := by decide +kernel
theorem rJ0_indexOf_7cf53_7 : am_rw mJ0_indexOf_7cf53 7 = some (.aload_n 0, 1, 0, 0) := by decide +kernel
theorem rJ0_indexOf_7cf53_8 : am_rw mJ0_indexOf_7cf53 8 = some (.getfield 9, 3, 20, 0) := by decide +kernel
theorem rJ0_indexOf_7cf53_11 : am_rw mJ0_indexOf_7cf53 11 = some (.iload_n 1, 1, 0, 0) := by decide +kernel
theorem rJ0_indexOf_7cf53_12 : am_rw mJ0_indexOf_7cf53 12 = some (.iload_n 2, 1, 0, 0) := by decide +kernel
theorem rJ0_indexOf_7cf53_13 : am_rw mJ0_indexOf_7cf53 13 = some (.aload_n 0, 1, 0, 0) := by decide +kernel
theorem rJ0_indexOf_7cf53_14 : am_rw mJ0_indexOf_7cf53 14 = some (.invokevirtual 505, 3, 103, 1) := by decide +kernel
theorem rJ0_indexOf_7cf53_17 : am_rw mJ0_indexOf_7cf53 17 = some (.invokestatic 637, 3, 109, 4) := by decide +kernel
theorem rJ0_indexOf_7cf53_20 : am_rw mJ0_indexOf_7cf53 20 = some (.goto 16, 3, 36, 0) := by decide +kernel
theorem rJ0_indexOf_7cf53_23 : am_rw mJ0_indexOf_7cf53 23 = some (.aload_n 0, 1, 0, 0) := by decide +kernel
theorem rJ0_indexOf_7cf53_24 : am_rw mJ0_indexOf_7cf53 24 = some (.getfield 9, 3, 20, 0) := by decide +kernel
theorem rJ0_indexOf_7cf53_27 : am_rw mJ0_indexOf_7cf53 27 = some (.iload_n 1, 1, 0, 0) := by decide +kernel
theorem rJ0_indexOf_7cf53_28 : am_rw mJ0_indexOf_7cf53 28 = some (.iload_n 2, 1, 0, 0) := by decide +kernel
theorem rJ0_indexOf_7cf53_29 : am_rw mJ0_indexOf_7cf53 29 = some (.aload_n 0, 1, 0, 0) := by decide +kernel
theorem rJ0_indexOf_7cf53_30 : am_rw mJ0_indexOf_7cf53 30 = some (.invokevirtual 505, 3, 103, 1) := by decide +kernel
theorem rJ0_indexOf_7cf53_36 : am_rw mJ0_indexOf_7cf53 36 = some (.ireturn, 1, 0, 0) := by decide +kernel
theorem rJ0_coder_7d493_0 : am_rw mJ0_coder_7d493 0 = some (.getstatic 38, 3, 1, 0) := by decide +kernel
theorem rJ0_coder_7d493_3 : am_rw mJ0_coder_7d493 3 = some (.ifCond .eq 10, 3, 13, 0) := by decide +kernel
theorem rJ0_coder_7d493_6 : am_rw mJ0_coder_7d493 6 = some (.aload_n 0, 1, 0, 0) := by decide +kernel
theorem rJ0_coder_7d493_7 : am_rw mJ0_coder_7d493 7 = some (.getfield 15, 3, 20, 1) := by decide +kernel
theorem rJ0_coder_7d493_10 : am_rw mJ0_coder_7d493 10 = some (.goto 4, 3, 14, 0) := by decide +kernel
theorem rJ0_coder_7d493_13 : am_rw mJ0_coder_7d493 13 = some (.iconst 1, 1, 1, 0) := by decide +kernel
theorem rJ0_coder_7d493_14 : am_rw mJ0_coder_7d493 14 = some (.ireturn, 1, 0, 0) := by decide +kernel
theorem rJ0_isLatin1_aae02_0 : am_rw mJ0_isLatin1_aae02 0 = some (.getstatic 38, 3, 1, 0) := by decide +kernel
theorem rJ0_isLatin1_aae02_3 : am_rw mJ0_isLatin1_aae02 3 = some (.ifCond .eq 14, 3, 17, 0) := by decide +kernel
theorem rJ0_isLatin1_aae02_6 : am_rw mJ0_isLatin1_aae02 6 = some (.aload_n 0, 1, 0, 0) := by decide +kernel
theorem rJ0_isLatin1_aae02_7 : am_rw mJ0_isLatin1_aae02 7 = some (.getfield 15, 3, 20, 1) := by decide +kernel
theorem rJ0_isLatin1_aae02_10 : am_rw mJ0_isLatin1_aae02 10 = some (.ifCond .ne 7, 3, 17, 0) := by decide +kernel
theorem rJ0_isLatin1_aae02_13 : am_rw mJ0_isLatin1_aae02 13 = some (.iconst 1, 1, 1, 0) := by decide +kernel
theorem rJ0_isLatin1_aae02_14 : am_rw mJ0_isLatin1_aae02 14 = some (.goto 4, 3, 18, 0) := by decide +kernel
theorem rJ0_isLatin1_aae02_17 : am_rw mJ0_isLatin1_aae02 17 = some (.iconst 0, 1, 0, 0) := by decide +kernel
theorem rJ0_isLatin1_aae02_18 : am_rw mJ0_isLatin1_aae02 18 = some (.ireturn, 1, 0, 0) := by decide +kernel
theorem rJ1_canEncode_9a6ad_0 : am_rw mJ1_canEncode_9a6ad 0 = some (.iload_n 0, 1, 0, 0) := by decide +kernel
theorem rJ1_canEncode_9a6ad_1 : am_rw mJ1_canEncode_9a6ad 1 = some (.ifCond .lt 14, 3, 15, 0) := by decide +kernel
theorem rJ1_canEncode_9a6ad_4 : am_rw mJ1_canEncode_9a6ad 4 = some (.iload_n 0, 1, 0, 0) := by decide +kernel
theorem rJ1_canEncode_9a6ad_5 : am_rw mJ1_canEncode_9a6ad 5 = some (.sipush 255, 3, 255, 0) := by decide +kernel
theorem rJ1_canEncode_9a6ad_8 : am_rw mJ1_canEncode_9a6ad 8 = some (.if_icmp .gt 7, 3, 15, 0) := by decide +kernel
theorem rJ1_canEncode_9a6ad_11 : am_rw mJ1_canEncode_9a6ad 11 = some (.iconst 1, 1, 1, 0) := by decide +kernel
theorem rJ1_canEncode_9a6ad_12 : am_rw mJ1_canEncode_9a6ad 12 = some (.goto 4, 3, 16, 0) := by decide +kernel
theorem rJ1_canEncode_9a6ad_15 : am_rw mJ1_canEncode_9a6ad 15 = some (.iconst 0, 1, 0, 0) := by decide +kernel
theorem rJ1_canEncode_9a6ad_16 : am_rw mJ1_canEncode_9a6ad 16 = some (.ireturn, 1, 0, 0) := by decide +kernel
theorem rJ1_indexOf_4cfef_0 : am_rw mJ1_indexOf_4cfef 0 = some (.iload_n 1, 1, 0, 0) := by decide +kernel
theorem rJ1_indexOf_4cfef_1 : am_rw mJ1_indexOf_4cfef 1 = some (.invokestatic 88, 3, 108, 1) := by decide +kernel
theorem rJ1_indexOf_4cfef_4 : am_rw mJ1_indexOf_4cfef 4 = some (.ifCond .ne 5, 3, 9, 0) := by decide +kernel
theorem rJ1_indexOf_4cfef_7 : am_rw mJ1_indexOf_4cfef 7 = some (.iconst (-1), 1, 1, 1) := by decide +kernel
theorem rJ1_indexOf_4cfef_8 : am_rw mJ1_indexOf_4cfef 8 = some (.ireturn, 1, 0, 0) := by decide +kernel
theorem rJ1_indexOf_4cfef_9 : am_rw mJ1_indexOf_4cfef 9 = some (.iload_n 2, 1, 0, 0) := by decide +kernel
theorem rJ1_indexOf_4cfef_10 : am_rw mJ1_indexOf_4cfef 10 = some (.iconst 0, 1, 0, 0) := by decide +kernel
theorem rJ1_indexOf_4cfef_11 : am_rw mJ1_indexOf_4cfef 11 = some (.invokestatic 92, 3, 101, 2) := by decide +kernel
theorem rJ1_indexOf_4cfef_14 : am_rw mJ1_indexOf_4cfef 14 = some (.istore_n 2, 1, 0, 0) := by decide +kernel
theorem rJ1_indexOf_4cfef_15 : am_rw mJ1_indexOf_4cfef 15 = some (.iload_n 3, 1, 0, 0) := by decide +kernel
theorem rJ1_indexOf_4cfef_16 : am_rw mJ1_indexOf_4cfef 16 = some (.aload_n 0, 1, 0, 0) := by decide +kernel
theorem rJ1_indexOf_4cfef_17 : am_rw mJ1_indexOf_4cfef 17 = some (.arraylength, 1, 2, 0) := by decide +kernel
theorem rJ1_indexOf_4cfef_18 : am_rw mJ1_indexOf_4cfef 18 = some (.invokestatic 38, 3, 102, 2) := by decide +kernel
theorem rJ1_indexOf_4cfef_21 : am_rw mJ1_indexOf_4cfef 21 = some (.istore_n 3, 1, 0, 0) := by decide +kernel
theorem rJ1_indexOf_4cfef_22 : am_rw mJ1_indexOf_4cfef 22 = some (.iload_n 2, 1, 0, 0) := by decide +kernel
theorem rJ1_indexOf_4cfef_23 : am_rw mJ1_indexOf_4cfef 23 = some (.iload_n 3, 1, 0, 0) := by decide +kernel
theorem rJ1_indexOf_4cfef_24 : am_rw mJ1_indexOf_4cfef 24 = some (.if_icmp .lt 5, 3, 29, 0) := by decide +kernel
theorem rJ1_indexOf_4cfef_27 : am_rw mJ1_indexOf_4cfef 27 = some (.iconst (-1), 1, 1, 1) := by decide +kernel
theorem rJ1_indexOf_4cfef_28 : am_rw mJ1_indexOf_4cfef 28 = some (.ireturn, 1, 0, 0) := by decide +kernel
theorem rJ1_indexOf_4cfef_29 : am_rw mJ1_indexOf_4cfef 29 = some (.aload_n 0, 1, 0, 0) := by decide +kernel
theorem rJ1_indexOf_4cfef_30 : am_rw mJ1_indexOf_4cfef 30 = some (.iload_n 1, 1, 0, 0) := by decide +kernel
theorem rJ1_indexOf_4cfef_31 : am_rw mJ1_indexOf_4cfef 31 = some (.iload_n 2, 1, 0, 0) := by decide +kernel
theorem rJ1_indexOf_4cfef_32 : am_rw mJ1_indexOf_4cfef 32 = some (.iload_n 3, 1, 0, 0) := by decide +kernel
theorem rJ1_indexOf_4cfef_33 : am_rw mJ1_indexOf_4cfef 33 = some (.invokestatic 95, 3, 110, 4) := by decide +kernel
theorem rJ1_indexOf_4cfef_36 : am_rw mJ1_indexOf_4cfef 36 = some (.ireturn, 1, 0, 0) := by decide +kernel
theorem rJ1_indexOfChar_4cfef_0 : am_rw mJ1_indexOfChar_4cfef 0 = some (.iload_n 1, 1, 0, 0) := by decide +kernel
theorem rJ1_indexOfChar_4cfef_1 : am_rw mJ1_indexOfChar_4cfef 1 = some (.i2b, 1, 0, 0) := by decide +kernel
theorem rJ1_indexOfChar_4cfef_2 : am_rw mJ1_indexOfChar_4cfef 2 = some (.istore 4, 2, 0, 0) := by decide +kernel
theorem rJ1_indexOfChar_4cfef_4 : am_rw mJ1_indexOfChar_4cfef 4 = some (.iload_n 2, 1, 0, 0) := by decide +kernel
theorem rJ1_indexOfChar_4cfef_5 : am_rw mJ1_indexOfChar_4cfef 5 = some (.istore 5, 2, 0, 0) := by decide +kernel
theorem rJ1_indexOfChar_4cfef_7 : am_rw mJ1_indexOfChar_4cfef 7 = some (.iload 5, 2, 0, 0) := by decide +kernel
theorem rJ1_indexOfChar_4cfef_9 : am_rw mJ1_indexOfChar_4cfef 9 = some (.iload_n 3, 1, 0, 0) := by decide +kernel
theorem rJ1_indexOfChar_4cfef_10 : am_rw mJ1_indexOfChar_4cfef 10 = some (.if_icmp .ge 21, 3, 31, 0) := by decide +kernel
theorem rJ1_indexOfChar_4cfef_13 : am_rw mJ1_indexOfChar_4cfef 13 = some (.aload_n 0, 1, 0, 0) := by decide +kernel
theorem rJ1_indexOfChar_4cfef_14 : am_rw mJ1_indexOfChar_4cfef 14 = some (.iload 5, 2, 0, 0) := by decide +kernel
theorem rJ1_indexOfChar_4cfef_16 : am_rw mJ1_indexOfChar_4cfef 16 = some (.baload, 1, 2, 0) := by decide +kernel
theorem rJ1_indexOfChar_4cfef_17 : am_rw mJ1_indexOfChar_4cfef 17 = some (.iload 4, 2, 0, 0) := by decide +kernel
theorem rJ1_indexOfChar_4cfef_19 : am_rw mJ1_indexOfChar_4cfef 19 = some (.if_icmp .ne 6, 3, 25, 0) := by decide +kernel
theorem rJ1_indexOfChar_4cfef_22 : am_rw mJ1_indexOfChar_4cfef 22 = some (.iload 5, 2, 0, 0) := by decide +kernel
theorem rJ1_indexOfChar_4cfef_24 : am_rw mJ1_indexOfChar_4cfef 24 = some (.ireturn, 1, 0, 0) := by decide +kernel
theorem rJ1_indexOfChar_4cfef_25 : am_rw mJ1_indexOfChar_4cfef 25 = some (.iinc 5 1, 3, 0, 0) := by decide +kernel
theorem rJ1_indexOfChar_4cfef_28 : am_rw mJ1_indexOfChar_4cfef 28 = some (.goto (-21), 3, 7, 0) := by decide +kernel
theorem rJ1_indexOfChar_4cfef_31 : am_rw mJ1_indexOfChar_4cfef 31 = some (.iconst (-1), 1, 1, 1) := by decide +kernel
theorem rJ1_indexOfChar_4cfef_32 : am_rw mJ1_indexOfChar_4cfef 32 = some (.ireturn, 1, 0, 0) := by decide +kernel
