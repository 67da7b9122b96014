/-! own: rows of the methods, for the rules -/
set_option maxRecDepth 100000
theorem rX10_outOf_0 : am_rw mX10_outOf 0 = some (.aload_n 0, 1, 0, 0) := by decide +kernel
theorem rX10_outOf_1 : am_rw mX10_outOf 1 = some (.getfield 44, 3, 10, 16) := by decide +kernel
theorem rX10_outOf_4 : am_rw mX10_outOf 4 = some (.iload_n 1, 1, 0, 0) := by decide +kernel
theorem rX10_outOf_5 : am_rw mX10_outOf 5 = some (.iaload, 1, 0, 0) := by decide +kernel
theorem rX10_outOf_6 : am_rw mX10_outOf 6 = some (.iload_n 2, 1, 0, 0) := by decide +kernel
theorem rX10_outOf_7 : am_rw mX10_outOf 7 = some (.if_icmp .le 7, 3, 14, 0) := by decide +kernel
theorem rX10_outOf_10 : am_rw mX10_outOf 10 = some (.lconst 0, 1, 0, 0) := by decide +kernel
theorem rX10_outOf_11 : am_rw mX10_outOf 11 = some (.goto 8, 3, 19, 0) := by decide +kernel
theorem rX10_outOf_14 : am_rw mX10_outOf 14 = some (.aload_n 0, 1, 0, 0) := by decide +kernel
theorem rX10_outOf_15 : am_rw mX10_outOf 15 = some (.iload_n 1, 1, 0, 0) := by decide +kernel
theorem rX10_outOf_16 : am_rw mX10_outOf 16 = some (.invokevirtual 281, 3, 143, 2) := by decide +kernel
theorem rX10_outOf_19 : am_rw mX10_outOf 19 = some (.lstore_n 3, 1, 0, 0) := by decide +kernel
theorem rX10_outOf_20 : am_rw mX10_outOf 20 = some (.iconst 0, 1, 0, 0) := by decide +kernel
theorem rX10_outOf_21 : am_rw mX10_outOf 21 = some (.istore 5, 2, 0, 0) := by decide +kernel
theorem rX10_outOf_23 : am_rw mX10_outOf 23 = some (.iload 5, 2, 0, 0) := by decide +kernel
theorem rX10_outOf_25 : am_rw mX10_outOf 25 = some (.iload_n 2, 1, 0, 0) := by decide +kernel
theorem rX10_outOf_26 : am_rw mX10_outOf 26 = some (.if_icmp .gt 61, 3, 87, 0) := by decide +kernel
theorem rX10_outOf_29 : am_rw mX10_outOf 29 = some (.lload_n 3, 1, 0, 0) := by decide +kernel
theorem rX10_outOf_30 : am_rw mX10_outOf 30 = some (.lconst 0, 1, 0, 0) := by decide +kernel
theorem rX10_outOf_31 : am_rw mX10_outOf 31 = some (.lcmp, 1, 0, 0) := by decide +kernel
theorem rX10_outOf_32 : am_rw mX10_outOf 32 = some (.ifCond .eq 55, 3, 87, 0) := by decide +kernel
theorem rX10_outOf_35 : am_rw mX10_outOf 35 = some (.iconst 0, 1, 0, 0) := by decide +kernel
theorem rX10_outOf_36 : am_rw mX10_outOf 36 = some (.istore 6, 2, 0, 0) := by decide +kernel
theorem rX10_outOf_38 : am_rw mX10_outOf 38 = some (.iload 6, 2, 0, 0) := by decide +kernel
theorem rX10_outOf_40 : am_rw mX10_outOf 40 = some (.iload_n 1, 1, 0, 0) := by decide +kernel
theorem rX10_outOf_41 : am_rw mX10_outOf 41 = some (.if_icmp .gt 40, 3, 81, 0) := by decide +kernel
theorem rX10_outOf_44 : am_rw mX10_outOf 44 = some (.lload_n 3, 1, 0, 0) := by decide +kernel
theorem rX10_outOf_45 : am_rw mX10_outOf 45 = some (.iload 6, 2, 0, 0) := by decide +kernel
theorem rX10_outOf_47 : am_rw mX10_outOf 47 = some (.lshr, 1, 0, 0) := by decide +kernel
theorem rX10_outOf_48 : am_rw mX10_outOf 48 = some (.lconst 1, 1, 0, 0) := by decide +kernel
theorem rX10_outOf_49 : am_rw mX10_outOf 49 = some (.land, 1, 0, 0) := by decide +kernel
theorem rX10_outOf_50 : am_rw mX10_outOf 50 = some (.lconst 1, 1, 0, 0) := by decide +kernel
theorem rX10_outOf_51 : am_rw mX10_outOf 51 = some (.lcmp, 1, 0, 0) := by decide +kernel
theorem rX10_outOf_52 : am_rw mX10_outOf 52 = some (.ifCond .ne 23, 3, 75, 0) := by decide +kernel
theorem rX10_outOf_55 : am_rw mX10_outOf 55 = some (.aload_n 0, 1, 0, 0) := by decide +kernel
theorem rX10_outOf_56 : am_rw mX10_outOf 56 = some (.getfield 44, 3, 10, 16) := by decide +kernel
theorem rX10_outOf_59 : am_rw mX10_outOf 59 = some (.iload 6, 2, 0, 0) := by decide +kernel
theorem rX10_outOf_61 : am_rw mX10_outOf 61 = some (.iaload, 1, 0, 0) := by decide +kernel
theorem rX10_outOf_62 : am_rw mX10_outOf 62 = some (.iload 5, 2, 0, 0) := by decide +kernel
theorem rX10_outOf_64 : am_rw mX10_outOf 64 = some (.if_icmp .ne 11, 3, 75, 0) := by decide +kernel
theorem rX10_outOf_67 : am_rw mX10_outOf 67 = some (.aload_n 0, 1, 0, 0) := by decide +kernel
theorem rX10_outOf_68 : am_rw mX10_outOf 68 = some (.iload 6, 2, 0, 0) := by decide +kernel
theorem rX10_outOf_70 : am_rw mX10_outOf 70 = some (.iload 5, 2, 0, 0) := by decide +kernel
theorem rX10_outOf_72 : am_rw mX10_outOf 72 = some (.invokevirtual 285, 3, 144, 3) := by decide +kernel
theorem rX10_outOf_75 : am_rw mX10_outOf 75 = some (.iinc 6 1, 3, 0, 0) := by decide +kernel
theorem rX10_outOf_78 : am_rw mX10_outOf 78 = some (.goto (-40), 3, 38, 0) := by decide +kernel
theorem rX10_outOf_81 : am_rw mX10_outOf 81 = some (.iinc 5 1, 3, 0, 0) := by decide +kernel
theorem rX10_outOf_84 : am_rw mX10_outOf 84 = some (.goto (-61), 3, 23, 0) := by decide +kernel
theorem rX10_outOf_87 : am_rw mX10_outOf 87 = some (.aload_n 0, 1, 0, 0) := by decide +kernel
theorem rX10_outOf_88 : am_rw mX10_outOf 88 = some (.getfield 40, 3, 10, 15) := by decide +kernel
theorem rX10_outOf_91 : am_rw mX10_outOf 91 = some (.sipush 201, 3, 201, 0) := by decide +kernel
theorem rX10_outOf_94 : am_rw mX10_outOf 94 = some (.iload_n 1, 1, 0, 0) := by decide +kernel
theorem rX10_outOf_95 : am_rw mX10_outOf 95 = some (.imul, 1, 0, 0) := by decide +kernel
theorem rX10_outOf_96 : am_rw mX10_outOf 96 = some (.iload_n 2, 1, 0, 0) := by decide +kernel
theorem rX10_outOf_97 : am_rw mX10_outOf 97 = some (.iadd, 1, 0, 0) := by decide +kernel
theorem rX10_outOf_98 : am_rw mX10_outOf 98 = some (.faload, 1, 0, 0) := by decide +kernel
theorem rX10_outOf_99 : am_rw mX10_outOf 99 = some (.freturn, 1, 0, 0) := by decide +kernel
theorem rX10_isAsked_0 : am_rw mX10_isAsked 0 = some (.aload_n 0, 1, 0, 0) := by decide +kernel
theorem rX10_isAsked_1 : am_rw mX10_isAsked 1 = some (.aload_n 0, 1, 0, 0) := by decide +kernel
theorem rX10_isAsked_2 : am_rw mX10_isAsked 2 = some (.iload_n 1, 1, 0, 0) := by decide +kernel
theorem rX10_isAsked_3 : am_rw mX10_isAsked 3 = some (.invokevirtual 271, 3, 106, 2) := by decide +kernel
theorem rX10_isAsked_6 : am_rw mX10_isAsked 6 = some (.ifCond .ne 7, 3, 13, 0) := by decide +kernel
theorem rX10_isAsked_9 : am_rw mX10_isAsked 9 = some (.iconst 1, 1, 1, 0) := by decide +kernel
theorem rX10_isAsked_10 : am_rw mX10_isAsked 10 = some (.goto 19, 3, 29, 0) := by decide +kernel
theorem rX10_isAsked_13 : am_rw mX10_isAsked 13 = some (.iload_n 2, 1, 0, 0) := by decide +kernel
theorem rX10_isAsked_14 : am_rw mX10_isAsked 14 = some (.iconst 0, 1, 0, 0) := by decide +kernel
theorem rX10_isAsked_15 : am_rw mX10_isAsked 15 = some (.sipush 200, 3, 200, 0) := by decide +kernel
theorem rX10_isAsked_18 : am_rw mX10_isAsked 18 = some (.invokestatic 139, 3, 103, 3) := by decide +kernel
theorem rX10_isAsked_21 : am_rw mX10_isAsked 21 = some (.ifCond .eq 7, 3, 28, 0) := by decide +kernel
theorem rX10_isAsked_24 : am_rw mX10_isAsked 24 = some (.iconst 0, 1, 0, 0) := by decide +kernel
theorem rX10_isAsked_25 : am_rw mX10_isAsked 25 = some (.goto 4, 3, 29, 0) := by decide +kernel
theorem rX10_isAsked_28 : am_rw mX10_isAsked 28 = some (.iconst 2, 1, 2, 0) := by decide +kernel
theorem rX10_isAsked_29 : am_rw mX10_isAsked 29 = some (.invokevirtual 159, 3, 102, 2) := by decide +kernel
theorem rX10_isAsked_32 : am_rw mX10_isAsked 32 = some (.ireturn, 1, 0, 0) := by decide +kernel
theorem rX10_out_0 : am_rw mX10_out 0 = some (.aload_n 0, 1, 0, 0) := by decide +kernel
theorem rX10_out_1 : am_rw mX10_out 1 = some (.iload_n 1, 1, 0, 0) := by decide +kernel
theorem rX10_out_2 : am_rw mX10_out 2 = some (.iload_n 2, 1, 0, 0) := by decide +kernel
theorem rX10_out_3 : am_rw mX10_out 3 = some (.invokevirtual 289, 3, 146, 3) := by decide +kernel
theorem rX10_out_6 : am_rw mX10_out 6 = some (.ifCond .eq 15, 3, 21, 0) := by decide +kernel
theorem rX10_out_9 : am_rw mX10_out 9 = some (.aload_n 0, 1, 0, 0) := by decide +kernel
theorem rX10_out_10 : am_rw mX10_out 10 = some (.iload_n 1, 1, 0, 0) := by decide +kernel
theorem rX10_out_11 : am_rw mX10_out 11 = some (.iload_n 2, 1, 0, 0) := by decide +kernel
theorem rX10_out_12 : am_rw mX10_out 12 = some (.invokevirtual 292, 3, 145, 3) := by decide +kernel
theorem rX10_out_15 : am_rw mX10_out 15 = some (.invokestatic 295, 3, 177, 1) := by decide +kernel
theorem rX10_out_18 : am_rw mX10_out 18 = some (.goto 4, 3, 22, 0) := by decide +kernel
theorem rX10_out_21 : am_rw mX10_out 21 = some (.iconst 0, 1, 0, 0) := by decide +kernel
theorem rX10_out_22 : am_rw mX10_out 22 = some (.ireturn, 1, 0, 0) := by decide +kernel
theorem rX10_outAnew_0 : am_rw mX10_outAnew 0 = some (.aload_n 0, 1, 0, 0) := by decide +kernel
theorem rX10_outAnew_1 : am_rw mX10_outAnew 1 = some (.iload_n 1, 1, 0, 0) := by decide +kernel
theorem rX10_outAnew_2 : am_rw mX10_outAnew 2 = some (.iload_n 2, 1, 0, 0) := by decide +kernel
theorem rX10_outAnew_3 : am_rw mX10_outAnew 3 = some (.invokevirtual 289, 3, 146, 3) := by decide +kernel
theorem rX10_outAnew_6 : am_rw mX10_outAnew 6 = some (.ifCond .eq 15, 3, 21, 0) := by decide +kernel
theorem rX10_outAnew_9 : am_rw mX10_outAnew 9 = some (.aload_n 0, 1, 0, 0) := by decide +kernel
theorem rX10_outAnew_10 : am_rw mX10_outAnew 10 = some (.iload_n 1, 1, 0, 0) := by decide +kernel
theorem rX10_outAnew_11 : am_rw mX10_outAnew 11 = some (.iload_n 2, 1, 0, 0) := by decide +kernel
theorem rX10_outAnew_12 : am_rw mX10_outAnew 12 = some (.invokevirtual 292, 3, 145, 3) := by decide +kernel
theorem rX10_outAnew_15 : am_rw mX10_outAnew 15 = some (.invokestatic 295, 3, 177, 1) := by decide +kernel
theorem rX10_outAnew_18 : am_rw mX10_outAnew 18 = some (.goto 4, 3, 22, 0) := by decide +kernel
theorem rX10_outAnew_21 : am_rw mX10_outAnew 21 = some (.iconst 0, 1, 0, 0) := by decide +kernel
theorem rX10_outAnew_22 : am_rw mX10_outAnew 22 = some (.ireturn, 1, 0, 0) := by decide +kernel
theorem rX10_greatest_0 : am_rw mX10_greatest 0 = some (.iload_n 2, 1, 0, 0) := by decide +kernel
theorem rX10_greatest_1 : am_rw mX10_greatest 1 = some (.istore 4, 2, 0, 0) := by decide +kernel
theorem rX10_greatest_3 : am_rw mX10_greatest 3 = some (.iload_n 2, 1, 0, 0) := by decide +kernel
theorem rX10_greatest_4 : am_rw mX10_greatest 4 = some (.iconst 1, 1, 1, 0) := by decide +kernel
theorem rX10_greatest_5 : am_rw mX10_greatest 5 = some (.iadd, 1, 0, 0) := by decide +kernel
theorem rX10_greatest_6 : am_rw mX10_greatest 6 = some (.istore 5, 2, 0, 0) := by decide +kernel
theorem rX10_greatest_8 : am_rw mX10_greatest 8 = some (.iload 5, 2, 0, 0) := by decide +kernel
theorem rX10_greatest_10 : am_rw mX10_greatest 10 = some (.iload_n 3, 1, 0, 0) := by decide +kernel
theorem rX10_greatest_11 : am_rw mX10_greatest 11 = some (.if_icmp .gt 36, 3, 47, 0) := by decide +kernel
theorem rX10_greatest_14 : am_rw mX10_greatest 14 = some (.aload_n 0, 1, 0, 0) := by decide +kernel
theorem rX10_greatest_15 : am_rw mX10_greatest 15 = some (.iload_n 1, 1, 0, 0) := by decide +kernel
theorem rX10_greatest_16 : am_rw mX10_greatest 16 = some (.iload 5, 2, 0, 0) := by decide +kernel
theorem rX10_greatest_18 : am_rw mX10_greatest 18 = some (.invokevirtual 292, 3, 145, 3) := by decide +kernel
theorem rX10_greatest_21 : am_rw mX10_greatest 21 = some (.aload_n 0, 1, 0, 0) := by decide +kernel
theorem rX10_greatest_22 : am_rw mX10_greatest 22 = some (.iload_n 1, 1, 0, 0) := by decide +kernel
theorem rX10_greatest_23 : am_rw mX10_greatest 23 = some (.iload 4, 2, 0, 0) := by decide +kernel
theorem rX10_greatest_25 : am_rw mX10_greatest 25 = some (.invokevirtual 292, 3, 145, 3) := by decide +kernel
theorem rX10_greatest_28 : am_rw mX10_greatest 28 = some (.fcmp .l, 1, 0, 0) := by decide +kernel
theorem rX10_greatest_29 : am_rw mX10_greatest 29 = some (.ifCond .le 8, 3, 37, 0) := by decide +kernel
theorem rX10_greatest_32 : am_rw mX10_greatest 32 = some (.iload 5, 2, 0, 0) := by decide +kernel
theorem rX10_greatest_34 : am_rw mX10_greatest 34 = some (.goto 5, 3, 39, 0) := by decide +kernel
theorem rX10_greatest_37 : am_rw mX10_greatest 37 = some (.iload 4, 2, 0, 0) := by decide +kernel
theorem rX10_greatest_39 : am_rw mX10_greatest 39 = some (.istore 4, 2, 0, 0) := by decide +kernel
theorem rX10_greatest_41 : am_rw mX10_greatest 41 = some (.iinc 5 1, 3, 0, 0) := by decide +kernel
theorem rX10_greatest_44 : am_rw mX10_greatest 44 = some (.goto (-36), 3, 8, 0) := by decide +kernel
theorem rX10_greatest_47 : am_rw mX10_greatest 47 = some (.iload 4, 2, 0, 0) := by decide +kernel
theorem rX10_greatest_49 : am_rw mX10_greatest 49 = some (.ireturn, 1, 0, 0) := by decide +kernel
theorem rX10_run_0 : am_rw mX10_run 0 = some (.iload_n 1, 1, 0, 0) := by decide +kernel
theorem rX10_run_1 : am_rw mX10_run 1 = some (.invokestatic 256, 3, 104, 1) := by decide +kernel
theorem rX10_run_4 : am_rw mX10_run 4 = some (.istore_n 3, 1, 0, 0) := by decide +kernel
theorem rX10_run_5 : am_rw mX10_run 5 = some (.iload_n 2, 1, 0, 0) := by decide +kernel
theorem rX10_run_6 : am_rw mX10_run 6 = some (.iconst 1, 1, 1, 0) := by decide +kernel
theorem rX10_run_7 : am_rw mX10_run 7 = some (.bipush 48, 2, 48, 0) := by decide +kernel
theorem rX10_run_9 : am_rw mX10_run 9 = some (.invokestatic 139, 3, 103, 3) := by decide +kernel
theorem rX10_run_12 : am_rw mX10_run 12 = some (.istore 4, 2, 0, 0) := by decide +kernel
theorem rX10_run_14 : am_rw mX10_run 14 = some (.aload_n 0, 1, 0, 0) := by decide +kernel
theorem rX10_run_15 : am_rw mX10_run 15 = some (.iload_n 3, 1, 0, 0) := by decide +kernel
theorem rX10_run_16 : am_rw mX10_run 16 = some (.ifCond .ne 7, 3, 23, 0) := by decide +kernel
theorem rX10_run_19 : am_rw mX10_run 19 = some (.iconst 1, 1, 1, 0) := by decide +kernel
theorem rX10_run_20 : am_rw mX10_run 20 = some (.goto 48, 3, 68, 0) := by decide +kernel
theorem rX10_run_23 : am_rw mX10_run 23 = some (.iload 4, 2, 0, 0) := by decide +kernel
theorem rX10_run_25 : am_rw mX10_run 25 = some (.ifCond .ne 7, 3, 32, 0) := by decide +kernel
theorem rX10_run_28 : am_rw mX10_run 28 = some (.iconst 2, 1, 2, 0) := by decide +kernel
theorem rX10_run_29 : am_rw mX10_run 29 = some (.goto 39, 3, 68, 0) := by decide +kernel
theorem rX10_run_32 : am_rw mX10_run 32 = some (.aload_n 0, 1, 0, 0) := by decide +kernel
theorem rX10_run_33 : am_rw mX10_run 33 = some (.getfield 28, 3, 10, 10) := by decide +kernel
theorem rX10_run_36 : am_rw mX10_run 36 = some (.iload_n 1, 1, 0, 0) := by decide +kernel
theorem rX10_run_37 : am_rw mX10_run 37 = some (.iaload, 1, 0, 0) := by decide +kernel
theorem rX10_run_38 : am_rw mX10_run 38 = some (.iconst (-1), 1, 1, 1) := by decide +kernel
theorem rX10_run_39 : am_rw mX10_run 39 = some (.if_icmp .eq 24, 3, 63, 0) := by decide +kernel
theorem rX10_run_42 : am_rw mX10_run 42 = some (.aload_n 0, 1, 0, 0) := by decide +kernel
theorem rX10_run_43 : am_rw mX10_run 43 = some (.getfield 301, 3, 10, 1) := by decide +kernel
theorem rX10_run_46 : am_rw mX10_run 46 = some (.iload_n 2, 1, 0, 0) := by decide +kernel
theorem rX10_run_47 : am_rw mX10_run 47 = some (.iadd, 1, 0, 0) := by decide +kernel
theorem rX10_run_48 : am_rw mX10_run 48 = some (.sipush 200, 3, 200, 0) := by decide +kernel
theorem rX10_run_51 : am_rw mX10_run 51 = some (.if_icmp .gt 12, 3, 63, 0) := by decide +kernel
theorem rX10_run_54 : am_rw mX10_run 54 = some (.aload_n 0, 1, 0, 0) := by decide +kernel
theorem rX10_run_55 : am_rw mX10_run 55 = some (.getfield 146, 3, 10, 17) := by decide +kernel
theorem rX10_run_58 : am_rw mX10_run 58 = some (.bipush 40, 2, 40, 0) := by decide +kernel
theorem rX10_run_60 : am_rw mX10_run 60 = some (.if_icmp .ne 7, 3, 67, 0) := by decide +kernel
theorem rX10_run_63 : am_rw mX10_run 63 = some (.iconst 3, 1, 3, 0) := by decide +kernel
theorem rX10_run_64 : am_rw mX10_run 64 = some (.goto 4, 3, 68, 0) := by decide +kernel
theorem rX10_run_67 : am_rw mX10_run 67 = some (.iconst 0, 1, 0, 0) := by decide +kernel
theorem rX10_run_68 : am_rw mX10_run 68 = some (.invokevirtual 159, 3, 102, 2) := by decide +kernel
theorem rX10_run_71 : am_rw mX10_run 71 = some (.ifCond .ne 5, 3, 76, 0) := by decide +kernel
theorem rX10_run_74 : am_rw mX10_run 74 = some (.iconst 0, 1, 0, 0) := by decide +kernel
theorem rX10_run_75 : am_rw mX10_run 75 = some (.ireturn, 1, 0, 0) := by decide +kernel
theorem rX10_run_76 : am_rw mX10_run 76 = some (.aload_n 0, 1, 0, 0) := by decide +kernel
theorem rX10_run_77 : am_rw mX10_run 77 = some (.getfield 47, 3, 10, 18) := by decide +kernel
theorem rX10_run_80 : am_rw mX10_run 80 = some (.aload_n 0, 1, 0, 0) := by decide +kernel
theorem rX10_run_81 : am_rw mX10_run 81 = some (.getfield 146, 3, 10, 17) := by decide +kernel
theorem rX10_run_84 : am_rw mX10_run 84 = some (.aload_n 0, 1, 0, 0) := by decide +kernel
theorem rX10_run_85 : am_rw mX10_run 85 = some (.getfield 28, 3, 10, 10) := by decide +kernel
theorem rX10_run_88 : am_rw mX10_run 88 = some (.iload_n 1, 1, 0, 0) := by decide +kernel
theorem rX10_run_89 : am_rw mX10_run 89 = some (.iaload, 1, 0, 0) := by decide +kernel
theorem rX10_run_90 : am_rw mX10_run 90 = some (.iastore, 1, 0, 0) := by decide +kernel
theorem rX10_run_91 : am_rw mX10_run 91 = some (.aload_n 0, 1, 0, 0) := by decide +kernel
theorem rX10_run_92 : am_rw mX10_run 92 = some (.getfield 50, 3, 10, 19) := by decide +kernel
theorem rX10_run_95 : am_rw mX10_run 95 = some (.aload_n 0, 1, 0, 0) := by decide +kernel
theorem rX10_run_96 : am_rw mX10_run 96 = some (.getfield 146, 3, 10, 17) := by decide +kernel
theorem rX10_run_99 : am_rw mX10_run 99 = some (.aload_n 0, 1, 0, 0) := by decide +kernel
theorem rX10_run_100 : am_rw mX10_run 100 = some (.getfield 301, 3, 10, 1) := by decide +kernel
theorem rX10_run_103 : am_rw mX10_run 103 = some (.iastore, 1, 0, 0) := by decide +kernel
theorem rX10_run_104 : am_rw mX10_run 104 = some (.aload_n 0, 1, 0, 0) := by decide +kernel
theorem rX10_run_105 : am_rw mX10_run 105 = some (.getfield 53, 3, 10, 20) := by decide +kernel
theorem rX10_run_108 : am_rw mX10_run 108 = some (.aload_n 0, 1, 0, 0) := by decide +kernel
theorem rX10_run_109 : am_rw mX10_run 109 = some (.getfield 146, 3, 10, 17) := by decide +kernel
theorem rX10_run_112 : am_rw mX10_run 112 = some (.aload_n 0, 1, 0, 0) := by decide +kernel
theorem rX10_run_113 : am_rw mX10_run 113 = some (.getfield 301, 3, 10, 1) := by decide +kernel
theorem rX10_run_116 : am_rw mX10_run 116 = some (.iload_n 2, 1, 0, 0) := by decide +kernel
theorem rX10_run_117 : am_rw mX10_run 117 = some (.iadd, 1, 0, 0) := by decide +kernel
theorem rX10_run_118 : am_rw mX10_run 118 = some (.iastore, 1, 0, 0) := by decide +kernel
theorem rX10_run_119 : am_rw mX10_run 119 = some (.aload_n 0, 1, 0, 0) := by decide +kernel
theorem rX10_run_120 : am_rw mX10_run 120 = some (.getfield 59, 3, 10, 22) := by decide +kernel
theorem rX10_run_123 : am_rw mX10_run 123 = some (.aload_n 0, 1, 0, 0) := by decide +kernel
theorem rX10_run_124 : am_rw mX10_run 124 = some (.getfield 146, 3, 10, 17) := by decide +kernel
theorem rX10_run_127 : am_rw mX10_run 127 = some (.aload_n 0, 1, 0, 0) := by decide +kernel
theorem rX10_run_128 : am_rw mX10_run 128 = some (.aload_n 0, 1, 0, 0) := by decide +kernel
theorem rX10_run_129 : am_rw mX10_run 129 = some (.getfield 28, 3, 10, 10) := by decide +kernel
theorem rX10_run_132 : am_rw mX10_run 132 = some (.iload_n 1, 1, 0, 0) := by decide +kernel
theorem rX10_run_133 : am_rw mX10_run 133 = some (.iaload, 1, 0, 0) := by decide +kernel
theorem rX10_run_134 : am_rw mX10_run 134 = some (.aload_n 0, 1, 0, 0) := by decide +kernel
theorem rX10_run_135 : am_rw mX10_run 135 = some (.getfield 301, 3, 10, 1) := by decide +kernel
theorem rX10_run_138 : am_rw mX10_run 138 = some (.aload_n 0, 1, 0, 0) := by decide +kernel
theorem rX10_run_139 : am_rw mX10_run 139 = some (.getfield 301, 3, 10, 1) := by decide +kernel
theorem rX10_run_142 : am_rw mX10_run 142 = some (.iload_n 2, 1, 0, 0) := by decide +kernel
theorem rX10_run_143 : am_rw mX10_run 143 = some (.iadd, 1, 0, 0) := by decide +kernel
theorem rX10_run_144 : am_rw mX10_run 144 = some (.invokevirtual 304, 3, 149, 4) := by decide +kernel
theorem rX10_run_147 : am_rw mX10_run 147 = some (.iastore, 1, 0, 0) := by decide +kernel
theorem rX10_run_148 : am_rw mX10_run 148 = some (.aload_n 0, 1, 0, 0) := by decide +kernel
theorem rX10_run_149 : am_rw mX10_run 149 = some (.getfield 56, 3, 10, 21) := by decide +kernel
theorem rX10_run_152 : am_rw mX10_run 152 = some (.aload_n 0, 1, 0, 0) := by decide +kernel
theorem rX10_run_153 : am_rw mX10_run 153 = some (.getfield 146, 3, 10, 17) := by decide +kernel
theorem rX10_run_156 : am_rw mX10_run 156 = some (.aload_n 0, 1, 0, 0) := by decide +kernel
theorem rX10_run_157 : am_rw mX10_run 157 = some (.aload_n 0, 1, 0, 0) := by decide +kernel
theorem rX10_run_158 : am_rw mX10_run 158 = some (.getfield 28, 3, 10, 10) := by decide +kernel
theorem rX10_run_161 : am_rw mX10_run 161 = some (.iload_n 1, 1, 0, 0) := by decide +kernel
theorem rX10_run_162 : am_rw mX10_run 162 = some (.iaload, 1, 0, 0) := by decide +kernel
theorem rX10_run_163 : am_rw mX10_run 163 = some (.aload_n 0, 1, 0, 0) := by decide +kernel
theorem rX10_run_164 : am_rw mX10_run 164 = some (.getfield 59, 3, 10, 22) := by decide +kernel
theorem rX10_run_167 : am_rw mX10_run 167 = some (.aload_n 0, 1, 0, 0) := by decide +kernel
theorem rX10_run_168 : am_rw mX10_run 168 = some (.getfield 146, 3, 10, 17) := by decide +kernel
theorem rX10_run_171 : am_rw mX10_run 171 = some (.iaload, 1, 0, 0) := by decide +kernel
theorem rX10_run_172 : am_rw mX10_run 172 = some (.invokevirtual 292, 3, 145, 3) := by decide +kernel
theorem rX10_run_175 : am_rw mX10_run 175 = some (.fastore, 1, 0, 0) := by decide +kernel
theorem rX10_run_176 : am_rw mX10_run 176 = some (.aload_n 0, 1, 0, 0) := by decide +kernel
theorem rX10_run_177 : am_rw mX10_run 177 = some (.getfield 62, 3, 10, 23) := by decide +kernel
theorem rX10_run_180 : am_rw mX10_run 180 = some (.aload_n 0, 1, 0, 0) := by decide +kernel
theorem rX10_run_181 : am_rw mX10_run 181 = some (.getfield 146, 3, 10, 17) := by decide +kernel
theorem rX10_run_184 : am_rw mX10_run 184 = some (.aload_n 0, 1, 0, 0) := by decide +kernel
theorem rX10_run_185 : am_rw mX10_run 185 = some (.getfield 274, 3, 10, 14) := by decide +kernel
theorem rX10_run_188 : am_rw mX10_run 188 = some (.iastore, 1, 0, 0) := by decide +kernel
theorem rX10_run_189 : am_rw mX10_run 189 = some (.aload_n 0, 1, 0, 0) := by decide +kernel
theorem rX10_run_190 : am_rw mX10_run 190 = some (.dup, 1, 0, 0) := by decide +kernel
theorem rX10_run_191 : am_rw mX10_run 191 = some (.getfield 146, 3, 10, 17) := by decide +kernel
theorem rX10_run_194 : am_rw mX10_run 194 = some (.iconst 1, 1, 1, 0) := by decide +kernel
theorem rX10_run_195 : am_rw mX10_run 195 = some (.iadd, 1, 0, 0) := by decide +kernel
theorem rX10_run_196 : am_rw mX10_run 196 = some (.putfield 146, 3, 10, 17) := by decide +kernel
theorem rX10_run_199 : am_rw mX10_run 199 = some (.aload_n 0, 1, 0, 0) := by decide +kernel
theorem rX10_run_200 : am_rw mX10_run 200 = some (.getfield 146, 3, 10, 17) := by decide +kernel
theorem rX10_run_203 : am_rw mX10_run 203 = some (.iconst 1, 1, 1, 0) := by decide +kernel
theorem rX10_run_204 : am_rw mX10_run 204 = some (.isub, 1, 0, 0) := by decide +kernel
theorem rX10_run_205 : am_rw mX10_run 205 = some (.ireturn, 1, 0, 0) := by decide +kernel
theorem rX10_gaugesOf_0 : am_rw mX10_gaugesOf 0 = some (.aload_n 0, 1, 0, 0) := by decide +kernel
theorem rX10_gaugesOf_1 : am_rw mX10_gaugesOf 1 = some (.iload_n 1, 1, 0, 0) := by decide +kernel
theorem rX10_gaugesOf_2 : am_rw mX10_gaugesOf 2 = some (.invokevirtual 281, 3, 143, 2) := by decide +kernel
theorem rX10_gaugesOf_5 : am_rw mX10_gaugesOf 5 = some (.lstore_n 2, 1, 0, 0) := by decide +kernel
theorem rX10_gaugesOf_6 : am_rw mX10_gaugesOf 6 = some (.iconst 0, 1, 0, 0) := by decide +kernel
theorem rX10_gaugesOf_7 : am_rw mX10_gaugesOf 7 = some (.istore 4, 2, 0, 0) := by decide +kernel
theorem rX10_gaugesOf_9 : am_rw mX10_gaugesOf 9 = some (.iconst 0, 1, 0, 0) := by decide +kernel
theorem rX10_gaugesOf_10 : am_rw mX10_gaugesOf 10 = some (.istore 5, 2, 0, 0) := by decide +kernel
theorem rX10_gaugesOf_12 : am_rw mX10_gaugesOf 12 = some (.iload 5, 2, 0, 0) := by decide +kernel
theorem rX10_gaugesOf_14 : am_rw mX10_gaugesOf 14 = some (.iload_n 1, 1, 0, 0) := by decide +kernel
theorem rX10_gaugesOf_15 : am_rw mX10_gaugesOf 15 = some (.if_icmp .gt 36, 3, 51, 0) := by decide +kernel
theorem rX10_gaugesOf_18 : am_rw mX10_gaugesOf 18 = some (.iload 4, 2, 0, 0) := by decide +kernel
theorem rX10_gaugesOf_20 : am_rw mX10_gaugesOf 20 = some (.lload_n 2, 1, 0, 0) := by decide +kernel
theorem rX10_gaugesOf_21 : am_rw mX10_gaugesOf 21 = some (.iload 5, 2, 0, 0) := by decide +kernel
theorem rX10_gaugesOf_23 : am_rw mX10_gaugesOf 23 = some (.lshr, 1, 0, 0) := by decide +kernel
theorem rX10_gaugesOf_24 : am_rw mX10_gaugesOf 24 = some (.lconst 1, 1, 0, 0) := by decide +kernel
theorem rX10_gaugesOf_25 : am_rw mX10_gaugesOf 25 = some (.land, 1, 0, 0) := by decide +kernel
theorem rX10_gaugesOf_26 : am_rw mX10_gaugesOf 26 = some (.lconst 1, 1, 0, 0) := by decide +kernel
theorem rX10_gaugesOf_27 : am_rw mX10_gaugesOf 27 = some (.lcmp, 1, 0, 0) := by decide +kernel
theorem rX10_gaugesOf_28 : am_rw mX10_gaugesOf 28 = some (.ifCond .ne 13, 3, 41, 0) := by decide +kernel
theorem rX10_gaugesOf_31 : am_rw mX10_gaugesOf 31 = some (.aload_n 0, 1, 0, 0) := by decide +kernel
theorem rX10_gaugesOf_32 : am_rw mX10_gaugesOf 32 = some (.iload 5, 2, 0, 0) := by decide +kernel
theorem rX10_gaugesOf_34 : am_rw mX10_gaugesOf 34 = some (.iconst 1, 1, 1, 0) := by decide +kernel
theorem rX10_gaugesOf_35 : am_rw mX10_gaugesOf 35 = some (.invokevirtual 239, 3, 129, 3) := by decide +kernel
theorem rX10_gaugesOf_38 : am_rw mX10_gaugesOf 38 = some (.goto 4, 3, 42, 0) := by decide +kernel
theorem rX10_gaugesOf_41 : am_rw mX10_gaugesOf 41 = some (.iconst 0, 1, 0, 0) := by decide +kernel
theorem rX10_gaugesOf_42 : am_rw mX10_gaugesOf 42 = some (.ior, 1, 0, 0) := by decide +kernel
theorem rX10_gaugesOf_43 : am_rw mX10_gaugesOf 43 = some (.istore 4, 2, 0, 0) := by decide +kernel
theorem rX10_gaugesOf_45 : am_rw mX10_gaugesOf 45 = some (.iinc 5 1, 3, 0, 0) := by decide +kernel
theorem rX10_gaugesOf_48 : am_rw mX10_gaugesOf 48 = some (.goto (-36), 3, 12, 0) := by decide +kernel
theorem rX10_gaugesOf_51 : am_rw mX10_gaugesOf 51 = some (.iload 4, 2, 0, 0) := by decide +kernel
theorem rX10_gaugesOf_53 : am_rw mX10_gaugesOf 53 = some (.ireturn, 1, 0, 0) := by decide +kernel
theorem rX10_whyOf_0 : am_rw mX10_whyOf 0 = some (.aload_n 0, 1, 0, 0) := by decide +kernel
theorem rX10_whyOf_1 : am_rw mX10_whyOf 1 = some (.getfield 47, 3, 10, 18) := by decide +kernel
theorem rX10_whyOf_4 : am_rw mX10_whyOf 4 = some (.iload_n 1, 1, 0, 0) := by decide +kernel
theorem rX10_whyOf_5 : am_rw mX10_whyOf 5 = some (.iaload, 1, 0, 0) := by decide +kernel
theorem rX10_whyOf_6 : am_rw mX10_whyOf 6 = some (.istore_n 2, 1, 0, 0) := by decide +kernel
theorem rX10_whyOf_7 : am_rw mX10_whyOf 7 = some (.aload_n 0, 1, 0, 0) := by decide +kernel
theorem rX10_whyOf_8 : am_rw mX10_whyOf 8 = some (.iload_n 2, 1, 0, 0) := by decide +kernel
theorem rX10_whyOf_9 : am_rw mX10_whyOf 9 = some (.invokevirtual 308, 3, 151, 2) := by decide +kernel
theorem rX10_whyOf_12 : am_rw mX10_whyOf 12 = some (.istore_n 3, 1, 0, 0) := by decide +kernel
theorem rX10_whyOf_13 : am_rw mX10_whyOf 13 = some (.iconst 0, 1, 0, 0) := by decide +kernel
theorem rX10_whyOf_14 : am_rw mX10_whyOf 14 = some (.istore 4, 2, 0, 0) := by decide +kernel
theorem rX10_whyOf_16 : am_rw mX10_whyOf 16 = some (.iconst 0, 1, 0, 0) := by decide +kernel
theorem rX10_whyOf_17 : am_rw mX10_whyOf 17 = some (.istore 5, 2, 0, 0) := by decide +kernel
theorem rX10_whyOf_19 : am_rw mX10_whyOf 19 = some (.iload 5, 2, 0, 0) := by decide +kernel
theorem rX10_whyOf_21 : am_rw mX10_whyOf 21 = some (.sipush 603, 3, 603, 0) := by decide +kernel
theorem rX10_whyOf_24 : am_rw mX10_whyOf 24 = some (.if_icmp .ge 78, 3, 102, 0) := by decide +kernel
theorem rX10_whyOf_27 : am_rw mX10_whyOf 27 = some (.iload_n 3, 1, 0, 0) := by decide +kernel
theorem rX10_whyOf_28 : am_rw mX10_whyOf 28 = some (.iload 5, 2, 0, 0) := by decide +kernel
theorem rX10_whyOf_30 : am_rw mX10_whyOf 30 = some (.sipush 201, 3, 201, 0) := by decide +kernel
theorem rX10_whyOf_33 : am_rw mX10_whyOf 33 = some (.idiv, 1, 0, 0) := by decide +kernel
theorem rX10_whyOf_34 : am_rw mX10_whyOf 34 = some (.ishr, 1, 0, 0) := by decide +kernel
theorem rX10_whyOf_35 : am_rw mX10_whyOf 35 = some (.iconst 1, 1, 1, 0) := by decide +kernel
theorem rX10_whyOf_36 : am_rw mX10_whyOf 36 = some (.iand, 1, 0, 0) := by decide +kernel
theorem rX10_whyOf_37 : am_rw mX10_whyOf 37 = some (.iconst 1, 1, 1, 0) := by decide +kernel
theorem rX10_whyOf_38 : am_rw mX10_whyOf 38 = some (.if_icmp .ne 22, 3, 60, 0) := by decide +kernel
theorem rX10_whyOf_41 : am_rw mX10_whyOf 41 = some (.iload 5, 2, 0, 0) := by decide +kernel
theorem rX10_whyOf_43 : am_rw mX10_whyOf 43 = some (.sipush 201, 3, 201, 0) := by decide +kernel
theorem rX10_whyOf_46 : am_rw mX10_whyOf 46 = some (.irem, 1, 0, 0) := by decide +kernel
theorem rX10_whyOf_47 : am_rw mX10_whyOf 47 = some (.aload_n 0, 1, 0, 0) := by decide +kernel
theorem rX10_whyOf_48 : am_rw mX10_whyOf 48 = some (.getfield 53, 3, 10, 20) := by decide +kernel
theorem rX10_whyOf_51 : am_rw mX10_whyOf 51 = some (.iload_n 1, 1, 0, 0) := by decide +kernel
theorem rX10_whyOf_52 : am_rw mX10_whyOf 52 = some (.iaload, 1, 0, 0) := by decide +kernel
theorem rX10_whyOf_53 : am_rw mX10_whyOf 53 = some (.if_icmp .gt 7, 3, 60, 0) := by decide +kernel
theorem rX10_whyOf_56 : am_rw mX10_whyOf 56 = some (.iconst 1, 1, 1, 0) := by decide +kernel
theorem rX10_whyOf_57 : am_rw mX10_whyOf 57 = some (.goto 4, 3, 61, 0) := by decide +kernel
theorem rX10_whyOf_60 : am_rw mX10_whyOf 60 = some (.iconst 0, 1, 0, 0) := by decide +kernel
theorem rX10_whyOf_61 : am_rw mX10_whyOf 61 = some (.istore 6, 2, 0, 0) := by decide +kernel
theorem rX10_whyOf_63 : am_rw mX10_whyOf 63 = some (.iload 4, 2, 0, 0) := by decide +kernel
theorem rX10_whyOf_65 : am_rw mX10_whyOf 65 = some (.ifCond .ne 24, 3, 89, 0) := by decide +kernel
theorem rX10_whyOf_68 : am_rw mX10_whyOf 68 = some (.iload 6, 2, 0, 0) := by decide +kernel
theorem rX10_whyOf_70 : am_rw mX10_whyOf 70 = some (.ifCond .eq 23, 3, 93, 0) := by decide +kernel
theorem rX10_whyOf_73 : am_rw mX10_whyOf 73 = some (.aload_n 0, 1, 0, 0) := by decide +kernel
theorem rX10_whyOf_74 : am_rw mX10_whyOf 74 = some (.getfield 37, 3, 10, 13) := by decide +kernel
theorem rX10_whyOf_77 : am_rw mX10_whyOf 77 = some (.iload 5, 2, 0, 0) := by decide +kernel
theorem rX10_whyOf_79 : am_rw mX10_whyOf 79 = some (.iaload, 1, 0, 0) := by decide +kernel
theorem rX10_whyOf_80 : am_rw mX10_whyOf 80 = some (.aload_n 0, 1, 0, 0) := by decide +kernel
theorem rX10_whyOf_81 : am_rw mX10_whyOf 81 = some (.getfield 62, 3, 10, 23) := by decide +kernel
theorem rX10_whyOf_84 : am_rw mX10_whyOf 84 = some (.iload_n 1, 1, 0, 0) := by decide +kernel
theorem rX10_whyOf_85 : am_rw mX10_whyOf 85 = some (.iaload, 1, 0, 0) := by decide +kernel
theorem rX10_whyOf_86 : am_rw mX10_whyOf 86 = some (.if_icmp .le 7, 3, 93, 0) := by decide +kernel
theorem rX10_whyOf_89 : am_rw mX10_whyOf 89 = some (.iconst 1, 1, 1, 0) := by decide +kernel
theorem rX10_whyOf_90 : am_rw mX10_whyOf 90 = some (.goto 4, 3, 94, 0) := by decide +kernel
theorem rX10_whyOf_93 : am_rw mX10_whyOf 93 = some (.iconst 0, 1, 0, 0) := by decide +kernel
theorem rX10_whyOf_94 : am_rw mX10_whyOf 94 = some (.istore 4, 2, 0, 0) := by decide +kernel
theorem rX10_whyOf_96 : am_rw mX10_whyOf 96 = some (.iinc 5 1, 3, 0, 0) := by decide +kernel
theorem rX10_whyOf_99 : am_rw mX10_whyOf 99 = some (.goto (-80), 3, 19, 0) := by decide +kernel
theorem rX10_whyOf_102 : am_rw mX10_whyOf 102 = some (.aload_n 0, 1, 0, 0) := by decide +kernel
theorem rX10_whyOf_103 : am_rw mX10_whyOf 103 = some (.getfield 28, 3, 10, 10) := by decide +kernel
theorem rX10_whyOf_106 : am_rw mX10_whyOf 106 = some (.aload_n 0, 1, 0, 0) := by decide +kernel
theorem rX10_whyOf_107 : am_rw mX10_whyOf 107 = some (.getfield 16, 3, 10, 6) := by decide +kernel
theorem rX10_whyOf_110 : am_rw mX10_whyOf 110 = some (.iload_n 2, 1, 0, 0) := by decide +kernel
theorem rX10_whyOf_111 : am_rw mX10_whyOf 111 = some (.iaload, 1, 0, 0) := by decide +kernel
theorem rX10_whyOf_112 : am_rw mX10_whyOf 112 = some (.iaload, 1, 0, 0) := by decide +kernel
theorem rX10_whyOf_113 : am_rw mX10_whyOf 113 = some (.iload_n 2, 1, 0, 0) := by decide +kernel
theorem rX10_whyOf_114 : am_rw mX10_whyOf 114 = some (.if_icmp .eq 7, 3, 121, 0) := by decide +kernel
theorem rX10_whyOf_117 : am_rw mX10_whyOf 117 = some (.iconst 1, 1, 1, 0) := by decide +kernel
theorem rX10_whyOf_118 : am_rw mX10_whyOf 118 = some (.goto 13, 3, 131, 0) := by decide +kernel
theorem rX10_whyOf_121 : am_rw mX10_whyOf 121 = some (.iload 4, 2, 0, 0) := by decide +kernel
theorem rX10_whyOf_123 : am_rw mX10_whyOf 123 = some (.ifCond .eq 7, 3, 130, 0) := by decide +kernel
theorem rX10_whyOf_126 : am_rw mX10_whyOf 126 = some (.iconst 2, 1, 2, 0) := by decide +kernel
theorem rX10_whyOf_127 : am_rw mX10_whyOf 127 = some (.goto 4, 3, 131, 0) := by decide +kernel
theorem rX10_whyOf_130 : am_rw mX10_whyOf 130 = some (.iconst 0, 1, 0, 0) := by decide +kernel
theorem rX10_whyOf_131 : am_rw mX10_whyOf 131 = some (.ireturn, 1, 0, 0) := by decide +kernel
theorem rX10_why_0 : am_rw mX10_why 0 = some (.aload_n 0, 1, 0, 0) := by decide +kernel
theorem rX10_why_1 : am_rw mX10_why 1 = some (.aload_n 0, 1, 0, 0) := by decide +kernel
theorem rX10_why_2 : am_rw mX10_why 2 = some (.iload_n 1, 1, 0, 0) := by decide +kernel
theorem rX10_why_3 : am_rw mX10_why 3 = some (.invokevirtual 311, 3, 107, 2) := by decide +kernel
theorem rX10_why_6 : am_rw mX10_why 6 = some (.ifCond .eq 7, 3, 13, 0) := by decide +kernel
theorem rX10_why_9 : am_rw mX10_why 9 = some (.iconst 0, 1, 0, 0) := by decide +kernel
theorem rX10_why_10 : am_rw mX10_why 10 = some (.goto 4, 3, 14, 0) := by decide +kernel
theorem rX10_why_13 : am_rw mX10_why 13 = some (.iconst 1, 1, 1, 0) := by decide +kernel
theorem rX10_why_14 : am_rw mX10_why 14 = some (.invokevirtual 159, 3, 102, 2) := by decide +kernel
theorem rX10_why_17 : am_rw mX10_why 17 = some (.ifCond .eq 11, 3, 28, 0) := by decide +kernel
theorem rX10_why_20 : am_rw mX10_why 20 = some (.aload_n 0, 1, 0, 0) := by decide +kernel
theorem rX10_why_21 : am_rw mX10_why 21 = some (.iload_n 1, 1, 0, 0) := by decide +kernel
theorem rX10_why_22 : am_rw mX10_why 22 = some (.invokevirtual 314, 3, 152, 2) := by decide +kernel
theorem rX10_why_25 : am_rw mX10_why 25 = some (.goto 4, 3, 29, 0) := by decide +kernel
theorem rX10_why_28 : am_rw mX10_why 28 = some (.iconst 0, 1, 0, 0) := by decide +kernel
theorem rX10_why_29 : am_rw mX10_why 29 = some (.ireturn, 1, 0, 0) := by decide +kernel
theorem rX10_peak_0 : am_rw mX10_peak 0 = some (.aload_n 0, 1, 0, 0) := by decide +kernel
theorem rX10_peak_1 : am_rw mX10_peak 1 = some (.aload_n 0, 1, 0, 0) := by decide +kernel
theorem rX10_peak_2 : am_rw mX10_peak 2 = some (.iload_n 1, 1, 0, 0) := by decide +kernel
theorem rX10_peak_3 : am_rw mX10_peak 3 = some (.invokevirtual 311, 3, 107, 2) := by decide +kernel
theorem rX10_peak_6 : am_rw mX10_peak 6 = some (.ifCond .eq 7, 3, 13, 0) := by decide +kernel
theorem rX10_peak_9 : am_rw mX10_peak 9 = some (.iconst 0, 1, 0, 0) := by decide +kernel
theorem rX10_peak_10 : am_rw mX10_peak 10 = some (.goto 4, 3, 14, 0) := by decide +kernel
theorem rX10_peak_13 : am_rw mX10_peak 13 = some (.iconst 1, 1, 1, 0) := by decide +kernel
theorem rX10_peak_14 : am_rw mX10_peak 14 = some (.invokevirtual 159, 3, 102, 2) := by decide +kernel
theorem rX10_peak_17 : am_rw mX10_peak 17 = some (.ifCond .eq 15, 3, 32, 0) := by decide +kernel
theorem rX10_peak_20 : am_rw mX10_peak 20 = some (.aload_n 0, 1, 0, 0) := by decide +kernel
theorem rX10_peak_21 : am_rw mX10_peak 21 = some (.getfield 56, 3, 10, 21) := by decide +kernel
theorem rX10_peak_24 : am_rw mX10_peak 24 = some (.iload_n 1, 1, 0, 0) := by decide +kernel
theorem rX10_peak_25 : am_rw mX10_peak 25 = some (.faload, 1, 0, 0) := by decide +kernel
theorem rX10_peak_26 : am_rw mX10_peak 26 = some (.invokestatic 295, 3, 177, 1) := by decide +kernel
theorem rX10_peak_29 : am_rw mX10_peak 29 = some (.goto 4, 3, 33, 0) := by decide +kernel
theorem rX10_peak_32 : am_rw mX10_peak 32 = some (.iconst 0, 1, 0, 0) := by decide +kernel
theorem rX10_peak_33 : am_rw mX10_peak 33 = some (.ireturn, 1, 0, 0) := by decide +kernel
theorem rX10_peakHour_0 : am_rw mX10_peakHour 0 = some (.aload_n 0, 1, 0, 0) := by decide +kernel
theorem rX10_peakHour_1 : am_rw mX10_peakHour 1 = some (.aload_n 0, 1, 0, 0) := by decide +kernel
theorem rX10_peakHour_2 : am_rw mX10_peakHour 2 = some (.iload_n 1, 1, 0, 0) := by decide +kernel
theorem rX10_peakHour_3 : am_rw mX10_peakHour 3 = some (.invokevirtual 311, 3, 107, 2) := by decide +kernel
theorem rX10_peakHour_6 : am_rw mX10_peakHour 6 = some (.ifCond .eq 7, 3, 13, 0) := by decide +kernel
theorem rX10_peakHour_9 : am_rw mX10_peakHour 9 = some (.iconst 0, 1, 0, 0) := by decide +kernel
theorem rX10_peakHour_10 : am_rw mX10_peakHour 10 = some (.goto 4, 3, 14, 0) := by decide +kernel
theorem rX10_peakHour_13 : am_rw mX10_peakHour 13 = some (.iconst 1, 1, 1, 0) := by decide +kernel
theorem rX10_peakHour_14 : am_rw mX10_peakHour 14 = some (.invokevirtual 159, 3, 102, 2) := by decide +kernel
theorem rX10_peakHour_17 : am_rw mX10_peakHour 17 = some (.ifCond .eq 12, 3, 29, 0) := by decide +kernel
theorem rX10_peakHour_20 : am_rw mX10_peakHour 20 = some (.aload_n 0, 1, 0, 0) := by decide +kernel
theorem rX10_peakHour_21 : am_rw mX10_peakHour 21 = some (.getfield 59, 3, 10, 22) := by decide +kernel
theorem rX10_peakHour_24 : am_rw mX10_peakHour 24 = some (.iload_n 1, 1, 0, 0) := by decide +kernel
theorem rX10_peakHour_25 : am_rw mX10_peakHour 25 = some (.iaload, 1, 0, 0) := by decide +kernel
theorem rX10_peakHour_26 : am_rw mX10_peakHour 26 = some (.goto 4, 3, 30, 0) := by decide +kernel
theorem rX10_peakHour_29 : am_rw mX10_peakHour 29 = some (.iconst 0, 1, 0, 0) := by decide +kernel
theorem rX10_peakHour_30 : am_rw mX10_peakHour 30 = some (.ireturn, 1, 0, 0) := by decide +kernel
theorem rX10_peakAnew_0 : am_rw mX10_peakAnew 0 = some (.aload_n 0, 1, 0, 0) := by decide +kernel
theorem rX10_peakAnew_1 : am_rw mX10_peakAnew 1 = some (.aload_n 0, 1, 0, 0) := by decide +kernel
theorem rX10_peakAnew_2 : am_rw mX10_peakAnew 2 = some (.iload_n 1, 1, 0, 0) := by decide +kernel
theorem rX10_peakAnew_3 : am_rw mX10_peakAnew 3 = some (.invokevirtual 311, 3, 107, 2) := by decide +kernel
theorem rX10_peakAnew_6 : am_rw mX10_peakAnew 6 = some (.ifCond .eq 7, 3, 13, 0) := by decide +kernel
theorem rX10_peakAnew_9 : am_rw mX10_peakAnew 9 = some (.iconst 0, 1, 0, 0) := by decide +kernel
theorem rX10_peakAnew_10 : am_rw mX10_peakAnew 10 = some (.goto 4, 3, 14, 0) := by decide +kernel
theorem rX10_peakAnew_13 : am_rw mX10_peakAnew 13 = some (.iconst 1, 1, 1, 0) := by decide +kernel
theorem rX10_peakAnew_14 : am_rw mX10_peakAnew 14 = some (.invokevirtual 159, 3, 102, 2) := by decide +kernel
theorem rX10_peakAnew_17 : am_rw mX10_peakAnew 17 = some (.ifCond .ne 5, 3, 22, 0) := by decide +kernel
theorem rX10_peakAnew_20 : am_rw mX10_peakAnew 20 = some (.iconst 0, 1, 0, 0) := by decide +kernel
theorem rX10_peakAnew_21 : am_rw mX10_peakAnew 21 = some (.ireturn, 1, 0, 0) := by decide +kernel
theorem rX10_peakAnew_22 : am_rw mX10_peakAnew 22 = some (.aload_n 0, 1, 0, 0) := by decide +kernel
theorem rX10_peakAnew_23 : am_rw mX10_peakAnew 23 = some (.aload_n 0, 1, 0, 0) := by decide +kernel
theorem rX10_peakAnew_24 : am_rw mX10_peakAnew 24 = some (.getfield 47, 3, 10, 18) := by decide +kernel
theorem rX10_peakAnew_27 : am_rw mX10_peakAnew 27 = some (.iload_n 1, 1, 0, 0) := by decide +kernel
theorem rX10_peakAnew_28 : am_rw mX10_peakAnew 28 = some (.iaload, 1, 0, 0) := by decide +kernel
theorem rX10_peakAnew_29 : am_rw mX10_peakAnew 29 = some (.aload_n 0, 1, 0, 0) := by decide +kernel
theorem rX10_peakAnew_30 : am_rw mX10_peakAnew 30 = some (.aload_n 0, 1, 0, 0) := by decide +kernel
theorem rX10_peakAnew_31 : am_rw mX10_peakAnew 31 = some (.getfield 47, 3, 10, 18) := by decide +kernel
theorem rX10_peakAnew_34 : am_rw mX10_peakAnew 34 = some (.iload_n 1, 1, 0, 0) := by decide +kernel
theorem rX10_peakAnew_35 : am_rw mX10_peakAnew 35 = some (.iaload, 1, 0, 0) := by decide +kernel
theorem rX10_peakAnew_36 : am_rw mX10_peakAnew 36 = some (.aload_n 0, 1, 0, 0) := by decide +kernel
theorem rX10_peakAnew_37 : am_rw mX10_peakAnew 37 = some (.getfield 50, 3, 10, 19) := by decide +kernel
theorem rX10_peakAnew_40 : am_rw mX10_peakAnew 40 = some (.iload_n 1, 1, 0, 0) := by decide +kernel
theorem rX10_peakAnew_41 : am_rw mX10_peakAnew 41 = some (.iaload, 1, 0, 0) := by decide +kernel
theorem rX10_peakAnew_42 : am_rw mX10_peakAnew 42 = some (.aload_n 0, 1, 0, 0) := by decide +kernel
theorem rX10_peakAnew_43 : am_rw mX10_peakAnew 43 = some (.getfield 53, 3, 10, 20) := by decide +kernel
theorem rX10_peakAnew_46 : am_rw mX10_peakAnew 46 = some (.iload_n 1, 1, 0, 0) := by decide +kernel
theorem rX10_peakAnew_47 : am_rw mX10_peakAnew 47 = some (.iaload, 1, 0, 0) := by decide +kernel
theorem rX10_peakAnew_48 : am_rw mX10_peakAnew 48 = some (.invokevirtual 304, 3, 149, 4) := by decide +kernel
theorem rX10_peakAnew_51 : am_rw mX10_peakAnew 51 = some (.invokevirtual 292, 3, 145, 3) := by decide +kernel
theorem rX10_peakAnew_54 : am_rw mX10_peakAnew 54 = some (.invokestatic 295, 3, 177, 1) := by decide +kernel
theorem rX10_peakAnew_57 : am_rw mX10_peakAnew 57 = some (.ireturn, 1, 0, 0) := by decide +kernel
theorem rX10_build_0 : am_rw mX10_build 0 = some (.iload_n 1, 1, 0, 0) := by decide +kernel
theorem rX10_build_1 : am_rw mX10_build 1 = some (.invokestatic 317, 3, 105, 1) := by decide +kernel
theorem rX10_build_4 : am_rw mX10_build 4 = some (.ifCond .eq 14, 3, 18, 0) := by decide +kernel
theorem rX10_build_7 : am_rw mX10_build 7 = some (.iload_n 2, 1, 0, 0) := by decide +kernel
theorem rX10_build_8 : am_rw mX10_build 8 = some (.invokestatic 256, 3, 104, 1) := by decide +kernel
theorem rX10_build_11 : am_rw mX10_build 11 = some (.ifCond .eq 7, 3, 18, 0) := by decide +kernel
theorem rX10_build_14 : am_rw mX10_build 14 = some (.iconst 1, 1, 1, 0) := by decide +kernel
theorem rX10_build_15 : am_rw mX10_build 15 = some (.goto 4, 3, 19, 0) := by decide +kernel
theorem rX10_build_18 : am_rw mX10_build 18 = some (.iconst 0, 1, 0, 0) := by decide +kernel
theorem rX10_build_19 : am_rw mX10_build 19 = some (.istore 4, 2, 0, 0) := by decide +kernel
theorem rX10_build_21 : am_rw mX10_build 21 = some (.aload_n 0, 1, 0, 0) := by decide +kernel
theorem rX10_build_22 : am_rw mX10_build 22 = some (.iload 4, 2, 0, 0) := by decide +kernel
theorem rX10_build_24 : am_rw mX10_build 24 = some (.ifCond .ne 7, 3, 31, 0) := by decide +kernel
theorem rX10_build_27 : am_rw mX10_build 27 = some (.iconst 1, 1, 1, 0) := by decide +kernel
theorem rX10_build_28 : am_rw mX10_build 28 = some (.goto 32, 3, 60, 0) := by decide +kernel
theorem rX10_build_31 : am_rw mX10_build 31 = some (.iload_n 3, 1, 0, 0) := by decide +kernel
theorem rX10_build_32 : am_rw mX10_build 32 = some (.iconst 1, 1, 1, 0) := by decide +kernel
theorem rX10_build_33 : am_rw mX10_build 33 = some (.ldc_w 320, 3, 0, 100000) := by decide +kernel
theorem rX10_build_36 : am_rw mX10_build 36 = some (.invokestatic 139, 3, 103, 3) := by decide +kernel
theorem rX10_build_39 : am_rw mX10_build 39 = some (.ifCond .ne 7, 3, 46, 0) := by decide +kernel
theorem rX10_build_42 : am_rw mX10_build 42 = some (.iconst 2, 1, 2, 0) := by decide +kernel
theorem rX10_build_43 : am_rw mX10_build 43 = some (.goto 17, 3, 60, 0) := by decide +kernel
theorem rX10_build_46 : am_rw mX10_build 46 = some (.aload_n 0, 1, 0, 0) := by decide +kernel
theorem rX10_build_47 : am_rw mX10_build 47 = some (.getfield 65, 3, 10, 24) := by decide +kernel
theorem rX10_build_50 : am_rw mX10_build 50 = some (.iload_n 1, 1, 0, 0) := by decide +kernel
theorem rX10_build_51 : am_rw mX10_build 51 = some (.baload, 1, 0, 0) := by decide +kernel
theorem rX10_build_52 : am_rw mX10_build 52 = some (.ifCond .eq 7, 3, 59, 0) := by decide +kernel
theorem rX10_build_55 : am_rw mX10_build 55 = some (.iconst 3, 1, 3, 0) := by decide +kernel
theorem rX10_build_56 : am_rw mX10_build 56 = some (.goto 4, 3, 60, 0) := by decide +kernel
theorem rX10_build_59 : am_rw mX10_build 59 = some (.iconst 0, 1, 0, 0) := by decide +kernel
theorem rX10_build_60 : am_rw mX10_build 60 = some (.invokevirtual 159, 3, 102, 2) := by decide +kernel
theorem rX10_build_63 : am_rw mX10_build 63 = some (.ifCond .eq 24, 3, 87, 0) := by decide +kernel
theorem rX10_build_66 : am_rw mX10_build 66 = some (.aload_n 0, 1, 0, 0) := by decide +kernel
theorem rX10_build_67 : am_rw mX10_build 67 = some (.getfield 65, 3, 10, 24) := by decide +kernel
theorem rX10_build_70 : am_rw mX10_build 70 = some (.iload_n 1, 1, 0, 0) := by decide +kernel
theorem rX10_build_71 : am_rw mX10_build 71 = some (.iconst 1, 1, 1, 0) := by decide +kernel
theorem rX10_build_72 : am_rw mX10_build 72 = some (.bastore, 1, 0, 0) := by decide +kernel
theorem rX10_build_73 : am_rw mX10_build 73 = some (.aload_n 0, 1, 0, 0) := by decide +kernel
theorem rX10_build_74 : am_rw mX10_build 74 = some (.getfield 69, 3, 10, 25) := by decide +kernel
theorem rX10_build_77 : am_rw mX10_build 77 = some (.iload_n 1, 1, 0, 0) := by decide +kernel
theorem rX10_build_78 : am_rw mX10_build 78 = some (.iload_n 2, 1, 0, 0) := by decide +kernel
theorem rX10_build_79 : am_rw mX10_build 79 = some (.iastore, 1, 0, 0) := by decide +kernel
theorem rX10_build_80 : am_rw mX10_build 80 = some (.aload_n 0, 1, 0, 0) := by decide +kernel
theorem rX10_build_81 : am_rw mX10_build 81 = some (.getfield 72, 3, 10, 26) := by decide +kernel
theorem rX10_build_84 : am_rw mX10_build 84 = some (.iload_n 1, 1, 0, 0) := by decide +kernel
theorem rX10_build_85 : am_rw mX10_build 85 = some (.iload_n 3, 1, 0, 0) := by decide +kernel
theorem rX10_build_86 : am_rw mX10_build 86 = some (.iastore, 1, 0, 0) := by decide +kernel
theorem rX10_build_87 : am_rw mX10_build 87 = some (.return_, 1, 0, 0) := by decide +kernel
theorem rX10_rule_0 : am_rw mX10_rule 0 = some (.iload_n 1, 1, 0, 0) := by decide +kernel
theorem rX10_rule_1 : am_rw mX10_rule 1 = some (.invokestatic 317, 3, 105, 1) := by decide +kernel
theorem rX10_rule_4 : am_rw mX10_rule 4 = some (.istore_n 2, 1, 0, 0) := by decide +kernel
theorem rX10_rule_5 : am_rw mX10_rule 5 = some (.aload_n 0, 1, 0, 0) := by decide +kernel
theorem rX10_rule_6 : am_rw mX10_rule 6 = some (.iload_n 2, 1, 0, 0) := by decide +kernel
theorem rX10_rule_7 : am_rw mX10_rule 7 = some (.ifCond .ne 7, 3, 14, 0) := by decide +kernel
theorem rX10_rule_10 : am_rw mX10_rule 10 = some (.iconst 1, 1, 1, 0) := by decide +kernel
theorem rX10_rule_11 : am_rw mX10_rule 11 = some (.goto 30, 3, 41, 0) := by decide +kernel
theorem rX10_rule_14 : am_rw mX10_rule 14 = some (.aload_n 0, 1, 0, 0) := by decide +kernel
theorem rX10_rule_15 : am_rw mX10_rule 15 = some (.iconst 1, 1, 1, 0) := by decide +kernel
theorem rX10_rule_16 : am_rw mX10_rule 16 = some (.invokevirtual 177, 3, 116, 2) := by decide +kernel
theorem rX10_rule_19 : am_rw mX10_rule 19 = some (.iconst (-1), 1, 1, 1) := by decide +kernel
theorem rX10_rule_20 : am_rw mX10_rule 20 = some (.if_icmp .eq 7, 3, 27, 0) := by decide +kernel
theorem rX10_rule_23 : am_rw mX10_rule 23 = some (.iconst 2, 1, 2, 0) := by decide +kernel
theorem rX10_rule_24 : am_rw mX10_rule 24 = some (.goto 17, 3, 41, 0) := by decide +kernel
theorem rX10_rule_27 : am_rw mX10_rule 27 = some (.aload_n 0, 1, 0, 0) := by decide +kernel
theorem rX10_rule_28 : am_rw mX10_rule 28 = some (.getfield 65, 3, 10, 24) := by decide +kernel
theorem rX10_rule_31 : am_rw mX10_rule 31 = some (.iload_n 1, 1, 0, 0) := by decide +kernel
theorem rX10_rule_32 : am_rw mX10_rule 32 = some (.baload, 1, 0, 0) := by decide +kernel
theorem rX10_rule_33 : am_rw mX10_rule 33 = some (.ifCond .eq 7, 3, 40, 0) := by decide +kernel
theorem rX10_rule_36 : am_rw mX10_rule 36 = some (.iconst 0, 1, 0, 0) := by decide +kernel
theorem rX10_rule_37 : am_rw mX10_rule 37 = some (.goto 4, 3, 41, 0) := by decide +kernel
theorem rX10_rule_40 : am_rw mX10_rule 40 = some (.iconst 3, 1, 3, 0) := by decide +kernel
theorem rX10_rule_41 : am_rw mX10_rule 41 = some (.invokevirtual 159, 3, 102, 2) := by decide +kernel
theorem rX10_rule_44 : am_rw mX10_rule 44 = some (.ifCond .eq 53, 3, 97, 0) := by decide +kernel
theorem rX10_rule_47 : am_rw mX10_rule 47 = some (.aload_n 0, 1, 0, 0) := by decide +kernel
theorem rX10_rule_48 : am_rw mX10_rule 48 = some (.getfield 78, 3, 10, 28) := by decide +kernel
theorem rX10_rule_51 : am_rw mX10_rule 51 = some (.iload_n 1, 1, 0, 0) := by decide +kernel
theorem rX10_rule_52 : am_rw mX10_rule 52 = some (.iconst 1, 1, 1, 0) := by decide +kernel
theorem rX10_rule_53 : am_rw mX10_rule 53 = some (.bastore, 1, 0, 0) := by decide +kernel
theorem rX10_rule_54 : am_rw mX10_rule 54 = some (.aload_n 0, 1, 0, 0) := by decide +kernel
theorem rX10_rule_55 : am_rw mX10_rule 55 = some (.getfield 81, 3, 10, 29) := by decide +kernel
theorem rX10_rule_58 : am_rw mX10_rule 58 = some (.iload_n 1, 1, 0, 0) := by decide +kernel
theorem rX10_rule_59 : am_rw mX10_rule 59 = some (.aload_n 0, 1, 0, 0) := by decide +kernel
theorem rX10_rule_60 : am_rw mX10_rule 60 = some (.getfield 156, 3, 10, 2) := by decide +kernel
theorem rX10_rule_63 : am_rw mX10_rule 63 = some (.iastore, 1, 0, 0) := by decide +kernel
theorem rX10_rule_64 : am_rw mX10_rule 64 = some (.iconst 0, 1, 0, 0) := by decide +kernel
theorem rX10_rule_65 : am_rw mX10_rule 65 = some (.istore_n 3, 1, 0, 0) := by decide +kernel
theorem rX10_rule_66 : am_rw mX10_rule 66 = some (.iload_n 3, 1, 0, 0) := by decide +kernel
theorem rX10_rule_67 : am_rw mX10_rule 67 = some (.aload_n 0, 1, 0, 0) := by decide +kernel
theorem rX10_rule_68 : am_rw mX10_rule 68 = some (.getfield 156, 3, 10, 2) := by decide +kernel
theorem rX10_rule_71 : am_rw mX10_rule 71 = some (.if_icmp .ge 26, 3, 97, 0) := by decide +kernel
theorem rX10_rule_74 : am_rw mX10_rule 74 = some (.aload_n 0, 1, 0, 0) := by decide +kernel
theorem rX10_rule_75 : am_rw mX10_rule 75 = some (.getfield 84, 3, 10, 30) := by decide +kernel
theorem rX10_rule_78 : am_rw mX10_rule 78 = some (.bipush 40, 2, 40, 0) := by decide +kernel
theorem rX10_rule_80 : am_rw mX10_rule 80 = some (.iload_n 1, 1, 0, 0) := by decide +kernel
theorem rX10_rule_81 : am_rw mX10_rule 81 = some (.imul, 1, 0, 0) := by decide +kernel
theorem rX10_rule_82 : am_rw mX10_rule 82 = some (.iload_n 3, 1, 0, 0) := by decide +kernel
theorem rX10_rule_83 : am_rw mX10_rule 83 = some (.iadd, 1, 0, 0) := by decide +kernel
theorem rX10_rule_84 : am_rw mX10_rule 84 = some (.aload_n 0, 1, 0, 0) := by decide +kernel
theorem rX10_rule_85 : am_rw mX10_rule 85 = some (.getfield 7, 3, 10, 3) := by decide +kernel
theorem rX10_rule_88 : am_rw mX10_rule 88 = some (.iload_n 3, 1, 0, 0) := by decide +kernel
theorem rX10_rule_89 : am_rw mX10_rule 89 = some (.iaload, 1, 0, 0) := by decide +kernel
theorem rX10_rule_90 : am_rw mX10_rule 90 = some (.iastore, 1, 0, 0) := by decide +kernel
theorem rX10_rule_91 : am_rw mX10_rule 91 = some (.iinc 3 1, 3, 0, 0) := by decide +kernel
theorem rX10_rule_94 : am_rw mX10_rule 94 = some (.goto (-28), 3, 66, 0) := by decide +kernel
theorem rX10_rule_97 : am_rw mX10_rule 97 = some (.return_, 1, 0, 0) := by decide +kernel
theorem rX10_isFor_0 : am_rw mX10_isFor 0 = some (.aload_n 0, 1, 0, 0) := by decide +kernel
theorem rX10_isFor_1 : am_rw mX10_isFor 1 = some (.iload_n 2, 1, 0, 0) := by decide +kernel
theorem rX10_isFor_2 : am_rw mX10_isFor 2 = some (.invokevirtual 314, 3, 152, 2) := by decide +kernel
theorem rX10_isFor_5 : am_rw mX10_isFor 5 = some (.ifCond .ne 27, 3, 32, 0) := by decide +kernel
theorem rX10_isFor_8 : am_rw mX10_isFor 8 = some (.aload_n 0, 1, 0, 0) := by decide +kernel
theorem rX10_isFor_9 : am_rw mX10_isFor 9 = some (.getfield 16, 3, 10, 6) := by decide +kernel
theorem rX10_isFor_12 : am_rw mX10_isFor 12 = some (.aload_n 0, 1, 0, 0) := by decide +kernel
theorem rX10_isFor_13 : am_rw mX10_isFor 13 = some (.getfield 47, 3, 10, 18) := by decide +kernel
theorem rX10_isFor_16 : am_rw mX10_isFor 16 = some (.iload_n 2, 1, 0, 0) := by decide +kernel
theorem rX10_isFor_17 : am_rw mX10_isFor 17 = some (.iaload, 1, 0, 0) := by decide +kernel
theorem rX10_isFor_18 : am_rw mX10_isFor 18 = some (.iaload, 1, 0, 0) := by decide +kernel
theorem rX10_isFor_19 : am_rw mX10_isFor 19 = some (.aload_n 0, 1, 0, 0) := by decide +kernel
theorem rX10_isFor_20 : am_rw mX10_isFor 20 = some (.getfield 69, 3, 10, 25) := by decide +kernel
theorem rX10_isFor_23 : am_rw mX10_isFor 23 = some (.iload_n 1, 1, 0, 0) := by decide +kernel
theorem rX10_isFor_24 : am_rw mX10_isFor 24 = some (.iaload, 1, 0, 0) := by decide +kernel
theorem rX10_isFor_25 : am_rw mX10_isFor 25 = some (.if_icmp .ne 7, 3, 32, 0) := by decide +kernel
theorem rX10_isFor_28 : am_rw mX10_isFor 28 = some (.iconst 1, 1, 1, 0) := by decide +kernel
theorem rX10_isFor_29 : am_rw mX10_isFor 29 = some (.goto 4, 3, 33, 0) := by decide +kernel
theorem rX10_isFor_32 : am_rw mX10_isFor 32 = some (.iconst 0, 1, 0, 0) := by decide +kernel
theorem rX10_isFor_33 : am_rw mX10_isFor 33 = some (.ireturn, 1, 0, 0) := by decide +kernel
theorem rX10_goBy_0 : am_rw mX10_goBy 0 = some (.iload_n 1, 1, 0, 0) := by decide +kernel
theorem rX10_goBy_1 : am_rw mX10_goBy 1 = some (.invokestatic 317, 3, 105, 1) := by decide +kernel
theorem rX10_goBy_4 : am_rw mX10_goBy 4 = some (.ifCond .eq 15, 3, 19, 0) := by decide +kernel
theorem rX10_goBy_7 : am_rw mX10_goBy 7 = some (.aload_n 0, 1, 0, 0) := by decide +kernel
theorem rX10_goBy_8 : am_rw mX10_goBy 8 = some (.iload_n 2, 1, 0, 0) := by decide +kernel
theorem rX10_goBy_9 : am_rw mX10_goBy 9 = some (.invokevirtual 311, 3, 107, 2) := by decide +kernel
theorem rX10_goBy_12 : am_rw mX10_goBy 12 = some (.ifCond .eq 7, 3, 19, 0) := by decide +kernel
theorem rX10_goBy_15 : am_rw mX10_goBy 15 = some (.iconst 1, 1, 1, 0) := by decide +kernel
theorem rX10_goBy_16 : am_rw mX10_goBy 16 = some (.goto 4, 3, 20, 0) := by decide +kernel
theorem rX10_goBy_19 : am_rw mX10_goBy 19 = some (.iconst 0, 1, 0, 0) := by decide +kernel
theorem rX10_goBy_20 : am_rw mX10_goBy 20 = some (.istore_n 3, 1, 0, 0) := by decide +kernel
theorem rX10_goBy_21 : am_rw mX10_goBy 21 = some (.aload_n 0, 1, 0, 0) := by decide +kernel
theorem rX10_goBy_22 : am_rw mX10_goBy 22 = some (.iload_n 3, 1, 0, 0) := by decide +kernel
theorem rX10_goBy_23 : am_rw mX10_goBy 23 = some (.ifCond .ne 7, 3, 30, 0) := by decide +kernel
theorem rX10_goBy_26 : am_rw mX10_goBy 26 = some (.iconst 1, 1, 1, 0) := by decide +kernel
theorem rX10_goBy_27 : am_rw mX10_goBy 27 = some (.goto 26, 3, 53, 0) := by decide +kernel
theorem rX10_goBy_30 : am_rw mX10_goBy 30 = some (.aload_n 0, 1, 0, 0) := by decide +kernel
theorem rX10_goBy_31 : am_rw mX10_goBy 31 = some (.getfield 65, 3, 10, 24) := by decide +kernel
theorem rX10_goBy_34 : am_rw mX10_goBy 34 = some (.iload_n 1, 1, 0, 0) := by decide +kernel
theorem rX10_goBy_35 : am_rw mX10_goBy 35 = some (.baload, 1, 0, 0) := by decide +kernel
theorem rX10_goBy_36 : am_rw mX10_goBy 36 = some (.ifCond .eq 16, 3, 52, 0) := by decide +kernel
theorem rX10_goBy_39 : am_rw mX10_goBy 39 = some (.aload_n 0, 1, 0, 0) := by decide +kernel
theorem rX10_goBy_40 : am_rw mX10_goBy 40 = some (.iload_n 1, 1, 0, 0) := by decide +kernel
theorem rX10_goBy_41 : am_rw mX10_goBy 41 = some (.iload_n 2, 1, 0, 0) := by decide +kernel
theorem rX10_goBy_42 : am_rw mX10_goBy 42 = some (.invokevirtual 321, 3, 159, 3) := by decide +kernel
theorem rX10_goBy_45 : am_rw mX10_goBy 45 = some (.ifCond .eq 7, 3, 52, 0) := by decide +kernel
theorem rX10_goBy_48 : am_rw mX10_goBy 48 = some (.iconst 0, 1, 0, 0) := by decide +kernel
theorem rX10_goBy_49 : am_rw mX10_goBy 49 = some (.goto 4, 3, 53, 0) := by decide +kernel
theorem rX10_goBy_52 : am_rw mX10_goBy 52 = some (.iconst 2, 1, 2, 0) := by decide +kernel
theorem rX10_goBy_53 : am_rw mX10_goBy 53 = some (.invokevirtual 159, 3, 102, 2) := by decide +kernel
theorem rX10_goBy_56 : am_rw mX10_goBy 56 = some (.ifCond .eq 10, 3, 66, 0) := by decide +kernel
theorem rX10_goBy_59 : am_rw mX10_goBy 59 = some (.aload_n 0, 1, 0, 0) := by decide +kernel
theorem rX10_goBy_60 : am_rw mX10_goBy 60 = some (.getfield 87, 3, 10, 31) := by decide +kernel
theorem rX10_goBy_63 : am_rw mX10_goBy 63 = some (.iload_n 1, 1, 0, 0) := by decide +kernel
theorem rX10_goBy_64 : am_rw mX10_goBy 64 = some (.iload_n 2, 1, 0, 0) := by decide +kernel
theorem rX10_goBy_65 : am_rw mX10_goBy 65 = some (.iastore, 1, 0, 0) := by decide +kernel
theorem rX10_goBy_66 : am_rw mX10_goBy 66 = some (.return_, 1, 0, 0) := by decide +kernel
theorem rX10_level_0 : am_rw mX10_level 0 = some (.aload_n 0, 1, 0, 0) := by decide +kernel
theorem rX10_level_1 : am_rw mX10_level 1 = some (.iload_n 1, 1, 0, 0) := by decide +kernel
theorem rX10_level_2 : am_rw mX10_level 2 = some (.invokestatic 317, 3, 105, 1) := by decide +kernel
theorem rX10_level_5 : am_rw mX10_level 5 = some (.ifCond .eq 7, 3, 12, 0) := by decide +kernel
theorem rX10_level_8 : am_rw mX10_level 8 = some (.iconst 0, 1, 0, 0) := by decide +kernel
theorem rX10_level_9 : am_rw mX10_level 9 = some (.goto 4, 3, 13, 0) := by decide +kernel
theorem rX10_level_12 : am_rw mX10_level 12 = some (.iconst 1, 1, 1, 0) := by decide +kernel
theorem rX10_level_13 : am_rw mX10_level 13 = some (.invokevirtual 159, 3, 102, 2) := by decide +kernel
theorem rX10_level_16 : am_rw mX10_level 16 = some (.ifCond .eq 15, 3, 31, 0) := by decide +kernel
theorem rX10_level_19 : am_rw mX10_level 19 = some (.aload_n 0, 1, 0, 0) := by decide +kernel
theorem rX10_level_20 : am_rw mX10_level 20 = some (.getfield 75, 3, 10, 27) := by decide +kernel
theorem rX10_level_23 : am_rw mX10_level 23 = some (.iload_n 1, 1, 0, 0) := by decide +kernel
theorem rX10_level_24 : am_rw mX10_level 24 = some (.faload, 1, 0, 0) := by decide +kernel
theorem rX10_level_25 : am_rw mX10_level 25 = some (.invokestatic 295, 3, 177, 1) := by decide +kernel
theorem rX10_level_28 : am_rw mX10_level 28 = some (.goto 4, 3, 32, 0) := by decide +kernel
theorem rX10_level_31 : am_rw mX10_level 31 = some (.iconst 0, 1, 0, 0) := by decide +kernel
theorem rX10_level_32 : am_rw mX10_level 32 = some (.ireturn, 1, 0, 0) := by decide +kernel
theorem rX10_below_0 : am_rw mX10_below 0 = some (.aload_n 0, 1, 0, 0) := by decide +kernel
theorem rX10_below_1 : am_rw mX10_below 1 = some (.iload_n 1, 1, 0, 0) := by decide +kernel
theorem rX10_below_2 : am_rw mX10_below 2 = some (.invokestatic 317, 3, 105, 1) := by decide +kernel
theorem rX10_below_5 : am_rw mX10_below 5 = some (.ifCond .ne 7, 3, 12, 0) := by decide +kernel
theorem rX10_below_8 : am_rw mX10_below 8 = some (.iconst 1, 1, 1, 0) := by decide +kernel
theorem rX10_below_9 : am_rw mX10_below 9 = some (.goto 22, 3, 31, 0) := by decide +kernel
theorem rX10_below_12 : am_rw mX10_below 12 = some (.iload_n 2, 1, 0, 0) := by decide +kernel
theorem rX10_below_13 : am_rw mX10_below 13 = some (.iconst 0, 1, 0, 0) := by decide +kernel
theorem rX10_below_14 : am_rw mX10_below 14 = some (.aload_n 0, 1, 0, 0) := by decide +kernel
theorem rX10_below_15 : am_rw mX10_below 15 = some (.getfield 301, 3, 10, 1) := by decide +kernel
theorem rX10_below_18 : am_rw mX10_below 18 = some (.iconst 1, 1, 1, 0) := by decide +kernel
theorem rX10_below_19 : am_rw mX10_below 19 = some (.isub, 1, 0, 0) := by decide +kernel
theorem rX10_below_20 : am_rw mX10_below 20 = some (.invokestatic 139, 3, 103, 3) := by decide +kernel
theorem rX10_below_23 : am_rw mX10_below 23 = some (.ifCond .eq 7, 3, 30, 0) := by decide +kernel
theorem rX10_below_26 : am_rw mX10_below 26 = some (.iconst 0, 1, 0, 0) := by decide +kernel
theorem rX10_below_27 : am_rw mX10_below 27 = some (.goto 4, 3, 31, 0) := by decide +kernel
theorem rX10_below_30 : am_rw mX10_below 30 = some (.iconst 2, 1, 2, 0) := by decide +kernel
theorem rX10_below_31 : am_rw mX10_below 31 = some (.invokevirtual 159, 3, 102, 2) := by decide +kernel
theorem rX10_below_34 : am_rw mX10_below 34 = some (.ifCond .eq 21, 3, 55, 0) := by decide +kernel
theorem rX10_below_37 : am_rw mX10_below 37 = some (.aload_n 0, 1, 0, 0) := by decide +kernel
theorem rX10_below_38 : am_rw mX10_below 38 = some (.getfield 90, 3, 10, 32) := by decide +kernel
theorem rX10_below_41 : am_rw mX10_below 41 = some (.sipush 201, 3, 201, 0) := by decide +kernel
theorem rX10_below_44 : am_rw mX10_below 44 = some (.iload_n 1, 1, 0, 0) := by decide +kernel
theorem rX10_below_45 : am_rw mX10_below 45 = some (.imul, 1, 0, 0) := by decide +kernel
theorem rX10_below_46 : am_rw mX10_below 46 = some (.iload_n 2, 1, 0, 0) := by decide +kernel
theorem rX10_below_47 : am_rw mX10_below 47 = some (.iadd, 1, 0, 0) := by decide +kernel
theorem rX10_below_48 : am_rw mX10_below 48 = some (.faload, 1, 0, 0) := by decide +kernel
theorem rX10_below_49 : am_rw mX10_below 49 = some (.invokestatic 295, 3, 177, 1) := by decide +kernel
theorem rX10_below_52 : am_rw mX10_below 52 = some (.goto 4, 3, 56, 0) := by decide +kernel
theorem rX10_below_55 : am_rw mX10_below 55 = some (.iconst 0, 1, 0, 0) := by decide +kernel
theorem rX10_below_56 : am_rw mX10_below 56 = some (.ireturn, 1, 0, 0) := by decide +kernel
theorem rX10_valley_0 : am_rw mX10_valley 0 = some (.iload_n 1, 1, 0, 0) := by decide +kernel
theorem rX10_valley_1 : am_rw mX10_valley 1 = some (.invokestatic 317, 3, 105, 1) := by decide +kernel
theorem rX10_valley_4 : am_rw mX10_valley 4 = some (.istore 5, 2, 0, 0) := by decide +kernel
theorem rX10_valley_6 : am_rw mX10_valley 6 = some (.iload_n 2, 1, 0, 0) := by decide +kernel
theorem rX10_valley_7 : am_rw mX10_valley 7 = some (.iconst 0, 1, 0, 0) := by decide +kernel
theorem rX10_valley_8 : am_rw mX10_valley 8 = some (.sipush 10000, 3, 10000, 0) := by decide +kernel
theorem rX10_valley_11 : am_rw mX10_valley 11 = some (.invokestatic 139, 3, 103, 3) := by decide +kernel
theorem rX10_valley_14 : am_rw mX10_valley 14 = some (.ifCond .eq 29, 3, 43, 0) := by decide +kernel
theorem rX10_valley_17 : am_rw mX10_valley 17 = some (.iload_n 3, 1, 0, 0) := by decide +kernel
theorem rX10_valley_18 : am_rw mX10_valley 18 = some (.iconst 1, 1, 1, 0) := by decide +kernel
theorem rX10_valley_19 : am_rw mX10_valley 19 = some (.ldc_w 320, 3, 0, 100000) := by decide +kernel
theorem rX10_valley_22 : am_rw mX10_valley 22 = some (.invokestatic 139, 3, 103, 3) := by decide +kernel
theorem rX10_valley_25 : am_rw mX10_valley 25 = some (.ifCond .eq 18, 3, 43, 0) := by decide +kernel
theorem rX10_valley_28 : am_rw mX10_valley 28 = some (.iload 4, 2, 0, 0) := by decide +kernel
theorem rX10_valley_30 : am_rw mX10_valley 30 = some (.iconst 0, 1, 0, 0) := by decide +kernel
theorem rX10_valley_31 : am_rw mX10_valley 31 = some (.bipush 12, 2, 12, 0) := by decide +kernel
theorem rX10_valley_33 : am_rw mX10_valley 33 = some (.invokestatic 139, 3, 103, 3) := by decide +kernel
theorem rX10_valley_36 : am_rw mX10_valley 36 = some (.ifCond .eq 7, 3, 43, 0) := by decide +kernel
theorem rX10_valley_39 : am_rw mX10_valley 39 = some (.iconst 1, 1, 1, 0) := by decide +kernel
theorem rX10_valley_40 : am_rw mX10_valley 40 = some (.goto 4, 3, 44, 0) := by decide +kernel
theorem rX10_valley_43 : am_rw mX10_valley 43 = some (.iconst 0, 1, 0, 0) := by decide +kernel
theorem rX10_valley_44 : am_rw mX10_valley 44 = some (.istore 6, 2, 0, 0) := by decide +kernel
theorem rX10_valley_46 : am_rw mX10_valley 46 = some (.aload_n 0, 1, 0, 0) := by decide +kernel
theorem rX10_valley_47 : am_rw mX10_valley 47 = some (.iload 5, 2, 0, 0) := by decide +kernel
theorem rX10_valley_49 : am_rw mX10_valley 49 = some (.ifCond .ne 7, 3, 56, 0) := by decide +kernel
theorem rX10_valley_52 : am_rw mX10_valley 52 = some (.iconst 1, 1, 1, 0) := by decide +kernel
theorem rX10_valley_53 : am_rw mX10_valley 53 = some (.goto 26, 3, 79, 0) := by decide +kernel
theorem rX10_valley_56 : am_rw mX10_valley 56 = some (.iload 6, 2, 0, 0) := by decide +kernel
theorem rX10_valley_58 : am_rw mX10_valley 58 = some (.ifCond .ne 7, 3, 65, 0) := by decide +kernel
theorem rX10_valley_61 : am_rw mX10_valley 61 = some (.iconst 2, 1, 2, 0) := by decide +kernel
theorem rX10_valley_62 : am_rw mX10_valley 62 = some (.goto 17, 3, 79, 0) := by decide +kernel
theorem rX10_valley_65 : am_rw mX10_valley 65 = some (.aload_n 0, 1, 0, 0) := by decide +kernel
theorem rX10_valley_66 : am_rw mX10_valley 66 = some (.getfield 65, 3, 10, 24) := by decide +kernel
theorem rX10_valley_69 : am_rw mX10_valley 69 = some (.iload_n 1, 1, 0, 0) := by decide +kernel
theorem rX10_valley_70 : am_rw mX10_valley 70 = some (.baload, 1, 0, 0) := by decide +kernel
theorem rX10_valley_71 : am_rw mX10_valley 71 = some (.ifCond .eq 7, 3, 78, 0) := by decide +kernel
theorem rX10_valley_74 : am_rw mX10_valley 74 = some (.iconst 0, 1, 0, 0) := by decide +kernel
theorem rX10_valley_75 : am_rw mX10_valley 75 = some (.goto 4, 3, 79, 0) := by decide +kernel
theorem rX10_valley_78 : am_rw mX10_valley 78 = some (.iconst 3, 1, 3, 0) := by decide +kernel
theorem rX10_valley_79 : am_rw mX10_valley 79 = some (.invokevirtual 159, 3, 102, 2) := by decide +kernel
theorem rX10_valley_82 : am_rw mX10_valley 82 = some (.ifCond .eq 32, 3, 114, 0) := by decide +kernel
theorem rX10_valley_85 : am_rw mX10_valley 85 = some (.aload_n 0, 1, 0, 0) := by decide +kernel
theorem rX10_valley_86 : am_rw mX10_valley 86 = some (.getfield 93, 3, 10, 33) := by decide +kernel
theorem rX10_valley_89 : am_rw mX10_valley 89 = some (.iload_n 1, 1, 0, 0) := by decide +kernel
theorem rX10_valley_90 : am_rw mX10_valley 90 = some (.iconst 1, 1, 1, 0) := by decide +kernel
theorem rX10_valley_91 : am_rw mX10_valley 91 = some (.bastore, 1, 0, 0) := by decide +kernel
theorem rX10_valley_92 : am_rw mX10_valley 92 = some (.aload_n 0, 1, 0, 0) := by decide +kernel
theorem rX10_valley_93 : am_rw mX10_valley 93 = some (.getfield 96, 3, 10, 34) := by decide +kernel
theorem rX10_valley_96 : am_rw mX10_valley 96 = some (.iload_n 1, 1, 0, 0) := by decide +kernel
theorem rX10_valley_97 : am_rw mX10_valley 97 = some (.iload_n 2, 1, 0, 0) := by decide +kernel
theorem rX10_valley_98 : am_rw mX10_valley 98 = some (.iastore, 1, 0, 0) := by decide +kernel
theorem rX10_valley_99 : am_rw mX10_valley 99 = some (.aload_n 0, 1, 0, 0) := by decide +kernel
theorem rX10_valley_100 : am_rw mX10_valley 100 = some (.getfield 99, 3, 10, 35) := by decide +kernel
theorem rX10_valley_103 : am_rw mX10_valley 103 = some (.iload_n 1, 1, 0, 0) := by decide +kernel
theorem rX10_valley_104 : am_rw mX10_valley 104 = some (.iload_n 3, 1, 0, 0) := by decide +kernel
theorem rX10_valley_105 : am_rw mX10_valley 105 = some (.iastore, 1, 0, 0) := by decide +kernel
theorem rX10_valley_106 : am_rw mX10_valley 106 = some (.aload_n 0, 1, 0, 0) := by decide +kernel
theorem rX10_valley_107 : am_rw mX10_valley 107 = some (.getfield 102, 3, 10, 36) := by decide +kernel
theorem rX10_valley_110 : am_rw mX10_valley 110 = some (.iload_n 1, 1, 0, 0) := by decide +kernel
theorem rX10_valley_111 : am_rw mX10_valley 111 = some (.iload 4, 2, 0, 0) := by decide +kernel
theorem rX10_valley_113 : am_rw mX10_valley 113 = some (.iastore, 1, 0, 0) := by decide +kernel
theorem rX10_valley_114 : am_rw mX10_valley 114 = some (.return_, 1, 0, 0) := by decide +kernel
theorem rX10_rings_0 : am_rw mX10_rings 0 = some (.iconst 0, 1, 0, 0) := by decide +kernel
theorem rX10_rings_1 : am_rw mX10_rings 1 = some (.istore_n 2, 1, 0, 0) := by decide +kernel
theorem rX10_rings_2 : am_rw mX10_rings 2 = some (.iconst 0, 1, 0, 0) := by decide +kernel
theorem rX10_rings_3 : am_rw mX10_rings 3 = some (.istore_n 3, 1, 0, 0) := by decide +kernel
theorem rX10_rings_4 : am_rw mX10_rings 4 = some (.iload_n 3, 1, 0, 0) := by decide +kernel
theorem rX10_rings_5 : am_rw mX10_rings 5 = some (.aload_n 0, 1, 0, 0) := by decide +kernel
theorem rX10_rings_6 : am_rw mX10_rings 6 = some (.getfield 324, 3, 10, 39) := by decide +kernel
theorem rX10_rings_9 : am_rw mX10_rings 9 = some (.if_icmp .ge 38, 3, 47, 0) := by decide +kernel
theorem rX10_rings_12 : am_rw mX10_rings 12 = some (.iload_n 2, 1, 0, 0) := by decide +kernel
theorem rX10_rings_13 : am_rw mX10_rings 13 = some (.ifCond .ne 22, 3, 35, 0) := by decide +kernel
theorem rX10_rings_16 : am_rw mX10_rings 16 = some (.aload_n 0, 1, 0, 0) := by decide +kernel
theorem rX10_rings_17 : am_rw mX10_rings 17 = some (.getfield 111, 3, 10, 40) := by decide +kernel
theorem rX10_rings_20 : am_rw mX10_rings 20 = some (.iload_n 3, 1, 0, 0) := by decide +kernel
theorem rX10_rings_21 : am_rw mX10_rings 21 = some (.iaload, 1, 0, 0) := by decide +kernel
theorem rX10_rings_22 : am_rw mX10_rings 22 = some (.iload_n 1, 1, 0, 0) := by decide +kernel
theorem rX10_rings_23 : am_rw mX10_rings 23 = some (.if_icmp .ne 16, 3, 39, 0) := by decide +kernel
theorem rX10_rings_26 : am_rw mX10_rings 26 = some (.aload_n 0, 1, 0, 0) := by decide +kernel
theorem rX10_rings_27 : am_rw mX10_rings 27 = some (.getfield 120, 3, 10, 43) := by decide +kernel
theorem rX10_rings_30 : am_rw mX10_rings 30 = some (.iload_n 3, 1, 0, 0) := by decide +kernel
theorem rX10_rings_31 : am_rw mX10_rings 31 = some (.iaload, 1, 0, 0) := by decide +kernel
theorem rX10_rings_32 : am_rw mX10_rings 32 = some (.ifCond .ne 7, 3, 39, 0) := by decide +kernel
theorem rX10_rings_35 : am_rw mX10_rings 35 = some (.iconst 1, 1, 1, 0) := by decide +kernel
theorem rX10_rings_36 : am_rw mX10_rings 36 = some (.goto 4, 3, 40, 0) := by decide +kernel
theorem rX10_rings_39 : am_rw mX10_rings 39 = some (.iconst 0, 1, 0, 0) := by decide +kernel
theorem rX10_rings_40 : am_rw mX10_rings 40 = some (.istore_n 2, 1, 0, 0) := by decide +kernel
theorem rX10_rings_41 : am_rw mX10_rings 41 = some (.iinc 3 1, 3, 0, 0) := by decide +kernel
theorem rX10_rings_44 : am_rw mX10_rings 44 = some (.goto (-40), 3, 4, 0) := by decide +kernel
theorem rX10_rings_47 : am_rw mX10_rings 47 = some (.iload_n 2, 1, 0, 0) := by decide +kernel
theorem rX10_rings_48 : am_rw mX10_rings 48 = some (.ireturn, 1, 0, 0) := by decide +kernel
theorem rX10_sound_0 : am_rw mX10_sound 0 = some (.iload_n 1, 1, 0, 0) := by decide +kernel
theorem rX10_sound_1 : am_rw mX10_sound 1 = some (.invokestatic 317, 3, 105, 1) := by decide +kernel
theorem rX10_sound_4 : am_rw mX10_sound 4 = some (.ifCond .eq 15, 3, 19, 0) := by decide +kernel
theorem rX10_sound_7 : am_rw mX10_sound 7 = some (.aload_n 0, 1, 0, 0) := by decide +kernel
theorem rX10_sound_8 : am_rw mX10_sound 8 = some (.iload_n 2, 1, 0, 0) := by decide +kernel
theorem rX10_sound_9 : am_rw mX10_sound 9 = some (.invokevirtual 311, 3, 107, 2) := by decide +kernel
theorem rX10_sound_12 : am_rw mX10_sound 12 = some (.ifCond .eq 7, 3, 19, 0) := by decide +kernel
theorem rX10_sound_15 : am_rw mX10_sound 15 = some (.iconst 1, 1, 1, 0) := by decide +kernel
theorem rX10_sound_16 : am_rw mX10_sound 16 = some (.goto 4, 3, 20, 0) := by decide +kernel
theorem rX10_sound_19 : am_rw mX10_sound 19 = some (.iconst 0, 1, 0, 0) := by decide +kernel
theorem rX10_sound_20 : am_rw mX10_sound 20 = some (.istore_n 3, 1, 0, 0) := by decide +kernel
theorem rX10_sound_21 : am_rw mX10_sound 21 = some (.iload_n 3, 1, 0, 0) := by decide +kernel
theorem rX10_sound_22 : am_rw mX10_sound 22 = some (.ifCond .eq 59, 3, 81, 0) := by decide +kernel
theorem rX10_sound_25 : am_rw mX10_sound 25 = some (.aload_n 0, 1, 0, 0) := by decide +kernel
theorem rX10_sound_26 : am_rw mX10_sound 26 = some (.getfield 93, 3, 10, 33) := by decide +kernel
theorem rX10_sound_29 : am_rw mX10_sound 29 = some (.iload_n 1, 1, 0, 0) := by decide +kernel
theorem rX10_sound_30 : am_rw mX10_sound 30 = some (.baload, 1, 0, 0) := by decide +kernel
theorem rX10_sound_31 : am_rw mX10_sound 31 = some (.ifCond .eq 50, 3, 81, 0) := by decide +kernel
theorem rX10_sound_34 : am_rw mX10_sound 34 = some (.aload_n 0, 1, 0, 0) := by decide +kernel
theorem rX10_sound_35 : am_rw mX10_sound 35 = some (.iload_n 1, 1, 0, 0) := by decide +kernel
theorem rX10_sound_36 : am_rw mX10_sound 36 = some (.iload_n 2, 1, 0, 0) := by decide +kernel
theorem rX10_sound_37 : am_rw mX10_sound 37 = some (.invokevirtual 321, 3, 159, 3) := by decide +kernel
theorem rX10_sound_40 : am_rw mX10_sound 40 = some (.ifCond .eq 41, 3, 81, 0) := by decide +kernel
theorem rX10_sound_43 : am_rw mX10_sound 43 = some (.aload_n 0, 1, 0, 0) := by decide +kernel
theorem rX10_sound_44 : am_rw mX10_sound 44 = some (.getfield 56, 3, 10, 21) := by decide +kernel
theorem rX10_sound_47 : am_rw mX10_sound 47 = some (.iload_n 2, 1, 0, 0) := by decide +kernel
theorem rX10_sound_48 : am_rw mX10_sound 48 = some (.faload, 1, 0, 0) := by decide +kernel
theorem rX10_sound_49 : am_rw mX10_sound 49 = some (.aload_n 0, 1, 0, 0) := by decide +kernel
theorem rX10_sound_50 : am_rw mX10_sound 50 = some (.getfield 99, 3, 10, 35) := by decide +kernel
theorem rX10_sound_53 : am_rw mX10_sound 53 = some (.iload_n 1, 1, 0, 0) := by decide +kernel
theorem rX10_sound_54 : am_rw mX10_sound 54 = some (.iaload, 1, 0, 0) := by decide +kernel
theorem rX10_sound_55 : am_rw mX10_sound 55 = some (.i2f, 1, 0, 0) := by decide +kernel
theorem rX10_sound_56 : am_rw mX10_sound 56 = some (.fcmp .l, 1, 0, 0) := by decide +kernel
theorem rX10_sound_57 : am_rw mX10_sound 57 = some (.ifCond .lt 24, 3, 81, 0) := by decide +kernel
theorem rX10_sound_60 : am_rw mX10_sound 60 = some (.aload_n 0, 1, 0, 0) := by decide +kernel
theorem rX10_sound_61 : am_rw mX10_sound 61 = some (.iload_n 1, 1, 0, 0) := by decide +kernel
theorem rX10_sound_62 : am_rw mX10_sound 62 = some (.invokevirtual 327, 3, 164, 2) := by decide +kernel
theorem rX10_sound_65 : am_rw mX10_sound 65 = some (.ifCond .ne 16, 3, 81, 0) := by decide +kernel
theorem rX10_sound_68 : am_rw mX10_sound 68 = some (.aload_n 0, 1, 0, 0) := by decide +kernel
theorem rX10_sound_69 : am_rw mX10_sound 69 = some (.getfield 324, 3, 10, 39) := by decide +kernel
theorem rX10_sound_72 : am_rw mX10_sound 72 = some (.bipush 60, 2, 60, 0) := by decide +kernel
theorem rX10_sound_74 : am_rw mX10_sound 74 = some (.if_icmp .ge 7, 3, 81, 0) := by decide +kernel
theorem rX10_sound_77 : am_rw mX10_sound 77 = some (.iconst 1, 1, 1, 0) := by decide +kernel
theorem rX10_sound_78 : am_rw mX10_sound 78 = some (.goto 4, 3, 82, 0) := by decide +kernel
theorem rX10_sound_81 : am_rw mX10_sound 81 = some (.iconst 0, 1, 0, 0) := by decide +kernel
theorem rX10_sound_82 : am_rw mX10_sound 82 = some (.istore 4, 2, 0, 0) := by decide +kernel
theorem rX10_sound_84 : am_rw mX10_sound 84 = some (.aload_n 0, 1, 0, 0) := by decide +kernel
theorem rX10_sound_85 : am_rw mX10_sound 85 = some (.iload_n 3, 1, 0, 0) := by decide +kernel
theorem rX10_sound_86 : am_rw mX10_sound 86 = some (.ifCond .ne 7, 3, 93, 0) := by decide +kernel
theorem rX10_sound_89 : am_rw mX10_sound 89 = some (.iconst 1, 1, 1, 0) := by decide +kernel
theorem rX10_sound_90 : am_rw mX10_sound 90 = some (.goto 13, 3, 103, 0) := by decide +kernel
theorem rX10_sound_93 : am_rw mX10_sound 93 = some (.iload 4, 2, 0, 0) := by decide +kernel
theorem rX10_sound_95 : am_rw mX10_sound 95 = some (.ifCond .eq 7, 3, 102, 0) := by decide +kernel
theorem rX10_sound_98 : am_rw mX10_sound 98 = some (.iconst 0, 1, 0, 0) := by decide +kernel
theorem rX10_sound_99 : am_rw mX10_sound 99 = some (.goto 4, 3, 103, 0) := by decide +kernel
theorem rX10_sound_102 : am_rw mX10_sound 102 = some (.iconst 2, 1, 2, 0) := by decide +kernel
theorem rX10_sound_103 : am_rw mX10_sound 103 = some (.invokevirtual 159, 3, 102, 2) := by decide +kernel
theorem rX10_sound_106 : am_rw mX10_sound 106 = some (.ifCond .ne 5, 3, 111, 0) := by decide +kernel
theorem rX10_sound_109 : am_rw mX10_sound 109 = some (.iconst 0, 1, 0, 0) := by decide +kernel
theorem rX10_sound_110 : am_rw mX10_sound 110 = some (.ireturn, 1, 0, 0) := by decide +kernel
theorem rX10_sound_111 : am_rw mX10_sound 111 = some (.aload_n 0, 1, 0, 0) := by decide +kernel
theorem rX10_sound_112 : am_rw mX10_sound 112 = some (.getfield 111, 3, 10, 40) := by decide +kernel
theorem rX10_sound_115 : am_rw mX10_sound 115 = some (.aload_n 0, 1, 0, 0) := by decide +kernel
theorem rX10_sound_116 : am_rw mX10_sound 116 = some (.getfield 324, 3, 10, 39) := by decide +kernel
theorem rX10_sound_119 : am_rw mX10_sound 119 = some (.iload_n 1, 1, 0, 0) := by decide +kernel
theorem rX10_sound_120 : am_rw mX10_sound 120 = some (.iastore, 1, 0, 0) := by decide +kernel
theorem rX10_sound_121 : am_rw mX10_sound 121 = some (.aload_n 0, 1, 0, 0) := by decide +kernel
theorem rX10_sound_122 : am_rw mX10_sound 122 = some (.getfield 114, 3, 10, 41) := by decide +kernel
theorem rX10_sound_125 : am_rw mX10_sound 125 = some (.aload_n 0, 1, 0, 0) := by decide +kernel
theorem rX10_sound_126 : am_rw mX10_sound 126 = some (.getfield 324, 3, 10, 39) := by decide +kernel
theorem rX10_sound_129 : am_rw mX10_sound 129 = some (.iload_n 2, 1, 0, 0) := by decide +kernel
theorem rX10_sound_130 : am_rw mX10_sound 130 = some (.iastore, 1, 0, 0) := by decide +kernel
theorem rX10_sound_131 : am_rw mX10_sound 131 = some (.aload_n 0, 1, 0, 0) := by decide +kernel
theorem rX10_sound_132 : am_rw mX10_sound 132 = some (.getfield 117, 3, 10, 42) := by decide +kernel
theorem rX10_sound_135 : am_rw mX10_sound 135 = some (.aload_n 0, 1, 0, 0) := by decide +kernel
theorem rX10_sound_136 : am_rw mX10_sound 136 = some (.getfield 324, 3, 10, 39) := by decide +kernel
theorem rX10_sound_139 : am_rw mX10_sound 139 = some (.aload_n 0, 1, 0, 0) := by decide +kernel
theorem rX10_sound_140 : am_rw mX10_sound 140 = some (.getfield 301, 3, 10, 1) := by decide +kernel
theorem rX10_sound_143 : am_rw mX10_sound 143 = some (.iastore, 1, 0, 0) := by decide +kernel
theorem rX10_sound_144 : am_rw mX10_sound 144 = some (.aload_n 0, 1, 0, 0) := by decide +kernel
theorem rX10_sound_145 : am_rw mX10_sound 145 = some (.getfield 120, 3, 10, 43) := by decide +kernel
theorem rX10_sound_148 : am_rw mX10_sound 148 = some (.aload_n 0, 1, 0, 0) := by decide +kernel
theorem rX10_sound_149 : am_rw mX10_sound 149 = some (.getfield 324, 3, 10, 39) := by decide +kernel
theorem rX10_sound_152 : am_rw mX10_sound 152 = some (.iconst 0, 1, 0, 0) := by decide +kernel
theorem rX10_sound_153 : am_rw mX10_sound 153 = some (.iastore, 1, 0, 0) := by decide +kernel
theorem rX10_sound_154 : am_rw mX10_sound 154 = some (.aload_n 0, 1, 0, 0) := by decide +kernel
theorem rX10_sound_155 : am_rw mX10_sound 155 = some (.getfield 123, 3, 10, 44) := by decide +kernel
theorem rX10_sound_158 : am_rw mX10_sound 158 = some (.aload_n 0, 1, 0, 0) := by decide +kernel
theorem rX10_sound_159 : am_rw mX10_sound 159 = some (.getfield 324, 3, 10, 39) := by decide +kernel
theorem rX10_sound_162 : am_rw mX10_sound 162 = some (.aload_n 0, 1, 0, 0) := by decide +kernel
theorem rX10_sound_163 : am_rw mX10_sound 163 = some (.getfield 96, 3, 10, 34) := by decide +kernel
theorem rX10_sound_166 : am_rw mX10_sound 166 = some (.iload_n 1, 1, 0, 0) := by decide +kernel
theorem rX10_sound_167 : am_rw mX10_sound 167 = some (.iaload, 1, 0, 0) := by decide +kernel
theorem rX10_sound_168 : am_rw mX10_sound 168 = some (.i2f, 1, 0, 0) := by decide +kernel
theorem rX10_sound_169 : am_rw mX10_sound 169 = some (.aload_n 0, 1, 0, 0) := by decide +kernel
theorem rX10_sound_170 : am_rw mX10_sound 170 = some (.getfield 105, 3, 10, 37) := by decide +kernel
theorem rX10_sound_173 : am_rw mX10_sound 173 = some (.iload_n 1, 1, 0, 0) := by decide +kernel
theorem rX10_sound_174 : am_rw mX10_sound 174 = some (.faload, 1, 0, 0) := by decide +kernel
theorem rX10_sound_175 : am_rw mX10_sound 175 = some (.fmul, 1, 0, 0) := by decide +kernel
theorem rX10_sound_176 : am_rw mX10_sound 176 = some (.f2i, 1, 0, 0) := by decide +kernel
theorem rX10_sound_177 : am_rw mX10_sound 177 = some (.iastore, 1, 0, 0) := by decide +kernel
theorem rX10_sound_178 : am_rw mX10_sound 178 = some (.aload_n 0, 1, 0, 0) := by decide +kernel
theorem rX10_sound_179 : am_rw mX10_sound 179 = some (.dup, 1, 0, 0) := by decide +kernel
theorem rX10_sound_180 : am_rw mX10_sound 180 = some (.getfield 324, 3, 10, 39) := by decide +kernel
theorem rX10_sound_183 : am_rw mX10_sound 183 = some (.iconst 1, 1, 1, 0) := by decide +kernel
theorem rX10_sound_184 : am_rw mX10_sound 184 = some (.iadd, 1, 0, 0) := by decide +kernel
theorem rX10_sound_185 : am_rw mX10_sound 185 = some (.putfield 324, 3, 10, 39) := by decide +kernel
theorem rX10_sound_188 : am_rw mX10_sound 188 = some (.aload_n 0, 1, 0, 0) := by decide +kernel
theorem rX10_sound_189 : am_rw mX10_sound 189 = some (.getfield 324, 3, 10, 39) := by decide +kernel
theorem rX10_sound_192 : am_rw mX10_sound 192 = some (.iconst 1, 1, 1, 0) := by decide +kernel
theorem rX10_sound_193 : am_rw mX10_sound 193 = some (.isub, 1, 0, 0) := by decide +kernel
theorem rX10_sound_194 : am_rw mX10_sound 194 = some (.ireturn, 1, 0, 0) := by decide +kernel
theorem rX10_isSiren_0 : am_rw mX10_isSiren 0 = some (.aload_n 0, 1, 0, 0) := by decide +kernel
theorem rX10_isSiren_1 : am_rw mX10_isSiren 1 = some (.iload_n 1, 1, 0, 0) := by decide +kernel
theorem rX10_isSiren_2 : am_rw mX10_isSiren 2 = some (.iconst 0, 1, 0, 0) := by decide +kernel
theorem rX10_isSiren_3 : am_rw mX10_isSiren 3 = some (.aload_n 0, 1, 0, 0) := by decide +kernel
theorem rX10_isSiren_4 : am_rw mX10_isSiren 4 = some (.getfield 324, 3, 10, 39) := by decide +kernel
theorem rX10_isSiren_7 : am_rw mX10_isSiren 7 = some (.iconst 1, 1, 1, 0) := by decide +kernel
theorem rX10_isSiren_8 : am_rw mX10_isSiren 8 = some (.isub, 1, 0, 0) := by decide +kernel
theorem rX10_isSiren_9 : am_rw mX10_isSiren 9 = some (.invokestatic 139, 3, 103, 3) := by decide +kernel
theorem rX10_isSiren_12 : am_rw mX10_isSiren 12 = some (.ifCond .eq 7, 3, 19, 0) := by decide +kernel
theorem rX10_isSiren_15 : am_rw mX10_isSiren 15 = some (.iconst 0, 1, 0, 0) := by decide +kernel
theorem rX10_isSiren_16 : am_rw mX10_isSiren 16 = some (.goto 4, 3, 20, 0) := by decide +kernel
theorem rX10_isSiren_19 : am_rw mX10_isSiren 19 = some (.iconst 1, 1, 1, 0) := by decide +kernel
theorem rX10_isSiren_20 : am_rw mX10_isSiren 20 = some (.invokevirtual 159, 3, 102, 2) := by decide +kernel
theorem rX10_isSiren_23 : am_rw mX10_isSiren 23 = some (.ireturn, 1, 0, 0) := by decide +kernel
theorem rX10_siren_0 : am_rw mX10_siren 0 = some (.aload_n 0, 1, 0, 0) := by decide +kernel
theorem rX10_siren_1 : am_rw mX10_siren 1 = some (.iload_n 1, 1, 0, 0) := by decide +kernel
theorem rX10_siren_2 : am_rw mX10_siren 2 = some (.invokevirtual 330, 3, 166, 2) := by decide +kernel
theorem rX10_siren_5 : am_rw mX10_siren 5 = some (.ifCond .eq 12, 3, 17, 0) := by decide +kernel
theorem rX10_siren_8 : am_rw mX10_siren 8 = some (.aload_n 0, 1, 0, 0) := by decide +kernel
theorem rX10_siren_9 : am_rw mX10_siren 9 = some (.getfield 120, 3, 10, 43) := by decide +kernel
theorem rX10_siren_12 : am_rw mX10_siren 12 = some (.iload_n 1, 1, 0, 0) := by decide +kernel
theorem rX10_siren_13 : am_rw mX10_siren 13 = some (.iaload, 1, 0, 0) := by decide +kernel
theorem rX10_siren_14 : am_rw mX10_siren 14 = some (.goto 4, 3, 18, 0) := by decide +kernel
theorem rX10_siren_17 : am_rw mX10_siren 17 = some (.iconst 0, 1, 0, 0) := by decide +kernel
theorem rX10_siren_18 : am_rw mX10_siren 18 = some (.ireturn, 1, 0, 0) := by decide +kernel
theorem rX10_walkers_0 : am_rw mX10_walkers 0 = some (.aload_n 0, 1, 0, 0) := by decide +kernel
theorem rX10_walkers_1 : am_rw mX10_walkers 1 = some (.iload_n 1, 1, 0, 0) := by decide +kernel
theorem rX10_walkers_2 : am_rw mX10_walkers 2 = some (.invokevirtual 330, 3, 166, 2) := by decide +kernel
theorem rX10_walkers_5 : am_rw mX10_walkers 5 = some (.ifCond .eq 12, 3, 17, 0) := by decide +kernel
theorem rX10_walkers_8 : am_rw mX10_walkers 8 = some (.aload_n 0, 1, 0, 0) := by decide +kernel
theorem rX10_walkers_9 : am_rw mX10_walkers 9 = some (.getfield 123, 3, 10, 44) := by decide +kernel
theorem rX10_walkers_12 : am_rw mX10_walkers 12 = some (.iload_n 1, 1, 0, 0) := by decide +kernel
theorem rX10_walkers_13 : am_rw mX10_walkers 13 = some (.iaload, 1, 0, 0) := by decide +kernel
theorem rX10_walkers_14 : am_rw mX10_walkers 14 = some (.goto 4, 3, 18, 0) := by decide +kernel
theorem rX10_walkers_17 : am_rw mX10_walkers 17 = some (.iconst 0, 1, 0, 0) := by decide +kernel
theorem rX10_walkers_18 : am_rw mX10_walkers 18 = some (.ireturn, 1, 0, 0) := by decide +kernel
theorem rX10_trust_0 : am_rw mX10_trust 0 = some (.aload_n 0, 1, 0, 0) := by decide +kernel
theorem rX10_trust_1 : am_rw mX10_trust 1 = some (.iload_n 1, 1, 0, 0) := by decide +kernel
theorem rX10_trust_2 : am_rw mX10_trust 2 = some (.invokestatic 317, 3, 105, 1) := by decide +kernel
theorem rX10_trust_5 : am_rw mX10_trust 5 = some (.ifCond .eq 7, 3, 12, 0) := by decide +kernel
theorem rX10_trust_8 : am_rw mX10_trust 8 = some (.iconst 0, 1, 0, 0) := by decide +kernel
theorem rX10_trust_9 : am_rw mX10_trust 9 = some (.goto 4, 3, 13, 0) := by decide +kernel
theorem rX10_trust_12 : am_rw mX10_trust 12 = some (.iconst 1, 1, 1, 0) := by decide +kernel
theorem rX10_trust_13 : am_rw mX10_trust 13 = some (.invokevirtual 159, 3, 102, 2) := by decide +kernel
theorem rX10_trust_16 : am_rw mX10_trust 16 = some (.ifCond .eq 15, 3, 31, 0) := by decide +kernel
theorem rX10_trust_19 : am_rw mX10_trust 19 = some (.aload_n 0, 1, 0, 0) := by decide +kernel
theorem rX10_trust_20 : am_rw mX10_trust 20 = some (.getfield 105, 3, 10, 37) := by decide +kernel
theorem rX10_trust_23 : am_rw mX10_trust 23 = some (.iload_n 1, 1, 0, 0) := by decide +kernel
theorem rX10_trust_24 : am_rw mX10_trust 24 = some (.faload, 1, 0, 0) := by decide +kernel
theorem rX10_trust_25 : am_rw mX10_trust 25 = some (.invokestatic 295, 3, 177, 1) := by decide +kernel
theorem rX10_trust_28 : am_rw mX10_trust 28 = some (.goto 4, 3, 32, 0) := by decide +kernel
theorem rX10_trust_31 : am_rw mX10_trust 31 = some (.iconst 0, 1, 0, 0) := by decide +kernel
theorem rX10_trust_32 : am_rw mX10_trust 32 = some (.ireturn, 1, 0, 0) := by decide +kernel
theorem rX10_saved_0 : am_rw mX10_saved 0 = some (.aload_n 0, 1, 0, 0) := by decide +kernel
theorem rX10_saved_1 : am_rw mX10_saved 1 = some (.iload_n 1, 1, 0, 0) := by decide +kernel
theorem rX10_saved_2 : am_rw mX10_saved 2 = some (.invokestatic 317, 3, 105, 1) := by decide +kernel
theorem rX10_saved_5 : am_rw mX10_saved 5 = some (.ifCond .eq 7, 3, 12, 0) := by decide +kernel
theorem rX10_saved_8 : am_rw mX10_saved 8 = some (.iconst 0, 1, 0, 0) := by decide +kernel
theorem rX10_saved_9 : am_rw mX10_saved 9 = some (.goto 4, 3, 13, 0) := by decide +kernel
theorem rX10_saved_12 : am_rw mX10_saved 12 = some (.iconst 1, 1, 1, 0) := by decide +kernel
theorem rX10_saved_13 : am_rw mX10_saved 13 = some (.invokevirtual 159, 3, 102, 2) := by decide +kernel
theorem rX10_saved_16 : am_rw mX10_saved 16 = some (.ifCond .eq 12, 3, 28, 0) := by decide +kernel
theorem rX10_saved_19 : am_rw mX10_saved 19 = some (.aload_n 0, 1, 0, 0) := by decide +kernel
theorem rX10_saved_20 : am_rw mX10_saved 20 = some (.getfield 108, 3, 10, 38) := by decide +kernel
theorem rX10_saved_23 : am_rw mX10_saved 23 = some (.iload_n 1, 1, 0, 0) := by decide +kernel
theorem rX10_saved_24 : am_rw mX10_saved 24 = some (.iaload, 1, 0, 0) := by decide +kernel
theorem rX10_saved_25 : am_rw mX10_saved 25 = some (.goto 4, 3, 29, 0) := by decide +kernel
theorem rX10_saved_28 : am_rw mX10_saved 28 = some (.iconst 0, 1, 0, 0) := by decide +kernel
theorem rX10_saved_29 : am_rw mX10_saved 29 = some (.ireturn, 1, 0, 0) := by decide +kernel
theorem rX10_alarm_0 : am_rw mX10_alarm 0 = some (.aload_n 0, 1, 0, 0) := by decide +kernel
theorem rX10_alarm_1 : am_rw mX10_alarm 1 = some (.iconst 0, 1, 0, 0) := by decide +kernel
theorem rX10_alarm_2 : am_rw mX10_alarm 2 = some (.putfield 135, 3, 10, 0) := by decide +kernel
theorem rX10_alarm_5 : am_rw mX10_alarm 5 = some (.aload_n 0, 1, 0, 0) := by decide +kernel
theorem rX10_alarm_6 : am_rw mX10_alarm 6 = some (.getfield 301, 3, 10, 1) := by decide +kernel
theorem rX10_alarm_9 : am_rw mX10_alarm 9 = some (.bipush 24, 2, 24, 0) := by decide +kernel
theorem rX10_alarm_11 : am_rw mX10_alarm 11 = some (.iadd, 1, 0, 0) := by decide +kernel
theorem rX10_alarm_12 : am_rw mX10_alarm 12 = some (.sipush 200, 3, 200, 0) := by decide +kernel
theorem rX10_alarm_15 : am_rw mX10_alarm 15 = some (.if_icmp .le 9, 3, 24, 0) := by decide +kernel
theorem rX10_alarm_18 : am_rw mX10_alarm 18 = some (.sipush 200, 3, 200, 0) := by decide +kernel
theorem rX10_alarm_21 : am_rw mX10_alarm 21 = some (.goto 10, 3, 31, 0) := by decide +kernel
theorem rX10_alarm_24 : am_rw mX10_alarm 24 = some (.aload_n 0, 1, 0, 0) := by decide +kernel
theorem rX10_alarm_25 : am_rw mX10_alarm 25 = some (.getfield 301, 3, 10, 1) := by decide +kernel
theorem rX10_alarm_28 : am_rw mX10_alarm 28 = some (.bipush 24, 2, 24, 0) := by decide +kernel
theorem rX10_alarm_30 : am_rw mX10_alarm 30 = some (.iadd, 1, 0, 0) := by decide +kernel
theorem rX10_alarm_31 : am_rw mX10_alarm 31 = some (.istore_n 1, 1, 0, 0) := by decide +kernel
theorem rX10_alarm_32 : am_rw mX10_alarm 32 = some (.iconst 0, 1, 0, 0) := by decide +kernel
theorem rX10_alarm_33 : am_rw mX10_alarm 33 = some (.istore_n 2, 1, 0, 0) := by decide +kernel
theorem rX10_alarm_34 : am_rw mX10_alarm 34 = some (.iconst 0, 1, 0, 0) := by decide +kernel
theorem rX10_alarm_35 : am_rw mX10_alarm 35 = some (.istore_n 3, 1, 0, 0) := by decide +kernel
theorem rX10_alarm_36 : am_rw mX10_alarm 36 = some (.iload_n 3, 1, 0, 0) := by decide +kernel
theorem rX10_alarm_37 : am_rw mX10_alarm 37 = some (.iconst 3, 1, 3, 0) := by decide +kernel
theorem rX10_alarm_38 : am_rw mX10_alarm 38 = some (.if_icmp .ge 91, 3, 129, 0) := by decide +kernel
theorem rX10_alarm_41 : am_rw mX10_alarm 41 = some (.aload_n 0, 1, 0, 0) := by decide +kernel
theorem rX10_alarm_42 : am_rw mX10_alarm 42 = some (.getfield 93, 3, 10, 33) := by decide +kernel
theorem rX10_alarm_45 : am_rw mX10_alarm 45 = some (.iload_n 3, 1, 0, 0) := by decide +kernel
theorem rX10_alarm_46 : am_rw mX10_alarm 46 = some (.baload, 1, 0, 0) := by decide +kernel
theorem rX10_alarm_47 : am_rw mX10_alarm 47 = some (.ifCond .eq 17, 3, 64, 0) := by decide +kernel
theorem rX10_alarm_50 : am_rw mX10_alarm 50 = some (.aload_n 0, 1, 0, 0) := by decide +kernel
theorem rX10_alarm_51 : am_rw mX10_alarm 51 = some (.getfield 28, 3, 10, 10) := by decide +kernel
theorem rX10_alarm_54 : am_rw mX10_alarm 54 = some (.aload_n 0, 1, 0, 0) := by decide +kernel
theorem rX10_alarm_55 : am_rw mX10_alarm 55 = some (.getfield 69, 3, 10, 25) := by decide +kernel
theorem rX10_alarm_58 : am_rw mX10_alarm 58 = some (.iload_n 3, 1, 0, 0) := by decide +kernel
theorem rX10_alarm_59 : am_rw mX10_alarm 59 = some (.iaload, 1, 0, 0) := by decide +kernel
theorem rX10_alarm_60 : am_rw mX10_alarm 60 = some (.iaload, 1, 0, 0) := by decide +kernel
theorem rX10_alarm_61 : am_rw mX10_alarm 61 = some (.goto 4, 3, 65, 0) := by decide +kernel
theorem rX10_alarm_64 : am_rw mX10_alarm 64 = some (.iconst (-1), 1, 1, 1) := by decide +kernel
theorem rX10_alarm_65 : am_rw mX10_alarm 65 = some (.istore 4, 2, 0, 0) := by decide +kernel
theorem rX10_alarm_67 : am_rw mX10_alarm 67 = some (.iload 4, 2, 0, 0) := by decide +kernel
theorem rX10_alarm_69 : am_rw mX10_alarm 69 = some (.iconst (-1), 1, 1, 1) := by decide +kernel
theorem rX10_alarm_70 : am_rw mX10_alarm 70 = some (.if_icmp .eq 35, 3, 105, 0) := by decide +kernel
theorem rX10_alarm_73 : am_rw mX10_alarm 73 = some (.aload_n 0, 1, 0, 0) := by decide +kernel
theorem rX10_alarm_74 : am_rw mX10_alarm 74 = some (.iload 4, 2, 0, 0) := by decide +kernel
theorem rX10_alarm_76 : am_rw mX10_alarm 76 = some (.aload_n 0, 1, 0, 0) := by decide +kernel
theorem rX10_alarm_77 : am_rw mX10_alarm 77 = some (.iload 4, 2, 0, 0) := by decide +kernel
theorem rX10_alarm_79 : am_rw mX10_alarm 79 = some (.aload_n 0, 1, 0, 0) := by decide +kernel
theorem rX10_alarm_80 : am_rw mX10_alarm 80 = some (.getfield 301, 3, 10, 1) := by decide +kernel
theorem rX10_alarm_83 : am_rw mX10_alarm 83 = some (.iload_n 1, 1, 0, 0) := by decide +kernel
theorem rX10_alarm_84 : am_rw mX10_alarm 84 = some (.invokevirtual 304, 3, 149, 4) := by decide +kernel
theorem rX10_alarm_87 : am_rw mX10_alarm 87 = some (.invokevirtual 292, 3, 145, 3) := by decide +kernel
theorem rX10_alarm_90 : am_rw mX10_alarm 90 = some (.aload_n 0, 1, 0, 0) := by decide +kernel
theorem rX10_alarm_91 : am_rw mX10_alarm 91 = some (.getfield 99, 3, 10, 35) := by decide +kernel
theorem rX10_alarm_94 : am_rw mX10_alarm 94 = some (.iload_n 3, 1, 0, 0) := by decide +kernel
theorem rX10_alarm_95 : am_rw mX10_alarm 95 = some (.iaload, 1, 0, 0) := by decide +kernel
theorem rX10_alarm_96 : am_rw mX10_alarm 96 = some (.i2f, 1, 0, 0) := by decide +kernel
theorem rX10_alarm_97 : am_rw mX10_alarm 97 = some (.fcmp .l, 1, 0, 0) := by decide +kernel
theorem rX10_alarm_98 : am_rw mX10_alarm 98 = some (.ifCond .lt 7, 3, 105, 0) := by decide +kernel
theorem rX10_alarm_101 : am_rw mX10_alarm 101 = some (.iconst 1, 1, 1, 0) := by decide +kernel
theorem rX10_alarm_102 : am_rw mX10_alarm 102 = some (.goto 4, 3, 106, 0) := by decide +kernel
theorem rX10_alarm_105 : am_rw mX10_alarm 105 = some (.iconst 0, 1, 0, 0) := by decide +kernel
theorem rX10_alarm_106 : am_rw mX10_alarm 106 = some (.istore 5, 2, 0, 0) := by decide +kernel
theorem rX10_alarm_108 : am_rw mX10_alarm 108 = some (.iload_n 2, 1, 0, 0) := by decide +kernel
theorem rX10_alarm_109 : am_rw mX10_alarm 109 = some (.iload 5, 2, 0, 0) := by decide +kernel
theorem rX10_alarm_111 : am_rw mX10_alarm 111 = some (.ifCond .eq 9, 3, 120, 0) := by decide +kernel
theorem rX10_alarm_114 : am_rw mX10_alarm 114 = some (.iconst 1, 1, 1, 0) := by decide +kernel
theorem rX10_alarm_115 : am_rw mX10_alarm 115 = some (.iload_n 3, 1, 0, 0) := by decide +kernel
theorem rX10_alarm_116 : am_rw mX10_alarm 116 = some (.ishl, 1, 0, 0) := by decide +kernel
theorem rX10_alarm_117 : am_rw mX10_alarm 117 = some (.goto 4, 3, 121, 0) := by decide +kernel
theorem rX10_alarm_120 : am_rw mX10_alarm 120 = some (.iconst 0, 1, 0, 0) := by decide +kernel
theorem rX10_alarm_121 : am_rw mX10_alarm 121 = some (.ior, 1, 0, 0) := by decide +kernel
theorem rX10_alarm_122 : am_rw mX10_alarm 122 = some (.istore_n 2, 1, 0, 0) := by decide +kernel
theorem rX10_alarm_123 : am_rw mX10_alarm 123 = some (.iinc 3 1, 3, 0, 0) := by decide +kernel
theorem rX10_alarm_126 : am_rw mX10_alarm 126 = some (.goto (-90), 3, 36, 0) := by decide +kernel
theorem rX10_alarm_129 : am_rw mX10_alarm 129 = some (.iload_n 2, 1, 0, 0) := by decide +kernel
theorem rX10_alarm_130 : am_rw mX10_alarm 130 = some (.ireturn, 1, 0, 0) := by decide +kernel
theorem rX10_asked_0 : am_rw mX10_asked 0 = some (.aload_n 0, 1, 0, 0) := by decide +kernel
theorem rX10_asked_1 : am_rw mX10_asked 1 = some (.aload_n 0, 1, 0, 0) := by decide +kernel
theorem rX10_asked_2 : am_rw mX10_asked 2 = some (.getfield 81, 3, 10, 29) := by decide +kernel
theorem rX10_asked_5 : am_rw mX10_asked 5 = some (.iload_n 1, 1, 0, 0) := by decide +kernel
theorem rX10_asked_6 : am_rw mX10_asked 6 = some (.iaload, 1, 0, 0) := by decide +kernel
theorem rX10_asked_7 : am_rw mX10_asked 7 = some (.putfield 214, 3, 10, 46) := by decide +kernel
theorem rX10_asked_10 : am_rw mX10_asked 10 = some (.iconst 0, 1, 0, 0) := by decide +kernel
theorem rX10_asked_11 : am_rw mX10_asked 11 = some (.istore_n 2, 1, 0, 0) := by decide +kernel
theorem rX10_asked_12 : am_rw mX10_asked 12 = some (.iload_n 2, 1, 0, 0) := by decide +kernel
theorem rX10_asked_13 : am_rw mX10_asked 13 = some (.aload_n 0, 1, 0, 0) := by decide +kernel
theorem rX10_asked_14 : am_rw mX10_asked 14 = some (.getfield 214, 3, 10, 46) := by decide +kernel
theorem rX10_asked_17 : am_rw mX10_asked 17 = some (.if_icmp .ge 26, 3, 43, 0) := by decide +kernel
theorem rX10_asked_20 : am_rw mX10_asked 20 = some (.aload_n 0, 1, 0, 0) := by decide +kernel
theorem rX10_asked_21 : am_rw mX10_asked 21 = some (.getfield 126, 3, 10, 45) := by decide +kernel
theorem rX10_asked_24 : am_rw mX10_asked 24 = some (.iload_n 2, 1, 0, 0) := by decide +kernel
theorem rX10_asked_25 : am_rw mX10_asked 25 = some (.aload_n 0, 1, 0, 0) := by decide +kernel
theorem rX10_asked_26 : am_rw mX10_asked 26 = some (.getfield 84, 3, 10, 30) := by decide +kernel
theorem rX10_asked_29 : am_rw mX10_asked 29 = some (.bipush 40, 2, 40, 0) := by decide +kernel
theorem rX10_asked_31 : am_rw mX10_asked 31 = some (.iload_n 1, 1, 0, 0) := by decide +kernel
theorem rX10_asked_32 : am_rw mX10_asked 32 = some (.imul, 1, 0, 0) := by decide +kernel
theorem rX10_asked_33 : am_rw mX10_asked 33 = some (.iload_n 2, 1, 0, 0) := by decide +kernel
theorem rX10_asked_34 : am_rw mX10_asked 34 = some (.iadd, 1, 0, 0) := by decide +kernel
theorem rX10_asked_35 : am_rw mX10_asked 35 = some (.iaload, 1, 0, 0) := by decide +kernel
theorem rX10_asked_36 : am_rw mX10_asked 36 = some (.iastore, 1, 0, 0) := by decide +kernel
theorem rX10_asked_37 : am_rw mX10_asked 37 = some (.iinc 2 1, 3, 0, 0) := by decide +kernel
theorem rX10_asked_40 : am_rw mX10_asked 40 = some (.goto (-28), 3, 12, 0) := by decide +kernel
theorem rX10_asked_43 : am_rw mX10_asked 43 = some (.aload_n 0, 1, 0, 0) := by decide +kernel
theorem rX10_asked_44 : am_rw mX10_asked 44 = some (.iconst (-1), 1, 1, 1) := by decide +kernel
theorem rX10_asked_45 : am_rw mX10_asked 45 = some (.aload_n 0, 1, 0, 0) := by decide +kernel
theorem rX10_asked_46 : am_rw mX10_asked 46 = some (.getfield 301, 3, 10, 1) := by decide +kernel
theorem rX10_asked_49 : am_rw mX10_asked 49 = some (.invokevirtual 277, 3, 128, 3) := by decide +kernel
theorem rX10_asked_52 : am_rw mX10_asked 52 = some (.freturn, 1, 0, 0) := by decide +kernel
theorem rX10_flows_0 : am_rw mX10_flows 0 = some (.aload_n 0, 1, 0, 0) := by decide +kernel
theorem rX10_flows_1 : am_rw mX10_flows 1 = some (.getfield 28, 3, 10, 10) := by decide +kernel
theorem rX10_flows_4 : am_rw mX10_flows 4 = some (.aload_n 0, 1, 0, 0) := by decide +kernel
theorem rX10_flows_5 : am_rw mX10_flows 5 = some (.getfield 69, 3, 10, 25) := by decide +kernel
theorem rX10_flows_8 : am_rw mX10_flows 8 = some (.iload_n 1, 1, 0, 0) := by decide +kernel
theorem rX10_flows_9 : am_rw mX10_flows 9 = some (.iaload, 1, 0, 0) := by decide +kernel
theorem rX10_flows_10 : am_rw mX10_flows 10 = some (.iaload, 1, 0, 0) := by decide +kernel
theorem rX10_flows_11 : am_rw mX10_flows 11 = some (.istore_n 2, 1, 0, 0) := by decide +kernel
theorem rX10_flows_12 : am_rw mX10_flows 12 = some (.iload_n 2, 1, 0, 0) := by decide +kernel
theorem rX10_flows_13 : am_rw mX10_flows 13 = some (.iconst (-1), 1, 1, 1) := by decide +kernel
theorem rX10_flows_14 : am_rw mX10_flows 14 = some (.if_icmp .ne 7, 3, 21, 0) := by decide +kernel
theorem rX10_flows_17 : am_rw mX10_flows 17 = some (.fconst 0, 1, 0, 0) := by decide +kernel
theorem rX10_flows_18 : am_rw mX10_flows 18 = some (.goto 12, 3, 30, 0) := by decide +kernel
theorem rX10_flows_21 : am_rw mX10_flows 21 = some (.aload_n 0, 1, 0, 0) := by decide +kernel
theorem rX10_flows_22 : am_rw mX10_flows 22 = some (.iload_n 2, 1, 0, 0) := by decide +kernel
theorem rX10_flows_23 : am_rw mX10_flows 23 = some (.aload_n 0, 1, 0, 0) := by decide +kernel
theorem rX10_flows_24 : am_rw mX10_flows 24 = some (.getfield 301, 3, 10, 1) := by decide +kernel
theorem rX10_flows_27 : am_rw mX10_flows 27 = some (.invokevirtual 292, 3, 145, 3) := by decide +kernel
theorem rX10_flows_30 : am_rw mX10_flows 30 = some (.fstore_n 3, 1, 0, 0) := by decide +kernel
theorem rX10_flows_31 : am_rw mX10_flows 31 = some (.fload_n 3, 1, 0, 0) := by decide +kernel
theorem rX10_flows_32 : am_rw mX10_flows 32 = some (.fconst 0, 1, 0, 0) := by decide +kernel
theorem rX10_flows_33 : am_rw mX10_flows 33 = some (.fcmp .g, 1, 0, 0) := by decide +kernel
theorem rX10_flows_34 : am_rw mX10_flows 34 = some (.ifCond .ge 7, 3, 41, 0) := by decide +kernel
theorem rX10_flows_37 : am_rw mX10_flows 37 = some (.fconst 0, 1, 0, 0) := by decide +kernel
theorem rX10_flows_38 : am_rw mX10_flows 38 = some (.goto 4, 3, 42, 0) := by decide +kernel
theorem rX10_flows_41 : am_rw mX10_flows 41 = some (.fload_n 3, 1, 0, 0) := by decide +kernel
theorem rX10_flows_42 : am_rw mX10_flows 42 = some (.fstore_n 3, 1, 0, 0) := by decide +kernel
theorem rX10_flows_43 : am_rw mX10_flows 43 = some (.aload_n 0, 1, 0, 0) := by decide +kernel
theorem rX10_flows_44 : am_rw mX10_flows 44 = some (.aload_n 0, 1, 0, 0) := by decide +kernel
theorem rX10_flows_45 : am_rw mX10_flows 45 = some (.getfield 75, 3, 10, 27) := by decide +kernel
theorem rX10_flows_48 : am_rw mX10_flows 48 = some (.iload_n 1, 1, 0, 0) := by decide +kernel
theorem rX10_flows_49 : am_rw mX10_flows 49 = some (.faload, 1, 0, 0) := by decide +kernel
theorem rX10_flows_50 : am_rw mX10_flows 50 = some (.putfield 204, 3, 10, 51) := by decide +kernel
theorem rX10_flows_53 : am_rw mX10_flows 53 = some (.aload_n 0, 1, 0, 0) := by decide +kernel
theorem rX10_flows_54 : am_rw mX10_flows 54 = some (.fload_n 3, 1, 0, 0) := by decide +kernel
theorem rX10_flows_55 : am_rw mX10_flows 55 = some (.putfield 208, 3, 10, 52) := by decide +kernel
theorem rX10_flows_58 : am_rw mX10_flows 58 = some (.aload_n 0, 1, 0, 0) := by decide +kernel
theorem rX10_flows_59 : am_rw mX10_flows 59 = some (.aload_n 0, 1, 0, 0) := by decide +kernel
theorem rX10_flows_60 : am_rw mX10_flows 60 = some (.getfield 87, 3, 10, 31) := by decide +kernel
theorem rX10_flows_63 : am_rw mX10_flows 63 = some (.iload_n 1, 1, 0, 0) := by decide +kernel
theorem rX10_flows_64 : am_rw mX10_flows 64 = some (.iaload, 1, 0, 0) := by decide +kernel
theorem rX10_flows_65 : am_rw mX10_flows 65 = some (.iconst (-1), 1, 1, 1) := by decide +kernel
theorem rX10_flows_66 : am_rw mX10_flows 66 = some (.if_icmp .eq 30, 3, 96, 0) := by decide +kernel
theorem rX10_flows_69 : am_rw mX10_flows 69 = some (.aload_n 0, 1, 0, 0) := by decide +kernel
theorem rX10_flows_70 : am_rw mX10_flows 70 = some (.aload_n 0, 1, 0, 0) := by decide +kernel
theorem rX10_flows_71 : am_rw mX10_flows 71 = some (.getfield 87, 3, 10, 31) := by decide +kernel
theorem rX10_flows_74 : am_rw mX10_flows 74 = some (.iload_n 1, 1, 0, 0) := by decide +kernel
theorem rX10_flows_75 : am_rw mX10_flows 75 = some (.iaload, 1, 0, 0) := by decide +kernel
theorem rX10_flows_76 : am_rw mX10_flows 76 = some (.invokevirtual 314, 3, 152, 2) := by decide +kernel
theorem rX10_flows_79 : am_rw mX10_flows 79 = some (.ifCond .ne 17, 3, 96, 0) := by decide +kernel
theorem rX10_flows_82 : am_rw mX10_flows 82 = some (.aload_n 0, 1, 0, 0) := by decide +kernel
theorem rX10_flows_83 : am_rw mX10_flows 83 = some (.getfield 56, 3, 10, 21) := by decide +kernel
theorem rX10_flows_86 : am_rw mX10_flows 86 = some (.aload_n 0, 1, 0, 0) := by decide +kernel
theorem rX10_flows_87 : am_rw mX10_flows 87 = some (.getfield 87, 3, 10, 31) := by decide +kernel
theorem rX10_flows_90 : am_rw mX10_flows 90 = some (.iload_n 1, 1, 0, 0) := by decide +kernel
theorem rX10_flows_91 : am_rw mX10_flows 91 = some (.iaload, 1, 0, 0) := by decide +kernel
theorem rX10_flows_92 : am_rw mX10_flows 92 = some (.faload, 1, 0, 0) := by decide +kernel
theorem rX10_flows_93 : am_rw mX10_flows 93 = some (.goto 4, 3, 97, 0) := by decide +kernel
theorem rX10_flows_96 : am_rw mX10_flows 96 = some (.fconst 0, 1, 0, 0) := by decide +kernel
theorem rX10_flows_97 : am_rw mX10_flows 97 = some (.putfield 211, 3, 10, 53) := by decide +kernel
theorem rX10_flows_100 : am_rw mX10_flows 100 = some (.aload_n 0, 1, 0, 0) := by decide +kernel
theorem rX10_flows_101 : am_rw mX10_flows 101 = some (.getfield 78, 3, 10, 28) := by decide +kernel
theorem rX10_flows_104 : am_rw mX10_flows 104 = some (.iload_n 1, 1, 0, 0) := by decide +kernel
theorem rX10_flows_105 : am_rw mX10_flows 105 = some (.baload, 1, 0, 0) := by decide +kernel
theorem rX10_flows_106 : am_rw mX10_flows 106 = some (.ifCond .eq 11, 3, 117, 0) := by decide +kernel
theorem rX10_flows_109 : am_rw mX10_flows 109 = some (.aload_n 0, 1, 0, 0) := by decide +kernel
theorem rX10_flows_110 : am_rw mX10_flows 110 = some (.iload_n 1, 1, 0, 0) := by decide +kernel
theorem rX10_flows_111 : am_rw mX10_flows 111 = some (.invokevirtual 333, 3, 172, 2) := by decide +kernel
theorem rX10_flows_114 : am_rw mX10_flows 114 = some (.goto 4, 3, 118, 0) := by decide +kernel
theorem rX10_flows_117 : am_rw mX10_flows 117 = some (.fconst 0, 1, 0, 0) := by decide +kernel
theorem rX10_flows_118 : am_rw mX10_flows 118 = some (.fstore 4, 2, 0, 0) := by decide +kernel
theorem rX10_flows_120 : am_rw mX10_flows 120 = some (.aload_n 0, 1, 0, 0) := by decide +kernel
theorem rX10_flows_121 : am_rw mX10_flows 121 = some (.getfield 75, 3, 10, 27) := by decide +kernel
theorem rX10_flows_124 : am_rw mX10_flows 124 = some (.iload_n 1, 1, 0, 0) := by decide +kernel
theorem rX10_flows_125 : am_rw mX10_flows 125 = some (.faload, 1, 0, 0) := by decide +kernel
theorem rX10_flows_126 : am_rw mX10_flows 126 = some (.fload_n 3, 1, 0, 0) := by decide +kernel
theorem rX10_flows_127 : am_rw mX10_flows 127 = some (.fadd, 1, 0, 0) := by decide +kernel
theorem rX10_flows_128 : am_rw mX10_flows 128 = some (.fstore 5, 2, 0, 0) := by decide +kernel
theorem rX10_flows_130 : am_rw mX10_flows 130 = some (.fload 4, 2, 0, 0) := by decide +kernel
theorem rX10_flows_132 : am_rw mX10_flows 132 = some (.fconst 0, 1, 0, 0) := by decide +kernel
theorem rX10_flows_133 : am_rw mX10_flows 133 = some (.fcmp .g, 1, 0, 0) := by decide +kernel
theorem rX10_flows_134 : am_rw mX10_flows 134 = some (.ifCond .ge 7, 3, 141, 0) := by decide +kernel
theorem rX10_flows_137 : am_rw mX10_flows 137 = some (.fconst 0, 1, 0, 0) := by decide +kernel
theorem rX10_flows_138 : am_rw mX10_flows 138 = some (.goto 18, 3, 156, 0) := by decide +kernel
theorem rX10_flows_141 : am_rw mX10_flows 141 = some (.fload 4, 2, 0, 0) := by decide +kernel
theorem rX10_flows_143 : am_rw mX10_flows 143 = some (.fload 5, 2, 0, 0) := by decide +kernel
theorem rX10_flows_145 : am_rw mX10_flows 145 = some (.fcmp .l, 1, 0, 0) := by decide +kernel
theorem rX10_flows_146 : am_rw mX10_flows 146 = some (.ifCond .le 8, 3, 154, 0) := by decide +kernel
theorem rX10_flows_149 : am_rw mX10_flows 149 = some (.fload 5, 2, 0, 0) := by decide +kernel
theorem rX10_flows_151 : am_rw mX10_flows 151 = some (.goto 5, 3, 156, 0) := by decide +kernel
theorem rX10_flows_154 : am_rw mX10_flows 154 = some (.fload 4, 2, 0, 0) := by decide +kernel
theorem rX10_flows_156 : am_rw mX10_flows 156 = some (.fstore 6, 2, 0, 0) := by decide +kernel
theorem rX10_flows_158 : am_rw mX10_flows 158 = some (.fload 5, 2, 0, 0) := by decide +kernel
theorem rX10_flows_160 : am_rw mX10_flows 160 = some (.fload 6, 2, 0, 0) := by decide +kernel
theorem rX10_flows_162 : am_rw mX10_flows 162 = some (.fsub, 1, 0, 0) := by decide +kernel
theorem rX10_flows_163 : am_rw mX10_flows 163 = some (.fstore 7, 2, 0, 0) := by decide +kernel
theorem rX10_flows_165 : am_rw mX10_flows 165 = some (.fload 7, 2, 0, 0) := by decide +kernel
theorem rX10_flows_167 : am_rw mX10_flows 167 = some (.aload_n 0, 1, 0, 0) := by decide +kernel
theorem rX10_flows_168 : am_rw mX10_flows 168 = some (.getfield 72, 3, 10, 26) := by decide +kernel
theorem rX10_flows_171 : am_rw mX10_flows 171 = some (.iload_n 1, 1, 0, 0) := by decide +kernel
theorem rX10_flows_172 : am_rw mX10_flows 172 = some (.iaload, 1, 0, 0) := by decide +kernel
theorem rX10_flows_173 : am_rw mX10_flows 173 = some (.i2f, 1, 0, 0) := by decide +kernel
theorem rX10_flows_174 : am_rw mX10_flows 174 = some (.fcmp .l, 1, 0, 0) := by decide +kernel
theorem rX10_flows_175 : am_rw mX10_flows 175 = some (.ifCond .le 16, 3, 191, 0) := by decide +kernel
theorem rX10_flows_178 : am_rw mX10_flows 178 = some (.fload 7, 2, 0, 0) := by decide +kernel
theorem rX10_flows_180 : am_rw mX10_flows 180 = some (.aload_n 0, 1, 0, 0) := by decide +kernel
theorem rX10_flows_181 : am_rw mX10_flows 181 = some (.getfield 72, 3, 10, 26) := by decide +kernel
theorem rX10_flows_184 : am_rw mX10_flows 184 = some (.iload_n 1, 1, 0, 0) := by decide +kernel
theorem rX10_flows_185 : am_rw mX10_flows 185 = some (.iaload, 1, 0, 0) := by decide +kernel
theorem rX10_flows_186 : am_rw mX10_flows 186 = some (.i2f, 1, 0, 0) := by decide +kernel
theorem rX10_flows_187 : am_rw mX10_flows 187 = some (.fsub, 1, 0, 0) := by decide +kernel
theorem rX10_flows_188 : am_rw mX10_flows 188 = some (.goto 4, 3, 192, 0) := by decide +kernel
theorem rX10_flows_191 : am_rw mX10_flows 191 = some (.fconst 0, 1, 0, 0) := by decide +kernel
theorem rX10_flows_192 : am_rw mX10_flows 192 = some (.fstore 8, 2, 0, 0) := by decide +kernel
theorem rX10_flows_194 : am_rw mX10_flows 194 = some (.aload_n 0, 1, 0, 0) := by decide +kernel
theorem rX10_flows_195 : am_rw mX10_flows 195 = some (.getfield 75, 3, 10, 27) := by decide +kernel
theorem rX10_flows_198 : am_rw mX10_flows 198 = some (.iload_n 1, 1, 0, 0) := by decide +kernel
theorem rX10_flows_199 : am_rw mX10_flows 199 = some (.fload 7, 2, 0, 0) := by decide +kernel
theorem rX10_flows_201 : am_rw mX10_flows 201 = some (.fload 8, 2, 0, 0) := by decide +kernel
theorem rX10_flows_203 : am_rw mX10_flows 203 = some (.fsub, 1, 0, 0) := by decide +kernel
theorem rX10_flows_204 : am_rw mX10_flows 204 = some (.fastore, 1, 0, 0) := by decide +kernel
theorem rX10_flows_205 : am_rw mX10_flows 205 = some (.aload_n 0, 1, 0, 0) := by decide +kernel
theorem rX10_flows_206 : am_rw mX10_flows 206 = some (.getfield 90, 3, 10, 32) := by decide +kernel
theorem rX10_flows_209 : am_rw mX10_flows 209 = some (.sipush 201, 3, 201, 0) := by decide +kernel
theorem rX10_flows_212 : am_rw mX10_flows 212 = some (.iload_n 1, 1, 0, 0) := by decide +kernel
theorem rX10_flows_213 : am_rw mX10_flows 213 = some (.imul, 1, 0, 0) := by decide +kernel
theorem rX10_flows_214 : am_rw mX10_flows 214 = some (.aload_n 0, 1, 0, 0) := by decide +kernel
theorem rX10_flows_215 : am_rw mX10_flows 215 = some (.getfield 301, 3, 10, 1) := by decide +kernel
theorem rX10_flows_218 : am_rw mX10_flows 218 = some (.iadd, 1, 0, 0) := by decide +kernel
theorem rX10_flows_219 : am_rw mX10_flows 219 = some (.fload 6, 2, 0, 0) := by decide +kernel
theorem rX10_flows_221 : am_rw mX10_flows 221 = some (.fload 8, 2, 0, 0) := by decide +kernel
theorem rX10_flows_223 : am_rw mX10_flows 223 = some (.fadd, 1, 0, 0) := by decide +kernel
theorem rX10_flows_224 : am_rw mX10_flows 224 = some (.fastore, 1, 0, 0) := by decide +kernel
theorem rX10_flows_225 : am_rw mX10_flows 225 = some (.return_, 1, 0, 0) := by decide +kernel
theorem rX10_judges_0 : am_rw mX10_judges 0 = some (.aload_n 0, 1, 0, 0) := by decide +kernel
theorem rX10_judges_1 : am_rw mX10_judges 1 = some (.getfield 111, 3, 10, 40) := by decide +kernel
theorem rX10_judges_4 : am_rw mX10_judges 4 = some (.iload_n 1, 1, 0, 0) := by decide +kernel
theorem rX10_judges_5 : am_rw mX10_judges 5 = some (.iaload, 1, 0, 0) := by decide +kernel
theorem rX10_judges_6 : am_rw mX10_judges 6 = some (.istore_n 2, 1, 0, 0) := by decide +kernel
theorem rX10_judges_7 : am_rw mX10_judges 7 = some (.aload_n 0, 1, 0, 0) := by decide +kernel
theorem rX10_judges_8 : am_rw mX10_judges 8 = some (.getfield 114, 3, 10, 41) := by decide +kernel
theorem rX10_judges_11 : am_rw mX10_judges 11 = some (.iload_n 1, 1, 0, 0) := by decide +kernel
theorem rX10_judges_12 : am_rw mX10_judges 12 = some (.iaload, 1, 0, 0) := by decide +kernel
theorem rX10_judges_13 : am_rw mX10_judges 13 = some (.istore_n 3, 1, 0, 0) := by decide +kernel
theorem rX10_judges_14 : am_rw mX10_judges 14 = some (.aload_n 0, 1, 0, 0) := by decide +kernel
theorem rX10_judges_15 : am_rw mX10_judges 15 = some (.iload_n 3, 1, 0, 0) := by decide +kernel
theorem rX10_judges_16 : am_rw mX10_judges 16 = some (.invokevirtual 314, 3, 152, 2) := by decide +kernel
theorem rX10_judges_19 : am_rw mX10_judges 19 = some (.ifCond .eq 29, 3, 48, 0) := by decide +kernel
theorem rX10_judges_22 : am_rw mX10_judges 22 = some (.aload_n 0, 1, 0, 0) := by decide +kernel
theorem rX10_judges_23 : am_rw mX10_judges 23 = some (.getfield 120, 3, 10, 43) := by decide +kernel
theorem rX10_judges_26 : am_rw mX10_judges 26 = some (.iload_n 1, 1, 0, 0) := by decide +kernel
theorem rX10_judges_27 : am_rw mX10_judges 27 = some (.iconst 3, 1, 3, 0) := by decide +kernel
theorem rX10_judges_28 : am_rw mX10_judges 28 = some (.iastore, 1, 0, 0) := by decide +kernel
theorem rX10_judges_29 : am_rw mX10_judges 29 = some (.aload_n 0, 1, 0, 0) := by decide +kernel
theorem rX10_judges_30 : am_rw mX10_judges 30 = some (.getfield 105, 3, 10, 37) := by decide +kernel
theorem rX10_judges_33 : am_rw mX10_judges 33 = some (.iload_n 2, 1, 0, 0) := by decide +kernel
theorem rX10_judges_34 : am_rw mX10_judges 34 = some (.aload_n 0, 1, 0, 0) := by decide +kernel
theorem rX10_judges_35 : am_rw mX10_judges 35 = some (.getfield 105, 3, 10, 37) := by decide +kernel
theorem rX10_judges_38 : am_rw mX10_judges 38 = some (.iload_n 2, 1, 0, 0) := by decide +kernel
theorem rX10_judges_39 : am_rw mX10_judges 39 = some (.faload, 1, 0, 0) := by decide +kernel
theorem rX10_judges_40 : am_rw mX10_judges 40 = some (.ldc_w 337, 3, 1, 1063675494) := by decide +kernel
theorem rX10_judges_43 : am_rw mX10_judges 43 = some (.fmul, 1, 0, 0) := by decide +kernel
theorem rX10_judges_44 : am_rw mX10_judges 44 = some (.fastore, 1, 0, 0) := by decide +kernel
theorem rX10_judges_45 : am_rw mX10_judges 45 = some (.goto 143, 3, 188, 0) := by decide +kernel
theorem rX10_judges_48 : am_rw mX10_judges 48 = some (.aload_n 0, 1, 0, 0) := by decide +kernel
theorem rX10_judges_49 : am_rw mX10_judges 49 = some (.getfield 90, 3, 10, 32) := by decide +kernel
theorem rX10_judges_52 : am_rw mX10_judges 52 = some (.sipush 201, 3, 201, 0) := by decide +kernel
theorem rX10_judges_55 : am_rw mX10_judges 55 = some (.iload_n 2, 1, 0, 0) := by decide +kernel
theorem rX10_judges_56 : am_rw mX10_judges 56 = some (.imul, 1, 0, 0) := by decide +kernel
theorem rX10_judges_57 : am_rw mX10_judges 57 = some (.aload_n 0, 1, 0, 0) := by decide +kernel
theorem rX10_judges_58 : am_rw mX10_judges 58 = some (.getfield 301, 3, 10, 1) := by decide +kernel
theorem rX10_judges_61 : am_rw mX10_judges 61 = some (.iadd, 1, 0, 0) := by decide +kernel
theorem rX10_judges_62 : am_rw mX10_judges 62 = some (.faload, 1, 0, 0) := by decide +kernel
theorem rX10_judges_63 : am_rw mX10_judges 63 = some (.aload_n 0, 1, 0, 0) := by decide +kernel
theorem rX10_judges_64 : am_rw mX10_judges 64 = some (.getfield 99, 3, 10, 35) := by decide +kernel
theorem rX10_judges_67 : am_rw mX10_judges 67 = some (.iload_n 2, 1, 0, 0) := by decide +kernel
theorem rX10_judges_68 : am_rw mX10_judges 68 = some (.iaload, 1, 0, 0) := by decide +kernel
theorem rX10_judges_69 : am_rw mX10_judges 69 = some (.i2f, 1, 0, 0) := by decide +kernel
theorem rX10_judges_70 : am_rw mX10_judges 70 = some (.fcmp .l, 1, 0, 0) := by decide +kernel
theorem rX10_judges_71 : am_rw mX10_judges 71 = some (.ifCond .lt 81, 3, 152, 0) := by decide +kernel
theorem rX10_judges_74 : am_rw mX10_judges 74 = some (.fconst 1, 1, 0, 0) := by decide +kernel
theorem rX10_judges_75 : am_rw mX10_judges 75 = some (.aload_n 0, 1, 0, 0) := by decide +kernel
theorem rX10_judges_76 : am_rw mX10_judges 76 = some (.getfield 105, 3, 10, 37) := by decide +kernel
theorem rX10_judges_79 : am_rw mX10_judges 79 = some (.iload_n 2, 1, 0, 0) := by decide +kernel
theorem rX10_judges_80 : am_rw mX10_judges 80 = some (.faload, 1, 0, 0) := by decide +kernel
theorem rX10_judges_81 : am_rw mX10_judges 81 = some (.fsub, 1, 0, 0) := by decide +kernel
theorem rX10_judges_82 : am_rw mX10_judges 82 = some (.fstore 4, 2, 0, 0) := by decide +kernel
theorem rX10_judges_84 : am_rw mX10_judges 84 = some (.aload_n 0, 1, 0, 0) := by decide +kernel
theorem rX10_judges_85 : am_rw mX10_judges 85 = some (.getfield 120, 3, 10, 43) := by decide +kernel
theorem rX10_judges_88 : am_rw mX10_judges 88 = some (.iload_n 1, 1, 0, 0) := by decide +kernel
theorem rX10_judges_89 : am_rw mX10_judges 89 = some (.iconst 1, 1, 1, 0) := by decide +kernel
theorem rX10_judges_90 : am_rw mX10_judges 90 = some (.iastore, 1, 0, 0) := by decide +kernel
theorem rX10_judges_91 : am_rw mX10_judges 91 = some (.aload_n 0, 1, 0, 0) := by decide +kernel
theorem rX10_judges_92 : am_rw mX10_judges 92 = some (.getfield 105, 3, 10, 37) := by decide +kernel
theorem rX10_judges_95 : am_rw mX10_judges 95 = some (.iload_n 2, 1, 0, 0) := by decide +kernel
theorem rX10_judges_96 : am_rw mX10_judges 96 = some (.aload_n 0, 1, 0, 0) := by decide +kernel
theorem rX10_judges_97 : am_rw mX10_judges 97 = some (.getfield 105, 3, 10, 37) := by decide +kernel
theorem rX10_judges_100 : am_rw mX10_judges 100 = some (.iload_n 2, 1, 0, 0) := by decide +kernel
theorem rX10_judges_101 : am_rw mX10_judges 101 = some (.faload, 1, 0, 0) := by decide +kernel
theorem rX10_judges_102 : am_rw mX10_judges 102 = some (.fload 4, 2, 0, 0) := by decide +kernel
theorem rX10_judges_104 : am_rw mX10_judges 104 = some (.ldc_w 338, 3, 1, 1056964608) := by decide +kernel
theorem rX10_judges_107 : am_rw mX10_judges 107 = some (.fmul, 1, 0, 0) := by decide +kernel
theorem rX10_judges_108 : am_rw mX10_judges 108 = some (.fadd, 1, 0, 0) := by decide +kernel
theorem rX10_judges_109 : am_rw mX10_judges 109 = some (.fastore, 1, 0, 0) := by decide +kernel
theorem rX10_judges_110 : am_rw mX10_judges 110 = some (.aload_n 0, 1, 0, 0) := by decide +kernel
theorem rX10_judges_111 : am_rw mX10_judges 111 = some (.getfield 108, 3, 10, 38) := by decide +kernel
theorem rX10_judges_114 : am_rw mX10_judges 114 = some (.iload_n 2, 1, 0, 0) := by decide +kernel
theorem rX10_judges_115 : am_rw mX10_judges 115 = some (.dup2, 1, 0, 0) := by decide +kernel
theorem rX10_judges_116 : am_rw mX10_judges 116 = some (.iaload, 1, 0, 0) := by decide +kernel
theorem rX10_judges_117 : am_rw mX10_judges 117 = some (.aload_n 0, 1, 0, 0) := by decide +kernel
theorem rX10_judges_118 : am_rw mX10_judges 118 = some (.getfield 301, 3, 10, 1) := by decide +kernel
theorem rX10_judges_121 : am_rw mX10_judges 121 = some (.aload_n 0, 1, 0, 0) := by decide +kernel
theorem rX10_judges_122 : am_rw mX10_judges 122 = some (.getfield 117, 3, 10, 42) := by decide +kernel
theorem rX10_judges_125 : am_rw mX10_judges 125 = some (.iload_n 1, 1, 0, 0) := by decide +kernel
theorem rX10_judges_126 : am_rw mX10_judges 126 = some (.iaload, 1, 0, 0) := by decide +kernel
theorem rX10_judges_127 : am_rw mX10_judges 127 = some (.isub, 1, 0, 0) := by decide +kernel
theorem rX10_judges_128 : am_rw mX10_judges 128 = some (.aload_n 0, 1, 0, 0) := by decide +kernel
theorem rX10_judges_129 : am_rw mX10_judges 129 = some (.getfield 102, 3, 10, 36) := by decide +kernel
theorem rX10_judges_132 : am_rw mX10_judges 132 = some (.iload_n 2, 1, 0, 0) := by decide +kernel
theorem rX10_judges_133 : am_rw mX10_judges 133 = some (.iaload, 1, 0, 0) := by decide +kernel
theorem rX10_judges_134 : am_rw mX10_judges 134 = some (.if_icmp .lt 12, 3, 146, 0) := by decide +kernel
theorem rX10_judges_137 : am_rw mX10_judges 137 = some (.aload_n 0, 1, 0, 0) := by decide +kernel
theorem rX10_judges_138 : am_rw mX10_judges 138 = some (.getfield 123, 3, 10, 44) := by decide +kernel
theorem rX10_judges_141 : am_rw mX10_judges 141 = some (.iload_n 1, 1, 0, 0) := by decide +kernel
theorem rX10_judges_142 : am_rw mX10_judges 142 = some (.iaload, 1, 0, 0) := by decide +kernel
theorem rX10_judges_143 : am_rw mX10_judges 143 = some (.goto 4, 3, 147, 0) := by decide +kernel
theorem rX10_judges_146 : am_rw mX10_judges 146 = some (.iconst 0, 1, 0, 0) := by decide +kernel
theorem rX10_judges_147 : am_rw mX10_judges 147 = some (.iadd, 1, 0, 0) := by decide +kernel
theorem rX10_judges_148 : am_rw mX10_judges 148 = some (.iastore, 1, 0, 0) := by decide +kernel
theorem rX10_judges_149 : am_rw mX10_judges 149 = some (.goto 39, 3, 188, 0) := by decide +kernel
theorem rX10_judges_152 : am_rw mX10_judges 152 = some (.aload_n 0, 1, 0, 0) := by decide +kernel
theorem rX10_judges_153 : am_rw mX10_judges 153 = some (.getfield 301, 3, 10, 1) := by decide +kernel
theorem rX10_judges_156 : am_rw mX10_judges 156 = some (.aload_n 0, 1, 0, 0) := by decide +kernel
theorem rX10_judges_157 : am_rw mX10_judges 157 = some (.getfield 53, 3, 10, 20) := by decide +kernel
theorem rX10_judges_160 : am_rw mX10_judges 160 = some (.iload_n 3, 1, 0, 0) := by decide +kernel
theorem rX10_judges_161 : am_rw mX10_judges 161 = some (.iaload, 1, 0, 0) := by decide +kernel
theorem rX10_judges_162 : am_rw mX10_judges 162 = some (.if_icmp .lt 26, 3, 188, 0) := by decide +kernel
theorem rX10_judges_165 : am_rw mX10_judges 165 = some (.aload_n 0, 1, 0, 0) := by decide +kernel
theorem rX10_judges_166 : am_rw mX10_judges 166 = some (.getfield 120, 3, 10, 43) := by decide +kernel
theorem rX10_judges_169 : am_rw mX10_judges 169 = some (.iload_n 1, 1, 0, 0) := by decide +kernel
theorem rX10_judges_170 : am_rw mX10_judges 170 = some (.iconst 2, 1, 2, 0) := by decide +kernel
theorem rX10_judges_171 : am_rw mX10_judges 171 = some (.iastore, 1, 0, 0) := by decide +kernel
theorem rX10_judges_172 : am_rw mX10_judges 172 = some (.aload_n 0, 1, 0, 0) := by decide +kernel
theorem rX10_judges_173 : am_rw mX10_judges 173 = some (.getfield 105, 3, 10, 37) := by decide +kernel
theorem rX10_judges_176 : am_rw mX10_judges 176 = some (.iload_n 2, 1, 0, 0) := by decide +kernel
theorem rX10_judges_177 : am_rw mX10_judges 177 = some (.aload_n 0, 1, 0, 0) := by decide +kernel
theorem rX10_judges_178 : am_rw mX10_judges 178 = some (.getfield 105, 3, 10, 37) := by decide +kernel
theorem rX10_judges_181 : am_rw mX10_judges 181 = some (.iload_n 2, 1, 0, 0) := by decide +kernel
theorem rX10_judges_182 : am_rw mX10_judges 182 = some (.faload, 1, 0, 0) := by decide +kernel
theorem rX10_judges_183 : am_rw mX10_judges 183 = some (.ldc_w 339, 3, 1, 1061158912) := by decide +kernel
theorem rX10_judges_186 : am_rw mX10_judges 186 = some (.fmul, 1, 0, 0) := by decide +kernel
theorem rX10_judges_187 : am_rw mX10_judges 187 = some (.fastore, 1, 0, 0) := by decide +kernel
theorem rX10_judges_188 : am_rw mX10_judges 188 = some (.return_, 1, 0, 0) := by decide +kernel
theorem rX10_pass_0 : am_rw mX10_pass 0 = some (.aload_n 0, 1, 0, 0) := by decide +kernel
theorem rX10_pass_1 : am_rw mX10_pass 1 = some (.iload_n 1, 1, 0, 0) := by decide +kernel
theorem rX10_pass_2 : am_rw mX10_pass 2 = some (.iconst 1, 1, 1, 0) := by decide +kernel
theorem rX10_pass_3 : am_rw mX10_pass 3 = some (.bipush 24, 2, 24, 0) := by decide +kernel
theorem rX10_pass_5 : am_rw mX10_pass 5 = some (.invokestatic 139, 3, 103, 3) := by decide +kernel
theorem rX10_pass_8 : am_rw mX10_pass 8 = some (.ifCond .ne 7, 3, 15, 0) := by decide +kernel
theorem rX10_pass_11 : am_rw mX10_pass 11 = some (.iconst 1, 1, 1, 0) := by decide +kernel
theorem rX10_pass_12 : am_rw mX10_pass 12 = some (.goto 20, 3, 32, 0) := by decide +kernel
theorem rX10_pass_15 : am_rw mX10_pass 15 = some (.aload_n 0, 1, 0, 0) := by decide +kernel
theorem rX10_pass_16 : am_rw mX10_pass 16 = some (.getfield 301, 3, 10, 1) := by decide +kernel
theorem rX10_pass_19 : am_rw mX10_pass 19 = some (.iload_n 1, 1, 0, 0) := by decide +kernel
theorem rX10_pass_20 : am_rw mX10_pass 20 = some (.iadd, 1, 0, 0) := by decide +kernel
theorem rX10_pass_21 : am_rw mX10_pass 21 = some (.sipush 200, 3, 200, 0) := by decide +kernel
theorem rX10_pass_24 : am_rw mX10_pass 24 = some (.if_icmp .le 7, 3, 31, 0) := by decide +kernel
theorem rX10_pass_27 : am_rw mX10_pass 27 = some (.iconst 2, 1, 2, 0) := by decide +kernel
theorem rX10_pass_28 : am_rw mX10_pass 28 = some (.goto 4, 3, 32, 0) := by decide +kernel
theorem rX10_pass_31 : am_rw mX10_pass 31 = some (.iconst 0, 1, 0, 0) := by decide +kernel
theorem rX10_pass_32 : am_rw mX10_pass 32 = some (.invokevirtual 159, 3, 102, 2) := by decide +kernel
theorem rX10_pass_35 : am_rw mX10_pass 35 = some (.ifCond .ne 5, 3, 40, 0) := by decide +kernel
theorem rX10_pass_38 : am_rw mX10_pass 38 = some (.iconst 0, 1, 0, 0) := by decide +kernel
theorem rX10_pass_39 : am_rw mX10_pass 39 = some (.ireturn, 1, 0, 0) := by decide +kernel
theorem rX10_pass_40 : am_rw mX10_pass 40 = some (.iconst 0, 1, 0, 0) := by decide +kernel
theorem rX10_pass_41 : am_rw mX10_pass 41 = some (.istore_n 2, 1, 0, 0) := by decide +kernel
theorem rX10_pass_42 : am_rw mX10_pass 42 = some (.iload_n 2, 1, 0, 0) := by decide +kernel
theorem rX10_pass_43 : am_rw mX10_pass 43 = some (.iload_n 1, 1, 0, 0) := by decide +kernel
theorem rX10_pass_44 : am_rw mX10_pass 44 = some (.if_icmp .ge 76, 3, 120, 0) := by decide +kernel
theorem rX10_pass_47 : am_rw mX10_pass 47 = some (.iconst 0, 1, 0, 0) := by decide +kernel
theorem rX10_pass_48 : am_rw mX10_pass 48 = some (.istore_n 3, 1, 0, 0) := by decide +kernel
theorem rX10_pass_49 : am_rw mX10_pass 49 = some (.iload_n 3, 1, 0, 0) := by decide +kernel
theorem rX10_pass_50 : am_rw mX10_pass 50 = some (.iconst 3, 1, 3, 0) := by decide +kernel
theorem rX10_pass_51 : am_rw mX10_pass 51 = some (.if_icmp .ge 23, 3, 74, 0) := by decide +kernel
theorem rX10_pass_54 : am_rw mX10_pass 54 = some (.aload_n 0, 1, 0, 0) := by decide +kernel
theorem rX10_pass_55 : am_rw mX10_pass 55 = some (.getfield 65, 3, 10, 24) := by decide +kernel
theorem rX10_pass_58 : am_rw mX10_pass 58 = some (.iload_n 3, 1, 0, 0) := by decide +kernel
theorem rX10_pass_59 : am_rw mX10_pass 59 = some (.baload, 1, 0, 0) := by decide +kernel
theorem rX10_pass_60 : am_rw mX10_pass 60 = some (.ifCond .eq 8, 3, 68, 0) := by decide +kernel
theorem rX10_pass_63 : am_rw mX10_pass 63 = some (.aload_n 0, 1, 0, 0) := by decide +kernel
theorem rX10_pass_64 : am_rw mX10_pass 64 = some (.iload_n 3, 1, 0, 0) := by decide +kernel
theorem rX10_pass_65 : am_rw mX10_pass 65 = some (.invokevirtual 340, 3, 173, 2) := by decide +kernel
theorem rX10_pass_68 : am_rw mX10_pass 68 = some (.iinc 3 1, 3, 0, 0) := by decide +kernel
theorem rX10_pass_71 : am_rw mX10_pass 71 = some (.goto (-22), 3, 49, 0) := by decide +kernel
theorem rX10_pass_74 : am_rw mX10_pass 74 = some (.iconst 0, 1, 0, 0) := by decide +kernel
theorem rX10_pass_75 : am_rw mX10_pass 75 = some (.istore_n 3, 1, 0, 0) := by decide +kernel
theorem rX10_pass_76 : am_rw mX10_pass 76 = some (.iload_n 3, 1, 0, 0) := by decide +kernel
theorem rX10_pass_77 : am_rw mX10_pass 77 = some (.aload_n 0, 1, 0, 0) := by decide +kernel
theorem rX10_pass_78 : am_rw mX10_pass 78 = some (.getfield 324, 3, 10, 39) := by decide +kernel
theorem rX10_pass_81 : am_rw mX10_pass 81 = some (.if_icmp .ge 23, 3, 104, 0) := by decide +kernel
theorem rX10_pass_84 : am_rw mX10_pass 84 = some (.aload_n 0, 1, 0, 0) := by decide +kernel
theorem rX10_pass_85 : am_rw mX10_pass 85 = some (.getfield 120, 3, 10, 43) := by decide +kernel
theorem rX10_pass_88 : am_rw mX10_pass 88 = some (.iload_n 3, 1, 0, 0) := by decide +kernel
theorem rX10_pass_89 : am_rw mX10_pass 89 = some (.iaload, 1, 0, 0) := by decide +kernel
theorem rX10_pass_90 : am_rw mX10_pass 90 = some (.ifCond .ne 8, 3, 98, 0) := by decide +kernel
theorem rX10_pass_93 : am_rw mX10_pass 93 = some (.aload_n 0, 1, 0, 0) := by decide +kernel
theorem rX10_pass_94 : am_rw mX10_pass 94 = some (.iload_n 3, 1, 0, 0) := by decide +kernel
theorem rX10_pass_95 : am_rw mX10_pass 95 = some (.invokevirtual 343, 3, 174, 2) := by decide +kernel
theorem rX10_pass_98 : am_rw mX10_pass 98 = some (.iinc 3 1, 3, 0, 0) := by decide +kernel
theorem rX10_pass_101 : am_rw mX10_pass 101 = some (.goto (-25), 3, 76, 0) := by decide +kernel
theorem rX10_pass_104 : am_rw mX10_pass 104 = some (.aload_n 0, 1, 0, 0) := by decide +kernel
theorem rX10_pass_105 : am_rw mX10_pass 105 = some (.dup, 1, 0, 0) := by decide +kernel
theorem rX10_pass_106 : am_rw mX10_pass 106 = some (.getfield 301, 3, 10, 1) := by decide +kernel
theorem rX10_pass_109 : am_rw mX10_pass 109 = some (.iconst 1, 1, 1, 0) := by decide +kernel
theorem rX10_pass_110 : am_rw mX10_pass 110 = some (.iadd, 1, 0, 0) := by decide +kernel
theorem rX10_pass_111 : am_rw mX10_pass 111 = some (.putfield 301, 3, 10, 1) := by decide +kernel
theorem rX10_pass_114 : am_rw mX10_pass 114 = some (.iinc 2 1, 3, 0, 0) := by decide +kernel
theorem rX10_pass_117 : am_rw mX10_pass 117 = some (.goto (-75), 3, 42, 0) := by decide +kernel
theorem rX10_pass_120 : am_rw mX10_pass 120 = some (.aload_n 0, 1, 0, 0) := by decide +kernel
theorem rX10_pass_121 : am_rw mX10_pass 121 = some (.getfield 301, 3, 10, 1) := by decide +kernel
theorem rX10_pass_124 : am_rw mX10_pass 124 = some (.ireturn, 1, 0, 0) := by decide +kernel
