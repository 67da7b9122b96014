/-! own: rows of the methods, for the rules -/
set_option maxRecDepth 100000
theorem rX9_init_0 : am_rw mX9_init 0 = some (.aload_n 0, 1, 0, 0) := by decide +kernel
theorem rX9_init_1 : am_rw mX9_init 1 = some (.invokespecial 3, 3, 999, 1) := by decide +kernel
theorem rX9_init_4 : am_rw mX9_init 4 = some (.aload_n 0, 1, 0, 0) := by decide +kernel
theorem rX9_init_5 : am_rw mX9_init 5 = some (.new 9, 3, 1, 0) := by decide +kernel
theorem rX9_init_8 : am_rw mX9_init 8 = some (.dup, 1, 0, 0) := by decide +kernel
theorem rX9_init_9 : am_rw mX9_init 9 = some (.invokespecial 11, 3, 2, 1) := by decide +kernel
theorem rX9_init_12 : am_rw mX9_init 12 = some (.putfield 12, 3, 9, 0) := by decide +kernel
theorem rX9_init_15 : am_rw mX9_init 15 = some (.aload_n 0, 1, 0, 0) := by decide +kernel
theorem rX9_init_16 : am_rw mX9_init 16 = some (.new 16, 3, 3, 0) := by decide +kernel
theorem rX9_init_19 : am_rw mX9_init 19 = some (.dup, 1, 0, 0) := by decide +kernel
theorem rX9_init_20 : am_rw mX9_init 20 = some (.invokespecial 18, 3, 12, 1) := by decide +kernel
theorem rX9_init_23 : am_rw mX9_init 23 = some (.putfield 19, 3, 9, 1) := by decide +kernel
theorem rX9_init_26 : am_rw mX9_init 26 = some (.aload_n 0, 1, 0, 0) := by decide +kernel
theorem rX9_init_27 : am_rw mX9_init 27 = some (.new 23, 3, 6, 0) := by decide +kernel
theorem rX9_init_30 : am_rw mX9_init 30 = some (.dup, 1, 0, 0) := by decide +kernel
theorem rX9_init_31 : am_rw mX9_init 31 = some (.invokespecial 25, 3, 37, 1) := by decide +kernel
theorem rX9_init_34 : am_rw mX9_init 34 = some (.putfield 26, 3, 9, 2) := by decide +kernel
theorem rX9_init_37 : am_rw mX9_init 37 = some (.aload_n 0, 1, 0, 0) := by decide +kernel
theorem rX9_init_38 : am_rw mX9_init 38 = some (.bipush 40, 2, 40, 0) := by decide +kernel
theorem rX9_init_40 : am_rw mX9_init 40 = some (.anewarray 30, 3, 31, 0) := by decide +kernel
theorem rX9_init_43 : am_rw mX9_init 43 = some (.putfield 32, 3, 9, 3) := by decide +kernel
theorem rX9_init_46 : am_rw mX9_init 46 = some (.aload_n 0, 1, 0, 0) := by decide +kernel
theorem rX9_init_47 : am_rw mX9_init 47 = some (.new 30, 3, 5, 0) := by decide +kernel
theorem rX9_init_50 : am_rw mX9_init 50 = some (.dup, 1, 0, 0) := by decide +kernel
theorem rX9_init_51 : am_rw mX9_init 51 = some (.invokespecial 36, 3, 35, 1) := by decide +kernel
theorem rX9_init_54 : am_rw mX9_init 54 = some (.putfield 37, 3, 9, 4) := by decide +kernel
theorem rX9_init_57 : am_rw mX9_init 57 = some (.aload_n 0, 1, 0, 0) := by decide +kernel
theorem rX9_init_58 : am_rw mX9_init 58 = some (.iconst 3, 1, 3, 0) := by decide +kernel
theorem rX9_init_59 : am_rw mX9_init 59 = some (.anewarray 41, 3, 32, 0) := by decide +kernel
theorem rX9_init_62 : am_rw mX9_init 62 = some (.putfield 43, 3, 9, 5) := by decide +kernel
theorem rX9_init_65 : am_rw mX9_init 65 = some (.aload_n 0, 1, 0, 0) := by decide +kernel
theorem rX9_init_66 : am_rw mX9_init 66 = some (.bipush 60, 2, 60, 0) := by decide +kernel
theorem rX9_init_68 : am_rw mX9_init 68 = some (.anewarray 47, 3, 33, 0) := by decide +kernel
theorem rX9_init_71 : am_rw mX9_init 71 = some (.putfield 49, 3, 9, 6) := by decide +kernel
theorem rX9_init_74 : am_rw mX9_init 74 = some (.aload_n 0, 1, 0, 0) := by decide +kernel
theorem rX9_init_75 : am_rw mX9_init 75 = some (.iconst 0, 1, 0, 0) := by decide +kernel
theorem rX9_init_76 : am_rw mX9_init 76 = some (.putfield 53, 3, 9, 7) := by decide +kernel
theorem rX9_init_79 : am_rw mX9_init 79 = some (.aload_n 0, 1, 0, 0) := by decide +kernel
theorem rX9_init_80 : am_rw mX9_init 80 = some (.iconst 0, 1, 0, 0) := by decide +kernel
theorem rX9_init_81 : am_rw mX9_init 81 = some (.putfield 57, 3, 9, 8) := by decide +kernel
theorem rX9_init_84 : am_rw mX9_init 84 = some (.aload_n 0, 1, 0, 0) := by decide +kernel
theorem rX9_init_85 : am_rw mX9_init 85 = some (.iconst 0, 1, 0, 0) := by decide +kernel
theorem rX9_init_86 : am_rw mX9_init 86 = some (.putfield 60, 3, 9, 9) := by decide +kernel
theorem rX9_init_89 : am_rw mX9_init 89 = some (.iconst 0, 1, 0, 0) := by decide +kernel
theorem rX9_init_90 : am_rw mX9_init 90 = some (.istore_n 1, 1, 0, 0) := by decide +kernel
theorem rX9_init_91 : am_rw mX9_init 91 = some (.iload_n 1, 1, 0, 0) := by decide +kernel
theorem rX9_init_92 : am_rw mX9_init 92 = some (.aload_n 0, 1, 0, 0) := by decide +kernel
theorem rX9_init_93 : am_rw mX9_init 93 = some (.getfield 32, 3, 9, 3) := by decide +kernel
theorem rX9_init_96 : am_rw mX9_init 96 = some (.arraylength, 1, 0, 0) := by decide +kernel
theorem rX9_init_97 : am_rw mX9_init 97 = some (.if_icmp .ge 22, 3, 119, 0) := by decide +kernel
theorem rX9_init_100 : am_rw mX9_init 100 = some (.aload_n 0, 1, 0, 0) := by decide +kernel
theorem rX9_init_101 : am_rw mX9_init 101 = some (.getfield 32, 3, 9, 3) := by decide +kernel
theorem rX9_init_104 : am_rw mX9_init 104 = some (.iload_n 1, 1, 0, 0) := by decide +kernel
theorem rX9_init_105 : am_rw mX9_init 105 = some (.new 30, 3, 5, 0) := by decide +kernel
theorem rX9_init_108 : am_rw mX9_init 108 = some (.dup, 1, 0, 0) := by decide +kernel
theorem rX9_init_109 : am_rw mX9_init 109 = some (.invokespecial 36, 3, 35, 1) := by decide +kernel
theorem rX9_init_112 : am_rw mX9_init 112 = some (.aastore, 1, 0, 0) := by decide +kernel
theorem rX9_init_113 : am_rw mX9_init 113 = some (.iinc 1 1, 3, 0, 0) := by decide +kernel
theorem rX9_init_116 : am_rw mX9_init 116 = some (.goto (-25), 3, 91, 0) := by decide +kernel
theorem rX9_init_119 : am_rw mX9_init 119 = some (.iconst 0, 1, 0, 0) := by decide +kernel
theorem rX9_init_120 : am_rw mX9_init 120 = some (.istore_n 1, 1, 0, 0) := by decide +kernel
theorem rX9_init_121 : am_rw mX9_init 121 = some (.iload_n 1, 1, 0, 0) := by decide +kernel
theorem rX9_init_122 : am_rw mX9_init 122 = some (.aload_n 0, 1, 0, 0) := by decide +kernel
theorem rX9_init_123 : am_rw mX9_init 123 = some (.getfield 43, 3, 9, 5) := by decide +kernel
theorem rX9_init_126 : am_rw mX9_init 126 = some (.arraylength, 1, 0, 0) := by decide +kernel
theorem rX9_init_127 : am_rw mX9_init 127 = some (.if_icmp .ge 22, 3, 149, 0) := by decide +kernel
theorem rX9_init_130 : am_rw mX9_init 130 = some (.aload_n 0, 1, 0, 0) := by decide +kernel
theorem rX9_init_131 : am_rw mX9_init 131 = some (.getfield 43, 3, 9, 5) := by decide +kernel
theorem rX9_init_134 : am_rw mX9_init 134 = some (.iload_n 1, 1, 0, 0) := by decide +kernel
theorem rX9_init_135 : am_rw mX9_init 135 = some (.new 41, 3, 0, 0) := by decide +kernel
theorem rX9_init_138 : am_rw mX9_init 138 = some (.dup, 1, 0, 0) := by decide +kernel
theorem rX9_init_139 : am_rw mX9_init 139 = some (.invokespecial 63, 3, 0, 1) := by decide +kernel
theorem rX9_init_142 : am_rw mX9_init 142 = some (.aastore, 1, 0, 0) := by decide +kernel
theorem rX9_init_143 : am_rw mX9_init 143 = some (.iinc 1 1, 3, 0, 0) := by decide +kernel
theorem rX9_init_146 : am_rw mX9_init 146 = some (.goto (-25), 3, 121, 0) := by decide +kernel
theorem rX9_init_149 : am_rw mX9_init 149 = some (.iconst 0, 1, 0, 0) := by decide +kernel
theorem rX9_init_150 : am_rw mX9_init 150 = some (.istore_n 1, 1, 0, 0) := by decide +kernel
theorem rX9_init_151 : am_rw mX9_init 151 = some (.iload_n 1, 1, 0, 0) := by decide +kernel
theorem rX9_init_152 : am_rw mX9_init 152 = some (.aload_n 0, 1, 0, 0) := by decide +kernel
theorem rX9_init_153 : am_rw mX9_init 153 = some (.getfield 49, 3, 9, 6) := by decide +kernel
theorem rX9_init_156 : am_rw mX9_init 156 = some (.arraylength, 1, 0, 0) := by decide +kernel
theorem rX9_init_157 : am_rw mX9_init 157 = some (.if_icmp .ge 22, 3, 179, 0) := by decide +kernel
theorem rX9_init_160 : am_rw mX9_init 160 = some (.aload_n 0, 1, 0, 0) := by decide +kernel
theorem rX9_init_161 : am_rw mX9_init 161 = some (.getfield 49, 3, 9, 6) := by decide +kernel
theorem rX9_init_164 : am_rw mX9_init 164 = some (.iload_n 1, 1, 0, 0) := by decide +kernel
theorem rX9_init_165 : am_rw mX9_init 165 = some (.new 47, 3, 7, 0) := by decide +kernel
theorem rX9_init_168 : am_rw mX9_init 168 = some (.dup, 1, 0, 0) := by decide +kernel
theorem rX9_init_169 : am_rw mX9_init 169 = some (.invokespecial 64, 3, 57, 1) := by decide +kernel
theorem rX9_init_172 : am_rw mX9_init 172 = some (.aastore, 1, 0, 0) := by decide +kernel
theorem rX9_init_173 : am_rw mX9_init 173 = some (.iinc 1 1, 3, 0, 0) := by decide +kernel
theorem rX9_init_176 : am_rw mX9_init 176 = some (.goto (-25), 3, 151, 0) := by decide +kernel
theorem rX9_init_179 : am_rw mX9_init 179 = some (.return_, 1, 0, 0) := by decide +kernel
theorem rX9_type_0 : am_rw mX9_type 0 = some (.iload_n 1, 1, 0, 0) := by decide +kernel
theorem rX9_type_1 : am_rw mX9_type 1 = some (.invokestatic 65, 3, 3, 1) := by decide +kernel
theorem rX9_type_4 : am_rw mX9_type 4 = some (.ifCond .ne 13, 3, 17, 0) := by decide +kernel
theorem rX9_type_17 : am_rw mX9_type 17 = some (.aload_n 0, 1, 0, 0) := by decide +kernel
theorem rX9_type_18 : am_rw mX9_type 18 = some (.getfield 12, 3, 9, 0) := by decide +kernel
theorem rX9_type_21 : am_rw mX9_type 21 = some (.invokevirtual 76, 3, 4, 1) := by decide +kernel
theorem rX9_type_24 : am_rw mX9_type 24 = some (.ifCond .eq 13, 3, 37, 0) := by decide +kernel
theorem rX9_type_37 : am_rw mX9_type 37 = some (.aload_n 0, 1, 0, 0) := by decide +kernel
theorem rX9_type_38 : am_rw mX9_type 38 = some (.getfield 12, 3, 9, 0) := by decide +kernel
theorem rX9_type_41 : am_rw mX9_type 41 = some (.iload_n 1, 1, 0, 0) := by decide +kernel
theorem rX9_type_42 : am_rw mX9_type 42 = some (.invokevirtual 85, 3, 5, 2) := by decide +kernel
theorem rX9_type_45 : am_rw mX9_type 45 = some (.ireturn, 1, 0, 0) := by decide +kernel
theorem rX9_wipe_0 : am_rw mX9_wipe 0 = some (.aload_n 0, 1, 0, 0) := by decide +kernel
theorem rX9_wipe_1 : am_rw mX9_wipe 1 = some (.getfield 12, 3, 9, 0) := by decide +kernel
theorem rX9_wipe_4 : am_rw mX9_wipe 4 = some (.invokevirtual 89, 3, 6, 1) := by decide +kernel
theorem rX9_wipe_7 : am_rw mX9_wipe 7 = some (.ireturn, 1, 0, 0) := by decide +kernel
theorem rX9_fault_0 : am_rw mX9_fault 0 = some (.aload_n 0, 1, 0, 0) := by decide +kernel
theorem rX9_fault_1 : am_rw mX9_fault 1 = some (.getfield 19, 3, 9, 1) := by decide +kernel
theorem rX9_fault_4 : am_rw mX9_fault 4 = some (.aload_n 0, 1, 0, 0) := by decide +kernel
theorem rX9_fault_5 : am_rw mX9_fault 5 = some (.getfield 12, 3, 9, 0) := by decide +kernel
theorem rX9_fault_8 : am_rw mX9_fault 8 = some (.iload_n 1, 1, 0, 0) := by decide +kernel
theorem rX9_fault_9 : am_rw mX9_fault 9 = some (.invokevirtual 93, 3, 13, 3) := by decide +kernel
theorem rX9_fault_12 : am_rw mX9_fault 12 = some (.ireturn, 1, 0, 0) := by decide +kernel
theorem rX9_publish_0 : am_rw mX9_publish 0 = some (.iload_n 1, 1, 0, 0) := by decide +kernel
theorem rX9_publish_1 : am_rw mX9_publish 1 = some (.invokestatic 97, 3, 88, 1) := by decide +kernel
theorem rX9_publish_4 : am_rw mX9_publish 4 = some (.ifCond .ne 13, 3, 17, 0) := by decide +kernel
theorem rX9_publish_17 : am_rw mX9_publish 17 = some (.aload_n 0, 1, 0, 0) := by decide +kernel
theorem rX9_publish_18 : am_rw mX9_publish 18 = some (.getfield 19, 3, 9, 1) := by decide +kernel
theorem rX9_publish_21 : am_rw mX9_publish 21 = some (.aload_n 0, 1, 0, 0) := by decide +kernel
theorem rX9_publish_22 : am_rw mX9_publish 22 = some (.getfield 12, 3, 9, 0) := by decide +kernel
theorem rX9_publish_25 : am_rw mX9_publish 25 = some (.iconst 0, 1, 0, 0) := by decide +kernel
theorem rX9_publish_26 : am_rw mX9_publish 26 = some (.invokevirtual 93, 3, 13, 3) := by decide +kernel
theorem rX9_publish_29 : am_rw mX9_publish 29 = some (.iconst (-1), 1, 1, 1) := by decide +kernel
theorem rX9_publish_30 : am_rw mX9_publish 30 = some (.if_icmp .eq 13, 3, 43, 0) := by decide +kernel
theorem rX9_publish_43 : am_rw mX9_publish 43 = some (.aload_n 0, 1, 0, 0) := by decide +kernel
theorem rX9_publish_44 : am_rw mX9_publish 44 = some (.getfield 26, 3, 9, 2) := by decide +kernel
theorem rX9_publish_47 : am_rw mX9_publish 47 = some (.iload_n 1, 1, 0, 0) := by decide +kernel
theorem rX9_publish_48 : am_rw mX9_publish 48 = some (.aload_n 0, 1, 0, 0) := by decide +kernel
theorem rX9_publish_49 : am_rw mX9_publish 49 = some (.getfield 19, 3, 9, 1) := by decide +kernel
theorem rX9_publish_52 : am_rw mX9_publish 52 = some (.getfield 108, 3, 3, 0) := by decide +kernel
theorem rX9_publish_55 : am_rw mX9_publish 55 = some (.invokevirtual 112, 3, 47, 3) := by decide +kernel
theorem rX9_publish_58 : am_rw mX9_publish 58 = some (.ifCond .ne 13, 3, 71, 0) := by decide +kernel
theorem rX9_publish_71 : am_rw mX9_publish 71 = some (.aload_n 0, 1, 0, 0) := by decide +kernel
theorem rX9_publish_72 : am_rw mX9_publish 72 = some (.getfield 26, 3, 9, 2) := by decide +kernel
theorem rX9_publish_75 : am_rw mX9_publish 75 = some (.iload_n 1, 1, 0, 0) := by decide +kernel
theorem rX9_publish_76 : am_rw mX9_publish 76 = some (.aload_n 0, 1, 0, 0) := by decide +kernel
theorem rX9_publish_77 : am_rw mX9_publish 77 = some (.getfield 19, 3, 9, 1) := by decide +kernel
theorem rX9_publish_80 : am_rw mX9_publish 80 = some (.getfield 108, 3, 3, 0) := by decide +kernel
theorem rX9_publish_83 : am_rw mX9_publish 83 = some (.invokevirtual 118, 3, 48, 3) := by decide +kernel
theorem rX9_publish_86 : am_rw mX9_publish 86 = some (.ireturn, 1, 0, 0) := by decide +kernel
theorem rX9_retire_0 : am_rw mX9_retire 0 = some (.iload_n 1, 1, 0, 0) := by decide +kernel
theorem rX9_retire_1 : am_rw mX9_retire 1 = some (.invokestatic 97, 3, 88, 1) := by decide +kernel
theorem rX9_retire_4 : am_rw mX9_retire 4 = some (.ifCond .ne 13, 3, 17, 0) := by decide +kernel
theorem rX9_retire_17 : am_rw mX9_retire 17 = some (.aload_n 0, 1, 0, 0) := by decide +kernel
theorem rX9_retire_18 : am_rw mX9_retire 18 = some (.getfield 26, 3, 9, 2) := by decide +kernel
theorem rX9_retire_21 : am_rw mX9_retire 21 = some (.iload_n 1, 1, 0, 0) := by decide +kernel
theorem rX9_retire_22 : am_rw mX9_retire 22 = some (.invokevirtual 122, 3, 39, 2) := by decide +kernel
theorem rX9_retire_25 : am_rw mX9_retire 25 = some (.iconst (-1), 1, 1, 1) := by decide +kernel
theorem rX9_retire_26 : am_rw mX9_retire 26 = some (.if_icmp .eq 14, 3, 40, 0) := by decide +kernel
theorem rX9_retire_29 : am_rw mX9_retire 29 = some (.aload_n 0, 1, 0, 0) := by decide +kernel
theorem rX9_retire_30 : am_rw mX9_retire 30 = some (.getfield 26, 3, 9, 2) := by decide +kernel
theorem rX9_retire_33 : am_rw mX9_retire 33 = some (.iload_n 1, 1, 0, 0) := by decide +kernel
theorem rX9_retire_34 : am_rw mX9_retire 34 = some (.invokevirtual 126, 3, 46, 2) := by decide +kernel
theorem rX9_retire_37 : am_rw mX9_retire 37 = some (.ifCond .eq 13, 3, 50, 0) := by decide +kernel
theorem rX9_retire_50 : am_rw mX9_retire 50 = some (.aload_n 0, 1, 0, 0) := by decide +kernel
theorem rX9_retire_51 : am_rw mX9_retire 51 = some (.getfield 26, 3, 9, 2) := by decide +kernel
theorem rX9_retire_54 : am_rw mX9_retire 54 = some (.iload_n 1, 1, 0, 0) := by decide +kernel
theorem rX9_retire_55 : am_rw mX9_retire 55 = some (.invokevirtual 131, 3, 52, 2) := by decide +kernel
theorem rX9_retire_58 : am_rw mX9_retire 58 = some (.ireturn, 1, 0, 0) := by decide +kernel
theorem rX9_latest_0 : am_rw mX9_latest 0 = some (.iload_n 1, 1, 0, 0) := by decide +kernel
theorem rX9_latest_1 : am_rw mX9_latest 1 = some (.invokestatic 97, 3, 88, 1) := by decide +kernel
theorem rX9_latest_4 : am_rw mX9_latest 4 = some (.ifCond .ne 13, 3, 17, 0) := by decide +kernel
theorem rX9_latest_17 : am_rw mX9_latest 17 = some (.aload_n 0, 1, 0, 0) := by decide +kernel
theorem rX9_latest_18 : am_rw mX9_latest 18 = some (.getfield 26, 3, 9, 2) := by decide +kernel
theorem rX9_latest_21 : am_rw mX9_latest 21 = some (.iload_n 1, 1, 0, 0) := by decide +kernel
theorem rX9_latest_22 : am_rw mX9_latest 22 = some (.invokevirtual 122, 3, 39, 2) := by decide +kernel
theorem rX9_latest_25 : am_rw mX9_latest 25 = some (.ireturn, 1, 0, 0) := by decide +kernel
theorem rX9_pin_0 : am_rw mX9_pin 0 = some (.aload_n 0, 1, 0, 0) := by decide +kernel
theorem rX9_pin_1 : am_rw mX9_pin 1 = some (.getfield 26, 3, 9, 2) := by decide +kernel
theorem rX9_pin_4 : am_rw mX9_pin 4 = some (.iload_n 1, 1, 0, 0) := by decide +kernel
theorem rX9_pin_5 : am_rw mX9_pin 5 = some (.invokevirtual 134, 3, 38, 2) := by decide +kernel
theorem rX9_pin_8 : am_rw mX9_pin 8 = some (.ifCond .eq 10, 3, 18, 0) := by decide +kernel
theorem rX9_pin_11 : am_rw mX9_pin 11 = some (.iload_n 2, 1, 0, 0) := by decide +kernel
theorem rX9_pin_12 : am_rw mX9_pin 12 = some (.invokestatic 97, 3, 88, 1) := by decide +kernel
theorem rX9_pin_15 : am_rw mX9_pin 15 = some (.ifCond .ne 13, 3, 28, 0) := by decide +kernel
theorem rX9_pin_28 : am_rw mX9_pin 28 = some (.aload_n 0, 1, 0, 0) := by decide +kernel
theorem rX9_pin_29 : am_rw mX9_pin 29 = some (.getfield 26, 3, 9, 2) := by decide +kernel
theorem rX9_pin_32 : am_rw mX9_pin 32 = some (.iload_n 1, 1, 0, 0) := by decide +kernel
theorem rX9_pin_33 : am_rw mX9_pin 33 = some (.iload_n 2, 1, 0, 0) := by decide +kernel
theorem rX9_pin_34 : am_rw mX9_pin 34 = some (.invokevirtual 139, 3, 42, 3) := by decide +kernel
theorem rX9_pin_37 : am_rw mX9_pin 37 = some (.ireturn, 1, 0, 0) := by decide +kernel
theorem rX9_rain_0 : am_rw mX9_rain 0 = some (.iload_n 1, 1, 0, 0) := by decide +kernel
theorem rX9_rain_1 : am_rw mX9_rain 1 = some (.ifCond .lt 8, 3, 9, 0) := by decide +kernel
theorem rX9_rain_4 : am_rw mX9_rain 4 = some (.iload_n 1, 1, 0, 0) := by decide +kernel
theorem rX9_rain_5 : am_rw mX9_rain 5 = some (.iconst 3, 1, 3, 0) := by decide +kernel
theorem rX9_rain_6 : am_rw mX9_rain 6 = some (.if_icmp .lt 13, 3, 19, 0) := by decide +kernel
theorem rX9_rain_19 : am_rw mX9_rain 19 = some (.iload_n 2, 1, 0, 0) := by decide +kernel
theorem rX9_rain_20 : am_rw mX9_rain 20 = some (.invokestatic 145, 3, 89, 1) := by decide +kernel
theorem rX9_rain_23 : am_rw mX9_rain 23 = some (.ifCond .eq 14, 3, 37, 0) := by decide +kernel
theorem rX9_rain_26 : am_rw mX9_rain 26 = some (.iload_n 3, 1, 0, 0) := by decide +kernel
theorem rX9_rain_27 : am_rw mX9_rain 27 = some (.ifCond .lt 10, 3, 37, 0) := by decide +kernel
theorem rX9_rain_30 : am_rw mX9_rain 30 = some (.iload_n 3, 1, 0, 0) := by decide +kernel
theorem rX9_rain_31 : am_rw mX9_rain 31 = some (.sipush 500, 3, 500, 0) := by decide +kernel
theorem rX9_rain_34 : am_rw mX9_rain 34 = some (.if_icmp .le 13, 3, 47, 0) := by decide +kernel
theorem rX9_rain_47 : am_rw mX9_rain 47 = some (.aload_n 0, 1, 0, 0) := by decide +kernel
theorem rX9_rain_48 : am_rw mX9_rain 48 = some (.getfield 26, 3, 9, 2) := by decide +kernel
theorem rX9_rain_51 : am_rw mX9_rain 51 = some (.iload_n 1, 1, 0, 0) := by decide +kernel
theorem rX9_rain_52 : am_rw mX9_rain 52 = some (.iload_n 2, 1, 0, 0) := by decide +kernel
theorem rX9_rain_53 : am_rw mX9_rain 53 = some (.iload_n 3, 1, 0, 0) := by decide +kernel
theorem rX9_rain_54 : am_rw mX9_rain 54 = some (.invokevirtual 150, 3, 53, 4) := by decide +kernel
theorem rX9_rain_57 : am_rw mX9_rain 57 = some (.istore 4, 2, 0, 0) := by decide +kernel
theorem rX9_rain_59 : am_rw mX9_rain 59 = some (.iload 4, 2, 0, 0) := by decide +kernel
theorem rX9_rain_61 : am_rw mX9_rain 61 = some (.iload_n 3, 1, 0, 0) := by decide +kernel
theorem rX9_rain_62 : am_rw mX9_rain 62 = some (.if_icmp .eq 9, 3, 71, 0) := by decide +kernel
theorem rX9_rain_65 : am_rw mX9_rain 65 = some (.aload_n 0, 1, 0, 0) := by decide +kernel
theorem rX9_rain_66 : am_rw mX9_rain 66 = some (.iload_n 1, 1, 0, 0) := by decide +kernel
theorem rX9_rain_67 : am_rw mX9_rain 67 = some (.iload_n 2, 1, 0, 0) := by decide +kernel
theorem rX9_rain_68 : am_rw mX9_rain 68 = some (.invokevirtual 154, 3, 95, 3) := by decide +kernel
theorem rX9_rain_71 : am_rw mX9_rain 71 = some (.iload 4, 2, 0, 0) := by decide +kernel
theorem rX9_rain_73 : am_rw mX9_rain 73 = some (.ireturn, 1, 0, 0) := by decide +kernel
theorem rX9_out_0 : am_rw mX9_out 0 = some (.aload_n 0, 1, 0, 0) := by decide +kernel
theorem rX9_out_1 : am_rw mX9_out 1 = some (.getfield 26, 3, 9, 2) := by decide +kernel
theorem rX9_out_4 : am_rw mX9_out 4 = some (.iload_n 1, 1, 0, 0) := by decide +kernel
theorem rX9_out_5 : am_rw mX9_out 5 = some (.invokevirtual 134, 3, 38, 2) := by decide +kernel
theorem rX9_out_8 : am_rw mX9_out 8 = some (.ifCond .ne 13, 3, 21, 0) := by decide +kernel
theorem rX9_out_21 : am_rw mX9_out 21 = some (.iload_n 2, 1, 0, 0) := by decide +kernel
theorem rX9_out_22 : am_rw mX9_out 22 = some (.invokestatic 145, 3, 89, 1) := by decide +kernel
theorem rX9_out_25 : am_rw mX9_out 25 = some (.ifCond .ne 13, 3, 38, 0) := by decide +kernel
theorem rX9_out_38 : am_rw mX9_out 38 = some (.aload_n 0, 1, 0, 0) := by decide +kernel
theorem rX9_out_39 : am_rw mX9_out 39 = some (.getfield 26, 3, 9, 2) := by decide +kernel
theorem rX9_out_42 : am_rw mX9_out 42 = some (.iload_n 1, 1, 0, 0) := by decide +kernel
theorem rX9_out_43 : am_rw mX9_out 43 = some (.iload_n 2, 1, 0, 0) := by decide +kernel
theorem rX9_out_44 : am_rw mX9_out 44 = some (.invokevirtual 162, 3, 55, 3) := by decide +kernel
theorem rX9_out_47 : am_rw mX9_out 47 = some (.invokestatic 166, 3, 99, 1) := by decide +kernel
theorem rX9_out_50 : am_rw mX9_out 50 = some (.ireturn, 1, 0, 0) := by decide +kernel
theorem rX9_outAnew_0 : am_rw mX9_outAnew 0 = some (.aload_n 0, 1, 0, 0) := by decide +kernel
theorem rX9_outAnew_1 : am_rw mX9_outAnew 1 = some (.getfield 26, 3, 9, 2) := by decide +kernel
theorem rX9_outAnew_4 : am_rw mX9_outAnew 4 = some (.iload_n 1, 1, 0, 0) := by decide +kernel
theorem rX9_outAnew_5 : am_rw mX9_outAnew 5 = some (.invokevirtual 134, 3, 38, 2) := by decide +kernel
theorem rX9_outAnew_8 : am_rw mX9_outAnew 8 = some (.ifCond .ne 13, 3, 21, 0) := by decide +kernel
theorem rX9_outAnew_21 : am_rw mX9_outAnew 21 = some (.iload_n 2, 1, 0, 0) := by decide +kernel
theorem rX9_outAnew_22 : am_rw mX9_outAnew 22 = some (.invokestatic 145, 3, 89, 1) := by decide +kernel
theorem rX9_outAnew_25 : am_rw mX9_outAnew 25 = some (.ifCond .ne 13, 3, 38, 0) := by decide +kernel
theorem rX9_outAnew_38 : am_rw mX9_outAnew 38 = some (.aload_n 0, 1, 0, 0) := by decide +kernel
theorem rX9_outAnew_39 : am_rw mX9_outAnew 39 = some (.getfield 26, 3, 9, 2) := by decide +kernel
theorem rX9_outAnew_42 : am_rw mX9_outAnew 42 = some (.iload_n 1, 1, 0, 0) := by decide +kernel
theorem rX9_outAnew_43 : am_rw mX9_outAnew 43 = some (.invokevirtual 170, 3, 54, 2) := by decide +kernel
theorem rX9_outAnew_46 : am_rw mX9_outAnew 46 = some (.aload_n 0, 1, 0, 0) := by decide +kernel
theorem rX9_outAnew_47 : am_rw mX9_outAnew 47 = some (.getfield 26, 3, 9, 2) := by decide +kernel
theorem rX9_outAnew_50 : am_rw mX9_outAnew 50 = some (.iload_n 1, 1, 0, 0) := by decide +kernel
theorem rX9_outAnew_51 : am_rw mX9_outAnew 51 = some (.iload_n 2, 1, 0, 0) := by decide +kernel
theorem rX9_outAnew_52 : am_rw mX9_outAnew 52 = some (.invokevirtual 162, 3, 55, 3) := by decide +kernel
theorem rX9_outAnew_55 : am_rw mX9_outAnew 55 = some (.invokestatic 166, 3, 99, 1) := by decide +kernel
theorem rX9_outAnew_58 : am_rw mX9_outAnew 58 = some (.ireturn, 1, 0, 0) := by decide +kernel
theorem rX9_run_0 : am_rw mX9_run 0 = some (.iload_n 1, 1, 0, 0) := by decide +kernel
theorem rX9_run_1 : am_rw mX9_run 1 = some (.invokestatic 97, 3, 88, 1) := by decide +kernel
theorem rX9_run_4 : am_rw mX9_run 4 = some (.ifCond .ne 13, 3, 17, 0) := by decide +kernel
theorem rX9_run_17 : am_rw mX9_run 17 = some (.iload_n 2, 1, 0, 0) := by decide +kernel
theorem rX9_run_18 : am_rw mX9_run 18 = some (.iconst 1, 1, 1, 0) := by decide +kernel
theorem rX9_run_19 : am_rw mX9_run 19 = some (.if_icmp .lt 9, 3, 28, 0) := by decide +kernel
theorem rX9_run_22 : am_rw mX9_run 22 = some (.iload_n 2, 1, 0, 0) := by decide +kernel
theorem rX9_run_23 : am_rw mX9_run 23 = some (.bipush 48, 2, 48, 0) := by decide +kernel
theorem rX9_run_25 : am_rw mX9_run 25 = some (.if_icmp .le 13, 3, 38, 0) := by decide +kernel
theorem rX9_run_38 : am_rw mX9_run 38 = some (.aload_n 0, 1, 0, 0) := by decide +kernel
theorem rX9_run_39 : am_rw mX9_run 39 = some (.getfield 26, 3, 9, 2) := by decide +kernel
theorem rX9_run_42 : am_rw mX9_run 42 = some (.iload_n 1, 1, 0, 0) := by decide +kernel
theorem rX9_run_43 : am_rw mX9_run 43 = some (.invokevirtual 122, 3, 39, 2) := by decide +kernel
theorem rX9_run_46 : am_rw mX9_run 46 = some (.istore_n 3, 1, 0, 0) := by decide +kernel
theorem rX9_run_47 : am_rw mX9_run 47 = some (.iload_n 3, 1, 0, 0) := by decide +kernel
theorem rX9_run_48 : am_rw mX9_run 48 = some (.iconst (-1), 1, 1, 1) := by decide +kernel
theorem rX9_run_49 : am_rw mX9_run 49 = some (.if_icmp .eq 27, 3, 76, 0) := by decide +kernel
theorem rX9_run_52 : am_rw mX9_run 52 = some (.aload_n 0, 1, 0, 0) := by decide +kernel
theorem rX9_run_53 : am_rw mX9_run 53 = some (.getfield 60, 3, 9, 9) := by decide +kernel
theorem rX9_run_56 : am_rw mX9_run 56 = some (.iload_n 2, 1, 0, 0) := by decide +kernel
theorem rX9_run_57 : am_rw mX9_run 57 = some (.iadd, 1, 0, 0) := by decide +kernel
theorem rX9_run_58 : am_rw mX9_run 58 = some (.sipush 200, 3, 200, 0) := by decide +kernel
theorem rX9_run_61 : am_rw mX9_run 61 = some (.if_icmp .gt 15, 3, 76, 0) := by decide +kernel
theorem rX9_run_64 : am_rw mX9_run 64 = some (.aload_n 0, 1, 0, 0) := by decide +kernel
theorem rX9_run_65 : am_rw mX9_run 65 = some (.getfield 53, 3, 9, 7) := by decide +kernel
theorem rX9_run_68 : am_rw mX9_run 68 = some (.aload_n 0, 1, 0, 0) := by decide +kernel
theorem rX9_run_69 : am_rw mX9_run 69 = some (.getfield 32, 3, 9, 3) := by decide +kernel
theorem rX9_run_72 : am_rw mX9_run 72 = some (.arraylength, 1, 0, 0) := by decide +kernel
theorem rX9_run_73 : am_rw mX9_run 73 = some (.if_icmp .lt 13, 3, 86, 0) := by decide +kernel
theorem rX9_run_86 : am_rw mX9_run 86 = some (.aload_n 0, 1, 0, 0) := by decide +kernel
theorem rX9_run_87 : am_rw mX9_run 87 = some (.getfield 32, 3, 9, 3) := by decide +kernel
theorem rX9_run_90 : am_rw mX9_run 90 = some (.aload_n 0, 1, 0, 0) := by decide +kernel
theorem rX9_run_91 : am_rw mX9_run 91 = some (.getfield 53, 3, 9, 7) := by decide +kernel
theorem rX9_run_94 : am_rw mX9_run 94 = some (.aaload, 1, 0, 0) := by decide +kernel
theorem rX9_run_95 : am_rw mX9_run 95 = some (.aload_n 0, 1, 0, 0) := by decide +kernel
theorem rX9_run_96 : am_rw mX9_run 96 = some (.getfield 26, 3, 9, 2) := by decide +kernel
theorem rX9_run_99 : am_rw mX9_run 99 = some (.iload_n 3, 1, 0, 0) := by decide +kernel
theorem rX9_run_100 : am_rw mX9_run 100 = some (.aload_n 0, 1, 0, 0) := by decide +kernel
theorem rX9_run_101 : am_rw mX9_run 101 = some (.getfield 60, 3, 9, 9) := by decide +kernel
theorem rX9_run_104 : am_rw mX9_run 104 = some (.aload_n 0, 1, 0, 0) := by decide +kernel
theorem rX9_run_105 : am_rw mX9_run 105 = some (.getfield 60, 3, 9, 9) := by decide +kernel
theorem rX9_run_108 : am_rw mX9_run 108 = some (.iload_n 2, 1, 0, 0) := by decide +kernel
theorem rX9_run_109 : am_rw mX9_run 109 = some (.iadd, 1, 0, 0) := by decide +kernel
theorem rX9_run_110 : am_rw mX9_run 110 = some (.invokevirtual 178, 3, 36, 5) := by decide +kernel
theorem rX9_run_113 : am_rw mX9_run 113 = some (.aload_n 0, 1, 0, 0) := by decide +kernel
theorem rX9_run_114 : am_rw mX9_run 114 = some (.dup, 1, 0, 0) := by decide +kernel
theorem rX9_run_115 : am_rw mX9_run 115 = some (.getfield 53, 3, 9, 7) := by decide +kernel
theorem rX9_run_118 : am_rw mX9_run 118 = some (.iconst 1, 1, 1, 0) := by decide +kernel
theorem rX9_run_119 : am_rw mX9_run 119 = some (.iadd, 1, 0, 0) := by decide +kernel
theorem rX9_run_120 : am_rw mX9_run 120 = some (.putfield 53, 3, 9, 7) := by decide +kernel
theorem rX9_run_123 : am_rw mX9_run 123 = some (.aload_n 0, 1, 0, 0) := by decide +kernel
theorem rX9_run_124 : am_rw mX9_run 124 = some (.getfield 53, 3, 9, 7) := by decide +kernel
theorem rX9_run_127 : am_rw mX9_run 127 = some (.iconst 1, 1, 1, 0) := by decide +kernel
theorem rX9_run_128 : am_rw mX9_run 128 = some (.isub, 1, 0, 0) := by decide +kernel
theorem rX9_run_129 : am_rw mX9_run 129 = some (.ireturn, 1, 0, 0) := by decide +kernel
theorem rX9_why_0 : am_rw mX9_why 0 = some (.aload_n 0, 1, 0, 0) := by decide +kernel
theorem rX9_why_1 : am_rw mX9_why 1 = some (.iload_n 1, 1, 0, 0) := by decide +kernel
theorem rX9_why_2 : am_rw mX9_why 2 = some (.invokevirtual 182, 3, 91, 2) := by decide +kernel
theorem rX9_why_5 : am_rw mX9_why 5 = some (.ifCond .ne 13, 3, 18, 0) := by decide +kernel
theorem rX9_why_18 : am_rw mX9_why 18 = some (.aload_n 0, 1, 0, 0) := by decide +kernel
theorem rX9_why_19 : am_rw mX9_why 19 = some (.iload_n 1, 1, 0, 0) := by decide +kernel
theorem rX9_why_20 : am_rw mX9_why 20 = some (.invokevirtual 187, 3, 93, 2) := by decide +kernel
theorem rX9_why_23 : am_rw mX9_why 23 = some (.ireturn, 1, 0, 0) := by decide +kernel
theorem rX9_peak_0 : am_rw mX9_peak 0 = some (.aload_n 0, 1, 0, 0) := by decide +kernel
theorem rX9_peak_1 : am_rw mX9_peak 1 = some (.iload_n 1, 1, 0, 0) := by decide +kernel
theorem rX9_peak_2 : am_rw mX9_peak 2 = some (.invokevirtual 182, 3, 91, 2) := by decide +kernel
theorem rX9_peak_5 : am_rw mX9_peak 5 = some (.ifCond .ne 13, 3, 18, 0) := by decide +kernel
theorem rX9_peak_18 : am_rw mX9_peak 18 = some (.aload_n 0, 1, 0, 0) := by decide +kernel
theorem rX9_peak_19 : am_rw mX9_peak 19 = some (.getfield 32, 3, 9, 3) := by decide +kernel
theorem rX9_peak_22 : am_rw mX9_peak 22 = some (.iload_n 1, 1, 0, 0) := by decide +kernel
theorem rX9_peak_23 : am_rw mX9_peak 23 = some (.aaload, 1, 0, 0) := by decide +kernel
theorem rX9_peak_24 : am_rw mX9_peak 24 = some (.getfield 190, 3, 5, 3) := by decide +kernel
theorem rX9_peak_27 : am_rw mX9_peak 27 = some (.invokestatic 166, 3, 99, 1) := by decide +kernel
theorem rX9_peak_30 : am_rw mX9_peak 30 = some (.ireturn, 1, 0, 0) := by decide +kernel
theorem rX9_peakHour_0 : am_rw mX9_peakHour 0 = some (.aload_n 0, 1, 0, 0) := by decide +kernel
theorem rX9_peakHour_1 : am_rw mX9_peakHour 1 = some (.iload_n 1, 1, 0, 0) := by decide +kernel
theorem rX9_peakHour_2 : am_rw mX9_peakHour 2 = some (.invokevirtual 182, 3, 91, 2) := by decide +kernel
theorem rX9_peakHour_5 : am_rw mX9_peakHour 5 = some (.ifCond .ne 13, 3, 18, 0) := by decide +kernel
theorem rX9_peakHour_18 : am_rw mX9_peakHour 18 = some (.aload_n 0, 1, 0, 0) := by decide +kernel
theorem rX9_peakHour_19 : am_rw mX9_peakHour 19 = some (.getfield 32, 3, 9, 3) := by decide +kernel
theorem rX9_peakHour_22 : am_rw mX9_peakHour 22 = some (.iload_n 1, 1, 0, 0) := by decide +kernel
theorem rX9_peakHour_23 : am_rw mX9_peakHour 23 = some (.aaload, 1, 0, 0) := by decide +kernel
theorem rX9_peakHour_24 : am_rw mX9_peakHour 24 = some (.getfield 194, 3, 5, 4) := by decide +kernel
theorem rX9_peakHour_27 : am_rw mX9_peakHour 27 = some (.ireturn, 1, 0, 0) := by decide +kernel
theorem rX9_peakAnew_0 : am_rw mX9_peakAnew 0 = some (.aload_n 0, 1, 0, 0) := by decide +kernel
theorem rX9_peakAnew_1 : am_rw mX9_peakAnew 1 = some (.iload_n 1, 1, 0, 0) := by decide +kernel
theorem rX9_peakAnew_2 : am_rw mX9_peakAnew 2 = some (.invokevirtual 182, 3, 91, 2) := by decide +kernel
theorem rX9_peakAnew_5 : am_rw mX9_peakAnew 5 = some (.ifCond .ne 13, 3, 18, 0) := by decide +kernel
theorem rX9_peakAnew_18 : am_rw mX9_peakAnew 18 = some (.aload_n 0, 1, 0, 0) := by decide +kernel
theorem rX9_peakAnew_19 : am_rw mX9_peakAnew 19 = some (.getfield 32, 3, 9, 3) := by decide +kernel
theorem rX9_peakAnew_22 : am_rw mX9_peakAnew 22 = some (.iload_n 1, 1, 0, 0) := by decide +kernel
theorem rX9_peakAnew_23 : am_rw mX9_peakAnew 23 = some (.aaload, 1, 0, 0) := by decide +kernel
theorem rX9_peakAnew_24 : am_rw mX9_peakAnew 24 = some (.astore_n 2, 1, 0, 0) := by decide +kernel
theorem rX9_peakAnew_25 : am_rw mX9_peakAnew 25 = some (.aload_n 0, 1, 0, 0) := by decide +kernel
theorem rX9_peakAnew_26 : am_rw mX9_peakAnew 26 = some (.getfield 26, 3, 9, 2) := by decide +kernel
theorem rX9_peakAnew_29 : am_rw mX9_peakAnew 29 = some (.aload_n 2, 1, 0, 0) := by decide +kernel
theorem rX9_peakAnew_30 : am_rw mX9_peakAnew 30 = some (.getfield 197, 3, 5, 0) := by decide +kernel
theorem rX9_peakAnew_33 : am_rw mX9_peakAnew 33 = some (.invokevirtual 170, 3, 54, 2) := by decide +kernel
theorem rX9_peakAnew_36 : am_rw mX9_peakAnew 36 = some (.aload_n 0, 1, 0, 0) := by decide +kernel
theorem rX9_peakAnew_37 : am_rw mX9_peakAnew 37 = some (.getfield 37, 3, 9, 4) := by decide +kernel
theorem rX9_peakAnew_40 : am_rw mX9_peakAnew 40 = some (.aload_n 0, 1, 0, 0) := by decide +kernel
theorem rX9_peakAnew_41 : am_rw mX9_peakAnew 41 = some (.getfield 26, 3, 9, 2) := by decide +kernel
theorem rX9_peakAnew_44 : am_rw mX9_peakAnew 44 = some (.aload_n 2, 1, 0, 0) := by decide +kernel
theorem rX9_peakAnew_45 : am_rw mX9_peakAnew 45 = some (.getfield 197, 3, 5, 0) := by decide +kernel
theorem rX9_peakAnew_48 : am_rw mX9_peakAnew 48 = some (.aload_n 2, 1, 0, 0) := by decide +kernel
theorem rX9_peakAnew_49 : am_rw mX9_peakAnew 49 = some (.getfield 200, 3, 5, 1) := by decide +kernel
theorem rX9_peakAnew_52 : am_rw mX9_peakAnew 52 = some (.aload_n 2, 1, 0, 0) := by decide +kernel
theorem rX9_peakAnew_53 : am_rw mX9_peakAnew 53 = some (.getfield 203, 3, 5, 2) := by decide +kernel
theorem rX9_peakAnew_56 : am_rw mX9_peakAnew 56 = some (.invokevirtual 178, 3, 36, 5) := by decide +kernel
theorem rX9_peakAnew_59 : am_rw mX9_peakAnew 59 = some (.aload_n 0, 1, 0, 0) := by decide +kernel
theorem rX9_peakAnew_60 : am_rw mX9_peakAnew 60 = some (.getfield 37, 3, 9, 4) := by decide +kernel
theorem rX9_peakAnew_63 : am_rw mX9_peakAnew 63 = some (.getfield 190, 3, 5, 3) := by decide +kernel
theorem rX9_peakAnew_66 : am_rw mX9_peakAnew 66 = some (.invokestatic 166, 3, 99, 1) := by decide +kernel
theorem rX9_peakAnew_69 : am_rw mX9_peakAnew 69 = some (.ireturn, 1, 0, 0) := by decide +kernel
theorem rX9_build_0 : am_rw mX9_build 0 = some (.aload_n 0, 1, 0, 0) := by decide +kernel
theorem rX9_build_1 : am_rw mX9_build 1 = some (.iload_n 1, 1, 0, 0) := by decide +kernel
theorem rX9_build_2 : am_rw mX9_build 2 = some (.invokevirtual 206, 3, 90, 2) := by decide +kernel
theorem rX9_build_5 : am_rw mX9_build 5 = some (.ifCond .eq 10, 3, 15, 0) := by decide +kernel
theorem rX9_build_8 : am_rw mX9_build 8 = some (.iload_n 2, 1, 0, 0) := by decide +kernel
theorem rX9_build_9 : am_rw mX9_build 9 = some (.invokestatic 97, 3, 88, 1) := by decide +kernel
theorem rX9_build_12 : am_rw mX9_build 12 = some (.ifCond .ne 13, 3, 25, 0) := by decide +kernel
theorem rX9_build_25 : am_rw mX9_build 25 = some (.iload_n 3, 1, 0, 0) := by decide +kernel
theorem rX9_build_26 : am_rw mX9_build 26 = some (.iconst 1, 1, 1, 0) := by decide +kernel
theorem rX9_build_27 : am_rw mX9_build 27 = some (.if_icmp .lt 9, 3, 36, 0) := by decide +kernel
theorem rX9_build_30 : am_rw mX9_build 30 = some (.iload_n 3, 1, 0, 0) := by decide +kernel
theorem rX9_build_31 : am_rw mX9_build 31 = some (.ldc 211, 2, 0, 100000) := by decide +kernel
theorem rX9_build_33 : am_rw mX9_build 33 = some (.if_icmp .le 13, 3, 46, 0) := by decide +kernel
theorem rX9_build_46 : am_rw mX9_build 46 = some (.aload_n 0, 1, 0, 0) := by decide +kernel
theorem rX9_build_47 : am_rw mX9_build 47 = some (.getfield 43, 3, 9, 5) := by decide +kernel
theorem rX9_build_50 : am_rw mX9_build 50 = some (.iload_n 1, 1, 0, 0) := by decide +kernel
theorem rX9_build_51 : am_rw mX9_build 51 = some (.aaload, 1, 0, 0) := by decide +kernel
theorem rX9_build_52 : am_rw mX9_build 52 = some (.astore 4, 2, 0, 0) := by decide +kernel
theorem rX9_build_54 : am_rw mX9_build 54 = some (.aload 4, 2, 0, 0) := by decide +kernel
theorem rX9_build_56 : am_rw mX9_build 56 = some (.getfield 214, 3, 0, 2) := by decide +kernel
theorem rX9_build_59 : am_rw mX9_build 59 = some (.ifCond .eq 13, 3, 72, 0) := by decide +kernel
theorem rX9_build_72 : am_rw mX9_build 72 = some (.aload 4, 2, 0, 0) := by decide +kernel
theorem rX9_build_74 : am_rw mX9_build 74 = some (.iconst 1, 1, 1, 0) := by decide +kernel
theorem rX9_build_75 : am_rw mX9_build 75 = some (.putfield 214, 3, 0, 2) := by decide +kernel
theorem rX9_build_78 : am_rw mX9_build 78 = some (.aload 4, 2, 0, 0) := by decide +kernel
theorem rX9_build_80 : am_rw mX9_build 80 = some (.iload_n 2, 1, 0, 0) := by decide +kernel
theorem rX9_build_81 : am_rw mX9_build 81 = some (.putfield 220, 3, 0, 3) := by decide +kernel
theorem rX9_build_84 : am_rw mX9_build 84 = some (.aload 4, 2, 0, 0) := by decide +kernel
theorem rX9_build_86 : am_rw mX9_build 86 = some (.iload_n 3, 1, 0, 0) := by decide +kernel
theorem rX9_build_87 : am_rw mX9_build 87 = some (.putfield 223, 3, 0, 4) := by decide +kernel
theorem rX9_build_90 : am_rw mX9_build 90 = some (.return_, 1, 0, 0) := by decide +kernel
theorem rX9_rule_0 : am_rw mX9_rule 0 = some (.aload_n 0, 1, 0, 0) := by decide +kernel
theorem rX9_rule_1 : am_rw mX9_rule 1 = some (.iload_n 1, 1, 0, 0) := by decide +kernel
theorem rX9_rule_2 : am_rw mX9_rule 2 = some (.invokevirtual 206, 3, 90, 2) := by decide +kernel
theorem rX9_rule_5 : am_rw mX9_rule 5 = some (.ifCond .ne 13, 3, 18, 0) := by decide +kernel
theorem rX9_rule_18 : am_rw mX9_rule 18 = some (.aload_n 0, 1, 0, 0) := by decide +kernel
theorem rX9_rule_19 : am_rw mX9_rule 19 = some (.getfield 19, 3, 9, 1) := by decide +kernel
theorem rX9_rule_22 : am_rw mX9_rule 22 = some (.aload_n 0, 1, 0, 0) := by decide +kernel
theorem rX9_rule_23 : am_rw mX9_rule 23 = some (.getfield 12, 3, 9, 0) := by decide +kernel
theorem rX9_rule_26 : am_rw mX9_rule 26 = some (.iconst 1, 1, 1, 0) := by decide +kernel
theorem rX9_rule_27 : am_rw mX9_rule 27 = some (.invokevirtual 93, 3, 13, 3) := by decide +kernel
theorem rX9_rule_30 : am_rw mX9_rule 30 = some (.iconst (-1), 1, 1, 1) := by decide +kernel
theorem rX9_rule_31 : am_rw mX9_rule 31 = some (.if_icmp .eq 13, 3, 44, 0) := by decide +kernel
theorem rX9_rule_44 : am_rw mX9_rule 44 = some (.aload_n 0, 1, 0, 0) := by decide +kernel
theorem rX9_rule_45 : am_rw mX9_rule 45 = some (.getfield 43, 3, 9, 5) := by decide +kernel
theorem rX9_rule_48 : am_rw mX9_rule 48 = some (.iload_n 1, 1, 0, 0) := by decide +kernel
theorem rX9_rule_49 : am_rw mX9_rule 49 = some (.aaload, 1, 0, 0) := by decide +kernel
theorem rX9_rule_50 : am_rw mX9_rule 50 = some (.astore_n 2, 1, 0, 0) := by decide +kernel
theorem rX9_rule_51 : am_rw mX9_rule 51 = some (.aload_n 2, 1, 0, 0) := by decide +kernel
theorem rX9_rule_52 : am_rw mX9_rule 52 = some (.getfield 214, 3, 0, 2) := by decide +kernel
theorem rX9_rule_55 : am_rw mX9_rule 55 = some (.ifCond .ne 13, 3, 68, 0) := by decide +kernel
theorem rX9_rule_68 : am_rw mX9_rule 68 = some (.aload_n 2, 1, 0, 0) := by decide +kernel
theorem rX9_rule_69 : am_rw mX9_rule 69 = some (.iconst 1, 1, 1, 0) := by decide +kernel
theorem rX9_rule_70 : am_rw mX9_rule 70 = some (.putfield 232, 3, 0, 6) := by decide +kernel
theorem rX9_rule_73 : am_rw mX9_rule 73 = some (.aload_n 2, 1, 0, 0) := by decide +kernel
theorem rX9_rule_74 : am_rw mX9_rule 74 = some (.getfield 235, 3, 0, 0) := by decide +kernel
theorem rX9_rule_77 : am_rw mX9_rule 77 = some (.aload_n 0, 1, 0, 0) := by decide +kernel
theorem rX9_rule_78 : am_rw mX9_rule 78 = some (.getfield 19, 3, 9, 1) := by decide +kernel
theorem rX9_rule_81 : am_rw mX9_rule 81 = some (.getfield 108, 3, 3, 0) := by decide +kernel
theorem rX9_rule_84 : am_rw mX9_rule 84 = some (.invokevirtual 236, 3, 11, 2) := by decide +kernel
theorem rX9_rule_87 : am_rw mX9_rule 87 = some (.return_, 1, 0, 0) := by decide +kernel
theorem rX9_goBy_0 : am_rw mX9_goBy 0 = some (.aload_n 0, 1, 0, 0) := by decide +kernel
theorem rX9_goBy_1 : am_rw mX9_goBy 1 = some (.iload_n 1, 1, 0, 0) := by decide +kernel
theorem rX9_goBy_2 : am_rw mX9_goBy 2 = some (.invokevirtual 206, 3, 90, 2) := by decide +kernel
theorem rX9_goBy_5 : am_rw mX9_goBy 5 = some (.ifCond .eq 11, 3, 16, 0) := by decide +kernel
theorem rX9_goBy_8 : am_rw mX9_goBy 8 = some (.aload_n 0, 1, 0, 0) := by decide +kernel
theorem rX9_goBy_9 : am_rw mX9_goBy 9 = some (.iload_n 2, 1, 0, 0) := by decide +kernel
theorem rX9_goBy_10 : am_rw mX9_goBy 10 = some (.invokevirtual 182, 3, 91, 2) := by decide +kernel
theorem rX9_goBy_13 : am_rw mX9_goBy 13 = some (.ifCond .ne 13, 3, 26, 0) := by decide +kernel
theorem rX9_goBy_26 : am_rw mX9_goBy 26 = some (.aload_n 0, 1, 0, 0) := by decide +kernel
theorem rX9_goBy_27 : am_rw mX9_goBy 27 = some (.getfield 43, 3, 9, 5) := by decide +kernel
theorem rX9_goBy_30 : am_rw mX9_goBy 30 = some (.iload_n 1, 1, 0, 0) := by decide +kernel
theorem rX9_goBy_31 : am_rw mX9_goBy 31 = some (.aaload, 1, 0, 0) := by decide +kernel
theorem rX9_goBy_32 : am_rw mX9_goBy 32 = some (.astore_n 3, 1, 0, 0) := by decide +kernel
theorem rX9_goBy_33 : am_rw mX9_goBy 33 = some (.aload_n 3, 1, 0, 0) := by decide +kernel
theorem rX9_goBy_34 : am_rw mX9_goBy 34 = some (.getfield 214, 3, 0, 2) := by decide +kernel
theorem rX9_goBy_37 : am_rw mX9_goBy 37 = some (.ifCond .eq 12, 3, 49, 0) := by decide +kernel
theorem rX9_goBy_40 : am_rw mX9_goBy 40 = some (.aload_n 0, 1, 0, 0) := by decide +kernel
theorem rX9_goBy_41 : am_rw mX9_goBy 41 = some (.iload_n 2, 1, 0, 0) := by decide +kernel
theorem rX9_goBy_42 : am_rw mX9_goBy 42 = some (.aload_n 3, 1, 0, 0) := by decide +kernel
theorem rX9_goBy_43 : am_rw mX9_goBy 43 = some (.invokevirtual 244, 3, 94, 3) := by decide +kernel
theorem rX9_goBy_46 : am_rw mX9_goBy 46 = some (.ifCond .ne 13, 3, 59, 0) := by decide +kernel
theorem rX9_goBy_59 : am_rw mX9_goBy 59 = some (.aload_n 3, 1, 0, 0) := by decide +kernel
theorem rX9_goBy_60 : am_rw mX9_goBy 60 = some (.iload_n 2, 1, 0, 0) := by decide +kernel
theorem rX9_goBy_61 : am_rw mX9_goBy 61 = some (.putfield 250, 3, 0, 7) := by decide +kernel
theorem rX9_goBy_64 : am_rw mX9_goBy 64 = some (.return_, 1, 0, 0) := by decide +kernel
theorem rX9_level_0 : am_rw mX9_level 0 = some (.aload_n 0, 1, 0, 0) := by decide +kernel
theorem rX9_level_1 : am_rw mX9_level 1 = some (.iload_n 1, 1, 0, 0) := by decide +kernel
theorem rX9_level_2 : am_rw mX9_level 2 = some (.invokevirtual 206, 3, 90, 2) := by decide +kernel
theorem rX9_level_5 : am_rw mX9_level 5 = some (.ifCond .ne 13, 3, 18, 0) := by decide +kernel
theorem rX9_level_18 : am_rw mX9_level 18 = some (.aload_n 0, 1, 0, 0) := by decide +kernel
theorem rX9_level_19 : am_rw mX9_level 19 = some (.getfield 43, 3, 9, 5) := by decide +kernel
theorem rX9_level_22 : am_rw mX9_level 22 = some (.iload_n 1, 1, 0, 0) := by decide +kernel
theorem rX9_level_23 : am_rw mX9_level 23 = some (.aaload, 1, 0, 0) := by decide +kernel
theorem rX9_level_24 : am_rw mX9_level 24 = some (.getfield 253, 3, 0, 5) := by decide +kernel
theorem rX9_level_27 : am_rw mX9_level 27 = some (.invokestatic 166, 3, 99, 1) := by decide +kernel
theorem rX9_level_30 : am_rw mX9_level 30 = some (.ireturn, 1, 0, 0) := by decide +kernel
theorem rX9_below_0 : am_rw mX9_below 0 = some (.aload_n 0, 1, 0, 0) := by decide +kernel
theorem rX9_below_1 : am_rw mX9_below 1 = some (.iload_n 1, 1, 0, 0) := by decide +kernel
theorem rX9_below_2 : am_rw mX9_below 2 = some (.invokevirtual 206, 3, 90, 2) := by decide +kernel
theorem rX9_below_5 : am_rw mX9_below 5 = some (.ifCond .ne 13, 3, 18, 0) := by decide +kernel
theorem rX9_below_18 : am_rw mX9_below 18 = some (.iload_n 2, 1, 0, 0) := by decide +kernel
theorem rX9_below_19 : am_rw mX9_below 19 = some (.invokestatic 145, 3, 89, 1) := by decide +kernel
theorem rX9_below_22 : am_rw mX9_below 22 = some (.ifCond .eq 11, 3, 33, 0) := by decide +kernel
theorem rX9_below_25 : am_rw mX9_below 25 = some (.iload_n 2, 1, 0, 0) := by decide +kernel
theorem rX9_below_26 : am_rw mX9_below 26 = some (.aload_n 0, 1, 0, 0) := by decide +kernel
theorem rX9_below_27 : am_rw mX9_below 27 = some (.getfield 60, 3, 9, 9) := by decide +kernel
theorem rX9_below_30 : am_rw mX9_below 30 = some (.if_icmp .lt 14, 3, 44, 0) := by decide +kernel
theorem rX9_below_44 : am_rw mX9_below 44 = some (.aload_n 0, 1, 0, 0) := by decide +kernel
theorem rX9_below_45 : am_rw mX9_below 45 = some (.getfield 43, 3, 9, 5) := by decide +kernel
theorem rX9_below_48 : am_rw mX9_below 48 = some (.iload_n 1, 1, 0, 0) := by decide +kernel
theorem rX9_below_49 : am_rw mX9_below 49 = some (.aaload, 1, 0, 0) := by decide +kernel
theorem rX9_below_50 : am_rw mX9_below 50 = some (.getfield 258, 3, 0, 1) := by decide +kernel
theorem rX9_below_53 : am_rw mX9_below 53 = some (.iload_n 2, 1, 0, 0) := by decide +kernel
theorem rX9_below_54 : am_rw mX9_below 54 = some (.faload, 1, 0, 0) := by decide +kernel
theorem rX9_below_55 : am_rw mX9_below 55 = some (.invokestatic 166, 3, 99, 1) := by decide +kernel
theorem rX9_below_58 : am_rw mX9_below 58 = some (.ireturn, 1, 0, 0) := by decide +kernel
theorem rX9_valley_0 : am_rw mX9_valley 0 = some (.aload_n 0, 1, 0, 0) := by decide +kernel
theorem rX9_valley_1 : am_rw mX9_valley 1 = some (.iload_n 1, 1, 0, 0) := by decide +kernel
theorem rX9_valley_2 : am_rw mX9_valley 2 = some (.invokevirtual 206, 3, 90, 2) := by decide +kernel
theorem rX9_valley_5 : am_rw mX9_valley 5 = some (.ifCond .ne 13, 3, 18, 0) := by decide +kernel
theorem rX9_valley_18 : am_rw mX9_valley 18 = some (.iload_n 2, 1, 0, 0) := by decide +kernel
theorem rX9_valley_19 : am_rw mX9_valley 19 = some (.ifCond .lt 33, 3, 52, 0) := by decide +kernel
theorem rX9_valley_22 : am_rw mX9_valley 22 = some (.iload_n 2, 1, 0, 0) := by decide +kernel
theorem rX9_valley_23 : am_rw mX9_valley 23 = some (.sipush 10000, 3, 10000, 0) := by decide +kernel
theorem rX9_valley_26 : am_rw mX9_valley 26 = some (.if_icmp .gt 26, 3, 52, 0) := by decide +kernel
theorem rX9_valley_29 : am_rw mX9_valley 29 = some (.iload_n 3, 1, 0, 0) := by decide +kernel
theorem rX9_valley_30 : am_rw mX9_valley 30 = some (.iconst 1, 1, 1, 0) := by decide +kernel
theorem rX9_valley_31 : am_rw mX9_valley 31 = some (.if_icmp .lt 21, 3, 52, 0) := by decide +kernel
theorem rX9_valley_34 : am_rw mX9_valley 34 = some (.iload_n 3, 1, 0, 0) := by decide +kernel
theorem rX9_valley_35 : am_rw mX9_valley 35 = some (.ldc 211, 2, 0, 100000) := by decide +kernel
theorem rX9_valley_37 : am_rw mX9_valley 37 = some (.if_icmp .gt 15, 3, 52, 0) := by decide +kernel
theorem rX9_valley_40 : am_rw mX9_valley 40 = some (.iload 4, 2, 0, 0) := by decide +kernel
theorem rX9_valley_42 : am_rw mX9_valley 42 = some (.ifCond .lt 10, 3, 52, 0) := by decide +kernel
theorem rX9_valley_45 : am_rw mX9_valley 45 = some (.iload 4, 2, 0, 0) := by decide +kernel
theorem rX9_valley_47 : am_rw mX9_valley 47 = some (.bipush 12, 2, 12, 0) := by decide +kernel
theorem rX9_valley_49 : am_rw mX9_valley 49 = some (.if_icmp .le 14, 3, 63, 0) := by decide +kernel
theorem rX9_valley_63 : am_rw mX9_valley 63 = some (.aload_n 0, 1, 0, 0) := by decide +kernel
theorem rX9_valley_64 : am_rw mX9_valley 64 = some (.getfield 43, 3, 9, 5) := by decide +kernel
theorem rX9_valley_67 : am_rw mX9_valley 67 = some (.iload_n 1, 1, 0, 0) := by decide +kernel
theorem rX9_valley_68 : am_rw mX9_valley 68 = some (.aaload, 1, 0, 0) := by decide +kernel
theorem rX9_valley_69 : am_rw mX9_valley 69 = some (.astore 5, 2, 0, 0) := by decide +kernel
theorem rX9_valley_71 : am_rw mX9_valley 71 = some (.aload 5, 2, 0, 0) := by decide +kernel
theorem rX9_valley_73 : am_rw mX9_valley 73 = some (.getfield 214, 3, 0, 2) := by decide +kernel
theorem rX9_valley_76 : am_rw mX9_valley 76 = some (.ifCond .ne 13, 3, 89, 0) := by decide +kernel
theorem rX9_valley_89 : am_rw mX9_valley 89 = some (.aload 5, 2, 0, 0) := by decide +kernel
theorem rX9_valley_91 : am_rw mX9_valley 91 = some (.iconst 1, 1, 1, 0) := by decide +kernel
theorem rX9_valley_92 : am_rw mX9_valley 92 = some (.putfield 264, 3, 0, 8) := by decide +kernel
theorem rX9_valley_95 : am_rw mX9_valley 95 = some (.aload 5, 2, 0, 0) := by decide +kernel
theorem rX9_valley_97 : am_rw mX9_valley 97 = some (.iload_n 2, 1, 0, 0) := by decide +kernel
theorem rX9_valley_98 : am_rw mX9_valley 98 = some (.putfield 267, 3, 0, 9) := by decide +kernel
theorem rX9_valley_101 : am_rw mX9_valley 101 = some (.aload 5, 2, 0, 0) := by decide +kernel
theorem rX9_valley_103 : am_rw mX9_valley 103 = some (.iload_n 3, 1, 0, 0) := by decide +kernel
theorem rX9_valley_104 : am_rw mX9_valley 104 = some (.putfield 270, 3, 0, 10) := by decide +kernel
theorem rX9_valley_107 : am_rw mX9_valley 107 = some (.aload 5, 2, 0, 0) := by decide +kernel
theorem rX9_valley_109 : am_rw mX9_valley 109 = some (.iload 4, 2, 0, 0) := by decide +kernel
theorem rX9_valley_111 : am_rw mX9_valley 111 = some (.putfield 273, 3, 0, 11) := by decide +kernel
theorem rX9_valley_114 : am_rw mX9_valley 114 = some (.return_, 1, 0, 0) := by decide +kernel
theorem rX9_sound_0 : am_rw mX9_sound 0 = some (.aload_n 0, 1, 0, 0) := by decide +kernel
theorem rX9_sound_1 : am_rw mX9_sound 1 = some (.iload_n 1, 1, 0, 0) := by decide +kernel
theorem rX9_sound_2 : am_rw mX9_sound 2 = some (.invokevirtual 206, 3, 90, 2) := by decide +kernel
theorem rX9_sound_5 : am_rw mX9_sound 5 = some (.ifCond .eq 11, 3, 16, 0) := by decide +kernel
theorem rX9_sound_8 : am_rw mX9_sound 8 = some (.aload_n 0, 1, 0, 0) := by decide +kernel
theorem rX9_sound_9 : am_rw mX9_sound 9 = some (.iload_n 2, 1, 0, 0) := by decide +kernel
theorem rX9_sound_10 : am_rw mX9_sound 10 = some (.invokevirtual 182, 3, 91, 2) := by decide +kernel
theorem rX9_sound_13 : am_rw mX9_sound 13 = some (.ifCond .ne 13, 3, 26, 0) := by decide +kernel
theorem rX9_sound_26 : am_rw mX9_sound 26 = some (.aload_n 0, 1, 0, 0) := by decide +kernel
theorem rX9_sound_27 : am_rw mX9_sound 27 = some (.iload_n 1, 1, 0, 0) := by decide +kernel
theorem rX9_sound_28 : am_rw mX9_sound 28 = some (.iload_n 2, 1, 0, 0) := by decide +kernel
theorem rX9_sound_29 : am_rw mX9_sound 29 = some (.invokevirtual 276, 3, 96, 3) := by decide +kernel
theorem rX9_sound_32 : am_rw mX9_sound 32 = some (.ifCond .ne 14, 3, 46, 0) := by decide +kernel
theorem rX9_sound_46 : am_rw mX9_sound 46 = some (.aload_n 0, 1, 0, 0) := by decide +kernel
theorem rX9_sound_47 : am_rw mX9_sound 47 = some (.getfield 43, 3, 9, 5) := by decide +kernel
theorem rX9_sound_50 : am_rw mX9_sound 50 = some (.iload_n 1, 1, 0, 0) := by decide +kernel
theorem rX9_sound_51 : am_rw mX9_sound 51 = some (.aaload, 1, 0, 0) := by decide +kernel
theorem rX9_sound_52 : am_rw mX9_sound 52 = some (.astore_n 3, 1, 0, 0) := by decide +kernel
theorem rX9_sound_53 : am_rw mX9_sound 53 = some (.aload_n 0, 1, 0, 0) := by decide +kernel
theorem rX9_sound_54 : am_rw mX9_sound 54 = some (.getfield 49, 3, 9, 6) := by decide +kernel
theorem rX9_sound_57 : am_rw mX9_sound 57 = some (.aload_n 0, 1, 0, 0) := by decide +kernel
theorem rX9_sound_58 : am_rw mX9_sound 58 = some (.getfield 57, 3, 9, 8) := by decide +kernel
theorem rX9_sound_61 : am_rw mX9_sound 61 = some (.aaload, 1, 0, 0) := by decide +kernel
theorem rX9_sound_62 : am_rw mX9_sound 62 = some (.astore 4, 2, 0, 0) := by decide +kernel
theorem rX9_sound_64 : am_rw mX9_sound 64 = some (.aload 4, 2, 0, 0) := by decide +kernel
theorem rX9_sound_66 : am_rw mX9_sound 66 = some (.iload_n 1, 1, 0, 0) := by decide +kernel
theorem rX9_sound_67 : am_rw mX9_sound 67 = some (.putfield 282, 3, 7, 0) := by decide +kernel
theorem rX9_sound_70 : am_rw mX9_sound 70 = some (.aload 4, 2, 0, 0) := by decide +kernel
theorem rX9_sound_72 : am_rw mX9_sound 72 = some (.iload_n 2, 1, 0, 0) := by decide +kernel
theorem rX9_sound_73 : am_rw mX9_sound 73 = some (.putfield 285, 3, 7, 1) := by decide +kernel
theorem rX9_sound_76 : am_rw mX9_sound 76 = some (.aload 4, 2, 0, 0) := by decide +kernel
theorem rX9_sound_78 : am_rw mX9_sound 78 = some (.aload_n 0, 1, 0, 0) := by decide +kernel
theorem rX9_sound_79 : am_rw mX9_sound 79 = some (.getfield 60, 3, 9, 9) := by decide +kernel
theorem rX9_sound_82 : am_rw mX9_sound 82 = some (.putfield 286, 3, 7, 2) := by decide +kernel
theorem rX9_sound_85 : am_rw mX9_sound 85 = some (.aload 4, 2, 0, 0) := by decide +kernel
theorem rX9_sound_87 : am_rw mX9_sound 87 = some (.aload_n 3, 1, 0, 0) := by decide +kernel
theorem rX9_sound_88 : am_rw mX9_sound 88 = some (.getfield 267, 3, 0, 9) := by decide +kernel
theorem rX9_sound_91 : am_rw mX9_sound 91 = some (.i2f, 1, 0, 0) := by decide +kernel
theorem rX9_sound_92 : am_rw mX9_sound 92 = some (.aload_n 3, 1, 0, 0) := by decide +kernel
theorem rX9_sound_93 : am_rw mX9_sound 93 = some (.getfield 289, 3, 0, 12) := by decide +kernel
theorem rX9_sound_96 : am_rw mX9_sound 96 = some (.fmul, 1, 0, 0) := by decide +kernel
theorem rX9_sound_97 : am_rw mX9_sound 97 = some (.f2i, 1, 0, 0) := by decide +kernel
theorem rX9_sound_98 : am_rw mX9_sound 98 = some (.putfield 292, 3, 7, 3) := by decide +kernel
theorem rX9_sound_101 : am_rw mX9_sound 101 = some (.aload 4, 2, 0, 0) := by decide +kernel
theorem rX9_sound_103 : am_rw mX9_sound 103 = some (.iconst 0, 1, 0, 0) := by decide +kernel
theorem rX9_sound_104 : am_rw mX9_sound 104 = some (.putfield 293, 3, 7, 4) := by decide +kernel
theorem rX9_sound_107 : am_rw mX9_sound 107 = some (.aload_n 0, 1, 0, 0) := by decide +kernel
theorem rX9_sound_108 : am_rw mX9_sound 108 = some (.dup, 1, 0, 0) := by decide +kernel
theorem rX9_sound_109 : am_rw mX9_sound 109 = some (.getfield 57, 3, 9, 8) := by decide +kernel
theorem rX9_sound_112 : am_rw mX9_sound 112 = some (.iconst 1, 1, 1, 0) := by decide +kernel
theorem rX9_sound_113 : am_rw mX9_sound 113 = some (.iadd, 1, 0, 0) := by decide +kernel
theorem rX9_sound_114 : am_rw mX9_sound 114 = some (.putfield 57, 3, 9, 8) := by decide +kernel
theorem rX9_sound_117 : am_rw mX9_sound 117 = some (.aload_n 0, 1, 0, 0) := by decide +kernel
theorem rX9_sound_118 : am_rw mX9_sound 118 = some (.getfield 57, 3, 9, 8) := by decide +kernel
theorem rX9_sound_121 : am_rw mX9_sound 121 = some (.iconst 1, 1, 1, 0) := by decide +kernel
theorem rX9_sound_122 : am_rw mX9_sound 122 = some (.isub, 1, 0, 0) := by decide +kernel
theorem rX9_sound_123 : am_rw mX9_sound 123 = some (.ireturn, 1, 0, 0) := by decide +kernel
theorem rX9_siren_0 : am_rw mX9_siren 0 = some (.aload_n 0, 1, 0, 0) := by decide +kernel
theorem rX9_siren_1 : am_rw mX9_siren 1 = some (.iload_n 1, 1, 0, 0) := by decide +kernel
theorem rX9_siren_2 : am_rw mX9_siren 2 = some (.invokevirtual 296, 3, 92, 2) := by decide +kernel
theorem rX9_siren_5 : am_rw mX9_siren 5 = some (.ifCond .ne 14, 3, 19, 0) := by decide +kernel
theorem rX9_siren_19 : am_rw mX9_siren 19 = some (.aload_n 0, 1, 0, 0) := by decide +kernel
theorem rX9_siren_20 : am_rw mX9_siren 20 = some (.getfield 49, 3, 9, 6) := by decide +kernel
theorem rX9_siren_23 : am_rw mX9_siren 23 = some (.iload_n 1, 1, 0, 0) := by decide +kernel
theorem rX9_siren_24 : am_rw mX9_siren 24 = some (.aaload, 1, 0, 0) := by decide +kernel
theorem rX9_siren_25 : am_rw mX9_siren 25 = some (.getfield 293, 3, 7, 4) := by decide +kernel
theorem rX9_siren_28 : am_rw mX9_siren 28 = some (.ireturn, 1, 0, 0) := by decide +kernel
theorem rX9_walkers_0 : am_rw mX9_walkers 0 = some (.aload_n 0, 1, 0, 0) := by decide +kernel
theorem rX9_walkers_1 : am_rw mX9_walkers 1 = some (.iload_n 1, 1, 0, 0) := by decide +kernel
theorem rX9_walkers_2 : am_rw mX9_walkers 2 = some (.invokevirtual 296, 3, 92, 2) := by decide +kernel
theorem rX9_walkers_5 : am_rw mX9_walkers 5 = some (.ifCond .ne 14, 3, 19, 0) := by decide +kernel
theorem rX9_walkers_19 : am_rw mX9_walkers 19 = some (.aload_n 0, 1, 0, 0) := by decide +kernel
theorem rX9_walkers_20 : am_rw mX9_walkers 20 = some (.getfield 49, 3, 9, 6) := by decide +kernel
theorem rX9_walkers_23 : am_rw mX9_walkers 23 = some (.iload_n 1, 1, 0, 0) := by decide +kernel
theorem rX9_walkers_24 : am_rw mX9_walkers 24 = some (.aaload, 1, 0, 0) := by decide +kernel
theorem rX9_walkers_25 : am_rw mX9_walkers 25 = some (.getfield 292, 3, 7, 3) := by decide +kernel
theorem rX9_walkers_28 : am_rw mX9_walkers 28 = some (.ireturn, 1, 0, 0) := by decide +kernel
theorem rX9_trust_0 : am_rw mX9_trust 0 = some (.aload_n 0, 1, 0, 0) := by decide +kernel
theorem rX9_trust_1 : am_rw mX9_trust 1 = some (.iload_n 1, 1, 0, 0) := by decide +kernel
theorem rX9_trust_2 : am_rw mX9_trust 2 = some (.invokevirtual 206, 3, 90, 2) := by decide +kernel
theorem rX9_trust_5 : am_rw mX9_trust 5 = some (.ifCond .ne 13, 3, 18, 0) := by decide +kernel
theorem rX9_trust_18 : am_rw mX9_trust 18 = some (.aload_n 0, 1, 0, 0) := by decide +kernel
theorem rX9_trust_19 : am_rw mX9_trust 19 = some (.getfield 43, 3, 9, 5) := by decide +kernel
theorem rX9_trust_22 : am_rw mX9_trust 22 = some (.iload_n 1, 1, 0, 0) := by decide +kernel
theorem rX9_trust_23 : am_rw mX9_trust 23 = some (.aaload, 1, 0, 0) := by decide +kernel
theorem rX9_trust_24 : am_rw mX9_trust 24 = some (.getfield 289, 3, 0, 12) := by decide +kernel
theorem rX9_trust_27 : am_rw mX9_trust 27 = some (.invokestatic 166, 3, 99, 1) := by decide +kernel
theorem rX9_trust_30 : am_rw mX9_trust 30 = some (.ireturn, 1, 0, 0) := by decide +kernel
theorem rX9_saved_0 : am_rw mX9_saved 0 = some (.aload_n 0, 1, 0, 0) := by decide +kernel
theorem rX9_saved_1 : am_rw mX9_saved 1 = some (.iload_n 1, 1, 0, 0) := by decide +kernel
theorem rX9_saved_2 : am_rw mX9_saved 2 = some (.invokevirtual 206, 3, 90, 2) := by decide +kernel
theorem rX9_saved_5 : am_rw mX9_saved 5 = some (.ifCond .ne 13, 3, 18, 0) := by decide +kernel
theorem rX9_saved_18 : am_rw mX9_saved 18 = some (.aload_n 0, 1, 0, 0) := by decide +kernel
theorem rX9_saved_19 : am_rw mX9_saved 19 = some (.getfield 43, 3, 9, 5) := by decide +kernel
theorem rX9_saved_22 : am_rw mX9_saved 22 = some (.iload_n 1, 1, 0, 0) := by decide +kernel
theorem rX9_saved_23 : am_rw mX9_saved 23 = some (.aaload, 1, 0, 0) := by decide +kernel
theorem rX9_saved_24 : am_rw mX9_saved 24 = some (.getfield 301, 3, 0, 13) := by decide +kernel
theorem rX9_saved_27 : am_rw mX9_saved 27 = some (.ireturn, 1, 0, 0) := by decide +kernel
theorem rX9_alarm_0 : am_rw mX9_alarm 0 = some (.aload_n 0, 1, 0, 0) := by decide +kernel
theorem rX9_alarm_1 : am_rw mX9_alarm 1 = some (.getfield 60, 3, 9, 9) := by decide +kernel
theorem rX9_alarm_4 : am_rw mX9_alarm 4 = some (.bipush 24, 2, 24, 0) := by decide +kernel
theorem rX9_alarm_6 : am_rw mX9_alarm 6 = some (.iadd, 1, 0, 0) := by decide +kernel
theorem rX9_alarm_7 : am_rw mX9_alarm 7 = some (.sipush 200, 3, 200, 0) := by decide +kernel
theorem rX9_alarm_10 : am_rw mX9_alarm 10 = some (.invokestatic 304, 3, 102, 2) := by decide +kernel
theorem rX9_alarm_13 : am_rw mX9_alarm 13 = some (.istore_n 1, 1, 0, 0) := by decide +kernel
theorem rX9_alarm_14 : am_rw mX9_alarm 14 = some (.iconst 0, 1, 0, 0) := by decide +kernel
theorem rX9_alarm_15 : am_rw mX9_alarm 15 = some (.istore_n 2, 1, 0, 0) := by decide +kernel
theorem rX9_alarm_16 : am_rw mX9_alarm 16 = some (.iconst 0, 1, 0, 0) := by decide +kernel
theorem rX9_alarm_17 : am_rw mX9_alarm 17 = some (.istore_n 3, 1, 0, 0) := by decide +kernel
theorem rX9_alarm_18 : am_rw mX9_alarm 18 = some (.iload_n 3, 1, 0, 0) := by decide +kernel
theorem rX9_alarm_19 : am_rw mX9_alarm 19 = some (.aload_n 0, 1, 0, 0) := by decide +kernel
theorem rX9_alarm_20 : am_rw mX9_alarm 20 = some (.getfield 43, 3, 9, 5) := by decide +kernel
theorem rX9_alarm_23 : am_rw mX9_alarm 23 = some (.arraylength, 1, 0, 0) := by decide +kernel
theorem rX9_alarm_24 : am_rw mX9_alarm 24 = some (.if_icmp .ge 90, 3, 114, 0) := by decide +kernel
theorem rX9_alarm_27 : am_rw mX9_alarm 27 = some (.aload_n 0, 1, 0, 0) := by decide +kernel
theorem rX9_alarm_28 : am_rw mX9_alarm 28 = some (.getfield 43, 3, 9, 5) := by decide +kernel
theorem rX9_alarm_31 : am_rw mX9_alarm 31 = some (.iload_n 3, 1, 0, 0) := by decide +kernel
theorem rX9_alarm_32 : am_rw mX9_alarm 32 = some (.aaload, 1, 0, 0) := by decide +kernel
theorem rX9_alarm_33 : am_rw mX9_alarm 33 = some (.astore 4, 2, 0, 0) := by decide +kernel
theorem rX9_alarm_35 : am_rw mX9_alarm 35 = some (.aload_n 0, 1, 0, 0) := by decide +kernel
theorem rX9_alarm_36 : am_rw mX9_alarm 36 = some (.getfield 26, 3, 9, 2) := by decide +kernel
theorem rX9_alarm_39 : am_rw mX9_alarm 39 = some (.aload 4, 2, 0, 0) := by decide +kernel
theorem rX9_alarm_41 : am_rw mX9_alarm 41 = some (.getfield 220, 3, 0, 3) := by decide +kernel
theorem rX9_alarm_44 : am_rw mX9_alarm 44 = some (.invokevirtual 122, 3, 39, 2) := by decide +kernel
theorem rX9_alarm_47 : am_rw mX9_alarm 47 = some (.istore 5, 2, 0, 0) := by decide +kernel
theorem rX9_alarm_49 : am_rw mX9_alarm 49 = some (.aload 4, 2, 0, 0) := by decide +kernel
theorem rX9_alarm_51 : am_rw mX9_alarm 51 = some (.getfield 264, 3, 0, 8) := by decide +kernel
theorem rX9_alarm_54 : am_rw mX9_alarm 54 = some (.ifCond .eq 54, 3, 108, 0) := by decide +kernel
theorem rX9_alarm_57 : am_rw mX9_alarm 57 = some (.iload 5, 2, 0, 0) := by decide +kernel
theorem rX9_alarm_59 : am_rw mX9_alarm 59 = some (.iconst (-1), 1, 1, 1) := by decide +kernel
theorem rX9_alarm_60 : am_rw mX9_alarm 60 = some (.if_icmp .eq 48, 3, 108, 0) := by decide +kernel
theorem rX9_alarm_63 : am_rw mX9_alarm 63 = some (.aload_n 0, 1, 0, 0) := by decide +kernel
theorem rX9_alarm_64 : am_rw mX9_alarm 64 = some (.getfield 37, 3, 9, 4) := by decide +kernel
theorem rX9_alarm_67 : am_rw mX9_alarm 67 = some (.aload_n 0, 1, 0, 0) := by decide +kernel
theorem rX9_alarm_68 : am_rw mX9_alarm 68 = some (.getfield 26, 3, 9, 2) := by decide +kernel
theorem rX9_alarm_71 : am_rw mX9_alarm 71 = some (.iload 5, 2, 0, 0) := by decide +kernel
theorem rX9_alarm_73 : am_rw mX9_alarm 73 = some (.aload_n 0, 1, 0, 0) := by decide +kernel
theorem rX9_alarm_74 : am_rw mX9_alarm 74 = some (.getfield 60, 3, 9, 9) := by decide +kernel
theorem rX9_alarm_77 : am_rw mX9_alarm 77 = some (.iload_n 1, 1, 0, 0) := by decide +kernel
theorem rX9_alarm_78 : am_rw mX9_alarm 78 = some (.invokevirtual 178, 3, 36, 5) := by decide +kernel
theorem rX9_alarm_81 : am_rw mX9_alarm 81 = some (.iload_n 2, 1, 0, 0) := by decide +kernel
theorem rX9_alarm_82 : am_rw mX9_alarm 82 = some (.aload_n 0, 1, 0, 0) := by decide +kernel
theorem rX9_alarm_83 : am_rw mX9_alarm 83 = some (.getfield 37, 3, 9, 4) := by decide +kernel
theorem rX9_alarm_86 : am_rw mX9_alarm 86 = some (.getfield 190, 3, 5, 3) := by decide +kernel
theorem rX9_alarm_89 : am_rw mX9_alarm 89 = some (.aload 4, 2, 0, 0) := by decide +kernel
theorem rX9_alarm_91 : am_rw mX9_alarm 91 = some (.getfield 270, 3, 0, 10) := by decide +kernel
theorem rX9_alarm_94 : am_rw mX9_alarm 94 = some (.i2f, 1, 0, 0) := by decide +kernel
theorem rX9_alarm_95 : am_rw mX9_alarm 95 = some (.fcmp .l, 1, 0, 0) := by decide +kernel
theorem rX9_alarm_96 : am_rw mX9_alarm 96 = some (.ifCond .lt 9, 3, 105, 0) := by decide +kernel
theorem rX9_alarm_99 : am_rw mX9_alarm 99 = some (.iconst 1, 1, 1, 0) := by decide +kernel
theorem rX9_alarm_100 : am_rw mX9_alarm 100 = some (.iload_n 3, 1, 0, 0) := by decide +kernel
theorem rX9_alarm_101 : am_rw mX9_alarm 101 = some (.ishl, 1, 0, 0) := by decide +kernel
theorem rX9_alarm_102 : am_rw mX9_alarm 102 = some (.goto 4, 3, 106, 0) := by decide +kernel
theorem rX9_alarm_105 : am_rw mX9_alarm 105 = some (.iconst 0, 1, 0, 0) := by decide +kernel
theorem rX9_alarm_106 : am_rw mX9_alarm 106 = some (.ior, 1, 0, 0) := by decide +kernel
theorem rX9_alarm_107 : am_rw mX9_alarm 107 = some (.istore_n 2, 1, 0, 0) := by decide +kernel
theorem rX9_alarm_108 : am_rw mX9_alarm 108 = some (.iinc 3 1, 3, 0, 0) := by decide +kernel
theorem rX9_alarm_111 : am_rw mX9_alarm 111 = some (.goto (-93), 3, 18, 0) := by decide +kernel
theorem rX9_alarm_114 : am_rw mX9_alarm 114 = some (.iload_n 2, 1, 0, 0) := by decide +kernel
theorem rX9_alarm_115 : am_rw mX9_alarm 115 = some (.ireturn, 1, 0, 0) := by decide +kernel
theorem rX9_pass_0 : am_rw mX9_pass 0 = some (.iload_n 1, 1, 0, 0) := by decide +kernel
theorem rX9_pass_1 : am_rw mX9_pass 1 = some (.iconst 1, 1, 1, 0) := by decide +kernel
theorem rX9_pass_2 : am_rw mX9_pass 2 = some (.if_icmp .lt 9, 3, 11, 0) := by decide +kernel
theorem rX9_pass_5 : am_rw mX9_pass 5 = some (.iload_n 1, 1, 0, 0) := by decide +kernel
theorem rX9_pass_6 : am_rw mX9_pass 6 = some (.bipush 24, 2, 24, 0) := by decide +kernel
theorem rX9_pass_8 : am_rw mX9_pass 8 = some (.if_icmp .le 13, 3, 21, 0) := by decide +kernel
theorem rX9_pass_21 : am_rw mX9_pass 21 = some (.aload_n 0, 1, 0, 0) := by decide +kernel
theorem rX9_pass_22 : am_rw mX9_pass 22 = some (.getfield 60, 3, 9, 9) := by decide +kernel
theorem rX9_pass_25 : am_rw mX9_pass 25 = some (.iload_n 1, 1, 0, 0) := by decide +kernel
theorem rX9_pass_26 : am_rw mX9_pass 26 = some (.iadd, 1, 0, 0) := by decide +kernel
theorem rX9_pass_27 : am_rw mX9_pass 27 = some (.sipush 200, 3, 200, 0) := by decide +kernel
theorem rX9_pass_30 : am_rw mX9_pass 30 = some (.if_icmp .le 14, 3, 44, 0) := by decide +kernel
theorem rX9_pass_44 : am_rw mX9_pass 44 = some (.iconst 0, 1, 0, 0) := by decide +kernel
theorem rX9_pass_45 : am_rw mX9_pass 45 = some (.istore_n 2, 1, 0, 0) := by decide +kernel
theorem rX9_pass_46 : am_rw mX9_pass 46 = some (.iload_n 2, 1, 0, 0) := by decide +kernel
theorem rX9_pass_47 : am_rw mX9_pass 47 = some (.iload_n 1, 1, 0, 0) := by decide +kernel
theorem rX9_pass_48 : am_rw mX9_pass 48 = some (.if_icmp .ge 105, 3, 153, 0) := by decide +kernel
theorem rX9_pass_51 : am_rw mX9_pass 51 = some (.iconst 0, 1, 0, 0) := by decide +kernel
theorem rX9_pass_52 : am_rw mX9_pass 52 = some (.istore_n 3, 1, 0, 0) := by decide +kernel
theorem rX9_pass_53 : am_rw mX9_pass 53 = some (.iload_n 3, 1, 0, 0) := by decide +kernel
theorem rX9_pass_54 : am_rw mX9_pass 54 = some (.aload_n 0, 1, 0, 0) := by decide +kernel
theorem rX9_pass_55 : am_rw mX9_pass 55 = some (.getfield 43, 3, 9, 5) := by decide +kernel
theorem rX9_pass_58 : am_rw mX9_pass 58 = some (.arraylength, 1, 0, 0) := by decide +kernel
theorem rX9_pass_59 : am_rw mX9_pass 59 = some (.if_icmp .ge 31, 3, 90, 0) := by decide +kernel
theorem rX9_pass_62 : am_rw mX9_pass 62 = some (.aload_n 0, 1, 0, 0) := by decide +kernel
theorem rX9_pass_63 : am_rw mX9_pass 63 = some (.getfield 43, 3, 9, 5) := by decide +kernel
theorem rX9_pass_66 : am_rw mX9_pass 66 = some (.iload_n 3, 1, 0, 0) := by decide +kernel
theorem rX9_pass_67 : am_rw mX9_pass 67 = some (.aaload, 1, 0, 0) := by decide +kernel
theorem rX9_pass_68 : am_rw mX9_pass 68 = some (.getfield 214, 3, 0, 2) := by decide +kernel
theorem rX9_pass_71 : am_rw mX9_pass 71 = some (.ifCond .eq 13, 3, 84, 0) := by decide +kernel
theorem rX9_pass_74 : am_rw mX9_pass 74 = some (.aload_n 0, 1, 0, 0) := by decide +kernel
theorem rX9_pass_75 : am_rw mX9_pass 75 = some (.aload_n 0, 1, 0, 0) := by decide +kernel
theorem rX9_pass_76 : am_rw mX9_pass 76 = some (.getfield 43, 3, 9, 5) := by decide +kernel
theorem rX9_pass_79 : am_rw mX9_pass 79 = some (.iload_n 3, 1, 0, 0) := by decide +kernel
theorem rX9_pass_80 : am_rw mX9_pass 80 = some (.aaload, 1, 0, 0) := by decide +kernel
theorem rX9_pass_81 : am_rw mX9_pass 81 = some (.invokevirtual 311, 3, 97, 2) := by decide +kernel
theorem rX9_pass_84 : am_rw mX9_pass 84 = some (.iinc 3 1, 3, 0, 0) := by decide +kernel
theorem rX9_pass_87 : am_rw mX9_pass 87 = some (.goto (-34), 3, 53, 0) := by decide +kernel
theorem rX9_pass_90 : am_rw mX9_pass 90 = some (.iconst 0, 1, 0, 0) := by decide +kernel
theorem rX9_pass_91 : am_rw mX9_pass 91 = some (.istore_n 3, 1, 0, 0) := by decide +kernel
theorem rX9_pass_92 : am_rw mX9_pass 92 = some (.iload_n 3, 1, 0, 0) := by decide +kernel
theorem rX9_pass_93 : am_rw mX9_pass 93 = some (.aload_n 0, 1, 0, 0) := by decide +kernel
theorem rX9_pass_94 : am_rw mX9_pass 94 = some (.getfield 57, 3, 9, 8) := by decide +kernel
theorem rX9_pass_97 : am_rw mX9_pass 97 = some (.if_icmp .ge 40, 3, 137, 0) := by decide +kernel
theorem rX9_pass_100 : am_rw mX9_pass 100 = some (.iload_n 3, 1, 0, 0) := by decide +kernel
theorem rX9_pass_101 : am_rw mX9_pass 101 = some (.aload_n 0, 1, 0, 0) := by decide +kernel
theorem rX9_pass_102 : am_rw mX9_pass 102 = some (.getfield 49, 3, 9, 6) := by decide +kernel
theorem rX9_pass_105 : am_rw mX9_pass 105 = some (.arraylength, 1, 0, 0) := by decide +kernel
theorem rX9_pass_106 : am_rw mX9_pass 106 = some (.if_icmp .ge 31, 3, 137, 0) := by decide +kernel
theorem rX9_pass_109 : am_rw mX9_pass 109 = some (.aload_n 0, 1, 0, 0) := by decide +kernel
theorem rX9_pass_110 : am_rw mX9_pass 110 = some (.getfield 49, 3, 9, 6) := by decide +kernel
theorem rX9_pass_113 : am_rw mX9_pass 113 = some (.iload_n 3, 1, 0, 0) := by decide +kernel
theorem rX9_pass_114 : am_rw mX9_pass 114 = some (.aaload, 1, 0, 0) := by decide +kernel
theorem rX9_pass_115 : am_rw mX9_pass 115 = some (.getfield 293, 3, 7, 4) := by decide +kernel
theorem rX9_pass_118 : am_rw mX9_pass 118 = some (.ifCond .ne 13, 3, 131, 0) := by decide +kernel
theorem rX9_pass_121 : am_rw mX9_pass 121 = some (.aload_n 0, 1, 0, 0) := by decide +kernel
theorem rX9_pass_122 : am_rw mX9_pass 122 = some (.aload_n 0, 1, 0, 0) := by decide +kernel
theorem rX9_pass_123 : am_rw mX9_pass 123 = some (.getfield 49, 3, 9, 6) := by decide +kernel
theorem rX9_pass_126 : am_rw mX9_pass 126 = some (.iload_n 3, 1, 0, 0) := by decide +kernel
theorem rX9_pass_127 : am_rw mX9_pass 127 = some (.aaload, 1, 0, 0) := by decide +kernel
theorem rX9_pass_128 : am_rw mX9_pass 128 = some (.invokevirtual 315, 3, 98, 2) := by decide +kernel
theorem rX9_pass_131 : am_rw mX9_pass 131 = some (.iinc 3 1, 3, 0, 0) := by decide +kernel
theorem rX9_pass_134 : am_rw mX9_pass 134 = some (.goto (-42), 3, 92, 0) := by decide +kernel
theorem rX9_pass_137 : am_rw mX9_pass 137 = some (.aload_n 0, 1, 0, 0) := by decide +kernel
theorem rX9_pass_138 : am_rw mX9_pass 138 = some (.dup, 1, 0, 0) := by decide +kernel
theorem rX9_pass_139 : am_rw mX9_pass 139 = some (.getfield 60, 3, 9, 9) := by decide +kernel
theorem rX9_pass_142 : am_rw mX9_pass 142 = some (.iconst 1, 1, 1, 0) := by decide +kernel
theorem rX9_pass_143 : am_rw mX9_pass 143 = some (.iadd, 1, 0, 0) := by decide +kernel
theorem rX9_pass_144 : am_rw mX9_pass 144 = some (.putfield 60, 3, 9, 9) := by decide +kernel
theorem rX9_pass_147 : am_rw mX9_pass 147 = some (.iinc 2 1, 3, 0, 0) := by decide +kernel
theorem rX9_pass_150 : am_rw mX9_pass 150 = some (.goto (-104), 3, 46, 0) := by decide +kernel
theorem rX9_pass_153 : am_rw mX9_pass 153 = some (.aload_n 0, 1, 0, 0) := by decide +kernel
theorem rX9_pass_154 : am_rw mX9_pass 154 = some (.getfield 60, 3, 9, 9) := by decide +kernel
theorem rX9_pass_157 : am_rw mX9_pass 157 = some (.ireturn, 1, 0, 0) := by decide +kernel
theorem rX9_isModel_0 : am_rw mX9_isModel 0 = some (.iload_n 0, 1, 0, 0) := by decide +kernel
theorem rX9_isModel_1 : am_rw mX9_isModel 1 = some (.ifCond .lt 13, 3, 14, 0) := by decide +kernel
theorem rX9_isModel_4 : am_rw mX9_isModel 4 = some (.iload_n 0, 1, 0, 0) := by decide +kernel
theorem rX9_isModel_5 : am_rw mX9_isModel 5 = some (.bipush 6, 2, 6, 0) := by decide +kernel
theorem rX9_isModel_7 : am_rw mX9_isModel 7 = some (.if_icmp .ge 7, 3, 14, 0) := by decide +kernel
theorem rX9_isModel_10 : am_rw mX9_isModel 10 = some (.iconst 1, 1, 1, 0) := by decide +kernel
theorem rX9_isModel_11 : am_rw mX9_isModel 11 = some (.goto 4, 3, 15, 0) := by decide +kernel
theorem rX9_isModel_14 : am_rw mX9_isModel 14 = some (.iconst 0, 1, 0, 0) := by decide +kernel
theorem rX9_isModel_15 : am_rw mX9_isModel 15 = some (.ireturn, 1, 0, 0) := by decide +kernel
theorem rX9_isHour_0 : am_rw mX9_isHour 0 = some (.iload_n 0, 1, 0, 0) := by decide +kernel
theorem rX9_isHour_1 : am_rw mX9_isHour 1 = some (.ifCond .lt 14, 3, 15, 0) := by decide +kernel
theorem rX9_isHour_4 : am_rw mX9_isHour 4 = some (.iload_n 0, 1, 0, 0) := by decide +kernel
theorem rX9_isHour_5 : am_rw mX9_isHour 5 = some (.sipush 200, 3, 200, 0) := by decide +kernel
theorem rX9_isHour_8 : am_rw mX9_isHour 8 = some (.if_icmp .gt 7, 3, 15, 0) := by decide +kernel
theorem rX9_isHour_11 : am_rw mX9_isHour 11 = some (.iconst 1, 1, 1, 0) := by decide +kernel
theorem rX9_isHour_12 : am_rw mX9_isHour 12 = some (.goto 4, 3, 16, 0) := by decide +kernel
theorem rX9_isHour_15 : am_rw mX9_isHour 15 = some (.iconst 0, 1, 0, 0) := by decide +kernel
theorem rX9_isHour_16 : am_rw mX9_isHour 16 = some (.ireturn, 1, 0, 0) := by decide +kernel
theorem rX9_isDam_0 : am_rw mX9_isDam 0 = some (.iload_n 1, 1, 0, 0) := by decide +kernel
theorem rX9_isDam_1 : am_rw mX9_isDam 1 = some (.ifCond .lt 16, 3, 17, 0) := by decide +kernel
theorem rX9_isDam_4 : am_rw mX9_isDam 4 = some (.iload_n 1, 1, 0, 0) := by decide +kernel
theorem rX9_isDam_5 : am_rw mX9_isDam 5 = some (.aload_n 0, 1, 0, 0) := by decide +kernel
theorem rX9_isDam_6 : am_rw mX9_isDam 6 = some (.getfield 43, 3, 9, 5) := by decide +kernel
theorem rX9_isDam_9 : am_rw mX9_isDam 9 = some (.arraylength, 1, 0, 0) := by decide +kernel
theorem rX9_isDam_10 : am_rw mX9_isDam 10 = some (.if_icmp .ge 7, 3, 17, 0) := by decide +kernel
theorem rX9_isDam_13 : am_rw mX9_isDam 13 = some (.iconst 1, 1, 1, 0) := by decide +kernel
theorem rX9_isDam_14 : am_rw mX9_isDam 14 = some (.goto 4, 3, 18, 0) := by decide +kernel
theorem rX9_isDam_17 : am_rw mX9_isDam 17 = some (.iconst 0, 1, 0, 0) := by decide +kernel
theorem rX9_isDam_18 : am_rw mX9_isDam 18 = some (.ireturn, 1, 0, 0) := by decide +kernel
theorem rX9_isRun_0 : am_rw mX9_isRun 0 = some (.iload_n 1, 1, 0, 0) := by decide +kernel
theorem rX9_isRun_1 : am_rw mX9_isRun 1 = some (.ifCond .lt 24, 3, 25, 0) := by decide +kernel
theorem rX9_isRun_4 : am_rw mX9_isRun 4 = some (.iload_n 1, 1, 0, 0) := by decide +kernel
theorem rX9_isRun_5 : am_rw mX9_isRun 5 = some (.aload_n 0, 1, 0, 0) := by decide +kernel
theorem rX9_isRun_6 : am_rw mX9_isRun 6 = some (.getfield 53, 3, 9, 7) := by decide +kernel
theorem rX9_isRun_9 : am_rw mX9_isRun 9 = some (.if_icmp .ge 16, 3, 25, 0) := by decide +kernel
theorem rX9_isRun_12 : am_rw mX9_isRun 12 = some (.iload_n 1, 1, 0, 0) := by decide +kernel
theorem rX9_isRun_13 : am_rw mX9_isRun 13 = some (.aload_n 0, 1, 0, 0) := by decide +kernel
theorem rX9_isRun_14 : am_rw mX9_isRun 14 = some (.getfield 32, 3, 9, 3) := by decide +kernel
theorem rX9_isRun_17 : am_rw mX9_isRun 17 = some (.arraylength, 1, 0, 0) := by decide +kernel
theorem rX9_isRun_18 : am_rw mX9_isRun 18 = some (.if_icmp .ge 7, 3, 25, 0) := by decide +kernel
theorem rX9_isRun_21 : am_rw mX9_isRun 21 = some (.iconst 1, 1, 1, 0) := by decide +kernel
theorem rX9_isRun_22 : am_rw mX9_isRun 22 = some (.goto 4, 3, 26, 0) := by decide +kernel
theorem rX9_isRun_25 : am_rw mX9_isRun 25 = some (.iconst 0, 1, 0, 0) := by decide +kernel
theorem rX9_isRun_26 : am_rw mX9_isRun 26 = some (.ireturn, 1, 0, 0) := by decide +kernel
theorem rX9_isSiren_0 : am_rw mX9_isSiren 0 = some (.iload_n 1, 1, 0, 0) := by decide +kernel
theorem rX9_isSiren_1 : am_rw mX9_isSiren 1 = some (.ifCond .lt 24, 3, 25, 0) := by decide +kernel
theorem rX9_isSiren_4 : am_rw mX9_isSiren 4 = some (.iload_n 1, 1, 0, 0) := by decide +kernel
theorem rX9_isSiren_5 : am_rw mX9_isSiren 5 = some (.aload_n 0, 1, 0, 0) := by decide +kernel
theorem rX9_isSiren_6 : am_rw mX9_isSiren 6 = some (.getfield 57, 3, 9, 8) := by decide +kernel
theorem rX9_isSiren_9 : am_rw mX9_isSiren 9 = some (.if_icmp .ge 16, 3, 25, 0) := by decide +kernel
theorem rX9_isSiren_12 : am_rw mX9_isSiren 12 = some (.iload_n 1, 1, 0, 0) := by decide +kernel
theorem rX9_isSiren_13 : am_rw mX9_isSiren 13 = some (.aload_n 0, 1, 0, 0) := by decide +kernel
theorem rX9_isSiren_14 : am_rw mX9_isSiren 14 = some (.getfield 49, 3, 9, 6) := by decide +kernel
theorem rX9_isSiren_17 : am_rw mX9_isSiren 17 = some (.arraylength, 1, 0, 0) := by decide +kernel
theorem rX9_isSiren_18 : am_rw mX9_isSiren 18 = some (.if_icmp .ge 7, 3, 25, 0) := by decide +kernel
theorem rX9_isSiren_21 : am_rw mX9_isSiren 21 = some (.iconst 1, 1, 1, 0) := by decide +kernel
theorem rX9_isSiren_22 : am_rw mX9_isSiren 22 = some (.goto 4, 3, 26, 0) := by decide +kernel
theorem rX9_isSiren_25 : am_rw mX9_isSiren 25 = some (.iconst 0, 1, 0, 0) := by decide +kernel
theorem rX9_isSiren_26 : am_rw mX9_isSiren 26 = some (.ireturn, 1, 0, 0) := by decide +kernel
theorem rX9_reasonAgainst_0 : am_rw mX9_reasonAgainst 0 = some (.aload_n 0, 1, 0, 0) := by decide +kernel
theorem rX9_reasonAgainst_1 : am_rw mX9_reasonAgainst 1 = some (.iload_n 1, 1, 0, 0) := by decide +kernel
theorem rX9_reasonAgainst_2 : am_rw mX9_reasonAgainst 2 = some (.invokevirtual 182, 3, 91, 2) := by decide +kernel
theorem rX9_reasonAgainst_5 : am_rw mX9_reasonAgainst 5 = some (.ifCond .eq 22, 3, 27, 0) := by decide +kernel
theorem rX9_reasonAgainst_8 : am_rw mX9_reasonAgainst 8 = some (.aload_n 0, 1, 0, 0) := by decide +kernel
theorem rX9_reasonAgainst_9 : am_rw mX9_reasonAgainst 9 = some (.getfield 26, 3, 9, 2) := by decide +kernel
theorem rX9_reasonAgainst_12 : am_rw mX9_reasonAgainst 12 = some (.aload_n 0, 1, 0, 0) := by decide +kernel
theorem rX9_reasonAgainst_13 : am_rw mX9_reasonAgainst 13 = some (.getfield 32, 3, 9, 3) := by decide +kernel
theorem rX9_reasonAgainst_16 : am_rw mX9_reasonAgainst 16 = some (.iload_n 1, 1, 0, 0) := by decide +kernel
theorem rX9_reasonAgainst_17 : am_rw mX9_reasonAgainst 17 = some (.aaload, 1, 0, 0) := by decide +kernel
theorem rX9_reasonAgainst_18 : am_rw mX9_reasonAgainst 18 = some (.getfield 197, 3, 5, 0) := by decide +kernel
theorem rX9_reasonAgainst_21 : am_rw mX9_reasonAgainst 21 = some (.invokevirtual 319, 3, 40, 2) := by decide +kernel
theorem rX9_reasonAgainst_24 : am_rw mX9_reasonAgainst 24 = some (.ifCond .ne 5, 3, 29, 0) := by decide +kernel
theorem rX9_reasonAgainst_27 : am_rw mX9_reasonAgainst 27 = some (.iconst 1, 1, 1, 0) := by decide +kernel
theorem rX9_reasonAgainst_28 : am_rw mX9_reasonAgainst 28 = some (.ireturn, 1, 0, 0) := by decide +kernel
theorem rX9_reasonAgainst_29 : am_rw mX9_reasonAgainst 29 = some (.aload_n 0, 1, 0, 0) := by decide +kernel
theorem rX9_reasonAgainst_30 : am_rw mX9_reasonAgainst 30 = some (.getfield 32, 3, 9, 3) := by decide +kernel
theorem rX9_reasonAgainst_33 : am_rw mX9_reasonAgainst 33 = some (.iload_n 1, 1, 0, 0) := by decide +kernel
theorem rX9_reasonAgainst_34 : am_rw mX9_reasonAgainst 34 = some (.aaload, 1, 0, 0) := by decide +kernel
theorem rX9_reasonAgainst_35 : am_rw mX9_reasonAgainst 35 = some (.getfield 322, 3, 5, 5) := by decide +kernel
theorem rX9_reasonAgainst_38 : am_rw mX9_reasonAgainst 38 = some (.ifCond .eq 7, 3, 45, 0) := by decide +kernel
theorem rX9_reasonAgainst_41 : am_rw mX9_reasonAgainst 41 = some (.iconst 2, 1, 2, 0) := by decide +kernel
theorem rX9_reasonAgainst_42 : am_rw mX9_reasonAgainst 42 = some (.goto 4, 3, 46, 0) := by decide +kernel
theorem rX9_reasonAgainst_45 : am_rw mX9_reasonAgainst 45 = some (.iconst 0, 1, 0, 0) := by decide +kernel
theorem rX9_reasonAgainst_46 : am_rw mX9_reasonAgainst 46 = some (.ireturn, 1, 0, 0) := by decide +kernel
theorem rX9_isGoodFor_0 : am_rw mX9_isGoodFor 0 = some (.aload_n 0, 1, 0, 0) := by decide +kernel
theorem rX9_isGoodFor_1 : am_rw mX9_isGoodFor 1 = some (.iload_n 1, 1, 0, 0) := by decide +kernel
theorem rX9_isGoodFor_2 : am_rw mX9_isGoodFor 2 = some (.invokevirtual 182, 3, 91, 2) := by decide +kernel
theorem rX9_isGoodFor_5 : am_rw mX9_isGoodFor 5 = some (.ifCond .eq 38, 3, 43, 0) := by decide +kernel
theorem rX9_isGoodFor_8 : am_rw mX9_isGoodFor 8 = some (.aload_n 0, 1, 0, 0) := by decide +kernel
theorem rX9_isGoodFor_9 : am_rw mX9_isGoodFor 9 = some (.iload_n 1, 1, 0, 0) := by decide +kernel
theorem rX9_isGoodFor_10 : am_rw mX9_isGoodFor 10 = some (.invokevirtual 187, 3, 93, 2) := by decide +kernel
theorem rX9_isGoodFor_13 : am_rw mX9_isGoodFor 13 = some (.ifCond .ne 30, 3, 43, 0) := by decide +kernel
theorem rX9_isGoodFor_16 : am_rw mX9_isGoodFor 16 = some (.aload_n 0, 1, 0, 0) := by decide +kernel
theorem rX9_isGoodFor_17 : am_rw mX9_isGoodFor 17 = some (.getfield 26, 3, 9, 2) := by decide +kernel
theorem rX9_isGoodFor_20 : am_rw mX9_isGoodFor 20 = some (.aload_n 0, 1, 0, 0) := by decide +kernel
theorem rX9_isGoodFor_21 : am_rw mX9_isGoodFor 21 = some (.getfield 32, 3, 9, 3) := by decide +kernel
theorem rX9_isGoodFor_24 : am_rw mX9_isGoodFor 24 = some (.iload_n 1, 1, 0, 0) := by decide +kernel
theorem rX9_isGoodFor_25 : am_rw mX9_isGoodFor 25 = some (.aaload, 1, 0, 0) := by decide +kernel
theorem rX9_isGoodFor_26 : am_rw mX9_isGoodFor 26 = some (.getfield 197, 3, 5, 0) := by decide +kernel
theorem rX9_isGoodFor_29 : am_rw mX9_isGoodFor 29 = some (.invokevirtual 325, 3, 41, 2) := by decide +kernel
theorem rX9_isGoodFor_32 : am_rw mX9_isGoodFor 32 = some (.aload_n 2, 1, 0, 0) := by decide +kernel
theorem rX9_isGoodFor_33 : am_rw mX9_isGoodFor 33 = some (.getfield 220, 3, 0, 3) := by decide +kernel
theorem rX9_isGoodFor_36 : am_rw mX9_isGoodFor 36 = some (.if_icmp .ne 7, 3, 43, 0) := by decide +kernel
theorem rX9_isGoodFor_39 : am_rw mX9_isGoodFor 39 = some (.iconst 1, 1, 1, 0) := by decide +kernel
theorem rX9_isGoodFor_40 : am_rw mX9_isGoodFor 40 = some (.goto 4, 3, 44, 0) := by decide +kernel
theorem rX9_isGoodFor_43 : am_rw mX9_isGoodFor 43 = some (.iconst 0, 1, 0, 0) := by decide +kernel
theorem rX9_isGoodFor_44 : am_rw mX9_isGoodFor 44 = some (.ireturn, 1, 0, 0) := by decide +kernel
theorem rX9_stampRuns_0 : am_rw mX9_stampRuns 0 = some (.iconst 0, 1, 0, 0) := by decide +kernel
theorem rX9_stampRuns_1 : am_rw mX9_stampRuns 1 = some (.istore_n 3, 1, 0, 0) := by decide +kernel
theorem rX9_stampRuns_2 : am_rw mX9_stampRuns 2 = some (.iload_n 3, 1, 0, 0) := by decide +kernel
theorem rX9_stampRuns_3 : am_rw mX9_stampRuns 3 = some (.aload_n 0, 1, 0, 0) := by decide +kernel
theorem rX9_stampRuns_4 : am_rw mX9_stampRuns 4 = some (.getfield 53, 3, 9, 7) := by decide +kernel
theorem rX9_stampRuns_7 : am_rw mX9_stampRuns 7 = some (.if_icmp .ge 61, 3, 68, 0) := by decide +kernel
theorem rX9_stampRuns_10 : am_rw mX9_stampRuns 10 = some (.iload_n 3, 1, 0, 0) := by decide +kernel
theorem rX9_stampRuns_11 : am_rw mX9_stampRuns 11 = some (.aload_n 0, 1, 0, 0) := by decide +kernel
theorem rX9_stampRuns_12 : am_rw mX9_stampRuns 12 = some (.getfield 32, 3, 9, 3) := by decide +kernel
theorem rX9_stampRuns_15 : am_rw mX9_stampRuns 15 = some (.arraylength, 1, 0, 0) := by decide +kernel
theorem rX9_stampRuns_16 : am_rw mX9_stampRuns 16 = some (.if_icmp .ge 52, 3, 68, 0) := by decide +kernel
theorem rX9_stampRuns_19 : am_rw mX9_stampRuns 19 = some (.iload_n 2, 1, 0, 0) := by decide +kernel
theorem rX9_stampRuns_20 : am_rw mX9_stampRuns 20 = some (.aload_n 0, 1, 0, 0) := by decide +kernel
theorem rX9_stampRuns_21 : am_rw mX9_stampRuns 21 = some (.getfield 32, 3, 9, 3) := by decide +kernel
theorem rX9_stampRuns_24 : am_rw mX9_stampRuns 24 = some (.iload_n 3, 1, 0, 0) := by decide +kernel
theorem rX9_stampRuns_25 : am_rw mX9_stampRuns 25 = some (.aaload, 1, 0, 0) := by decide +kernel
theorem rX9_stampRuns_26 : am_rw mX9_stampRuns 26 = some (.getfield 203, 3, 5, 2) := by decide +kernel
theorem rX9_stampRuns_29 : am_rw mX9_stampRuns 29 = some (.if_icmp .gt 33, 3, 62, 0) := by decide +kernel
theorem rX9_stampRuns_32 : am_rw mX9_stampRuns 32 = some (.aload_n 0, 1, 0, 0) := by decide +kernel
theorem rX9_stampRuns_33 : am_rw mX9_stampRuns 33 = some (.getfield 26, 3, 9, 2) := by decide +kernel
theorem rX9_stampRuns_36 : am_rw mX9_stampRuns 36 = some (.aload_n 0, 1, 0, 0) := by decide +kernel
theorem rX9_stampRuns_37 : am_rw mX9_stampRuns 37 = some (.getfield 32, 3, 9, 3) := by decide +kernel
theorem rX9_stampRuns_40 : am_rw mX9_stampRuns 40 = some (.iload_n 3, 1, 0, 0) := by decide +kernel
theorem rX9_stampRuns_41 : am_rw mX9_stampRuns 41 = some (.aaload, 1, 0, 0) := by decide +kernel
theorem rX9_stampRuns_42 : am_rw mX9_stampRuns 42 = some (.getfield 197, 3, 5, 0) := by decide +kernel
theorem rX9_stampRuns_45 : am_rw mX9_stampRuns 45 = some (.iload_n 1, 1, 0, 0) := by decide +kernel
theorem rX9_stampRuns_46 : am_rw mX9_stampRuns 46 = some (.invokevirtual 328, 3, 43, 3) := by decide +kernel
theorem rX9_stampRuns_49 : am_rw mX9_stampRuns 49 = some (.ifCond .eq 13, 3, 62, 0) := by decide +kernel
theorem rX9_stampRuns_52 : am_rw mX9_stampRuns 52 = some (.aload_n 0, 1, 0, 0) := by decide +kernel
theorem rX9_stampRuns_53 : am_rw mX9_stampRuns 53 = some (.getfield 32, 3, 9, 3) := by decide +kernel
theorem rX9_stampRuns_56 : am_rw mX9_stampRuns 56 = some (.iload_n 3, 1, 0, 0) := by decide +kernel
theorem rX9_stampRuns_57 : am_rw mX9_stampRuns 57 = some (.aaload, 1, 0, 0) := by decide +kernel
theorem rX9_stampRuns_58 : am_rw mX9_stampRuns 58 = some (.iconst 1, 1, 1, 0) := by decide +kernel
theorem rX9_stampRuns_59 : am_rw mX9_stampRuns 59 = some (.putfield 322, 3, 5, 5) := by decide +kernel
theorem rX9_stampRuns_62 : am_rw mX9_stampRuns 62 = some (.iinc 3 1, 3, 0, 0) := by decide +kernel
theorem rX9_stampRuns_65 : am_rw mX9_stampRuns 65 = some (.goto (-63), 3, 2, 0) := by decide +kernel
theorem rX9_stampRuns_68 : am_rw mX9_stampRuns 68 = some (.return_, 1, 0, 0) := by decide +kernel
theorem rX9_maySound_0 : am_rw mX9_maySound 0 = some (.aload_n 0, 1, 0, 0) := by decide +kernel
theorem rX9_maySound_1 : am_rw mX9_maySound 1 = some (.iload_n 1, 1, 0, 0) := by decide +kernel
theorem rX9_maySound_2 : am_rw mX9_maySound 2 = some (.invokevirtual 206, 3, 90, 2) := by decide +kernel
theorem rX9_maySound_5 : am_rw mX9_maySound 5 = some (.ifCond .eq 23, 3, 28, 0) := by decide +kernel
theorem rX9_maySound_8 : am_rw mX9_maySound 8 = some (.aload_n 0, 1, 0, 0) := by decide +kernel
theorem rX9_maySound_9 : am_rw mX9_maySound 9 = some (.iload_n 2, 1, 0, 0) := by decide +kernel
theorem rX9_maySound_10 : am_rw mX9_maySound 10 = some (.invokevirtual 182, 3, 91, 2) := by decide +kernel
theorem rX9_maySound_13 : am_rw mX9_maySound 13 = some (.ifCond .eq 15, 3, 28, 0) := by decide +kernel
theorem rX9_maySound_16 : am_rw mX9_maySound 16 = some (.aload_n 0, 1, 0, 0) := by decide +kernel
theorem rX9_maySound_17 : am_rw mX9_maySound 17 = some (.getfield 57, 3, 9, 8) := by decide +kernel
theorem rX9_maySound_20 : am_rw mX9_maySound 20 = some (.aload_n 0, 1, 0, 0) := by decide +kernel
theorem rX9_maySound_21 : am_rw mX9_maySound 21 = some (.getfield 49, 3, 9, 6) := by decide +kernel
theorem rX9_maySound_24 : am_rw mX9_maySound 24 = some (.arraylength, 1, 0, 0) := by decide +kernel
theorem rX9_maySound_25 : am_rw mX9_maySound 25 = some (.if_icmp .lt 5, 3, 30, 0) := by decide +kernel
theorem rX9_maySound_28 : am_rw mX9_maySound 28 = some (.iconst 0, 1, 0, 0) := by decide +kernel
theorem rX9_maySound_29 : am_rw mX9_maySound 29 = some (.ireturn, 1, 0, 0) := by decide +kernel
theorem rX9_maySound_30 : am_rw mX9_maySound 30 = some (.iconst 0, 1, 0, 0) := by decide +kernel
theorem rX9_maySound_31 : am_rw mX9_maySound 31 = some (.istore_n 3, 1, 0, 0) := by decide +kernel
theorem rX9_maySound_32 : am_rw mX9_maySound 32 = some (.iload_n 3, 1, 0, 0) := by decide +kernel
theorem rX9_maySound_33 : am_rw mX9_maySound 33 = some (.aload_n 0, 1, 0, 0) := by decide +kernel
theorem rX9_maySound_34 : am_rw mX9_maySound 34 = some (.getfield 57, 3, 9, 8) := by decide +kernel
theorem rX9_maySound_37 : am_rw mX9_maySound 37 = some (.if_icmp .ge 36, 3, 73, 0) := by decide +kernel
theorem rX9_maySound_40 : am_rw mX9_maySound 40 = some (.aload_n 0, 1, 0, 0) := by decide +kernel
theorem rX9_maySound_41 : am_rw mX9_maySound 41 = some (.getfield 49, 3, 9, 6) := by decide +kernel
theorem rX9_maySound_44 : am_rw mX9_maySound 44 = some (.iload_n 3, 1, 0, 0) := by decide +kernel
theorem rX9_maySound_45 : am_rw mX9_maySound 45 = some (.aaload, 1, 0, 0) := by decide +kernel
theorem rX9_maySound_46 : am_rw mX9_maySound 46 = some (.getfield 282, 3, 7, 0) := by decide +kernel
theorem rX9_maySound_49 : am_rw mX9_maySound 49 = some (.iload_n 1, 1, 0, 0) := by decide +kernel
theorem rX9_maySound_50 : am_rw mX9_maySound 50 = some (.if_icmp .ne 17, 3, 67, 0) := by decide +kernel
theorem rX9_maySound_53 : am_rw mX9_maySound 53 = some (.aload_n 0, 1, 0, 0) := by decide +kernel
theorem rX9_maySound_54 : am_rw mX9_maySound 54 = some (.getfield 49, 3, 9, 6) := by decide +kernel
theorem rX9_maySound_57 : am_rw mX9_maySound 57 = some (.iload_n 3, 1, 0, 0) := by decide +kernel
theorem rX9_maySound_58 : am_rw mX9_maySound 58 = some (.aaload, 1, 0, 0) := by decide +kernel
theorem rX9_maySound_59 : am_rw mX9_maySound 59 = some (.getfield 293, 3, 7, 4) := by decide +kernel
theorem rX9_maySound_62 : am_rw mX9_maySound 62 = some (.ifCond .ne 5, 3, 67, 0) := by decide +kernel
theorem rX9_maySound_65 : am_rw mX9_maySound 65 = some (.iconst 0, 1, 0, 0) := by decide +kernel
theorem rX9_maySound_66 : am_rw mX9_maySound 66 = some (.ireturn, 1, 0, 0) := by decide +kernel
theorem rX9_maySound_67 : am_rw mX9_maySound 67 = some (.iinc 3 1, 3, 0, 0) := by decide +kernel
theorem rX9_maySound_70 : am_rw mX9_maySound 70 = some (.goto (-38), 3, 32, 0) := by decide +kernel
theorem rX9_maySound_73 : am_rw mX9_maySound 73 = some (.aload_n 0, 1, 0, 0) := by decide +kernel
theorem rX9_maySound_74 : am_rw mX9_maySound 74 = some (.getfield 43, 3, 9, 5) := by decide +kernel
theorem rX9_maySound_77 : am_rw mX9_maySound 77 = some (.iload_n 1, 1, 0, 0) := by decide +kernel
theorem rX9_maySound_78 : am_rw mX9_maySound 78 = some (.aaload, 1, 0, 0) := by decide +kernel
theorem rX9_maySound_79 : am_rw mX9_maySound 79 = some (.astore_n 3, 1, 0, 0) := by decide +kernel
theorem rX9_maySound_80 : am_rw mX9_maySound 80 = some (.aload_n 3, 1, 0, 0) := by decide +kernel
theorem rX9_maySound_81 : am_rw mX9_maySound 81 = some (.getfield 264, 3, 0, 8) := by decide +kernel
theorem rX9_maySound_84 : am_rw mX9_maySound 84 = some (.ifCond .eq 34, 3, 118, 0) := by decide +kernel
theorem rX9_maySound_87 : am_rw mX9_maySound 87 = some (.aload_n 0, 1, 0, 0) := by decide +kernel
theorem rX9_maySound_88 : am_rw mX9_maySound 88 = some (.iload_n 2, 1, 0, 0) := by decide +kernel
theorem rX9_maySound_89 : am_rw mX9_maySound 89 = some (.aload_n 3, 1, 0, 0) := by decide +kernel
theorem rX9_maySound_90 : am_rw mX9_maySound 90 = some (.invokevirtual 244, 3, 94, 3) := by decide +kernel
theorem rX9_maySound_93 : am_rw mX9_maySound 93 = some (.ifCond .eq 25, 3, 118, 0) := by decide +kernel
theorem rX9_maySound_96 : am_rw mX9_maySound 96 = some (.aload_n 0, 1, 0, 0) := by decide +kernel
theorem rX9_maySound_97 : am_rw mX9_maySound 97 = some (.getfield 32, 3, 9, 3) := by decide +kernel
theorem rX9_maySound_100 : am_rw mX9_maySound 100 = some (.iload_n 2, 1, 0, 0) := by decide +kernel
theorem rX9_maySound_101 : am_rw mX9_maySound 101 = some (.aaload, 1, 0, 0) := by decide +kernel
theorem rX9_maySound_102 : am_rw mX9_maySound 102 = some (.getfield 190, 3, 5, 3) := by decide +kernel
theorem rX9_maySound_105 : am_rw mX9_maySound 105 = some (.aload_n 3, 1, 0, 0) := by decide +kernel
theorem rX9_maySound_106 : am_rw mX9_maySound 106 = some (.getfield 270, 3, 0, 10) := by decide +kernel
theorem rX9_maySound_109 : am_rw mX9_maySound 109 = some (.i2f, 1, 0, 0) := by decide +kernel
theorem rX9_maySound_110 : am_rw mX9_maySound 110 = some (.fcmp .l, 1, 0, 0) := by decide +kernel
theorem rX9_maySound_111 : am_rw mX9_maySound 111 = some (.ifCond .lt 7, 3, 118, 0) := by decide +kernel
theorem rX9_maySound_114 : am_rw mX9_maySound 114 = some (.iconst 1, 1, 1, 0) := by decide +kernel
theorem rX9_maySound_115 : am_rw mX9_maySound 115 = some (.goto 4, 3, 119, 0) := by decide +kernel
theorem rX9_maySound_118 : am_rw mX9_maySound 118 = some (.iconst 0, 1, 0, 0) := by decide +kernel
theorem rX9_maySound_119 : am_rw mX9_maySound 119 = some (.ireturn, 1, 0, 0) := by decide +kernel
theorem rX9_passHourAt_0 : am_rw mX9_passHourAt 0 = some (.aload_n 0, 1, 0, 0) := by decide +kernel
theorem rX9_passHourAt_1 : am_rw mX9_passHourAt 1 = some (.getfield 26, 3, 9, 2) := by decide +kernel
theorem rX9_passHourAt_4 : am_rw mX9_passHourAt 4 = some (.aload_n 1, 1, 0, 0) := by decide +kernel
theorem rX9_passHourAt_5 : am_rw mX9_passHourAt 5 = some (.getfield 220, 3, 0, 3) := by decide +kernel
theorem rX9_passHourAt_8 : am_rw mX9_passHourAt 8 = some (.invokevirtual 122, 3, 39, 2) := by decide +kernel
theorem rX9_passHourAt_11 : am_rw mX9_passHourAt 11 = some (.istore_n 2, 1, 0, 0) := by decide +kernel
theorem rX9_passHourAt_12 : am_rw mX9_passHourAt 12 = some (.iload_n 2, 1, 0, 0) := by decide +kernel
theorem rX9_passHourAt_13 : am_rw mX9_passHourAt 13 = some (.iconst (-1), 1, 1, 1) := by decide +kernel
theorem rX9_passHourAt_14 : am_rw mX9_passHourAt 14 = some (.if_icmp .ne 7, 3, 21, 0) := by decide +kernel
theorem rX9_passHourAt_17 : am_rw mX9_passHourAt 17 = some (.fconst 0, 1, 0, 0) := by decide +kernel
theorem rX9_passHourAt_18 : am_rw mX9_passHourAt 18 = some (.goto 15, 3, 33, 0) := by decide +kernel
theorem rX9_passHourAt_21 : am_rw mX9_passHourAt 21 = some (.aload_n 0, 1, 0, 0) := by decide +kernel
theorem rX9_passHourAt_22 : am_rw mX9_passHourAt 22 = some (.getfield 26, 3, 9, 2) := by decide +kernel
theorem rX9_passHourAt_25 : am_rw mX9_passHourAt 25 = some (.iload_n 2, 1, 0, 0) := by decide +kernel
theorem rX9_passHourAt_26 : am_rw mX9_passHourAt 26 = some (.aload_n 0, 1, 0, 0) := by decide +kernel
theorem rX9_passHourAt_27 : am_rw mX9_passHourAt 27 = some (.getfield 60, 3, 9, 9) := by decide +kernel
theorem rX9_passHourAt_30 : am_rw mX9_passHourAt 30 = some (.invokevirtual 162, 3, 55, 3) := by decide +kernel
theorem rX9_passHourAt_33 : am_rw mX9_passHourAt 33 = some (.fstore_n 3, 1, 0, 0) := by decide +kernel
theorem rX9_passHourAt_34 : am_rw mX9_passHourAt 34 = some (.fload_n 3, 1, 0, 0) := by decide +kernel
theorem rX9_passHourAt_35 : am_rw mX9_passHourAt 35 = some (.fconst 0, 1, 0, 0) := by decide +kernel
theorem rX9_passHourAt_36 : am_rw mX9_passHourAt 36 = some (.fcmp .g, 1, 0, 0) := by decide +kernel
theorem rX9_passHourAt_37 : am_rw mX9_passHourAt 37 = some (.ifCond .ge 7, 3, 44, 0) := by decide +kernel
theorem rX9_passHourAt_40 : am_rw mX9_passHourAt 40 = some (.fconst 0, 1, 0, 0) := by decide +kernel
theorem rX9_passHourAt_41 : am_rw mX9_passHourAt 41 = some (.goto 4, 3, 45, 0) := by decide +kernel
theorem rX9_passHourAt_44 : am_rw mX9_passHourAt 44 = some (.fload_n 3, 1, 0, 0) := by decide +kernel
theorem rX9_passHourAt_45 : am_rw mX9_passHourAt 45 = some (.fstore 4, 2, 0, 0) := by decide +kernel
theorem rX9_passHourAt_47 : am_rw mX9_passHourAt 47 = some (.fconst 0, 1, 0, 0) := by decide +kernel
theorem rX9_passHourAt_48 : am_rw mX9_passHourAt 48 = some (.fstore 5, 2, 0, 0) := by decide +kernel
theorem rX9_passHourAt_50 : am_rw mX9_passHourAt 50 = some (.aload_n 1, 1, 0, 0) := by decide +kernel
theorem rX9_passHourAt_51 : am_rw mX9_passHourAt 51 = some (.getfield 232, 3, 0, 6) := by decide +kernel
theorem rX9_passHourAt_54 : am_rw mX9_passHourAt 54 = some (.ifCond .eq 112, 3, 166, 0) := by decide +kernel
theorem rX9_passHourAt_57 : am_rw mX9_passHourAt 57 = some (.aload_n 0, 1, 0, 0) := by decide +kernel
theorem rX9_passHourAt_58 : am_rw mX9_passHourAt 58 = some (.aload_n 1, 1, 0, 0) := by decide +kernel
theorem rX9_passHourAt_59 : am_rw mX9_passHourAt 59 = some (.getfield 250, 3, 0, 7) := by decide +kernel
theorem rX9_passHourAt_62 : am_rw mX9_passHourAt 62 = some (.invokevirtual 182, 3, 91, 2) := by decide +kernel
theorem rX9_passHourAt_65 : am_rw mX9_passHourAt 65 = some (.ifCond .eq 18, 3, 83, 0) := by decide +kernel
theorem rX9_passHourAt_68 : am_rw mX9_passHourAt 68 = some (.aload_n 0, 1, 0, 0) := by decide +kernel
theorem rX9_passHourAt_69 : am_rw mX9_passHourAt 69 = some (.aload_n 1, 1, 0, 0) := by decide +kernel
theorem rX9_passHourAt_70 : am_rw mX9_passHourAt 70 = some (.getfield 250, 3, 0, 7) := by decide +kernel
theorem rX9_passHourAt_73 : am_rw mX9_passHourAt 73 = some (.invokevirtual 187, 3, 93, 2) := by decide +kernel
theorem rX9_passHourAt_76 : am_rw mX9_passHourAt 76 = some (.ifCond .ne 7, 3, 83, 0) := by decide +kernel
theorem rX9_passHourAt_79 : am_rw mX9_passHourAt 79 = some (.iconst 1, 1, 1, 0) := by decide +kernel
theorem rX9_passHourAt_80 : am_rw mX9_passHourAt 80 = some (.goto 4, 3, 84, 0) := by decide +kernel
theorem rX9_passHourAt_83 : am_rw mX9_passHourAt 83 = some (.iconst 0, 1, 0, 0) := by decide +kernel
theorem rX9_passHourAt_84 : am_rw mX9_passHourAt 84 = some (.istore 6, 2, 0, 0) := by decide +kernel
theorem rX9_passHourAt_86 : am_rw mX9_passHourAt 86 = some (.aload_n 0, 1, 0, 0) := by decide +kernel
theorem rX9_passHourAt_87 : am_rw mX9_passHourAt 87 = some (.getfield 26, 3, 9, 2) := by decide +kernel
theorem rX9_passHourAt_90 : am_rw mX9_passHourAt 90 = some (.getfield 331, 3, 6, 0) := by decide +kernel
theorem rX9_passHourAt_93 : am_rw mX9_passHourAt 93 = some (.getfield 335, 3, 4, 0) := by decide +kernel
theorem rX9_passHourAt_96 : am_rw mX9_passHourAt 96 = some (.astore 7, 2, 0, 0) := by decide +kernel
theorem rX9_passHourAt_98 : am_rw mX9_passHourAt 98 = some (.aload 7, 2, 0, 0) := by decide +kernel
theorem rX9_passHourAt_100 : am_rw mX9_passHourAt 100 = some (.bipush 17, 2, 17, 0) := by decide +kernel
theorem rX9_passHourAt_102 : am_rw mX9_passHourAt 102 = some (.aload_n 1, 1, 0, 0) := by decide +kernel
theorem rX9_passHourAt_103 : am_rw mX9_passHourAt 103 = some (.getfield 253, 3, 0, 5) := by decide +kernel
theorem rX9_passHourAt_106 : am_rw mX9_passHourAt 106 = some (.fastore, 1, 0, 0) := by decide +kernel
theorem rX9_passHourAt_107 : am_rw mX9_passHourAt 107 = some (.aload 7, 2, 0, 0) := by decide +kernel
theorem rX9_passHourAt_109 : am_rw mX9_passHourAt 109 = some (.bipush 18, 2, 18, 0) := by decide +kernel
theorem rX9_passHourAt_111 : am_rw mX9_passHourAt 111 = some (.fload 4, 2, 0, 0) := by decide +kernel
theorem rX9_passHourAt_113 : am_rw mX9_passHourAt 113 = some (.fastore, 1, 0, 0) := by decide +kernel
theorem rX9_passHourAt_114 : am_rw mX9_passHourAt 114 = some (.aload 7, 2, 0, 0) := by decide +kernel
theorem rX9_passHourAt_116 : am_rw mX9_passHourAt 116 = some (.bipush 19, 2, 19, 0) := by decide +kernel
theorem rX9_passHourAt_118 : am_rw mX9_passHourAt 118 = some (.iload 6, 2, 0, 0) := by decide +kernel
theorem rX9_passHourAt_120 : am_rw mX9_passHourAt 120 = some (.ifCond .eq 18, 3, 138, 0) := by decide +kernel
theorem rX9_passHourAt_123 : am_rw mX9_passHourAt 123 = some (.aload_n 0, 1, 0, 0) := by decide +kernel
theorem rX9_passHourAt_124 : am_rw mX9_passHourAt 124 = some (.getfield 32, 3, 9, 3) := by decide +kernel
theorem rX9_passHourAt_127 : am_rw mX9_passHourAt 127 = some (.aload_n 1, 1, 0, 0) := by decide +kernel
theorem rX9_passHourAt_128 : am_rw mX9_passHourAt 128 = some (.getfield 250, 3, 0, 7) := by decide +kernel
theorem rX9_passHourAt_131 : am_rw mX9_passHourAt 131 = some (.aaload, 1, 0, 0) := by decide +kernel
theorem rX9_passHourAt_132 : am_rw mX9_passHourAt 132 = some (.getfield 190, 3, 5, 3) := by decide +kernel
theorem rX9_passHourAt_135 : am_rw mX9_passHourAt 135 = some (.goto 4, 3, 139, 0) := by decide +kernel
theorem rX9_passHourAt_138 : am_rw mX9_passHourAt 138 = some (.fconst 0, 1, 0, 0) := by decide +kernel
theorem rX9_passHourAt_139 : am_rw mX9_passHourAt 139 = some (.fastore, 1, 0, 0) := by decide +kernel
theorem rX9_passHourAt_140 : am_rw mX9_passHourAt 140 = some (.aload 7, 2, 0, 0) := by decide +kernel
theorem rX9_passHourAt_142 : am_rw mX9_passHourAt 142 = some (.bipush 16, 2, 16, 0) := by decide +kernel
theorem rX9_passHourAt_144 : am_rw mX9_passHourAt 144 = some (.aload_n 0, 1, 0, 0) := by decide +kernel
theorem rX9_passHourAt_145 : am_rw mX9_passHourAt 145 = some (.getfield 60, 3, 9, 9) := by decide +kernel
theorem rX9_passHourAt_148 : am_rw mX9_passHourAt 148 = some (.i2f, 1, 0, 0) := by decide +kernel
theorem rX9_passHourAt_149 : am_rw mX9_passHourAt 149 = some (.fastore, 1, 0, 0) := by decide +kernel
theorem rX9_passHourAt_150 : am_rw mX9_passHourAt 150 = some (.aload_n 0, 1, 0, 0) := by decide +kernel
theorem rX9_passHourAt_151 : am_rw mX9_passHourAt 151 = some (.getfield 26, 3, 9, 2) := by decide +kernel
theorem rX9_passHourAt_154 : am_rw mX9_passHourAt 154 = some (.getfield 331, 3, 6, 0) := by decide +kernel
theorem rX9_passHourAt_157 : am_rw mX9_passHourAt 157 = some (.aload_n 1, 1, 0, 0) := by decide +kernel
theorem rX9_passHourAt_158 : am_rw mX9_passHourAt 158 = some (.getfield 235, 3, 0, 0) := by decide +kernel
theorem rX9_passHourAt_161 : am_rw mX9_passHourAt 161 = some (.invokevirtual 339, 3, 30, 2) := by decide +kernel
theorem rX9_passHourAt_164 : am_rw mX9_passHourAt 164 = some (.fstore 5, 2, 0, 0) := by decide +kernel
theorem rX9_passHourAt_166 : am_rw mX9_passHourAt 166 = some (.aload_n 1, 1, 0, 0) := by decide +kernel
theorem rX9_passHourAt_167 : am_rw mX9_passHourAt 167 = some (.aload_n 0, 1, 0, 0) := by decide +kernel
theorem rX9_passHourAt_168 : am_rw mX9_passHourAt 168 = some (.getfield 60, 3, 9, 9) := by decide +kernel
theorem rX9_passHourAt_171 : am_rw mX9_passHourAt 171 = some (.fload 4, 2, 0, 0) := by decide +kernel
theorem rX9_passHourAt_173 : am_rw mX9_passHourAt 173 = some (.fload 5, 2, 0, 0) := by decide +kernel
theorem rX9_passHourAt_175 : am_rw mX9_passHourAt 175 = some (.invokevirtual 343, 3, 1, 4) := by decide +kernel
theorem rX9_passHourAt_178 : am_rw mX9_passHourAt 178 = some (.return_, 1, 0, 0) := by decide +kernel
theorem rX9_judge_0 : am_rw mX9_judge 0 = some (.aload_n 0, 1, 0, 0) := by decide +kernel
theorem rX9_judge_1 : am_rw mX9_judge 1 = some (.aload_n 1, 1, 0, 0) := by decide +kernel
theorem rX9_judge_2 : am_rw mX9_judge 2 = some (.getfield 282, 3, 7, 0) := by decide +kernel
theorem rX9_judge_5 : am_rw mX9_judge 5 = some (.invokevirtual 206, 3, 90, 2) := by decide +kernel
theorem rX9_judge_8 : am_rw mX9_judge 8 = some (.ifCond .eq 24, 3, 32, 0) := by decide +kernel
theorem rX9_judge_11 : am_rw mX9_judge 11 = some (.aload_n 0, 1, 0, 0) := by decide +kernel
theorem rX9_judge_12 : am_rw mX9_judge 12 = some (.aload_n 1, 1, 0, 0) := by decide +kernel
theorem rX9_judge_13 : am_rw mX9_judge 13 = some (.getfield 285, 3, 7, 1) := by decide +kernel
theorem rX9_judge_16 : am_rw mX9_judge 16 = some (.invokevirtual 182, 3, 91, 2) := by decide +kernel
theorem rX9_judge_19 : am_rw mX9_judge 19 = some (.ifCond .eq 13, 3, 32, 0) := by decide +kernel
theorem rX9_judge_22 : am_rw mX9_judge 22 = some (.aload_n 0, 1, 0, 0) := by decide +kernel
theorem rX9_judge_23 : am_rw mX9_judge 23 = some (.getfield 60, 3, 9, 9) := by decide +kernel
theorem rX9_judge_26 : am_rw mX9_judge 26 = some (.invokestatic 145, 3, 89, 1) := by decide +kernel
theorem rX9_judge_29 : am_rw mX9_judge 29 = some (.ifCond .ne 4, 3, 33, 0) := by decide +kernel
theorem rX9_judge_32 : am_rw mX9_judge 32 = some (.return_, 1, 0, 0) := by decide +kernel
theorem rX9_judge_33 : am_rw mX9_judge 33 = some (.aload_n 0, 1, 0, 0) := by decide +kernel
theorem rX9_judge_34 : am_rw mX9_judge 34 = some (.getfield 43, 3, 9, 5) := by decide +kernel
theorem rX9_judge_37 : am_rw mX9_judge 37 = some (.aload_n 1, 1, 0, 0) := by decide +kernel
theorem rX9_judge_38 : am_rw mX9_judge 38 = some (.getfield 282, 3, 7, 0) := by decide +kernel
theorem rX9_judge_41 : am_rw mX9_judge 41 = some (.aaload, 1, 0, 0) := by decide +kernel
theorem rX9_judge_42 : am_rw mX9_judge 42 = some (.astore_n 2, 1, 0, 0) := by decide +kernel
theorem rX9_judge_43 : am_rw mX9_judge 43 = some (.aload_n 0, 1, 0, 0) := by decide +kernel
theorem rX9_judge_44 : am_rw mX9_judge 44 = some (.aload_n 1, 1, 0, 0) := by decide +kernel
theorem rX9_judge_45 : am_rw mX9_judge 45 = some (.getfield 285, 3, 7, 1) := by decide +kernel
theorem rX9_judge_48 : am_rw mX9_judge 48 = some (.invokevirtual 187, 3, 93, 2) := by decide +kernel
theorem rX9_judge_51 : am_rw mX9_judge 51 = some (.ifCond .eq 23, 3, 74, 0) := by decide +kernel
theorem rX9_judge_54 : am_rw mX9_judge 54 = some (.aload_n 1, 1, 0, 0) := by decide +kernel
theorem rX9_judge_55 : am_rw mX9_judge 55 = some (.iconst 3, 1, 3, 0) := by decide +kernel
theorem rX9_judge_56 : am_rw mX9_judge 56 = some (.putfield 293, 3, 7, 4) := by decide +kernel
theorem rX9_judge_59 : am_rw mX9_judge 59 = some (.aload_n 2, 1, 0, 0) := by decide +kernel
theorem rX9_judge_60 : am_rw mX9_judge 60 = some (.aload_n 2, 1, 0, 0) := by decide +kernel
theorem rX9_judge_61 : am_rw mX9_judge 61 = some (.getfield 289, 3, 0, 12) := by decide +kernel
theorem rX9_judge_64 : am_rw mX9_judge 64 = some (.ldc_w 347, 3, 1, 1063675494) := by decide +kernel
theorem rX9_judge_67 : am_rw mX9_judge 67 = some (.fmul, 1, 0, 0) := by decide +kernel
theorem rX9_judge_68 : am_rw mX9_judge 68 = some (.putfield 289, 3, 0, 12) := by decide +kernel
theorem rX9_judge_71 : am_rw mX9_judge 71 = some (.goto 115, 3, 186, 0) := by decide +kernel
theorem rX9_judge_74 : am_rw mX9_judge 74 = some (.aload_n 2, 1, 0, 0) := by decide +kernel
theorem rX9_judge_75 : am_rw mX9_judge 75 = some (.getfield 258, 3, 0, 1) := by decide +kernel
theorem rX9_judge_78 : am_rw mX9_judge 78 = some (.aload_n 0, 1, 0, 0) := by decide +kernel
theorem rX9_judge_79 : am_rw mX9_judge 79 = some (.getfield 60, 3, 9, 9) := by decide +kernel
theorem rX9_judge_82 : am_rw mX9_judge 82 = some (.faload, 1, 0, 0) := by decide +kernel
theorem rX9_judge_83 : am_rw mX9_judge 83 = some (.aload_n 2, 1, 0, 0) := by decide +kernel
theorem rX9_judge_84 : am_rw mX9_judge 84 = some (.getfield 270, 3, 0, 10) := by decide +kernel
theorem rX9_judge_87 : am_rw mX9_judge 87 = some (.i2f, 1, 0, 0) := by decide +kernel
theorem rX9_judge_88 : am_rw mX9_judge 88 = some (.fcmp .l, 1, 0, 0) := by decide +kernel
theorem rX9_judge_89 : am_rw mX9_judge 89 = some (.ifCond .lt 61, 3, 150, 0) := by decide +kernel
theorem rX9_judge_92 : am_rw mX9_judge 92 = some (.aload_n 1, 1, 0, 0) := by decide +kernel
theorem rX9_judge_93 : am_rw mX9_judge 93 = some (.iconst 1, 1, 1, 0) := by decide +kernel
theorem rX9_judge_94 : am_rw mX9_judge 94 = some (.putfield 293, 3, 7, 4) := by decide +kernel
theorem rX9_judge_97 : am_rw mX9_judge 97 = some (.fconst 1, 1, 0, 0) := by decide +kernel
theorem rX9_judge_98 : am_rw mX9_judge 98 = some (.aload_n 2, 1, 0, 0) := by decide +kernel
theorem rX9_judge_99 : am_rw mX9_judge 99 = some (.getfield 289, 3, 0, 12) := by decide +kernel
theorem rX9_judge_102 : am_rw mX9_judge 102 = some (.fsub, 1, 0, 0) := by decide +kernel
theorem rX9_judge_103 : am_rw mX9_judge 103 = some (.fstore_n 3, 1, 0, 0) := by decide +kernel
theorem rX9_judge_104 : am_rw mX9_judge 104 = some (.aload_n 2, 1, 0, 0) := by decide +kernel
theorem rX9_judge_105 : am_rw mX9_judge 105 = some (.aload_n 2, 1, 0, 0) := by decide +kernel
theorem rX9_judge_106 : am_rw mX9_judge 106 = some (.getfield 289, 3, 0, 12) := by decide +kernel
theorem rX9_judge_109 : am_rw mX9_judge 109 = some (.fload_n 3, 1, 0, 0) := by decide +kernel
theorem rX9_judge_110 : am_rw mX9_judge 110 = some (.ldc_w 348, 3, 1, 1056964608) := by decide +kernel
theorem rX9_judge_113 : am_rw mX9_judge 113 = some (.fmul, 1, 0, 0) := by decide +kernel
theorem rX9_judge_114 : am_rw mX9_judge 114 = some (.fadd, 1, 0, 0) := by decide +kernel
theorem rX9_judge_115 : am_rw mX9_judge 115 = some (.putfield 289, 3, 0, 12) := by decide +kernel
theorem rX9_judge_118 : am_rw mX9_judge 118 = some (.aload_n 0, 1, 0, 0) := by decide +kernel
theorem rX9_judge_119 : am_rw mX9_judge 119 = some (.getfield 60, 3, 9, 9) := by decide +kernel
theorem rX9_judge_122 : am_rw mX9_judge 122 = some (.aload_n 1, 1, 0, 0) := by decide +kernel
theorem rX9_judge_123 : am_rw mX9_judge 123 = some (.getfield 286, 3, 7, 2) := by decide +kernel
theorem rX9_judge_126 : am_rw mX9_judge 126 = some (.isub, 1, 0, 0) := by decide +kernel
theorem rX9_judge_127 : am_rw mX9_judge 127 = some (.aload_n 2, 1, 0, 0) := by decide +kernel
theorem rX9_judge_128 : am_rw mX9_judge 128 = some (.getfield 273, 3, 0, 11) := by decide +kernel
theorem rX9_judge_131 : am_rw mX9_judge 131 = some (.if_icmp .lt 16, 3, 147, 0) := by decide +kernel
theorem rX9_judge_134 : am_rw mX9_judge 134 = some (.aload_n 2, 1, 0, 0) := by decide +kernel
theorem rX9_judge_135 : am_rw mX9_judge 135 = some (.dup, 1, 0, 0) := by decide +kernel
theorem rX9_judge_136 : am_rw mX9_judge 136 = some (.getfield 301, 3, 0, 13) := by decide +kernel
theorem rX9_judge_139 : am_rw mX9_judge 139 = some (.aload_n 1, 1, 0, 0) := by decide +kernel
theorem rX9_judge_140 : am_rw mX9_judge 140 = some (.getfield 292, 3, 7, 3) := by decide +kernel
theorem rX9_judge_143 : am_rw mX9_judge 143 = some (.iadd, 1, 0, 0) := by decide +kernel
theorem rX9_judge_144 : am_rw mX9_judge 144 = some (.putfield 301, 3, 0, 13) := by decide +kernel
theorem rX9_judge_147 : am_rw mX9_judge 147 = some (.goto 39, 3, 186, 0) := by decide +kernel
theorem rX9_judge_150 : am_rw mX9_judge 150 = some (.aload_n 0, 1, 0, 0) := by decide +kernel
theorem rX9_judge_151 : am_rw mX9_judge 151 = some (.getfield 60, 3, 9, 9) := by decide +kernel
theorem rX9_judge_154 : am_rw mX9_judge 154 = some (.aload_n 0, 1, 0, 0) := by decide +kernel
theorem rX9_judge_155 : am_rw mX9_judge 155 = some (.getfield 32, 3, 9, 3) := by decide +kernel
theorem rX9_judge_158 : am_rw mX9_judge 158 = some (.aload_n 1, 1, 0, 0) := by decide +kernel
theorem rX9_judge_159 : am_rw mX9_judge 159 = some (.getfield 285, 3, 7, 1) := by decide +kernel
theorem rX9_judge_162 : am_rw mX9_judge 162 = some (.aaload, 1, 0, 0) := by decide +kernel
theorem rX9_judge_163 : am_rw mX9_judge 163 = some (.getfield 203, 3, 5, 2) := by decide +kernel
theorem rX9_judge_166 : am_rw mX9_judge 166 = some (.if_icmp .lt 20, 3, 186, 0) := by decide +kernel
theorem rX9_judge_169 : am_rw mX9_judge 169 = some (.aload_n 1, 1, 0, 0) := by decide +kernel
theorem rX9_judge_170 : am_rw mX9_judge 170 = some (.iconst 2, 1, 2, 0) := by decide +kernel
theorem rX9_judge_171 : am_rw mX9_judge 171 = some (.putfield 293, 3, 7, 4) := by decide +kernel
theorem rX9_judge_174 : am_rw mX9_judge 174 = some (.aload_n 2, 1, 0, 0) := by decide +kernel
theorem rX9_judge_175 : am_rw mX9_judge 175 = some (.aload_n 2, 1, 0, 0) := by decide +kernel
theorem rX9_judge_176 : am_rw mX9_judge 176 = some (.getfield 289, 3, 0, 12) := by decide +kernel
theorem rX9_judge_179 : am_rw mX9_judge 179 = some (.ldc_w 349, 3, 1, 1061158912) := by decide +kernel
theorem rX9_judge_182 : am_rw mX9_judge 182 = some (.fmul, 1, 0, 0) := by decide +kernel
theorem rX9_judge_183 : am_rw mX9_judge 183 = some (.putfield 289, 3, 0, 12) := by decide +kernel
theorem rX9_judge_186 : am_rw mX9_judge 186 = some (.return_, 1, 0, 0) := by decide +kernel
theorem rX9_bitsOf_0 : am_rw mX9_bitsOf 0 = some (.fload_n 0, 1, 0, 0) := by decide +kernel
theorem rX9_bitsOf_1 : am_rw mX9_bitsOf 1 = some (.fconst 0, 1, 0, 0) := by decide +kernel
theorem rX9_bitsOf_2 : am_rw mX9_bitsOf 2 = some (.fcmp .l, 1, 0, 0) := by decide +kernel
theorem rX9_bitsOf_3 : am_rw mX9_bitsOf 3 = some (.ifCond .ne 5, 3, 8, 0) := by decide +kernel
theorem rX9_bitsOf_6 : am_rw mX9_bitsOf 6 = some (.iconst 0, 1, 0, 0) := by decide +kernel
theorem rX9_bitsOf_7 : am_rw mX9_bitsOf 7 = some (.ireturn, 1, 0, 0) := by decide +kernel
theorem rX9_bitsOf_8 : am_rw mX9_bitsOf 8 = some (.fload_n 0, 1, 0, 0) := by decide +kernel
theorem rX9_bitsOf_9 : am_rw mX9_bitsOf 9 = some (.fconst 0, 1, 0, 0) := by decide +kernel
theorem rX9_bitsOf_10 : am_rw mX9_bitsOf 10 = some (.fcmp .g, 1, 0, 0) := by decide +kernel
theorem rX9_bitsOf_11 : am_rw mX9_bitsOf 11 = some (.ifCond .ge 9, 3, 20, 0) := by decide +kernel
theorem rX9_bitsOf_14 : am_rw mX9_bitsOf 14 = some (.ldc_w 350, 3, 3, 2147483648) := by decide +kernel
theorem rX9_bitsOf_17 : am_rw mX9_bitsOf 17 = some (.goto 4, 3, 21, 0) := by decide +kernel
theorem rX9_bitsOf_20 : am_rw mX9_bitsOf 20 = some (.iconst 0, 1, 0, 0) := by decide +kernel
theorem rX9_bitsOf_21 : am_rw mX9_bitsOf 21 = some (.istore_n 1, 1, 0, 0) := by decide +kernel
theorem rX9_bitsOf_22 : am_rw mX9_bitsOf 22 = some (.fload_n 0, 1, 0, 0) := by decide +kernel
theorem rX9_bitsOf_23 : am_rw mX9_bitsOf 23 = some (.fconst 0, 1, 0, 0) := by decide +kernel
theorem rX9_bitsOf_24 : am_rw mX9_bitsOf 24 = some (.fcmp .g, 1, 0, 0) := by decide +kernel
theorem rX9_bitsOf_25 : am_rw mX9_bitsOf 25 = some (.ifCond .ge 9, 3, 34, 0) := by decide +kernel
theorem rX9_bitsOf_28 : am_rw mX9_bitsOf 28 = some (.fconst 0, 1, 0, 0) := by decide +kernel
theorem rX9_bitsOf_29 : am_rw mX9_bitsOf 29 = some (.fload_n 0, 1, 0, 0) := by decide +kernel
theorem rX9_bitsOf_30 : am_rw mX9_bitsOf 30 = some (.fsub, 1, 0, 0) := by decide +kernel
theorem rX9_bitsOf_31 : am_rw mX9_bitsOf 31 = some (.goto 4, 3, 35, 0) := by decide +kernel
theorem rX9_bitsOf_34 : am_rw mX9_bitsOf 34 = some (.fload_n 0, 1, 0, 0) := by decide +kernel
theorem rX9_bitsOf_35 : am_rw mX9_bitsOf 35 = some (.fstore_n 2, 1, 0, 0) := by decide +kernel
theorem rX9_bitsOf_36 : am_rw mX9_bitsOf 36 = some (.bipush 127, 2, 127, 0) := by decide +kernel
theorem rX9_bitsOf_38 : am_rw mX9_bitsOf 38 = some (.istore_n 3, 1, 0, 0) := by decide +kernel
theorem rX9_bitsOf_39 : am_rw mX9_bitsOf 39 = some (.fload_n 2, 1, 0, 0) := by decide +kernel
theorem rX9_bitsOf_40 : am_rw mX9_bitsOf 40 = some (.fconst 2, 1, 0, 0) := by decide +kernel
theorem rX9_bitsOf_41 : am_rw mX9_bitsOf 41 = some (.fcmp .l, 1, 0, 0) := by decide +kernel
theorem rX9_bitsOf_42 : am_rw mX9_bitsOf 42 = some (.ifCond .lt 20, 3, 62, 0) := by decide +kernel
theorem rX9_bitsOf_45 : am_rw mX9_bitsOf 45 = some (.iload_n 3, 1, 0, 0) := by decide +kernel
theorem rX9_bitsOf_46 : am_rw mX9_bitsOf 46 = some (.sipush 254, 3, 254, 0) := by decide +kernel
theorem rX9_bitsOf_49 : am_rw mX9_bitsOf 49 = some (.if_icmp .ge 13, 3, 62, 0) := by decide +kernel
theorem rX9_bitsOf_52 : am_rw mX9_bitsOf 52 = some (.fload_n 2, 1, 0, 0) := by decide +kernel
theorem rX9_bitsOf_53 : am_rw mX9_bitsOf 53 = some (.fconst 2, 1, 0, 0) := by decide +kernel
theorem rX9_bitsOf_54 : am_rw mX9_bitsOf 54 = some (.fdiv, 1, 0, 0) := by decide +kernel
theorem rX9_bitsOf_55 : am_rw mX9_bitsOf 55 = some (.fstore_n 2, 1, 0, 0) := by decide +kernel
theorem rX9_bitsOf_56 : am_rw mX9_bitsOf 56 = some (.iinc 3 1, 3, 0, 0) := by decide +kernel
theorem rX9_bitsOf_59 : am_rw mX9_bitsOf 59 = some (.goto (-20), 3, 39, 0) := by decide +kernel
theorem rX9_bitsOf_62 : am_rw mX9_bitsOf 62 = some (.fload_n 2, 1, 0, 0) := by decide +kernel
theorem rX9_bitsOf_63 : am_rw mX9_bitsOf 63 = some (.fconst 1, 1, 0, 0) := by decide +kernel
theorem rX9_bitsOf_64 : am_rw mX9_bitsOf 64 = some (.fcmp .g, 1, 0, 0) := by decide +kernel
theorem rX9_bitsOf_65 : am_rw mX9_bitsOf 65 = some (.ifCond .ge 18, 3, 83, 0) := by decide +kernel
theorem rX9_bitsOf_68 : am_rw mX9_bitsOf 68 = some (.iload_n 3, 1, 0, 0) := by decide +kernel
theorem rX9_bitsOf_69 : am_rw mX9_bitsOf 69 = some (.iconst 1, 1, 1, 0) := by decide +kernel
theorem rX9_bitsOf_70 : am_rw mX9_bitsOf 70 = some (.if_icmp .le 13, 3, 83, 0) := by decide +kernel
theorem rX9_bitsOf_73 : am_rw mX9_bitsOf 73 = some (.fload_n 2, 1, 0, 0) := by decide +kernel
theorem rX9_bitsOf_74 : am_rw mX9_bitsOf 74 = some (.fconst 2, 1, 0, 0) := by decide +kernel
theorem rX9_bitsOf_75 : am_rw mX9_bitsOf 75 = some (.fmul, 1, 0, 0) := by decide +kernel
theorem rX9_bitsOf_76 : am_rw mX9_bitsOf 76 = some (.fstore_n 2, 1, 0, 0) := by decide +kernel
theorem rX9_bitsOf_77 : am_rw mX9_bitsOf 77 = some (.iinc 3 (-1), 3, 0, 0) := by decide +kernel
theorem rX9_bitsOf_80 : am_rw mX9_bitsOf 80 = some (.goto (-18), 3, 62, 0) := by decide +kernel
theorem rX9_bitsOf_83 : am_rw mX9_bitsOf 83 = some (.fload_n 2, 1, 0, 0) := by decide +kernel
theorem rX9_bitsOf_84 : am_rw mX9_bitsOf 84 = some (.ldc_w 351, 3, 1, 1258291200) := by decide +kernel
theorem rX9_bitsOf_87 : am_rw mX9_bitsOf 87 = some (.fmul, 1, 0, 0) := by decide +kernel
theorem rX9_bitsOf_88 : am_rw mX9_bitsOf 88 = some (.f2i, 1, 0, 0) := by decide +kernel
theorem rX9_bitsOf_89 : am_rw mX9_bitsOf 89 = some (.istore 4, 2, 0, 0) := by decide +kernel
theorem rX9_bitsOf_91 : am_rw mX9_bitsOf 91 = some (.iload_n 1, 1, 0, 0) := by decide +kernel
theorem rX9_bitsOf_92 : am_rw mX9_bitsOf 92 = some (.fload_n 2, 1, 0, 0) := by decide +kernel
theorem rX9_bitsOf_93 : am_rw mX9_bitsOf 93 = some (.fconst 1, 1, 0, 0) := by decide +kernel
theorem rX9_bitsOf_94 : am_rw mX9_bitsOf 94 = some (.fcmp .g, 1, 0, 0) := by decide +kernel
theorem rX9_bitsOf_95 : am_rw mX9_bitsOf 95 = some (.ifCond .ge 8, 3, 103, 0) := by decide +kernel
theorem rX9_bitsOf_98 : am_rw mX9_bitsOf 98 = some (.iload 4, 2, 0, 0) := by decide +kernel
theorem rX9_bitsOf_100 : am_rw mX9_bitsOf 100 = some (.goto 14, 3, 114, 0) := by decide +kernel
theorem rX9_bitsOf_103 : am_rw mX9_bitsOf 103 = some (.iload_n 3, 1, 0, 0) := by decide +kernel
theorem rX9_bitsOf_104 : am_rw mX9_bitsOf 104 = some (.bipush 23, 2, 23, 0) := by decide +kernel
theorem rX9_bitsOf_106 : am_rw mX9_bitsOf 106 = some (.ishl, 1, 0, 0) := by decide +kernel
theorem rX9_bitsOf_107 : am_rw mX9_bitsOf 107 = some (.iload 4, 2, 0, 0) := by decide +kernel
theorem rX9_bitsOf_109 : am_rw mX9_bitsOf 109 = some (.iadd, 1, 0, 0) := by decide +kernel
theorem rX9_bitsOf_110 : am_rw mX9_bitsOf 110 = some (.ldc_w 352, 3, 0, 8388608) := by decide +kernel
theorem rX9_bitsOf_113 : am_rw mX9_bitsOf 113 = some (.isub, 1, 0, 0) := by decide +kernel
theorem rX9_bitsOf_114 : am_rw mX9_bitsOf 114 = some (.ior, 1, 0, 0) := by decide +kernel
theorem rX9_bitsOf_115 : am_rw mX9_bitsOf 115 = some (.ireturn, 1, 0, 0) := by decide +kernel
