/-! own: rows of the methods, for the rules -/
set_option maxRecDepth 100000
theorem rL_type_0 : am_rw mL_type 0 = some (.aload_n 2, 1, 0, 0) := by decide +kernel
theorem rL_type_1 : am_rw mL_type 1 = some (.iconst 0, 1, 0, 0) := by decide +kernel
theorem rL_type_2 : am_rw mL_type 2 = some (.aload_n 0, 1, 0, 0) := by decide +kernel
theorem rL_type_3 : am_rw mL_type 3 = some (.iload_n 1, 1, 0, 0) := by decide +kernel
theorem rL_type_4 : am_rw mL_type 4 = some (.invokevirtual 7, 3, 60, 2) := by decide +kernel
theorem rL_type_7 : am_rw mL_type 7 = some (.i2l, 1, 0, 0) := by decide +kernel
theorem rL_type_8 : am_rw mL_type 8 = some (.lastore, 1, 0, 0) := by decide +kernel
theorem rL_type_9 : am_rw mL_type 9 = some (.goto 9, 3, 18, 0) := by decide +kernel
theorem rL_type_13 : am_rw mL_type 13 = some (.iconst 1, 1, 1, 0) := by decide +kernel
theorem rL_type_14 : am_rw mL_type 14 = some (.ireturn, 1, 0, 0) := by decide +kernel
theorem rL_type_16 : am_rw mL_type 16 = some (.iconst 2, 1, 2, 0) := by decide +kernel
theorem rL_type_17 : am_rw mL_type 17 = some (.ireturn, 1, 0, 0) := by decide +kernel
theorem rL_type_18 : am_rw mL_type 18 = some (.iconst 0, 1, 0, 0) := by decide +kernel
theorem rL_type_19 : am_rw mL_type 19 = some (.ireturn, 1, 0, 0) := by decide +kernel
theorem rL_publish_0 : am_rw mL_publish 0 = some (.aload_n 2, 1, 0, 0) := by decide +kernel
theorem rL_publish_1 : am_rw mL_publish 1 = some (.iconst 0, 1, 0, 0) := by decide +kernel
theorem rL_publish_2 : am_rw mL_publish 2 = some (.aload_n 0, 1, 0, 0) := by decide +kernel
theorem rL_publish_3 : am_rw mL_publish 3 = some (.iload_n 1, 1, 0, 0) := by decide +kernel
theorem rL_publish_4 : am_rw mL_publish 4 = some (.invokevirtual 17, 3, 63, 2) := by decide +kernel
theorem rL_publish_7 : am_rw mL_publish 7 = some (.i2l, 1, 0, 0) := by decide +kernel
theorem rL_publish_8 : am_rw mL_publish 8 = some (.lastore, 1, 0, 0) := by decide +kernel
theorem rL_publish_9 : am_rw mL_publish 9 = some (.goto 12, 3, 21, 0) := by decide +kernel
theorem rL_publish_13 : am_rw mL_publish 13 = some (.iconst 1, 1, 1, 0) := by decide +kernel
theorem rL_publish_14 : am_rw mL_publish 14 = some (.ireturn, 1, 0, 0) := by decide +kernel
theorem rL_publish_16 : am_rw mL_publish 16 = some (.iconst 2, 1, 2, 0) := by decide +kernel
theorem rL_publish_17 : am_rw mL_publish 17 = some (.ireturn, 1, 0, 0) := by decide +kernel
theorem rL_publish_19 : am_rw mL_publish 19 = some (.iconst 3, 1, 3, 0) := by decide +kernel
theorem rL_publish_20 : am_rw mL_publish 20 = some (.ireturn, 1, 0, 0) := by decide +kernel
theorem rL_publish_21 : am_rw mL_publish 21 = some (.iconst 0, 1, 0, 0) := by decide +kernel
theorem rL_publish_22 : am_rw mL_publish 22 = some (.ireturn, 1, 0, 0) := by decide +kernel
theorem rL_retire_0 : am_rw mL_retire 0 = some (.aload_n 2, 1, 0, 0) := by decide +kernel
theorem rL_retire_1 : am_rw mL_retire 1 = some (.iconst 0, 1, 0, 0) := by decide +kernel
theorem rL_retire_2 : am_rw mL_retire 2 = some (.aload_n 0, 1, 0, 0) := by decide +kernel
theorem rL_retire_3 : am_rw mL_retire 3 = some (.iload_n 1, 1, 0, 0) := by decide +kernel
theorem rL_retire_4 : am_rw mL_retire 4 = some (.invokevirtual 23, 3, 64, 2) := by decide +kernel
theorem rL_retire_7 : am_rw mL_retire 7 = some (.i2l, 1, 0, 0) := by decide +kernel
theorem rL_retire_8 : am_rw mL_retire 8 = some (.lastore, 1, 0, 0) := by decide +kernel
theorem rL_retire_9 : am_rw mL_retire 9 = some (.goto 9, 3, 18, 0) := by decide +kernel
theorem rL_retire_13 : am_rw mL_retire 13 = some (.iconst 1, 1, 1, 0) := by decide +kernel
theorem rL_retire_14 : am_rw mL_retire 14 = some (.ireturn, 1, 0, 0) := by decide +kernel
theorem rL_retire_16 : am_rw mL_retire 16 = some (.iconst 2, 1, 2, 0) := by decide +kernel
theorem rL_retire_17 : am_rw mL_retire 17 = some (.ireturn, 1, 0, 0) := by decide +kernel
theorem rL_retire_18 : am_rw mL_retire 18 = some (.iconst 0, 1, 0, 0) := by decide +kernel
theorem rL_retire_19 : am_rw mL_retire 19 = some (.ireturn, 1, 0, 0) := by decide +kernel
theorem rL_latest_0 : am_rw mL_latest 0 = some (.aload_n 2, 1, 0, 0) := by decide +kernel
theorem rL_latest_1 : am_rw mL_latest 1 = some (.iconst 0, 1, 0, 0) := by decide +kernel
theorem rL_latest_2 : am_rw mL_latest 2 = some (.aload_n 0, 1, 0, 0) := by decide +kernel
theorem rL_latest_3 : am_rw mL_latest 3 = some (.iload_n 1, 1, 0, 0) := by decide +kernel
theorem rL_latest_4 : am_rw mL_latest 4 = some (.invokevirtual 26, 3, 65, 2) := by decide +kernel
theorem rL_latest_7 : am_rw mL_latest 7 = some (.i2l, 1, 0, 0) := by decide +kernel
theorem rL_latest_8 : am_rw mL_latest 8 = some (.lastore, 1, 0, 0) := by decide +kernel
theorem rL_latest_9 : am_rw mL_latest 9 = some (.goto 6, 3, 15, 0) := by decide +kernel
theorem rL_latest_13 : am_rw mL_latest 13 = some (.iconst 1, 1, 1, 0) := by decide +kernel
theorem rL_latest_14 : am_rw mL_latest 14 = some (.ireturn, 1, 0, 0) := by decide +kernel
theorem rL_latest_15 : am_rw mL_latest 15 = some (.iconst 0, 1, 0, 0) := by decide +kernel
theorem rL_latest_16 : am_rw mL_latest 16 = some (.ireturn, 1, 0, 0) := by decide +kernel
theorem rL_pin_0 : am_rw mL_pin 0 = some (.aload_n 3, 1, 0, 0) := by decide +kernel
theorem rL_pin_1 : am_rw mL_pin 1 = some (.iconst 0, 1, 0, 0) := by decide +kernel
theorem rL_pin_2 : am_rw mL_pin 2 = some (.aload_n 0, 1, 0, 0) := by decide +kernel
theorem rL_pin_3 : am_rw mL_pin 3 = some (.iload_n 1, 1, 0, 0) := by decide +kernel
theorem rL_pin_4 : am_rw mL_pin 4 = some (.iload_n 2, 1, 0, 0) := by decide +kernel
theorem rL_pin_5 : am_rw mL_pin 5 = some (.invokevirtual 29, 3, 66, 3) := by decide +kernel
theorem rL_pin_8 : am_rw mL_pin 8 = some (.i2l, 1, 0, 0) := by decide +kernel
theorem rL_pin_9 : am_rw mL_pin 9 = some (.lastore, 1, 0, 0) := by decide +kernel
theorem rL_pin_10 : am_rw mL_pin 10 = some (.goto 7, 3, 17, 0) := by decide +kernel
theorem rL_pin_15 : am_rw mL_pin 15 = some (.iconst 1, 1, 1, 0) := by decide +kernel
theorem rL_pin_16 : am_rw mL_pin 16 = some (.ireturn, 1, 0, 0) := by decide +kernel
theorem rL_pin_17 : am_rw mL_pin 17 = some (.iconst 0, 1, 0, 0) := by decide +kernel
theorem rL_pin_18 : am_rw mL_pin 18 = some (.ireturn, 1, 0, 0) := by decide +kernel
theorem rL_rain_0 : am_rw mL_rain 0 = some (.aload 4, 2, 0, 0) := by decide +kernel
theorem rL_rain_2 : am_rw mL_rain 2 = some (.iconst 0, 1, 0, 0) := by decide +kernel
theorem rL_rain_3 : am_rw mL_rain 3 = some (.aload_n 0, 1, 0, 0) := by decide +kernel
theorem rL_rain_4 : am_rw mL_rain 4 = some (.iload_n 1, 1, 0, 0) := by decide +kernel
theorem rL_rain_5 : am_rw mL_rain 5 = some (.iload_n 2, 1, 0, 0) := by decide +kernel
theorem rL_rain_6 : am_rw mL_rain 6 = some (.iload_n 3, 1, 0, 0) := by decide +kernel
theorem rL_rain_7 : am_rw mL_rain 7 = some (.invokevirtual 33, 3, 67, 4) := by decide +kernel
theorem rL_rain_10 : am_rw mL_rain 10 = some (.i2l, 1, 0, 0) := by decide +kernel
theorem rL_rain_11 : am_rw mL_rain 11 = some (.lastore, 1, 0, 0) := by decide +kernel
theorem rL_rain_12 : am_rw mL_rain 12 = some (.goto 11, 3, 23, 0) := by decide +kernel
theorem rL_rain_17 : am_rw mL_rain 17 = some (.iconst 1, 1, 1, 0) := by decide +kernel
theorem rL_rain_18 : am_rw mL_rain 18 = some (.ireturn, 1, 0, 0) := by decide +kernel
theorem rL_rain_21 : am_rw mL_rain 21 = some (.iconst 2, 1, 2, 0) := by decide +kernel
theorem rL_rain_22 : am_rw mL_rain 22 = some (.ireturn, 1, 0, 0) := by decide +kernel
theorem rL_rain_23 : am_rw mL_rain 23 = some (.iconst 0, 1, 0, 0) := by decide +kernel
theorem rL_rain_24 : am_rw mL_rain 24 = some (.ireturn, 1, 0, 0) := by decide +kernel
theorem rL_out_0 : am_rw mL_out 0 = some (.aload_n 3, 1, 0, 0) := by decide +kernel
theorem rL_out_1 : am_rw mL_out 1 = some (.iconst 0, 1, 0, 0) := by decide +kernel
theorem rL_out_2 : am_rw mL_out 2 = some (.aload_n 0, 1, 0, 0) := by decide +kernel
theorem rL_out_3 : am_rw mL_out 3 = some (.iload_n 1, 1, 0, 0) := by decide +kernel
theorem rL_out_4 : am_rw mL_out 4 = some (.iload_n 2, 1, 0, 0) := by decide +kernel
theorem rL_out_5 : am_rw mL_out 5 = some (.invokevirtual 37, 3, 68, 3) := by decide +kernel
theorem rL_out_8 : am_rw mL_out 8 = some (.i2l, 1, 0, 0) := by decide +kernel
theorem rL_out_9 : am_rw mL_out 9 = some (.lastore, 1, 0, 0) := by decide +kernel
theorem rL_out_10 : am_rw mL_out 10 = some (.goto 11, 3, 21, 0) := by decide +kernel
theorem rL_out_15 : am_rw mL_out 15 = some (.iconst 1, 1, 1, 0) := by decide +kernel
theorem rL_out_16 : am_rw mL_out 16 = some (.ireturn, 1, 0, 0) := by decide +kernel
theorem rL_out_19 : am_rw mL_out 19 = some (.iconst 2, 1, 2, 0) := by decide +kernel
theorem rL_out_20 : am_rw mL_out 20 = some (.ireturn, 1, 0, 0) := by decide +kernel
theorem rL_out_21 : am_rw mL_out 21 = some (.iconst 0, 1, 0, 0) := by decide +kernel
theorem rL_out_22 : am_rw mL_out 22 = some (.ireturn, 1, 0, 0) := by decide +kernel
theorem rL_outAnew_0 : am_rw mL_outAnew 0 = some (.aload_n 3, 1, 0, 0) := by decide +kernel
theorem rL_outAnew_1 : am_rw mL_outAnew 1 = some (.iconst 0, 1, 0, 0) := by decide +kernel
theorem rL_outAnew_2 : am_rw mL_outAnew 2 = some (.aload_n 0, 1, 0, 0) := by decide +kernel
theorem rL_outAnew_3 : am_rw mL_outAnew 3 = some (.iload_n 1, 1, 0, 0) := by decide +kernel
theorem rL_outAnew_4 : am_rw mL_outAnew 4 = some (.iload_n 2, 1, 0, 0) := by decide +kernel
theorem rL_outAnew_5 : am_rw mL_outAnew 5 = some (.invokevirtual 40, 3, 69, 3) := by decide +kernel
theorem rL_outAnew_8 : am_rw mL_outAnew 8 = some (.i2l, 1, 0, 0) := by decide +kernel
theorem rL_outAnew_9 : am_rw mL_outAnew 9 = some (.lastore, 1, 0, 0) := by decide +kernel
theorem rL_outAnew_10 : am_rw mL_outAnew 10 = some (.goto 11, 3, 21, 0) := by decide +kernel
theorem rL_outAnew_15 : am_rw mL_outAnew 15 = some (.iconst 1, 1, 1, 0) := by decide +kernel
theorem rL_outAnew_16 : am_rw mL_outAnew 16 = some (.ireturn, 1, 0, 0) := by decide +kernel
theorem rL_outAnew_19 : am_rw mL_outAnew 19 = some (.iconst 2, 1, 2, 0) := by decide +kernel
theorem rL_outAnew_20 : am_rw mL_outAnew 20 = some (.ireturn, 1, 0, 0) := by decide +kernel
theorem rL_outAnew_21 : am_rw mL_outAnew 21 = some (.iconst 0, 1, 0, 0) := by decide +kernel
theorem rL_outAnew_22 : am_rw mL_outAnew 22 = some (.ireturn, 1, 0, 0) := by decide +kernel
theorem rL_run_0 : am_rw mL_run 0 = some (.aload_n 3, 1, 0, 0) := by decide +kernel
theorem rL_run_1 : am_rw mL_run 1 = some (.iconst 0, 1, 0, 0) := by decide +kernel
theorem rL_run_2 : am_rw mL_run 2 = some (.aload_n 0, 1, 0, 0) := by decide +kernel
theorem rL_run_3 : am_rw mL_run 3 = some (.iload_n 1, 1, 0, 0) := by decide +kernel
theorem rL_run_4 : am_rw mL_run 4 = some (.iload_n 2, 1, 0, 0) := by decide +kernel
theorem rL_run_5 : am_rw mL_run 5 = some (.invokevirtual 43, 3, 70, 3) := by decide +kernel
theorem rL_run_8 : am_rw mL_run 8 = some (.i2l, 1, 0, 0) := by decide +kernel
theorem rL_run_9 : am_rw mL_run 9 = some (.lastore, 1, 0, 0) := by decide +kernel
theorem rL_run_10 : am_rw mL_run 10 = some (.goto 15, 3, 25, 0) := by decide +kernel
theorem rL_run_15 : am_rw mL_run 15 = some (.iconst 1, 1, 1, 0) := by decide +kernel
theorem rL_run_16 : am_rw mL_run 16 = some (.ireturn, 1, 0, 0) := by decide +kernel
theorem rL_run_19 : am_rw mL_run 19 = some (.iconst 2, 1, 2, 0) := by decide +kernel
theorem rL_run_20 : am_rw mL_run 20 = some (.ireturn, 1, 0, 0) := by decide +kernel
theorem rL_run_23 : am_rw mL_run 23 = some (.iconst 3, 1, 3, 0) := by decide +kernel
theorem rL_run_24 : am_rw mL_run 24 = some (.ireturn, 1, 0, 0) := by decide +kernel
theorem rL_run_25 : am_rw mL_run 25 = some (.iconst 0, 1, 0, 0) := by decide +kernel
theorem rL_run_26 : am_rw mL_run 26 = some (.ireturn, 1, 0, 0) := by decide +kernel
theorem rL_why_0 : am_rw mL_why 0 = some (.aload_n 2, 1, 0, 0) := by decide +kernel
theorem rL_why_1 : am_rw mL_why 1 = some (.iconst 0, 1, 0, 0) := by decide +kernel
theorem rL_why_2 : am_rw mL_why 2 = some (.aload_n 0, 1, 0, 0) := by decide +kernel
theorem rL_why_3 : am_rw mL_why 3 = some (.iload_n 1, 1, 0, 0) := by decide +kernel
theorem rL_why_4 : am_rw mL_why 4 = some (.invokevirtual 46, 3, 71, 2) := by decide +kernel
theorem rL_why_7 : am_rw mL_why 7 = some (.i2l, 1, 0, 0) := by decide +kernel
theorem rL_why_8 : am_rw mL_why 8 = some (.lastore, 1, 0, 0) := by decide +kernel
theorem rL_why_9 : am_rw mL_why 9 = some (.goto 6, 3, 15, 0) := by decide +kernel
theorem rL_why_13 : am_rw mL_why 13 = some (.iconst 1, 1, 1, 0) := by decide +kernel
theorem rL_why_14 : am_rw mL_why 14 = some (.ireturn, 1, 0, 0) := by decide +kernel
theorem rL_why_15 : am_rw mL_why 15 = some (.iconst 0, 1, 0, 0) := by decide +kernel
theorem rL_why_16 : am_rw mL_why 16 = some (.ireturn, 1, 0, 0) := by decide +kernel
theorem rL_peak_0 : am_rw mL_peak 0 = some (.aload_n 2, 1, 0, 0) := by decide +kernel
theorem rL_peak_1 : am_rw mL_peak 1 = some (.iconst 0, 1, 0, 0) := by decide +kernel
theorem rL_peak_2 : am_rw mL_peak 2 = some (.aload_n 0, 1, 0, 0) := by decide +kernel
theorem rL_peak_3 : am_rw mL_peak 3 = some (.iload_n 1, 1, 0, 0) := by decide +kernel
theorem rL_peak_4 : am_rw mL_peak 4 = some (.invokevirtual 49, 3, 72, 2) := by decide +kernel
theorem rL_peak_7 : am_rw mL_peak 7 = some (.i2l, 1, 0, 0) := by decide +kernel
theorem rL_peak_8 : am_rw mL_peak 8 = some (.lastore, 1, 0, 0) := by decide +kernel
theorem rL_peak_9 : am_rw mL_peak 9 = some (.goto 6, 3, 15, 0) := by decide +kernel
theorem rL_peak_13 : am_rw mL_peak 13 = some (.iconst 1, 1, 1, 0) := by decide +kernel
theorem rL_peak_14 : am_rw mL_peak 14 = some (.ireturn, 1, 0, 0) := by decide +kernel
theorem rL_peak_15 : am_rw mL_peak 15 = some (.iconst 0, 1, 0, 0) := by decide +kernel
theorem rL_peak_16 : am_rw mL_peak 16 = some (.ireturn, 1, 0, 0) := by decide +kernel
theorem rL_peakHour_0 : am_rw mL_peakHour 0 = some (.aload_n 2, 1, 0, 0) := by decide +kernel
theorem rL_peakHour_1 : am_rw mL_peakHour 1 = some (.iconst 0, 1, 0, 0) := by decide +kernel
theorem rL_peakHour_2 : am_rw mL_peakHour 2 = some (.aload_n 0, 1, 0, 0) := by decide +kernel
theorem rL_peakHour_3 : am_rw mL_peakHour 3 = some (.iload_n 1, 1, 0, 0) := by decide +kernel
theorem rL_peakHour_4 : am_rw mL_peakHour 4 = some (.invokevirtual 52, 3, 73, 2) := by decide +kernel
theorem rL_peakHour_7 : am_rw mL_peakHour 7 = some (.i2l, 1, 0, 0) := by decide +kernel
theorem rL_peakHour_8 : am_rw mL_peakHour 8 = some (.lastore, 1, 0, 0) := by decide +kernel
theorem rL_peakHour_9 : am_rw mL_peakHour 9 = some (.goto 6, 3, 15, 0) := by decide +kernel
theorem rL_peakHour_13 : am_rw mL_peakHour 13 = some (.iconst 1, 1, 1, 0) := by decide +kernel
theorem rL_peakHour_14 : am_rw mL_peakHour 14 = some (.ireturn, 1, 0, 0) := by decide +kernel
theorem rL_peakHour_15 : am_rw mL_peakHour 15 = some (.iconst 0, 1, 0, 0) := by decide +kernel
theorem rL_peakHour_16 : am_rw mL_peakHour 16 = some (.ireturn, 1, 0, 0) := by decide +kernel
theorem rL_peakAnew_0 : am_rw mL_peakAnew 0 = some (.aload_n 2, 1, 0, 0) := by decide +kernel
theorem rL_peakAnew_1 : am_rw mL_peakAnew 1 = some (.iconst 0, 1, 0, 0) := by decide +kernel
theorem rL_peakAnew_2 : am_rw mL_peakAnew 2 = some (.aload_n 0, 1, 0, 0) := by decide +kernel
theorem rL_peakAnew_3 : am_rw mL_peakAnew 3 = some (.iload_n 1, 1, 0, 0) := by decide +kernel
theorem rL_peakAnew_4 : am_rw mL_peakAnew 4 = some (.invokevirtual 55, 3, 74, 2) := by decide +kernel
theorem rL_peakAnew_7 : am_rw mL_peakAnew 7 = some (.i2l, 1, 0, 0) := by decide +kernel
theorem rL_peakAnew_8 : am_rw mL_peakAnew 8 = some (.lastore, 1, 0, 0) := by decide +kernel
theorem rL_peakAnew_9 : am_rw mL_peakAnew 9 = some (.goto 6, 3, 15, 0) := by decide +kernel
theorem rL_peakAnew_13 : am_rw mL_peakAnew 13 = some (.iconst 1, 1, 1, 0) := by decide +kernel
theorem rL_peakAnew_14 : am_rw mL_peakAnew 14 = some (.ireturn, 1, 0, 0) := by decide +kernel
theorem rL_peakAnew_15 : am_rw mL_peakAnew 15 = some (.iconst 0, 1, 0, 0) := by decide +kernel
theorem rL_peakAnew_16 : am_rw mL_peakAnew 16 = some (.ireturn, 1, 0, 0) := by decide +kernel
theorem rL_build_0 : am_rw mL_build 0 = some (.aload_n 0, 1, 0, 0) := by decide +kernel
theorem rL_build_1 : am_rw mL_build 1 = some (.iload_n 1, 1, 0, 0) := by decide +kernel
theorem rL_build_2 : am_rw mL_build 2 = some (.iload_n 2, 1, 0, 0) := by decide +kernel
theorem rL_build_3 : am_rw mL_build 3 = some (.iload_n 3, 1, 0, 0) := by decide +kernel
theorem rL_build_4 : am_rw mL_build 4 = some (.invokevirtual 58, 3, 75, 4) := by decide +kernel
theorem rL_build_7 : am_rw mL_build 7 = some (.goto 15, 3, 22, 0) := by decide +kernel
theorem rL_build_12 : am_rw mL_build 12 = some (.iconst 1, 1, 1, 0) := by decide +kernel
theorem rL_build_13 : am_rw mL_build 13 = some (.ireturn, 1, 0, 0) := by decide +kernel
theorem rL_build_16 : am_rw mL_build 16 = some (.iconst 2, 1, 2, 0) := by decide +kernel
theorem rL_build_17 : am_rw mL_build 17 = some (.ireturn, 1, 0, 0) := by decide +kernel
theorem rL_build_20 : am_rw mL_build 20 = some (.iconst 3, 1, 3, 0) := by decide +kernel
theorem rL_build_21 : am_rw mL_build 21 = some (.ireturn, 1, 0, 0) := by decide +kernel
theorem rL_build_22 : am_rw mL_build 22 = some (.iconst 0, 1, 0, 0) := by decide +kernel
theorem rL_build_23 : am_rw mL_build 23 = some (.ireturn, 1, 0, 0) := by decide +kernel
theorem rL_rule_0 : am_rw mL_rule 0 = some (.aload_n 0, 1, 0, 0) := by decide +kernel
theorem rL_rule_1 : am_rw mL_rule 1 = some (.iload_n 1, 1, 0, 0) := by decide +kernel
theorem rL_rule_2 : am_rw mL_rule 2 = some (.invokevirtual 62, 3, 76, 2) := by decide +kernel
theorem rL_rule_5 : am_rw mL_rule 5 = some (.goto 12, 3, 17, 0) := by decide +kernel
theorem rL_rule_9 : am_rw mL_rule 9 = some (.iconst 1, 1, 1, 0) := by decide +kernel
theorem rL_rule_10 : am_rw mL_rule 10 = some (.ireturn, 1, 0, 0) := by decide +kernel
theorem rL_rule_12 : am_rw mL_rule 12 = some (.iconst 2, 1, 2, 0) := by decide +kernel
theorem rL_rule_13 : am_rw mL_rule 13 = some (.ireturn, 1, 0, 0) := by decide +kernel
theorem rL_rule_15 : am_rw mL_rule 15 = some (.iconst 3, 1, 3, 0) := by decide +kernel
theorem rL_rule_16 : am_rw mL_rule 16 = some (.ireturn, 1, 0, 0) := by decide +kernel
theorem rL_rule_17 : am_rw mL_rule 17 = some (.iconst 0, 1, 0, 0) := by decide +kernel
theorem rL_rule_18 : am_rw mL_rule 18 = some (.ireturn, 1, 0, 0) := by decide +kernel
theorem rL_goBy_0 : am_rw mL_goBy 0 = some (.aload_n 0, 1, 0, 0) := by decide +kernel
theorem rL_goBy_1 : am_rw mL_goBy 1 = some (.iload_n 1, 1, 0, 0) := by decide +kernel
theorem rL_goBy_2 : am_rw mL_goBy 2 = some (.iload_n 2, 1, 0, 0) := by decide +kernel
theorem rL_goBy_3 : am_rw mL_goBy 3 = some (.invokevirtual 66, 3, 77, 3) := by decide +kernel
theorem rL_goBy_6 : am_rw mL_goBy 6 = some (.goto 9, 3, 15, 0) := by decide +kernel
theorem rL_goBy_10 : am_rw mL_goBy 10 = some (.iconst 1, 1, 1, 0) := by decide +kernel
theorem rL_goBy_11 : am_rw mL_goBy 11 = some (.ireturn, 1, 0, 0) := by decide +kernel
theorem rL_goBy_13 : am_rw mL_goBy 13 = some (.iconst 2, 1, 2, 0) := by decide +kernel
theorem rL_goBy_14 : am_rw mL_goBy 14 = some (.ireturn, 1, 0, 0) := by decide +kernel
theorem rL_goBy_15 : am_rw mL_goBy 15 = some (.iconst 0, 1, 0, 0) := by decide +kernel
theorem rL_goBy_16 : am_rw mL_goBy 16 = some (.ireturn, 1, 0, 0) := by decide +kernel
theorem rL_level_0 : am_rw mL_level 0 = some (.aload_n 2, 1, 0, 0) := by decide +kernel
theorem rL_level_1 : am_rw mL_level 1 = some (.iconst 0, 1, 0, 0) := by decide +kernel
theorem rL_level_2 : am_rw mL_level 2 = some (.aload_n 0, 1, 0, 0) := by decide +kernel
theorem rL_level_3 : am_rw mL_level 3 = some (.iload_n 1, 1, 0, 0) := by decide +kernel
theorem rL_level_4 : am_rw mL_level 4 = some (.invokevirtual 70, 3, 78, 2) := by decide +kernel
theorem rL_level_7 : am_rw mL_level 7 = some (.i2l, 1, 0, 0) := by decide +kernel
theorem rL_level_8 : am_rw mL_level 8 = some (.lastore, 1, 0, 0) := by decide +kernel
theorem rL_level_9 : am_rw mL_level 9 = some (.goto 6, 3, 15, 0) := by decide +kernel
theorem rL_level_13 : am_rw mL_level 13 = some (.iconst 1, 1, 1, 0) := by decide +kernel
theorem rL_level_14 : am_rw mL_level 14 = some (.ireturn, 1, 0, 0) := by decide +kernel
theorem rL_level_15 : am_rw mL_level 15 = some (.iconst 0, 1, 0, 0) := by decide +kernel
theorem rL_level_16 : am_rw mL_level 16 = some (.ireturn, 1, 0, 0) := by decide +kernel
theorem rL_below_0 : am_rw mL_below 0 = some (.aload_n 3, 1, 0, 0) := by decide +kernel
theorem rL_below_1 : am_rw mL_below 1 = some (.iconst 0, 1, 0, 0) := by decide +kernel
theorem rL_below_2 : am_rw mL_below 2 = some (.aload_n 0, 1, 0, 0) := by decide +kernel
theorem rL_below_3 : am_rw mL_below 3 = some (.iload_n 1, 1, 0, 0) := by decide +kernel
theorem rL_below_4 : am_rw mL_below 4 = some (.iload_n 2, 1, 0, 0) := by decide +kernel
theorem rL_below_5 : am_rw mL_below 5 = some (.invokevirtual 73, 3, 79, 3) := by decide +kernel
theorem rL_below_8 : am_rw mL_below 8 = some (.i2l, 1, 0, 0) := by decide +kernel
theorem rL_below_9 : am_rw mL_below 9 = some (.lastore, 1, 0, 0) := by decide +kernel
theorem rL_below_10 : am_rw mL_below 10 = some (.goto 11, 3, 21, 0) := by decide +kernel
theorem rL_below_15 : am_rw mL_below 15 = some (.iconst 1, 1, 1, 0) := by decide +kernel
theorem rL_below_16 : am_rw mL_below 16 = some (.ireturn, 1, 0, 0) := by decide +kernel
theorem rL_below_19 : am_rw mL_below 19 = some (.iconst 2, 1, 2, 0) := by decide +kernel
theorem rL_below_20 : am_rw mL_below 20 = some (.ireturn, 1, 0, 0) := by decide +kernel
theorem rL_below_21 : am_rw mL_below 21 = some (.iconst 0, 1, 0, 0) := by decide +kernel
theorem rL_below_22 : am_rw mL_below 22 = some (.ireturn, 1, 0, 0) := by decide +kernel
theorem rL_valley_0 : am_rw mL_valley 0 = some (.aload_n 0, 1, 0, 0) := by decide +kernel
theorem rL_valley_1 : am_rw mL_valley 1 = some (.iload_n 1, 1, 0, 0) := by decide +kernel
theorem rL_valley_2 : am_rw mL_valley 2 = some (.iload_n 2, 1, 0, 0) := by decide +kernel
theorem rL_valley_3 : am_rw mL_valley 3 = some (.iload_n 3, 1, 0, 0) := by decide +kernel
theorem rL_valley_4 : am_rw mL_valley 4 = some (.iload 4, 2, 0, 0) := by decide +kernel
theorem rL_valley_6 : am_rw mL_valley 6 = some (.invokevirtual 76, 3, 80, 5) := by decide +kernel
theorem rL_valley_9 : am_rw mL_valley 9 = some (.goto 15, 3, 24, 0) := by decide +kernel
theorem rL_valley_14 : am_rw mL_valley 14 = some (.iconst 1, 1, 1, 0) := by decide +kernel
theorem rL_valley_15 : am_rw mL_valley 15 = some (.ireturn, 1, 0, 0) := by decide +kernel
theorem rL_valley_18 : am_rw mL_valley 18 = some (.iconst 2, 1, 2, 0) := by decide +kernel
theorem rL_valley_19 : am_rw mL_valley 19 = some (.ireturn, 1, 0, 0) := by decide +kernel
theorem rL_valley_22 : am_rw mL_valley 22 = some (.iconst 3, 1, 3, 0) := by decide +kernel
theorem rL_valley_23 : am_rw mL_valley 23 = some (.ireturn, 1, 0, 0) := by decide +kernel
theorem rL_valley_24 : am_rw mL_valley 24 = some (.iconst 0, 1, 0, 0) := by decide +kernel
theorem rL_valley_25 : am_rw mL_valley 25 = some (.ireturn, 1, 0, 0) := by decide +kernel
theorem rL_sound_0 : am_rw mL_sound 0 = some (.aload_n 3, 1, 0, 0) := by decide +kernel
theorem rL_sound_1 : am_rw mL_sound 1 = some (.iconst 0, 1, 0, 0) := by decide +kernel
theorem rL_sound_2 : am_rw mL_sound 2 = some (.aload_n 0, 1, 0, 0) := by decide +kernel
theorem rL_sound_3 : am_rw mL_sound 3 = some (.iload_n 1, 1, 0, 0) := by decide +kernel
theorem rL_sound_4 : am_rw mL_sound 4 = some (.iload_n 2, 1, 0, 0) := by decide +kernel
theorem rL_sound_5 : am_rw mL_sound 5 = some (.invokevirtual 80, 3, 81, 3) := by decide +kernel
theorem rL_sound_8 : am_rw mL_sound 8 = some (.i2l, 1, 0, 0) := by decide +kernel
theorem rL_sound_9 : am_rw mL_sound 9 = some (.lastore, 1, 0, 0) := by decide +kernel
theorem rL_sound_10 : am_rw mL_sound 10 = some (.goto 11, 3, 21, 0) := by decide +kernel
theorem rL_sound_15 : am_rw mL_sound 15 = some (.iconst 1, 1, 1, 0) := by decide +kernel
theorem rL_sound_16 : am_rw mL_sound 16 = some (.ireturn, 1, 0, 0) := by decide +kernel
theorem rL_sound_19 : am_rw mL_sound 19 = some (.iconst 2, 1, 2, 0) := by decide +kernel
theorem rL_sound_20 : am_rw mL_sound 20 = some (.ireturn, 1, 0, 0) := by decide +kernel
theorem rL_sound_21 : am_rw mL_sound 21 = some (.iconst 0, 1, 0, 0) := by decide +kernel
theorem rL_sound_22 : am_rw mL_sound 22 = some (.ireturn, 1, 0, 0) := by decide +kernel
theorem rL_siren_0 : am_rw mL_siren 0 = some (.aload_n 2, 1, 0, 0) := by decide +kernel
theorem rL_siren_1 : am_rw mL_siren 1 = some (.iconst 0, 1, 0, 0) := by decide +kernel
theorem rL_siren_2 : am_rw mL_siren 2 = some (.aload_n 0, 1, 0, 0) := by decide +kernel
theorem rL_siren_3 : am_rw mL_siren 3 = some (.iload_n 1, 1, 0, 0) := by decide +kernel
theorem rL_siren_4 : am_rw mL_siren 4 = some (.invokevirtual 83, 3, 82, 2) := by decide +kernel
theorem rL_siren_7 : am_rw mL_siren 7 = some (.i2l, 1, 0, 0) := by decide +kernel
theorem rL_siren_8 : am_rw mL_siren 8 = some (.lastore, 1, 0, 0) := by decide +kernel
theorem rL_siren_9 : am_rw mL_siren 9 = some (.goto 6, 3, 15, 0) := by decide +kernel
theorem rL_siren_13 : am_rw mL_siren 13 = some (.iconst 1, 1, 1, 0) := by decide +kernel
theorem rL_siren_14 : am_rw mL_siren 14 = some (.ireturn, 1, 0, 0) := by decide +kernel
theorem rL_siren_15 : am_rw mL_siren 15 = some (.iconst 0, 1, 0, 0) := by decide +kernel
theorem rL_siren_16 : am_rw mL_siren 16 = some (.ireturn, 1, 0, 0) := by decide +kernel
theorem rL_walkers_0 : am_rw mL_walkers 0 = some (.aload_n 2, 1, 0, 0) := by decide +kernel
theorem rL_walkers_1 : am_rw mL_walkers 1 = some (.iconst 0, 1, 0, 0) := by decide +kernel
theorem rL_walkers_2 : am_rw mL_walkers 2 = some (.aload_n 0, 1, 0, 0) := by decide +kernel
theorem rL_walkers_3 : am_rw mL_walkers 3 = some (.iload_n 1, 1, 0, 0) := by decide +kernel
theorem rL_walkers_4 : am_rw mL_walkers 4 = some (.invokevirtual 86, 3, 83, 2) := by decide +kernel
theorem rL_walkers_7 : am_rw mL_walkers 7 = some (.i2l, 1, 0, 0) := by decide +kernel
theorem rL_walkers_8 : am_rw mL_walkers 8 = some (.lastore, 1, 0, 0) := by decide +kernel
theorem rL_walkers_9 : am_rw mL_walkers 9 = some (.goto 6, 3, 15, 0) := by decide +kernel
theorem rL_walkers_13 : am_rw mL_walkers 13 = some (.iconst 1, 1, 1, 0) := by decide +kernel
theorem rL_walkers_14 : am_rw mL_walkers 14 = some (.ireturn, 1, 0, 0) := by decide +kernel
theorem rL_walkers_15 : am_rw mL_walkers 15 = some (.iconst 0, 1, 0, 0) := by decide +kernel
theorem rL_walkers_16 : am_rw mL_walkers 16 = some (.ireturn, 1, 0, 0) := by decide +kernel
theorem rL_trust_0 : am_rw mL_trust 0 = some (.aload_n 2, 1, 0, 0) := by decide +kernel
theorem rL_trust_1 : am_rw mL_trust 1 = some (.iconst 0, 1, 0, 0) := by decide +kernel
theorem rL_trust_2 : am_rw mL_trust 2 = some (.aload_n 0, 1, 0, 0) := by decide +kernel
theorem rL_trust_3 : am_rw mL_trust 3 = some (.iload_n 1, 1, 0, 0) := by decide +kernel
theorem rL_trust_4 : am_rw mL_trust 4 = some (.invokevirtual 89, 3, 84, 2) := by decide +kernel
theorem rL_trust_7 : am_rw mL_trust 7 = some (.i2l, 1, 0, 0) := by decide +kernel
theorem rL_trust_8 : am_rw mL_trust 8 = some (.lastore, 1, 0, 0) := by decide +kernel
theorem rL_trust_9 : am_rw mL_trust 9 = some (.goto 6, 3, 15, 0) := by decide +kernel
theorem rL_trust_13 : am_rw mL_trust 13 = some (.iconst 1, 1, 1, 0) := by decide +kernel
theorem rL_trust_14 : am_rw mL_trust 14 = some (.ireturn, 1, 0, 0) := by decide +kernel
theorem rL_trust_15 : am_rw mL_trust 15 = some (.iconst 0, 1, 0, 0) := by decide +kernel
theorem rL_trust_16 : am_rw mL_trust 16 = some (.ireturn, 1, 0, 0) := by decide +kernel
theorem rL_saved_0 : am_rw mL_saved 0 = some (.aload_n 2, 1, 0, 0) := by decide +kernel
theorem rL_saved_1 : am_rw mL_saved 1 = some (.iconst 0, 1, 0, 0) := by decide +kernel
theorem rL_saved_2 : am_rw mL_saved 2 = some (.aload_n 0, 1, 0, 0) := by decide +kernel
theorem rL_saved_3 : am_rw mL_saved 3 = some (.iload_n 1, 1, 0, 0) := by decide +kernel
theorem rL_saved_4 : am_rw mL_saved 4 = some (.invokevirtual 92, 3, 85, 2) := by decide +kernel
theorem rL_saved_7 : am_rw mL_saved 7 = some (.i2l, 1, 0, 0) := by decide +kernel
theorem rL_saved_8 : am_rw mL_saved 8 = some (.lastore, 1, 0, 0) := by decide +kernel
theorem rL_saved_9 : am_rw mL_saved 9 = some (.goto 6, 3, 15, 0) := by decide +kernel
theorem rL_saved_13 : am_rw mL_saved 13 = some (.iconst 1, 1, 1, 0) := by decide +kernel
theorem rL_saved_14 : am_rw mL_saved 14 = some (.ireturn, 1, 0, 0) := by decide +kernel
theorem rL_saved_15 : am_rw mL_saved 15 = some (.iconst 0, 1, 0, 0) := by decide +kernel
theorem rL_saved_16 : am_rw mL_saved 16 = some (.ireturn, 1, 0, 0) := by decide +kernel
theorem rL_pass_0 : am_rw mL_pass 0 = some (.aload_n 2, 1, 0, 0) := by decide +kernel
theorem rL_pass_1 : am_rw mL_pass 1 = some (.iconst 0, 1, 0, 0) := by decide +kernel
theorem rL_pass_2 : am_rw mL_pass 2 = some (.aload_n 0, 1, 0, 0) := by decide +kernel
theorem rL_pass_3 : am_rw mL_pass 3 = some (.iload_n 1, 1, 0, 0) := by decide +kernel
theorem rL_pass_4 : am_rw mL_pass 4 = some (.invokevirtual 95, 3, 87, 2) := by decide +kernel
theorem rL_pass_7 : am_rw mL_pass 7 = some (.i2l, 1, 0, 0) := by decide +kernel
theorem rL_pass_8 : am_rw mL_pass 8 = some (.lastore, 1, 0, 0) := by decide +kernel
theorem rL_pass_9 : am_rw mL_pass 9 = some (.goto 9, 3, 18, 0) := by decide +kernel
theorem rL_pass_13 : am_rw mL_pass 13 = some (.iconst 1, 1, 1, 0) := by decide +kernel
theorem rL_pass_14 : am_rw mL_pass 14 = some (.ireturn, 1, 0, 0) := by decide +kernel
theorem rL_pass_16 : am_rw mL_pass 16 = some (.iconst 2, 1, 2, 0) := by decide +kernel
theorem rL_pass_17 : am_rw mL_pass 17 = some (.ireturn, 1, 0, 0) := by decide +kernel
theorem rL_pass_18 : am_rw mL_pass 18 = some (.iconst 0, 1, 0, 0) := by decide +kernel
theorem rL_pass_19 : am_rw mL_pass 19 = some (.ireturn, 1, 0, 0) := by decide +kernel
theorem rL_law_0 : am_rw mL_law 0 = some (.new 8, 3, 9, 0) := by decide +kernel
theorem rL_law_3 : am_rw mL_law 3 = some (.dup, 1, 0, 0) := by decide +kernel
theorem rL_law_4 : am_rw mL_law 4 = some (.invokespecial 98, 3, 59, 1) := by decide +kernel
theorem rL_law_7 : am_rw mL_law 7 = some (.astore_n 1, 1, 0, 0) := by decide +kernel
theorem rL_law_8 : am_rw mL_law 8 = some (.new 99, 3, 10, 0) := by decide +kernel
theorem rL_law_11 : am_rw mL_law 11 = some (.dup, 1, 0, 0) := by decide +kernel
theorem rL_law_12 : am_rw mL_law 12 = some (.invokespecial 101, 3, 100, 1) := by decide +kernel
theorem rL_law_15 : am_rw mL_law 15 = some (.astore_n 2, 1, 0, 0) := by decide +kernel
theorem rL_law_16 : am_rw mL_law 16 = some (.iconst 1, 1, 1, 0) := by decide +kernel
theorem rL_law_17 : am_rw mL_law 17 = some (.newarray .long, 2, 21, 0) := by decide +kernel
theorem rL_law_19 : am_rw mL_law 19 = some (.astore_n 3, 1, 0, 0) := by decide +kernel
theorem rL_law_20 : am_rw mL_law 20 = some (.iconst 0, 1, 0, 0) := by decide +kernel
theorem rL_law_21 : am_rw mL_law 21 = some (.istore 4, 2, 0, 0) := by decide +kernel
theorem rL_law_23 : am_rw mL_law 23 = some (.iload 4, 2, 0, 0) := by decide +kernel
theorem rL_law_25 : am_rw mL_law 25 = some (.aload_n 0, 1, 0, 0) := by decide +kernel
theorem rL_law_26 : am_rw mL_law 26 = some (.arraylength, 1, 1, 0) := by decide +kernel
theorem rL_law_27 : am_rw mL_law 27 = some (.iconst 5, 1, 5, 0) := by decide +kernel
theorem rL_law_28 : am_rw mL_law 28 = some (.isub, 1, 0, 0) := by decide +kernel
theorem rL_law_29 : am_rw mL_law 29 = some (.if_icmp .gt 1698, 3, 1727, 0) := by decide +kernel
theorem rL_law_32 : am_rw mL_law 32 = some (.aload_n 0, 1, 0, 0) := by decide +kernel
theorem rL_law_33 : am_rw mL_law 33 = some (.iload 4, 2, 0, 0) := by decide +kernel
theorem rL_law_35 : am_rw mL_law 35 = some (.iaload, 1, 1, 0) := by decide +kernel
theorem rL_law_36 : am_rw mL_law 36 = some (.bipush 31, 2, 31, 0) := by decide +kernel
theorem rL_law_38 : am_rw mL_law 38 = some (.iand, 1, 0, 0) := by decide +kernel
theorem rL_law_39 : am_rw mL_law 39 = some (.tableswitch 1682 0 27 #[125, 183, 196, 237, 293, 349, 405, 473, 553, 621, 689, 757, 813, 869, 925, 981, 1041, 1077, 1125, 1181, 1249, 1321, 1389, 1445, 1501, 1557, 1613, 1626], 125, 0, 0) := by decide +kernel
theorem rL_law_164 : am_rw mL_law 164 = some (.aload_n 1, 1, 0, 0) := by decide +kernel
theorem rL_law_165 : am_rw mL_law 165 = some (.aload_n 0, 1, 0, 0) := by decide +kernel
theorem rL_law_166 : am_rw mL_law 166 = some (.iload 4, 2, 0, 0) := by decide +kernel
theorem rL_law_168 : am_rw mL_law 168 = some (.iconst 1, 1, 1, 0) := by decide +kernel
theorem rL_law_169 : am_rw mL_law 169 = some (.iadd, 1, 0, 0) := by decide +kernel
theorem rL_law_170 : am_rw mL_law 170 = some (.iaload, 1, 1, 0) := by decide +kernel
theorem rL_law_171 : am_rw mL_law 171 = some (.i2c, 1, 0, 0) := by decide +kernel
theorem rL_law_172 : am_rw mL_law 172 = some (.aload_n 3, 1, 0, 0) := by decide +kernel
theorem rL_law_173 : am_rw mL_law 173 = some (.invokestatic 102, 3, 189, 3) := by decide +kernel
theorem rL_law_176 : am_rw mL_law 176 = some (.istore 5, 2, 0, 0) := by decide +kernel
theorem rL_law_178 : am_rw mL_law 178 = some (.aload_n 2, 1, 0, 0) := by decide +kernel
theorem rL_law_179 : am_rw mL_law 179 = some (.aload_n 0, 1, 0, 0) := by decide +kernel
theorem rL_law_180 : am_rw mL_law 180 = some (.iload 4, 2, 0, 0) := by decide +kernel
theorem rL_law_182 : am_rw mL_law 182 = some (.iconst 1, 1, 1, 0) := by decide +kernel
theorem rL_law_183 : am_rw mL_law 183 = some (.iadd, 1, 0, 0) := by decide +kernel
theorem rL_law_184 : am_rw mL_law 184 = some (.iaload, 1, 1, 0) := by decide +kernel
theorem rL_law_185 : am_rw mL_law 185 = some (.i2c, 1, 0, 0) := by decide +kernel
theorem rL_law_186 : am_rw mL_law 186 = some (.invokevirtual 107, 3, 113, 2) := by decide +kernel
theorem rL_law_189 : am_rw mL_law 189 = some (.istore 6, 2, 0, 0) := by decide +kernel
theorem rL_law_191 : am_rw mL_law 191 = some (.aload_n 2, 1, 0, 0) := by decide +kernel
theorem rL_law_192 : am_rw mL_law 192 = some (.invokevirtual 108, 3, 101, 1) := by decide +kernel
theorem rL_law_195 : am_rw mL_law 195 = some (.iload 5, 2, 0, 0) := by decide +kernel
theorem rL_law_197 : am_rw mL_law 197 = some (.if_icmp .eq 5, 3, 202, 0) := by decide +kernel
theorem rL_law_200 : am_rw mL_law 200 = some (.iconst 0, 1, 0, 0) := by decide +kernel
theorem rL_law_201 : am_rw mL_law 201 = some (.ireturn, 1, 0, 0) := by decide +kernel
theorem rL_law_202 : am_rw mL_law 202 = some (.iload 5, 2, 0, 0) := by decide +kernel
theorem rL_law_204 : am_rw mL_law 204 = some (.ifCond .ne 15, 3, 219, 0) := by decide +kernel
theorem rL_law_207 : am_rw mL_law 207 = some (.aload_n 3, 1, 0, 0) := by decide +kernel
theorem rL_law_208 : am_rw mL_law 208 = some (.iconst 0, 1, 0, 0) := by decide +kernel
theorem rL_law_209 : am_rw mL_law 209 = some (.laload, 1, 0, 0) := by decide +kernel
theorem rL_law_210 : am_rw mL_law 210 = some (.iload 6, 2, 0, 0) := by decide +kernel
theorem rL_law_212 : am_rw mL_law 212 = some (.i2l, 1, 0, 0) := by decide +kernel
theorem rL_law_213 : am_rw mL_law 213 = some (.lcmp, 1, 0, 0) := by decide +kernel
theorem rL_law_214 : am_rw mL_law 214 = some (.ifCond .eq 5, 3, 219, 0) := by decide +kernel
theorem rL_law_217 : am_rw mL_law 217 = some (.iconst 0, 1, 0, 0) := by decide +kernel
theorem rL_law_218 : am_rw mL_law 218 = some (.ireturn, 1, 0, 0) := by decide +kernel
theorem rL_law_219 : am_rw mL_law 219 = some (.goto 1502, 3, 1721, 0) := by decide +kernel
theorem rL_law_222 : am_rw mL_law 222 = some (.aload_n 1, 1, 0, 0) := by decide +kernel
theorem rL_law_223 : am_rw mL_law 223 = some (.invokevirtual 112, 3, 61, 1) := by decide +kernel
theorem rL_law_226 : am_rw mL_law 226 = some (.aload_n 2, 1, 0, 0) := by decide +kernel
theorem rL_law_227 : am_rw mL_law 227 = some (.invokevirtual 115, 3, 114, 1) := by decide +kernel
theorem rL_law_230 : am_rw mL_law 230 = some (.if_icmp .eq 1491, 3, 1721, 0) := by decide +kernel
theorem rL_law_233 : am_rw mL_law 233 = some (.iconst 0, 1, 0, 0) := by decide +kernel
theorem rL_law_234 : am_rw mL_law 234 = some (.ireturn, 1, 0, 0) := by decide +kernel
theorem rL_law_235 : am_rw mL_law 235 = some (.aload_n 1, 1, 0, 0) := by decide +kernel
theorem rL_law_236 : am_rw mL_law 236 = some (.aload_n 0, 1, 0, 0) := by decide +kernel
theorem rL_law_237 : am_rw mL_law 237 = some (.iload 4, 2, 0, 0) := by decide +kernel
theorem rL_law_239 : am_rw mL_law 239 = some (.iconst 1, 1, 1, 0) := by decide +kernel
theorem rL_law_240 : am_rw mL_law 240 = some (.iadd, 1, 0, 0) := by decide +kernel
theorem rL_law_241 : am_rw mL_law 241 = some (.iaload, 1, 1, 0) := by decide +kernel
theorem rL_law_242 : am_rw mL_law 242 = some (.ifCond .eq 7, 3, 249, 0) := by decide +kernel
theorem rL_law_245 : am_rw mL_law 245 = some (.iconst 1, 1, 1, 0) := by decide +kernel
theorem rL_law_246 : am_rw mL_law 246 = some (.goto 4, 3, 250, 0) := by decide +kernel
theorem rL_law_249 : am_rw mL_law 249 = some (.iconst 0, 1, 0, 0) := by decide +kernel
theorem rL_law_250 : am_rw mL_law 250 = some (.invokevirtual 116, 3, 62, 2) := by decide +kernel
theorem rL_law_253 : am_rw mL_law 253 = some (.aload_n 2, 1, 0, 0) := by decide +kernel
theorem rL_law_254 : am_rw mL_law 254 = some (.aload_n 0, 1, 0, 0) := by decide +kernel
theorem rL_law_255 : am_rw mL_law 255 = some (.iload 4, 2, 0, 0) := by decide +kernel
theorem rL_law_257 : am_rw mL_law 257 = some (.iconst 1, 1, 1, 0) := by decide +kernel
theorem rL_law_258 : am_rw mL_law 258 = some (.iadd, 1, 0, 0) := by decide +kernel
theorem rL_law_259 : am_rw mL_law 259 = some (.iaload, 1, 1, 0) := by decide +kernel
theorem rL_law_260 : am_rw mL_law 260 = some (.ifCond .eq 7, 3, 267, 0) := by decide +kernel
theorem rL_law_263 : am_rw mL_law 263 = some (.iconst 1, 1, 1, 0) := by decide +kernel
theorem rL_law_264 : am_rw mL_law 264 = some (.goto 4, 3, 268, 0) := by decide +kernel
theorem rL_law_267 : am_rw mL_law 267 = some (.iconst 0, 1, 0, 0) := by decide +kernel
theorem rL_law_268 : am_rw mL_law 268 = some (.invokevirtual 120, 3, 117, 2) := by decide +kernel
theorem rL_law_271 : am_rw mL_law 271 = some (.if_icmp .eq 1450, 3, 1721, 0) := by decide +kernel
theorem rL_law_274 : am_rw mL_law 274 = some (.iconst 0, 1, 0, 0) := by decide +kernel
theorem rL_law_275 : am_rw mL_law 275 = some (.ireturn, 1, 0, 0) := by decide +kernel
theorem rL_law_276 : am_rw mL_law 276 = some (.aload_n 1, 1, 0, 0) := by decide +kernel
theorem rL_law_277 : am_rw mL_law 277 = some (.aload_n 0, 1, 0, 0) := by decide +kernel
theorem rL_law_278 : am_rw mL_law 278 = some (.iload 4, 2, 0, 0) := by decide +kernel
theorem rL_law_280 : am_rw mL_law 280 = some (.iconst 1, 1, 1, 0) := by decide +kernel
theorem rL_law_281 : am_rw mL_law 281 = some (.iadd, 1, 0, 0) := by decide +kernel
theorem rL_law_282 : am_rw mL_law 282 = some (.iaload, 1, 1, 0) := by decide +kernel
theorem rL_law_283 : am_rw mL_law 283 = some (.aload_n 3, 1, 0, 0) := by decide +kernel
theorem rL_law_284 : am_rw mL_law 284 = some (.invokestatic 121, 3, 190, 3) := by decide +kernel
theorem rL_law_287 : am_rw mL_law 287 = some (.istore 5, 2, 0, 0) := by decide +kernel
theorem rL_law_289 : am_rw mL_law 289 = some (.aload_n 2, 1, 0, 0) := by decide +kernel
theorem rL_law_290 : am_rw mL_law 290 = some (.aload_n 0, 1, 0, 0) := by decide +kernel
theorem rL_law_291 : am_rw mL_law 291 = some (.iload 4, 2, 0, 0) := by decide +kernel
theorem rL_law_293 : am_rw mL_law 293 = some (.iconst 1, 1, 1, 0) := by decide +kernel
theorem rL_law_294 : am_rw mL_law 294 = some (.iadd, 1, 0, 0) := by decide +kernel
theorem rL_law_295 : am_rw mL_law 295 = some (.iaload, 1, 1, 0) := by decide +kernel
theorem rL_law_296 : am_rw mL_law 296 = some (.invokevirtual 124, 3, 138, 2) := by decide +kernel
theorem rL_law_299 : am_rw mL_law 299 = some (.istore 6, 2, 0, 0) := by decide +kernel
theorem rL_law_301 : am_rw mL_law 301 = some (.aload_n 2, 1, 0, 0) := by decide +kernel
theorem rL_law_302 : am_rw mL_law 302 = some (.invokevirtual 108, 3, 101, 1) := by decide +kernel
theorem rL_law_305 : am_rw mL_law 305 = some (.iload 5, 2, 0, 0) := by decide +kernel
theorem rL_law_307 : am_rw mL_law 307 = some (.if_icmp .eq 5, 3, 312, 0) := by decide +kernel
theorem rL_law_310 : am_rw mL_law 310 = some (.iconst 0, 1, 0, 0) := by decide +kernel
theorem rL_law_311 : am_rw mL_law 311 = some (.ireturn, 1, 0, 0) := by decide +kernel
theorem rL_law_312 : am_rw mL_law 312 = some (.iload 5, 2, 0, 0) := by decide +kernel
theorem rL_law_314 : am_rw mL_law 314 = some (.ifCond .ne 15, 3, 329, 0) := by decide +kernel
theorem rL_law_317 : am_rw mL_law 317 = some (.aload_n 3, 1, 0, 0) := by decide +kernel
theorem rL_law_318 : am_rw mL_law 318 = some (.iconst 0, 1, 0, 0) := by decide +kernel
theorem rL_law_319 : am_rw mL_law 319 = some (.laload, 1, 0, 0) := by decide +kernel
theorem rL_law_320 : am_rw mL_law 320 = some (.iload 6, 2, 0, 0) := by decide +kernel
theorem rL_law_322 : am_rw mL_law 322 = some (.i2l, 1, 0, 0) := by decide +kernel
theorem rL_law_323 : am_rw mL_law 323 = some (.lcmp, 1, 0, 0) := by decide +kernel
theorem rL_law_324 : am_rw mL_law 324 = some (.ifCond .eq 5, 3, 329, 0) := by decide +kernel
theorem rL_law_327 : am_rw mL_law 327 = some (.iconst 0, 1, 0, 0) := by decide +kernel
theorem rL_law_328 : am_rw mL_law 328 = some (.ireturn, 1, 0, 0) := by decide +kernel
theorem rL_law_329 : am_rw mL_law 329 = some (.goto 1392, 3, 1721, 0) := by decide +kernel
theorem rL_law_332 : am_rw mL_law 332 = some (.aload_n 1, 1, 0, 0) := by decide +kernel
theorem rL_law_333 : am_rw mL_law 333 = some (.aload_n 0, 1, 0, 0) := by decide +kernel
theorem rL_law_334 : am_rw mL_law 334 = some (.iload 4, 2, 0, 0) := by decide +kernel
theorem rL_law_336 : am_rw mL_law 336 = some (.iconst 1, 1, 1, 0) := by decide +kernel
theorem rL_law_337 : am_rw mL_law 337 = some (.iadd, 1, 0, 0) := by decide +kernel
theorem rL_law_338 : am_rw mL_law 338 = some (.iaload, 1, 1, 0) := by decide +kernel
theorem rL_law_339 : am_rw mL_law 339 = some (.aload_n 3, 1, 0, 0) := by decide +kernel
theorem rL_law_340 : am_rw mL_law 340 = some (.invokestatic 125, 3, 191, 3) := by decide +kernel
theorem rL_law_343 : am_rw mL_law 343 = some (.istore 5, 2, 0, 0) := by decide +kernel
theorem rL_law_345 : am_rw mL_law 345 = some (.aload_n 2, 1, 0, 0) := by decide +kernel
theorem rL_law_346 : am_rw mL_law 346 = some (.aload_n 0, 1, 0, 0) := by decide +kernel
theorem rL_law_347 : am_rw mL_law 347 = some (.iload 4, 2, 0, 0) := by decide +kernel
theorem rL_law_349 : am_rw mL_law 349 = some (.iconst 1, 1, 1, 0) := by decide +kernel
theorem rL_law_350 : am_rw mL_law 350 = some (.iadd, 1, 0, 0) := by decide +kernel
theorem rL_law_351 : am_rw mL_law 351 = some (.iaload, 1, 1, 0) := by decide +kernel
theorem rL_law_352 : am_rw mL_law 352 = some (.invokevirtual 127, 3, 139, 2) := by decide +kernel
theorem rL_law_355 : am_rw mL_law 355 = some (.istore 6, 2, 0, 0) := by decide +kernel
theorem rL_law_357 : am_rw mL_law 357 = some (.aload_n 2, 1, 0, 0) := by decide +kernel
theorem rL_law_358 : am_rw mL_law 358 = some (.invokevirtual 108, 3, 101, 1) := by decide +kernel
theorem rL_law_361 : am_rw mL_law 361 = some (.iload 5, 2, 0, 0) := by decide +kernel
theorem rL_law_363 : am_rw mL_law 363 = some (.if_icmp .eq 5, 3, 368, 0) := by decide +kernel
theorem rL_law_366 : am_rw mL_law 366 = some (.iconst 0, 1, 0, 0) := by decide +kernel
theorem rL_law_367 : am_rw mL_law 367 = some (.ireturn, 1, 0, 0) := by decide +kernel
theorem rL_law_368 : am_rw mL_law 368 = some (.iload 5, 2, 0, 0) := by decide +kernel
theorem rL_law_370 : am_rw mL_law 370 = some (.ifCond .ne 15, 3, 385, 0) := by decide +kernel
theorem rL_law_373 : am_rw mL_law 373 = some (.aload_n 3, 1, 0, 0) := by decide +kernel
theorem rL_law_374 : am_rw mL_law 374 = some (.iconst 0, 1, 0, 0) := by decide +kernel
theorem rL_law_375 : am_rw mL_law 375 = some (.laload, 1, 0, 0) := by decide +kernel
theorem rL_law_376 : am_rw mL_law 376 = some (.iload 6, 2, 0, 0) := by decide +kernel
theorem rL_law_378 : am_rw mL_law 378 = some (.i2l, 1, 0, 0) := by decide +kernel
theorem rL_law_379 : am_rw mL_law 379 = some (.lcmp, 1, 0, 0) := by decide +kernel
theorem rL_law_380 : am_rw mL_law 380 = some (.ifCond .eq 5, 3, 385, 0) := by decide +kernel
theorem rL_law_383 : am_rw mL_law 383 = some (.iconst 0, 1, 0, 0) := by decide +kernel
theorem rL_law_384 : am_rw mL_law 384 = some (.ireturn, 1, 0, 0) := by decide +kernel
theorem rL_law_385 : am_rw mL_law 385 = some (.goto 1336, 3, 1721, 0) := by decide +kernel
theorem rL_law_388 : am_rw mL_law 388 = some (.aload_n 1, 1, 0, 0) := by decide +kernel
theorem rL_law_389 : am_rw mL_law 389 = some (.aload_n 0, 1, 0, 0) := by decide +kernel
theorem rL_law_390 : am_rw mL_law 390 = some (.iload 4, 2, 0, 0) := by decide +kernel
theorem rL_law_392 : am_rw mL_law 392 = some (.iconst 1, 1, 1, 0) := by decide +kernel
theorem rL_law_393 : am_rw mL_law 393 = some (.iadd, 1, 0, 0) := by decide +kernel
theorem rL_law_394 : am_rw mL_law 394 = some (.iaload, 1, 1, 0) := by decide +kernel
theorem rL_law_395 : am_rw mL_law 395 = some (.aload_n 3, 1, 0, 0) := by decide +kernel
theorem rL_law_396 : am_rw mL_law 396 = some (.invokestatic 128, 3, 192, 3) := by decide +kernel
theorem rL_law_399 : am_rw mL_law 399 = some (.istore 5, 2, 0, 0) := by decide +kernel
theorem rL_law_401 : am_rw mL_law 401 = some (.aload_n 2, 1, 0, 0) := by decide +kernel
theorem rL_law_402 : am_rw mL_law 402 = some (.aload_n 0, 1, 0, 0) := by decide +kernel
theorem rL_law_403 : am_rw mL_law 403 = some (.iload 4, 2, 0, 0) := by decide +kernel
theorem rL_law_405 : am_rw mL_law 405 = some (.iconst 1, 1, 1, 0) := by decide +kernel
theorem rL_law_406 : am_rw mL_law 406 = some (.iadd, 1, 0, 0) := by decide +kernel
theorem rL_law_407 : am_rw mL_law 407 = some (.iaload, 1, 1, 0) := by decide +kernel
theorem rL_law_408 : am_rw mL_law 408 = some (.invokevirtual 130, 3, 140, 2) := by decide +kernel
theorem rL_law_411 : am_rw mL_law 411 = some (.istore 6, 2, 0, 0) := by decide +kernel
theorem rL_law_413 : am_rw mL_law 413 = some (.aload_n 2, 1, 0, 0) := by decide +kernel
theorem rL_law_414 : am_rw mL_law 414 = some (.invokevirtual 108, 3, 101, 1) := by decide +kernel
theorem rL_law_417 : am_rw mL_law 417 = some (.iload 5, 2, 0, 0) := by decide +kernel
theorem rL_law_419 : am_rw mL_law 419 = some (.if_icmp .eq 5, 3, 424, 0) := by decide +kernel
theorem rL_law_422 : am_rw mL_law 422 = some (.iconst 0, 1, 0, 0) := by decide +kernel
theorem rL_law_423 : am_rw mL_law 423 = some (.ireturn, 1, 0, 0) := by decide +kernel
theorem rL_law_424 : am_rw mL_law 424 = some (.iload 5, 2, 0, 0) := by decide +kernel
theorem rL_law_426 : am_rw mL_law 426 = some (.ifCond .ne 15, 3, 441, 0) := by decide +kernel
theorem rL_law_429 : am_rw mL_law 429 = some (.aload_n 3, 1, 0, 0) := by decide +kernel
theorem rL_law_430 : am_rw mL_law 430 = some (.iconst 0, 1, 0, 0) := by decide +kernel
theorem rL_law_431 : am_rw mL_law 431 = some (.laload, 1, 0, 0) := by decide +kernel
theorem rL_law_432 : am_rw mL_law 432 = some (.iload 6, 2, 0, 0) := by decide +kernel
theorem rL_law_434 : am_rw mL_law 434 = some (.i2l, 1, 0, 0) := by decide +kernel
theorem rL_law_435 : am_rw mL_law 435 = some (.lcmp, 1, 0, 0) := by decide +kernel
theorem rL_law_436 : am_rw mL_law 436 = some (.ifCond .eq 5, 3, 441, 0) := by decide +kernel
theorem rL_law_439 : am_rw mL_law 439 = some (.iconst 0, 1, 0, 0) := by decide +kernel
theorem rL_law_440 : am_rw mL_law 440 = some (.ireturn, 1, 0, 0) := by decide +kernel
theorem rL_law_441 : am_rw mL_law 441 = some (.goto 1280, 3, 1721, 0) := by decide +kernel
theorem rL_law_444 : am_rw mL_law 444 = some (.aload_n 1, 1, 0, 0) := by decide +kernel
theorem rL_law_445 : am_rw mL_law 445 = some (.aload_n 0, 1, 0, 0) := by decide +kernel
theorem rL_law_446 : am_rw mL_law 446 = some (.iload 4, 2, 0, 0) := by decide +kernel
theorem rL_law_448 : am_rw mL_law 448 = some (.iconst 1, 1, 1, 0) := by decide +kernel
theorem rL_law_449 : am_rw mL_law 449 = some (.iadd, 1, 0, 0) := by decide +kernel
theorem rL_law_450 : am_rw mL_law 450 = some (.iaload, 1, 1, 0) := by decide +kernel
theorem rL_law_451 : am_rw mL_law 451 = some (.aload_n 0, 1, 0, 0) := by decide +kernel
theorem rL_law_452 : am_rw mL_law 452 = some (.iload 4, 2, 0, 0) := by decide +kernel
theorem rL_law_454 : am_rw mL_law 454 = some (.iconst 2, 1, 2, 0) := by decide +kernel
theorem rL_law_455 : am_rw mL_law 455 = some (.iadd, 1, 0, 0) := by decide +kernel
theorem rL_law_456 : am_rw mL_law 456 = some (.iaload, 1, 1, 0) := by decide +kernel
theorem rL_law_457 : am_rw mL_law 457 = some (.aload_n 3, 1, 0, 0) := by decide +kernel
theorem rL_law_458 : am_rw mL_law 458 = some (.invokestatic 131, 3, 193, 4) := by decide +kernel
theorem rL_law_461 : am_rw mL_law 461 = some (.istore 5, 2, 0, 0) := by decide +kernel
theorem rL_law_463 : am_rw mL_law 463 = some (.aload_n 2, 1, 0, 0) := by decide +kernel
theorem rL_law_464 : am_rw mL_law 464 = some (.aload_n 0, 1, 0, 0) := by decide +kernel
theorem rL_law_465 : am_rw mL_law 465 = some (.iload 4, 2, 0, 0) := by decide +kernel
theorem rL_law_467 : am_rw mL_law 467 = some (.iconst 1, 1, 1, 0) := by decide +kernel
theorem rL_law_468 : am_rw mL_law 468 = some (.iadd, 1, 0, 0) := by decide +kernel
theorem rL_law_469 : am_rw mL_law 469 = some (.iaload, 1, 1, 0) := by decide +kernel
theorem rL_law_470 : am_rw mL_law 470 = some (.aload_n 0, 1, 0, 0) := by decide +kernel
theorem rL_law_471 : am_rw mL_law 471 = some (.iload 4, 2, 0, 0) := by decide +kernel
theorem rL_law_473 : am_rw mL_law 473 = some (.iconst 2, 1, 2, 0) := by decide +kernel
theorem rL_law_474 : am_rw mL_law 474 = some (.iadd, 1, 0, 0) := by decide +kernel
theorem rL_law_475 : am_rw mL_law 475 = some (.iaload, 1, 1, 0) := by decide +kernel
theorem rL_law_476 : am_rw mL_law 476 = some (.invokevirtual 134, 3, 141, 3) := by decide +kernel
theorem rL_law_479 : am_rw mL_law 479 = some (.istore 6, 2, 0, 0) := by decide +kernel
theorem rL_law_481 : am_rw mL_law 481 = some (.aload_n 2, 1, 0, 0) := by decide +kernel
theorem rL_law_482 : am_rw mL_law 482 = some (.invokevirtual 108, 3, 101, 1) := by decide +kernel
theorem rL_law_485 : am_rw mL_law 485 = some (.iload 5, 2, 0, 0) := by decide +kernel
theorem rL_law_487 : am_rw mL_law 487 = some (.if_icmp .eq 5, 3, 492, 0) := by decide +kernel
theorem rL_law_490 : am_rw mL_law 490 = some (.iconst 0, 1, 0, 0) := by decide +kernel
theorem rL_law_491 : am_rw mL_law 491 = some (.ireturn, 1, 0, 0) := by decide +kernel
theorem rL_law_492 : am_rw mL_law 492 = some (.iload 5, 2, 0, 0) := by decide +kernel
theorem rL_law_494 : am_rw mL_law 494 = some (.ifCond .ne 15, 3, 509, 0) := by decide +kernel
theorem rL_law_497 : am_rw mL_law 497 = some (.aload_n 3, 1, 0, 0) := by decide +kernel
theorem rL_law_498 : am_rw mL_law 498 = some (.iconst 0, 1, 0, 0) := by decide +kernel
theorem rL_law_499 : am_rw mL_law 499 = some (.laload, 1, 0, 0) := by decide +kernel
theorem rL_law_500 : am_rw mL_law 500 = some (.iload 6, 2, 0, 0) := by decide +kernel
theorem rL_law_502 : am_rw mL_law 502 = some (.i2l, 1, 0, 0) := by decide +kernel
theorem rL_law_503 : am_rw mL_law 503 = some (.lcmp, 1, 0, 0) := by decide +kernel
theorem rL_law_504 : am_rw mL_law 504 = some (.ifCond .eq 5, 3, 509, 0) := by decide +kernel
theorem rL_law_507 : am_rw mL_law 507 = some (.iconst 0, 1, 0, 0) := by decide +kernel
theorem rL_law_508 : am_rw mL_law 508 = some (.ireturn, 1, 0, 0) := by decide +kernel
theorem rL_law_509 : am_rw mL_law 509 = some (.goto 1212, 3, 1721, 0) := by decide +kernel
theorem rL_law_512 : am_rw mL_law 512 = some (.aload_n 1, 1, 0, 0) := by decide +kernel
theorem rL_law_513 : am_rw mL_law 513 = some (.aload_n 0, 1, 0, 0) := by decide +kernel
theorem rL_law_514 : am_rw mL_law 514 = some (.iload 4, 2, 0, 0) := by decide +kernel
theorem rL_law_516 : am_rw mL_law 516 = some (.iconst 1, 1, 1, 0) := by decide +kernel
theorem rL_law_517 : am_rw mL_law 517 = some (.iadd, 1, 0, 0) := by decide +kernel
theorem rL_law_518 : am_rw mL_law 518 = some (.iaload, 1, 1, 0) := by decide +kernel
theorem rL_law_519 : am_rw mL_law 519 = some (.aload_n 0, 1, 0, 0) := by decide +kernel
theorem rL_law_520 : am_rw mL_law 520 = some (.iload 4, 2, 0, 0) := by decide +kernel
theorem rL_law_522 : am_rw mL_law 522 = some (.iconst 2, 1, 2, 0) := by decide +kernel
theorem rL_law_523 : am_rw mL_law 523 = some (.iadd, 1, 0, 0) := by decide +kernel
theorem rL_law_524 : am_rw mL_law 524 = some (.iaload, 1, 1, 0) := by decide +kernel
theorem rL_law_525 : am_rw mL_law 525 = some (.aload_n 0, 1, 0, 0) := by decide +kernel
theorem rL_law_526 : am_rw mL_law 526 = some (.iload 4, 2, 0, 0) := by decide +kernel
theorem rL_law_528 : am_rw mL_law 528 = some (.iconst 3, 1, 3, 0) := by decide +kernel
theorem rL_law_529 : am_rw mL_law 529 = some (.iadd, 1, 0, 0) := by decide +kernel
theorem rL_law_530 : am_rw mL_law 530 = some (.iaload, 1, 1, 0) := by decide +kernel
theorem rL_law_531 : am_rw mL_law 531 = some (.aload_n 3, 1, 0, 0) := by decide +kernel
theorem rL_law_532 : am_rw mL_law 532 = some (.invokestatic 135, 3, 194, 5) := by decide +kernel
theorem rL_law_535 : am_rw mL_law 535 = some (.istore 5, 2, 0, 0) := by decide +kernel
theorem rL_law_537 : am_rw mL_law 537 = some (.aload_n 2, 1, 0, 0) := by decide +kernel
theorem rL_law_538 : am_rw mL_law 538 = some (.aload_n 0, 1, 0, 0) := by decide +kernel
theorem rL_law_539 : am_rw mL_law 539 = some (.iload 4, 2, 0, 0) := by decide +kernel
theorem rL_law_541 : am_rw mL_law 541 = some (.iconst 1, 1, 1, 0) := by decide +kernel
theorem rL_law_542 : am_rw mL_law 542 = some (.iadd, 1, 0, 0) := by decide +kernel
theorem rL_law_543 : am_rw mL_law 543 = some (.iaload, 1, 1, 0) := by decide +kernel
theorem rL_law_544 : am_rw mL_law 544 = some (.aload_n 0, 1, 0, 0) := by decide +kernel
theorem rL_law_545 : am_rw mL_law 545 = some (.iload 4, 2, 0, 0) := by decide +kernel
theorem rL_law_547 : am_rw mL_law 547 = some (.iconst 2, 1, 2, 0) := by decide +kernel
theorem rL_law_548 : am_rw mL_law 548 = some (.iadd, 1, 0, 0) := by decide +kernel
theorem rL_law_549 : am_rw mL_law 549 = some (.iaload, 1, 1, 0) := by decide +kernel
theorem rL_law_550 : am_rw mL_law 550 = some (.aload_n 0, 1, 0, 0) := by decide +kernel
theorem rL_law_551 : am_rw mL_law 551 = some (.iload 4, 2, 0, 0) := by decide +kernel
theorem rL_law_553 : am_rw mL_law 553 = some (.iconst 3, 1, 3, 0) := by decide +kernel
theorem rL_law_554 : am_rw mL_law 554 = some (.iadd, 1, 0, 0) := by decide +kernel
theorem rL_law_555 : am_rw mL_law 555 = some (.iaload, 1, 1, 0) := by decide +kernel
theorem rL_law_556 : am_rw mL_law 556 = some (.invokevirtual 138, 3, 142, 4) := by decide +kernel
theorem rL_law_559 : am_rw mL_law 559 = some (.istore 6, 2, 0, 0) := by decide +kernel
theorem rL_law_561 : am_rw mL_law 561 = some (.aload_n 2, 1, 0, 0) := by decide +kernel
theorem rL_law_562 : am_rw mL_law 562 = some (.invokevirtual 108, 3, 101, 1) := by decide +kernel
theorem rL_law_565 : am_rw mL_law 565 = some (.iload 5, 2, 0, 0) := by decide +kernel
theorem rL_law_567 : am_rw mL_law 567 = some (.if_icmp .eq 5, 3, 572, 0) := by decide +kernel
theorem rL_law_570 : am_rw mL_law 570 = some (.iconst 0, 1, 0, 0) := by decide +kernel
theorem rL_law_571 : am_rw mL_law 571 = some (.ireturn, 1, 0, 0) := by decide +kernel
theorem rL_law_572 : am_rw mL_law 572 = some (.iload 5, 2, 0, 0) := by decide +kernel
theorem rL_law_574 : am_rw mL_law 574 = some (.ifCond .ne 15, 3, 589, 0) := by decide +kernel
theorem rL_law_577 : am_rw mL_law 577 = some (.aload_n 3, 1, 0, 0) := by decide +kernel
theorem rL_law_578 : am_rw mL_law 578 = some (.iconst 0, 1, 0, 0) := by decide +kernel
theorem rL_law_579 : am_rw mL_law 579 = some (.laload, 1, 0, 0) := by decide +kernel
theorem rL_law_580 : am_rw mL_law 580 = some (.iload 6, 2, 0, 0) := by decide +kernel
theorem rL_law_582 : am_rw mL_law 582 = some (.i2l, 1, 0, 0) := by decide +kernel
theorem rL_law_583 : am_rw mL_law 583 = some (.lcmp, 1, 0, 0) := by decide +kernel
theorem rL_law_584 : am_rw mL_law 584 = some (.ifCond .eq 5, 3, 589, 0) := by decide +kernel
theorem rL_law_587 : am_rw mL_law 587 = some (.iconst 0, 1, 0, 0) := by decide +kernel
theorem rL_law_588 : am_rw mL_law 588 = some (.ireturn, 1, 0, 0) := by decide +kernel
theorem rL_law_589 : am_rw mL_law 589 = some (.goto 1132, 3, 1721, 0) := by decide +kernel
theorem rL_law_592 : am_rw mL_law 592 = some (.aload_n 1, 1, 0, 0) := by decide +kernel
theorem rL_law_593 : am_rw mL_law 593 = some (.aload_n 0, 1, 0, 0) := by decide +kernel
theorem rL_law_594 : am_rw mL_law 594 = some (.iload 4, 2, 0, 0) := by decide +kernel
theorem rL_law_596 : am_rw mL_law 596 = some (.iconst 1, 1, 1, 0) := by decide +kernel
theorem rL_law_597 : am_rw mL_law 597 = some (.iadd, 1, 0, 0) := by decide +kernel
theorem rL_law_598 : am_rw mL_law 598 = some (.iaload, 1, 1, 0) := by decide +kernel
theorem rL_law_599 : am_rw mL_law 599 = some (.aload_n 0, 1, 0, 0) := by decide +kernel
theorem rL_law_600 : am_rw mL_law 600 = some (.iload 4, 2, 0, 0) := by decide +kernel
theorem rL_law_602 : am_rw mL_law 602 = some (.iconst 2, 1, 2, 0) := by decide +kernel
theorem rL_law_603 : am_rw mL_law 603 = some (.iadd, 1, 0, 0) := by decide +kernel
theorem rL_law_604 : am_rw mL_law 604 = some (.iaload, 1, 1, 0) := by decide +kernel
theorem rL_law_605 : am_rw mL_law 605 = some (.aload_n 3, 1, 0, 0) := by decide +kernel
theorem rL_law_606 : am_rw mL_law 606 = some (.invokestatic 139, 3, 195, 4) := by decide +kernel
theorem rL_law_609 : am_rw mL_law 609 = some (.istore 5, 2, 0, 0) := by decide +kernel
theorem rL_law_611 : am_rw mL_law 611 = some (.aload_n 2, 1, 0, 0) := by decide +kernel
theorem rL_law_612 : am_rw mL_law 612 = some (.aload_n 0, 1, 0, 0) := by decide +kernel
theorem rL_law_613 : am_rw mL_law 613 = some (.iload 4, 2, 0, 0) := by decide +kernel
theorem rL_law_615 : am_rw mL_law 615 = some (.iconst 1, 1, 1, 0) := by decide +kernel
theorem rL_law_616 : am_rw mL_law 616 = some (.iadd, 1, 0, 0) := by decide +kernel
theorem rL_law_617 : am_rw mL_law 617 = some (.iaload, 1, 1, 0) := by decide +kernel
theorem rL_law_618 : am_rw mL_law 618 = some (.aload_n 0, 1, 0, 0) := by decide +kernel
theorem rL_law_619 : am_rw mL_law 619 = some (.iload 4, 2, 0, 0) := by decide +kernel
theorem rL_law_621 : am_rw mL_law 621 = some (.iconst 2, 1, 2, 0) := by decide +kernel
theorem rL_law_622 : am_rw mL_law 622 = some (.iadd, 1, 0, 0) := by decide +kernel
theorem rL_law_623 : am_rw mL_law 623 = some (.iaload, 1, 1, 0) := by decide +kernel
theorem rL_law_624 : am_rw mL_law 624 = some (.invokevirtual 141, 3, 147, 3) := by decide +kernel
theorem rL_law_627 : am_rw mL_law 627 = some (.istore 6, 2, 0, 0) := by decide +kernel
theorem rL_law_629 : am_rw mL_law 629 = some (.aload_n 2, 1, 0, 0) := by decide +kernel
theorem rL_law_630 : am_rw mL_law 630 = some (.invokevirtual 108, 3, 101, 1) := by decide +kernel
theorem rL_law_633 : am_rw mL_law 633 = some (.iload 5, 2, 0, 0) := by decide +kernel
theorem rL_law_635 : am_rw mL_law 635 = some (.if_icmp .eq 5, 3, 640, 0) := by decide +kernel
theorem rL_law_638 : am_rw mL_law 638 = some (.iconst 0, 1, 0, 0) := by decide +kernel
theorem rL_law_639 : am_rw mL_law 639 = some (.ireturn, 1, 0, 0) := by decide +kernel
theorem rL_law_640 : am_rw mL_law 640 = some (.iload 5, 2, 0, 0) := by decide +kernel
theorem rL_law_642 : am_rw mL_law 642 = some (.ifCond .ne 15, 3, 657, 0) := by decide +kernel
theorem rL_law_645 : am_rw mL_law 645 = some (.aload_n 3, 1, 0, 0) := by decide +kernel
theorem rL_law_646 : am_rw mL_law 646 = some (.iconst 0, 1, 0, 0) := by decide +kernel
theorem rL_law_647 : am_rw mL_law 647 = some (.laload, 1, 0, 0) := by decide +kernel
theorem rL_law_648 : am_rw mL_law 648 = some (.iload 6, 2, 0, 0) := by decide +kernel
theorem rL_law_650 : am_rw mL_law 650 = some (.i2l, 1, 0, 0) := by decide +kernel
theorem rL_law_651 : am_rw mL_law 651 = some (.lcmp, 1, 0, 0) := by decide +kernel
theorem rL_law_652 : am_rw mL_law 652 = some (.ifCond .eq 5, 3, 657, 0) := by decide +kernel
theorem rL_law_655 : am_rw mL_law 655 = some (.iconst 0, 1, 0, 0) := by decide +kernel
theorem rL_law_656 : am_rw mL_law 656 = some (.ireturn, 1, 0, 0) := by decide +kernel
theorem rL_law_657 : am_rw mL_law 657 = some (.goto 1064, 3, 1721, 0) := by decide +kernel
theorem rL_law_660 : am_rw mL_law 660 = some (.aload_n 1, 1, 0, 0) := by decide +kernel
theorem rL_law_661 : am_rw mL_law 661 = some (.aload_n 0, 1, 0, 0) := by decide +kernel
theorem rL_law_662 : am_rw mL_law 662 = some (.iload 4, 2, 0, 0) := by decide +kernel
theorem rL_law_664 : am_rw mL_law 664 = some (.iconst 1, 1, 1, 0) := by decide +kernel
theorem rL_law_665 : am_rw mL_law 665 = some (.iadd, 1, 0, 0) := by decide +kernel
theorem rL_law_666 : am_rw mL_law 666 = some (.iaload, 1, 1, 0) := by decide +kernel
theorem rL_law_667 : am_rw mL_law 667 = some (.aload_n 0, 1, 0, 0) := by decide +kernel
theorem rL_law_668 : am_rw mL_law 668 = some (.iload 4, 2, 0, 0) := by decide +kernel
theorem rL_law_670 : am_rw mL_law 670 = some (.iconst 2, 1, 2, 0) := by decide +kernel
theorem rL_law_671 : am_rw mL_law 671 = some (.iadd, 1, 0, 0) := by decide +kernel
theorem rL_law_672 : am_rw mL_law 672 = some (.iaload, 1, 1, 0) := by decide +kernel
theorem rL_law_673 : am_rw mL_law 673 = some (.aload_n 3, 1, 0, 0) := by decide +kernel
theorem rL_law_674 : am_rw mL_law 674 = some (.invokestatic 142, 3, 196, 4) := by decide +kernel
theorem rL_law_677 : am_rw mL_law 677 = some (.istore 5, 2, 0, 0) := by decide +kernel
theorem rL_law_679 : am_rw mL_law 679 = some (.aload_n 2, 1, 0, 0) := by decide +kernel
theorem rL_law_680 : am_rw mL_law 680 = some (.aload_n 0, 1, 0, 0) := by decide +kernel
theorem rL_law_681 : am_rw mL_law 681 = some (.iload 4, 2, 0, 0) := by decide +kernel
theorem rL_law_683 : am_rw mL_law 683 = some (.iconst 1, 1, 1, 0) := by decide +kernel
theorem rL_law_684 : am_rw mL_law 684 = some (.iadd, 1, 0, 0) := by decide +kernel
theorem rL_law_685 : am_rw mL_law 685 = some (.iaload, 1, 1, 0) := by decide +kernel
theorem rL_law_686 : am_rw mL_law 686 = some (.aload_n 0, 1, 0, 0) := by decide +kernel
theorem rL_law_687 : am_rw mL_law 687 = some (.iload 4, 2, 0, 0) := by decide +kernel
theorem rL_law_689 : am_rw mL_law 689 = some (.iconst 2, 1, 2, 0) := by decide +kernel
theorem rL_law_690 : am_rw mL_law 690 = some (.iadd, 1, 0, 0) := by decide +kernel
theorem rL_law_691 : am_rw mL_law 691 = some (.iaload, 1, 1, 0) := by decide +kernel
theorem rL_law_692 : am_rw mL_law 692 = some (.invokevirtual 144, 3, 148, 3) := by decide +kernel
theorem rL_law_695 : am_rw mL_law 695 = some (.istore 6, 2, 0, 0) := by decide +kernel
theorem rL_law_697 : am_rw mL_law 697 = some (.aload_n 2, 1, 0, 0) := by decide +kernel
theorem rL_law_698 : am_rw mL_law 698 = some (.invokevirtual 108, 3, 101, 1) := by decide +kernel
theorem rL_law_701 : am_rw mL_law 701 = some (.iload 5, 2, 0, 0) := by decide +kernel
theorem rL_law_703 : am_rw mL_law 703 = some (.if_icmp .eq 5, 3, 708, 0) := by decide +kernel
theorem rL_law_706 : am_rw mL_law 706 = some (.iconst 0, 1, 0, 0) := by decide +kernel
theorem rL_law_707 : am_rw mL_law 707 = some (.ireturn, 1, 0, 0) := by decide +kernel
theorem rL_law_708 : am_rw mL_law 708 = some (.iload 5, 2, 0, 0) := by decide +kernel
theorem rL_law_710 : am_rw mL_law 710 = some (.ifCond .ne 15, 3, 725, 0) := by decide +kernel
theorem rL_law_713 : am_rw mL_law 713 = some (.aload_n 3, 1, 0, 0) := by decide +kernel
theorem rL_law_714 : am_rw mL_law 714 = some (.iconst 0, 1, 0, 0) := by decide +kernel
theorem rL_law_715 : am_rw mL_law 715 = some (.laload, 1, 0, 0) := by decide +kernel
theorem rL_law_716 : am_rw mL_law 716 = some (.iload 6, 2, 0, 0) := by decide +kernel
theorem rL_law_718 : am_rw mL_law 718 = some (.i2l, 1, 0, 0) := by decide +kernel
theorem rL_law_719 : am_rw mL_law 719 = some (.lcmp, 1, 0, 0) := by decide +kernel
theorem rL_law_720 : am_rw mL_law 720 = some (.ifCond .eq 5, 3, 725, 0) := by decide +kernel
theorem rL_law_723 : am_rw mL_law 723 = some (.iconst 0, 1, 0, 0) := by decide +kernel
theorem rL_law_724 : am_rw mL_law 724 = some (.ireturn, 1, 0, 0) := by decide +kernel
theorem rL_law_725 : am_rw mL_law 725 = some (.goto 996, 3, 1721, 0) := by decide +kernel
theorem rL_law_728 : am_rw mL_law 728 = some (.aload_n 1, 1, 0, 0) := by decide +kernel
theorem rL_law_729 : am_rw mL_law 729 = some (.aload_n 0, 1, 0, 0) := by decide +kernel
theorem rL_law_730 : am_rw mL_law 730 = some (.iload 4, 2, 0, 0) := by decide +kernel
theorem rL_law_732 : am_rw mL_law 732 = some (.iconst 1, 1, 1, 0) := by decide +kernel
theorem rL_law_733 : am_rw mL_law 733 = some (.iadd, 1, 0, 0) := by decide +kernel
theorem rL_law_734 : am_rw mL_law 734 = some (.iaload, 1, 1, 0) := by decide +kernel
theorem rL_law_735 : am_rw mL_law 735 = some (.aload_n 0, 1, 0, 0) := by decide +kernel
theorem rL_law_736 : am_rw mL_law 736 = some (.iload 4, 2, 0, 0) := by decide +kernel
theorem rL_law_738 : am_rw mL_law 738 = some (.iconst 2, 1, 2, 0) := by decide +kernel
theorem rL_law_739 : am_rw mL_law 739 = some (.iadd, 1, 0, 0) := by decide +kernel
theorem rL_law_740 : am_rw mL_law 740 = some (.iaload, 1, 1, 0) := by decide +kernel
theorem rL_law_741 : am_rw mL_law 741 = some (.aload_n 3, 1, 0, 0) := by decide +kernel
theorem rL_law_742 : am_rw mL_law 742 = some (.invokestatic 145, 3, 197, 4) := by decide +kernel
theorem rL_law_745 : am_rw mL_law 745 = some (.istore 5, 2, 0, 0) := by decide +kernel
theorem rL_law_747 : am_rw mL_law 747 = some (.aload_n 2, 1, 0, 0) := by decide +kernel
theorem rL_law_748 : am_rw mL_law 748 = some (.aload_n 0, 1, 0, 0) := by decide +kernel
theorem rL_law_749 : am_rw mL_law 749 = some (.iload 4, 2, 0, 0) := by decide +kernel
theorem rL_law_751 : am_rw mL_law 751 = some (.iconst 1, 1, 1, 0) := by decide +kernel
theorem rL_law_752 : am_rw mL_law 752 = some (.iadd, 1, 0, 0) := by decide +kernel
theorem rL_law_753 : am_rw mL_law 753 = some (.iaload, 1, 1, 0) := by decide +kernel
theorem rL_law_754 : am_rw mL_law 754 = some (.aload_n 0, 1, 0, 0) := by decide +kernel
theorem rL_law_755 : am_rw mL_law 755 = some (.iload 4, 2, 0, 0) := by decide +kernel
theorem rL_law_757 : am_rw mL_law 757 = some (.iconst 2, 1, 2, 0) := by decide +kernel
theorem rL_law_758 : am_rw mL_law 758 = some (.iadd, 1, 0, 0) := by decide +kernel
theorem rL_law_759 : am_rw mL_law 759 = some (.iaload, 1, 1, 0) := by decide +kernel
theorem rL_law_760 : am_rw mL_law 760 = some (.invokevirtual 147, 3, 150, 3) := by decide +kernel
theorem rL_law_763 : am_rw mL_law 763 = some (.istore 6, 2, 0, 0) := by decide +kernel
theorem rL_law_765 : am_rw mL_law 765 = some (.aload_n 2, 1, 0, 0) := by decide +kernel
theorem rL_law_766 : am_rw mL_law 766 = some (.invokevirtual 108, 3, 101, 1) := by decide +kernel
theorem rL_law_769 : am_rw mL_law 769 = some (.iload 5, 2, 0, 0) := by decide +kernel
theorem rL_law_771 : am_rw mL_law 771 = some (.if_icmp .eq 5, 3, 776, 0) := by decide +kernel
theorem rL_law_774 : am_rw mL_law 774 = some (.iconst 0, 1, 0, 0) := by decide +kernel
theorem rL_law_775 : am_rw mL_law 775 = some (.ireturn, 1, 0, 0) := by decide +kernel
theorem rL_law_776 : am_rw mL_law 776 = some (.iload 5, 2, 0, 0) := by decide +kernel
theorem rL_law_778 : am_rw mL_law 778 = some (.ifCond .ne 15, 3, 793, 0) := by decide +kernel
theorem rL_law_781 : am_rw mL_law 781 = some (.aload_n 3, 1, 0, 0) := by decide +kernel
theorem rL_law_782 : am_rw mL_law 782 = some (.iconst 0, 1, 0, 0) := by decide +kernel
theorem rL_law_783 : am_rw mL_law 783 = some (.laload, 1, 0, 0) := by decide +kernel
theorem rL_law_784 : am_rw mL_law 784 = some (.iload 6, 2, 0, 0) := by decide +kernel
theorem rL_law_786 : am_rw mL_law 786 = some (.i2l, 1, 0, 0) := by decide +kernel
theorem rL_law_787 : am_rw mL_law 787 = some (.lcmp, 1, 0, 0) := by decide +kernel
theorem rL_law_788 : am_rw mL_law 788 = some (.ifCond .eq 5, 3, 793, 0) := by decide +kernel
theorem rL_law_791 : am_rw mL_law 791 = some (.iconst 0, 1, 0, 0) := by decide +kernel
theorem rL_law_792 : am_rw mL_law 792 = some (.ireturn, 1, 0, 0) := by decide +kernel
theorem rL_law_793 : am_rw mL_law 793 = some (.goto 928, 3, 1721, 0) := by decide +kernel
theorem rL_law_796 : am_rw mL_law 796 = some (.aload_n 1, 1, 0, 0) := by decide +kernel
theorem rL_law_797 : am_rw mL_law 797 = some (.aload_n 0, 1, 0, 0) := by decide +kernel
theorem rL_law_798 : am_rw mL_law 798 = some (.iload 4, 2, 0, 0) := by decide +kernel
theorem rL_law_800 : am_rw mL_law 800 = some (.iconst 1, 1, 1, 0) := by decide +kernel
theorem rL_law_801 : am_rw mL_law 801 = some (.iadd, 1, 0, 0) := by decide +kernel
theorem rL_law_802 : am_rw mL_law 802 = some (.iaload, 1, 1, 0) := by decide +kernel
theorem rL_law_803 : am_rw mL_law 803 = some (.aload_n 3, 1, 0, 0) := by decide +kernel
theorem rL_law_804 : am_rw mL_law 804 = some (.invokestatic 148, 3, 198, 3) := by decide +kernel
theorem rL_law_807 : am_rw mL_law 807 = some (.istore 5, 2, 0, 0) := by decide +kernel
theorem rL_law_809 : am_rw mL_law 809 = some (.aload_n 2, 1, 0, 0) := by decide +kernel
theorem rL_law_810 : am_rw mL_law 810 = some (.aload_n 0, 1, 0, 0) := by decide +kernel
theorem rL_law_811 : am_rw mL_law 811 = some (.iload 4, 2, 0, 0) := by decide +kernel
theorem rL_law_813 : am_rw mL_law 813 = some (.iconst 1, 1, 1, 0) := by decide +kernel
theorem rL_law_814 : am_rw mL_law 814 = some (.iadd, 1, 0, 0) := by decide +kernel
theorem rL_law_815 : am_rw mL_law 815 = some (.iaload, 1, 1, 0) := by decide +kernel
theorem rL_law_816 : am_rw mL_law 816 = some (.invokevirtual 150, 3, 153, 2) := by decide +kernel
theorem rL_law_819 : am_rw mL_law 819 = some (.istore 6, 2, 0, 0) := by decide +kernel
theorem rL_law_821 : am_rw mL_law 821 = some (.aload_n 2, 1, 0, 0) := by decide +kernel
theorem rL_law_822 : am_rw mL_law 822 = some (.invokevirtual 108, 3, 101, 1) := by decide +kernel
theorem rL_law_825 : am_rw mL_law 825 = some (.iload 5, 2, 0, 0) := by decide +kernel
theorem rL_law_827 : am_rw mL_law 827 = some (.if_icmp .eq 5, 3, 832, 0) := by decide +kernel
theorem rL_law_830 : am_rw mL_law 830 = some (.iconst 0, 1, 0, 0) := by decide +kernel
theorem rL_law_831 : am_rw mL_law 831 = some (.ireturn, 1, 0, 0) := by decide +kernel
theorem rL_law_832 : am_rw mL_law 832 = some (.iload 5, 2, 0, 0) := by decide +kernel
theorem rL_law_834 : am_rw mL_law 834 = some (.ifCond .ne 15, 3, 849, 0) := by decide +kernel
theorem rL_law_837 : am_rw mL_law 837 = some (.aload_n 3, 1, 0, 0) := by decide +kernel
theorem rL_law_838 : am_rw mL_law 838 = some (.iconst 0, 1, 0, 0) := by decide +kernel
theorem rL_law_839 : am_rw mL_law 839 = some (.laload, 1, 0, 0) := by decide +kernel
theorem rL_law_840 : am_rw mL_law 840 = some (.iload 6, 2, 0, 0) := by decide +kernel
theorem rL_law_842 : am_rw mL_law 842 = some (.i2l, 1, 0, 0) := by decide +kernel
theorem rL_law_843 : am_rw mL_law 843 = some (.lcmp, 1, 0, 0) := by decide +kernel
theorem rL_law_844 : am_rw mL_law 844 = some (.ifCond .eq 5, 3, 849, 0) := by decide +kernel
theorem rL_law_847 : am_rw mL_law 847 = some (.iconst 0, 1, 0, 0) := by decide +kernel
theorem rL_law_848 : am_rw mL_law 848 = some (.ireturn, 1, 0, 0) := by decide +kernel
theorem rL_law_849 : am_rw mL_law 849 = some (.goto 872, 3, 1721, 0) := by decide +kernel
theorem rL_law_852 : am_rw mL_law 852 = some (.aload_n 1, 1, 0, 0) := by decide +kernel
theorem rL_law_853 : am_rw mL_law 853 = some (.aload_n 0, 1, 0, 0) := by decide +kernel
theorem rL_law_854 : am_rw mL_law 854 = some (.iload 4, 2, 0, 0) := by decide +kernel
theorem rL_law_856 : am_rw mL_law 856 = some (.iconst 1, 1, 1, 0) := by decide +kernel
theorem rL_law_857 : am_rw mL_law 857 = some (.iadd, 1, 0, 0) := by decide +kernel
theorem rL_law_858 : am_rw mL_law 858 = some (.iaload, 1, 1, 0) := by decide +kernel
theorem rL_law_859 : am_rw mL_law 859 = some (.aload_n 3, 1, 0, 0) := by decide +kernel
theorem rL_law_860 : am_rw mL_law 860 = some (.invokestatic 151, 3, 199, 3) := by decide +kernel
theorem rL_law_863 : am_rw mL_law 863 = some (.istore 5, 2, 0, 0) := by decide +kernel
theorem rL_law_865 : am_rw mL_law 865 = some (.aload_n 2, 1, 0, 0) := by decide +kernel
theorem rL_law_866 : am_rw mL_law 866 = some (.aload_n 0, 1, 0, 0) := by decide +kernel
theorem rL_law_867 : am_rw mL_law 867 = some (.iload 4, 2, 0, 0) := by decide +kernel
theorem rL_law_869 : am_rw mL_law 869 = some (.iconst 1, 1, 1, 0) := by decide +kernel
theorem rL_law_870 : am_rw mL_law 870 = some (.iadd, 1, 0, 0) := by decide +kernel
theorem rL_law_871 : am_rw mL_law 871 = some (.iaload, 1, 1, 0) := by decide +kernel
theorem rL_law_872 : am_rw mL_law 872 = some (.invokevirtual 153, 3, 154, 2) := by decide +kernel
theorem rL_law_875 : am_rw mL_law 875 = some (.istore 6, 2, 0, 0) := by decide +kernel
theorem rL_law_877 : am_rw mL_law 877 = some (.aload_n 2, 1, 0, 0) := by decide +kernel
theorem rL_law_878 : am_rw mL_law 878 = some (.invokevirtual 108, 3, 101, 1) := by decide +kernel
theorem rL_law_881 : am_rw mL_law 881 = some (.iload 5, 2, 0, 0) := by decide +kernel
theorem rL_law_883 : am_rw mL_law 883 = some (.if_icmp .eq 5, 3, 888, 0) := by decide +kernel
theorem rL_law_886 : am_rw mL_law 886 = some (.iconst 0, 1, 0, 0) := by decide +kernel
theorem rL_law_887 : am_rw mL_law 887 = some (.ireturn, 1, 0, 0) := by decide +kernel
theorem rL_law_888 : am_rw mL_law 888 = some (.iload 5, 2, 0, 0) := by decide +kernel
theorem rL_law_890 : am_rw mL_law 890 = some (.ifCond .ne 15, 3, 905, 0) := by decide +kernel
theorem rL_law_893 : am_rw mL_law 893 = some (.aload_n 3, 1, 0, 0) := by decide +kernel
theorem rL_law_894 : am_rw mL_law 894 = some (.iconst 0, 1, 0, 0) := by decide +kernel
theorem rL_law_895 : am_rw mL_law 895 = some (.laload, 1, 0, 0) := by decide +kernel
theorem rL_law_896 : am_rw mL_law 896 = some (.iload 6, 2, 0, 0) := by decide +kernel
theorem rL_law_898 : am_rw mL_law 898 = some (.i2l, 1, 0, 0) := by decide +kernel
theorem rL_law_899 : am_rw mL_law 899 = some (.lcmp, 1, 0, 0) := by decide +kernel
theorem rL_law_900 : am_rw mL_law 900 = some (.ifCond .eq 5, 3, 905, 0) := by decide +kernel
theorem rL_law_903 : am_rw mL_law 903 = some (.iconst 0, 1, 0, 0) := by decide +kernel
theorem rL_law_904 : am_rw mL_law 904 = some (.ireturn, 1, 0, 0) := by decide +kernel
theorem rL_law_905 : am_rw mL_law 905 = some (.goto 816, 3, 1721, 0) := by decide +kernel
theorem rL_law_908 : am_rw mL_law 908 = some (.aload_n 1, 1, 0, 0) := by decide +kernel
theorem rL_law_909 : am_rw mL_law 909 = some (.aload_n 0, 1, 0, 0) := by decide +kernel
theorem rL_law_910 : am_rw mL_law 910 = some (.iload 4, 2, 0, 0) := by decide +kernel
theorem rL_law_912 : am_rw mL_law 912 = some (.iconst 1, 1, 1, 0) := by decide +kernel
theorem rL_law_913 : am_rw mL_law 913 = some (.iadd, 1, 0, 0) := by decide +kernel
theorem rL_law_914 : am_rw mL_law 914 = some (.iaload, 1, 1, 0) := by decide +kernel
theorem rL_law_915 : am_rw mL_law 915 = some (.aload_n 3, 1, 0, 0) := by decide +kernel
theorem rL_law_916 : am_rw mL_law 916 = some (.invokestatic 154, 3, 200, 3) := by decide +kernel
theorem rL_law_919 : am_rw mL_law 919 = some (.istore 5, 2, 0, 0) := by decide +kernel
theorem rL_law_921 : am_rw mL_law 921 = some (.aload_n 2, 1, 0, 0) := by decide +kernel
theorem rL_law_922 : am_rw mL_law 922 = some (.aload_n 0, 1, 0, 0) := by decide +kernel
theorem rL_law_923 : am_rw mL_law 923 = some (.iload 4, 2, 0, 0) := by decide +kernel
theorem rL_law_925 : am_rw mL_law 925 = some (.iconst 1, 1, 1, 0) := by decide +kernel
theorem rL_law_926 : am_rw mL_law 926 = some (.iadd, 1, 0, 0) := by decide +kernel
theorem rL_law_927 : am_rw mL_law 927 = some (.iaload, 1, 1, 0) := by decide +kernel
theorem rL_law_928 : am_rw mL_law 928 = some (.invokevirtual 156, 3, 155, 2) := by decide +kernel
theorem rL_law_931 : am_rw mL_law 931 = some (.istore 6, 2, 0, 0) := by decide +kernel
theorem rL_law_933 : am_rw mL_law 933 = some (.aload_n 2, 1, 0, 0) := by decide +kernel
theorem rL_law_934 : am_rw mL_law 934 = some (.invokevirtual 108, 3, 101, 1) := by decide +kernel
theorem rL_law_937 : am_rw mL_law 937 = some (.iload 5, 2, 0, 0) := by decide +kernel
theorem rL_law_939 : am_rw mL_law 939 = some (.if_icmp .eq 5, 3, 944, 0) := by decide +kernel
theorem rL_law_942 : am_rw mL_law 942 = some (.iconst 0, 1, 0, 0) := by decide +kernel
theorem rL_law_943 : am_rw mL_law 943 = some (.ireturn, 1, 0, 0) := by decide +kernel
theorem rL_law_944 : am_rw mL_law 944 = some (.iload 5, 2, 0, 0) := by decide +kernel
theorem rL_law_946 : am_rw mL_law 946 = some (.ifCond .ne 15, 3, 961, 0) := by decide +kernel
theorem rL_law_949 : am_rw mL_law 949 = some (.aload_n 3, 1, 0, 0) := by decide +kernel
theorem rL_law_950 : am_rw mL_law 950 = some (.iconst 0, 1, 0, 0) := by decide +kernel
theorem rL_law_951 : am_rw mL_law 951 = some (.laload, 1, 0, 0) := by decide +kernel
theorem rL_law_952 : am_rw mL_law 952 = some (.iload 6, 2, 0, 0) := by decide +kernel
theorem rL_law_954 : am_rw mL_law 954 = some (.i2l, 1, 0, 0) := by decide +kernel
theorem rL_law_955 : am_rw mL_law 955 = some (.lcmp, 1, 0, 0) := by decide +kernel
theorem rL_law_956 : am_rw mL_law 956 = some (.ifCond .eq 5, 3, 961, 0) := by decide +kernel
theorem rL_law_959 : am_rw mL_law 959 = some (.iconst 0, 1, 0, 0) := by decide +kernel
theorem rL_law_960 : am_rw mL_law 960 = some (.ireturn, 1, 0, 0) := by decide +kernel
theorem rL_law_961 : am_rw mL_law 961 = some (.goto 760, 3, 1721, 0) := by decide +kernel
theorem rL_law_964 : am_rw mL_law 964 = some (.aload_n 1, 1, 0, 0) := by decide +kernel
theorem rL_law_965 : am_rw mL_law 965 = some (.aload_n 0, 1, 0, 0) := by decide +kernel
theorem rL_law_966 : am_rw mL_law 966 = some (.iload 4, 2, 0, 0) := by decide +kernel
theorem rL_law_968 : am_rw mL_law 968 = some (.iconst 1, 1, 1, 0) := by decide +kernel
theorem rL_law_969 : am_rw mL_law 969 = some (.iadd, 1, 0, 0) := by decide +kernel
theorem rL_law_970 : am_rw mL_law 970 = some (.iaload, 1, 1, 0) := by decide +kernel
theorem rL_law_971 : am_rw mL_law 971 = some (.aload_n 3, 1, 0, 0) := by decide +kernel
theorem rL_law_972 : am_rw mL_law 972 = some (.invokestatic 157, 3, 201, 3) := by decide +kernel
theorem rL_law_975 : am_rw mL_law 975 = some (.istore 5, 2, 0, 0) := by decide +kernel
theorem rL_law_977 : am_rw mL_law 977 = some (.aload_n 2, 1, 0, 0) := by decide +kernel
theorem rL_law_978 : am_rw mL_law 978 = some (.aload_n 0, 1, 0, 0) := by decide +kernel
theorem rL_law_979 : am_rw mL_law 979 = some (.iload 4, 2, 0, 0) := by decide +kernel
theorem rL_law_981 : am_rw mL_law 981 = some (.iconst 1, 1, 1, 0) := by decide +kernel
theorem rL_law_982 : am_rw mL_law 982 = some (.iadd, 1, 0, 0) := by decide +kernel
theorem rL_law_983 : am_rw mL_law 983 = some (.iaload, 1, 1, 0) := by decide +kernel
theorem rL_law_984 : am_rw mL_law 984 = some (.invokevirtual 159, 3, 156, 2) := by decide +kernel
theorem rL_law_987 : am_rw mL_law 987 = some (.istore 6, 2, 0, 0) := by decide +kernel
theorem rL_law_989 : am_rw mL_law 989 = some (.aload_n 2, 1, 0, 0) := by decide +kernel
theorem rL_law_990 : am_rw mL_law 990 = some (.invokevirtual 108, 3, 101, 1) := by decide +kernel
theorem rL_law_993 : am_rw mL_law 993 = some (.iload 5, 2, 0, 0) := by decide +kernel
theorem rL_law_995 : am_rw mL_law 995 = some (.if_icmp .eq 5, 3, 1000, 0) := by decide +kernel
theorem rL_law_998 : am_rw mL_law 998 = some (.iconst 0, 1, 0, 0) := by decide +kernel
theorem rL_law_999 : am_rw mL_law 999 = some (.ireturn, 1, 0, 0) := by decide +kernel
theorem rL_law_1000 : am_rw mL_law 1000 = some (.iload 5, 2, 0, 0) := by decide +kernel
theorem rL_law_1002 : am_rw mL_law 1002 = some (.ifCond .ne 15, 3, 1017, 0) := by decide +kernel
theorem rL_law_1005 : am_rw mL_law 1005 = some (.aload_n 3, 1, 0, 0) := by decide +kernel
theorem rL_law_1006 : am_rw mL_law 1006 = some (.iconst 0, 1, 0, 0) := by decide +kernel
theorem rL_law_1007 : am_rw mL_law 1007 = some (.laload, 1, 0, 0) := by decide +kernel
theorem rL_law_1008 : am_rw mL_law 1008 = some (.iload 6, 2, 0, 0) := by decide +kernel
theorem rL_law_1010 : am_rw mL_law 1010 = some (.i2l, 1, 0, 0) := by decide +kernel
theorem rL_law_1011 : am_rw mL_law 1011 = some (.lcmp, 1, 0, 0) := by decide +kernel
theorem rL_law_1012 : am_rw mL_law 1012 = some (.ifCond .eq 5, 3, 1017, 0) := by decide +kernel
theorem rL_law_1015 : am_rw mL_law 1015 = some (.iconst 0, 1, 0, 0) := by decide +kernel
theorem rL_law_1016 : am_rw mL_law 1016 = some (.ireturn, 1, 0, 0) := by decide +kernel
theorem rL_law_1017 : am_rw mL_law 1017 = some (.goto 704, 3, 1721, 0) := by decide +kernel
theorem rL_law_1020 : am_rw mL_law 1020 = some (.aload_n 1, 1, 0, 0) := by decide +kernel
theorem rL_law_1021 : am_rw mL_law 1021 = some (.aload_n 0, 1, 0, 0) := by decide +kernel
theorem rL_law_1022 : am_rw mL_law 1022 = some (.iload 4, 2, 0, 0) := by decide +kernel
theorem rL_law_1024 : am_rw mL_law 1024 = some (.iconst 1, 1, 1, 0) := by decide +kernel
theorem rL_law_1025 : am_rw mL_law 1025 = some (.iadd, 1, 0, 0) := by decide +kernel
theorem rL_law_1026 : am_rw mL_law 1026 = some (.iaload, 1, 1, 0) := by decide +kernel
theorem rL_law_1027 : am_rw mL_law 1027 = some (.aload_n 0, 1, 0, 0) := by decide +kernel
theorem rL_law_1028 : am_rw mL_law 1028 = some (.iload 4, 2, 0, 0) := by decide +kernel
theorem rL_law_1030 : am_rw mL_law 1030 = some (.iconst 2, 1, 2, 0) := by decide +kernel
theorem rL_law_1031 : am_rw mL_law 1031 = some (.iadd, 1, 0, 0) := by decide +kernel
theorem rL_law_1032 : am_rw mL_law 1032 = some (.iaload, 1, 1, 0) := by decide +kernel
theorem rL_law_1033 : am_rw mL_law 1033 = some (.aload_n 0, 1, 0, 0) := by decide +kernel
theorem rL_law_1034 : am_rw mL_law 1034 = some (.iload 4, 2, 0, 0) := by decide +kernel
theorem rL_law_1036 : am_rw mL_law 1036 = some (.iconst 3, 1, 3, 0) := by decide +kernel
theorem rL_law_1037 : am_rw mL_law 1037 = some (.iadd, 1, 0, 0) := by decide +kernel
theorem rL_law_1038 : am_rw mL_law 1038 = some (.iaload, 1, 1, 0) := by decide +kernel
theorem rL_law_1039 : am_rw mL_law 1039 = some (.invokestatic 160, 3, 202, 4) := by decide +kernel
theorem rL_law_1042 : am_rw mL_law 1042 = some (.istore 5, 2, 0, 0) := by decide +kernel
theorem rL_law_1044 : am_rw mL_law 1044 = some (.aload_n 2, 1, 0, 0) := by decide +kernel
theorem rL_law_1045 : am_rw mL_law 1045 = some (.aload_n 0, 1, 0, 0) := by decide +kernel
theorem rL_law_1046 : am_rw mL_law 1046 = some (.iload 4, 2, 0, 0) := by decide +kernel
theorem rL_law_1048 : am_rw mL_law 1048 = some (.iconst 1, 1, 1, 0) := by decide +kernel
theorem rL_law_1049 : am_rw mL_law 1049 = some (.iadd, 1, 0, 0) := by decide +kernel
theorem rL_law_1050 : am_rw mL_law 1050 = some (.iaload, 1, 1, 0) := by decide +kernel
theorem rL_law_1051 : am_rw mL_law 1051 = some (.aload_n 0, 1, 0, 0) := by decide +kernel
theorem rL_law_1052 : am_rw mL_law 1052 = some (.iload 4, 2, 0, 0) := by decide +kernel
theorem rL_law_1054 : am_rw mL_law 1054 = some (.iconst 2, 1, 2, 0) := by decide +kernel
theorem rL_law_1055 : am_rw mL_law 1055 = some (.iadd, 1, 0, 0) := by decide +kernel
theorem rL_law_1056 : am_rw mL_law 1056 = some (.iaload, 1, 1, 0) := by decide +kernel
theorem rL_law_1057 : am_rw mL_law 1057 = some (.aload_n 0, 1, 0, 0) := by decide +kernel
theorem rL_law_1058 : am_rw mL_law 1058 = some (.iload 4, 2, 0, 0) := by decide +kernel
theorem rL_law_1060 : am_rw mL_law 1060 = some (.iconst 3, 1, 3, 0) := by decide +kernel
theorem rL_law_1061 : am_rw mL_law 1061 = some (.iadd, 1, 0, 0) := by decide +kernel
theorem rL_law_1062 : am_rw mL_law 1062 = some (.iaload, 1, 1, 0) := by decide +kernel
theorem rL_law_1063 : am_rw mL_law 1063 = some (.invokevirtual 163, 3, 157, 4) := by decide +kernel
theorem rL_law_1066 : am_rw mL_law 1066 = some (.aload_n 2, 1, 0, 0) := by decide +kernel
theorem rL_law_1067 : am_rw mL_law 1067 = some (.invokevirtual 108, 3, 101, 1) := by decide +kernel
theorem rL_law_1070 : am_rw mL_law 1070 = some (.iload 5, 2, 0, 0) := by decide +kernel
theorem rL_law_1072 : am_rw mL_law 1072 = some (.if_icmp .eq 5, 3, 1077, 0) := by decide +kernel
theorem rL_law_1075 : am_rw mL_law 1075 = some (.iconst 0, 1, 0, 0) := by decide +kernel
theorem rL_law_1076 : am_rw mL_law 1076 = some (.ireturn, 1, 0, 0) := by decide +kernel
theorem rL_law_1077 : am_rw mL_law 1077 = some (.goto 644, 3, 1721, 0) := by decide +kernel
theorem rL_law_1080 : am_rw mL_law 1080 = some (.aload_n 1, 1, 0, 0) := by decide +kernel
theorem rL_law_1081 : am_rw mL_law 1081 = some (.aload_n 0, 1, 0, 0) := by decide +kernel
theorem rL_law_1082 : am_rw mL_law 1082 = some (.iload 4, 2, 0, 0) := by decide +kernel
theorem rL_law_1084 : am_rw mL_law 1084 = some (.iconst 1, 1, 1, 0) := by decide +kernel
theorem rL_law_1085 : am_rw mL_law 1085 = some (.iadd, 1, 0, 0) := by decide +kernel
theorem rL_law_1086 : am_rw mL_law 1086 = some (.iaload, 1, 1, 0) := by decide +kernel
theorem rL_law_1087 : am_rw mL_law 1087 = some (.invokestatic 164, 3, 203, 2) := by decide +kernel
theorem rL_law_1090 : am_rw mL_law 1090 = some (.istore 5, 2, 0, 0) := by decide +kernel
theorem rL_law_1092 : am_rw mL_law 1092 = some (.aload_n 2, 1, 0, 0) := by decide +kernel
theorem rL_law_1093 : am_rw mL_law 1093 = some (.aload_n 0, 1, 0, 0) := by decide +kernel
theorem rL_law_1094 : am_rw mL_law 1094 = some (.iload 4, 2, 0, 0) := by decide +kernel
theorem rL_law_1096 : am_rw mL_law 1096 = some (.iconst 1, 1, 1, 0) := by decide +kernel
theorem rL_law_1097 : am_rw mL_law 1097 = some (.iadd, 1, 0, 0) := by decide +kernel
theorem rL_law_1098 : am_rw mL_law 1098 = some (.iaload, 1, 1, 0) := by decide +kernel
theorem rL_law_1099 : am_rw mL_law 1099 = some (.invokevirtual 167, 3, 158, 2) := by decide +kernel
theorem rL_law_1102 : am_rw mL_law 1102 = some (.aload_n 2, 1, 0, 0) := by decide +kernel
theorem rL_law_1103 : am_rw mL_law 1103 = some (.invokevirtual 108, 3, 101, 1) := by decide +kernel
theorem rL_law_1106 : am_rw mL_law 1106 = some (.iload 5, 2, 0, 0) := by decide +kernel
theorem rL_law_1108 : am_rw mL_law 1108 = some (.if_icmp .eq 5, 3, 1113, 0) := by decide +kernel
theorem rL_law_1111 : am_rw mL_law 1111 = some (.iconst 0, 1, 0, 0) := by decide +kernel
theorem rL_law_1112 : am_rw mL_law 1112 = some (.ireturn, 1, 0, 0) := by decide +kernel
theorem rL_law_1113 : am_rw mL_law 1113 = some (.goto 608, 3, 1721, 0) := by decide +kernel
theorem rL_law_1116 : am_rw mL_law 1116 = some (.aload_n 1, 1, 0, 0) := by decide +kernel
theorem rL_law_1117 : am_rw mL_law 1117 = some (.aload_n 0, 1, 0, 0) := by decide +kernel
theorem rL_law_1118 : am_rw mL_law 1118 = some (.iload 4, 2, 0, 0) := by decide +kernel
theorem rL_law_1120 : am_rw mL_law 1120 = some (.iconst 1, 1, 1, 0) := by decide +kernel
theorem rL_law_1121 : am_rw mL_law 1121 = some (.iadd, 1, 0, 0) := by decide +kernel
theorem rL_law_1122 : am_rw mL_law 1122 = some (.iaload, 1, 1, 0) := by decide +kernel
theorem rL_law_1123 : am_rw mL_law 1123 = some (.aload_n 0, 1, 0, 0) := by decide +kernel
theorem rL_law_1124 : am_rw mL_law 1124 = some (.iload 4, 2, 0, 0) := by decide +kernel
theorem rL_law_1126 : am_rw mL_law 1126 = some (.iconst 2, 1, 2, 0) := by decide +kernel
theorem rL_law_1127 : am_rw mL_law 1127 = some (.iadd, 1, 0, 0) := by decide +kernel
theorem rL_law_1128 : am_rw mL_law 1128 = some (.iaload, 1, 1, 0) := by decide +kernel
theorem rL_law_1129 : am_rw mL_law 1129 = some (.invokestatic 168, 3, 204, 3) := by decide +kernel
theorem rL_law_1132 : am_rw mL_law 1132 = some (.istore 5, 2, 0, 0) := by decide +kernel
theorem rL_law_1134 : am_rw mL_law 1134 = some (.aload_n 2, 1, 0, 0) := by decide +kernel
theorem rL_law_1135 : am_rw mL_law 1135 = some (.aload_n 0, 1, 0, 0) := by decide +kernel
theorem rL_law_1136 : am_rw mL_law 1136 = some (.iload 4, 2, 0, 0) := by decide +kernel
theorem rL_law_1138 : am_rw mL_law 1138 = some (.iconst 1, 1, 1, 0) := by decide +kernel
theorem rL_law_1139 : am_rw mL_law 1139 = some (.iadd, 1, 0, 0) := by decide +kernel
theorem rL_law_1140 : am_rw mL_law 1140 = some (.iaload, 1, 1, 0) := by decide +kernel
theorem rL_law_1141 : am_rw mL_law 1141 = some (.aload_n 0, 1, 0, 0) := by decide +kernel
theorem rL_law_1142 : am_rw mL_law 1142 = some (.iload 4, 2, 0, 0) := by decide +kernel
theorem rL_law_1144 : am_rw mL_law 1144 = some (.iconst 2, 1, 2, 0) := by decide +kernel
theorem rL_law_1145 : am_rw mL_law 1145 = some (.iadd, 1, 0, 0) := by decide +kernel
theorem rL_law_1146 : am_rw mL_law 1146 = some (.iaload, 1, 1, 0) := by decide +kernel
theorem rL_law_1147 : am_rw mL_law 1147 = some (.invokevirtual 171, 3, 160, 3) := by decide +kernel
theorem rL_law_1150 : am_rw mL_law 1150 = some (.aload_n 2, 1, 0, 0) := by decide +kernel
theorem rL_law_1151 : am_rw mL_law 1151 = some (.invokevirtual 108, 3, 101, 1) := by decide +kernel
theorem rL_law_1154 : am_rw mL_law 1154 = some (.iload 5, 2, 0, 0) := by decide +kernel
theorem rL_law_1156 : am_rw mL_law 1156 = some (.if_icmp .eq 5, 3, 1161, 0) := by decide +kernel
theorem rL_law_1159 : am_rw mL_law 1159 = some (.iconst 0, 1, 0, 0) := by decide +kernel
theorem rL_law_1160 : am_rw mL_law 1160 = some (.ireturn, 1, 0, 0) := by decide +kernel
theorem rL_law_1161 : am_rw mL_law 1161 = some (.goto 560, 3, 1721, 0) := by decide +kernel
theorem rL_law_1164 : am_rw mL_law 1164 = some (.aload_n 1, 1, 0, 0) := by decide +kernel
theorem rL_law_1165 : am_rw mL_law 1165 = some (.aload_n 0, 1, 0, 0) := by decide +kernel
theorem rL_law_1166 : am_rw mL_law 1166 = some (.iload 4, 2, 0, 0) := by decide +kernel
theorem rL_law_1168 : am_rw mL_law 1168 = some (.iconst 1, 1, 1, 0) := by decide +kernel
theorem rL_law_1169 : am_rw mL_law 1169 = some (.iadd, 1, 0, 0) := by decide +kernel
theorem rL_law_1170 : am_rw mL_law 1170 = some (.iaload, 1, 1, 0) := by decide +kernel
theorem rL_law_1171 : am_rw mL_law 1171 = some (.aload_n 3, 1, 0, 0) := by decide +kernel
theorem rL_law_1172 : am_rw mL_law 1172 = some (.invokestatic 172, 3, 205, 3) := by decide +kernel
theorem rL_law_1175 : am_rw mL_law 1175 = some (.istore 5, 2, 0, 0) := by decide +kernel
theorem rL_law_1177 : am_rw mL_law 1177 = some (.aload_n 2, 1, 0, 0) := by decide +kernel
theorem rL_law_1178 : am_rw mL_law 1178 = some (.aload_n 0, 1, 0, 0) := by decide +kernel
theorem rL_law_1179 : am_rw mL_law 1179 = some (.iload 4, 2, 0, 0) := by decide +kernel
theorem rL_law_1181 : am_rw mL_law 1181 = some (.iconst 1, 1, 1, 0) := by decide +kernel
theorem rL_law_1182 : am_rw mL_law 1182 = some (.iadd, 1, 0, 0) := by decide +kernel
theorem rL_law_1183 : am_rw mL_law 1183 = some (.iaload, 1, 1, 0) := by decide +kernel
theorem rL_law_1184 : am_rw mL_law 1184 = some (.invokevirtual 174, 3, 161, 2) := by decide +kernel
theorem rL_law_1187 : am_rw mL_law 1187 = some (.istore 6, 2, 0, 0) := by decide +kernel
theorem rL_law_1189 : am_rw mL_law 1189 = some (.aload_n 2, 1, 0, 0) := by decide +kernel
theorem rL_law_1190 : am_rw mL_law 1190 = some (.invokevirtual 108, 3, 101, 1) := by decide +kernel
theorem rL_law_1193 : am_rw mL_law 1193 = some (.iload 5, 2, 0, 0) := by decide +kernel
theorem rL_law_1195 : am_rw mL_law 1195 = some (.if_icmp .eq 5, 3, 1200, 0) := by decide +kernel
theorem rL_law_1198 : am_rw mL_law 1198 = some (.iconst 0, 1, 0, 0) := by decide +kernel
theorem rL_law_1199 : am_rw mL_law 1199 = some (.ireturn, 1, 0, 0) := by decide +kernel
theorem rL_law_1200 : am_rw mL_law 1200 = some (.iload 5, 2, 0, 0) := by decide +kernel
theorem rL_law_1202 : am_rw mL_law 1202 = some (.ifCond .ne 15, 3, 1217, 0) := by decide +kernel
theorem rL_law_1205 : am_rw mL_law 1205 = some (.aload_n 3, 1, 0, 0) := by decide +kernel
theorem rL_law_1206 : am_rw mL_law 1206 = some (.iconst 0, 1, 0, 0) := by decide +kernel
theorem rL_law_1207 : am_rw mL_law 1207 = some (.laload, 1, 0, 0) := by decide +kernel
theorem rL_law_1208 : am_rw mL_law 1208 = some (.iload 6, 2, 0, 0) := by decide +kernel
theorem rL_law_1210 : am_rw mL_law 1210 = some (.i2l, 1, 0, 0) := by decide +kernel
theorem rL_law_1211 : am_rw mL_law 1211 = some (.lcmp, 1, 0, 0) := by decide +kernel
theorem rL_law_1212 : am_rw mL_law 1212 = some (.ifCond .eq 5, 3, 1217, 0) := by decide +kernel
theorem rL_law_1215 : am_rw mL_law 1215 = some (.iconst 0, 1, 0, 0) := by decide +kernel
theorem rL_law_1216 : am_rw mL_law 1216 = some (.ireturn, 1, 0, 0) := by decide +kernel
theorem rL_law_1217 : am_rw mL_law 1217 = some (.goto 504, 3, 1721, 0) := by decide +kernel
theorem rL_law_1220 : am_rw mL_law 1220 = some (.aload_n 1, 1, 0, 0) := by decide +kernel
theorem rL_law_1221 : am_rw mL_law 1221 = some (.aload_n 0, 1, 0, 0) := by decide +kernel
theorem rL_law_1222 : am_rw mL_law 1222 = some (.iload 4, 2, 0, 0) := by decide +kernel
theorem rL_law_1224 : am_rw mL_law 1224 = some (.iconst 1, 1, 1, 0) := by decide +kernel
theorem rL_law_1225 : am_rw mL_law 1225 = some (.iadd, 1, 0, 0) := by decide +kernel
theorem rL_law_1226 : am_rw mL_law 1226 = some (.iaload, 1, 1, 0) := by decide +kernel
theorem rL_law_1227 : am_rw mL_law 1227 = some (.aload_n 0, 1, 0, 0) := by decide +kernel
theorem rL_law_1228 : am_rw mL_law 1228 = some (.iload 4, 2, 0, 0) := by decide +kernel
theorem rL_law_1230 : am_rw mL_law 1230 = some (.iconst 2, 1, 2, 0) := by decide +kernel
theorem rL_law_1231 : am_rw mL_law 1231 = some (.iadd, 1, 0, 0) := by decide +kernel
theorem rL_law_1232 : am_rw mL_law 1232 = some (.iaload, 1, 1, 0) := by decide +kernel
theorem rL_law_1233 : am_rw mL_law 1233 = some (.aload_n 3, 1, 0, 0) := by decide +kernel
theorem rL_law_1234 : am_rw mL_law 1234 = some (.invokestatic 175, 3, 206, 4) := by decide +kernel
theorem rL_law_1237 : am_rw mL_law 1237 = some (.istore 5, 2, 0, 0) := by decide +kernel
theorem rL_law_1239 : am_rw mL_law 1239 = some (.aload_n 2, 1, 0, 0) := by decide +kernel
theorem rL_law_1240 : am_rw mL_law 1240 = some (.aload_n 0, 1, 0, 0) := by decide +kernel
theorem rL_law_1241 : am_rw mL_law 1241 = some (.iload 4, 2, 0, 0) := by decide +kernel
theorem rL_law_1243 : am_rw mL_law 1243 = some (.iconst 1, 1, 1, 0) := by decide +kernel
theorem rL_law_1244 : am_rw mL_law 1244 = some (.iadd, 1, 0, 0) := by decide +kernel
theorem rL_law_1245 : am_rw mL_law 1245 = some (.iaload, 1, 1, 0) := by decide +kernel
theorem rL_law_1246 : am_rw mL_law 1246 = some (.aload_n 0, 1, 0, 0) := by decide +kernel
theorem rL_law_1247 : am_rw mL_law 1247 = some (.iload 4, 2, 0, 0) := by decide +kernel
theorem rL_law_1249 : am_rw mL_law 1249 = some (.iconst 2, 1, 2, 0) := by decide +kernel
theorem rL_law_1250 : am_rw mL_law 1250 = some (.iadd, 1, 0, 0) := by decide +kernel
theorem rL_law_1251 : am_rw mL_law 1251 = some (.iaload, 1, 1, 0) := by decide +kernel
theorem rL_law_1252 : am_rw mL_law 1252 = some (.invokevirtual 177, 3, 162, 3) := by decide +kernel
theorem rL_law_1255 : am_rw mL_law 1255 = some (.istore 6, 2, 0, 0) := by decide +kernel
theorem rL_law_1257 : am_rw mL_law 1257 = some (.aload_n 2, 1, 0, 0) := by decide +kernel
theorem rL_law_1258 : am_rw mL_law 1258 = some (.invokevirtual 108, 3, 101, 1) := by decide +kernel
theorem rL_law_1261 : am_rw mL_law 1261 = some (.iload 5, 2, 0, 0) := by decide +kernel
theorem rL_law_1263 : am_rw mL_law 1263 = some (.if_icmp .eq 5, 3, 1268, 0) := by decide +kernel
theorem rL_law_1266 : am_rw mL_law 1266 = some (.iconst 0, 1, 0, 0) := by decide +kernel
theorem rL_law_1267 : am_rw mL_law 1267 = some (.ireturn, 1, 0, 0) := by decide +kernel
theorem rL_law_1268 : am_rw mL_law 1268 = some (.iload 5, 2, 0, 0) := by decide +kernel
theorem rL_law_1270 : am_rw mL_law 1270 = some (.ifCond .ne 15, 3, 1285, 0) := by decide +kernel
theorem rL_law_1273 : am_rw mL_law 1273 = some (.aload_n 3, 1, 0, 0) := by decide +kernel
theorem rL_law_1274 : am_rw mL_law 1274 = some (.iconst 0, 1, 0, 0) := by decide +kernel
theorem rL_law_1275 : am_rw mL_law 1275 = some (.laload, 1, 0, 0) := by decide +kernel
theorem rL_law_1276 : am_rw mL_law 1276 = some (.iload 6, 2, 0, 0) := by decide +kernel
theorem rL_law_1278 : am_rw mL_law 1278 = some (.i2l, 1, 0, 0) := by decide +kernel
theorem rL_law_1279 : am_rw mL_law 1279 = some (.lcmp, 1, 0, 0) := by decide +kernel
theorem rL_law_1280 : am_rw mL_law 1280 = some (.ifCond .eq 5, 3, 1285, 0) := by decide +kernel
theorem rL_law_1283 : am_rw mL_law 1283 = some (.iconst 0, 1, 0, 0) := by decide +kernel
theorem rL_law_1284 : am_rw mL_law 1284 = some (.ireturn, 1, 0, 0) := by decide +kernel
theorem rL_law_1285 : am_rw mL_law 1285 = some (.goto 436, 3, 1721, 0) := by decide +kernel
theorem rL_law_1288 : am_rw mL_law 1288 = some (.aload_n 1, 1, 0, 0) := by decide +kernel
theorem rL_law_1289 : am_rw mL_law 1289 = some (.aload_n 0, 1, 0, 0) := by decide +kernel
theorem rL_law_1290 : am_rw mL_law 1290 = some (.iload 4, 2, 0, 0) := by decide +kernel
theorem rL_law_1292 : am_rw mL_law 1292 = some (.iconst 1, 1, 1, 0) := by decide +kernel
theorem rL_law_1293 : am_rw mL_law 1293 = some (.iadd, 1, 0, 0) := by decide +kernel
theorem rL_law_1294 : am_rw mL_law 1294 = some (.iaload, 1, 1, 0) := by decide +kernel
theorem rL_law_1295 : am_rw mL_law 1295 = some (.aload_n 0, 1, 0, 0) := by decide +kernel
theorem rL_law_1296 : am_rw mL_law 1296 = some (.iload 4, 2, 0, 0) := by decide +kernel
theorem rL_law_1298 : am_rw mL_law 1298 = some (.iconst 2, 1, 2, 0) := by decide +kernel
theorem rL_law_1299 : am_rw mL_law 1299 = some (.iadd, 1, 0, 0) := by decide +kernel
theorem rL_law_1300 : am_rw mL_law 1300 = some (.iaload, 1, 1, 0) := by decide +kernel
theorem rL_law_1301 : am_rw mL_law 1301 = some (.aload_n 0, 1, 0, 0) := by decide +kernel
theorem rL_law_1302 : am_rw mL_law 1302 = some (.iload 4, 2, 0, 0) := by decide +kernel
theorem rL_law_1304 : am_rw mL_law 1304 = some (.iconst 3, 1, 3, 0) := by decide +kernel
theorem rL_law_1305 : am_rw mL_law 1305 = some (.iadd, 1, 0, 0) := by decide +kernel
theorem rL_law_1306 : am_rw mL_law 1306 = some (.iaload, 1, 1, 0) := by decide +kernel
theorem rL_law_1307 : am_rw mL_law 1307 = some (.aload_n 0, 1, 0, 0) := by decide +kernel
theorem rL_law_1308 : am_rw mL_law 1308 = some (.iload 4, 2, 0, 0) := by decide +kernel
theorem rL_law_1310 : am_rw mL_law 1310 = some (.iconst 4, 1, 4, 0) := by decide +kernel
theorem rL_law_1311 : am_rw mL_law 1311 = some (.iadd, 1, 0, 0) := by decide +kernel
theorem rL_law_1312 : am_rw mL_law 1312 = some (.iaload, 1, 1, 0) := by decide +kernel
theorem rL_law_1313 : am_rw mL_law 1313 = some (.invokestatic 178, 3, 207, 5) := by decide +kernel
theorem rL_law_1316 : am_rw mL_law 1316 = some (.istore 5, 2, 0, 0) := by decide +kernel
theorem rL_law_1318 : am_rw mL_law 1318 = some (.aload_n 2, 1, 0, 0) := by decide +kernel
theorem rL_law_1319 : am_rw mL_law 1319 = some (.aload_n 0, 1, 0, 0) := by decide +kernel
theorem rL_law_1320 : am_rw mL_law 1320 = some (.iload 4, 2, 0, 0) := by decide +kernel
theorem rL_law_1322 : am_rw mL_law 1322 = some (.iconst 1, 1, 1, 0) := by decide +kernel
theorem rL_law_1323 : am_rw mL_law 1323 = some (.iadd, 1, 0, 0) := by decide +kernel
theorem rL_law_1324 : am_rw mL_law 1324 = some (.iaload, 1, 1, 0) := by decide +kernel
theorem rL_law_1325 : am_rw mL_law 1325 = some (.aload_n 0, 1, 0, 0) := by decide +kernel
theorem rL_law_1326 : am_rw mL_law 1326 = some (.iload 4, 2, 0, 0) := by decide +kernel
theorem rL_law_1328 : am_rw mL_law 1328 = some (.iconst 2, 1, 2, 0) := by decide +kernel
theorem rL_law_1329 : am_rw mL_law 1329 = some (.iadd, 1, 0, 0) := by decide +kernel
theorem rL_law_1330 : am_rw mL_law 1330 = some (.iaload, 1, 1, 0) := by decide +kernel
theorem rL_law_1331 : am_rw mL_law 1331 = some (.aload_n 0, 1, 0, 0) := by decide +kernel
theorem rL_law_1332 : am_rw mL_law 1332 = some (.iload 4, 2, 0, 0) := by decide +kernel
theorem rL_law_1334 : am_rw mL_law 1334 = some (.iconst 3, 1, 3, 0) := by decide +kernel
theorem rL_law_1335 : am_rw mL_law 1335 = some (.iadd, 1, 0, 0) := by decide +kernel
theorem rL_law_1336 : am_rw mL_law 1336 = some (.iaload, 1, 1, 0) := by decide +kernel
theorem rL_law_1337 : am_rw mL_law 1337 = some (.aload_n 0, 1, 0, 0) := by decide +kernel
theorem rL_law_1338 : am_rw mL_law 1338 = some (.iload 4, 2, 0, 0) := by decide +kernel
theorem rL_law_1340 : am_rw mL_law 1340 = some (.iconst 4, 1, 4, 0) := by decide +kernel
theorem rL_law_1341 : am_rw mL_law 1341 = some (.iadd, 1, 0, 0) := by decide +kernel
theorem rL_law_1342 : am_rw mL_law 1342 = some (.iaload, 1, 1, 0) := by decide +kernel
theorem rL_law_1343 : am_rw mL_law 1343 = some (.invokevirtual 181, 3, 163, 5) := by decide +kernel
theorem rL_law_1346 : am_rw mL_law 1346 = some (.aload_n 2, 1, 0, 0) := by decide +kernel
theorem rL_law_1347 : am_rw mL_law 1347 = some (.invokevirtual 108, 3, 101, 1) := by decide +kernel
theorem rL_law_1350 : am_rw mL_law 1350 = some (.iload 5, 2, 0, 0) := by decide +kernel
theorem rL_law_1352 : am_rw mL_law 1352 = some (.if_icmp .eq 5, 3, 1357, 0) := by decide +kernel
theorem rL_law_1355 : am_rw mL_law 1355 = some (.iconst 0, 1, 0, 0) := by decide +kernel
theorem rL_law_1356 : am_rw mL_law 1356 = some (.ireturn, 1, 0, 0) := by decide +kernel
theorem rL_law_1357 : am_rw mL_law 1357 = some (.goto 364, 3, 1721, 0) := by decide +kernel
theorem rL_law_1360 : am_rw mL_law 1360 = some (.aload_n 1, 1, 0, 0) := by decide +kernel
theorem rL_law_1361 : am_rw mL_law 1361 = some (.aload_n 0, 1, 0, 0) := by decide +kernel
theorem rL_law_1362 : am_rw mL_law 1362 = some (.iload 4, 2, 0, 0) := by decide +kernel
theorem rL_law_1364 : am_rw mL_law 1364 = some (.iconst 1, 1, 1, 0) := by decide +kernel
theorem rL_law_1365 : am_rw mL_law 1365 = some (.iadd, 1, 0, 0) := by decide +kernel
theorem rL_law_1366 : am_rw mL_law 1366 = some (.iaload, 1, 1, 0) := by decide +kernel
theorem rL_law_1367 : am_rw mL_law 1367 = some (.aload_n 0, 1, 0, 0) := by decide +kernel
theorem rL_law_1368 : am_rw mL_law 1368 = some (.iload 4, 2, 0, 0) := by decide +kernel
theorem rL_law_1370 : am_rw mL_law 1370 = some (.iconst 2, 1, 2, 0) := by decide +kernel
theorem rL_law_1371 : am_rw mL_law 1371 = some (.iadd, 1, 0, 0) := by decide +kernel
theorem rL_law_1372 : am_rw mL_law 1372 = some (.iaload, 1, 1, 0) := by decide +kernel
theorem rL_law_1373 : am_rw mL_law 1373 = some (.aload_n 3, 1, 0, 0) := by decide +kernel
theorem rL_law_1374 : am_rw mL_law 1374 = some (.invokestatic 182, 3, 208, 4) := by decide +kernel
theorem rL_law_1377 : am_rw mL_law 1377 = some (.istore 5, 2, 0, 0) := by decide +kernel
theorem rL_law_1379 : am_rw mL_law 1379 = some (.aload_n 2, 1, 0, 0) := by decide +kernel
theorem rL_law_1380 : am_rw mL_law 1380 = some (.aload_n 0, 1, 0, 0) := by decide +kernel
theorem rL_law_1381 : am_rw mL_law 1381 = some (.iload 4, 2, 0, 0) := by decide +kernel
theorem rL_law_1383 : am_rw mL_law 1383 = some (.iconst 1, 1, 1, 0) := by decide +kernel
theorem rL_law_1384 : am_rw mL_law 1384 = some (.iadd, 1, 0, 0) := by decide +kernel
theorem rL_law_1385 : am_rw mL_law 1385 = some (.iaload, 1, 1, 0) := by decide +kernel
theorem rL_law_1386 : am_rw mL_law 1386 = some (.aload_n 0, 1, 0, 0) := by decide +kernel
theorem rL_law_1387 : am_rw mL_law 1387 = some (.iload 4, 2, 0, 0) := by decide +kernel
theorem rL_law_1389 : am_rw mL_law 1389 = some (.iconst 2, 1, 2, 0) := by decide +kernel
theorem rL_law_1390 : am_rw mL_law 1390 = some (.iadd, 1, 0, 0) := by decide +kernel
theorem rL_law_1391 : am_rw mL_law 1391 = some (.iaload, 1, 1, 0) := by decide +kernel
theorem rL_law_1392 : am_rw mL_law 1392 = some (.invokevirtual 184, 3, 165, 3) := by decide +kernel
theorem rL_law_1395 : am_rw mL_law 1395 = some (.istore 6, 2, 0, 0) := by decide +kernel
theorem rL_law_1397 : am_rw mL_law 1397 = some (.aload_n 2, 1, 0, 0) := by decide +kernel
theorem rL_law_1398 : am_rw mL_law 1398 = some (.invokevirtual 108, 3, 101, 1) := by decide +kernel
theorem rL_law_1401 : am_rw mL_law 1401 = some (.iload 5, 2, 0, 0) := by decide +kernel
theorem rL_law_1403 : am_rw mL_law 1403 = some (.if_icmp .eq 5, 3, 1408, 0) := by decide +kernel
theorem rL_law_1406 : am_rw mL_law 1406 = some (.iconst 0, 1, 0, 0) := by decide +kernel
theorem rL_law_1407 : am_rw mL_law 1407 = some (.ireturn, 1, 0, 0) := by decide +kernel
theorem rL_law_1408 : am_rw mL_law 1408 = some (.iload 5, 2, 0, 0) := by decide +kernel
theorem rL_law_1410 : am_rw mL_law 1410 = some (.ifCond .ne 15, 3, 1425, 0) := by decide +kernel
theorem rL_law_1413 : am_rw mL_law 1413 = some (.aload_n 3, 1, 0, 0) := by decide +kernel
theorem rL_law_1414 : am_rw mL_law 1414 = some (.iconst 0, 1, 0, 0) := by decide +kernel
theorem rL_law_1415 : am_rw mL_law 1415 = some (.laload, 1, 0, 0) := by decide +kernel
theorem rL_law_1416 : am_rw mL_law 1416 = some (.iload 6, 2, 0, 0) := by decide +kernel
theorem rL_law_1418 : am_rw mL_law 1418 = some (.i2l, 1, 0, 0) := by decide +kernel
theorem rL_law_1419 : am_rw mL_law 1419 = some (.lcmp, 1, 0, 0) := by decide +kernel
theorem rL_law_1420 : am_rw mL_law 1420 = some (.ifCond .eq 5, 3, 1425, 0) := by decide +kernel
theorem rL_law_1423 : am_rw mL_law 1423 = some (.iconst 0, 1, 0, 0) := by decide +kernel
theorem rL_law_1424 : am_rw mL_law 1424 = some (.ireturn, 1, 0, 0) := by decide +kernel
theorem rL_law_1425 : am_rw mL_law 1425 = some (.goto 296, 3, 1721, 0) := by decide +kernel
theorem rL_law_1428 : am_rw mL_law 1428 = some (.aload_n 1, 1, 0, 0) := by decide +kernel
theorem rL_law_1429 : am_rw mL_law 1429 = some (.aload_n 0, 1, 0, 0) := by decide +kernel
theorem rL_law_1430 : am_rw mL_law 1430 = some (.iload 4, 2, 0, 0) := by decide +kernel
theorem rL_law_1432 : am_rw mL_law 1432 = some (.iconst 1, 1, 1, 0) := by decide +kernel
theorem rL_law_1433 : am_rw mL_law 1433 = some (.iadd, 1, 0, 0) := by decide +kernel
theorem rL_law_1434 : am_rw mL_law 1434 = some (.iaload, 1, 1, 0) := by decide +kernel
theorem rL_law_1435 : am_rw mL_law 1435 = some (.aload_n 3, 1, 0, 0) := by decide +kernel
theorem rL_law_1436 : am_rw mL_law 1436 = some (.invokestatic 185, 3, 209, 3) := by decide +kernel
theorem rL_law_1439 : am_rw mL_law 1439 = some (.istore 5, 2, 0, 0) := by decide +kernel
theorem rL_law_1441 : am_rw mL_law 1441 = some (.aload_n 2, 1, 0, 0) := by decide +kernel
theorem rL_law_1442 : am_rw mL_law 1442 = some (.aload_n 0, 1, 0, 0) := by decide +kernel
theorem rL_law_1443 : am_rw mL_law 1443 = some (.iload 4, 2, 0, 0) := by decide +kernel
theorem rL_law_1445 : am_rw mL_law 1445 = some (.iconst 1, 1, 1, 0) := by decide +kernel
theorem rL_law_1446 : am_rw mL_law 1446 = some (.iadd, 1, 0, 0) := by decide +kernel
theorem rL_law_1447 : am_rw mL_law 1447 = some (.iaload, 1, 1, 0) := by decide +kernel
theorem rL_law_1448 : am_rw mL_law 1448 = some (.invokevirtual 187, 3, 167, 2) := by decide +kernel
theorem rL_law_1451 : am_rw mL_law 1451 = some (.istore 6, 2, 0, 0) := by decide +kernel
theorem rL_law_1453 : am_rw mL_law 1453 = some (.aload_n 2, 1, 0, 0) := by decide +kernel
theorem rL_law_1454 : am_rw mL_law 1454 = some (.invokevirtual 108, 3, 101, 1) := by decide +kernel
theorem rL_law_1457 : am_rw mL_law 1457 = some (.iload 5, 2, 0, 0) := by decide +kernel
theorem rL_law_1459 : am_rw mL_law 1459 = some (.if_icmp .eq 5, 3, 1464, 0) := by decide +kernel
theorem rL_law_1462 : am_rw mL_law 1462 = some (.iconst 0, 1, 0, 0) := by decide +kernel
theorem rL_law_1463 : am_rw mL_law 1463 = some (.ireturn, 1, 0, 0) := by decide +kernel
theorem rL_law_1464 : am_rw mL_law 1464 = some (.iload 5, 2, 0, 0) := by decide +kernel
theorem rL_law_1466 : am_rw mL_law 1466 = some (.ifCond .ne 15, 3, 1481, 0) := by decide +kernel
theorem rL_law_1469 : am_rw mL_law 1469 = some (.aload_n 3, 1, 0, 0) := by decide +kernel
theorem rL_law_1470 : am_rw mL_law 1470 = some (.iconst 0, 1, 0, 0) := by decide +kernel
theorem rL_law_1471 : am_rw mL_law 1471 = some (.laload, 1, 0, 0) := by decide +kernel
theorem rL_law_1472 : am_rw mL_law 1472 = some (.iload 6, 2, 0, 0) := by decide +kernel
theorem rL_law_1474 : am_rw mL_law 1474 = some (.i2l, 1, 0, 0) := by decide +kernel
theorem rL_law_1475 : am_rw mL_law 1475 = some (.lcmp, 1, 0, 0) := by decide +kernel
theorem rL_law_1476 : am_rw mL_law 1476 = some (.ifCond .eq 5, 3, 1481, 0) := by decide +kernel
theorem rL_law_1479 : am_rw mL_law 1479 = some (.iconst 0, 1, 0, 0) := by decide +kernel
theorem rL_law_1480 : am_rw mL_law 1480 = some (.ireturn, 1, 0, 0) := by decide +kernel
theorem rL_law_1481 : am_rw mL_law 1481 = some (.goto 240, 3, 1721, 0) := by decide +kernel
theorem rL_law_1484 : am_rw mL_law 1484 = some (.aload_n 1, 1, 0, 0) := by decide +kernel
theorem rL_law_1485 : am_rw mL_law 1485 = some (.aload_n 0, 1, 0, 0) := by decide +kernel
theorem rL_law_1486 : am_rw mL_law 1486 = some (.iload 4, 2, 0, 0) := by decide +kernel
theorem rL_law_1488 : am_rw mL_law 1488 = some (.iconst 1, 1, 1, 0) := by decide +kernel
theorem rL_law_1489 : am_rw mL_law 1489 = some (.iadd, 1, 0, 0) := by decide +kernel
theorem rL_law_1490 : am_rw mL_law 1490 = some (.iaload, 1, 1, 0) := by decide +kernel
theorem rL_law_1491 : am_rw mL_law 1491 = some (.aload_n 3, 1, 0, 0) := by decide +kernel
theorem rL_law_1492 : am_rw mL_law 1492 = some (.invokestatic 188, 3, 210, 3) := by decide +kernel
theorem rL_law_1495 : am_rw mL_law 1495 = some (.istore 5, 2, 0, 0) := by decide +kernel
theorem rL_law_1497 : am_rw mL_law 1497 = some (.aload_n 2, 1, 0, 0) := by decide +kernel
theorem rL_law_1498 : am_rw mL_law 1498 = some (.aload_n 0, 1, 0, 0) := by decide +kernel
theorem rL_law_1499 : am_rw mL_law 1499 = some (.iload 4, 2, 0, 0) := by decide +kernel
theorem rL_law_1501 : am_rw mL_law 1501 = some (.iconst 1, 1, 1, 0) := by decide +kernel
theorem rL_law_1502 : am_rw mL_law 1502 = some (.iadd, 1, 0, 0) := by decide +kernel
theorem rL_law_1503 : am_rw mL_law 1503 = some (.iaload, 1, 1, 0) := by decide +kernel
theorem rL_law_1504 : am_rw mL_law 1504 = some (.invokevirtual 190, 3, 168, 2) := by decide +kernel
theorem rL_law_1507 : am_rw mL_law 1507 = some (.istore 6, 2, 0, 0) := by decide +kernel
theorem rL_law_1509 : am_rw mL_law 1509 = some (.aload_n 2, 1, 0, 0) := by decide +kernel
theorem rL_law_1510 : am_rw mL_law 1510 = some (.invokevirtual 108, 3, 101, 1) := by decide +kernel
theorem rL_law_1513 : am_rw mL_law 1513 = some (.iload 5, 2, 0, 0) := by decide +kernel
theorem rL_law_1515 : am_rw mL_law 1515 = some (.if_icmp .eq 5, 3, 1520, 0) := by decide +kernel
theorem rL_law_1518 : am_rw mL_law 1518 = some (.iconst 0, 1, 0, 0) := by decide +kernel
theorem rL_law_1519 : am_rw mL_law 1519 = some (.ireturn, 1, 0, 0) := by decide +kernel
theorem rL_law_1520 : am_rw mL_law 1520 = some (.iload 5, 2, 0, 0) := by decide +kernel
theorem rL_law_1522 : am_rw mL_law 1522 = some (.ifCond .ne 15, 3, 1537, 0) := by decide +kernel
theorem rL_law_1525 : am_rw mL_law 1525 = some (.aload_n 3, 1, 0, 0) := by decide +kernel
theorem rL_law_1526 : am_rw mL_law 1526 = some (.iconst 0, 1, 0, 0) := by decide +kernel
theorem rL_law_1527 : am_rw mL_law 1527 = some (.laload, 1, 0, 0) := by decide +kernel
theorem rL_law_1528 : am_rw mL_law 1528 = some (.iload 6, 2, 0, 0) := by decide +kernel
theorem rL_law_1530 : am_rw mL_law 1530 = some (.i2l, 1, 0, 0) := by decide +kernel
theorem rL_law_1531 : am_rw mL_law 1531 = some (.lcmp, 1, 0, 0) := by decide +kernel
theorem rL_law_1532 : am_rw mL_law 1532 = some (.ifCond .eq 5, 3, 1537, 0) := by decide +kernel
theorem rL_law_1535 : am_rw mL_law 1535 = some (.iconst 0, 1, 0, 0) := by decide +kernel
theorem rL_law_1536 : am_rw mL_law 1536 = some (.ireturn, 1, 0, 0) := by decide +kernel
theorem rL_law_1537 : am_rw mL_law 1537 = some (.goto 184, 3, 1721, 0) := by decide +kernel
theorem rL_law_1540 : am_rw mL_law 1540 = some (.aload_n 1, 1, 0, 0) := by decide +kernel
theorem rL_law_1541 : am_rw mL_law 1541 = some (.aload_n 0, 1, 0, 0) := by decide +kernel
theorem rL_law_1542 : am_rw mL_law 1542 = some (.iload 4, 2, 0, 0) := by decide +kernel
theorem rL_law_1544 : am_rw mL_law 1544 = some (.iconst 1, 1, 1, 0) := by decide +kernel
theorem rL_law_1545 : am_rw mL_law 1545 = some (.iadd, 1, 0, 0) := by decide +kernel
theorem rL_law_1546 : am_rw mL_law 1546 = some (.iaload, 1, 1, 0) := by decide +kernel
theorem rL_law_1547 : am_rw mL_law 1547 = some (.aload_n 3, 1, 0, 0) := by decide +kernel
theorem rL_law_1548 : am_rw mL_law 1548 = some (.invokestatic 191, 3, 211, 3) := by decide +kernel
theorem rL_law_1551 : am_rw mL_law 1551 = some (.istore 5, 2, 0, 0) := by decide +kernel
theorem rL_law_1553 : am_rw mL_law 1553 = some (.aload_n 2, 1, 0, 0) := by decide +kernel
theorem rL_law_1554 : am_rw mL_law 1554 = some (.aload_n 0, 1, 0, 0) := by decide +kernel
theorem rL_law_1555 : am_rw mL_law 1555 = some (.iload 4, 2, 0, 0) := by decide +kernel
theorem rL_law_1557 : am_rw mL_law 1557 = some (.iconst 1, 1, 1, 0) := by decide +kernel
theorem rL_law_1558 : am_rw mL_law 1558 = some (.iadd, 1, 0, 0) := by decide +kernel
theorem rL_law_1559 : am_rw mL_law 1559 = some (.iaload, 1, 1, 0) := by decide +kernel
theorem rL_law_1560 : am_rw mL_law 1560 = some (.invokevirtual 193, 3, 169, 2) := by decide +kernel
theorem rL_law_1563 : am_rw mL_law 1563 = some (.istore 6, 2, 0, 0) := by decide +kernel
theorem rL_law_1565 : am_rw mL_law 1565 = some (.aload_n 2, 1, 0, 0) := by decide +kernel
theorem rL_law_1566 : am_rw mL_law 1566 = some (.invokevirtual 108, 3, 101, 1) := by decide +kernel
theorem rL_law_1569 : am_rw mL_law 1569 = some (.iload 5, 2, 0, 0) := by decide +kernel
theorem rL_law_1571 : am_rw mL_law 1571 = some (.if_icmp .eq 5, 3, 1576, 0) := by decide +kernel
theorem rL_law_1574 : am_rw mL_law 1574 = some (.iconst 0, 1, 0, 0) := by decide +kernel
theorem rL_law_1575 : am_rw mL_law 1575 = some (.ireturn, 1, 0, 0) := by decide +kernel
theorem rL_law_1576 : am_rw mL_law 1576 = some (.iload 5, 2, 0, 0) := by decide +kernel
theorem rL_law_1578 : am_rw mL_law 1578 = some (.ifCond .ne 15, 3, 1593, 0) := by decide +kernel
theorem rL_law_1581 : am_rw mL_law 1581 = some (.aload_n 3, 1, 0, 0) := by decide +kernel
theorem rL_law_1582 : am_rw mL_law 1582 = some (.iconst 0, 1, 0, 0) := by decide +kernel
theorem rL_law_1583 : am_rw mL_law 1583 = some (.laload, 1, 0, 0) := by decide +kernel
theorem rL_law_1584 : am_rw mL_law 1584 = some (.iload 6, 2, 0, 0) := by decide +kernel
theorem rL_law_1586 : am_rw mL_law 1586 = some (.i2l, 1, 0, 0) := by decide +kernel
theorem rL_law_1587 : am_rw mL_law 1587 = some (.lcmp, 1, 0, 0) := by decide +kernel
theorem rL_law_1588 : am_rw mL_law 1588 = some (.ifCond .eq 5, 3, 1593, 0) := by decide +kernel
theorem rL_law_1591 : am_rw mL_law 1591 = some (.iconst 0, 1, 0, 0) := by decide +kernel
theorem rL_law_1592 : am_rw mL_law 1592 = some (.ireturn, 1, 0, 0) := by decide +kernel
theorem rL_law_1593 : am_rw mL_law 1593 = some (.goto 128, 3, 1721, 0) := by decide +kernel
theorem rL_law_1596 : am_rw mL_law 1596 = some (.aload_n 1, 1, 0, 0) := by decide +kernel
theorem rL_law_1597 : am_rw mL_law 1597 = some (.aload_n 0, 1, 0, 0) := by decide +kernel
theorem rL_law_1598 : am_rw mL_law 1598 = some (.iload 4, 2, 0, 0) := by decide +kernel
theorem rL_law_1600 : am_rw mL_law 1600 = some (.iconst 1, 1, 1, 0) := by decide +kernel
theorem rL_law_1601 : am_rw mL_law 1601 = some (.iadd, 1, 0, 0) := by decide +kernel
theorem rL_law_1602 : am_rw mL_law 1602 = some (.iaload, 1, 1, 0) := by decide +kernel
theorem rL_law_1603 : am_rw mL_law 1603 = some (.aload_n 3, 1, 0, 0) := by decide +kernel
theorem rL_law_1604 : am_rw mL_law 1604 = some (.invokestatic 194, 3, 212, 3) := by decide +kernel
theorem rL_law_1607 : am_rw mL_law 1607 = some (.istore 5, 2, 0, 0) := by decide +kernel
theorem rL_law_1609 : am_rw mL_law 1609 = some (.aload_n 2, 1, 0, 0) := by decide +kernel
theorem rL_law_1610 : am_rw mL_law 1610 = some (.aload_n 0, 1, 0, 0) := by decide +kernel
theorem rL_law_1611 : am_rw mL_law 1611 = some (.iload 4, 2, 0, 0) := by decide +kernel
theorem rL_law_1613 : am_rw mL_law 1613 = some (.iconst 1, 1, 1, 0) := by decide +kernel
theorem rL_law_1614 : am_rw mL_law 1614 = some (.iadd, 1, 0, 0) := by decide +kernel
theorem rL_law_1615 : am_rw mL_law 1615 = some (.iaload, 1, 1, 0) := by decide +kernel
theorem rL_law_1616 : am_rw mL_law 1616 = some (.invokevirtual 196, 3, 170, 2) := by decide +kernel
theorem rL_law_1619 : am_rw mL_law 1619 = some (.istore 6, 2, 0, 0) := by decide +kernel
theorem rL_law_1621 : am_rw mL_law 1621 = some (.aload_n 2, 1, 0, 0) := by decide +kernel
theorem rL_law_1622 : am_rw mL_law 1622 = some (.invokevirtual 108, 3, 101, 1) := by decide +kernel
theorem rL_law_1625 : am_rw mL_law 1625 = some (.iload 5, 2, 0, 0) := by decide +kernel
theorem rL_law_1627 : am_rw mL_law 1627 = some (.if_icmp .eq 5, 3, 1632, 0) := by decide +kernel
theorem rL_law_1630 : am_rw mL_law 1630 = some (.iconst 0, 1, 0, 0) := by decide +kernel
theorem rL_law_1631 : am_rw mL_law 1631 = some (.ireturn, 1, 0, 0) := by decide +kernel
theorem rL_law_1632 : am_rw mL_law 1632 = some (.iload 5, 2, 0, 0) := by decide +kernel
theorem rL_law_1634 : am_rw mL_law 1634 = some (.ifCond .ne 15, 3, 1649, 0) := by decide +kernel
theorem rL_law_1637 : am_rw mL_law 1637 = some (.aload_n 3, 1, 0, 0) := by decide +kernel
theorem rL_law_1638 : am_rw mL_law 1638 = some (.iconst 0, 1, 0, 0) := by decide +kernel
theorem rL_law_1639 : am_rw mL_law 1639 = some (.laload, 1, 0, 0) := by decide +kernel
theorem rL_law_1640 : am_rw mL_law 1640 = some (.iload 6, 2, 0, 0) := by decide +kernel
theorem rL_law_1642 : am_rw mL_law 1642 = some (.i2l, 1, 0, 0) := by decide +kernel
theorem rL_law_1643 : am_rw mL_law 1643 = some (.lcmp, 1, 0, 0) := by decide +kernel
theorem rL_law_1644 : am_rw mL_law 1644 = some (.ifCond .eq 5, 3, 1649, 0) := by decide +kernel
theorem rL_law_1647 : am_rw mL_law 1647 = some (.iconst 0, 1, 0, 0) := by decide +kernel
theorem rL_law_1648 : am_rw mL_law 1648 = some (.ireturn, 1, 0, 0) := by decide +kernel
theorem rL_law_1649 : am_rw mL_law 1649 = some (.goto 72, 3, 1721, 0) := by decide +kernel
theorem rL_law_1652 : am_rw mL_law 1652 = some (.aload_n 1, 1, 0, 0) := by decide +kernel
theorem rL_law_1653 : am_rw mL_law 1653 = some (.invokevirtual 197, 3, 86, 1) := by decide +kernel
theorem rL_law_1656 : am_rw mL_law 1656 = some (.aload_n 2, 1, 0, 0) := by decide +kernel
theorem rL_law_1657 : am_rw mL_law 1657 = some (.invokevirtual 200, 3, 171, 1) := by decide +kernel
theorem rL_law_1660 : am_rw mL_law 1660 = some (.if_icmp .eq 61, 3, 1721, 0) := by decide +kernel
theorem rL_law_1663 : am_rw mL_law 1663 = some (.iconst 0, 1, 0, 0) := by decide +kernel
theorem rL_law_1664 : am_rw mL_law 1664 = some (.ireturn, 1, 0, 0) := by decide +kernel
theorem rL_law_1665 : am_rw mL_law 1665 = some (.aload_n 1, 1, 0, 0) := by decide +kernel
theorem rL_law_1666 : am_rw mL_law 1666 = some (.aload_n 0, 1, 0, 0) := by decide +kernel
theorem rL_law_1667 : am_rw mL_law 1667 = some (.iload 4, 2, 0, 0) := by decide +kernel
theorem rL_law_1669 : am_rw mL_law 1669 = some (.iconst 1, 1, 1, 0) := by decide +kernel
theorem rL_law_1670 : am_rw mL_law 1670 = some (.iadd, 1, 0, 0) := by decide +kernel
theorem rL_law_1671 : am_rw mL_law 1671 = some (.iaload, 1, 1, 0) := by decide +kernel
theorem rL_law_1672 : am_rw mL_law 1672 = some (.aload_n 3, 1, 0, 0) := by decide +kernel
theorem rL_law_1673 : am_rw mL_law 1673 = some (.invokestatic 201, 3, 213, 3) := by decide +kernel
theorem rL_law_1676 : am_rw mL_law 1676 = some (.istore 5, 2, 0, 0) := by decide +kernel
theorem rL_law_1678 : am_rw mL_law 1678 = some (.aload_n 2, 1, 0, 0) := by decide +kernel
theorem rL_law_1679 : am_rw mL_law 1679 = some (.aload_n 0, 1, 0, 0) := by decide +kernel
theorem rL_law_1680 : am_rw mL_law 1680 = some (.iload 4, 2, 0, 0) := by decide +kernel
theorem rL_law_1682 : am_rw mL_law 1682 = some (.iconst 1, 1, 1, 0) := by decide +kernel
theorem rL_law_1683 : am_rw mL_law 1683 = some (.iadd, 1, 0, 0) := by decide +kernel
theorem rL_law_1684 : am_rw mL_law 1684 = some (.iaload, 1, 1, 0) := by decide +kernel
theorem rL_law_1685 : am_rw mL_law 1685 = some (.invokevirtual 203, 3, 175, 2) := by decide +kernel
theorem rL_law_1688 : am_rw mL_law 1688 = some (.istore 6, 2, 0, 0) := by decide +kernel
theorem rL_law_1690 : am_rw mL_law 1690 = some (.aload_n 2, 1, 0, 0) := by decide +kernel
theorem rL_law_1691 : am_rw mL_law 1691 = some (.invokevirtual 108, 3, 101, 1) := by decide +kernel
theorem rL_law_1694 : am_rw mL_law 1694 = some (.iload 5, 2, 0, 0) := by decide +kernel
theorem rL_law_1696 : am_rw mL_law 1696 = some (.if_icmp .eq 5, 3, 1701, 0) := by decide +kernel
theorem rL_law_1699 : am_rw mL_law 1699 = some (.iconst 0, 1, 0, 0) := by decide +kernel
theorem rL_law_1700 : am_rw mL_law 1700 = some (.ireturn, 1, 0, 0) := by decide +kernel
theorem rL_law_1701 : am_rw mL_law 1701 = some (.iload 5, 2, 0, 0) := by decide +kernel
theorem rL_law_1703 : am_rw mL_law 1703 = some (.ifCond .ne 15, 3, 1718, 0) := by decide +kernel
theorem rL_law_1706 : am_rw mL_law 1706 = some (.aload_n 3, 1, 0, 0) := by decide +kernel
theorem rL_law_1707 : am_rw mL_law 1707 = some (.iconst 0, 1, 0, 0) := by decide +kernel
theorem rL_law_1708 : am_rw mL_law 1708 = some (.laload, 1, 0, 0) := by decide +kernel
theorem rL_law_1709 : am_rw mL_law 1709 = some (.iload 6, 2, 0, 0) := by decide +kernel
theorem rL_law_1711 : am_rw mL_law 1711 = some (.i2l, 1, 0, 0) := by decide +kernel
theorem rL_law_1712 : am_rw mL_law 1712 = some (.lcmp, 1, 0, 0) := by decide +kernel
theorem rL_law_1713 : am_rw mL_law 1713 = some (.ifCond .eq 5, 3, 1718, 0) := by decide +kernel
theorem rL_law_1716 : am_rw mL_law 1716 = some (.iconst 0, 1, 0, 0) := by decide +kernel
theorem rL_law_1717 : am_rw mL_law 1717 = some (.ireturn, 1, 0, 0) := by decide +kernel
theorem rL_law_1718 : am_rw mL_law 1718 = some (.goto 3, 3, 1721, 0) := by decide +kernel
theorem rL_law_1721 : am_rw mL_law 1721 = some (.iinc 4 5, 3, 0, 0) := by decide +kernel
theorem rL_law_1724 : am_rw mL_law 1724 = some (.goto (-1701), 3, 23, 0) := by decide +kernel
theorem rL_law_1727 : am_rw mL_law 1727 = some (.iconst 1, 1, 1, 0) := by decide +kernel
theorem rL_law_1728 : am_rw mL_law 1728 = some (.ireturn, 1, 0, 0) := by decide +kernel
