theorem twd_tl_within_0 : decode prog_1_method_21_code 0 = .ok (.iload_n 0, 1) := by decide +kernel
theorem twd_tl_within_1 : decode prog_1_method_21_code 1 = .ok (.iload_n 1, 1) := by decide +kernel
theorem twd_tl_within_2 : decode prog_1_method_21_code 2 = .ok (.if_icmp .lt 12, 3) := by decide +kernel
theorem twd_tl_within_5 : decode prog_1_method_21_code 5 = .ok (.iload_n 0, 1) := by decide +kernel
theorem twd_tl_within_6 : decode prog_1_method_21_code 6 = .ok (.iload_n 2, 1) := by decide +kernel
theorem twd_tl_within_7 : decode prog_1_method_21_code 7 = .ok (.if_icmp .gt 7, 3) := by decide +kernel
theorem twd_tl_within_10 : decode prog_1_method_21_code 10 = .ok (.iconst 1, 1) := by decide +kernel
theorem twd_tl_within_11 : decode prog_1_method_21_code 11 = .ok (.goto 4, 3) := by decide +kernel
theorem twd_tl_within_14 : decode prog_1_method_21_code 14 = .ok (.iconst 0, 1) := by decide +kernel
theorem twd_tl_within_15 : decode prog_1_method_21_code 15 = .ok (.ireturn, 1) := by decide +kernel
theorem twk_tl_within : tw_dc twy_tl_within 3 := ⟨by decide +kernel, by decide +kernel, by decide +kernel⟩
theorem twd_pa_append_0 : decode prog_7_method_2_code 0 = .ok (.aload_n 0, 1) := by decide +kernel
theorem twd_pa_append_1 : decode prog_7_method_2_code 1 = .ok (.getfield 24, 3) := by decide +kernel
theorem twd_pa_append_4 : decode prog_7_method_2_code 4 = .ok (.bipush 64, 2) := by decide +kernel
theorem twd_pa_append_6 : decode prog_7_method_2_code 6 = .ok (.if_icmp .lt 5, 3) := by decide +kernel
theorem twd_pa_append_9 : decode prog_7_method_2_code 9 = .ok (.iconst 0, 1) := by decide +kernel
theorem twd_pa_append_10 : decode prog_7_method_2_code 10 = .ok (.ireturn, 1) := by decide +kernel
theorem twd_pa_append_11 : decode prog_7_method_2_code 11 = .ok (.aload_n 0, 1) := by decide +kernel
theorem twd_pa_append_12 : decode prog_7_method_2_code 12 = .ok (.getfield 9, 3) := by decide +kernel
theorem twd_pa_append_15 : decode prog_7_method_2_code 15 = .ok (.aload_n 0, 1) := by decide +kernel
theorem twd_pa_append_16 : decode prog_7_method_2_code 16 = .ok (.getfield 24, 3) := by decide +kernel
theorem twd_pa_append_19 : decode prog_7_method_2_code 19 = .ok (.iload_n 1, 1) := by decide +kernel
theorem twd_pa_append_20 : decode prog_7_method_2_code 20 = .ok (.iastore, 1) := by decide +kernel
theorem twd_pa_append_21 : decode prog_7_method_2_code 21 = .ok (.aload_n 0, 1) := by decide +kernel
theorem twd_pa_append_22 : decode prog_7_method_2_code 22 = .ok (.getfield 15, 3) := by decide +kernel
theorem twd_pa_append_25 : decode prog_7_method_2_code 25 = .ok (.aload_n 0, 1) := by decide +kernel
theorem twd_pa_append_26 : decode prog_7_method_2_code 26 = .ok (.getfield 24, 3) := by decide +kernel
theorem twd_pa_append_29 : decode prog_7_method_2_code 29 = .ok (.iload_n 2, 1) := by decide +kernel
theorem twd_pa_append_30 : decode prog_7_method_2_code 30 = .ok (.iastore, 1) := by decide +kernel
theorem twd_pa_append_31 : decode prog_7_method_2_code 31 = .ok (.aload_n 0, 1) := by decide +kernel
theorem twd_pa_append_32 : decode prog_7_method_2_code 32 = .ok (.getfield 18, 3) := by decide +kernel
theorem twd_pa_append_35 : decode prog_7_method_2_code 35 = .ok (.aload_n 0, 1) := by decide +kernel
theorem twd_pa_append_36 : decode prog_7_method_2_code 36 = .ok (.getfield 24, 3) := by decide +kernel
theorem twd_pa_append_39 : decode prog_7_method_2_code 39 = .ok (.iload_n 1, 1) := by decide +kernel
theorem twd_pa_append_40 : decode prog_7_method_2_code 40 = .ok (.bipush 12, 2) := by decide +kernel
theorem twd_pa_append_42 : decode prog_7_method_2_code 42 = .ok (.if_icmp .lt 7, 3) := by decide +kernel
theorem twd_pa_append_45 : decode prog_7_method_2_code 45 = .ok (.iconst 0, 1) := by decide +kernel
theorem twd_pa_append_46 : decode prog_7_method_2_code 46 = .ok (.goto 4, 3) := by decide +kernel
theorem twd_pa_append_49 : decode prog_7_method_2_code 49 = .ok (.iload_n 3, 1) := by decide +kernel
theorem twd_pa_append_50 : decode prog_7_method_2_code 50 = .ok (.iastore, 1) := by decide +kernel
theorem twd_pa_append_51 : decode prog_7_method_2_code 51 = .ok (.aload_n 0, 1) := by decide +kernel
theorem twd_pa_append_52 : decode prog_7_method_2_code 52 = .ok (.getfield 21, 3) := by decide +kernel
theorem twd_pa_append_55 : decode prog_7_method_2_code 55 = .ok (.aload_n 0, 1) := by decide +kernel
theorem twd_pa_append_56 : decode prog_7_method_2_code 56 = .ok (.getfield 24, 3) := by decide +kernel
theorem twd_pa_append_59 : decode prog_7_method_2_code 59 = .ok (.iload_n 1, 1) := by decide +kernel
theorem twd_pa_append_60 : decode prog_7_method_2_code 60 = .ok (.bipush 11, 2) := by decide +kernel
theorem twd_pa_append_62 : decode prog_7_method_2_code 62 = .ok (.if_icmp .ne 8, 3) := by decide +kernel
theorem twd_pa_append_65 : decode prog_7_method_2_code 65 = .ok (.iload 4, 2) := by decide +kernel
theorem twd_pa_append_67 : decode prog_7_method_2_code 67 = .ok (.goto 4, 3) := by decide +kernel
theorem twd_pa_append_70 : decode prog_7_method_2_code 70 = .ok (.iconst 0, 1) := by decide +kernel
theorem twd_pa_append_71 : decode prog_7_method_2_code 71 = .ok (.iastore, 1) := by decide +kernel
theorem twd_pa_append_72 : decode prog_7_method_2_code 72 = .ok (.aload_n 0, 1) := by decide +kernel
theorem twd_pa_append_73 : decode prog_7_method_2_code 73 = .ok (.dup, 1) := by decide +kernel
theorem twd_pa_append_74 : decode prog_7_method_2_code 74 = .ok (.getfield 24, 3) := by decide +kernel
theorem twd_pa_append_77 : decode prog_7_method_2_code 77 = .ok (.iconst 1, 1) := by decide +kernel
theorem twd_pa_append_78 : decode prog_7_method_2_code 78 = .ok (.iadd, 1) := by decide +kernel
theorem twd_pa_append_79 : decode prog_7_method_2_code 79 = .ok (.putfield 24, 3) := by decide +kernel
theorem twd_pa_append_82 : decode prog_7_method_2_code 82 = .ok (.iconst 1, 1) := by decide +kernel
theorem twd_pa_append_83 : decode prog_7_method_2_code 83 = .ok (.ireturn, 1) := by decide +kernel
theorem twk_pa_append : tw_dc twy_pa_append 4 := ⟨by decide +kernel, by decide +kernel, by decide +kernel⟩
theorem twd_tl_add_0 : decode prog_1_method_2_code 0 = .ok (.iload_n 1, 1) := by decide +kernel
theorem twd_tl_add_1 : decode prog_1_method_2_code 1 = .ok (.iconst 0, 1) := by decide +kernel
theorem twd_tl_add_2 : decode prog_1_method_2_code 2 = .ok (.bipush 20, 2) := by decide +kernel
theorem twd_tl_add_4 : decode prog_1_method_2_code 4 = .ok (.invokestatic 45, 3) := by decide +kernel
theorem twd_tl_add_7 : decode prog_1_method_2_code 7 = .ok (.ifCond .eq 13, 3) := by decide +kernel
theorem twd_tl_add_10 : decode prog_1_method_2_code 10 = .ok (.iload_n 2, 1) := by decide +kernel
theorem twd_tl_add_11 : decode prog_1_method_2_code 11 = .ok (.iconst 0, 1) := by decide +kernel
theorem twd_tl_add_12 : decode prog_1_method_2_code 12 = .ok (.bipush 6, 2) := by decide +kernel
theorem twd_tl_add_14 : decode prog_1_method_2_code 14 = .ok (.invokestatic 45, 3) := by decide +kernel
theorem twd_tl_add_17 : decode prog_1_method_2_code 17 = .ok (.ifCond .ne 5, 3) := by decide +kernel
theorem twd_tl_add_20 : decode prog_1_method_2_code 20 = .ok (.iconst 0, 1) := by decide +kernel
theorem twd_tl_add_21 : decode prog_1_method_2_code 21 = .ok (.ireturn, 1) := by decide +kernel
theorem twd_tl_add_22 : decode prog_1_method_2_code 22 = .ok (.iload_n 3, 1) := by decide +kernel
theorem twd_tl_add_23 : decode prog_1_method_2_code 23 = .ok (.iconst 0, 1) := by decide +kernel
theorem twd_tl_add_24 : decode prog_1_method_2_code 24 = .ok (.iconst 3, 1) := by decide +kernel
theorem twd_tl_add_25 : decode prog_1_method_2_code 25 = .ok (.invokestatic 45, 3) := by decide +kernel
theorem twd_tl_add_28 : decode prog_1_method_2_code 28 = .ok (.ifCond .eq 14, 3) := by decide +kernel
theorem twd_tl_add_31 : decode prog_1_method_2_code 31 = .ok (.iload 4, 2) := by decide +kernel
theorem twd_tl_add_33 : decode prog_1_method_2_code 33 = .ok (.bipush (-3), 2) := by decide +kernel
theorem twd_tl_add_35 : decode prog_1_method_2_code 35 = .ok (.iconst 3, 1) := by decide +kernel
theorem twd_tl_add_36 : decode prog_1_method_2_code 36 = .ok (.invokestatic 45, 3) := by decide +kernel
theorem twd_tl_add_39 : decode prog_1_method_2_code 39 = .ok (.ifCond .ne 5, 3) := by decide +kernel
theorem twd_tl_add_42 : decode prog_1_method_2_code 42 = .ok (.iconst 0, 1) := by decide +kernel
theorem twd_tl_add_43 : decode prog_1_method_2_code 43 = .ok (.ireturn, 1) := by decide +kernel
theorem twd_tl_add_44 : decode prog_1_method_2_code 44 = .ok (.aload_n 0, 1) := by decide +kernel
theorem twd_tl_add_45 : decode prog_1_method_2_code 45 = .ok (.getfield 10, 3) := by decide +kernel
theorem twd_tl_add_48 : decode prog_1_method_2_code 48 = .ok (.iload_n 1, 1) := by decide +kernel
theorem twd_tl_add_49 : decode prog_1_method_2_code 49 = .ok (.iload_n 2, 1) := by decide +kernel
theorem twd_tl_add_50 : decode prog_1_method_2_code 50 = .ok (.iload_n 3, 1) := by decide +kernel
theorem twd_tl_add_51 : decode prog_1_method_2_code 51 = .ok (.iload 4, 2) := by decide +kernel
theorem twd_tl_add_53 : decode prog_1_method_2_code 53 = .ok (.invokevirtual 49, 3) := by decide +kernel
theorem twd_tl_add_56 : decode prog_1_method_2_code 56 = .ok (.ifCond .ne 5, 3) := by decide +kernel
theorem twd_tl_add_59 : decode prog_1_method_2_code 59 = .ok (.iconst 0, 1) := by decide +kernel
theorem twd_tl_add_60 : decode prog_1_method_2_code 60 = .ok (.ireturn, 1) := by decide +kernel
theorem twd_tl_add_61 : decode prog_1_method_2_code 61 = .ok (.aload_n 0, 1) := by decide +kernel
theorem twd_tl_add_62 : decode prog_1_method_2_code 62 = .ok (.iconst 1, 1) := by decide +kernel
theorem twd_tl_add_63 : decode prog_1_method_2_code 63 = .ok (.putfield 41, 3) := by decide +kernel
theorem twd_tl_add_66 : decode prog_1_method_2_code 66 = .ok (.iconst 1, 1) := by decide +kernel
theorem twd_tl_add_67 : decode prog_1_method_2_code 67 = .ok (.ireturn, 1) := by decide +kernel
theorem twk_tl_add : tw_dc twy_tl_add 4 := ⟨by decide +kernel, by decide +kernel, by decide +kernel⟩
theorem twd_tl_drop_0 : decode prog_1_method_3_code 0 = .ok (.aload_n 0, 1) := by decide +kernel
theorem twd_tl_drop_1 : decode prog_1_method_3_code 1 = .ok (.getfield 10, 3) := by decide +kernel
theorem twd_tl_drop_4 : decode prog_1_method_3_code 4 = .ok (.getfield 53, 3) := by decide +kernel
theorem twd_tl_drop_7 : decode prog_1_method_3_code 7 = .ok (.ifCond .ne 5, 3) := by decide +kernel
theorem twd_tl_drop_10 : decode prog_1_method_3_code 10 = .ok (.iconst 0, 1) := by decide +kernel
theorem twd_tl_drop_11 : decode prog_1_method_3_code 11 = .ok (.ireturn, 1) := by decide +kernel
theorem twd_tl_drop_12 : decode prog_1_method_3_code 12 = .ok (.aload_n 0, 1) := by decide +kernel
theorem twd_tl_drop_13 : decode prog_1_method_3_code 13 = .ok (.getfield 10, 3) := by decide +kernel
theorem twd_tl_drop_16 : decode prog_1_method_3_code 16 = .ok (.dup, 1) := by decide +kernel
theorem twd_tl_drop_17 : decode prog_1_method_3_code 17 = .ok (.getfield 53, 3) := by decide +kernel
theorem twd_tl_drop_20 : decode prog_1_method_3_code 20 = .ok (.iconst 1, 1) := by decide +kernel
theorem twd_tl_drop_21 : decode prog_1_method_3_code 21 = .ok (.isub, 1) := by decide +kernel
theorem twd_tl_drop_22 : decode prog_1_method_3_code 22 = .ok (.putfield 53, 3) := by decide +kernel
theorem twd_tl_drop_25 : decode prog_1_method_3_code 25 = .ok (.aload_n 0, 1) := by decide +kernel
theorem twd_tl_drop_26 : decode prog_1_method_3_code 26 = .ok (.iconst 1, 1) := by decide +kernel
theorem twd_tl_drop_27 : decode prog_1_method_3_code 27 = .ok (.putfield 41, 3) := by decide +kernel
theorem twd_tl_drop_30 : decode prog_1_method_3_code 30 = .ok (.iconst 1, 1) := by decide +kernel
theorem twd_tl_drop_31 : decode prog_1_method_3_code 31 = .ok (.ireturn, 1) := by decide +kernel
theorem twk_tl_drop : tw_dc twy_tl_drop 0 := ⟨by decide +kernel, by decide +kernel, by decide +kernel⟩
theorem twd_tl_clear_0 : decode prog_1_method_4_code 0 = .ok (.aload_n 0, 1) := by decide +kernel
theorem twd_tl_clear_1 : decode prog_1_method_4_code 1 = .ok (.getfield 10, 3) := by decide +kernel
theorem twd_tl_clear_4 : decode prog_1_method_4_code 4 = .ok (.iconst 0, 1) := by decide +kernel
theorem twd_tl_clear_5 : decode prog_1_method_4_code 5 = .ok (.putfield 53, 3) := by decide +kernel
theorem twd_tl_clear_8 : decode prog_1_method_4_code 8 = .ok (.aload_n 0, 1) := by decide +kernel
theorem twd_tl_clear_9 : decode prog_1_method_4_code 9 = .ok (.iconst 1, 1) := by decide +kernel
theorem twd_tl_clear_10 : decode prog_1_method_4_code 10 = .ok (.putfield 41, 3) := by decide +kernel
theorem twd_tl_clear_13 : decode prog_1_method_4_code 13 = .ok (.return_, 1) := by decide +kernel
theorem twk_tl_clear : tw_dc twy_tl_clear 0 := ⟨by decide +kernel, by decide +kernel, by decide +kernel⟩
theorem twd_tl_base_0 : decode prog_1_method_5_code 0 = .ok (.iload_n 1, 1) := by decide +kernel
theorem twd_tl_base_1 : decode prog_1_method_5_code 1 = .ok (.iconst 0, 1) := by decide +kernel
theorem twd_tl_base_2 : decode prog_1_method_5_code 2 = .ok (.iconst 2, 1) := by decide +kernel
theorem twd_tl_base_3 : decode prog_1_method_5_code 3 = .ok (.invokestatic 45, 3) := by decide +kernel
theorem twd_tl_base_6 : decode prog_1_method_5_code 6 = .ok (.ifCond .ne 5, 3) := by decide +kernel
theorem twd_tl_base_9 : decode prog_1_method_5_code 9 = .ok (.iconst 0, 1) := by decide +kernel
theorem twd_tl_base_10 : decode prog_1_method_5_code 10 = .ok (.ireturn, 1) := by decide +kernel
theorem twd_tl_base_11 : decode prog_1_method_5_code 11 = .ok (.aload_n 0, 1) := by decide +kernel
theorem twd_tl_base_12 : decode prog_1_method_5_code 12 = .ok (.getfield 10, 3) := by decide +kernel
theorem twd_tl_base_15 : decode prog_1_method_5_code 15 = .ok (.iload_n 1, 1) := by decide +kernel
theorem twd_tl_base_16 : decode prog_1_method_5_code 16 = .ok (.putfield 56, 3) := by decide +kernel
theorem twd_tl_base_19 : decode prog_1_method_5_code 19 = .ok (.aload_n 0, 1) := by decide +kernel
theorem twd_tl_base_20 : decode prog_1_method_5_code 20 = .ok (.iconst 1, 1) := by decide +kernel
theorem twd_tl_base_21 : decode prog_1_method_5_code 21 = .ok (.putfield 41, 3) := by decide +kernel
theorem twd_tl_base_24 : decode prog_1_method_5_code 24 = .ok (.iconst 1, 1) := by decide +kernel
theorem twd_tl_base_25 : decode prog_1_method_5_code 25 = .ok (.ireturn, 1) := by decide +kernel
theorem twk_tl_base : tw_dc twy_tl_base 1 := ⟨by decide +kernel, by decide +kernel, by decide +kernel⟩
theorem twd_tl_measure_0 : decode prog_1_method_6_code 0 = .ok (.iload_n 1, 1) := by decide +kernel
theorem twd_tl_measure_1 : decode prog_1_method_6_code 1 = .ok (.iconst 1, 1) := by decide +kernel
theorem twd_tl_measure_2 : decode prog_1_method_6_code 2 = .ok (.bipush 100, 2) := by decide +kernel
theorem twd_tl_measure_4 : decode prog_1_method_6_code 4 = .ok (.invokestatic 45, 3) := by decide +kernel
theorem twd_tl_measure_7 : decode prog_1_method_6_code 7 = .ok (.ifCond .ne 5, 3) := by decide +kernel
theorem twd_tl_measure_10 : decode prog_1_method_6_code 10 = .ok (.iconst 0, 1) := by decide +kernel
theorem twd_tl_measure_11 : decode prog_1_method_6_code 11 = .ok (.ireturn, 1) := by decide +kernel
theorem twd_tl_measure_12 : decode prog_1_method_6_code 12 = .ok (.aload_n 0, 1) := by decide +kernel
theorem twd_tl_measure_13 : decode prog_1_method_6_code 13 = .ok (.iload_n 1, 1) := by decide +kernel
theorem twd_tl_measure_14 : decode prog_1_method_6_code 14 = .ok (.putfield 37, 3) := by decide +kernel
theorem twd_tl_measure_17 : decode prog_1_method_6_code 17 = .ok (.aload_n 0, 1) := by decide +kernel
theorem twd_tl_measure_18 : decode prog_1_method_6_code 18 = .ok (.iconst 1, 1) := by decide +kernel
theorem twd_tl_measure_19 : decode prog_1_method_6_code 19 = .ok (.putfield 41, 3) := by decide +kernel
theorem twd_tl_measure_22 : decode prog_1_method_6_code 22 = .ok (.iconst 1, 1) := by decide +kernel
theorem twd_tl_measure_23 : decode prog_1_method_6_code 23 = .ok (.ireturn, 1) := by decide +kernel
theorem twk_tl_measure : tw_dc twy_tl_measure 1 := ⟨by decide +kernel, by decide +kernel, by decide +kernel⟩
theorem twd_tl_length_0 : decode prog_1_method_7_code 0 = .ok (.aload_n 0, 1) := by decide +kernel
theorem twd_tl_length_1 : decode prog_1_method_7_code 1 = .ok (.getfield 10, 3) := by decide +kernel
theorem twd_tl_length_4 : decode prog_1_method_7_code 4 = .ok (.getfield 53, 3) := by decide +kernel
theorem twd_tl_length_7 : decode prog_1_method_7_code 7 = .ok (.ireturn, 1) := by decide +kernel
theorem twk_tl_length : tw_dc twy_tl_length 0 := ⟨by decide +kernel, by decide +kernel, by decide +kernel⟩
theorem twd_tl_isOpener_0 : decode prog_1_method_24_code 0 = .ok (.iload_n 0, 1) := by decide +kernel
theorem twd_tl_isOpener_1 : decode prog_1_method_24_code 1 = .ok (.bipush 17, 2) := by decide +kernel
theorem twd_tl_isOpener_3 : decode prog_1_method_24_code 3 = .ok (.if_icmp .lt 13, 3) := by decide +kernel
theorem twd_tl_isOpener_6 : decode prog_1_method_24_code 6 = .ok (.iload_n 0, 1) := by decide +kernel
theorem twd_tl_isOpener_7 : decode prog_1_method_24_code 7 = .ok (.bipush 19, 2) := by decide +kernel
theorem twd_tl_isOpener_9 : decode prog_1_method_24_code 9 = .ok (.if_icmp .gt 7, 3) := by decide +kernel
theorem twd_tl_isOpener_12 : decode prog_1_method_24_code 12 = .ok (.iconst 1, 1) := by decide +kernel
theorem twd_tl_isOpener_13 : decode prog_1_method_24_code 13 = .ok (.goto 4, 3) := by decide +kernel
theorem twd_tl_isOpener_16 : decode prog_1_method_24_code 16 = .ok (.iconst 0, 1) := by decide +kernel
theorem twd_tl_isOpener_17 : decode prog_1_method_24_code 17 = .ok (.ireturn, 1) := by decide +kernel
theorem twk_tl_isOpener : tw_dc twy_tl_isOpener 1 := ⟨by decide +kernel, by decide +kernel, by decide +kernel⟩
theorem twd_ma_find_0 : decode prog_6_method_2_code 0 = .ok (.iconst 0, 1) := by decide +kernel
theorem twd_ma_find_1 : decode prog_6_method_2_code 1 = .ok (.istore_n 2, 1) := by decide +kernel
theorem twd_ma_find_2 : decode prog_6_method_2_code 2 = .ok (.iconst 0, 1) := by decide +kernel
theorem twd_ma_find_3 : decode prog_6_method_2_code 3 = .ok (.istore_n 3, 1) := by decide +kernel
theorem twd_ma_find_4 : decode prog_6_method_2_code 4 = .ok (.iload_n 3, 1) := by decide +kernel
theorem twd_ma_find_5 : decode prog_6_method_2_code 5 = .ok (.aload_n 1, 1) := by decide +kernel
theorem twd_ma_find_6 : decode prog_6_method_2_code 6 = .ok (.getfield 18, 3) := by decide +kernel
theorem twd_ma_find_9 : decode prog_6_method_2_code 9 = .ok (.if_icmp .ge 83, 3) := by decide +kernel
theorem twd_ma_find_12 : decode prog_6_method_2_code 12 = .ok (.aload_n 1, 1) := by decide +kernel
theorem twd_ma_find_13 : decode prog_6_method_2_code 13 = .ok (.getfield 24, 3) := by decide +kernel
theorem twd_ma_find_16 : decode prog_6_method_2_code 16 = .ok (.iload_n 3, 1) := by decide +kernel
theorem twd_ma_find_17 : decode prog_6_method_2_code 17 = .ok (.iaload, 1) := by decide +kernel
theorem twd_ma_find_18 : decode prog_6_method_2_code 18 = .ok (.istore 4, 2) := by decide +kernel
theorem twd_ma_find_20 : decode prog_6_method_2_code 20 = .ok (.aload_n 0, 1) := by decide +kernel
theorem twd_ma_find_21 : decode prog_6_method_2_code 21 = .ok (.getfield 9, 3) := by decide +kernel
theorem twd_ma_find_24 : decode prog_6_method_2_code 24 = .ok (.iload_n 3, 1) := by decide +kernel
theorem twd_ma_find_25 : decode prog_6_method_2_code 25 = .ok (.iconst (-1), 1) := by decide +kernel
theorem twd_ma_find_26 : decode prog_6_method_2_code 26 = .ok (.iastore, 1) := by decide +kernel
theorem twd_ma_find_27 : decode prog_6_method_2_code 27 = .ok (.iload 4, 2) := by decide +kernel
theorem twd_ma_find_29 : decode prog_6_method_2_code 29 = .ok (.invokestatic 27, 3) := by decide +kernel
theorem twd_ma_find_32 : decode prog_6_method_2_code 32 = .ok (.ifCond .eq 16, 3) := by decide +kernel
theorem twd_ma_find_35 : decode prog_6_method_2_code 35 = .ok (.aload_n 0, 1) := by decide +kernel
theorem twd_ma_find_36 : decode prog_6_method_2_code 36 = .ok (.getfield 15, 3) := by decide +kernel
theorem twd_ma_find_39 : decode prog_6_method_2_code 39 = .ok (.iload_n 2, 1) := by decide +kernel
theorem twd_ma_find_40 : decode prog_6_method_2_code 40 = .ok (.iload_n 3, 1) := by decide +kernel
theorem twd_ma_find_41 : decode prog_6_method_2_code 41 = .ok (.iastore, 1) := by decide +kernel
theorem twd_ma_find_42 : decode prog_6_method_2_code 42 = .ok (.iinc 2 1, 3) := by decide +kernel
theorem twd_ma_find_45 : decode prog_6_method_2_code 45 = .ok (.goto 41, 3) := by decide +kernel
theorem twd_ma_find_48 : decode prog_6_method_2_code 48 = .ok (.iload 4, 2) := by decide +kernel
theorem twd_ma_find_50 : decode prog_6_method_2_code 50 = .ok (.bipush 20, 2) := by decide +kernel
theorem twd_ma_find_52 : decode prog_6_method_2_code 52 = .ok (.if_icmp .ne 34, 3) := by decide +kernel
theorem twd_ma_find_55 : decode prog_6_method_2_code 55 = .ok (.iload_n 2, 1) := by decide +kernel
theorem twd_ma_find_56 : decode prog_6_method_2_code 56 = .ok (.ifCond .le 30, 3) := by decide +kernel
theorem twd_ma_find_59 : decode prog_6_method_2_code 59 = .ok (.iinc 2 (-1), 3) := by decide +kernel
theorem twd_ma_find_62 : decode prog_6_method_2_code 62 = .ok (.aload_n 0, 1) := by decide +kernel
theorem twd_ma_find_63 : decode prog_6_method_2_code 63 = .ok (.getfield 15, 3) := by decide +kernel
theorem twd_ma_find_66 : decode prog_6_method_2_code 66 = .ok (.iload_n 2, 1) := by decide +kernel
theorem twd_ma_find_67 : decode prog_6_method_2_code 67 = .ok (.iaload, 1) := by decide +kernel
theorem twd_ma_find_68 : decode prog_6_method_2_code 68 = .ok (.istore 5, 2) := by decide +kernel
theorem twd_ma_find_70 : decode prog_6_method_2_code 70 = .ok (.aload_n 0, 1) := by decide +kernel
theorem twd_ma_find_71 : decode prog_6_method_2_code 71 = .ok (.getfield 9, 3) := by decide +kernel
theorem twd_ma_find_74 : decode prog_6_method_2_code 74 = .ok (.iload 5, 2) := by decide +kernel
theorem twd_ma_find_76 : decode prog_6_method_2_code 76 = .ok (.iload_n 3, 1) := by decide +kernel
theorem twd_ma_find_77 : decode prog_6_method_2_code 77 = .ok (.iastore, 1) := by decide +kernel
theorem twd_ma_find_78 : decode prog_6_method_2_code 78 = .ok (.aload_n 0, 1) := by decide +kernel
theorem twd_ma_find_79 : decode prog_6_method_2_code 79 = .ok (.getfield 9, 3) := by decide +kernel
theorem twd_ma_find_82 : decode prog_6_method_2_code 82 = .ok (.iload_n 3, 1) := by decide +kernel
theorem twd_ma_find_83 : decode prog_6_method_2_code 83 = .ok (.iload 5, 2) := by decide +kernel
theorem twd_ma_find_85 : decode prog_6_method_2_code 85 = .ok (.iastore, 1) := by decide +kernel
theorem twd_ma_find_86 : decode prog_6_method_2_code 86 = .ok (.iinc 3 1, 3) := by decide +kernel
theorem twd_ma_find_89 : decode prog_6_method_2_code 89 = .ok (.goto (-85), 3) := by decide +kernel
theorem twd_ma_find_92 : decode prog_6_method_2_code 92 = .ok (.return_, 1) := by decide +kernel
theorem twk_ma_find : tw_dc twy_ma_find 1 := ⟨by decide +kernel, by decide +kernel, by decide +kernel⟩
theorem twd_ma_direction_0 : decode prog_6_method_3_code 0 = .ok (.iload_n 2, 1) := by decide +kernel
theorem twd_ma_direction_1 : decode prog_6_method_3_code 1 = .ok (.istore 4, 2) := by decide +kernel
theorem twd_ma_direction_3 : decode prog_6_method_3_code 3 = .ok (.iload_n 2, 1) := by decide +kernel
theorem twd_ma_direction_4 : decode prog_6_method_3_code 4 = .ok (.istore 5, 2) := by decide +kernel
theorem twd_ma_direction_6 : decode prog_6_method_3_code 6 = .ok (.iload 5, 2) := by decide +kernel
theorem twd_ma_direction_8 : decode prog_6_method_3_code 8 = .ok (.iload_n 3, 1) := by decide +kernel
theorem twd_ma_direction_9 : decode prog_6_method_3_code 9 = .ok (.if_icmp .ge 81, 3) := by decide +kernel
theorem twd_ma_direction_12 : decode prog_6_method_3_code 12 = .ok (.iload 5, 2) := by decide +kernel
theorem twd_ma_direction_14 : decode prog_6_method_3_code 14 = .ok (.iload 4, 2) := by decide +kernel
theorem twd_ma_direction_16 : decode prog_6_method_3_code 16 = .ok (.if_icmp .ge 6, 3) := by decide +kernel
theorem twd_ma_direction_19 : decode prog_6_method_3_code 19 = .ok (.goto 65, 3) := by decide +kernel
theorem twd_ma_direction_22 : decode prog_6_method_3_code 22 = .ok (.aload_n 1, 1) := by decide +kernel
theorem twd_ma_direction_23 : decode prog_6_method_3_code 23 = .ok (.getfield 24, 3) := by decide +kernel
theorem twd_ma_direction_26 : decode prog_6_method_3_code 26 = .ok (.iload 5, 2) := by decide +kernel
theorem twd_ma_direction_28 : decode prog_6_method_3_code 28 = .ok (.iaload, 1) := by decide +kernel
theorem twd_ma_direction_29 : decode prog_6_method_3_code 29 = .ok (.istore 6, 2) := by decide +kernel
theorem twd_ma_direction_31 : decode prog_6_method_3_code 31 = .ok (.iload 6, 2) := by decide +kernel
theorem twd_ma_direction_33 : decode prog_6_method_3_code 33 = .ok (.ifCond .ne 5, 3) := by decide +kernel
theorem twd_ma_direction_36 : decode prog_6_method_3_code 36 = .ok (.iconst 0, 1) := by decide +kernel
theorem twd_ma_direction_37 : decode prog_6_method_3_code 37 = .ok (.ireturn, 1) := by decide +kernel
theorem twd_ma_direction_38 : decode prog_6_method_3_code 38 = .ok (.iload 6, 2) := by decide +kernel
theorem twd_ma_direction_40 : decode prog_6_method_3_code 40 = .ok (.iconst 1, 1) := by decide +kernel
theorem twd_ma_direction_41 : decode prog_6_method_3_code 41 = .ok (.if_icmp .eq 9, 3) := by decide +kernel
theorem twd_ma_direction_44 : decode prog_6_method_3_code 44 = .ok (.iload 6, 2) := by decide +kernel
theorem twd_ma_direction_46 : decode prog_6_method_3_code 46 = .ok (.iconst 2, 1) := by decide +kernel
theorem twd_ma_direction_47 : decode prog_6_method_3_code 47 = .ok (.if_icmp .ne 5, 3) := by decide +kernel
theorem twd_ma_direction_50 : decode prog_6_method_3_code 50 = .ok (.iconst 1, 1) := by decide +kernel
theorem twd_ma_direction_51 : decode prog_6_method_3_code 51 = .ok (.ireturn, 1) := by decide +kernel
theorem twd_ma_direction_52 : decode prog_6_method_3_code 52 = .ok (.iload 6, 2) := by decide +kernel
theorem twd_ma_direction_54 : decode prog_6_method_3_code 54 = .ok (.invokestatic 27, 3) := by decide +kernel
theorem twd_ma_direction_57 : decode prog_6_method_3_code 57 = .ok (.ifCond .eq 27, 3) := by decide +kernel
theorem twd_ma_direction_60 : decode prog_6_method_3_code 60 = .ok (.aload_n 0, 1) := by decide +kernel
theorem twd_ma_direction_61 : decode prog_6_method_3_code 61 = .ok (.getfield 9, 3) := by decide +kernel
theorem twd_ma_direction_64 : decode prog_6_method_3_code 64 = .ok (.iload 5, 2) := by decide +kernel
theorem twd_ma_direction_66 : decode prog_6_method_3_code 66 = .ok (.iaload, 1) := by decide +kernel
theorem twd_ma_direction_67 : decode prog_6_method_3_code 67 = .ok (.iconst (-1), 1) := by decide +kernel
theorem twd_ma_direction_68 : decode prog_6_method_3_code 68 = .ok (.if_icmp .ne 5, 3) := by decide +kernel
theorem twd_ma_direction_71 : decode prog_6_method_3_code 71 = .ok (.iconst 0, 1) := by decide +kernel
theorem twd_ma_direction_72 : decode prog_6_method_3_code 72 = .ok (.ireturn, 1) := by decide +kernel
theorem twd_ma_direction_73 : decode prog_6_method_3_code 73 = .ok (.aload_n 0, 1) := by decide +kernel
theorem twd_ma_direction_74 : decode prog_6_method_3_code 74 = .ok (.getfield 9, 3) := by decide +kernel
theorem twd_ma_direction_77 : decode prog_6_method_3_code 77 = .ok (.iload 5, 2) := by decide +kernel
theorem twd_ma_direction_79 : decode prog_6_method_3_code 79 = .ok (.iaload, 1) := by decide +kernel
theorem twd_ma_direction_80 : decode prog_6_method_3_code 80 = .ok (.iconst 1, 1) := by decide +kernel
theorem twd_ma_direction_81 : decode prog_6_method_3_code 81 = .ok (.iadd, 1) := by decide +kernel
theorem twd_ma_direction_82 : decode prog_6_method_3_code 82 = .ok (.istore 4, 2) := by decide +kernel
theorem twd_ma_direction_84 : decode prog_6_method_3_code 84 = .ok (.iinc 5 1, 3) := by decide +kernel
theorem twd_ma_direction_87 : decode prog_6_method_3_code 87 = .ok (.goto (-81), 3) := by decide +kernel
theorem twd_ma_direction_90 : decode prog_6_method_3_code 90 = .ok (.iconst 0, 1) := by decide +kernel
theorem twd_ma_direction_91 : decode prog_6_method_3_code 91 = .ok (.ireturn, 1) := by decide +kernel
theorem twk_ma_direction : tw_dc twy_ma_direction 3 := ⟨by decide +kernel, by decide +kernel, by decide +kernel⟩
theorem twd_ex_begin_0 : decode prog_3_method_3_code 0 = .ok (.aload_n 0, 1) := by decide +kernel
theorem twd_ex_begin_1 : decode prog_3_method_3_code 1 = .ok (.iconst 0, 1) := by decide +kernel
theorem twd_ex_begin_2 : decode prog_3_method_3_code 2 = .ok (.putfield 32, 3) := by decide +kernel
theorem twd_ex_begin_5 : decode prog_3_method_3_code 5 = .ok (.aload_n 0, 1) := by decide +kernel
theorem twd_ex_begin_6 : decode prog_3_method_3_code 6 = .ok (.iconst 0, 1) := by decide +kernel
theorem twd_ex_begin_7 : decode prog_3_method_3_code 7 = .ok (.putfield 35, 3) := by decide +kernel
theorem twd_ex_begin_10 : decode prog_3_method_3_code 10 = .ok (.aload_n 0, 1) := by decide +kernel
theorem twd_ex_begin_11 : decode prog_3_method_3_code 11 = .ok (.iconst 0, 1) := by decide +kernel
theorem twd_ex_begin_12 : decode prog_3_method_3_code 12 = .ok (.putfield 38, 3) := by decide +kernel
theorem twd_ex_begin_15 : decode prog_3_method_3_code 15 = .ok (.aload_n 0, 1) := by decide +kernel
theorem twd_ex_begin_16 : decode prog_3_method_3_code 16 = .ok (.iconst 0, 1) := by decide +kernel
theorem twd_ex_begin_17 : decode prog_3_method_3_code 17 = .ok (.putfield 28, 3) := by decide +kernel
theorem twd_ex_begin_20 : decode prog_3_method_3_code 20 = .ok (.aload_n 0, 1) := by decide +kernel
theorem twd_ex_begin_21 : decode prog_3_method_3_code 21 = .ok (.getfield 18, 3) := by decide +kernel
theorem twd_ex_begin_24 : decode prog_3_method_3_code 24 = .ok (.iconst 0, 1) := by decide +kernel
theorem twd_ex_begin_25 : decode prog_3_method_3_code 25 = .ok (.iload_n 1, 1) := by decide +kernel
theorem twd_ex_begin_26 : decode prog_3_method_3_code 26 = .ok (.iastore, 1) := by decide +kernel
theorem twd_ex_begin_27 : decode prog_3_method_3_code 27 = .ok (.aload_n 0, 1) := by decide +kernel
theorem twd_ex_begin_28 : decode prog_3_method_3_code 28 = .ok (.getfield 21, 3) := by decide +kernel
theorem twd_ex_begin_31 : decode prog_3_method_3_code 31 = .ok (.iconst 0, 1) := by decide +kernel
theorem twd_ex_begin_32 : decode prog_3_method_3_code 32 = .ok (.iconst (-1), 1) := by decide +kernel
theorem twd_ex_begin_33 : decode prog_3_method_3_code 33 = .ok (.iastore, 1) := by decide +kernel
theorem twd_ex_begin_34 : decode prog_3_method_3_code 34 = .ok (.aload_n 0, 1) := by decide +kernel
theorem twd_ex_begin_35 : decode prog_3_method_3_code 35 = .ok (.getfield 24, 3) := by decide +kernel
theorem twd_ex_begin_38 : decode prog_3_method_3_code 38 = .ok (.iconst 0, 1) := by decide +kernel
theorem twd_ex_begin_39 : decode prog_3_method_3_code 39 = .ok (.iconst 0, 1) := by decide +kernel
theorem twd_ex_begin_40 : decode prog_3_method_3_code 40 = .ok (.bastore, 1) := by decide +kernel
theorem twd_ex_begin_41 : decode prog_3_method_3_code 41 = .ok (.return_, 1) := by decide +kernel
theorem twk_ex_begin : tw_dc twy_ex_begin 1 := ⟨by decide +kernel, by decide +kernel, by decide +kernel⟩
theorem twd_ex_endIsolate_0 : decode prog_3_method_13_code 0 = .ok (.aload_n 0, 1) := by decide +kernel
theorem twd_ex_endIsolate_1 : decode prog_3_method_13_code 1 = .ok (.getfield 32, 3) := by decide +kernel
theorem twd_ex_endIsolate_4 : decode prog_3_method_13_code 4 = .ok (.ifCond .le 16, 3) := by decide +kernel
theorem twd_ex_endIsolate_7 : decode prog_3_method_13_code 7 = .ok (.aload_n 0, 1) := by decide +kernel
theorem twd_ex_endIsolate_8 : decode prog_3_method_13_code 8 = .ok (.dup, 1) := by decide +kernel
theorem twd_ex_endIsolate_9 : decode prog_3_method_13_code 9 = .ok (.getfield 32, 3) := by decide +kernel
theorem twd_ex_endIsolate_12 : decode prog_3_method_13_code 12 = .ok (.iconst 1, 1) := by decide +kernel
theorem twd_ex_endIsolate_13 : decode prog_3_method_13_code 13 = .ok (.isub, 1) := by decide +kernel
theorem twd_ex_endIsolate_14 : decode prog_3_method_13_code 14 = .ok (.putfield 32, 3) := by decide +kernel
theorem twd_ex_endIsolate_17 : decode prog_3_method_13_code 17 = .ok (.goto 76, 3) := by decide +kernel
theorem twd_ex_endIsolate_20 : decode prog_3_method_13_code 20 = .ok (.aload_n 0, 1) := by decide +kernel
theorem twd_ex_endIsolate_21 : decode prog_3_method_13_code 21 = .ok (.getfield 38, 3) := by decide +kernel
theorem twd_ex_endIsolate_24 : decode prog_3_method_13_code 24 = .ok (.ifCond .le 69, 3) := by decide +kernel
theorem twd_ex_endIsolate_27 : decode prog_3_method_13_code 27 = .ok (.aload_n 0, 1) := by decide +kernel
theorem twd_ex_endIsolate_28 : decode prog_3_method_13_code 28 = .ok (.iconst 0, 1) := by decide +kernel
theorem twd_ex_endIsolate_29 : decode prog_3_method_13_code 29 = .ok (.putfield 35, 3) := by decide +kernel
theorem twd_ex_endIsolate_32 : decode prog_3_method_13_code 32 = .ok (.aload_n 0, 1) := by decide +kernel
theorem twd_ex_endIsolate_33 : decode prog_3_method_13_code 33 = .ok (.getfield 28, 3) := by decide +kernel
theorem twd_ex_endIsolate_36 : decode prog_3_method_13_code 36 = .ok (.istore_n 1, 1) := by decide +kernel
theorem twd_ex_endIsolate_37 : decode prog_3_method_13_code 37 = .ok (.iload_n 1, 1) := by decide +kernel
theorem twd_ex_endIsolate_38 : decode prog_3_method_13_code 38 = .ok (.ifCond .le 28, 3) := by decide +kernel
theorem twd_ex_endIsolate_41 : decode prog_3_method_13_code 41 = .ok (.aload_n 0, 1) := by decide +kernel
theorem twd_ex_endIsolate_42 : decode prog_3_method_13_code 42 = .ok (.getfield 24, 3) := by decide +kernel
theorem twd_ex_endIsolate_45 : decode prog_3_method_13_code 45 = .ok (.iload_n 1, 1) := by decide +kernel
theorem twd_ex_endIsolate_46 : decode prog_3_method_13_code 46 = .ok (.baload, 1) := by decide +kernel
theorem twd_ex_endIsolate_47 : decode prog_3_method_13_code 47 = .ok (.ifCond .ne 19, 3) := by decide +kernel
theorem twd_ex_endIsolate_50 : decode prog_3_method_13_code 50 = .ok (.aload_n 0, 1) := by decide +kernel
theorem twd_ex_endIsolate_51 : decode prog_3_method_13_code 51 = .ok (.dup, 1) := by decide +kernel
theorem twd_ex_endIsolate_52 : decode prog_3_method_13_code 52 = .ok (.getfield 28, 3) := by decide +kernel
theorem twd_ex_endIsolate_55 : decode prog_3_method_13_code 55 = .ok (.iconst 1, 1) := by decide +kernel
theorem twd_ex_endIsolate_56 : decode prog_3_method_13_code 56 = .ok (.isub, 1) := by decide +kernel
theorem twd_ex_endIsolate_57 : decode prog_3_method_13_code 57 = .ok (.putfield 28, 3) := by decide +kernel
theorem twd_ex_endIsolate_60 : decode prog_3_method_13_code 60 = .ok (.iinc 1 (-1), 3) := by decide +kernel
theorem twd_ex_endIsolate_63 : decode prog_3_method_13_code 63 = .ok (.goto (-26), 3) := by decide +kernel
theorem twd_ex_endIsolate_66 : decode prog_3_method_13_code 66 = .ok (.aload_n 0, 1) := by decide +kernel
theorem twd_ex_endIsolate_67 : decode prog_3_method_13_code 67 = .ok (.getfield 28, 3) := by decide +kernel
theorem twd_ex_endIsolate_70 : decode prog_3_method_13_code 70 = .ok (.ifCond .le 13, 3) := by decide +kernel
theorem twd_ex_endIsolate_73 : decode prog_3_method_13_code 73 = .ok (.aload_n 0, 1) := by decide +kernel
theorem twd_ex_endIsolate_74 : decode prog_3_method_13_code 74 = .ok (.dup, 1) := by decide +kernel
theorem twd_ex_endIsolate_75 : decode prog_3_method_13_code 75 = .ok (.getfield 28, 3) := by decide +kernel
theorem twd_ex_endIsolate_78 : decode prog_3_method_13_code 78 = .ok (.iconst 1, 1) := by decide +kernel
theorem twd_ex_endIsolate_79 : decode prog_3_method_13_code 79 = .ok (.isub, 1) := by decide +kernel
theorem twd_ex_endIsolate_80 : decode prog_3_method_13_code 80 = .ok (.putfield 28, 3) := by decide +kernel
theorem twd_ex_endIsolate_83 : decode prog_3_method_13_code 83 = .ok (.aload_n 0, 1) := by decide +kernel
theorem twd_ex_endIsolate_84 : decode prog_3_method_13_code 84 = .ok (.dup, 1) := by decide +kernel
theorem twd_ex_endIsolate_85 : decode prog_3_method_13_code 85 = .ok (.getfield 38, 3) := by decide +kernel
theorem twd_ex_endIsolate_88 : decode prog_3_method_13_code 88 = .ok (.iconst 1, 1) := by decide +kernel
theorem twd_ex_endIsolate_89 : decode prog_3_method_13_code 89 = .ok (.isub, 1) := by decide +kernel
theorem twd_ex_endIsolate_90 : decode prog_3_method_13_code 90 = .ok (.putfield 38, 3) := by decide +kernel
theorem twd_ex_endIsolate_93 : decode prog_3_method_13_code 93 = .ok (.return_, 1) := by decide +kernel
theorem twk_ex_endIsolate : tw_dc twy_ex_endIsolate 0 := ⟨by decide +kernel, by decide +kernel, by decide +kernel⟩
theorem twd_ex_endEmbedding_0 : decode prog_3_method_11_code 0 = .ok (.aload_n 0, 1) := by decide +kernel
theorem twd_ex_endEmbedding_1 : decode prog_3_method_11_code 1 = .ok (.getfield 32, 3) := by decide +kernel
theorem twd_ex_endEmbedding_4 : decode prog_3_method_11_code 4 = .ok (.ifCond .le 4, 3) := by decide +kernel
theorem twd_ex_endEmbedding_7 : decode prog_3_method_11_code 7 = .ok (.return_, 1) := by decide +kernel
theorem twd_ex_endEmbedding_8 : decode prog_3_method_11_code 8 = .ok (.aload_n 0, 1) := by decide +kernel
theorem twd_ex_endEmbedding_9 : decode prog_3_method_11_code 9 = .ok (.getfield 35, 3) := by decide +kernel
theorem twd_ex_endEmbedding_12 : decode prog_3_method_11_code 12 = .ok (.ifCond .le 16, 3) := by decide +kernel
theorem twd_ex_endEmbedding_15 : decode prog_3_method_11_code 15 = .ok (.aload_n 0, 1) := by decide +kernel
theorem twd_ex_endEmbedding_16 : decode prog_3_method_11_code 16 = .ok (.dup, 1) := by decide +kernel
theorem twd_ex_endEmbedding_17 : decode prog_3_method_11_code 17 = .ok (.getfield 35, 3) := by decide +kernel
theorem twd_ex_endEmbedding_20 : decode prog_3_method_11_code 20 = .ok (.iconst 1, 1) := by decide +kernel
theorem twd_ex_endEmbedding_21 : decode prog_3_method_11_code 21 = .ok (.isub, 1) := by decide +kernel
theorem twd_ex_endEmbedding_22 : decode prog_3_method_11_code 22 = .ok (.putfield 35, 3) := by decide +kernel
theorem twd_ex_endEmbedding_25 : decode prog_3_method_11_code 25 = .ok (.goto 32, 3) := by decide +kernel
theorem twd_ex_endEmbedding_28 : decode prog_3_method_11_code 28 = .ok (.aload_n 0, 1) := by decide +kernel
theorem twd_ex_endEmbedding_29 : decode prog_3_method_11_code 29 = .ok (.getfield 28, 3) := by decide +kernel
theorem twd_ex_endEmbedding_32 : decode prog_3_method_11_code 32 = .ok (.ifCond .le 25, 3) := by decide +kernel
theorem twd_ex_endEmbedding_35 : decode prog_3_method_11_code 35 = .ok (.aload_n 0, 1) := by decide +kernel
theorem twd_ex_endEmbedding_36 : decode prog_3_method_11_code 36 = .ok (.getfield 24, 3) := by decide +kernel
theorem twd_ex_endEmbedding_39 : decode prog_3_method_11_code 39 = .ok (.aload_n 0, 1) := by decide +kernel
theorem twd_ex_endEmbedding_40 : decode prog_3_method_11_code 40 = .ok (.getfield 28, 3) := by decide +kernel
theorem twd_ex_endEmbedding_43 : decode prog_3_method_11_code 43 = .ok (.baload, 1) := by decide +kernel
theorem twd_ex_endEmbedding_44 : decode prog_3_method_11_code 44 = .ok (.ifCond .ne 13, 3) := by decide +kernel
theorem twd_ex_endEmbedding_47 : decode prog_3_method_11_code 47 = .ok (.aload_n 0, 1) := by decide +kernel
theorem twd_ex_endEmbedding_48 : decode prog_3_method_11_code 48 = .ok (.dup, 1) := by decide +kernel
theorem twd_ex_endEmbedding_49 : decode prog_3_method_11_code 49 = .ok (.getfield 28, 3) := by decide +kernel
theorem twd_ex_endEmbedding_52 : decode prog_3_method_11_code 52 = .ok (.iconst 1, 1) := by decide +kernel
theorem twd_ex_endEmbedding_53 : decode prog_3_method_11_code 53 = .ok (.isub, 1) := by decide +kernel
theorem twd_ex_endEmbedding_54 : decode prog_3_method_11_code 54 = .ok (.putfield 28, 3) := by decide +kernel
theorem twd_ex_endEmbedding_57 : decode prog_3_method_11_code 57 = .ok (.return_, 1) := by decide +kernel
theorem twk_ex_endEmbedding : tw_dc twy_ex_endEmbedding 0 := ⟨by decide +kernel, by decide +kernel, by decide +kernel⟩
theorem twd_tl_isHidden_0 : decode prog_1_method_23_code 0 = .ok (.iload_n 0, 1) := by decide +kernel
theorem twd_tl_isHidden_1 : decode prog_1_method_23_code 1 = .ok (.bipush 12, 2) := by decide +kernel
theorem twd_tl_isHidden_3 : decode prog_1_method_23_code 3 = .ok (.if_icmp .lt 13, 3) := by decide +kernel
theorem twd_tl_isHidden_6 : decode prog_1_method_23_code 6 = .ok (.iload_n 0, 1) := by decide +kernel
theorem twd_tl_isHidden_7 : decode prog_1_method_23_code 7 = .ok (.bipush 16, 2) := by decide +kernel
theorem twd_tl_isHidden_9 : decode prog_1_method_23_code 9 = .ok (.if_icmp .gt 7, 3) := by decide +kernel
theorem twd_tl_isHidden_12 : decode prog_1_method_23_code 12 = .ok (.iconst 1, 1) := by decide +kernel
theorem twd_tl_isHidden_13 : decode prog_1_method_23_code 13 = .ok (.goto 4, 3) := by decide +kernel
theorem twd_tl_isHidden_16 : decode prog_1_method_23_code 16 = .ok (.iconst 0, 1) := by decide +kernel
theorem twd_tl_isHidden_17 : decode prog_1_method_23_code 17 = .ok (.ireturn, 1) := by decide +kernel
theorem twk_tl_isHidden : tw_dc twy_tl_isHidden 1 := ⟨by decide +kernel, by decide +kernel, by decide +kernel⟩
theorem twd_tl_isOdd_0 : decode prog_1_method_22_code 0 = .ok (.iload_n 0, 1) := by decide +kernel
theorem twd_tl_isOdd_1 : decode prog_1_method_22_code 1 = .ok (.iconst 1, 1) := by decide +kernel
theorem twd_tl_isOdd_2 : decode prog_1_method_22_code 2 = .ok (.iand, 1) := by decide +kernel
theorem twd_tl_isOdd_3 : decode prog_1_method_22_code 3 = .ok (.iconst 1, 1) := by decide +kernel
theorem twd_tl_isOdd_4 : decode prog_1_method_22_code 4 = .ok (.if_icmp .ne 7, 3) := by decide +kernel
theorem twd_tl_isOdd_7 : decode prog_1_method_22_code 7 = .ok (.iconst 1, 1) := by decide +kernel
theorem twd_tl_isOdd_8 : decode prog_1_method_22_code 8 = .ok (.goto 4, 3) := by decide +kernel
theorem twd_tl_isOdd_11 : decode prog_1_method_22_code 11 = .ok (.iconst 0, 1) := by decide +kernel
theorem twd_tl_isOdd_12 : decode prog_1_method_22_code 12 = .ok (.ireturn, 1) := by decide +kernel
theorem twk_tl_isOdd : tw_dc twy_tl_isOdd 1 := ⟨by decide +kernel, by decide +kernel, by decide +kernel⟩
theorem twd_ex_nextLevel_0 : decode prog_3_method_6_code 0 = .ok (.aload_n 0, 1) := by decide +kernel
theorem twd_ex_nextLevel_1 : decode prog_3_method_6_code 1 = .ok (.getfield 18, 3) := by decide +kernel
theorem twd_ex_nextLevel_4 : decode prog_3_method_6_code 4 = .ok (.aload_n 0, 1) := by decide +kernel
theorem twd_ex_nextLevel_5 : decode prog_3_method_6_code 5 = .ok (.getfield 28, 3) := by decide +kernel
theorem twd_ex_nextLevel_8 : decode prog_3_method_6_code 8 = .ok (.iaload, 1) := by decide +kernel
theorem twd_ex_nextLevel_9 : decode prog_3_method_6_code 9 = .ok (.iconst 1, 1) := by decide +kernel
theorem twd_ex_nextLevel_10 : decode prog_3_method_6_code 10 = .ok (.iadd, 1) := by decide +kernel
theorem twd_ex_nextLevel_11 : decode prog_3_method_6_code 11 = .ok (.istore_n 2, 1) := by decide +kernel
theorem twd_ex_nextLevel_12 : decode prog_3_method_6_code 12 = .ok (.iload_n 2, 1) := by decide +kernel
theorem twd_ex_nextLevel_13 : decode prog_3_method_6_code 13 = .ok (.invokestatic 90, 3) := by decide +kernel
theorem twd_ex_nextLevel_16 : decode prog_3_method_6_code 16 = .ok (.iload_n 1, 1) := by decide +kernel
theorem twd_ex_nextLevel_17 : decode prog_3_method_6_code 17 = .ok (.if_icmp .ne 7, 3) := by decide +kernel
theorem twd_ex_nextLevel_20 : decode prog_3_method_6_code 20 = .ok (.iload_n 2, 1) := by decide +kernel
theorem twd_ex_nextLevel_21 : decode prog_3_method_6_code 21 = .ok (.goto 6, 3) := by decide +kernel
theorem twd_ex_nextLevel_24 : decode prog_3_method_6_code 24 = .ok (.iload_n 2, 1) := by decide +kernel
theorem twd_ex_nextLevel_25 : decode prog_3_method_6_code 25 = .ok (.iconst 1, 1) := by decide +kernel
theorem twd_ex_nextLevel_26 : decode prog_3_method_6_code 26 = .ok (.iadd, 1) := by decide +kernel
theorem twd_ex_nextLevel_27 : decode prog_3_method_6_code 27 = .ok (.ireturn, 1) := by decide +kernel
theorem twk_ex_nextLevel : tw_dc twy_ex_nextLevel 1 := ⟨by decide +kernel, by decide +kernel, by decide +kernel⟩
theorem twd_ex_fits_0 : decode prog_3_method_7_code 0 = .ok (.iload_n 1, 1) := by decide +kernel
theorem twd_ex_fits_1 : decode prog_3_method_7_code 1 = .ok (.iconst 5, 1) := by decide +kernel
theorem twd_ex_fits_2 : decode prog_3_method_7_code 2 = .ok (.if_icmp .gt 21, 3) := by decide +kernel
theorem twd_ex_fits_5 : decode prog_3_method_7_code 5 = .ok (.aload_n 0, 1) := by decide +kernel
theorem twd_ex_fits_6 : decode prog_3_method_7_code 6 = .ok (.getfield 32, 3) := by decide +kernel
theorem twd_ex_fits_9 : decode prog_3_method_7_code 9 = .ok (.ifCond .ne 14, 3) := by decide +kernel
theorem twd_ex_fits_12 : decode prog_3_method_7_code 12 = .ok (.aload_n 0, 1) := by decide +kernel
theorem twd_ex_fits_13 : decode prog_3_method_7_code 13 = .ok (.getfield 35, 3) := by decide +kernel
theorem twd_ex_fits_16 : decode prog_3_method_7_code 16 = .ok (.ifCond .ne 7, 3) := by decide +kernel
theorem twd_ex_fits_19 : decode prog_3_method_7_code 19 = .ok (.iconst 1, 1) := by decide +kernel
theorem twd_ex_fits_20 : decode prog_3_method_7_code 20 = .ok (.goto 4, 3) := by decide +kernel
theorem twd_ex_fits_23 : decode prog_3_method_7_code 23 = .ok (.iconst 0, 1) := by decide +kernel
theorem twd_ex_fits_24 : decode prog_3_method_7_code 24 = .ok (.ireturn, 1) := by decide +kernel
theorem twk_ex_fits : tw_dc twy_ex_fits 1 := ⟨by decide +kernel, by decide +kernel, by decide +kernel⟩
theorem twd_ex_overrideOf_0 : decode prog_3_method_10_code 0 = .ok (.iload_n 0, 1) := by decide +kernel
theorem twd_ex_overrideOf_1 : decode prog_3_method_10_code 1 = .ok (.bipush 14, 2) := by decide +kernel
theorem twd_ex_overrideOf_3 : decode prog_3_method_10_code 3 = .ok (.if_icmp .ne 5, 3) := by decide +kernel
theorem twd_ex_overrideOf_6 : decode prog_3_method_10_code 6 = .ok (.iconst 0, 1) := by decide +kernel
theorem twd_ex_overrideOf_7 : decode prog_3_method_10_code 7 = .ok (.ireturn, 1) := by decide +kernel
theorem twd_ex_overrideOf_8 : decode prog_3_method_10_code 8 = .ok (.iload_n 0, 1) := by decide +kernel
theorem twd_ex_overrideOf_9 : decode prog_3_method_10_code 9 = .ok (.bipush 15, 2) := by decide +kernel
theorem twd_ex_overrideOf_11 : decode prog_3_method_10_code 11 = .ok (.if_icmp .ne 7, 3) := by decide +kernel
theorem twd_ex_overrideOf_14 : decode prog_3_method_10_code 14 = .ok (.iconst 1, 1) := by decide +kernel
theorem twd_ex_overrideOf_15 : decode prog_3_method_10_code 15 = .ok (.goto 4, 3) := by decide +kernel
theorem twd_ex_overrideOf_18 : decode prog_3_method_10_code 18 = .ok (.iconst (-1), 1) := by decide +kernel
theorem twd_ex_overrideOf_19 : decode prog_3_method_10_code 19 = .ok (.ireturn, 1) := by decide +kernel
theorem twk_ex_overrideOf : tw_dc twy_ex_overrideOf 1 := ⟨by decide +kernel, by decide +kernel, by decide +kernel⟩
theorem twd_ex_push_0 : decode prog_3_method_8_code 0 = .ok (.aload_n 0, 1) := by decide +kernel
theorem twd_ex_push_1 : decode prog_3_method_8_code 1 = .ok (.getfield 28, 3) := by decide +kernel
theorem twd_ex_push_4 : decode prog_3_method_8_code 4 = .ok (.iconst 5, 1) := by decide +kernel
theorem twd_ex_push_5 : decode prog_3_method_8_code 5 = .ok (.if_icmp .ge 43, 3) := by decide +kernel
theorem twd_ex_push_8 : decode prog_3_method_8_code 8 = .ok (.aload_n 0, 1) := by decide +kernel
theorem twd_ex_push_9 : decode prog_3_method_8_code 9 = .ok (.dup, 1) := by decide +kernel
theorem twd_ex_push_10 : decode prog_3_method_8_code 10 = .ok (.getfield 28, 3) := by decide +kernel
theorem twd_ex_push_13 : decode prog_3_method_8_code 13 = .ok (.iconst 1, 1) := by decide +kernel
theorem twd_ex_push_14 : decode prog_3_method_8_code 14 = .ok (.iadd, 1) := by decide +kernel
theorem twd_ex_push_15 : decode prog_3_method_8_code 15 = .ok (.putfield 28, 3) := by decide +kernel
theorem twd_ex_push_18 : decode prog_3_method_8_code 18 = .ok (.aload_n 0, 1) := by decide +kernel
theorem twd_ex_push_19 : decode prog_3_method_8_code 19 = .ok (.getfield 18, 3) := by decide +kernel
theorem twd_ex_push_22 : decode prog_3_method_8_code 22 = .ok (.aload_n 0, 1) := by decide +kernel
theorem twd_ex_push_23 : decode prog_3_method_8_code 23 = .ok (.getfield 28, 3) := by decide +kernel
theorem twd_ex_push_26 : decode prog_3_method_8_code 26 = .ok (.iload_n 1, 1) := by decide +kernel
theorem twd_ex_push_27 : decode prog_3_method_8_code 27 = .ok (.iastore, 1) := by decide +kernel
theorem twd_ex_push_28 : decode prog_3_method_8_code 28 = .ok (.aload_n 0, 1) := by decide +kernel
theorem twd_ex_push_29 : decode prog_3_method_8_code 29 = .ok (.getfield 21, 3) := by decide +kernel
theorem twd_ex_push_32 : decode prog_3_method_8_code 32 = .ok (.aload_n 0, 1) := by decide +kernel
theorem twd_ex_push_33 : decode prog_3_method_8_code 33 = .ok (.getfield 28, 3) := by decide +kernel
theorem twd_ex_push_36 : decode prog_3_method_8_code 36 = .ok (.iload_n 2, 1) := by decide +kernel
theorem twd_ex_push_37 : decode prog_3_method_8_code 37 = .ok (.iastore, 1) := by decide +kernel
theorem twd_ex_push_38 : decode prog_3_method_8_code 38 = .ok (.aload_n 0, 1) := by decide +kernel
theorem twd_ex_push_39 : decode prog_3_method_8_code 39 = .ok (.getfield 24, 3) := by decide +kernel
theorem twd_ex_push_42 : decode prog_3_method_8_code 42 = .ok (.aload_n 0, 1) := by decide +kernel
theorem twd_ex_push_43 : decode prog_3_method_8_code 43 = .ok (.getfield 28, 3) := by decide +kernel
theorem twd_ex_push_46 : decode prog_3_method_8_code 46 = .ok (.iload_n 3, 1) := by decide +kernel
theorem twd_ex_push_47 : decode prog_3_method_8_code 47 = .ok (.bastore, 1) := by decide +kernel
theorem twd_ex_push_48 : decode prog_3_method_8_code 48 = .ok (.return_, 1) := by decide +kernel
theorem twk_ex_push : tw_dc twy_ex_push 3 := ⟨by decide +kernel, by decide +kernel, by decide +kernel⟩
theorem twd_ex_beginEmbedding_0 : decode prog_3_method_9_code 0 = .ok (.aload_n 0, 1) := by decide +kernel
theorem twd_ex_beginEmbedding_1 : decode prog_3_method_9_code 1 = .ok (.iload_n 1, 1) := by decide +kernel
theorem twd_ex_beginEmbedding_2 : decode prog_3_method_9_code 2 = .ok (.bipush 13, 2) := by decide +kernel
theorem twd_ex_beginEmbedding_4 : decode prog_3_method_9_code 4 = .ok (.if_icmp .eq 9, 3) := by decide +kernel
theorem twd_ex_beginEmbedding_7 : decode prog_3_method_9_code 7 = .ok (.iload_n 1, 1) := by decide +kernel
theorem twd_ex_beginEmbedding_8 : decode prog_3_method_9_code 8 = .ok (.bipush 15, 2) := by decide +kernel
theorem twd_ex_beginEmbedding_10 : decode prog_3_method_9_code 10 = .ok (.if_icmp .ne 7, 3) := by decide +kernel
theorem twd_ex_beginEmbedding_13 : decode prog_3_method_9_code 13 = .ok (.iconst 1, 1) := by decide +kernel
theorem twd_ex_beginEmbedding_14 : decode prog_3_method_9_code 14 = .ok (.goto 4, 3) := by decide +kernel
theorem twd_ex_beginEmbedding_17 : decode prog_3_method_9_code 17 = .ok (.iconst 0, 1) := by decide +kernel
theorem twd_ex_beginEmbedding_18 : decode prog_3_method_9_code 18 = .ok (.invokevirtual 93, 3) := by decide +kernel
theorem twd_ex_beginEmbedding_21 : decode prog_3_method_9_code 21 = .ok (.istore_n 2, 1) := by decide +kernel
theorem twd_ex_beginEmbedding_22 : decode prog_3_method_9_code 22 = .ok (.aload_n 0, 1) := by decide +kernel
theorem twd_ex_beginEmbedding_23 : decode prog_3_method_9_code 23 = .ok (.iload_n 2, 1) := by decide +kernel
theorem twd_ex_beginEmbedding_24 : decode prog_3_method_9_code 24 = .ok (.invokevirtual 97, 3) := by decide +kernel
theorem twd_ex_beginEmbedding_27 : decode prog_3_method_9_code 27 = .ok (.ifCond .eq 16, 3) := by decide +kernel
theorem twd_ex_beginEmbedding_30 : decode prog_3_method_9_code 30 = .ok (.aload_n 0, 1) := by decide +kernel
theorem twd_ex_beginEmbedding_31 : decode prog_3_method_9_code 31 = .ok (.iload_n 2, 1) := by decide +kernel
theorem twd_ex_beginEmbedding_32 : decode prog_3_method_9_code 32 = .ok (.iload_n 1, 1) := by decide +kernel
theorem twd_ex_beginEmbedding_33 : decode prog_3_method_9_code 33 = .ok (.invokestatic 100, 3) := by decide +kernel
theorem twd_ex_beginEmbedding_36 : decode prog_3_method_9_code 36 = .ok (.iconst 0, 1) := by decide +kernel
theorem twd_ex_beginEmbedding_37 : decode prog_3_method_9_code 37 = .ok (.invokevirtual 104, 3) := by decide +kernel
theorem twd_ex_beginEmbedding_40 : decode prog_3_method_9_code 40 = .ok (.goto 20, 3) := by decide +kernel
theorem twd_ex_beginEmbedding_43 : decode prog_3_method_9_code 43 = .ok (.aload_n 0, 1) := by decide +kernel
theorem twd_ex_beginEmbedding_44 : decode prog_3_method_9_code 44 = .ok (.getfield 32, 3) := by decide +kernel
theorem twd_ex_beginEmbedding_47 : decode prog_3_method_9_code 47 = .ok (.ifCond .ne 13, 3) := by decide +kernel
theorem twd_ex_beginEmbedding_50 : decode prog_3_method_9_code 50 = .ok (.aload_n 0, 1) := by decide +kernel
theorem twd_ex_beginEmbedding_51 : decode prog_3_method_9_code 51 = .ok (.dup, 1) := by decide +kernel
theorem twd_ex_beginEmbedding_52 : decode prog_3_method_9_code 52 = .ok (.getfield 35, 3) := by decide +kernel
theorem twd_ex_beginEmbedding_55 : decode prog_3_method_9_code 55 = .ok (.iconst 1, 1) := by decide +kernel
theorem twd_ex_beginEmbedding_56 : decode prog_3_method_9_code 56 = .ok (.iadd, 1) := by decide +kernel
theorem twd_ex_beginEmbedding_57 : decode prog_3_method_9_code 57 = .ok (.putfield 35, 3) := by decide +kernel
theorem twd_ex_beginEmbedding_60 : decode prog_3_method_9_code 60 = .ok (.return_, 1) := by decide +kernel
theorem twk_ex_beginEmbedding : tw_dc twy_ex_beginEmbedding 1 := ⟨by decide +kernel, by decide +kernel, by decide +kernel⟩
theorem twd_ex_give_0 : decode prog_3_method_4_code 0 = .ok (.aload_n 0, 1) := by decide +kernel
theorem twd_ex_give_1 : decode prog_3_method_4_code 1 = .ok (.getfield 9, 3) := by decide +kernel
theorem twd_ex_give_4 : decode prog_3_method_4_code 4 = .ok (.iload_n 1, 1) := by decide +kernel
theorem twd_ex_give_5 : decode prog_3_method_4_code 5 = .ok (.aload_n 0, 1) := by decide +kernel
theorem twd_ex_give_6 : decode prog_3_method_4_code 6 = .ok (.getfield 18, 3) := by decide +kernel
theorem twd_ex_give_9 : decode prog_3_method_4_code 9 = .ok (.aload_n 0, 1) := by decide +kernel
theorem twd_ex_give_10 : decode prog_3_method_4_code 10 = .ok (.getfield 28, 3) := by decide +kernel
theorem twd_ex_give_13 : decode prog_3_method_4_code 13 = .ok (.iaload, 1) := by decide +kernel
theorem twd_ex_give_14 : decode prog_3_method_4_code 14 = .ok (.iastore, 1) := by decide +kernel
theorem twd_ex_give_15 : decode prog_3_method_4_code 15 = .ok (.aload_n 0, 1) := by decide +kernel
theorem twd_ex_give_16 : decode prog_3_method_4_code 16 = .ok (.getfield 15, 3) := by decide +kernel
theorem twd_ex_give_19 : decode prog_3_method_4_code 19 = .ok (.iload_n 1, 1) := by decide +kernel
theorem twd_ex_give_20 : decode prog_3_method_4_code 20 = .ok (.aload_n 0, 1) := by decide +kernel
theorem twd_ex_give_21 : decode prog_3_method_4_code 21 = .ok (.getfield 21, 3) := by decide +kernel
theorem twd_ex_give_24 : decode prog_3_method_4_code 24 = .ok (.aload_n 0, 1) := by decide +kernel
theorem twd_ex_give_25 : decode prog_3_method_4_code 25 = .ok (.getfield 28, 3) := by decide +kernel
theorem twd_ex_give_28 : decode prog_3_method_4_code 28 = .ok (.iaload, 1) := by decide +kernel
theorem twd_ex_give_29 : decode prog_3_method_4_code 29 = .ok (.iconst (-1), 1) := by decide +kernel
theorem twd_ex_give_30 : decode prog_3_method_4_code 30 = .ok (.if_icmp .ne 7, 3) := by decide +kernel
theorem twd_ex_give_33 : decode prog_3_method_4_code 33 = .ok (.iload_n 2, 1) := by decide +kernel
theorem twd_ex_give_34 : decode prog_3_method_4_code 34 = .ok (.goto 12, 3) := by decide +kernel
theorem twd_ex_give_37 : decode prog_3_method_4_code 37 = .ok (.aload_n 0, 1) := by decide +kernel
theorem twd_ex_give_38 : decode prog_3_method_4_code 38 = .ok (.getfield 21, 3) := by decide +kernel
theorem twd_ex_give_41 : decode prog_3_method_4_code 41 = .ok (.aload_n 0, 1) := by decide +kernel
theorem twd_ex_give_42 : decode prog_3_method_4_code 42 = .ok (.getfield 28, 3) := by decide +kernel
theorem twd_ex_give_45 : decode prog_3_method_4_code 45 = .ok (.iaload, 1) := by decide +kernel
theorem twd_ex_give_46 : decode prog_3_method_4_code 46 = .ok (.iastore, 1) := by decide +kernel
theorem twd_ex_give_47 : decode prog_3_method_4_code 47 = .ok (.return_, 1) := by decide +kernel
theorem twk_ex_give : tw_dc twy_ex_give 2 := ⟨by decide +kernel, by decide +kernel, by decide +kernel⟩
theorem twd_ex_wantsOdd_0 : decode prog_3_method_5_code 0 = .ok (.aload_n 1, 1) := by decide +kernel
theorem twd_ex_wantsOdd_1 : decode prog_3_method_5_code 1 = .ok (.getfield 50, 3) := by decide +kernel
theorem twd_ex_wantsOdd_4 : decode prog_3_method_5_code 4 = .ok (.iload_n 3, 1) := by decide +kernel
theorem twd_ex_wantsOdd_5 : decode prog_3_method_5_code 5 = .ok (.iaload, 1) := by decide +kernel
theorem twd_ex_wantsOdd_6 : decode prog_3_method_5_code 6 = .ok (.bipush 19, 2) := by decide +kernel
theorem twd_ex_wantsOdd_8 : decode prog_3_method_5_code 8 = .ok (.if_icmp .eq 20, 3) := by decide +kernel
theorem twd_ex_wantsOdd_11 : decode prog_3_method_5_code 11 = .ok (.aload_n 1, 1) := by decide +kernel
theorem twd_ex_wantsOdd_12 : decode prog_3_method_5_code 12 = .ok (.getfield 50, 3) := by decide +kernel
theorem twd_ex_wantsOdd_15 : decode prog_3_method_5_code 15 = .ok (.iload_n 3, 1) := by decide +kernel
theorem twd_ex_wantsOdd_16 : decode prog_3_method_5_code 16 = .ok (.iaload, 1) := by decide +kernel
theorem twd_ex_wantsOdd_17 : decode prog_3_method_5_code 17 = .ok (.bipush 18, 2) := by decide +kernel
theorem twd_ex_wantsOdd_19 : decode prog_3_method_5_code 19 = .ok (.if_icmp .ne 7, 3) := by decide +kernel
theorem twd_ex_wantsOdd_22 : decode prog_3_method_5_code 22 = .ok (.iconst 1, 1) := by decide +kernel
theorem twd_ex_wantsOdd_23 : decode prog_3_method_5_code 23 = .ok (.goto 4, 3) := by decide +kernel
theorem twd_ex_wantsOdd_26 : decode prog_3_method_5_code 26 = .ok (.iconst 0, 1) := by decide +kernel
theorem twd_ex_wantsOdd_27 : decode prog_3_method_5_code 27 = .ok (.ireturn, 1) := by decide +kernel
theorem twd_ex_wantsOdd_28 : decode prog_3_method_5_code 28 = .ok (.aload_n 2, 1) := by decide +kernel
theorem twd_ex_wantsOdd_29 : decode prog_3_method_5_code 29 = .ok (.getfield 81, 3) := by decide +kernel
theorem twd_ex_wantsOdd_32 : decode prog_3_method_5_code 32 = .ok (.iload_n 3, 1) := by decide +kernel
theorem twd_ex_wantsOdd_33 : decode prog_3_method_5_code 33 = .ok (.iaload, 1) := by decide +kernel
theorem twd_ex_wantsOdd_34 : decode prog_3_method_5_code 34 = .ok (.istore 4, 2) := by decide +kernel
theorem twd_ex_wantsOdd_36 : decode prog_3_method_5_code 36 = .ok (.iload 4, 2) := by decide +kernel
theorem twd_ex_wantsOdd_38 : decode prog_3_method_5_code 38 = .ok (.iconst (-1), 1) := by decide +kernel
theorem twd_ex_wantsOdd_39 : decode prog_3_method_5_code 39 = .ok (.if_icmp .ne 10, 3) := by decide +kernel
theorem twd_ex_wantsOdd_42 : decode prog_3_method_5_code 42 = .ok (.aload_n 1, 1) := by decide +kernel
theorem twd_ex_wantsOdd_43 : decode prog_3_method_5_code 43 = .ok (.getfield 45, 3) := by decide +kernel
theorem twd_ex_wantsOdd_46 : decode prog_3_method_5_code 46 = .ok (.goto 5, 3) := by decide +kernel
theorem twd_ex_wantsOdd_49 : decode prog_3_method_5_code 49 = .ok (.iload 4, 2) := by decide +kernel
theorem twd_ex_wantsOdd_51 : decode prog_3_method_5_code 51 = .ok (.istore 5, 2) := by decide +kernel
theorem twd_ex_wantsOdd_53 : decode prog_3_method_5_code 53 = .ok (.aload_n 2, 1) := by decide +kernel
theorem twd_ex_wantsOdd_54 : decode prog_3_method_5_code 54 = .ok (.aload_n 1, 1) := by decide +kernel
theorem twd_ex_wantsOdd_55 : decode prog_3_method_5_code 55 = .ok (.iload_n 3, 1) := by decide +kernel
theorem twd_ex_wantsOdd_56 : decode prog_3_method_5_code 56 = .ok (.iconst 1, 1) := by decide +kernel
theorem twd_ex_wantsOdd_57 : decode prog_3_method_5_code 57 = .ok (.iadd, 1) := by decide +kernel
theorem twd_ex_wantsOdd_58 : decode prog_3_method_5_code 58 = .ok (.iload 5, 2) := by decide +kernel
theorem twd_ex_wantsOdd_60 : decode prog_3_method_5_code 60 = .ok (.invokevirtual 86, 3) := by decide +kernel
theorem twd_ex_wantsOdd_63 : decode prog_3_method_5_code 63 = .ok (.iconst 1, 1) := by decide +kernel
theorem twd_ex_wantsOdd_64 : decode prog_3_method_5_code 64 = .ok (.if_icmp .ne 7, 3) := by decide +kernel
theorem twd_ex_wantsOdd_67 : decode prog_3_method_5_code 67 = .ok (.iconst 1, 1) := by decide +kernel
theorem twd_ex_wantsOdd_68 : decode prog_3_method_5_code 68 = .ok (.goto 4, 3) := by decide +kernel
theorem twd_ex_wantsOdd_71 : decode prog_3_method_5_code 71 = .ok (.iconst 0, 1) := by decide +kernel
theorem twd_ex_wantsOdd_72 : decode prog_3_method_5_code 72 = .ok (.ireturn, 1) := by decide +kernel
theorem twk_ex_wantsOdd : tw_dc twy_ex_wantsOdd 3 := ⟨by decide +kernel, by decide +kernel, by decide +kernel⟩
theorem twd_ex_beginIsolate_0 : decode prog_3_method_12_code 0 = .ok (.aload_n 0, 1) := by decide +kernel
theorem twd_ex_beginIsolate_1 : decode prog_3_method_12_code 1 = .ok (.iload_n 1, 1) := by decide +kernel
theorem twd_ex_beginIsolate_2 : decode prog_3_method_12_code 2 = .ok (.invokevirtual 93, 3) := by decide +kernel
theorem twd_ex_beginIsolate_5 : decode prog_3_method_12_code 5 = .ok (.istore_n 2, 1) := by decide +kernel
theorem twd_ex_beginIsolate_6 : decode prog_3_method_12_code 6 = .ok (.aload_n 0, 1) := by decide +kernel
theorem twd_ex_beginIsolate_7 : decode prog_3_method_12_code 7 = .ok (.iload_n 2, 1) := by decide +kernel
theorem twd_ex_beginIsolate_8 : decode prog_3_method_12_code 8 = .ok (.invokevirtual 97, 3) := by decide +kernel
theorem twd_ex_beginIsolate_11 : decode prog_3_method_12_code 11 = .ok (.ifCond .eq 23, 3) := by decide +kernel
theorem twd_ex_beginIsolate_14 : decode prog_3_method_12_code 14 = .ok (.aload_n 0, 1) := by decide +kernel
theorem twd_ex_beginIsolate_15 : decode prog_3_method_12_code 15 = .ok (.dup, 1) := by decide +kernel
theorem twd_ex_beginIsolate_16 : decode prog_3_method_12_code 16 = .ok (.getfield 38, 3) := by decide +kernel
theorem twd_ex_beginIsolate_19 : decode prog_3_method_12_code 19 = .ok (.iconst 1, 1) := by decide +kernel
theorem twd_ex_beginIsolate_20 : decode prog_3_method_12_code 20 = .ok (.iadd, 1) := by decide +kernel
theorem twd_ex_beginIsolate_21 : decode prog_3_method_12_code 21 = .ok (.putfield 38, 3) := by decide +kernel
theorem twd_ex_beginIsolate_24 : decode prog_3_method_12_code 24 = .ok (.aload_n 0, 1) := by decide +kernel
theorem twd_ex_beginIsolate_25 : decode prog_3_method_12_code 25 = .ok (.iload_n 2, 1) := by decide +kernel
theorem twd_ex_beginIsolate_26 : decode prog_3_method_12_code 26 = .ok (.iconst (-1), 1) := by decide +kernel
theorem twd_ex_beginIsolate_27 : decode prog_3_method_12_code 27 = .ok (.iconst 1, 1) := by decide +kernel
theorem twd_ex_beginIsolate_28 : decode prog_3_method_12_code 28 = .ok (.invokevirtual 104, 3) := by decide +kernel
theorem twd_ex_beginIsolate_31 : decode prog_3_method_12_code 31 = .ok (.goto 13, 3) := by decide +kernel
theorem twd_ex_beginIsolate_34 : decode prog_3_method_12_code 34 = .ok (.aload_n 0, 1) := by decide +kernel
theorem twd_ex_beginIsolate_35 : decode prog_3_method_12_code 35 = .ok (.dup, 1) := by decide +kernel
theorem twd_ex_beginIsolate_36 : decode prog_3_method_12_code 36 = .ok (.getfield 32, 3) := by decide +kernel
theorem twd_ex_beginIsolate_39 : decode prog_3_method_12_code 39 = .ok (.iconst 1, 1) := by decide +kernel
theorem twd_ex_beginIsolate_40 : decode prog_3_method_12_code 40 = .ok (.iadd, 1) := by decide +kernel
theorem twd_ex_beginIsolate_41 : decode prog_3_method_12_code 41 = .ok (.putfield 32, 3) := by decide +kernel
theorem twd_ex_beginIsolate_44 : decode prog_3_method_12_code 44 = .ok (.return_, 1) := by decide +kernel
theorem twk_ex_beginIsolate : tw_dc twy_ex_beginIsolate 1 := ⟨by decide +kernel, by decide +kernel, by decide +kernel⟩
theorem twd_ex_assign_0 : decode prog_3_method_2_code 0 = .ok (.aload_n 0, 1) := by decide +kernel
theorem twd_ex_assign_1 : decode prog_3_method_2_code 1 = .ok (.iload_n 3, 1) := by decide +kernel
theorem twd_ex_assign_2 : decode prog_3_method_2_code 2 = .ok (.invokevirtual 41, 3) := by decide +kernel
theorem twd_ex_assign_5 : decode prog_3_method_2_code 5 = .ok (.iconst 0, 1) := by decide +kernel
theorem twd_ex_assign_6 : decode prog_3_method_2_code 6 = .ok (.istore 4, 2) := by decide +kernel
theorem twd_ex_assign_8 : decode prog_3_method_2_code 8 = .ok (.iload 4, 2) := by decide +kernel
theorem twd_ex_assign_10 : decode prog_3_method_2_code 10 = .ok (.aload_n 1, 1) := by decide +kernel
theorem twd_ex_assign_11 : decode prog_3_method_2_code 11 = .ok (.getfield 45, 3) := by decide +kernel
theorem twd_ex_assign_14 : decode prog_3_method_2_code 14 = .ok (.if_icmp .ge 88, 3) := by decide +kernel
theorem twd_ex_assign_17 : decode prog_3_method_2_code 17 = .ok (.aload_n 1, 1) := by decide +kernel
theorem twd_ex_assign_18 : decode prog_3_method_2_code 18 = .ok (.getfield 50, 3) := by decide +kernel
theorem twd_ex_assign_21 : decode prog_3_method_2_code 21 = .ok (.iload 4, 2) := by decide +kernel
theorem twd_ex_assign_23 : decode prog_3_method_2_code 23 = .ok (.iaload, 1) := by decide +kernel
theorem twd_ex_assign_24 : decode prog_3_method_2_code 24 = .ok (.istore 5, 2) := by decide +kernel
theorem twd_ex_assign_26 : decode prog_3_method_2_code 26 = .ok (.iload 5, 2) := by decide +kernel
theorem twd_ex_assign_28 : decode prog_3_method_2_code 28 = .ok (.bipush 20, 2) := by decide +kernel
theorem twd_ex_assign_30 : decode prog_3_method_2_code 30 = .ok (.if_icmp .ne 7, 3) := by decide +kernel
theorem twd_ex_assign_33 : decode prog_3_method_2_code 33 = .ok (.aload_n 0, 1) := by decide +kernel
theorem twd_ex_assign_34 : decode prog_3_method_2_code 34 = .ok (.invokevirtual 53, 3) := by decide +kernel
theorem twd_ex_assign_37 : decode prog_3_method_2_code 37 = .ok (.iload 5, 2) := by decide +kernel
theorem twd_ex_assign_39 : decode prog_3_method_2_code 39 = .ok (.bipush 16, 2) := by decide +kernel
theorem twd_ex_assign_41 : decode prog_3_method_2_code 41 = .ok (.if_icmp .ne 10, 3) := by decide +kernel
theorem twd_ex_assign_44 : decode prog_3_method_2_code 44 = .ok (.aload_n 0, 1) := by decide +kernel
theorem twd_ex_assign_45 : decode prog_3_method_2_code 45 = .ok (.invokevirtual 56, 3) := by decide +kernel
theorem twd_ex_assign_48 : decode prog_3_method_2_code 48 = .ok (.goto 28, 3) := by decide +kernel
theorem twd_ex_assign_51 : decode prog_3_method_2_code 51 = .ok (.iload 5, 2) := by decide +kernel
theorem twd_ex_assign_53 : decode prog_3_method_2_code 53 = .ok (.invokestatic 59, 3) := by decide +kernel
theorem twd_ex_assign_56 : decode prog_3_method_2_code 56 = .ok (.ifCond .eq 12, 3) := by decide +kernel
theorem twd_ex_assign_59 : decode prog_3_method_2_code 59 = .ok (.aload_n 0, 1) := by decide +kernel
theorem twd_ex_assign_60 : decode prog_3_method_2_code 60 = .ok (.iload 5, 2) := by decide +kernel
theorem twd_ex_assign_62 : decode prog_3_method_2_code 62 = .ok (.invokevirtual 63, 3) := by decide +kernel
theorem twd_ex_assign_65 : decode prog_3_method_2_code 65 = .ok (.goto 11, 3) := by decide +kernel
theorem twd_ex_assign_68 : decode prog_3_method_2_code 68 = .ok (.aload_n 0, 1) := by decide +kernel
theorem twd_ex_assign_69 : decode prog_3_method_2_code 69 = .ok (.iload 4, 2) := by decide +kernel
theorem twd_ex_assign_71 : decode prog_3_method_2_code 71 = .ok (.iload 5, 2) := by decide +kernel
theorem twd_ex_assign_73 : decode prog_3_method_2_code 73 = .ok (.invokevirtual 66, 3) := by decide +kernel
theorem twd_ex_assign_76 : decode prog_3_method_2_code 76 = .ok (.iload 5, 2) := by decide +kernel
theorem twd_ex_assign_78 : decode prog_3_method_2_code 78 = .ok (.invokestatic 70, 3) := by decide +kernel
theorem twd_ex_assign_81 : decode prog_3_method_2_code 81 = .ok (.ifCond .eq 15, 3) := by decide +kernel
theorem twd_ex_assign_84 : decode prog_3_method_2_code 84 = .ok (.aload_n 0, 1) := by decide +kernel
theorem twd_ex_assign_85 : decode prog_3_method_2_code 85 = .ok (.aload_n 0, 1) := by decide +kernel
theorem twd_ex_assign_86 : decode prog_3_method_2_code 86 = .ok (.aload_n 1, 1) := by decide +kernel
theorem twd_ex_assign_87 : decode prog_3_method_2_code 87 = .ok (.aload_n 2, 1) := by decide +kernel
theorem twd_ex_assign_88 : decode prog_3_method_2_code 88 = .ok (.iload 4, 2) := by decide +kernel
theorem twd_ex_assign_90 : decode prog_3_method_2_code 90 = .ok (.invokevirtual 73, 3) := by decide +kernel
theorem twd_ex_assign_93 : decode prog_3_method_2_code 93 = .ok (.invokevirtual 77, 3) := by decide +kernel
theorem twd_ex_assign_96 : decode prog_3_method_2_code 96 = .ok (.iinc 4 1, 3) := by decide +kernel
theorem twd_ex_assign_99 : decode prog_3_method_2_code 99 = .ok (.goto (-91), 3) := by decide +kernel
theorem twd_ex_assign_102 : decode prog_3_method_2_code 102 = .ok (.return_, 1) := by decide +kernel
theorem twk_ex_assign : tw_dc twy_ex_assign 3 := ⟨by decide +kernel, by decide +kernel, by decide +kernel⟩
theorem twd_le_readMarks_0 : decode prog_5_method_2_code 0 = .ok (.aload_n 0, 1) := by decide +kernel
theorem twd_le_readMarks_1 : decode prog_5_method_2_code 1 = .ok (.getfield 12, 3) := by decide +kernel
theorem twd_le_readMarks_4 : decode prog_5_method_2_code 4 = .ok (.aload_n 1, 1) := by decide +kernel
theorem twd_le_readMarks_5 : decode prog_5_method_2_code 5 = .ok (.invokevirtual 53, 3) := by decide +kernel
theorem twd_le_readMarks_8 : decode prog_5_method_2_code 8 = .ok (.aload_n 0, 1) := by decide +kernel
theorem twd_le_readMarks_9 : decode prog_5_method_2_code 9 = .ok (.aload_n 1, 1) := by decide +kernel
theorem twd_le_readMarks_10 : decode prog_5_method_2_code 10 = .ok (.getfield 57, 3) := by decide +kernel
theorem twd_le_readMarks_13 : decode prog_5_method_2_code 13 = .ok (.putfield 28, 3) := by decide +kernel
theorem twd_le_readMarks_16 : decode prog_5_method_2_code 16 = .ok (.aload_n 1, 1) := by decide +kernel
theorem twd_le_readMarks_17 : decode prog_5_method_2_code 17 = .ok (.getfield 57, 3) := by decide +kernel
theorem twd_le_readMarks_20 : decode prog_5_method_2_code 20 = .ok (.iconst 2, 1) := by decide +kernel
theorem twd_le_readMarks_21 : decode prog_5_method_2_code 21 = .ok (.if_icmp .ne 20, 3) := by decide +kernel
theorem twd_le_readMarks_24 : decode prog_5_method_2_code 24 = .ok (.aload_n 0, 1) := by decide +kernel
theorem twd_le_readMarks_25 : decode prog_5_method_2_code 25 = .ok (.aload_n 0, 1) := by decide +kernel
theorem twd_le_readMarks_26 : decode prog_5_method_2_code 26 = .ok (.getfield 12, 3) := by decide +kernel
theorem twd_le_readMarks_29 : decode prog_5_method_2_code 29 = .ok (.aload_n 1, 1) := by decide +kernel
theorem twd_le_readMarks_30 : decode prog_5_method_2_code 30 = .ok (.iconst 0, 1) := by decide +kernel
theorem twd_le_readMarks_31 : decode prog_5_method_2_code 31 = .ok (.aload_n 1, 1) := by decide +kernel
theorem twd_le_readMarks_32 : decode prog_5_method_2_code 32 = .ok (.getfield 62, 3) := by decide +kernel
theorem twd_le_readMarks_35 : decode prog_5_method_2_code 35 = .ok (.invokevirtual 65, 3) := by decide +kernel
theorem twd_le_readMarks_38 : decode prog_5_method_2_code 38 = .ok (.putfield 28, 3) := by decide +kernel
theorem twd_le_readMarks_41 : decode prog_5_method_2_code 41 = .ok (.aload_n 0, 1) := by decide +kernel
theorem twd_le_readMarks_42 : decode prog_5_method_2_code 42 = .ok (.getfield 35, 3) := by decide +kernel
theorem twd_le_readMarks_45 : decode prog_5_method_2_code 45 = .ok (.aload_n 1, 1) := by decide +kernel
theorem twd_le_readMarks_46 : decode prog_5_method_2_code 46 = .ok (.aload_n 0, 1) := by decide +kernel
theorem twd_le_readMarks_47 : decode prog_5_method_2_code 47 = .ok (.getfield 12, 3) := by decide +kernel
theorem twd_le_readMarks_50 : decode prog_5_method_2_code 50 = .ok (.aload_n 0, 1) := by decide +kernel
theorem twd_le_readMarks_51 : decode prog_5_method_2_code 51 = .ok (.getfield 28, 3) := by decide +kernel
theorem twd_le_readMarks_54 : decode prog_5_method_2_code 54 = .ok (.invokevirtual 69, 3) := by decide +kernel
theorem twd_le_readMarks_57 : decode prog_5_method_2_code 57 = .ok (.return_, 1) := by decide +kernel
theorem twk_le_readMarks : tw_dc twy_le_readMarks 1 := ⟨by decide +kernel, by decide +kernel, by decide +kernel⟩
theorem twd_le_visibleBefore_0 : decode prog_5_method_5_code 0 = .ok (.iload_n 2, 1) := by decide +kernel
theorem twd_le_visibleBefore_1 : decode prog_5_method_5_code 1 = .ok (.iconst 1, 1) := by decide +kernel
theorem twd_le_visibleBefore_2 : decode prog_5_method_5_code 2 = .ok (.isub, 1) := by decide +kernel
theorem twd_le_visibleBefore_3 : decode prog_5_method_5_code 3 = .ok (.istore_n 3, 1) := by decide +kernel
theorem twd_le_visibleBefore_4 : decode prog_5_method_5_code 4 = .ok (.iload_n 3, 1) := by decide +kernel
theorem twd_le_visibleBefore_5 : decode prog_5_method_5_code 5 = .ok (.ifCond .lt 23, 3) := by decide +kernel
theorem twd_le_visibleBefore_8 : decode prog_5_method_5_code 8 = .ok (.aload_n 1, 1) := by decide +kernel
theorem twd_le_visibleBefore_9 : decode prog_5_method_5_code 9 = .ok (.getfield 97, 3) := by decide +kernel
theorem twd_le_visibleBefore_12 : decode prog_5_method_5_code 12 = .ok (.iload_n 3, 1) := by decide +kernel
theorem twd_le_visibleBefore_13 : decode prog_5_method_5_code 13 = .ok (.iaload, 1) := by decide +kernel
theorem twd_le_visibleBefore_14 : decode prog_5_method_5_code 14 = .ok (.invokestatic 100, 3) := by decide +kernel
theorem twd_le_visibleBefore_17 : decode prog_5_method_5_code 17 = .ok (.ifCond .ne 5, 3) := by decide +kernel
theorem twd_le_visibleBefore_20 : decode prog_5_method_5_code 20 = .ok (.iload_n 3, 1) := by decide +kernel
theorem twd_le_visibleBefore_21 : decode prog_5_method_5_code 21 = .ok (.ireturn, 1) := by decide +kernel
theorem twd_le_visibleBefore_22 : decode prog_5_method_5_code 22 = .ok (.iinc 3 (-1), 3) := by decide +kernel
theorem twd_le_visibleBefore_25 : decode prog_5_method_5_code 25 = .ok (.goto (-21), 3) := by decide +kernel
theorem twd_le_visibleBefore_28 : decode prog_5_method_5_code 28 = .ok (.iconst (-1), 1) := by decide +kernel
theorem twd_le_visibleBefore_29 : decode prog_5_method_5_code 29 = .ok (.ireturn, 1) := by decide +kernel
theorem twk_le_visibleBefore : tw_dc twy_le_visibleBefore 2 := ⟨by decide +kernel, by decide +kernel, by decide +kernel⟩
theorem twd_le_beginsSequence_0 : decode prog_5_method_4_code 0 = .ok (.aload_n 1, 1) := by decide +kernel
theorem twd_le_beginsSequence_1 : decode prog_5_method_4_code 1 = .ok (.getfield 97, 3) := by decide +kernel
theorem twd_le_beginsSequence_4 : decode prog_5_method_4_code 4 = .ok (.iload_n 2, 1) := by decide +kernel
theorem twd_le_beginsSequence_5 : decode prog_5_method_4_code 5 = .ok (.iaload, 1) := by decide +kernel
theorem twd_le_beginsSequence_6 : decode prog_5_method_4_code 6 = .ok (.istore_n 3, 1) := by decide +kernel
theorem twd_le_beginsSequence_7 : decode prog_5_method_4_code 7 = .ok (.iload_n 3, 1) := by decide +kernel
theorem twd_le_beginsSequence_8 : decode prog_5_method_4_code 8 = .ok (.invokestatic 100, 3) := by decide +kernel
theorem twd_le_beginsSequence_11 : decode prog_5_method_4_code 11 = .ok (.ifCond .ne 22, 3) := by decide +kernel
theorem twd_le_beginsSequence_14 : decode prog_5_method_4_code 14 = .ok (.iload_n 3, 1) := by decide +kernel
theorem twd_le_beginsSequence_15 : decode prog_5_method_4_code 15 = .ok (.bipush 20, 2) := by decide +kernel
theorem twd_le_beginsSequence_17 : decode prog_5_method_4_code 17 = .ok (.if_icmp .ne 18, 3) := by decide +kernel
theorem twd_le_beginsSequence_20 : decode prog_5_method_4_code 20 = .ok (.aload_n 0, 1) := by decide +kernel
theorem twd_le_beginsSequence_21 : decode prog_5_method_4_code 21 = .ok (.getfield 12, 3) := by decide +kernel
theorem twd_le_beginsSequence_24 : decode prog_5_method_4_code 24 = .ok (.getfield 104, 3) := by decide +kernel
theorem twd_le_beginsSequence_27 : decode prog_5_method_4_code 27 = .ok (.iload_n 2, 1) := by decide +kernel
theorem twd_le_beginsSequence_28 : decode prog_5_method_4_code 28 = .ok (.iaload, 1) := by decide +kernel
theorem twd_le_beginsSequence_29 : decode prog_5_method_4_code 29 = .ok (.iconst (-1), 1) := by decide +kernel
theorem twd_le_beginsSequence_30 : decode prog_5_method_4_code 30 = .ok (.if_icmp .eq 5, 3) := by decide +kernel
theorem twd_le_beginsSequence_33 : decode prog_5_method_4_code 33 = .ok (.iconst 0, 1) := by decide +kernel
theorem twd_le_beginsSequence_34 : decode prog_5_method_4_code 34 = .ok (.ireturn, 1) := by decide +kernel
theorem twd_le_beginsSequence_35 : decode prog_5_method_4_code 35 = .ok (.aload_n 0, 1) := by decide +kernel
theorem twd_le_beginsSequence_36 : decode prog_5_method_4_code 36 = .ok (.aload_n 1, 1) := by decide +kernel
theorem twd_le_beginsSequence_37 : decode prog_5_method_4_code 37 = .ok (.iload_n 2, 1) := by decide +kernel
theorem twd_le_beginsSequence_38 : decode prog_5_method_4_code 38 = .ok (.invokevirtual 107, 3) := by decide +kernel
theorem twd_le_beginsSequence_41 : decode prog_5_method_4_code 41 = .ok (.istore 4, 2) := by decide +kernel
theorem twd_le_beginsSequence_43 : decode prog_5_method_4_code 43 = .ok (.iload 4, 2) := by decide +kernel
theorem twd_le_beginsSequence_45 : decode prog_5_method_4_code 45 = .ok (.iconst (-1), 1) := by decide +kernel
theorem twd_le_beginsSequence_46 : decode prog_5_method_4_code 46 = .ok (.if_icmp .eq 25, 3) := by decide +kernel
theorem twd_le_beginsSequence_49 : decode prog_5_method_4_code 49 = .ok (.aload_n 0, 1) := by decide +kernel
theorem twd_le_beginsSequence_50 : decode prog_5_method_4_code 50 = .ok (.getfield 35, 3) := by decide +kernel
theorem twd_le_beginsSequence_53 : decode prog_5_method_4_code 53 = .ok (.getfield 111, 3) := by decide +kernel
theorem twd_le_beginsSequence_56 : decode prog_5_method_4_code 56 = .ok (.iload 4, 2) := by decide +kernel
theorem twd_le_beginsSequence_58 : decode prog_5_method_4_code 58 = .ok (.iaload, 1) := by decide +kernel
theorem twd_le_beginsSequence_59 : decode prog_5_method_4_code 59 = .ok (.aload_n 0, 1) := by decide +kernel
theorem twd_le_beginsSequence_60 : decode prog_5_method_4_code 60 = .ok (.getfield 35, 3) := by decide +kernel
theorem twd_le_beginsSequence_63 : decode prog_5_method_4_code 63 = .ok (.getfield 111, 3) := by decide +kernel
theorem twd_le_beginsSequence_66 : decode prog_5_method_4_code 66 = .ok (.iload_n 2, 1) := by decide +kernel
theorem twd_le_beginsSequence_67 : decode prog_5_method_4_code 67 = .ok (.iaload, 1) := by decide +kernel
theorem twd_le_beginsSequence_68 : decode prog_5_method_4_code 68 = .ok (.if_icmp .eq 7, 3) := by decide +kernel
theorem twd_le_beginsSequence_71 : decode prog_5_method_4_code 71 = .ok (.iconst 1, 1) := by decide +kernel
theorem twd_le_beginsSequence_72 : decode prog_5_method_4_code 72 = .ok (.goto 4, 3) := by decide +kernel
theorem twd_le_beginsSequence_75 : decode prog_5_method_4_code 75 = .ok (.iconst 0, 1) := by decide +kernel
theorem twd_le_beginsSequence_76 : decode prog_5_method_4_code 76 = .ok (.ireturn, 1) := by decide +kernel
theorem twk_le_beginsSequence : tw_dc twy_le_beginsSequence 2 := ⟨by decide +kernel, by decide +kernel, by decide +kernel⟩
theorem twd_se_append_0 : decode prog_8_method_2_code 0 = .ok (.aload_n 0, 1) := by decide +kernel
theorem twd_se_append_1 : decode prog_8_method_2_code 1 = .ok (.getfield 22, 3) := by decide +kernel
theorem twd_se_append_4 : decode prog_8_method_2_code 4 = .ok (.bipush 64, 2) := by decide +kernel
theorem twd_se_append_6 : decode prog_8_method_2_code 6 = .ok (.if_icmp .ge 33, 3) := by decide +kernel
theorem twd_se_append_9 : decode prog_8_method_2_code 9 = .ok (.aload_n 0, 1) := by decide +kernel
theorem twd_se_append_10 : decode prog_8_method_2_code 10 = .ok (.getfield 9, 3) := by decide +kernel
theorem twd_se_append_13 : decode prog_8_method_2_code 13 = .ok (.aload_n 0, 1) := by decide +kernel
theorem twd_se_append_14 : decode prog_8_method_2_code 14 = .ok (.getfield 22, 3) := by decide +kernel
theorem twd_se_append_17 : decode prog_8_method_2_code 17 = .ok (.iload_n 1, 1) := by decide +kernel
theorem twd_se_append_18 : decode prog_8_method_2_code 18 = .ok (.iastore, 1) := by decide +kernel
theorem twd_se_append_19 : decode prog_8_method_2_code 19 = .ok (.aload_n 0, 1) := by decide +kernel
theorem twd_se_append_20 : decode prog_8_method_2_code 20 = .ok (.getfield 15, 3) := by decide +kernel
theorem twd_se_append_23 : decode prog_8_method_2_code 23 = .ok (.aload_n 0, 1) := by decide +kernel
theorem twd_se_append_24 : decode prog_8_method_2_code 24 = .ok (.getfield 22, 3) := by decide +kernel
theorem twd_se_append_27 : decode prog_8_method_2_code 27 = .ok (.iload_n 2, 1) := by decide +kernel
theorem twd_se_append_28 : decode prog_8_method_2_code 28 = .ok (.iastore, 1) := by decide +kernel
theorem twd_se_append_29 : decode prog_8_method_2_code 29 = .ok (.aload_n 0, 1) := by decide +kernel
theorem twd_se_append_30 : decode prog_8_method_2_code 30 = .ok (.dup, 1) := by decide +kernel
theorem twd_se_append_31 : decode prog_8_method_2_code 31 = .ok (.getfield 22, 3) := by decide +kernel
theorem twd_se_append_34 : decode prog_8_method_2_code 34 = .ok (.iconst 1, 1) := by decide +kernel
theorem twd_se_append_35 : decode prog_8_method_2_code 35 = .ok (.iadd, 1) := by decide +kernel
theorem twd_se_append_36 : decode prog_8_method_2_code 36 = .ok (.putfield 22, 3) := by decide +kernel
theorem twd_se_append_39 : decode prog_8_method_2_code 39 = .ok (.return_, 1) := by decide +kernel
theorem twk_se_append : tw_dc twy_se_append 2 := ⟨by decide +kernel, by decide +kernel, by decide +kernel⟩
theorem twd_le_takeRun_0 : decode prog_5_method_8_code 0 = .ok (.iload_n 2, 1) := by decide +kernel
theorem twd_le_takeRun_1 : decode prog_5_method_8_code 1 = .ok (.istore_n 3, 1) := by decide +kernel
theorem twd_le_takeRun_2 : decode prog_5_method_8_code 2 = .ok (.iload_n 2, 1) := by decide +kernel
theorem twd_le_takeRun_3 : decode prog_5_method_8_code 3 = .ok (.istore 4, 2) := by decide +kernel
theorem twd_le_takeRun_5 : decode prog_5_method_8_code 5 = .ok (.iload 4, 2) := by decide +kernel
theorem twd_le_takeRun_7 : decode prog_5_method_8_code 7 = .ok (.aload_n 1, 1) := by decide +kernel
theorem twd_le_takeRun_8 : decode prog_5_method_8_code 8 = .ok (.getfield 62, 3) := by decide +kernel
theorem twd_le_takeRun_11 : decode prog_5_method_8_code 11 = .ok (.if_icmp .ge 72, 3) := by decide +kernel
theorem twd_le_takeRun_14 : decode prog_5_method_8_code 14 = .ok (.aload_n 1, 1) := by decide +kernel
theorem twd_le_takeRun_15 : decode prog_5_method_8_code 15 = .ok (.getfield 97, 3) := by decide +kernel
theorem twd_le_takeRun_18 : decode prog_5_method_8_code 18 = .ok (.iload 4, 2) := by decide +kernel
theorem twd_le_takeRun_20 : decode prog_5_method_8_code 20 = .ok (.iaload, 1) := by decide +kernel
theorem twd_le_takeRun_21 : decode prog_5_method_8_code 21 = .ok (.invokestatic 100, 3) := by decide +kernel
theorem twd_le_takeRun_24 : decode prog_5_method_8_code 24 = .ok (.ifCond .eq 6, 3) := by decide +kernel
theorem twd_le_takeRun_27 : decode prog_5_method_8_code 27 = .ok (.goto 50, 3) := by decide +kernel
theorem twd_le_takeRun_30 : decode prog_5_method_8_code 30 = .ok (.aload_n 0, 1) := by decide +kernel
theorem twd_le_takeRun_31 : decode prog_5_method_8_code 31 = .ok (.getfield 35, 3) := by decide +kernel
theorem twd_le_takeRun_34 : decode prog_5_method_8_code 34 = .ok (.getfield 111, 3) := by decide +kernel
theorem twd_le_takeRun_37 : decode prog_5_method_8_code 37 = .ok (.iload 4, 2) := by decide +kernel
theorem twd_le_takeRun_39 : decode prog_5_method_8_code 39 = .ok (.iaload, 1) := by decide +kernel
theorem twd_le_takeRun_40 : decode prog_5_method_8_code 40 = .ok (.aload_n 0, 1) := by decide +kernel
theorem twd_le_takeRun_41 : decode prog_5_method_8_code 41 = .ok (.getfield 35, 3) := by decide +kernel
theorem twd_le_takeRun_44 : decode prog_5_method_8_code 44 = .ok (.getfield 111, 3) := by decide +kernel
theorem twd_le_takeRun_47 : decode prog_5_method_8_code 47 = .ok (.iload_n 2, 1) := by decide +kernel
theorem twd_le_takeRun_48 : decode prog_5_method_8_code 48 = .ok (.iaload, 1) := by decide +kernel
theorem twd_le_takeRun_49 : decode prog_5_method_8_code 49 = .ok (.if_icmp .eq 6, 3) := by decide +kernel
theorem twd_le_takeRun_52 : decode prog_5_method_8_code 52 = .ok (.goto 31, 3) := by decide +kernel
theorem twd_le_takeRun_55 : decode prog_5_method_8_code 55 = .ok (.aload_n 0, 1) := by decide +kernel
theorem twd_le_takeRun_56 : decode prog_5_method_8_code 56 = .ok (.getfield 42, 3) := by decide +kernel
theorem twd_le_takeRun_59 : decode prog_5_method_8_code 59 = .ok (.iload 4, 2) := by decide +kernel
theorem twd_le_takeRun_61 : decode prog_5_method_8_code 61 = .ok (.aload_n 0, 1) := by decide +kernel
theorem twd_le_takeRun_62 : decode prog_5_method_8_code 62 = .ok (.getfield 35, 3) := by decide +kernel
theorem twd_le_takeRun_65 : decode prog_5_method_8_code 65 = .ok (.getfield 123, 3) := by decide +kernel
theorem twd_le_takeRun_68 : decode prog_5_method_8_code 68 = .ok (.iload 4, 2) := by decide +kernel
theorem twd_le_takeRun_70 : decode prog_5_method_8_code 70 = .ok (.iaload, 1) := by decide +kernel
theorem twd_le_takeRun_71 : decode prog_5_method_8_code 71 = .ok (.invokevirtual 124, 3) := by decide +kernel
theorem twd_le_takeRun_74 : decode prog_5_method_8_code 74 = .ok (.iload 4, 2) := by decide +kernel
theorem twd_le_takeRun_76 : decode prog_5_method_8_code 76 = .ok (.istore_n 3, 1) := by decide +kernel
theorem twd_le_takeRun_77 : decode prog_5_method_8_code 77 = .ok (.iinc 4 1, 3) := by decide +kernel
theorem twd_le_takeRun_80 : decode prog_5_method_8_code 80 = .ok (.goto (-75), 3) := by decide +kernel
theorem twd_le_takeRun_83 : decode prog_5_method_8_code 83 = .ok (.iload_n 3, 1) := by decide +kernel
theorem twd_le_takeRun_84 : decode prog_5_method_8_code 84 = .ok (.ireturn, 1) := by decide +kernel
theorem twk_le_takeRun : tw_dc twy_le_takeRun 2 := ⟨by decide +kernel, by decide +kernel, by decide +kernel⟩
theorem twd_le_gather_0 : decode prog_5_method_7_code 0 = .ok (.aload_n 0, 1) := by decide +kernel
theorem twd_le_gather_1 : decode prog_5_method_7_code 1 = .ok (.getfield 42, 3) := by decide +kernel
theorem twd_le_gather_4 : decode prog_5_method_7_code 4 = .ok (.iconst 0, 1) := by decide +kernel
theorem twd_le_gather_5 : decode prog_5_method_7_code 5 = .ok (.putfield 114, 3) := by decide +kernel
theorem twd_le_gather_8 : decode prog_5_method_7_code 8 = .ok (.iload_n 2, 1) := by decide +kernel
theorem twd_le_gather_9 : decode prog_5_method_7_code 9 = .ok (.istore_n 3, 1) := by decide +kernel
theorem twd_le_gather_10 : decode prog_5_method_7_code 10 = .ok (.iconst 0, 1) := by decide +kernel
theorem twd_le_gather_11 : decode prog_5_method_7_code 11 = .ok (.istore 4, 2) := by decide +kernel
theorem twd_le_gather_13 : decode prog_5_method_7_code 13 = .ok (.iload 4, 2) := by decide +kernel
theorem twd_le_gather_15 : decode prog_5_method_7_code 15 = .ok (.bipush 64, 2) := by decide +kernel
theorem twd_le_gather_17 : decode prog_5_method_7_code 17 = .ok (.if_icmp .ge 50, 3) := by decide +kernel
theorem twd_le_gather_20 : decode prog_5_method_7_code 20 = .ok (.iload_n 3, 1) := by decide +kernel
theorem twd_le_gather_21 : decode prog_5_method_7_code 21 = .ok (.iconst (-1), 1) := by decide +kernel
theorem twd_le_gather_22 : decode prog_5_method_7_code 22 = .ok (.if_icmp .eq 45, 3) := by decide +kernel
theorem twd_le_gather_25 : decode prog_5_method_7_code 25 = .ok (.aload_n 0, 1) := by decide +kernel
theorem twd_le_gather_26 : decode prog_5_method_7_code 26 = .ok (.aload_n 1, 1) := by decide +kernel
theorem twd_le_gather_27 : decode prog_5_method_7_code 27 = .ok (.iload_n 3, 1) := by decide +kernel
theorem twd_le_gather_28 : decode prog_5_method_7_code 28 = .ok (.invokevirtual 117, 3) := by decide +kernel
theorem twd_le_gather_31 : decode prog_5_method_7_code 31 = .ok (.istore 5, 2) := by decide +kernel
theorem twd_le_gather_33 : decode prog_5_method_7_code 33 = .ok (.aload_n 1, 1) := by decide +kernel
theorem twd_le_gather_34 : decode prog_5_method_7_code 34 = .ok (.getfield 97, 3) := by decide +kernel
theorem twd_le_gather_37 : decode prog_5_method_7_code 37 = .ok (.iload 5, 2) := by decide +kernel
theorem twd_le_gather_39 : decode prog_5_method_7_code 39 = .ok (.iaload, 1) := by decide +kernel
theorem twd_le_gather_40 : decode prog_5_method_7_code 40 = .ok (.invokestatic 120, 3) := by decide +kernel
theorem twd_le_gather_43 : decode prog_5_method_7_code 43 = .ok (.ifCond .eq 16, 3) := by decide +kernel
theorem twd_le_gather_46 : decode prog_5_method_7_code 46 = .ok (.aload_n 0, 1) := by decide +kernel
theorem twd_le_gather_47 : decode prog_5_method_7_code 47 = .ok (.getfield 12, 3) := by decide +kernel
theorem twd_le_gather_50 : decode prog_5_method_7_code 50 = .ok (.getfield 104, 3) := by decide +kernel
theorem twd_le_gather_53 : decode prog_5_method_7_code 53 = .ok (.iload 5, 2) := by decide +kernel
theorem twd_le_gather_55 : decode prog_5_method_7_code 55 = .ok (.iaload, 1) := by decide +kernel
theorem twd_le_gather_56 : decode prog_5_method_7_code 56 = .ok (.goto 4, 3) := by decide +kernel
theorem twd_le_gather_59 : decode prog_5_method_7_code 59 = .ok (.iconst (-1), 1) := by decide +kernel
theorem twd_le_gather_60 : decode prog_5_method_7_code 60 = .ok (.istore_n 3, 1) := by decide +kernel
theorem twd_le_gather_61 : decode prog_5_method_7_code 61 = .ok (.iinc 4 1, 3) := by decide +kernel
theorem twd_le_gather_64 : decode prog_5_method_7_code 64 = .ok (.goto (-51), 3) := by decide +kernel
theorem twd_le_gather_67 : decode prog_5_method_7_code 67 = .ok (.return_, 1) := by decide +kernel
theorem twk_le_gather : tw_dc twy_le_gather 2 := ⟨by decide +kernel, by decide +kernel, by decide +kernel⟩
theorem twd_le_visibleBehind_0 : decode prog_5_method_6_code 0 = .ok (.iload_n 2, 1) := by decide +kernel
theorem twd_le_visibleBehind_1 : decode prog_5_method_6_code 1 = .ok (.iconst 1, 1) := by decide +kernel
theorem twd_le_visibleBehind_2 : decode prog_5_method_6_code 2 = .ok (.iadd, 1) := by decide +kernel
theorem twd_le_visibleBehind_3 : decode prog_5_method_6_code 3 = .ok (.istore_n 3, 1) := by decide +kernel
theorem twd_le_visibleBehind_4 : decode prog_5_method_6_code 4 = .ok (.iload_n 3, 1) := by decide +kernel
theorem twd_le_visibleBehind_5 : decode prog_5_method_6_code 5 = .ok (.aload_n 1, 1) := by decide +kernel
theorem twd_le_visibleBehind_6 : decode prog_5_method_6_code 6 = .ok (.getfield 62, 3) := by decide +kernel
theorem twd_le_visibleBehind_9 : decode prog_5_method_6_code 9 = .ok (.if_icmp .ge 23, 3) := by decide +kernel
theorem twd_le_visibleBehind_12 : decode prog_5_method_6_code 12 = .ok (.aload_n 1, 1) := by decide +kernel
theorem twd_le_visibleBehind_13 : decode prog_5_method_6_code 13 = .ok (.getfield 97, 3) := by decide +kernel
theorem twd_le_visibleBehind_16 : decode prog_5_method_6_code 16 = .ok (.iload_n 3, 1) := by decide +kernel
theorem twd_le_visibleBehind_17 : decode prog_5_method_6_code 17 = .ok (.iaload, 1) := by decide +kernel
theorem twd_le_visibleBehind_18 : decode prog_5_method_6_code 18 = .ok (.invokestatic 100, 3) := by decide +kernel
theorem twd_le_visibleBehind_21 : decode prog_5_method_6_code 21 = .ok (.ifCond .ne 5, 3) := by decide +kernel
theorem twd_le_visibleBehind_24 : decode prog_5_method_6_code 24 = .ok (.iload_n 3, 1) := by decide +kernel
theorem twd_le_visibleBehind_25 : decode prog_5_method_6_code 25 = .ok (.ireturn, 1) := by decide +kernel
theorem twd_le_visibleBehind_26 : decode prog_5_method_6_code 26 = .ok (.iinc 3 1, 3) := by decide +kernel
theorem twd_le_visibleBehind_29 : decode prog_5_method_6_code 29 = .ok (.goto (-25), 3) := by decide +kernel
theorem twd_le_visibleBehind_32 : decode prog_5_method_6_code 32 = .ok (.iconst (-1), 1) := by decide +kernel
theorem twd_le_visibleBehind_33 : decode prog_5_method_6_code 33 = .ok (.ireturn, 1) := by decide +kernel
theorem twk_le_visibleBehind : tw_dc twy_le_visibleBehind 2 := ⟨by decide +kernel, by decide +kernel, by decide +kernel⟩
theorem twd_tl_sideOf_0 : decode prog_1_method_26_code 0 = .ok (.iload_n 0, 1) := by decide +kernel
theorem twd_tl_sideOf_1 : decode prog_1_method_26_code 1 = .ok (.invokestatic 110, 3) := by decide +kernel
theorem twd_tl_sideOf_4 : decode prog_1_method_26_code 4 = .ok (.ifCond .eq 7, 3) := by decide +kernel
theorem twd_tl_sideOf_7 : decode prog_1_method_26_code 7 = .ok (.iconst 1, 1) := by decide +kernel
theorem twd_tl_sideOf_8 : decode prog_1_method_26_code 8 = .ok (.goto 4, 3) := by decide +kernel
theorem twd_tl_sideOf_11 : decode prog_1_method_26_code 11 = .ok (.iconst 0, 1) := by decide +kernel
theorem twd_tl_sideOf_12 : decode prog_1_method_26_code 12 = .ok (.ireturn, 1) := by decide +kernel
theorem twk_tl_sideOf : tw_dc twy_tl_sideOf 1 := ⟨by decide +kernel, by decide +kernel, by decide +kernel⟩
theorem twd_le_levelBeside_0 : decode prog_5_method_10_code 0 = .ok (.iload_n 1, 1) := by decide +kernel
theorem twd_le_levelBeside_1 : decode prog_5_method_10_code 1 = .ok (.iconst (-1), 1) := by decide +kernel
theorem twd_le_levelBeside_2 : decode prog_5_method_10_code 2 = .ok (.if_icmp .ne 10, 3) := by decide +kernel
theorem twd_le_levelBeside_5 : decode prog_5_method_10_code 5 = .ok (.aload_n 0, 1) := by decide +kernel
theorem twd_le_levelBeside_6 : decode prog_5_method_10_code 6 = .ok (.getfield 28, 3) := by decide +kernel
theorem twd_le_levelBeside_9 : decode prog_5_method_10_code 9 = .ok (.goto 12, 3) := by decide +kernel
theorem twd_le_levelBeside_12 : decode prog_5_method_10_code 12 = .ok (.aload_n 0, 1) := by decide +kernel
theorem twd_le_levelBeside_13 : decode prog_5_method_10_code 13 = .ok (.getfield 35, 3) := by decide +kernel
theorem twd_le_levelBeside_16 : decode prog_5_method_10_code 16 = .ok (.getfield 111, 3) := by decide +kernel
theorem twd_le_levelBeside_19 : decode prog_5_method_10_code 19 = .ok (.iload_n 1, 1) := by decide +kernel
theorem twd_le_levelBeside_20 : decode prog_5_method_10_code 20 = .ok (.iaload, 1) := by decide +kernel
theorem twd_le_levelBeside_21 : decode prog_5_method_10_code 21 = .ok (.ireturn, 1) := by decide +kernel
theorem twk_le_levelBeside : tw_dc twy_le_levelBeside 1 := ⟨by decide +kernel, by decide +kernel, by decide +kernel⟩
theorem twd_le_setSides_0 : decode prog_5_method_9_code 0 = .ok (.aload_n 0, 1) := by decide +kernel
theorem twd_le_setSides_1 : decode prog_5_method_9_code 1 = .ok (.getfield 42, 3) := by decide +kernel
theorem twd_le_setSides_4 : decode prog_5_method_9_code 4 = .ok (.getfield 128, 3) := by decide +kernel
theorem twd_le_setSides_7 : decode prog_5_method_9_code 7 = .ok (.iconst 0, 1) := by decide +kernel
theorem twd_le_setSides_8 : decode prog_5_method_9_code 8 = .ok (.iaload, 1) := by decide +kernel
theorem twd_le_setSides_9 : decode prog_5_method_9_code 9 = .ok (.istore_n 2, 1) := by decide +kernel
theorem twd_le_setSides_10 : decode prog_5_method_9_code 10 = .ok (.aload_n 0, 1) := by decide +kernel
theorem twd_le_setSides_11 : decode prog_5_method_9_code 11 = .ok (.getfield 42, 3) := by decide +kernel
theorem twd_le_setSides_14 : decode prog_5_method_9_code 14 = .ok (.getfield 128, 3) := by decide +kernel
theorem twd_le_setSides_17 : decode prog_5_method_9_code 17 = .ok (.aload_n 0, 1) := by decide +kernel
theorem twd_le_setSides_18 : decode prog_5_method_9_code 18 = .ok (.getfield 42, 3) := by decide +kernel
theorem twd_le_setSides_21 : decode prog_5_method_9_code 21 = .ok (.getfield 114, 3) := by decide +kernel
theorem twd_le_setSides_24 : decode prog_5_method_9_code 24 = .ok (.iconst 1, 1) := by decide +kernel
theorem twd_le_setSides_25 : decode prog_5_method_9_code 25 = .ok (.isub, 1) := by decide +kernel
theorem twd_le_setSides_26 : decode prog_5_method_9_code 26 = .ok (.iaload, 1) := by decide +kernel
theorem twd_le_setSides_27 : decode prog_5_method_9_code 27 = .ok (.istore_n 3, 1) := by decide +kernel
theorem twd_le_setSides_28 : decode prog_5_method_9_code 28 = .ok (.aload_n 0, 1) := by decide +kernel
theorem twd_le_setSides_29 : decode prog_5_method_9_code 29 = .ok (.getfield 35, 3) := by decide +kernel
theorem twd_le_setSides_32 : decode prog_5_method_9_code 32 = .ok (.getfield 111, 3) := by decide +kernel
theorem twd_le_setSides_35 : decode prog_5_method_9_code 35 = .ok (.iload_n 2, 1) := by decide +kernel
theorem twd_le_setSides_36 : decode prog_5_method_9_code 36 = .ok (.iaload, 1) := by decide +kernel
theorem twd_le_setSides_37 : decode prog_5_method_9_code 37 = .ok (.istore 4, 2) := by decide +kernel
theorem twd_le_setSides_39 : decode prog_5_method_9_code 39 = .ok (.aload_n 0, 1) := by decide +kernel
theorem twd_le_setSides_40 : decode prog_5_method_9_code 40 = .ok (.aload_n 1, 1) := by decide +kernel
theorem twd_le_setSides_41 : decode prog_5_method_9_code 41 = .ok (.iload_n 2, 1) := by decide +kernel
theorem twd_le_setSides_42 : decode prog_5_method_9_code 42 = .ok (.invokevirtual 107, 3) := by decide +kernel
theorem twd_le_setSides_45 : decode prog_5_method_9_code 45 = .ok (.istore 5, 2) := by decide +kernel
theorem twd_le_setSides_47 : decode prog_5_method_9_code 47 = .ok (.aload_n 1, 1) := by decide +kernel
theorem twd_le_setSides_48 : decode prog_5_method_9_code 48 = .ok (.getfield 97, 3) := by decide +kernel
theorem twd_le_setSides_51 : decode prog_5_method_9_code 51 = .ok (.iload_n 3, 1) := by decide +kernel
theorem twd_le_setSides_52 : decode prog_5_method_9_code 52 = .ok (.iaload, 1) := by decide +kernel
theorem twd_le_setSides_53 : decode prog_5_method_9_code 53 = .ok (.invokestatic 120, 3) := by decide +kernel
theorem twd_le_setSides_56 : decode prog_5_method_9_code 56 = .ok (.ifCond .eq 7, 3) := by decide +kernel
theorem twd_le_setSides_59 : decode prog_5_method_9_code 59 = .ok (.iconst (-1), 1) := by decide +kernel
theorem twd_le_setSides_60 : decode prog_5_method_9_code 60 = .ok (.goto 9, 3) := by decide +kernel
theorem twd_le_setSides_63 : decode prog_5_method_9_code 63 = .ok (.aload_n 0, 1) := by decide +kernel
theorem twd_le_setSides_64 : decode prog_5_method_9_code 64 = .ok (.aload_n 1, 1) := by decide +kernel
theorem twd_le_setSides_65 : decode prog_5_method_9_code 65 = .ok (.iload_n 3, 1) := by decide +kernel
theorem twd_le_setSides_66 : decode prog_5_method_9_code 66 = .ok (.invokevirtual 131, 3) := by decide +kernel
theorem twd_le_setSides_69 : decode prog_5_method_9_code 69 = .ok (.istore 6, 2) := by decide +kernel
theorem twd_le_setSides_71 : decode prog_5_method_9_code 71 = .ok (.aload_n 0, 1) := by decide +kernel
theorem twd_le_setSides_72 : decode prog_5_method_9_code 72 = .ok (.getfield 42, 3) := by decide +kernel
theorem twd_le_setSides_75 : decode prog_5_method_9_code 75 = .ok (.iload 4, 2) := by decide +kernel
theorem twd_le_setSides_77 : decode prog_5_method_9_code 77 = .ok (.invokestatic 134, 3) := by decide +kernel
theorem twd_le_setSides_80 : decode prog_5_method_9_code 80 = .ok (.putfield 138, 3) := by decide +kernel
theorem twd_le_setSides_83 : decode prog_5_method_9_code 83 = .ok (.aload_n 0, 1) := by decide +kernel
theorem twd_le_setSides_84 : decode prog_5_method_9_code 84 = .ok (.getfield 42, 3) := by decide +kernel
theorem twd_le_setSides_87 : decode prog_5_method_9_code 87 = .ok (.iload 4, 2) := by decide +kernel
theorem twd_le_setSides_89 : decode prog_5_method_9_code 89 = .ok (.aload_n 0, 1) := by decide +kernel
theorem twd_le_setSides_90 : decode prog_5_method_9_code 90 = .ok (.iload 5, 2) := by decide +kernel
theorem twd_le_setSides_92 : decode prog_5_method_9_code 92 = .ok (.invokevirtual 141, 3) := by decide +kernel
theorem twd_le_setSides_95 : decode prog_5_method_9_code 95 = .ok (.invokestatic 144, 3) := by decide +kernel
theorem twd_le_setSides_98 : decode prog_5_method_9_code 98 = .ok (.invokestatic 134, 3) := by decide +kernel
theorem twd_le_setSides_101 : decode prog_5_method_9_code 101 = .ok (.putfield 150, 3) := by decide +kernel
theorem twd_le_setSides_104 : decode prog_5_method_9_code 104 = .ok (.aload_n 0, 1) := by decide +kernel
theorem twd_le_setSides_105 : decode prog_5_method_9_code 105 = .ok (.getfield 42, 3) := by decide +kernel
theorem twd_le_setSides_108 : decode prog_5_method_9_code 108 = .ok (.iload 4, 2) := by decide +kernel
theorem twd_le_setSides_110 : decode prog_5_method_9_code 110 = .ok (.aload_n 0, 1) := by decide +kernel
theorem twd_le_setSides_111 : decode prog_5_method_9_code 111 = .ok (.iload 6, 2) := by decide +kernel
theorem twd_le_setSides_113 : decode prog_5_method_9_code 113 = .ok (.invokevirtual 141, 3) := by decide +kernel
theorem twd_le_setSides_116 : decode prog_5_method_9_code 116 = .ok (.invokestatic 144, 3) := by decide +kernel
theorem twd_le_setSides_119 : decode prog_5_method_9_code 119 = .ok (.invokestatic 134, 3) := by decide +kernel
theorem twd_le_setSides_122 : decode prog_5_method_9_code 122 = .ok (.putfield 153, 3) := by decide +kernel
theorem twd_le_setSides_125 : decode prog_5_method_9_code 125 = .ok (.return_, 1) := by decide +kernel
theorem twk_le_setSides : tw_dc twy_le_setSides 1 := ⟨by decide +kernel, by decide +kernel, by decide +kernel⟩
theorem twd_tl_isIsolateMark_0 : decode prog_1_method_25_code 0 = .ok (.iload_n 0, 1) := by decide +kernel
theorem twd_tl_isIsolateMark_1 : decode prog_1_method_25_code 1 = .ok (.bipush 17, 2) := by decide +kernel
theorem twd_tl_isIsolateMark_3 : decode prog_1_method_25_code 3 = .ok (.if_icmp .lt 13, 3) := by decide +kernel
theorem twd_tl_isIsolateMark_6 : decode prog_1_method_25_code 6 = .ok (.iload_n 0, 1) := by decide +kernel
theorem twd_tl_isIsolateMark_7 : decode prog_1_method_25_code 7 = .ok (.bipush 20, 2) := by decide +kernel
theorem twd_tl_isIsolateMark_9 : decode prog_1_method_25_code 9 = .ok (.if_icmp .gt 7, 3) := by decide +kernel
theorem twd_tl_isIsolateMark_12 : decode prog_1_method_25_code 12 = .ok (.iconst 1, 1) := by decide +kernel
theorem twd_tl_isIsolateMark_13 : decode prog_1_method_25_code 13 = .ok (.goto 4, 3) := by decide +kernel
theorem twd_tl_isIsolateMark_16 : decode prog_1_method_25_code 16 = .ok (.iconst 0, 1) := by decide +kernel
theorem twd_tl_isIsolateMark_17 : decode prog_1_method_25_code 17 = .ok (.ireturn, 1) := by decide +kernel
theorem twk_tl_isIsolateMark : tw_dc twy_tl_isIsolateMark 1 := ⟨by decide +kernel, by decide +kernel, by decide +kernel⟩
theorem twd_se_joinMarks_0 : decode prog_8_method_4_code 0 = .ok (.aload_n 0, 1) := by decide +kernel
theorem twd_se_joinMarks_1 : decode prog_8_method_4_code 1 = .ok (.getfield 29, 3) := by decide +kernel
theorem twd_se_joinMarks_4 : decode prog_8_method_4_code 4 = .ok (.istore_n 1, 1) := by decide +kernel
theorem twd_se_joinMarks_5 : decode prog_8_method_4_code 5 = .ok (.iconst 0, 1) := by decide +kernel
theorem twd_se_joinMarks_6 : decode prog_8_method_4_code 6 = .ok (.istore_n 2, 1) := by decide +kernel
theorem twd_se_joinMarks_7 : decode prog_8_method_4_code 7 = .ok (.iload_n 2, 1) := by decide +kernel
theorem twd_se_joinMarks_8 : decode prog_8_method_4_code 8 = .ok (.aload_n 0, 1) := by decide +kernel
theorem twd_se_joinMarks_9 : decode prog_8_method_4_code 9 = .ok (.getfield 22, 3) := by decide +kernel
theorem twd_se_joinMarks_12 : decode prog_8_method_4_code 12 = .ok (.if_icmp .ge 66, 3) := by decide +kernel
theorem twd_se_joinMarks_15 : decode prog_8_method_4_code 15 = .ok (.aload_n 0, 1) := by decide +kernel
theorem twd_se_joinMarks_16 : decode prog_8_method_4_code 16 = .ok (.getfield 18, 3) := by decide +kernel
theorem twd_se_joinMarks_19 : decode prog_8_method_4_code 19 = .ok (.iload_n 2, 1) := by decide +kernel
theorem twd_se_joinMarks_20 : decode prog_8_method_4_code 20 = .ok (.aload_n 0, 1) := by decide +kernel
theorem twd_se_joinMarks_21 : decode prog_8_method_4_code 21 = .ok (.getfield 15, 3) := by decide +kernel
theorem twd_se_joinMarks_24 : decode prog_8_method_4_code 24 = .ok (.iload_n 2, 1) := by decide +kernel
theorem twd_se_joinMarks_25 : decode prog_8_method_4_code 25 = .ok (.iaload, 1) := by decide +kernel
theorem twd_se_joinMarks_26 : decode prog_8_method_4_code 26 = .ok (.bipush 8, 2) := by decide +kernel
theorem twd_se_joinMarks_28 : decode prog_8_method_4_code 28 = .ok (.if_icmp .ne 7, 3) := by decide +kernel
theorem twd_se_joinMarks_31 : decode prog_8_method_4_code 31 = .ok (.iconst 1, 1) := by decide +kernel
theorem twd_se_joinMarks_32 : decode prog_8_method_4_code 32 = .ok (.goto 4, 3) := by decide +kernel
theorem twd_se_joinMarks_35 : decode prog_8_method_4_code 35 = .ok (.iconst 0, 1) := by decide +kernel
theorem twd_se_joinMarks_36 : decode prog_8_method_4_code 36 = .ok (.bastore, 1) := by decide +kernel
theorem twd_se_joinMarks_37 : decode prog_8_method_4_code 37 = .ok (.aload_n 0, 1) := by decide +kernel
theorem twd_se_joinMarks_38 : decode prog_8_method_4_code 38 = .ok (.getfield 18, 3) := by decide +kernel
theorem twd_se_joinMarks_41 : decode prog_8_method_4_code 41 = .ok (.iload_n 2, 1) := by decide +kernel
theorem twd_se_joinMarks_42 : decode prog_8_method_4_code 42 = .ok (.baload, 1) := by decide +kernel
theorem twd_se_joinMarks_43 : decode prog_8_method_4_code 43 = .ok (.ifCond .eq 22, 3) := by decide +kernel
theorem twd_se_joinMarks_46 : decode prog_8_method_4_code 46 = .ok (.aload_n 0, 1) := by decide +kernel
theorem twd_se_joinMarks_47 : decode prog_8_method_4_code 47 = .ok (.getfield 15, 3) := by decide +kernel
theorem twd_se_joinMarks_50 : decode prog_8_method_4_code 50 = .ok (.iload_n 2, 1) := by decide +kernel
theorem twd_se_joinMarks_51 : decode prog_8_method_4_code 51 = .ok (.iload_n 1, 1) := by decide +kernel
theorem twd_se_joinMarks_52 : decode prog_8_method_4_code 52 = .ok (.invokestatic 53, 3) := by decide +kernel
theorem twd_se_joinMarks_55 : decode prog_8_method_4_code 55 = .ok (.ifCond .eq 8, 3) := by decide +kernel
theorem twd_se_joinMarks_58 : decode prog_8_method_4_code 58 = .ok (.bipush 11, 2) := by decide +kernel
theorem twd_se_joinMarks_60 : decode prog_8_method_4_code 60 = .ok (.goto 4, 3) := by decide +kernel
theorem twd_se_joinMarks_63 : decode prog_8_method_4_code 63 = .ok (.iload_n 1, 1) := by decide +kernel
theorem twd_se_joinMarks_64 : decode prog_8_method_4_code 64 = .ok (.iastore, 1) := by decide +kernel
theorem twd_se_joinMarks_65 : decode prog_8_method_4_code 65 = .ok (.aload_n 0, 1) := by decide +kernel
theorem twd_se_joinMarks_66 : decode prog_8_method_4_code 66 = .ok (.getfield 15, 3) := by decide +kernel
theorem twd_se_joinMarks_69 : decode prog_8_method_4_code 69 = .ok (.iload_n 2, 1) := by decide +kernel
theorem twd_se_joinMarks_70 : decode prog_8_method_4_code 70 = .ok (.iaload, 1) := by decide +kernel
theorem twd_se_joinMarks_71 : decode prog_8_method_4_code 71 = .ok (.istore_n 1, 1) := by decide +kernel
theorem twd_se_joinMarks_72 : decode prog_8_method_4_code 72 = .ok (.iinc 2 1, 3) := by decide +kernel
theorem twd_se_joinMarks_75 : decode prog_8_method_4_code 75 = .ok (.goto (-68), 3) := by decide +kernel
theorem twd_se_joinMarks_78 : decode prog_8_method_4_code 78 = .ok (.return_, 1) := by decide +kernel
theorem twk_se_joinMarks : tw_dc twy_se_joinMarks 0 := ⟨by decide +kernel, by decide +kernel, by decide +kernel⟩
theorem twd_se_turnArabicNumbers_0 : decode prog_8_method_5_code 0 = .ok (.iconst (-1), 1) := by decide +kernel
theorem twd_se_turnArabicNumbers_1 : decode prog_8_method_5_code 1 = .ok (.istore_n 1, 1) := by decide +kernel
theorem twd_se_turnArabicNumbers_2 : decode prog_8_method_5_code 2 = .ok (.iconst 0, 1) := by decide +kernel
theorem twd_se_turnArabicNumbers_3 : decode prog_8_method_5_code 3 = .ok (.istore_n 2, 1) := by decide +kernel
theorem twd_se_turnArabicNumbers_4 : decode prog_8_method_5_code 4 = .ok (.iload_n 2, 1) := by decide +kernel
theorem twd_se_turnArabicNumbers_5 : decode prog_8_method_5_code 5 = .ok (.aload_n 0, 1) := by decide +kernel
theorem twd_se_turnArabicNumbers_6 : decode prog_8_method_5_code 6 = .ok (.getfield 22, 3) := by decide +kernel
theorem twd_se_turnArabicNumbers_9 : decode prog_8_method_5_code 9 = .ok (.if_icmp .ge 65, 3) := by decide +kernel
theorem twd_se_turnArabicNumbers_12 : decode prog_8_method_5_code 12 = .ok (.aload_n 0, 1) := by decide +kernel
theorem twd_se_turnArabicNumbers_13 : decode prog_8_method_5_code 13 = .ok (.getfield 15, 3) := by decide +kernel
theorem twd_se_turnArabicNumbers_16 : decode prog_8_method_5_code 16 = .ok (.iload_n 2, 1) := by decide +kernel
theorem twd_se_turnArabicNumbers_17 : decode prog_8_method_5_code 17 = .ok (.iaload, 1) := by decide +kernel
theorem twd_se_turnArabicNumbers_18 : decode prog_8_method_5_code 18 = .ok (.istore_n 3, 1) := by decide +kernel
theorem twd_se_turnArabicNumbers_19 : decode prog_8_method_5_code 19 = .ok (.iload_n 3, 1) := by decide +kernel
theorem twd_se_turnArabicNumbers_20 : decode prog_8_method_5_code 20 = .ok (.ifCond .eq 13, 3) := by decide +kernel
theorem twd_se_turnArabicNumbers_23 : decode prog_8_method_5_code 23 = .ok (.iload_n 3, 1) := by decide +kernel
theorem twd_se_turnArabicNumbers_24 : decode prog_8_method_5_code 24 = .ok (.iconst 1, 1) := by decide +kernel
theorem twd_se_turnArabicNumbers_25 : decode prog_8_method_5_code 25 = .ok (.if_icmp .eq 8, 3) := by decide +kernel
theorem twd_se_turnArabicNumbers_28 : decode prog_8_method_5_code 28 = .ok (.iload_n 3, 1) := by decide +kernel
theorem twd_se_turnArabicNumbers_29 : decode prog_8_method_5_code 29 = .ok (.iconst 2, 1) := by decide +kernel
theorem twd_se_turnArabicNumbers_30 : decode prog_8_method_5_code 30 = .ok (.if_icmp .ne 5, 3) := by decide +kernel
theorem twd_se_turnArabicNumbers_33 : decode prog_8_method_5_code 33 = .ok (.iload_n 3, 1) := by decide +kernel
theorem twd_se_turnArabicNumbers_34 : decode prog_8_method_5_code 34 = .ok (.istore_n 1, 1) := by decide +kernel
theorem twd_se_turnArabicNumbers_35 : decode prog_8_method_5_code 35 = .ok (.iload_n 3, 1) := by decide +kernel
theorem twd_se_turnArabicNumbers_36 : decode prog_8_method_5_code 36 = .ok (.iconst 3, 1) := by decide +kernel
theorem twd_se_turnArabicNumbers_37 : decode prog_8_method_5_code 37 = .ok (.if_icmp .ne 19, 3) := by decide +kernel
theorem twd_se_turnArabicNumbers_40 : decode prog_8_method_5_code 40 = .ok (.iload_n 1, 1) := by decide +kernel
theorem twd_se_turnArabicNumbers_41 : decode prog_8_method_5_code 41 = .ok (.iconst 2, 1) := by decide +kernel
theorem twd_se_turnArabicNumbers_42 : decode prog_8_method_5_code 42 = .ok (.if_icmp .ne 14, 3) := by decide +kernel
theorem twd_se_turnArabicNumbers_45 : decode prog_8_method_5_code 45 = .ok (.aload_n 0, 1) := by decide +kernel
theorem twd_se_turnArabicNumbers_46 : decode prog_8_method_5_code 46 = .ok (.getfield 15, 3) := by decide +kernel
theorem twd_se_turnArabicNumbers_49 : decode prog_8_method_5_code 49 = .ok (.iload_n 2, 1) := by decide +kernel
theorem twd_se_turnArabicNumbers_50 : decode prog_8_method_5_code 50 = .ok (.bipush 6, 2) := by decide +kernel
theorem twd_se_turnArabicNumbers_52 : decode prog_8_method_5_code 52 = .ok (.iastore, 1) := by decide +kernel
theorem twd_se_turnArabicNumbers_53 : decode prog_8_method_5_code 53 = .ok (.goto 15, 3) := by decide +kernel
theorem twd_se_turnArabicNumbers_56 : decode prog_8_method_5_code 56 = .ok (.iload_n 3, 1) := by decide +kernel
theorem twd_se_turnArabicNumbers_57 : decode prog_8_method_5_code 57 = .ok (.iconst 2, 1) := by decide +kernel
theorem twd_se_turnArabicNumbers_58 : decode prog_8_method_5_code 58 = .ok (.if_icmp .ne 10, 3) := by decide +kernel
theorem twd_se_turnArabicNumbers_61 : decode prog_8_method_5_code 61 = .ok (.aload_n 0, 1) := by decide +kernel
theorem twd_se_turnArabicNumbers_62 : decode prog_8_method_5_code 62 = .ok (.getfield 15, 3) := by decide +kernel
theorem twd_se_turnArabicNumbers_65 : decode prog_8_method_5_code 65 = .ok (.iload_n 2, 1) := by decide +kernel
theorem twd_se_turnArabicNumbers_66 : decode prog_8_method_5_code 66 = .ok (.iconst 1, 1) := by decide +kernel
theorem twd_se_turnArabicNumbers_67 : decode prog_8_method_5_code 67 = .ok (.iastore, 1) := by decide +kernel
theorem twd_se_turnArabicNumbers_68 : decode prog_8_method_5_code 68 = .ok (.iinc 2 1, 3) := by decide +kernel
theorem twd_se_turnArabicNumbers_71 : decode prog_8_method_5_code 71 = .ok (.goto (-67), 3) := by decide +kernel
theorem twd_se_turnArabicNumbers_74 : decode prog_8_method_5_code 74 = .ok (.return_, 1) := by decide +kernel
theorem twk_se_turnArabicNumbers : tw_dc twy_se_turnArabicNumbers 0 := ⟨by decide +kernel, by decide +kernel, by decide +kernel⟩
theorem twd_se_turnSeparators_0 : decode prog_8_method_6_code 0 = .ok (.iconst 1, 1) := by decide +kernel
theorem twd_se_turnSeparators_1 : decode prog_8_method_6_code 1 = .ok (.istore_n 1, 1) := by decide +kernel
theorem twd_se_turnSeparators_2 : decode prog_8_method_6_code 2 = .ok (.iload_n 1, 1) := by decide +kernel
theorem twd_se_turnSeparators_3 : decode prog_8_method_6_code 3 = .ok (.aload_n 0, 1) := by decide +kernel
theorem twd_se_turnSeparators_4 : decode prog_8_method_6_code 4 = .ok (.getfield 22, 3) := by decide +kernel
theorem twd_se_turnSeparators_7 : decode prog_8_method_6_code 7 = .ok (.iconst 1, 1) := by decide +kernel
theorem twd_se_turnSeparators_8 : decode prog_8_method_6_code 8 = .ok (.isub, 1) := by decide +kernel
theorem twd_se_turnSeparators_9 : decode prog_8_method_6_code 9 = .ok (.if_icmp .ge 87, 3) := by decide +kernel
theorem twd_se_turnSeparators_12 : decode prog_8_method_6_code 12 = .ok (.aload_n 0, 1) := by decide +kernel
theorem twd_se_turnSeparators_13 : decode prog_8_method_6_code 13 = .ok (.getfield 15, 3) := by decide +kernel
theorem twd_se_turnSeparators_16 : decode prog_8_method_6_code 16 = .ok (.iload_n 1, 1) := by decide +kernel
theorem twd_se_turnSeparators_17 : decode prog_8_method_6_code 17 = .ok (.iconst 1, 1) := by decide +kernel
theorem twd_se_turnSeparators_18 : decode prog_8_method_6_code 18 = .ok (.isub, 1) := by decide +kernel
theorem twd_se_turnSeparators_19 : decode prog_8_method_6_code 19 = .ok (.iaload, 1) := by decide +kernel
theorem twd_se_turnSeparators_20 : decode prog_8_method_6_code 20 = .ok (.istore_n 2, 1) := by decide +kernel
theorem twd_se_turnSeparators_21 : decode prog_8_method_6_code 21 = .ok (.iload_n 2, 1) := by decide +kernel
theorem twd_se_turnSeparators_22 : decode prog_8_method_6_code 22 = .ok (.aload_n 0, 1) := by decide +kernel
theorem twd_se_turnSeparators_23 : decode prog_8_method_6_code 23 = .ok (.getfield 15, 3) := by decide +kernel
theorem twd_se_turnSeparators_26 : decode prog_8_method_6_code 26 = .ok (.iload_n 1, 1) := by decide +kernel
theorem twd_se_turnSeparators_27 : decode prog_8_method_6_code 27 = .ok (.iconst 1, 1) := by decide +kernel
theorem twd_se_turnSeparators_28 : decode prog_8_method_6_code 28 = .ok (.iadd, 1) := by decide +kernel
theorem twd_se_turnSeparators_29 : decode prog_8_method_6_code 29 = .ok (.iaload, 1) := by decide +kernel
theorem twd_se_turnSeparators_30 : decode prog_8_method_6_code 30 = .ok (.if_icmp .eq 6, 3) := by decide +kernel
theorem twd_se_turnSeparators_33 : decode prog_8_method_6_code 33 = .ok (.goto 57, 3) := by decide +kernel
theorem twd_se_turnSeparators_36 : decode prog_8_method_6_code 36 = .ok (.aload_n 0, 1) := by decide +kernel
theorem twd_se_turnSeparators_37 : decode prog_8_method_6_code 37 = .ok (.getfield 15, 3) := by decide +kernel
theorem twd_se_turnSeparators_40 : decode prog_8_method_6_code 40 = .ok (.iload_n 1, 1) := by decide +kernel
theorem twd_se_turnSeparators_41 : decode prog_8_method_6_code 41 = .ok (.iaload, 1) := by decide +kernel
theorem twd_se_turnSeparators_42 : decode prog_8_method_6_code 42 = .ok (.iconst 4, 1) := by decide +kernel
theorem twd_se_turnSeparators_43 : decode prog_8_method_6_code 43 = .ok (.if_icmp .ne 8, 3) := by decide +kernel
theorem twd_se_turnSeparators_46 : decode prog_8_method_6_code 46 = .ok (.iload_n 2, 1) := by decide +kernel
theorem twd_se_turnSeparators_47 : decode prog_8_method_6_code 47 = .ok (.iconst 3, 1) := by decide +kernel
theorem twd_se_turnSeparators_48 : decode prog_8_method_6_code 48 = .ok (.if_icmp .eq 25, 3) := by decide +kernel
theorem twd_se_turnSeparators_51 : decode prog_8_method_6_code 51 = .ok (.aload_n 0, 1) := by decide +kernel
theorem twd_se_turnSeparators_52 : decode prog_8_method_6_code 52 = .ok (.getfield 15, 3) := by decide +kernel
theorem twd_se_turnSeparators_55 : decode prog_8_method_6_code 55 = .ok (.iload_n 1, 1) := by decide +kernel
theorem twd_se_turnSeparators_56 : decode prog_8_method_6_code 56 = .ok (.iaload, 1) := by decide +kernel
theorem twd_se_turnSeparators_57 : decode prog_8_method_6_code 57 = .ok (.bipush 7, 2) := by decide +kernel
theorem twd_se_turnSeparators_59 : decode prog_8_method_6_code 59 = .ok (.if_icmp .ne 18, 3) := by decide +kernel
theorem twd_se_turnSeparators_62 : decode prog_8_method_6_code 62 = .ok (.iload_n 2, 1) := by decide +kernel
theorem twd_se_turnSeparators_63 : decode prog_8_method_6_code 63 = .ok (.iconst 3, 1) := by decide +kernel
theorem twd_se_turnSeparators_64 : decode prog_8_method_6_code 64 = .ok (.if_icmp .eq 9, 3) := by decide +kernel
theorem twd_se_turnSeparators_67 : decode prog_8_method_6_code 67 = .ok (.iload_n 2, 1) := by decide +kernel
theorem twd_se_turnSeparators_68 : decode prog_8_method_6_code 68 = .ok (.bipush 6, 2) := by decide +kernel
theorem twd_se_turnSeparators_70 : decode prog_8_method_6_code 70 = .ok (.if_icmp .ne 7, 3) := by decide +kernel
theorem twd_se_turnSeparators_73 : decode prog_8_method_6_code 73 = .ok (.iconst 1, 1) := by decide +kernel
theorem twd_se_turnSeparators_74 : decode prog_8_method_6_code 74 = .ok (.goto 4, 3) := by decide +kernel
theorem twd_se_turnSeparators_77 : decode prog_8_method_6_code 77 = .ok (.iconst 0, 1) := by decide +kernel
theorem twd_se_turnSeparators_78 : decode prog_8_method_6_code 78 = .ok (.istore_n 3, 1) := by decide +kernel
theorem twd_se_turnSeparators_79 : decode prog_8_method_6_code 79 = .ok (.iload_n 3, 1) := by decide +kernel
theorem twd_se_turnSeparators_80 : decode prog_8_method_6_code 80 = .ok (.ifCond .eq 10, 3) := by decide +kernel
theorem twd_se_turnSeparators_83 : decode prog_8_method_6_code 83 = .ok (.aload_n 0, 1) := by decide +kernel
theorem twd_se_turnSeparators_84 : decode prog_8_method_6_code 84 = .ok (.getfield 15, 3) := by decide +kernel
theorem twd_se_turnSeparators_87 : decode prog_8_method_6_code 87 = .ok (.iload_n 1, 1) := by decide +kernel
theorem twd_se_turnSeparators_88 : decode prog_8_method_6_code 88 = .ok (.iload_n 2, 1) := by decide +kernel
theorem twd_se_turnSeparators_89 : decode prog_8_method_6_code 89 = .ok (.iastore, 1) := by decide +kernel
theorem twd_se_turnSeparators_90 : decode prog_8_method_6_code 90 = .ok (.iinc 1 1, 3) := by decide +kernel
theorem twd_se_turnSeparators_93 : decode prog_8_method_6_code 93 = .ok (.goto (-91), 3) := by decide +kernel
theorem twd_se_turnSeparators_96 : decode prog_8_method_6_code 96 = .ok (.return_, 1) := by decide +kernel
theorem twk_se_turnSeparators : tw_dc twy_se_turnSeparators 0 := ⟨by decide +kernel, by decide +kernel, by decide +kernel⟩
theorem twd_se_turnTerminators_0 : decode prog_8_method_7_code 0 = .ok (.iconst 1, 1) := by decide +kernel
theorem twd_se_turnTerminators_1 : decode prog_8_method_7_code 1 = .ok (.istore_n 1, 1) := by decide +kernel
theorem twd_se_turnTerminators_2 : decode prog_8_method_7_code 2 = .ok (.iload_n 1, 1) := by decide +kernel
theorem twd_se_turnTerminators_3 : decode prog_8_method_7_code 3 = .ok (.aload_n 0, 1) := by decide +kernel
theorem twd_se_turnTerminators_4 : decode prog_8_method_7_code 4 = .ok (.getfield 22, 3) := by decide +kernel
theorem twd_se_turnTerminators_7 : decode prog_8_method_7_code 7 = .ok (.if_icmp .ge 38, 3) := by decide +kernel
theorem twd_se_turnTerminators_10 : decode prog_8_method_7_code 10 = .ok (.aload_n 0, 1) := by decide +kernel
theorem twd_se_turnTerminators_11 : decode prog_8_method_7_code 11 = .ok (.getfield 15, 3) := by decide +kernel
theorem twd_se_turnTerminators_14 : decode prog_8_method_7_code 14 = .ok (.iload_n 1, 1) := by decide +kernel
theorem twd_se_turnTerminators_15 : decode prog_8_method_7_code 15 = .ok (.iaload, 1) := by decide +kernel
theorem twd_se_turnTerminators_16 : decode prog_8_method_7_code 16 = .ok (.iconst 5, 1) := by decide +kernel
theorem twd_se_turnTerminators_17 : decode prog_8_method_7_code 17 = .ok (.if_icmp .ne 22, 3) := by decide +kernel
theorem twd_se_turnTerminators_20 : decode prog_8_method_7_code 20 = .ok (.aload_n 0, 1) := by decide +kernel
theorem twd_se_turnTerminators_21 : decode prog_8_method_7_code 21 = .ok (.getfield 15, 3) := by decide +kernel
theorem twd_se_turnTerminators_24 : decode prog_8_method_7_code 24 = .ok (.iload_n 1, 1) := by decide +kernel
theorem twd_se_turnTerminators_25 : decode prog_8_method_7_code 25 = .ok (.iconst 1, 1) := by decide +kernel
theorem twd_se_turnTerminators_26 : decode prog_8_method_7_code 26 = .ok (.isub, 1) := by decide +kernel
theorem twd_se_turnTerminators_27 : decode prog_8_method_7_code 27 = .ok (.iaload, 1) := by decide +kernel
theorem twd_se_turnTerminators_28 : decode prog_8_method_7_code 28 = .ok (.iconst 3, 1) := by decide +kernel
theorem twd_se_turnTerminators_29 : decode prog_8_method_7_code 29 = .ok (.if_icmp .ne 10, 3) := by decide +kernel
theorem twd_se_turnTerminators_32 : decode prog_8_method_7_code 32 = .ok (.aload_n 0, 1) := by decide +kernel
theorem twd_se_turnTerminators_33 : decode prog_8_method_7_code 33 = .ok (.getfield 15, 3) := by decide +kernel
theorem twd_se_turnTerminators_36 : decode prog_8_method_7_code 36 = .ok (.iload_n 1, 1) := by decide +kernel
theorem twd_se_turnTerminators_37 : decode prog_8_method_7_code 37 = .ok (.iconst 3, 1) := by decide +kernel
theorem twd_se_turnTerminators_38 : decode prog_8_method_7_code 38 = .ok (.iastore, 1) := by decide +kernel
theorem twd_se_turnTerminators_39 : decode prog_8_method_7_code 39 = .ok (.iinc 1 1, 3) := by decide +kernel
theorem twd_se_turnTerminators_42 : decode prog_8_method_7_code 42 = .ok (.goto (-40), 3) := by decide +kernel
theorem twd_se_turnTerminators_45 : decode prog_8_method_7_code 45 = .ok (.aload_n 0, 1) := by decide +kernel
theorem twd_se_turnTerminators_46 : decode prog_8_method_7_code 46 = .ok (.getfield 22, 3) := by decide +kernel
theorem twd_se_turnTerminators_49 : decode prog_8_method_7_code 49 = .ok (.iconst 2, 1) := by decide +kernel
theorem twd_se_turnTerminators_50 : decode prog_8_method_7_code 50 = .ok (.isub, 1) := by decide +kernel
theorem twd_se_turnTerminators_51 : decode prog_8_method_7_code 51 = .ok (.istore_n 1, 1) := by decide +kernel
theorem twd_se_turnTerminators_52 : decode prog_8_method_7_code 52 = .ok (.iload_n 1, 1) := by decide +kernel
theorem twd_se_turnTerminators_53 : decode prog_8_method_7_code 53 = .ok (.ifCond .lt 38, 3) := by decide +kernel
theorem twd_se_turnTerminators_56 : decode prog_8_method_7_code 56 = .ok (.aload_n 0, 1) := by decide +kernel
theorem twd_se_turnTerminators_57 : decode prog_8_method_7_code 57 = .ok (.getfield 15, 3) := by decide +kernel
theorem twd_se_turnTerminators_60 : decode prog_8_method_7_code 60 = .ok (.iload_n 1, 1) := by decide +kernel
theorem twd_se_turnTerminators_61 : decode prog_8_method_7_code 61 = .ok (.iaload, 1) := by decide +kernel
theorem twd_se_turnTerminators_62 : decode prog_8_method_7_code 62 = .ok (.iconst 5, 1) := by decide +kernel
theorem twd_se_turnTerminators_63 : decode prog_8_method_7_code 63 = .ok (.if_icmp .ne 22, 3) := by decide +kernel
theorem twd_se_turnTerminators_66 : decode prog_8_method_7_code 66 = .ok (.aload_n 0, 1) := by decide +kernel
theorem twd_se_turnTerminators_67 : decode prog_8_method_7_code 67 = .ok (.getfield 15, 3) := by decide +kernel
theorem twd_se_turnTerminators_70 : decode prog_8_method_7_code 70 = .ok (.iload_n 1, 1) := by decide +kernel
theorem twd_se_turnTerminators_71 : decode prog_8_method_7_code 71 = .ok (.iconst 1, 1) := by decide +kernel
theorem twd_se_turnTerminators_72 : decode prog_8_method_7_code 72 = .ok (.iadd, 1) := by decide +kernel
theorem twd_se_turnTerminators_73 : decode prog_8_method_7_code 73 = .ok (.iaload, 1) := by decide +kernel
theorem twd_se_turnTerminators_74 : decode prog_8_method_7_code 74 = .ok (.iconst 3, 1) := by decide +kernel
theorem twd_se_turnTerminators_75 : decode prog_8_method_7_code 75 = .ok (.if_icmp .ne 10, 3) := by decide +kernel
theorem twd_se_turnTerminators_78 : decode prog_8_method_7_code 78 = .ok (.aload_n 0, 1) := by decide +kernel
theorem twd_se_turnTerminators_79 : decode prog_8_method_7_code 79 = .ok (.getfield 15, 3) := by decide +kernel
theorem twd_se_turnTerminators_82 : decode prog_8_method_7_code 82 = .ok (.iload_n 1, 1) := by decide +kernel
theorem twd_se_turnTerminators_83 : decode prog_8_method_7_code 83 = .ok (.iconst 3, 1) := by decide +kernel
theorem twd_se_turnTerminators_84 : decode prog_8_method_7_code 84 = .ok (.iastore, 1) := by decide +kernel
theorem twd_se_turnTerminators_85 : decode prog_8_method_7_code 85 = .ok (.iinc 1 (-1), 3) := by decide +kernel
theorem twd_se_turnTerminators_88 : decode prog_8_method_7_code 88 = .ok (.goto (-36), 3) := by decide +kernel
theorem twd_se_turnTerminators_91 : decode prog_8_method_7_code 91 = .ok (.return_, 1) := by decide +kernel
theorem twk_se_turnTerminators : tw_dc twy_se_turnTerminators 0 := ⟨by decide +kernel, by decide +kernel, by decide +kernel⟩
theorem twd_se_freeLeftovers_0 : decode prog_8_method_8_code 0 = .ok (.iconst 0, 1) := by decide +kernel
theorem twd_se_freeLeftovers_1 : decode prog_8_method_8_code 1 = .ok (.istore_n 1, 1) := by decide +kernel
theorem twd_se_freeLeftovers_2 : decode prog_8_method_8_code 2 = .ok (.iload_n 1, 1) := by decide +kernel
theorem twd_se_freeLeftovers_3 : decode prog_8_method_8_code 3 = .ok (.aload_n 0, 1) := by decide +kernel
theorem twd_se_freeLeftovers_4 : decode prog_8_method_8_code 4 = .ok (.getfield 22, 3) := by decide +kernel
theorem twd_se_freeLeftovers_7 : decode prog_8_method_8_code 7 = .ok (.if_icmp .ge 48, 3) := by decide +kernel
theorem twd_se_freeLeftovers_10 : decode prog_8_method_8_code 10 = .ok (.aload_n 0, 1) := by decide +kernel
theorem twd_se_freeLeftovers_11 : decode prog_8_method_8_code 11 = .ok (.getfield 15, 3) := by decide +kernel
theorem twd_se_freeLeftovers_14 : decode prog_8_method_8_code 14 = .ok (.iload_n 1, 1) := by decide +kernel
theorem twd_se_freeLeftovers_15 : decode prog_8_method_8_code 15 = .ok (.iaload, 1) := by decide +kernel
theorem twd_se_freeLeftovers_16 : decode prog_8_method_8_code 16 = .ok (.iconst 4, 1) := by decide +kernel
theorem twd_se_freeLeftovers_17 : decode prog_8_method_8_code 17 = .ok (.if_icmp .eq 24, 3) := by decide +kernel
theorem twd_se_freeLeftovers_20 : decode prog_8_method_8_code 20 = .ok (.aload_n 0, 1) := by decide +kernel
theorem twd_se_freeLeftovers_21 : decode prog_8_method_8_code 21 = .ok (.getfield 15, 3) := by decide +kernel
theorem twd_se_freeLeftovers_24 : decode prog_8_method_8_code 24 = .ok (.iload_n 1, 1) := by decide +kernel
theorem twd_se_freeLeftovers_25 : decode prog_8_method_8_code 25 = .ok (.iaload, 1) := by decide +kernel
theorem twd_se_freeLeftovers_26 : decode prog_8_method_8_code 26 = .ok (.iconst 5, 1) := by decide +kernel
theorem twd_se_freeLeftovers_27 : decode prog_8_method_8_code 27 = .ok (.if_icmp .eq 14, 3) := by decide +kernel
theorem twd_se_freeLeftovers_30 : decode prog_8_method_8_code 30 = .ok (.aload_n 0, 1) := by decide +kernel
theorem twd_se_freeLeftovers_31 : decode prog_8_method_8_code 31 = .ok (.getfield 15, 3) := by decide +kernel
theorem twd_se_freeLeftovers_34 : decode prog_8_method_8_code 34 = .ok (.iload_n 1, 1) := by decide +kernel
theorem twd_se_freeLeftovers_35 : decode prog_8_method_8_code 35 = .ok (.iaload, 1) := by decide +kernel
theorem twd_se_freeLeftovers_36 : decode prog_8_method_8_code 36 = .ok (.bipush 7, 2) := by decide +kernel
theorem twd_se_freeLeftovers_38 : decode prog_8_method_8_code 38 = .ok (.if_icmp .ne 11, 3) := by decide +kernel
theorem twd_se_freeLeftovers_41 : decode prog_8_method_8_code 41 = .ok (.aload_n 0, 1) := by decide +kernel
theorem twd_se_freeLeftovers_42 : decode prog_8_method_8_code 42 = .ok (.getfield 15, 3) := by decide +kernel
theorem twd_se_freeLeftovers_45 : decode prog_8_method_8_code 45 = .ok (.iload_n 1, 1) := by decide +kernel
theorem twd_se_freeLeftovers_46 : decode prog_8_method_8_code 46 = .ok (.bipush 11, 2) := by decide +kernel
theorem twd_se_freeLeftovers_48 : decode prog_8_method_8_code 48 = .ok (.iastore, 1) := by decide +kernel
theorem twd_se_freeLeftovers_49 : decode prog_8_method_8_code 49 = .ok (.iinc 1 1, 3) := by decide +kernel
theorem twd_se_freeLeftovers_52 : decode prog_8_method_8_code 52 = .ok (.goto (-50), 3) := by decide +kernel
theorem twd_se_freeLeftovers_55 : decode prog_8_method_8_code 55 = .ok (.return_, 1) := by decide +kernel
theorem twk_se_freeLeftovers : tw_dc twy_se_freeLeftovers 0 := ⟨by decide +kernel, by decide +kernel, by decide +kernel⟩
theorem twd_se_turnLatinNumbers_0 : decode prog_8_method_9_code 0 = .ok (.aload_n 0, 1) := by decide +kernel
theorem twd_se_turnLatinNumbers_1 : decode prog_8_method_9_code 1 = .ok (.getfield 29, 3) := by decide +kernel
theorem twd_se_turnLatinNumbers_4 : decode prog_8_method_9_code 4 = .ok (.istore_n 1, 1) := by decide +kernel
theorem twd_se_turnLatinNumbers_5 : decode prog_8_method_9_code 5 = .ok (.iconst 0, 1) := by decide +kernel
theorem twd_se_turnLatinNumbers_6 : decode prog_8_method_9_code 6 = .ok (.istore_n 2, 1) := by decide +kernel
theorem twd_se_turnLatinNumbers_7 : decode prog_8_method_9_code 7 = .ok (.iload_n 2, 1) := by decide +kernel
theorem twd_se_turnLatinNumbers_8 : decode prog_8_method_9_code 8 = .ok (.aload_n 0, 1) := by decide +kernel
theorem twd_se_turnLatinNumbers_9 : decode prog_8_method_9_code 9 = .ok (.getfield 22, 3) := by decide +kernel
theorem twd_se_turnLatinNumbers_12 : decode prog_8_method_9_code 12 = .ok (.if_icmp .ge 59, 3) := by decide +kernel
theorem twd_se_turnLatinNumbers_15 : decode prog_8_method_9_code 15 = .ok (.aload_n 0, 1) := by decide +kernel
theorem twd_se_turnLatinNumbers_16 : decode prog_8_method_9_code 16 = .ok (.getfield 15, 3) := by decide +kernel
theorem twd_se_turnLatinNumbers_19 : decode prog_8_method_9_code 19 = .ok (.iload_n 2, 1) := by decide +kernel
theorem twd_se_turnLatinNumbers_20 : decode prog_8_method_9_code 20 = .ok (.iaload, 1) := by decide +kernel
theorem twd_se_turnLatinNumbers_21 : decode prog_8_method_9_code 21 = .ok (.ifCond .eq 13, 3) := by decide +kernel
theorem twd_se_turnLatinNumbers_24 : decode prog_8_method_9_code 24 = .ok (.aload_n 0, 1) := by decide +kernel
theorem twd_se_turnLatinNumbers_25 : decode prog_8_method_9_code 25 = .ok (.getfield 15, 3) := by decide +kernel
theorem twd_se_turnLatinNumbers_28 : decode prog_8_method_9_code 28 = .ok (.iload_n 2, 1) := by decide +kernel
theorem twd_se_turnLatinNumbers_29 : decode prog_8_method_9_code 29 = .ok (.iaload, 1) := by decide +kernel
theorem twd_se_turnLatinNumbers_30 : decode prog_8_method_9_code 30 = .ok (.iconst 1, 1) := by decide +kernel
theorem twd_se_turnLatinNumbers_31 : decode prog_8_method_9_code 31 = .ok (.if_icmp .ne 13, 3) := by decide +kernel
theorem twd_se_turnLatinNumbers_34 : decode prog_8_method_9_code 34 = .ok (.aload_n 0, 1) := by decide +kernel
theorem twd_se_turnLatinNumbers_35 : decode prog_8_method_9_code 35 = .ok (.getfield 15, 3) := by decide +kernel
theorem twd_se_turnLatinNumbers_38 : decode prog_8_method_9_code 38 = .ok (.iload_n 2, 1) := by decide +kernel
theorem twd_se_turnLatinNumbers_39 : decode prog_8_method_9_code 39 = .ok (.iaload, 1) := by decide +kernel
theorem twd_se_turnLatinNumbers_40 : decode prog_8_method_9_code 40 = .ok (.istore_n 1, 1) := by decide +kernel
theorem twd_se_turnLatinNumbers_41 : decode prog_8_method_9_code 41 = .ok (.goto 24, 3) := by decide +kernel
theorem twd_se_turnLatinNumbers_44 : decode prog_8_method_9_code 44 = .ok (.aload_n 0, 1) := by decide +kernel
theorem twd_se_turnLatinNumbers_45 : decode prog_8_method_9_code 45 = .ok (.getfield 15, 3) := by decide +kernel
theorem twd_se_turnLatinNumbers_48 : decode prog_8_method_9_code 48 = .ok (.iload_n 2, 1) := by decide +kernel
theorem twd_se_turnLatinNumbers_49 : decode prog_8_method_9_code 49 = .ok (.iaload, 1) := by decide +kernel
theorem twd_se_turnLatinNumbers_50 : decode prog_8_method_9_code 50 = .ok (.iconst 3, 1) := by decide +kernel
theorem twd_se_turnLatinNumbers_51 : decode prog_8_method_9_code 51 = .ok (.if_icmp .ne 14, 3) := by decide +kernel
theorem twd_se_turnLatinNumbers_54 : decode prog_8_method_9_code 54 = .ok (.iload_n 1, 1) := by decide +kernel
theorem twd_se_turnLatinNumbers_55 : decode prog_8_method_9_code 55 = .ok (.ifCond .ne 10, 3) := by decide +kernel
theorem twd_se_turnLatinNumbers_58 : decode prog_8_method_9_code 58 = .ok (.aload_n 0, 1) := by decide +kernel
theorem twd_se_turnLatinNumbers_59 : decode prog_8_method_9_code 59 = .ok (.getfield 15, 3) := by decide +kernel
theorem twd_se_turnLatinNumbers_62 : decode prog_8_method_9_code 62 = .ok (.iload_n 2, 1) := by decide +kernel
theorem twd_se_turnLatinNumbers_63 : decode prog_8_method_9_code 63 = .ok (.iconst 0, 1) := by decide +kernel
theorem twd_se_turnLatinNumbers_64 : decode prog_8_method_9_code 64 = .ok (.iastore, 1) := by decide +kernel
theorem twd_se_turnLatinNumbers_65 : decode prog_8_method_9_code 65 = .ok (.iinc 2 1, 3) := by decide +kernel
theorem twd_se_turnLatinNumbers_68 : decode prog_8_method_9_code 68 = .ok (.goto (-61), 3) := by decide +kernel
theorem twd_se_turnLatinNumbers_71 : decode prog_8_method_9_code 71 = .ok (.return_, 1) := by decide +kernel
theorem twk_se_turnLatinNumbers : tw_dc twy_se_turnLatinNumbers 0 := ⟨by decide +kernel, by decide +kernel, by decide +kernel⟩
theorem twd_se_resolveWeak_0 : decode prog_8_method_3_code 0 = .ok (.aload_n 0, 1) := by decide +kernel
theorem twd_se_resolveWeak_1 : decode prog_8_method_3_code 1 = .ok (.invokevirtual 35, 3) := by decide +kernel
theorem twd_se_resolveWeak_4 : decode prog_8_method_3_code 4 = .ok (.aload_n 0, 1) := by decide +kernel
theorem twd_se_resolveWeak_5 : decode prog_8_method_3_code 5 = .ok (.invokevirtual 38, 3) := by decide +kernel
theorem twd_se_resolveWeak_8 : decode prog_8_method_3_code 8 = .ok (.aload_n 0, 1) := by decide +kernel
theorem twd_se_resolveWeak_9 : decode prog_8_method_3_code 9 = .ok (.invokevirtual 41, 3) := by decide +kernel
theorem twd_se_resolveWeak_12 : decode prog_8_method_3_code 12 = .ok (.aload_n 0, 1) := by decide +kernel
theorem twd_se_resolveWeak_13 : decode prog_8_method_3_code 13 = .ok (.invokevirtual 44, 3) := by decide +kernel
theorem twd_se_resolveWeak_16 : decode prog_8_method_3_code 16 = .ok (.aload_n 0, 1) := by decide +kernel
theorem twd_se_resolveWeak_17 : decode prog_8_method_3_code 17 = .ok (.invokevirtual 47, 3) := by decide +kernel
theorem twd_se_resolveWeak_20 : decode prog_8_method_3_code 20 = .ok (.aload_n 0, 1) := by decide +kernel
theorem twd_se_resolveWeak_21 : decode prog_8_method_3_code 21 = .ok (.invokevirtual 50, 3) := by decide +kernel
theorem twd_se_resolveWeak_24 : decode prog_8_method_3_code 24 = .ok (.return_, 1) := by decide +kernel
theorem twk_se_resolveWeak : tw_dc twy_se_resolveWeak 0 := ⟨by decide +kernel, by decide +kernel, by decide +kernel⟩
theorem twd_br_close_0 : decode prog_2_method_4_code 0 = .ok (.aload_n 1, 1) := by decide +kernel
theorem twd_br_close_1 : decode prog_2_method_4_code 1 = .ok (.getfield 32, 3) := by decide +kernel
theorem twd_br_close_4 : decode prog_2_method_4_code 4 = .ok (.aload_n 2, 1) := by decide +kernel
theorem twd_br_close_5 : decode prog_2_method_4_code 5 = .ok (.getfield 37, 3) := by decide +kernel
theorem twd_br_close_8 : decode prog_2_method_4_code 8 = .ok (.iload_n 3, 1) := by decide +kernel
theorem twd_br_close_9 : decode prog_2_method_4_code 9 = .ok (.iaload, 1) := by decide +kernel
theorem twd_br_close_10 : decode prog_2_method_4_code 10 = .ok (.iaload, 1) := by decide +kernel
theorem twd_br_close_11 : decode prog_2_method_4_code 11 = .ok (.ineg, 1) := by decide +kernel
theorem twd_br_close_12 : decode prog_2_method_4_code 12 = .ok (.istore 5, 2) := by decide +kernel
theorem twd_br_close_14 : decode prog_2_method_4_code 14 = .ok (.iload 4, 2) := by decide +kernel
theorem twd_br_close_16 : decode prog_2_method_4_code 16 = .ok (.iconst 1, 1) := by decide +kernel
theorem twd_br_close_17 : decode prog_2_method_4_code 17 = .ok (.isub, 1) := by decide +kernel
theorem twd_br_close_18 : decode prog_2_method_4_code 18 = .ok (.istore 6, 2) := by decide +kernel
theorem twd_br_close_20 : decode prog_2_method_4_code 20 = .ok (.iload 6, 2) := by decide +kernel
theorem twd_br_close_22 : decode prog_2_method_4_code 22 = .ok (.ifCond .lt 54, 3) := by decide +kernel
theorem twd_br_close_25 : decode prog_2_method_4_code 25 = .ok (.aload_n 0, 1) := by decide +kernel
theorem twd_br_close_26 : decode prog_2_method_4_code 26 = .ok (.getfield 15, 3) := by decide +kernel
theorem twd_br_close_29 : decode prog_2_method_4_code 29 = .ok (.iload 6, 2) := by decide +kernel
theorem twd_br_close_31 : decode prog_2_method_4_code 31 = .ok (.iaload, 1) := by decide +kernel
theorem twd_br_close_32 : decode prog_2_method_4_code 32 = .ok (.istore 7, 2) := by decide +kernel
theorem twd_br_close_34 : decode prog_2_method_4_code 34 = .ok (.aload_n 1, 1) := by decide +kernel
theorem twd_br_close_35 : decode prog_2_method_4_code 35 = .ok (.getfield 32, 3) := by decide +kernel
theorem twd_br_close_38 : decode prog_2_method_4_code 38 = .ok (.aload_n 2, 1) := by decide +kernel
theorem twd_br_close_39 : decode prog_2_method_4_code 39 = .ok (.getfield 37, 3) := by decide +kernel
theorem twd_br_close_42 : decode prog_2_method_4_code 42 = .ok (.iload 7, 2) := by decide +kernel
theorem twd_br_close_44 : decode prog_2_method_4_code 44 = .ok (.iaload, 1) := by decide +kernel
theorem twd_br_close_45 : decode prog_2_method_4_code 45 = .ok (.iaload, 1) := by decide +kernel
theorem twd_br_close_46 : decode prog_2_method_4_code 46 = .ok (.iload 5, 2) := by decide +kernel
theorem twd_br_close_48 : decode prog_2_method_4_code 48 = .ok (.if_icmp .ne 22, 3) := by decide +kernel
theorem twd_br_close_51 : decode prog_2_method_4_code 51 = .ok (.aload_n 0, 1) := by decide +kernel
theorem twd_br_close_52 : decode prog_2_method_4_code 52 = .ok (.getfield 9, 3) := by decide +kernel
theorem twd_br_close_55 : decode prog_2_method_4_code 55 = .ok (.iload 7, 2) := by decide +kernel
theorem twd_br_close_57 : decode prog_2_method_4_code 57 = .ok (.iload_n 3, 1) := by decide +kernel
theorem twd_br_close_58 : decode prog_2_method_4_code 58 = .ok (.iastore, 1) := by decide +kernel
theorem twd_br_close_59 : decode prog_2_method_4_code 59 = .ok (.aload_n 0, 1) := by decide +kernel
theorem twd_br_close_60 : decode prog_2_method_4_code 60 = .ok (.getfield 9, 3) := by decide +kernel
theorem twd_br_close_63 : decode prog_2_method_4_code 63 = .ok (.iload_n 3, 1) := by decide +kernel
theorem twd_br_close_64 : decode prog_2_method_4_code 64 = .ok (.iload 7, 2) := by decide +kernel
theorem twd_br_close_66 : decode prog_2_method_4_code 66 = .ok (.iastore, 1) := by decide +kernel
theorem twd_br_close_67 : decode prog_2_method_4_code 67 = .ok (.iload 6, 2) := by decide +kernel
theorem twd_br_close_69 : decode prog_2_method_4_code 69 = .ok (.ireturn, 1) := by decide +kernel
theorem twd_br_close_70 : decode prog_2_method_4_code 70 = .ok (.iinc 6 (-1), 3) := by decide +kernel
theorem twd_br_close_73 : decode prog_2_method_4_code 73 = .ok (.goto (-53), 3) := by decide +kernel
theorem twd_br_close_76 : decode prog_2_method_4_code 76 = .ok (.iload 4, 2) := by decide +kernel
theorem twd_br_close_78 : decode prog_2_method_4_code 78 = .ok (.ireturn, 1) := by decide +kernel
theorem twk_br_close : tw_dc twy_br_close 4 := ⟨by decide +kernel, by decide +kernel, by decide +kernel⟩
theorem twd_br_pairUp_0 : decode prog_2_method_3_code 0 = .ok (.iconst 0, 1) := by decide +kernel
theorem twd_br_pairUp_1 : decode prog_2_method_3_code 1 = .ok (.istore_n 3, 1) := by decide +kernel
theorem twd_br_pairUp_2 : decode prog_2_method_3_code 2 = .ok (.iconst 0, 1) := by decide +kernel
theorem twd_br_pairUp_3 : decode prog_2_method_3_code 3 = .ok (.istore 4, 2) := by decide +kernel
theorem twd_br_pairUp_5 : decode prog_2_method_3_code 5 = .ok (.iload 4, 2) := by decide +kernel
theorem twd_br_pairUp_7 : decode prog_2_method_3_code 7 = .ok (.aload_n 2, 1) := by decide +kernel
theorem twd_br_pairUp_8 : decode prog_2_method_3_code 8 = .ok (.getfield 22, 3) := by decide +kernel
theorem twd_br_pairUp_11 : decode prog_2_method_3_code 11 = .ok (.if_icmp .ge 80, 3) := by decide +kernel
theorem twd_br_pairUp_14 : decode prog_2_method_3_code 14 = .ok (.aload_n 0, 1) := by decide +kernel
theorem twd_br_pairUp_15 : decode prog_2_method_3_code 15 = .ok (.getfield 9, 3) := by decide +kernel
theorem twd_br_pairUp_18 : decode prog_2_method_3_code 18 = .ok (.iload 4, 2) := by decide +kernel
theorem twd_br_pairUp_20 : decode prog_2_method_3_code 20 = .ok (.iconst (-1), 1) := by decide +kernel
theorem twd_br_pairUp_21 : decode prog_2_method_3_code 21 = .ok (.iastore, 1) := by decide +kernel
theorem twd_br_pairUp_22 : decode prog_2_method_3_code 22 = .ok (.aload_n 1, 1) := by decide +kernel
theorem twd_br_pairUp_23 : decode prog_2_method_3_code 23 = .ok (.getfield 32, 3) := by decide +kernel
theorem twd_br_pairUp_26 : decode prog_2_method_3_code 26 = .ok (.aload_n 2, 1) := by decide +kernel
theorem twd_br_pairUp_27 : decode prog_2_method_3_code 27 = .ok (.getfield 37, 3) := by decide +kernel
theorem twd_br_pairUp_30 : decode prog_2_method_3_code 30 = .ok (.iload 4, 2) := by decide +kernel
theorem twd_br_pairUp_32 : decode prog_2_method_3_code 32 = .ok (.iaload, 1) := by decide +kernel
theorem twd_br_pairUp_33 : decode prog_2_method_3_code 33 = .ok (.iaload, 1) := by decide +kernel
theorem twd_br_pairUp_34 : decode prog_2_method_3_code 34 = .ok (.istore 5, 2) := by decide +kernel
theorem twd_br_pairUp_36 : decode prog_2_method_3_code 36 = .ok (.iload 5, 2) := by decide +kernel
theorem twd_br_pairUp_38 : decode prog_2_method_3_code 38 = .ok (.ifCond .eq 47, 3) := by decide +kernel
theorem twd_br_pairUp_41 : decode prog_2_method_3_code 41 = .ok (.aload_n 2, 1) := by decide +kernel
theorem twd_br_pairUp_42 : decode prog_2_method_3_code 42 = .ok (.getfield 40, 3) := by decide +kernel
theorem twd_br_pairUp_45 : decode prog_2_method_3_code 45 = .ok (.iload 4, 2) := by decide +kernel
theorem twd_br_pairUp_47 : decode prog_2_method_3_code 47 = .ok (.iaload, 1) := by decide +kernel
theorem twd_br_pairUp_48 : decode prog_2_method_3_code 48 = .ok (.bipush 11, 2) := by decide +kernel
theorem twd_br_pairUp_50 : decode prog_2_method_3_code 50 = .ok (.if_icmp .eq 6, 3) := by decide +kernel
theorem twd_br_pairUp_53 : decode prog_2_method_3_code 53 = .ok (.goto 32, 3) := by decide +kernel
theorem twd_br_pairUp_56 : decode prog_2_method_3_code 56 = .ok (.iload 5, 2) := by decide +kernel
theorem twd_br_pairUp_58 : decode prog_2_method_3_code 58 = .ok (.ifCond .ge 16, 3) := by decide +kernel
theorem twd_br_pairUp_61 : decode prog_2_method_3_code 61 = .ok (.aload_n 0, 1) := by decide +kernel
theorem twd_br_pairUp_62 : decode prog_2_method_3_code 62 = .ok (.aload_n 1, 1) := by decide +kernel
theorem twd_br_pairUp_63 : decode prog_2_method_3_code 63 = .ok (.aload_n 2, 1) := by decide +kernel
theorem twd_br_pairUp_64 : decode prog_2_method_3_code 64 = .ok (.iload 4, 2) := by decide +kernel
theorem twd_br_pairUp_66 : decode prog_2_method_3_code 66 = .ok (.iload_n 3, 1) := by decide +kernel
theorem twd_br_pairUp_67 : decode prog_2_method_3_code 67 = .ok (.invokevirtual 43, 3) := by decide +kernel
theorem twd_br_pairUp_70 : decode prog_2_method_3_code 70 = .ok (.istore_n 3, 1) := by decide +kernel
theorem twd_br_pairUp_71 : decode prog_2_method_3_code 71 = .ok (.goto 14, 3) := by decide +kernel
theorem twd_br_pairUp_74 : decode prog_2_method_3_code 74 = .ok (.aload_n 0, 1) := by decide +kernel
theorem twd_br_pairUp_75 : decode prog_2_method_3_code 75 = .ok (.getfield 15, 3) := by decide +kernel
theorem twd_br_pairUp_78 : decode prog_2_method_3_code 78 = .ok (.iload_n 3, 1) := by decide +kernel
theorem twd_br_pairUp_79 : decode prog_2_method_3_code 79 = .ok (.iload 4, 2) := by decide +kernel
theorem twd_br_pairUp_81 : decode prog_2_method_3_code 81 = .ok (.iastore, 1) := by decide +kernel
theorem twd_br_pairUp_82 : decode prog_2_method_3_code 82 = .ok (.iinc 3 1, 3) := by decide +kernel
theorem twd_br_pairUp_85 : decode prog_2_method_3_code 85 = .ok (.iinc 4 1, 3) := by decide +kernel
theorem twd_br_pairUp_88 : decode prog_2_method_3_code 88 = .ok (.goto (-83), 3) := by decide +kernel
theorem twd_br_pairUp_91 : decode prog_2_method_3_code 91 = .ok (.return_, 1) := by decide +kernel
theorem twk_br_pairUp : tw_dc twy_br_pairUp 2 := ⟨by decide +kernel, by decide +kernel, by decide +kernel⟩
theorem twd_se_strongAt_0 : decode prog_8_method_12_code 0 = .ok (.aload_n 0, 1) := by decide +kernel
theorem twd_se_strongAt_1 : decode prog_8_method_12_code 1 = .ok (.getfield 15, 3) := by decide +kernel
theorem twd_se_strongAt_4 : decode prog_8_method_12_code 4 = .ok (.iload_n 1, 1) := by decide +kernel
theorem twd_se_strongAt_5 : decode prog_8_method_12_code 5 = .ok (.iaload, 1) := by decide +kernel
theorem twd_se_strongAt_6 : decode prog_8_method_12_code 6 = .ok (.istore_n 2, 1) := by decide +kernel
theorem twd_se_strongAt_7 : decode prog_8_method_12_code 7 = .ok (.iload_n 2, 1) := by decide +kernel
theorem twd_se_strongAt_8 : decode prog_8_method_12_code 8 = .ok (.ifCond .ne 5, 3) := by decide +kernel
theorem twd_se_strongAt_11 : decode prog_8_method_12_code 11 = .ok (.iconst 0, 1) := by decide +kernel
theorem twd_se_strongAt_12 : decode prog_8_method_12_code 12 = .ok (.ireturn, 1) := by decide +kernel
theorem twd_se_strongAt_13 : decode prog_8_method_12_code 13 = .ok (.iload_n 2, 1) := by decide +kernel
theorem twd_se_strongAt_14 : decode prog_8_method_12_code 14 = .ok (.iconst 1, 1) := by decide +kernel
theorem twd_se_strongAt_15 : decode prog_8_method_12_code 15 = .ok (.if_icmp .eq 14, 3) := by decide +kernel
theorem twd_se_strongAt_18 : decode prog_8_method_12_code 18 = .ok (.iload_n 2, 1) := by decide +kernel
theorem twd_se_strongAt_19 : decode prog_8_method_12_code 19 = .ok (.iconst 3, 1) := by decide +kernel
theorem twd_se_strongAt_20 : decode prog_8_method_12_code 20 = .ok (.if_icmp .eq 9, 3) := by decide +kernel
theorem twd_se_strongAt_23 : decode prog_8_method_12_code 23 = .ok (.iload_n 2, 1) := by decide +kernel
theorem twd_se_strongAt_24 : decode prog_8_method_12_code 24 = .ok (.bipush 6, 2) := by decide +kernel
theorem twd_se_strongAt_26 : decode prog_8_method_12_code 26 = .ok (.if_icmp .ne 7, 3) := by decide +kernel
theorem twd_se_strongAt_29 : decode prog_8_method_12_code 29 = .ok (.iconst 1, 1) := by decide +kernel
theorem twd_se_strongAt_30 : decode prog_8_method_12_code 30 = .ok (.goto 4, 3) := by decide +kernel
theorem twd_se_strongAt_33 : decode prog_8_method_12_code 33 = .ok (.iconst (-1), 1) := by decide +kernel
theorem twd_se_strongAt_34 : decode prog_8_method_12_code 34 = .ok (.ireturn, 1) := by decide +kernel
theorem twk_se_strongAt : tw_dc twy_se_strongAt 1 := ⟨by decide +kernel, by decide +kernel, by decide +kernel⟩
theorem twd_br_strongBetween_0 : decode prog_2_method_6_code 0 = .ok (.iconst (-1), 1) := by decide +kernel
theorem twd_br_strongBetween_1 : decode prog_2_method_6_code 1 = .ok (.istore 4, 2) := by decide +kernel
theorem twd_br_strongBetween_3 : decode prog_2_method_6_code 3 = .ok (.iload_n 2, 1) := by decide +kernel
theorem twd_br_strongBetween_4 : decode prog_2_method_6_code 4 = .ok (.iconst 1, 1) := by decide +kernel
theorem twd_br_strongBetween_5 : decode prog_2_method_6_code 5 = .ok (.iadd, 1) := by decide +kernel
theorem twd_br_strongBetween_6 : decode prog_2_method_6_code 6 = .ok (.istore 5, 2) := by decide +kernel
theorem twd_br_strongBetween_8 : decode prog_2_method_6_code 8 = .ok (.iload 5, 2) := by decide +kernel
theorem twd_br_strongBetween_10 : decode prog_2_method_6_code 10 = .ok (.iload_n 3, 1) := by decide +kernel
theorem twd_br_strongBetween_11 : decode prog_2_method_6_code 11 = .ok (.if_icmp .ge 39, 3) := by decide +kernel
theorem twd_br_strongBetween_14 : decode prog_2_method_6_code 14 = .ok (.aload_n 1, 1) := by decide +kernel
theorem twd_br_strongBetween_15 : decode prog_2_method_6_code 15 = .ok (.iload 5, 2) := by decide +kernel
theorem twd_br_strongBetween_17 : decode prog_2_method_6_code 17 = .ok (.invokevirtual 61, 3) := by decide +kernel
theorem twd_br_strongBetween_20 : decode prog_2_method_6_code 20 = .ok (.istore 6, 2) := by decide +kernel
theorem twd_br_strongBetween_22 : decode prog_2_method_6_code 22 = .ok (.iload 6, 2) := by decide +kernel
theorem twd_br_strongBetween_24 : decode prog_2_method_6_code 24 = .ok (.aload_n 1, 1) := by decide +kernel
theorem twd_br_strongBetween_25 : decode prog_2_method_6_code 25 = .ok (.getfield 51, 3) := by decide +kernel
theorem twd_br_strongBetween_28 : decode prog_2_method_6_code 28 = .ok (.if_icmp .ne 6, 3) := by decide +kernel
theorem twd_br_strongBetween_31 : decode prog_2_method_6_code 31 = .ok (.iload 6, 2) := by decide +kernel
theorem twd_br_strongBetween_33 : decode prog_2_method_6_code 33 = .ok (.ireturn, 1) := by decide +kernel
theorem twd_br_strongBetween_34 : decode prog_2_method_6_code 34 = .ok (.iload 6, 2) := by decide +kernel
theorem twd_br_strongBetween_36 : decode prog_2_method_6_code 36 = .ok (.iconst (-1), 1) := by decide +kernel
theorem twd_br_strongBetween_37 : decode prog_2_method_6_code 37 = .ok (.if_icmp .eq 7, 3) := by decide +kernel
theorem twd_br_strongBetween_40 : decode prog_2_method_6_code 40 = .ok (.iload 6, 2) := by decide +kernel
theorem twd_br_strongBetween_42 : decode prog_2_method_6_code 42 = .ok (.istore 4, 2) := by decide +kernel
theorem twd_br_strongBetween_44 : decode prog_2_method_6_code 44 = .ok (.iinc 5 1, 3) := by decide +kernel
theorem twd_br_strongBetween_47 : decode prog_2_method_6_code 47 = .ok (.goto (-39), 3) := by decide +kernel
theorem twd_br_strongBetween_50 : decode prog_2_method_6_code 50 = .ok (.iload 4, 2) := by decide +kernel
theorem twd_br_strongBetween_52 : decode prog_2_method_6_code 52 = .ok (.ireturn, 1) := by decide +kernel
theorem twk_br_strongBetween : tw_dc twy_br_strongBetween 3 := ⟨by decide +kernel, by decide +kernel, by decide +kernel⟩
theorem twd_br_strongBefore_0 : decode prog_2_method_7_code 0 = .ok (.iload_n 2, 1) := by decide +kernel
theorem twd_br_strongBefore_1 : decode prog_2_method_7_code 1 = .ok (.iconst 1, 1) := by decide +kernel
theorem twd_br_strongBefore_2 : decode prog_2_method_7_code 2 = .ok (.isub, 1) := by decide +kernel
theorem twd_br_strongBefore_3 : decode prog_2_method_7_code 3 = .ok (.istore_n 3, 1) := by decide +kernel
theorem twd_br_strongBefore_4 : decode prog_2_method_7_code 4 = .ok (.iload_n 3, 1) := by decide +kernel
theorem twd_br_strongBefore_5 : decode prog_2_method_7_code 5 = .ok (.ifCond .lt 24, 3) := by decide +kernel
theorem twd_br_strongBefore_8 : decode prog_2_method_7_code 8 = .ok (.aload_n 1, 1) := by decide +kernel
theorem twd_br_strongBefore_9 : decode prog_2_method_7_code 9 = .ok (.iload_n 3, 1) := by decide +kernel
theorem twd_br_strongBefore_10 : decode prog_2_method_7_code 10 = .ok (.invokevirtual 61, 3) := by decide +kernel
theorem twd_br_strongBefore_13 : decode prog_2_method_7_code 13 = .ok (.iconst (-1), 1) := by decide +kernel
theorem twd_br_strongBefore_14 : decode prog_2_method_7_code 14 = .ok (.if_icmp .eq 9, 3) := by decide +kernel
theorem twd_br_strongBefore_17 : decode prog_2_method_7_code 17 = .ok (.aload_n 1, 1) := by decide +kernel
theorem twd_br_strongBefore_18 : decode prog_2_method_7_code 18 = .ok (.iload_n 3, 1) := by decide +kernel
theorem twd_br_strongBefore_19 : decode prog_2_method_7_code 19 = .ok (.invokevirtual 61, 3) := by decide +kernel
theorem twd_br_strongBefore_22 : decode prog_2_method_7_code 22 = .ok (.ireturn, 1) := by decide +kernel
theorem twd_br_strongBefore_23 : decode prog_2_method_7_code 23 = .ok (.iinc 3 (-1), 3) := by decide +kernel
theorem twd_br_strongBefore_26 : decode prog_2_method_7_code 26 = .ok (.goto (-22), 3) := by decide +kernel
theorem twd_br_strongBefore_29 : decode prog_2_method_7_code 29 = .ok (.aload_n 1, 1) := by decide +kernel
theorem twd_br_strongBefore_30 : decode prog_2_method_7_code 30 = .ok (.getfield 65, 3) := by decide +kernel
theorem twd_br_strongBefore_33 : decode prog_2_method_7_code 33 = .ok (.ireturn, 1) := by decide +kernel
theorem twk_br_strongBefore : tw_dc twy_br_strongBefore 2 := ⟨by decide +kernel, by decide +kernel, by decide +kernel⟩
theorem twd_br_give_0 : decode prog_2_method_8_code 0 = .ok (.aload_n 1, 1) := by decide +kernel
theorem twd_br_give_1 : decode prog_2_method_8_code 1 = .ok (.getfield 40, 3) := by decide +kernel
theorem twd_br_give_4 : decode prog_2_method_8_code 4 = .ok (.iload_n 2, 1) := by decide +kernel
theorem twd_br_give_5 : decode prog_2_method_8_code 5 = .ok (.iload_n 3, 1) := by decide +kernel
theorem twd_br_give_6 : decode prog_2_method_8_code 6 = .ok (.iastore, 1) := by decide +kernel
theorem twd_br_give_7 : decode prog_2_method_8_code 7 = .ok (.iload_n 2, 1) := by decide +kernel
theorem twd_br_give_8 : decode prog_2_method_8_code 8 = .ok (.iconst 1, 1) := by decide +kernel
theorem twd_br_give_9 : decode prog_2_method_8_code 9 = .ok (.iadd, 1) := by decide +kernel
theorem twd_br_give_10 : decode prog_2_method_8_code 10 = .ok (.istore 4, 2) := by decide +kernel
theorem twd_br_give_12 : decode prog_2_method_8_code 12 = .ok (.iload 4, 2) := by decide +kernel
theorem twd_br_give_14 : decode prog_2_method_8_code 14 = .ok (.aload_n 1, 1) := by decide +kernel
theorem twd_br_give_15 : decode prog_2_method_8_code 15 = .ok (.getfield 22, 3) := by decide +kernel
theorem twd_br_give_18 : decode prog_2_method_8_code 18 = .ok (.if_icmp .ge 27, 3) := by decide +kernel
theorem twd_br_give_21 : decode prog_2_method_8_code 21 = .ok (.aload_n 1, 1) := by decide +kernel
theorem twd_br_give_22 : decode prog_2_method_8_code 22 = .ok (.getfield 68, 3) := by decide +kernel
theorem twd_br_give_25 : decode prog_2_method_8_code 25 = .ok (.iload 4, 2) := by decide +kernel
theorem twd_br_give_27 : decode prog_2_method_8_code 27 = .ok (.baload, 1) := by decide +kernel
theorem twd_br_give_28 : decode prog_2_method_8_code 28 = .ok (.ifCond .eq 17, 3) := by decide +kernel
theorem twd_br_give_31 : decode prog_2_method_8_code 31 = .ok (.aload_n 1, 1) := by decide +kernel
theorem twd_br_give_32 : decode prog_2_method_8_code 32 = .ok (.getfield 40, 3) := by decide +kernel
theorem twd_br_give_35 : decode prog_2_method_8_code 35 = .ok (.iload 4, 2) := by decide +kernel
theorem twd_br_give_37 : decode prog_2_method_8_code 37 = .ok (.iload_n 3, 1) := by decide +kernel
theorem twd_br_give_38 : decode prog_2_method_8_code 38 = .ok (.iastore, 1) := by decide +kernel
theorem twd_br_give_39 : decode prog_2_method_8_code 39 = .ok (.iinc 4 1, 3) := by decide +kernel
theorem twd_br_give_42 : decode prog_2_method_8_code 42 = .ok (.goto (-30), 3) := by decide +kernel
theorem twd_br_give_45 : decode prog_2_method_8_code 45 = .ok (.return_, 1) := by decide +kernel
theorem twk_br_give : tw_dc twy_br_give 3 := ⟨by decide +kernel, by decide +kernel, by decide +kernel⟩
theorem twd_br_settle_0 : decode prog_2_method_5_code 0 = .ok (.aload_n 0, 1) := by decide +kernel
theorem twd_br_settle_1 : decode prog_2_method_5_code 1 = .ok (.aload_n 1, 1) := by decide +kernel
theorem twd_br_settle_2 : decode prog_2_method_5_code 2 = .ok (.iload_n 2, 1) := by decide +kernel
theorem twd_br_settle_3 : decode prog_2_method_5_code 3 = .ok (.iload_n 3, 1) := by decide +kernel
theorem twd_br_settle_4 : decode prog_2_method_5_code 4 = .ok (.invokevirtual 47, 3) := by decide +kernel
theorem twd_br_settle_7 : decode prog_2_method_5_code 7 = .ok (.istore 4, 2) := by decide +kernel
theorem twd_br_settle_9 : decode prog_2_method_5_code 9 = .ok (.iload 4, 2) := by decide +kernel
theorem twd_br_settle_11 : decode prog_2_method_5_code 11 = .ok (.iconst (-1), 1) := by decide +kernel
theorem twd_br_settle_12 : decode prog_2_method_5_code 12 = .ok (.if_icmp .ne 4, 3) := by decide +kernel
theorem twd_br_settle_15 : decode prog_2_method_5_code 15 = .ok (.return_, 1) := by decide +kernel
theorem twd_br_settle_16 : decode prog_2_method_5_code 16 = .ok (.iload 4, 2) := by decide +kernel
theorem twd_br_settle_18 : decode prog_2_method_5_code 18 = .ok (.aload_n 1, 1) := by decide +kernel
theorem twd_br_settle_19 : decode prog_2_method_5_code 19 = .ok (.getfield 51, 3) := by decide +kernel
theorem twd_br_settle_22 : decode prog_2_method_5_code 22 = .ok (.if_icmp .eq 20, 3) := by decide +kernel
theorem twd_br_settle_25 : decode prog_2_method_5_code 25 = .ok (.aload_n 0, 1) := by decide +kernel
theorem twd_br_settle_26 : decode prog_2_method_5_code 26 = .ok (.aload_n 1, 1) := by decide +kernel
theorem twd_br_settle_27 : decode prog_2_method_5_code 27 = .ok (.iload_n 2, 1) := by decide +kernel
theorem twd_br_settle_28 : decode prog_2_method_5_code 28 = .ok (.invokevirtual 54, 3) := by decide +kernel
theorem twd_br_settle_31 : decode prog_2_method_5_code 31 = .ok (.iload 4, 2) := by decide +kernel
theorem twd_br_settle_33 : decode prog_2_method_5_code 33 = .ok (.if_icmp .eq 9, 3) := by decide +kernel
theorem twd_br_settle_36 : decode prog_2_method_5_code 36 = .ok (.aload_n 1, 1) := by decide +kernel
theorem twd_br_settle_37 : decode prog_2_method_5_code 37 = .ok (.getfield 51, 3) := by decide +kernel
theorem twd_br_settle_40 : decode prog_2_method_5_code 40 = .ok (.istore 4, 2) := by decide +kernel
theorem twd_br_settle_42 : decode prog_2_method_5_code 42 = .ok (.aload_n 0, 1) := by decide +kernel
theorem twd_br_settle_43 : decode prog_2_method_5_code 43 = .ok (.aload_n 1, 1) := by decide +kernel
theorem twd_br_settle_44 : decode prog_2_method_5_code 44 = .ok (.iload_n 2, 1) := by decide +kernel
theorem twd_br_settle_45 : decode prog_2_method_5_code 45 = .ok (.iload 4, 2) := by decide +kernel
theorem twd_br_settle_47 : decode prog_2_method_5_code 47 = .ok (.invokevirtual 58, 3) := by decide +kernel
theorem twd_br_settle_50 : decode prog_2_method_5_code 50 = .ok (.aload_n 0, 1) := by decide +kernel
theorem twd_br_settle_51 : decode prog_2_method_5_code 51 = .ok (.aload_n 1, 1) := by decide +kernel
theorem twd_br_settle_52 : decode prog_2_method_5_code 52 = .ok (.iload_n 3, 1) := by decide +kernel
theorem twd_br_settle_53 : decode prog_2_method_5_code 53 = .ok (.iload 4, 2) := by decide +kernel
theorem twd_br_settle_55 : decode prog_2_method_5_code 55 = .ok (.invokevirtual 58, 3) := by decide +kernel
theorem twd_br_settle_58 : decode prog_2_method_5_code 58 = .ok (.return_, 1) := by decide +kernel
theorem twk_br_settle : tw_dc twy_br_settle 3 := ⟨by decide +kernel, by decide +kernel, by decide +kernel⟩
theorem twd_br_resolve_0 : decode prog_2_method_2_code 0 = .ok (.aload_n 0, 1) := by decide +kernel
theorem twd_br_resolve_1 : decode prog_2_method_2_code 1 = .ok (.aload_n 1, 1) := by decide +kernel
theorem twd_br_resolve_2 : decode prog_2_method_2_code 2 = .ok (.aload_n 2, 1) := by decide +kernel
theorem twd_br_resolve_3 : decode prog_2_method_2_code 3 = .ok (.invokevirtual 18, 3) := by decide +kernel
theorem twd_br_resolve_6 : decode prog_2_method_2_code 6 = .ok (.iconst 0, 1) := by decide +kernel
theorem twd_br_resolve_7 : decode prog_2_method_2_code 7 = .ok (.istore_n 3, 1) := by decide +kernel
theorem twd_br_resolve_8 : decode prog_2_method_2_code 8 = .ok (.iload_n 3, 1) := by decide +kernel
theorem twd_br_resolve_9 : decode prog_2_method_2_code 9 = .ok (.aload_n 2, 1) := by decide +kernel
theorem twd_br_resolve_10 : decode prog_2_method_2_code 10 = .ok (.getfield 22, 3) := by decide +kernel
theorem twd_br_resolve_13 : decode prog_2_method_2_code 13 = .ok (.if_icmp .ge 31, 3) := by decide +kernel
theorem twd_br_resolve_16 : decode prog_2_method_2_code 16 = .ok (.aload_n 0, 1) := by decide +kernel
theorem twd_br_resolve_17 : decode prog_2_method_2_code 17 = .ok (.getfield 9, 3) := by decide +kernel
theorem twd_br_resolve_20 : decode prog_2_method_2_code 20 = .ok (.iload_n 3, 1) := by decide +kernel
theorem twd_br_resolve_21 : decode prog_2_method_2_code 21 = .ok (.iaload, 1) := by decide +kernel
theorem twd_br_resolve_22 : decode prog_2_method_2_code 22 = .ok (.iload_n 3, 1) := by decide +kernel
theorem twd_br_resolve_23 : decode prog_2_method_2_code 23 = .ok (.if_icmp .le 15, 3) := by decide +kernel
theorem twd_br_resolve_26 : decode prog_2_method_2_code 26 = .ok (.aload_n 0, 1) := by decide +kernel
theorem twd_br_resolve_27 : decode prog_2_method_2_code 27 = .ok (.aload_n 2, 1) := by decide +kernel
theorem twd_br_resolve_28 : decode prog_2_method_2_code 28 = .ok (.iload_n 3, 1) := by decide +kernel
theorem twd_br_resolve_29 : decode prog_2_method_2_code 29 = .ok (.aload_n 0, 1) := by decide +kernel
theorem twd_br_resolve_30 : decode prog_2_method_2_code 30 = .ok (.getfield 9, 3) := by decide +kernel
theorem twd_br_resolve_33 : decode prog_2_method_2_code 33 = .ok (.iload_n 3, 1) := by decide +kernel
theorem twd_br_resolve_34 : decode prog_2_method_2_code 34 = .ok (.iaload, 1) := by decide +kernel
theorem twd_br_resolve_35 : decode prog_2_method_2_code 35 = .ok (.invokevirtual 28, 3) := by decide +kernel
theorem twd_br_resolve_38 : decode prog_2_method_2_code 38 = .ok (.iinc 3 1, 3) := by decide +kernel
theorem twd_br_resolve_41 : decode prog_2_method_2_code 41 = .ok (.goto (-33), 3) := by decide +kernel
theorem twd_br_resolve_44 : decode prog_2_method_2_code 44 = .ok (.return_, 1) := by decide +kernel
theorem twk_br_resolve : tw_dc twy_br_resolve 2 := ⟨by decide +kernel, by decide +kernel, by decide +kernel⟩
theorem twd_se_fillTypes_0 : decode prog_8_method_11_code 0 = .ok (.iload_n 1, 1) := by decide +kernel
theorem twd_se_fillTypes_1 : decode prog_8_method_11_code 1 = .ok (.istore 4, 2) := by decide +kernel
theorem twd_se_fillTypes_3 : decode prog_8_method_11_code 3 = .ok (.iload 4, 2) := by decide +kernel
theorem twd_se_fillTypes_5 : decode prog_8_method_11_code 5 = .ok (.iload_n 2, 1) := by decide +kernel
theorem twd_se_fillTypes_6 : decode prog_8_method_11_code 6 = .ok (.if_icmp .ge 17, 3) := by decide +kernel
theorem twd_se_fillTypes_9 : decode prog_8_method_11_code 9 = .ok (.aload_n 0, 1) := by decide +kernel
theorem twd_se_fillTypes_10 : decode prog_8_method_11_code 10 = .ok (.getfield 15, 3) := by decide +kernel
theorem twd_se_fillTypes_13 : decode prog_8_method_11_code 13 = .ok (.iload 4, 2) := by decide +kernel
theorem twd_se_fillTypes_15 : decode prog_8_method_11_code 15 = .ok (.iload_n 3, 1) := by decide +kernel
theorem twd_se_fillTypes_16 : decode prog_8_method_11_code 16 = .ok (.iastore, 1) := by decide +kernel
theorem twd_se_fillTypes_17 : decode prog_8_method_11_code 17 = .ok (.iinc 4 1, 3) := by decide +kernel
theorem twd_se_fillTypes_20 : decode prog_8_method_11_code 20 = .ok (.goto (-17), 3) := by decide +kernel
theorem twd_se_fillTypes_23 : decode prog_8_method_11_code 23 = .ok (.return_, 1) := by decide +kernel
theorem twk_se_fillTypes : tw_dc twy_se_fillTypes 3 := ⟨by decide +kernel, by decide +kernel, by decide +kernel⟩
theorem twd_se_resolveNeutral_0 : decode prog_8_method_10_code 0 = .ok (.iconst 0, 1) := by decide +kernel
theorem twd_se_resolveNeutral_1 : decode prog_8_method_10_code 1 = .ok (.istore_n 1, 1) := by decide +kernel
theorem twd_se_resolveNeutral_2 : decode prog_8_method_10_code 2 = .ok (.iconst 0, 1) := by decide +kernel
theorem twd_se_resolveNeutral_3 : decode prog_8_method_10_code 3 = .ok (.istore_n 2, 1) := by decide +kernel
theorem twd_se_resolveNeutral_4 : decode prog_8_method_10_code 4 = .ok (.iload_n 2, 1) := by decide +kernel
theorem twd_se_resolveNeutral_5 : decode prog_8_method_10_code 5 = .ok (.aload_n 0, 1) := by decide +kernel
theorem twd_se_resolveNeutral_6 : decode prog_8_method_10_code 6 = .ok (.getfield 22, 3) := by decide +kernel
theorem twd_se_resolveNeutral_9 : decode prog_8_method_10_code 9 = .ok (.if_icmp .gt 94, 3) := by decide +kernel
theorem twd_se_resolveNeutral_12 : decode prog_8_method_10_code 12 = .ok (.iload_n 2, 1) := by decide +kernel
theorem twd_se_resolveNeutral_13 : decode prog_8_method_10_code 13 = .ok (.aload_n 0, 1) := by decide +kernel
theorem twd_se_resolveNeutral_14 : decode prog_8_method_10_code 14 = .ok (.getfield 22, 3) := by decide +kernel
theorem twd_se_resolveNeutral_17 : decode prog_8_method_10_code 17 = .ok (.if_icmp .ge 15, 3) := by decide +kernel
theorem twd_se_resolveNeutral_20 : decode prog_8_method_10_code 20 = .ok (.aload_n 0, 1) := by decide +kernel
theorem twd_se_resolveNeutral_21 : decode prog_8_method_10_code 21 = .ok (.iload_n 2, 1) := by decide +kernel
theorem twd_se_resolveNeutral_22 : decode prog_8_method_10_code 22 = .ok (.invokevirtual 57, 3) := by decide +kernel
theorem twd_se_resolveNeutral_25 : decode prog_8_method_10_code 25 = .ok (.iconst (-1), 1) := by decide +kernel
theorem twd_se_resolveNeutral_26 : decode prog_8_method_10_code 26 = .ok (.if_icmp .ne 6, 3) := by decide +kernel
theorem twd_se_resolveNeutral_29 : decode prog_8_method_10_code 29 = .ok (.goto 68, 3) := by decide +kernel
theorem twd_se_resolveNeutral_32 : decode prog_8_method_10_code 32 = .ok (.iload_n 1, 1) := by decide +kernel
theorem twd_se_resolveNeutral_33 : decode prog_8_method_10_code 33 = .ok (.ifCond .ne 10, 3) := by decide +kernel
theorem twd_se_resolveNeutral_36 : decode prog_8_method_10_code 36 = .ok (.aload_n 0, 1) := by decide +kernel
theorem twd_se_resolveNeutral_37 : decode prog_8_method_10_code 37 = .ok (.getfield 29, 3) := by decide +kernel
theorem twd_se_resolveNeutral_40 : decode prog_8_method_10_code 40 = .ok (.goto 10, 3) := by decide +kernel
theorem twd_se_resolveNeutral_43 : decode prog_8_method_10_code 43 = .ok (.aload_n 0, 1) := by decide +kernel
theorem twd_se_resolveNeutral_44 : decode prog_8_method_10_code 44 = .ok (.iload_n 1, 1) := by decide +kernel
theorem twd_se_resolveNeutral_45 : decode prog_8_method_10_code 45 = .ok (.iconst 1, 1) := by decide +kernel
theorem twd_se_resolveNeutral_46 : decode prog_8_method_10_code 46 = .ok (.isub, 1) := by decide +kernel
theorem twd_se_resolveNeutral_47 : decode prog_8_method_10_code 47 = .ok (.invokevirtual 57, 3) := by decide +kernel
theorem twd_se_resolveNeutral_50 : decode prog_8_method_10_code 50 = .ok (.istore_n 3, 1) := by decide +kernel
theorem twd_se_resolveNeutral_51 : decode prog_8_method_10_code 51 = .ok (.iload_n 2, 1) := by decide +kernel
theorem twd_se_resolveNeutral_52 : decode prog_8_method_10_code 52 = .ok (.aload_n 0, 1) := by decide +kernel
theorem twd_se_resolveNeutral_53 : decode prog_8_method_10_code 53 = .ok (.getfield 22, 3) := by decide +kernel
theorem twd_se_resolveNeutral_56 : decode prog_8_method_10_code 56 = .ok (.if_icmp .ne 10, 3) := by decide +kernel
theorem twd_se_resolveNeutral_59 : decode prog_8_method_10_code 59 = .ok (.aload_n 0, 1) := by decide +kernel
theorem twd_se_resolveNeutral_60 : decode prog_8_method_10_code 60 = .ok (.getfield 32, 3) := by decide +kernel
theorem twd_se_resolveNeutral_63 : decode prog_8_method_10_code 63 = .ok (.goto 8, 3) := by decide +kernel
theorem twd_se_resolveNeutral_66 : decode prog_8_method_10_code 66 = .ok (.aload_n 0, 1) := by decide +kernel
theorem twd_se_resolveNeutral_67 : decode prog_8_method_10_code 67 = .ok (.iload_n 2, 1) := by decide +kernel
theorem twd_se_resolveNeutral_68 : decode prog_8_method_10_code 68 = .ok (.invokevirtual 57, 3) := by decide +kernel
theorem twd_se_resolveNeutral_71 : decode prog_8_method_10_code 71 = .ok (.istore 4, 2) := by decide +kernel
theorem twd_se_resolveNeutral_73 : decode prog_8_method_10_code 73 = .ok (.aload_n 0, 1) := by decide +kernel
theorem twd_se_resolveNeutral_74 : decode prog_8_method_10_code 74 = .ok (.iload_n 1, 1) := by decide +kernel
theorem twd_se_resolveNeutral_75 : decode prog_8_method_10_code 75 = .ok (.iload_n 2, 1) := by decide +kernel
theorem twd_se_resolveNeutral_76 : decode prog_8_method_10_code 76 = .ok (.iload_n 3, 1) := by decide +kernel
theorem twd_se_resolveNeutral_77 : decode prog_8_method_10_code 77 = .ok (.iload 4, 2) := by decide +kernel
theorem twd_se_resolveNeutral_79 : decode prog_8_method_10_code 79 = .ok (.if_icmp .ne 7, 3) := by decide +kernel
theorem twd_se_resolveNeutral_82 : decode prog_8_method_10_code 82 = .ok (.iload_n 3, 1) := by decide +kernel
theorem twd_se_resolveNeutral_83 : decode prog_8_method_10_code 83 = .ok (.goto 7, 3) := by decide +kernel
theorem twd_se_resolveNeutral_86 : decode prog_8_method_10_code 86 = .ok (.aload_n 0, 1) := by decide +kernel
theorem twd_se_resolveNeutral_87 : decode prog_8_method_10_code 87 = .ok (.getfield 26, 3) := by decide +kernel
theorem twd_se_resolveNeutral_90 : decode prog_8_method_10_code 90 = .ok (.invokevirtual 61, 3) := by decide +kernel
theorem twd_se_resolveNeutral_93 : decode prog_8_method_10_code 93 = .ok (.iload_n 2, 1) := by decide +kernel
theorem twd_se_resolveNeutral_94 : decode prog_8_method_10_code 94 = .ok (.iconst 1, 1) := by decide +kernel
theorem twd_se_resolveNeutral_95 : decode prog_8_method_10_code 95 = .ok (.iadd, 1) := by decide +kernel
theorem twd_se_resolveNeutral_96 : decode prog_8_method_10_code 96 = .ok (.istore_n 1, 1) := by decide +kernel
theorem twd_se_resolveNeutral_97 : decode prog_8_method_10_code 97 = .ok (.iinc 2 1, 3) := by decide +kernel
theorem twd_se_resolveNeutral_100 : decode prog_8_method_10_code 100 = .ok (.goto (-96), 3) := by decide +kernel
theorem twd_se_resolveNeutral_103 : decode prog_8_method_10_code 103 = .ok (.return_, 1) := by decide +kernel
theorem twk_se_resolveNeutral : tw_dc twy_se_resolveNeutral 0 := ⟨by decide +kernel, by decide +kernel, by decide +kernel⟩
theorem twd_le_keep_0 : decode prog_5_method_11_code 0 = .ok (.iconst 0, 1) := by decide +kernel
theorem twd_le_keep_1 : decode prog_5_method_11_code 1 = .ok (.istore_n 1, 1) := by decide +kernel
theorem twd_le_keep_2 : decode prog_5_method_11_code 2 = .ok (.iload_n 1, 1) := by decide +kernel
theorem twd_le_keep_3 : decode prog_5_method_11_code 3 = .ok (.aload_n 0, 1) := by decide +kernel
theorem twd_le_keep_4 : decode prog_5_method_11_code 4 = .ok (.getfield 42, 3) := by decide +kernel
theorem twd_le_keep_7 : decode prog_5_method_11_code 7 = .ok (.getfield 114, 3) := by decide +kernel
theorem twd_le_keep_10 : decode prog_5_method_11_code 10 = .ok (.if_icmp .ge 70, 3) := by decide +kernel
theorem twd_le_keep_13 : decode prog_5_method_11_code 13 = .ok (.aload_n 0, 1) := by decide +kernel
theorem twd_le_keep_14 : decode prog_5_method_11_code 14 = .ok (.getfield 42, 3) := by decide +kernel
theorem twd_le_keep_17 : decode prog_5_method_11_code 17 = .ok (.getfield 128, 3) := by decide +kernel
theorem twd_le_keep_20 : decode prog_5_method_11_code 20 = .ok (.iload_n 1, 1) := by decide +kernel
theorem twd_le_keep_21 : decode prog_5_method_11_code 21 = .ok (.iaload, 1) := by decide +kernel
theorem twd_le_keep_22 : decode prog_5_method_11_code 22 = .ok (.istore_n 2, 1) := by decide +kernel
theorem twd_le_keep_23 : decode prog_5_method_11_code 23 = .ok (.aload_n 0, 1) := by decide +kernel
theorem twd_le_keep_24 : decode prog_5_method_11_code 24 = .ok (.getfield 18, 3) := by decide +kernel
theorem twd_le_keep_27 : decode prog_5_method_11_code 27 = .ok (.iload_n 2, 1) := by decide +kernel
theorem twd_le_keep_28 : decode prog_5_method_11_code 28 = .ok (.aload_n 0, 1) := by decide +kernel
theorem twd_le_keep_29 : decode prog_5_method_11_code 29 = .ok (.getfield 42, 3) := by decide +kernel
theorem twd_le_keep_32 : decode prog_5_method_11_code 32 = .ok (.getfield 156, 3) := by decide +kernel
theorem twd_le_keep_35 : decode prog_5_method_11_code 35 = .ok (.iload_n 1, 1) := by decide +kernel
theorem twd_le_keep_36 : decode prog_5_method_11_code 36 = .ok (.iaload, 1) := by decide +kernel
theorem twd_le_keep_37 : decode prog_5_method_11_code 37 = .ok (.iastore, 1) := by decide +kernel
theorem twd_le_keep_38 : decode prog_5_method_11_code 38 = .ok (.aload_n 0, 1) := by decide +kernel
theorem twd_le_keep_39 : decode prog_5_method_11_code 39 = .ok (.getfield 49, 3) := by decide +kernel
theorem twd_le_keep_42 : decode prog_5_method_11_code 42 = .ok (.getfield 157, 3) := by decide +kernel
theorem twd_le_keep_45 : decode prog_5_method_11_code 45 = .ok (.iload_n 1, 1) := by decide +kernel
theorem twd_le_keep_46 : decode prog_5_method_11_code 46 = .ok (.iaload, 1) := by decide +kernel
theorem twd_le_keep_47 : decode prog_5_method_11_code 47 = .ok (.iconst (-1), 1) := by decide +kernel
theorem twd_le_keep_48 : decode prog_5_method_11_code 48 = .ok (.if_icmp .eq 26, 3) := by decide +kernel
theorem twd_le_keep_51 : decode prog_5_method_11_code 51 = .ok (.aload_n 0, 1) := by decide +kernel
theorem twd_le_keep_52 : decode prog_5_method_11_code 52 = .ok (.getfield 22, 3) := by decide +kernel
theorem twd_le_keep_55 : decode prog_5_method_11_code 55 = .ok (.iload_n 2, 1) := by decide +kernel
theorem twd_le_keep_56 : decode prog_5_method_11_code 56 = .ok (.aload_n 0, 1) := by decide +kernel
theorem twd_le_keep_57 : decode prog_5_method_11_code 57 = .ok (.getfield 42, 3) := by decide +kernel
theorem twd_le_keep_60 : decode prog_5_method_11_code 60 = .ok (.getfield 128, 3) := by decide +kernel
theorem twd_le_keep_63 : decode prog_5_method_11_code 63 = .ok (.aload_n 0, 1) := by decide +kernel
theorem twd_le_keep_64 : decode prog_5_method_11_code 64 = .ok (.getfield 49, 3) := by decide +kernel
theorem twd_le_keep_67 : decode prog_5_method_11_code 67 = .ok (.getfield 157, 3) := by decide +kernel
theorem twd_le_keep_70 : decode prog_5_method_11_code 70 = .ok (.iload_n 1, 1) := by decide +kernel
theorem twd_le_keep_71 : decode prog_5_method_11_code 71 = .ok (.iaload, 1) := by decide +kernel
theorem twd_le_keep_72 : decode prog_5_method_11_code 72 = .ok (.iaload, 1) := by decide +kernel
theorem twd_le_keep_73 : decode prog_5_method_11_code 73 = .ok (.iastore, 1) := by decide +kernel
theorem twd_le_keep_74 : decode prog_5_method_11_code 74 = .ok (.iinc 1 1, 3) := by decide +kernel
theorem twd_le_keep_77 : decode prog_5_method_11_code 77 = .ok (.goto (-75), 3) := by decide +kernel
theorem twd_le_keep_80 : decode prog_5_method_11_code 80 = .ok (.return_, 1) := by decide +kernel
theorem twk_le_keep : tw_dc twy_le_keep 0 := ⟨by decide +kernel, by decide +kernel, by decide +kernel⟩
theorem twd_le_resolveSequences_0 : decode prog_5_method_3_code 0 = .ok (.iconst 0, 1) := by decide +kernel
theorem twd_le_resolveSequences_1 : decode prog_5_method_3_code 1 = .ok (.istore_n 2, 1) := by decide +kernel
theorem twd_le_resolveSequences_2 : decode prog_5_method_3_code 2 = .ok (.iload_n 2, 1) := by decide +kernel
theorem twd_le_resolveSequences_3 : decode prog_5_method_3_code 3 = .ok (.aload_n 1, 1) := by decide +kernel
theorem twd_le_resolveSequences_4 : decode prog_5_method_3_code 4 = .ok (.getfield 62, 3) := by decide +kernel
theorem twd_le_resolveSequences_7 : decode prog_5_method_3_code 7 = .ok (.if_icmp .ge 23, 3) := by decide +kernel
theorem twd_le_resolveSequences_10 : decode prog_5_method_3_code 10 = .ok (.aload_n 0, 1) := by decide +kernel
theorem twd_le_resolveSequences_11 : decode prog_5_method_3_code 11 = .ok (.getfield 18, 3) := by decide +kernel
theorem twd_le_resolveSequences_14 : decode prog_5_method_3_code 14 = .ok (.iload_n 2, 1) := by decide +kernel
theorem twd_le_resolveSequences_15 : decode prog_5_method_3_code 15 = .ok (.iconst (-1), 1) := by decide +kernel
theorem twd_le_resolveSequences_16 : decode prog_5_method_3_code 16 = .ok (.iastore, 1) := by decide +kernel
theorem twd_le_resolveSequences_17 : decode prog_5_method_3_code 17 = .ok (.aload_n 0, 1) := by decide +kernel
theorem twd_le_resolveSequences_18 : decode prog_5_method_3_code 18 = .ok (.getfield 22, 3) := by decide +kernel
theorem twd_le_resolveSequences_21 : decode prog_5_method_3_code 21 = .ok (.iload_n 2, 1) := by decide +kernel
theorem twd_le_resolveSequences_22 : decode prog_5_method_3_code 22 = .ok (.iconst (-1), 1) := by decide +kernel
theorem twd_le_resolveSequences_23 : decode prog_5_method_3_code 23 = .ok (.iastore, 1) := by decide +kernel
theorem twd_le_resolveSequences_24 : decode prog_5_method_3_code 24 = .ok (.iinc 2 1, 3) := by decide +kernel
theorem twd_le_resolveSequences_27 : decode prog_5_method_3_code 27 = .ok (.goto (-25), 3) := by decide +kernel
theorem twd_le_resolveSequences_30 : decode prog_5_method_3_code 30 = .ok (.iconst 0, 1) := by decide +kernel
theorem twd_le_resolveSequences_31 : decode prog_5_method_3_code 31 = .ok (.istore_n 2, 1) := by decide +kernel
theorem twd_le_resolveSequences_32 : decode prog_5_method_3_code 32 = .ok (.iload_n 2, 1) := by decide +kernel
theorem twd_le_resolveSequences_33 : decode prog_5_method_3_code 33 = .ok (.aload_n 1, 1) := by decide +kernel
theorem twd_le_resolveSequences_34 : decode prog_5_method_3_code 34 = .ok (.getfield 62, 3) := by decide +kernel
theorem twd_le_resolveSequences_37 : decode prog_5_method_3_code 37 = .ok (.if_icmp .ge 59, 3) := by decide +kernel
theorem twd_le_resolveSequences_40 : decode prog_5_method_3_code 40 = .ok (.aload_n 0, 1) := by decide +kernel
theorem twd_le_resolveSequences_41 : decode prog_5_method_3_code 41 = .ok (.aload_n 1, 1) := by decide +kernel
theorem twd_le_resolveSequences_42 : decode prog_5_method_3_code 42 = .ok (.iload_n 2, 1) := by decide +kernel
theorem twd_le_resolveSequences_43 : decode prog_5_method_3_code 43 = .ok (.invokevirtual 73, 3) := by decide +kernel
theorem twd_le_resolveSequences_46 : decode prog_5_method_3_code 46 = .ok (.ifCond .eq 44, 3) := by decide +kernel
theorem twd_le_resolveSequences_49 : decode prog_5_method_3_code 49 = .ok (.aload_n 0, 1) := by decide +kernel
theorem twd_le_resolveSequences_50 : decode prog_5_method_3_code 50 = .ok (.aload_n 1, 1) := by decide +kernel
theorem twd_le_resolveSequences_51 : decode prog_5_method_3_code 51 = .ok (.iload_n 2, 1) := by decide +kernel
theorem twd_le_resolveSequences_52 : decode prog_5_method_3_code 52 = .ok (.invokevirtual 77, 3) := by decide +kernel
theorem twd_le_resolveSequences_55 : decode prog_5_method_3_code 55 = .ok (.aload_n 0, 1) := by decide +kernel
theorem twd_le_resolveSequences_56 : decode prog_5_method_3_code 56 = .ok (.aload_n 1, 1) := by decide +kernel
theorem twd_le_resolveSequences_57 : decode prog_5_method_3_code 57 = .ok (.invokevirtual 81, 3) := by decide +kernel
theorem twd_le_resolveSequences_60 : decode prog_5_method_3_code 60 = .ok (.aload_n 0, 1) := by decide +kernel
theorem twd_le_resolveSequences_61 : decode prog_5_method_3_code 61 = .ok (.getfield 42, 3) := by decide +kernel
theorem twd_le_resolveSequences_64 : decode prog_5_method_3_code 64 = .ok (.invokevirtual 84, 3) := by decide +kernel
theorem twd_le_resolveSequences_67 : decode prog_5_method_3_code 67 = .ok (.aload_n 0, 1) := by decide +kernel
theorem twd_le_resolveSequences_68 : decode prog_5_method_3_code 68 = .ok (.getfield 49, 3) := by decide +kernel
theorem twd_le_resolveSequences_71 : decode prog_5_method_3_code 71 = .ok (.aload_n 1, 1) := by decide +kernel
theorem twd_le_resolveSequences_72 : decode prog_5_method_3_code 72 = .ok (.aload_n 0, 1) := by decide +kernel
theorem twd_le_resolveSequences_73 : decode prog_5_method_3_code 73 = .ok (.getfield 42, 3) := by decide +kernel
theorem twd_le_resolveSequences_76 : decode prog_5_method_3_code 76 = .ok (.invokevirtual 87, 3) := by decide +kernel
theorem twd_le_resolveSequences_79 : decode prog_5_method_3_code 79 = .ok (.aload_n 0, 1) := by decide +kernel
theorem twd_le_resolveSequences_80 : decode prog_5_method_3_code 80 = .ok (.getfield 42, 3) := by decide +kernel
theorem twd_le_resolveSequences_83 : decode prog_5_method_3_code 83 = .ok (.invokevirtual 91, 3) := by decide +kernel
theorem twd_le_resolveSequences_86 : decode prog_5_method_3_code 86 = .ok (.aload_n 0, 1) := by decide +kernel
theorem twd_le_resolveSequences_87 : decode prog_5_method_3_code 87 = .ok (.invokevirtual 94, 3) := by decide +kernel
theorem twd_le_resolveSequences_90 : decode prog_5_method_3_code 90 = .ok (.iinc 2 1, 3) := by decide +kernel
theorem twd_le_resolveSequences_93 : decode prog_5_method_3_code 93 = .ok (.goto (-61), 3) := by decide +kernel
theorem twd_le_resolveSequences_96 : decode prog_5_method_3_code 96 = .ok (.return_, 1) := by decide +kernel
theorem twk_le_resolveSequences : tw_dc twy_le_resolveSequences 1 := ⟨by decide +kernel, by decide +kernel, by decide +kernel⟩
theorem twd_le_raised_0 : decode prog_5_method_13_code 0 = .ok (.iload_n 0, 1) := by decide +kernel
theorem twd_le_raised_1 : decode prog_5_method_13_code 1 = .ok (.invokestatic 161, 3) := by decide +kernel
theorem twd_le_raised_4 : decode prog_5_method_13_code 4 = .ok (.ifCond .eq 16, 3) := by decide +kernel
theorem twd_le_raised_7 : decode prog_5_method_13_code 7 = .ok (.iload_n 1, 1) := by decide +kernel
theorem twd_le_raised_8 : decode prog_5_method_13_code 8 = .ok (.iconst 1, 1) := by decide +kernel
theorem twd_le_raised_9 : decode prog_5_method_13_code 9 = .ok (.if_icmp .ne 7, 3) := by decide +kernel
theorem twd_le_raised_12 : decode prog_5_method_13_code 12 = .ok (.iload_n 0, 1) := by decide +kernel
theorem twd_le_raised_13 : decode prog_5_method_13_code 13 = .ok (.goto 6, 3) := by decide +kernel
theorem twd_le_raised_16 : decode prog_5_method_13_code 16 = .ok (.iload_n 0, 1) := by decide +kernel
theorem twd_le_raised_17 : decode prog_5_method_13_code 17 = .ok (.iconst 1, 1) := by decide +kernel
theorem twd_le_raised_18 : decode prog_5_method_13_code 18 = .ok (.iadd, 1) := by decide +kernel
theorem twd_le_raised_19 : decode prog_5_method_13_code 19 = .ok (.ireturn, 1) := by decide +kernel
theorem twd_le_raised_20 : decode prog_5_method_13_code 20 = .ok (.iload_n 1, 1) := by decide +kernel
theorem twd_le_raised_21 : decode prog_5_method_13_code 21 = .ok (.ifCond .ne 5, 3) := by decide +kernel
theorem twd_le_raised_24 : decode prog_5_method_13_code 24 = .ok (.iload_n 0, 1) := by decide +kernel
theorem twd_le_raised_25 : decode prog_5_method_13_code 25 = .ok (.ireturn, 1) := by decide +kernel
theorem twd_le_raised_26 : decode prog_5_method_13_code 26 = .ok (.iload_n 1, 1) := by decide +kernel
theorem twd_le_raised_27 : decode prog_5_method_13_code 27 = .ok (.iconst 1, 1) := by decide +kernel
theorem twd_le_raised_28 : decode prog_5_method_13_code 28 = .ok (.if_icmp .ne 9, 3) := by decide +kernel
theorem twd_le_raised_31 : decode prog_5_method_13_code 31 = .ok (.iload_n 0, 1) := by decide +kernel
theorem twd_le_raised_32 : decode prog_5_method_13_code 32 = .ok (.iconst 1, 1) := by decide +kernel
theorem twd_le_raised_33 : decode prog_5_method_13_code 33 = .ok (.iadd, 1) := by decide +kernel
theorem twd_le_raised_34 : decode prog_5_method_13_code 34 = .ok (.goto 6, 3) := by decide +kernel
theorem twd_le_raised_37 : decode prog_5_method_13_code 37 = .ok (.iload_n 0, 1) := by decide +kernel
theorem twd_le_raised_38 : decode prog_5_method_13_code 38 = .ok (.iconst 2, 1) := by decide +kernel
theorem twd_le_raised_39 : decode prog_5_method_13_code 39 = .ok (.iadd, 1) := by decide +kernel
theorem twd_le_raised_40 : decode prog_5_method_13_code 40 = .ok (.ireturn, 1) := by decide +kernel
theorem twk_le_raised : tw_dc twy_le_raised 2 := ⟨by decide +kernel, by decide +kernel, by decide +kernel⟩
theorem twd_le_raise_0 : decode prog_5_method_12_code 0 = .ok (.aload_n 0, 1) := by decide +kernel
theorem twd_le_raise_1 : decode prog_5_method_12_code 1 = .ok (.getfield 28, 3) := by decide +kernel
theorem twd_le_raise_4 : decode prog_5_method_12_code 4 = .ok (.istore_n 2, 1) := by decide +kernel
theorem twd_le_raise_5 : decode prog_5_method_12_code 5 = .ok (.iconst 0, 1) := by decide +kernel
theorem twd_le_raise_6 : decode prog_5_method_12_code 6 = .ok (.istore_n 3, 1) := by decide +kernel
theorem twd_le_raise_7 : decode prog_5_method_12_code 7 = .ok (.iload_n 3, 1) := by decide +kernel
theorem twd_le_raise_8 : decode prog_5_method_12_code 8 = .ok (.aload_n 1, 1) := by decide +kernel
theorem twd_le_raise_9 : decode prog_5_method_12_code 9 = .ok (.getfield 62, 3) := by decide +kernel
theorem twd_le_raise_12 : decode prog_5_method_12_code 12 = .ok (.if_icmp .ge 47, 3) := by decide +kernel
theorem twd_le_raise_15 : decode prog_5_method_12_code 15 = .ok (.aload_n 1, 1) := by decide +kernel
theorem twd_le_raise_16 : decode prog_5_method_12_code 16 = .ok (.getfield 97, 3) := by decide +kernel
theorem twd_le_raise_19 : decode prog_5_method_12_code 19 = .ok (.iload_n 3, 1) := by decide +kernel
theorem twd_le_raise_20 : decode prog_5_method_12_code 20 = .ok (.iaload, 1) := by decide +kernel
theorem twd_le_raise_21 : decode prog_5_method_12_code 21 = .ok (.invokestatic 100, 3) := by decide +kernel
theorem twd_le_raise_24 : decode prog_5_method_12_code 24 = .ok (.ifCond .ne 22, 3) := by decide +kernel
theorem twd_le_raise_27 : decode prog_5_method_12_code 27 = .ok (.aload_n 0, 1) := by decide +kernel
theorem twd_le_raise_28 : decode prog_5_method_12_code 28 = .ok (.getfield 35, 3) := by decide +kernel
theorem twd_le_raise_31 : decode prog_5_method_12_code 31 = .ok (.getfield 111, 3) := by decide +kernel
theorem twd_le_raise_34 : decode prog_5_method_12_code 34 = .ok (.iload_n 3, 1) := by decide +kernel
theorem twd_le_raise_35 : decode prog_5_method_12_code 35 = .ok (.iaload, 1) := by decide +kernel
theorem twd_le_raise_36 : decode prog_5_method_12_code 36 = .ok (.aload_n 0, 1) := by decide +kernel
theorem twd_le_raise_37 : decode prog_5_method_12_code 37 = .ok (.getfield 18, 3) := by decide +kernel
theorem twd_le_raise_40 : decode prog_5_method_12_code 40 = .ok (.iload_n 3, 1) := by decide +kernel
theorem twd_le_raise_41 : decode prog_5_method_12_code 41 = .ok (.iaload, 1) := by decide +kernel
theorem twd_le_raise_42 : decode prog_5_method_12_code 42 = .ok (.invokestatic 158, 3) := by decide +kernel
theorem twd_le_raise_45 : decode prog_5_method_12_code 45 = .ok (.istore_n 2, 1) := by decide +kernel
theorem twd_le_raise_46 : decode prog_5_method_12_code 46 = .ok (.aload_n 0, 1) := by decide +kernel
theorem twd_le_raise_47 : decode prog_5_method_12_code 47 = .ok (.getfield 25, 3) := by decide +kernel
theorem twd_le_raise_50 : decode prog_5_method_12_code 50 = .ok (.iload_n 3, 1) := by decide +kernel
theorem twd_le_raise_51 : decode prog_5_method_12_code 51 = .ok (.iload_n 2, 1) := by decide +kernel
theorem twd_le_raise_52 : decode prog_5_method_12_code 52 = .ok (.iastore, 1) := by decide +kernel
theorem twd_le_raise_53 : decode prog_5_method_12_code 53 = .ok (.iinc 3 1, 3) := by decide +kernel
theorem twd_le_raise_56 : decode prog_5_method_12_code 56 = .ok (.goto (-49), 3) := by decide +kernel
theorem twd_le_raise_59 : decode prog_5_method_12_code 59 = .ok (.return_, 1) := by decide +kernel
theorem twk_le_raise : tw_dc twy_le_raise 1 := ⟨by decide +kernel, by decide +kernel, by decide +kernel⟩
theorem twd_fi_findGroups_0 : decode prog_4_method_4_code 0 = .ok (.iconst 0, 1) := by decide +kernel
theorem twd_fi_findGroups_1 : decode prog_4_method_4_code 1 = .ok (.istore_n 2, 1) := by decide +kernel
theorem twd_fi_findGroups_2 : decode prog_4_method_4_code 2 = .ok (.iconst 0, 1) := by decide +kernel
theorem twd_fi_findGroups_3 : decode prog_4_method_4_code 3 = .ok (.istore_n 3, 1) := by decide +kernel
theorem twd_fi_findGroups_4 : decode prog_4_method_4_code 4 = .ok (.iload_n 3, 1) := by decide +kernel
theorem twd_fi_findGroups_5 : decode prog_4_method_4_code 5 = .ok (.aload_n 1, 1) := by decide +kernel
theorem twd_fi_findGroups_6 : decode prog_4_method_4_code 6 = .ok (.getfield 36, 3) := by decide +kernel
theorem twd_fi_findGroups_9 : decode prog_4_method_4_code 9 = .ok (.if_icmp .ge 34, 3) := by decide +kernel
theorem twd_fi_findGroups_12 : decode prog_4_method_4_code 12 = .ok (.aload_n 1, 1) := by decide +kernel
theorem twd_fi_findGroups_13 : decode prog_4_method_4_code 13 = .ok (.getfield 48, 3) := by decide +kernel
theorem twd_fi_findGroups_16 : decode prog_4_method_4_code 16 = .ok (.iload_n 3, 1) := by decide +kernel
theorem twd_fi_findGroups_17 : decode prog_4_method_4_code 17 = .ok (.iaload, 1) := by decide +kernel
theorem twd_fi_findGroups_18 : decode prog_4_method_4_code 18 = .ok (.bipush 8, 2) := by decide +kernel
theorem twd_fi_findGroups_20 : decode prog_4_method_4_code 20 = .ok (.if_icmp .eq 10, 3) := by decide +kernel
theorem twd_fi_findGroups_23 : decode prog_4_method_4_code 23 = .ok (.aload_n 1, 1) := by decide +kernel
theorem twd_fi_findGroups_24 : decode prog_4_method_4_code 24 = .ok (.getfield 51, 3) := by decide +kernel
theorem twd_fi_findGroups_27 : decode prog_4_method_4_code 27 = .ok (.iload_n 3, 1) := by decide +kernel
theorem twd_fi_findGroups_28 : decode prog_4_method_4_code 28 = .ok (.iaload, 1) := by decide +kernel
theorem twd_fi_findGroups_29 : decode prog_4_method_4_code 29 = .ok (.istore_n 2, 1) := by decide +kernel
theorem twd_fi_findGroups_30 : decode prog_4_method_4_code 30 = .ok (.aload_n 0, 1) := by decide +kernel
theorem twd_fi_findGroups_31 : decode prog_4_method_4_code 31 = .ok (.getfield 26, 3) := by decide +kernel
theorem twd_fi_findGroups_34 : decode prog_4_method_4_code 34 = .ok (.iload_n 3, 1) := by decide +kernel
theorem twd_fi_findGroups_35 : decode prog_4_method_4_code 35 = .ok (.iload_n 2, 1) := by decide +kernel
theorem twd_fi_findGroups_36 : decode prog_4_method_4_code 36 = .ok (.iastore, 1) := by decide +kernel
theorem twd_fi_findGroups_37 : decode prog_4_method_4_code 37 = .ok (.iinc 3 1, 3) := by decide +kernel
theorem twd_fi_findGroups_40 : decode prog_4_method_4_code 40 = .ok (.goto (-36), 3) := by decide +kernel
theorem twd_fi_findGroups_43 : decode prog_4_method_4_code 43 = .ok (.return_, 1) := by decide +kernel
theorem twk_fi_findGroups : tw_dc twy_fi_findGroups 1 := ⟨by decide +kernel, by decide +kernel, by decide +kernel⟩
theorem twd_fi_parts_0 : decode prog_4_method_6_code 0 = .ok (.iload_n 2, 1) := by decide +kernel
theorem twd_fi_parts_1 : decode prog_4_method_6_code 1 = .ok (.iconst 1, 1) := by decide +kernel
theorem twd_fi_parts_2 : decode prog_4_method_6_code 2 = .ok (.if_icmp .eq 13, 3) := by decide +kernel
theorem twd_fi_parts_5 : decode prog_4_method_6_code 5 = .ok (.iload_n 2, 1) := by decide +kernel
theorem twd_fi_parts_6 : decode prog_4_method_6_code 6 = .ok (.iconst 3, 1) := by decide +kernel
theorem twd_fi_parts_7 : decode prog_4_method_6_code 7 = .ok (.if_icmp .eq 8, 3) := by decide +kernel
theorem twd_fi_parts_10 : decode prog_4_method_6_code 10 = .ok (.iload_n 0, 1) := by decide +kernel
theorem twd_fi_parts_11 : decode prog_4_method_6_code 11 = .ok (.iconst 2, 1) := by decide +kernel
theorem twd_fi_parts_12 : decode prog_4_method_6_code 12 = .ok (.if_icmp .ne 5, 3) := by decide +kernel
theorem twd_fi_parts_15 : decode prog_4_method_6_code 15 = .ok (.iconst 0, 1) := by decide +kernel
theorem twd_fi_parts_16 : decode prog_4_method_6_code 16 = .ok (.ireturn, 1) := by decide +kernel
theorem twd_fi_parts_17 : decode prog_4_method_6_code 17 = .ok (.iload_n 1, 1) := by decide +kernel
theorem twd_fi_parts_18 : decode prog_4_method_6_code 18 = .ok (.iconst 1, 1) := by decide +kernel
theorem twd_fi_parts_19 : decode prog_4_method_6_code 19 = .ok (.if_icmp .ne 5, 3) := by decide +kernel
theorem twd_fi_parts_22 : decode prog_4_method_6_code 22 = .ok (.iconst 1, 1) := by decide +kernel
theorem twd_fi_parts_23 : decode prog_4_method_6_code 23 = .ok (.ireturn, 1) := by decide +kernel
theorem twd_fi_parts_24 : decode prog_4_method_6_code 24 = .ok (.iload_n 1, 1) := by decide +kernel
theorem twd_fi_parts_25 : decode prog_4_method_6_code 25 = .ok (.iconst 4, 1) := by decide +kernel
theorem twd_fi_parts_26 : decode prog_4_method_6_code 26 = .ok (.if_icmp .eq 14, 3) := by decide +kernel
theorem twd_fi_parts_29 : decode prog_4_method_6_code 29 = .ok (.iload_n 2, 1) := by decide +kernel
theorem twd_fi_parts_30 : decode prog_4_method_6_code 30 = .ok (.iconst 4, 1) := by decide +kernel
theorem twd_fi_parts_31 : decode prog_4_method_6_code 31 = .ok (.if_icmp .eq 9, 3) := by decide +kernel
theorem twd_fi_parts_34 : decode prog_4_method_6_code 34 = .ok (.iload_n 2, 1) := by decide +kernel
theorem twd_fi_parts_35 : decode prog_4_method_6_code 35 = .ok (.bipush 6, 2) := by decide +kernel
theorem twd_fi_parts_37 : decode prog_4_method_6_code 37 = .ok (.if_icmp .ne 5, 3) := by decide +kernel
theorem twd_fi_parts_40 : decode prog_4_method_6_code 40 = .ok (.iconst 0, 1) := by decide +kernel
theorem twd_fi_parts_41 : decode prog_4_method_6_code 41 = .ok (.ireturn, 1) := by decide +kernel
theorem twd_fi_parts_42 : decode prog_4_method_6_code 42 = .ok (.iload_n 1, 1) := by decide +kernel
theorem twd_fi_parts_43 : decode prog_4_method_6_code 43 = .ok (.bipush 6, 2) := by decide +kernel
theorem twd_fi_parts_45 : decode prog_4_method_6_code 45 = .ok (.if_icmp .eq 13, 3) := by decide +kernel
theorem twd_fi_parts_48 : decode prog_4_method_6_code 48 = .ok (.iload_n 1, 1) := by decide +kernel
theorem twd_fi_parts_49 : decode prog_4_method_6_code 49 = .ok (.iconst 5, 1) := by decide +kernel
theorem twd_fi_parts_50 : decode prog_4_method_6_code 50 = .ok (.if_icmp .eq 8, 3) := by decide +kernel
theorem twd_fi_parts_53 : decode prog_4_method_6_code 53 = .ok (.iload_n 2, 1) := by decide +kernel
theorem twd_fi_parts_54 : decode prog_4_method_6_code 54 = .ok (.iconst 5, 1) := by decide +kernel
theorem twd_fi_parts_55 : decode prog_4_method_6_code 55 = .ok (.if_icmp .ne 7, 3) := by decide +kernel
theorem twd_fi_parts_58 : decode prog_4_method_6_code 58 = .ok (.iconst 1, 1) := by decide +kernel
theorem twd_fi_parts_59 : decode prog_4_method_6_code 59 = .ok (.goto 4, 3) := by decide +kernel
theorem twd_fi_parts_62 : decode prog_4_method_6_code 62 = .ok (.iconst 0, 1) := by decide +kernel
theorem twd_fi_parts_63 : decode prog_4_method_6_code 63 = .ok (.ireturn, 1) := by decide +kernel
theorem twk_fi_parts : tw_dc twy_fi_parts 3 := ⟨by decide +kernel, by decide +kernel, by decide +kernel⟩
theorem twd_fi_findBreaks_0 : decode prog_4_method_5_code 0 = .ok (.iconst (-1), 1) := by decide +kernel
theorem twd_fi_findBreaks_1 : decode prog_4_method_5_code 1 = .ok (.istore_n 2, 1) := by decide +kernel
theorem twd_fi_findBreaks_2 : decode prog_4_method_5_code 2 = .ok (.iconst 0, 1) := by decide +kernel
theorem twd_fi_findBreaks_3 : decode prog_4_method_5_code 3 = .ok (.istore_n 3, 1) := by decide +kernel
theorem twd_fi_findBreaks_4 : decode prog_4_method_5_code 4 = .ok (.iload_n 3, 1) := by decide +kernel
theorem twd_fi_findBreaks_5 : decode prog_4_method_5_code 5 = .ok (.aload_n 1, 1) := by decide +kernel
theorem twd_fi_findBreaks_6 : decode prog_4_method_5_code 6 = .ok (.getfield 36, 3) := by decide +kernel
theorem twd_fi_findBreaks_9 : decode prog_4_method_5_code 9 = .ok (.if_icmp .ge 85, 3) := by decide +kernel
theorem twd_fi_findBreaks_12 : decode prog_4_method_5_code 12 = .ok (.iload_n 3, 1) := by decide +kernel
theorem twd_fi_findBreaks_13 : decode prog_4_method_5_code 13 = .ok (.ifCond .le 18, 3) := by decide +kernel
theorem twd_fi_findBreaks_16 : decode prog_4_method_5_code 16 = .ok (.aload_n 1, 1) := by decide +kernel
theorem twd_fi_findBreaks_17 : decode prog_4_method_5_code 17 = .ok (.getfield 48, 3) := by decide +kernel
theorem twd_fi_findBreaks_20 : decode prog_4_method_5_code 20 = .ok (.iload_n 3, 1) := by decide +kernel
theorem twd_fi_findBreaks_21 : decode prog_4_method_5_code 21 = .ok (.iaload, 1) := by decide +kernel
theorem twd_fi_findBreaks_22 : decode prog_4_method_5_code 22 = .ok (.bipush 8, 2) := by decide +kernel
theorem twd_fi_findBreaks_24 : decode prog_4_method_5_code 24 = .ok (.if_icmp .eq 7, 3) := by decide +kernel
theorem twd_fi_findBreaks_27 : decode prog_4_method_5_code 27 = .ok (.iconst 1, 1) := by decide +kernel
theorem twd_fi_findBreaks_28 : decode prog_4_method_5_code 28 = .ok (.goto 4, 3) := by decide +kernel
theorem twd_fi_findBreaks_31 : decode prog_4_method_5_code 31 = .ok (.iconst 0, 1) := by decide +kernel
theorem twd_fi_findBreaks_32 : decode prog_4_method_5_code 32 = .ok (.istore 4, 2) := by decide +kernel
theorem twd_fi_findBreaks_34 : decode prog_4_method_5_code 34 = .ok (.aload_n 0, 1) := by decide +kernel
theorem twd_fi_findBreaks_35 : decode prog_4_method_5_code 35 = .ok (.getfield 9, 3) := by decide +kernel
theorem twd_fi_findBreaks_38 : decode prog_4_method_5_code 38 = .ok (.iload_n 3, 1) := by decide +kernel
theorem twd_fi_findBreaks_39 : decode prog_4_method_5_code 39 = .ok (.iload 4, 2) := by decide +kernel
theorem twd_fi_findBreaks_41 : decode prog_4_method_5_code 41 = .ok (.ifCond .eq 28, 3) := by decide +kernel
theorem twd_fi_findBreaks_44 : decode prog_4_method_5_code 44 = .ok (.iload_n 2, 1) := by decide +kernel
theorem twd_fi_findBreaks_45 : decode prog_4_method_5_code 45 = .ok (.aload_n 0, 1) := by decide +kernel
theorem twd_fi_findBreaks_46 : decode prog_4_method_5_code 46 = .ok (.getfield 26, 3) := by decide +kernel
theorem twd_fi_findBreaks_49 : decode prog_4_method_5_code 49 = .ok (.iload_n 3, 1) := by decide +kernel
theorem twd_fi_findBreaks_50 : decode prog_4_method_5_code 50 = .ok (.iconst 1, 1) := by decide +kernel
theorem twd_fi_findBreaks_51 : decode prog_4_method_5_code 51 = .ok (.isub, 1) := by decide +kernel
theorem twd_fi_findBreaks_52 : decode prog_4_method_5_code 52 = .ok (.iaload, 1) := by decide +kernel
theorem twd_fi_findBreaks_53 : decode prog_4_method_5_code 53 = .ok (.aload_n 0, 1) := by decide +kernel
theorem twd_fi_findBreaks_54 : decode prog_4_method_5_code 54 = .ok (.getfield 26, 3) := by decide +kernel
theorem twd_fi_findBreaks_57 : decode prog_4_method_5_code 57 = .ok (.iload_n 3, 1) := by decide +kernel
theorem twd_fi_findBreaks_58 : decode prog_4_method_5_code 58 = .ok (.iaload, 1) := by decide +kernel
theorem twd_fi_findBreaks_59 : decode prog_4_method_5_code 59 = .ok (.invokestatic 52, 3) := by decide +kernel
theorem twd_fi_findBreaks_62 : decode prog_4_method_5_code 62 = .ok (.ifCond .eq 7, 3) := by decide +kernel
theorem twd_fi_findBreaks_65 : decode prog_4_method_5_code 65 = .ok (.iconst 1, 1) := by decide +kernel
theorem twd_fi_findBreaks_66 : decode prog_4_method_5_code 66 = .ok (.goto 4, 3) := by decide +kernel
theorem twd_fi_findBreaks_69 : decode prog_4_method_5_code 69 = .ok (.iconst 0, 1) := by decide +kernel
theorem twd_fi_findBreaks_70 : decode prog_4_method_5_code 70 = .ok (.bastore, 1) := by decide +kernel
theorem twd_fi_findBreaks_71 : decode prog_4_method_5_code 71 = .ok (.aload_n 0, 1) := by decide +kernel
theorem twd_fi_findBreaks_72 : decode prog_4_method_5_code 72 = .ok (.getfield 26, 3) := by decide +kernel
theorem twd_fi_findBreaks_75 : decode prog_4_method_5_code 75 = .ok (.iload_n 3, 1) := by decide +kernel
theorem twd_fi_findBreaks_76 : decode prog_4_method_5_code 76 = .ok (.iaload, 1) := by decide +kernel
theorem twd_fi_findBreaks_77 : decode prog_4_method_5_code 77 = .ok (.iconst 1, 1) := by decide +kernel
theorem twd_fi_findBreaks_78 : decode prog_4_method_5_code 78 = .ok (.if_icmp .eq 10, 3) := by decide +kernel
theorem twd_fi_findBreaks_81 : decode prog_4_method_5_code 81 = .ok (.aload_n 0, 1) := by decide +kernel
theorem twd_fi_findBreaks_82 : decode prog_4_method_5_code 82 = .ok (.getfield 26, 3) := by decide +kernel
theorem twd_fi_findBreaks_85 : decode prog_4_method_5_code 85 = .ok (.iload_n 3, 1) := by decide +kernel
theorem twd_fi_findBreaks_86 : decode prog_4_method_5_code 86 = .ok (.iaload, 1) := by decide +kernel
theorem twd_fi_findBreaks_87 : decode prog_4_method_5_code 87 = .ok (.istore_n 2, 1) := by decide +kernel
theorem twd_fi_findBreaks_88 : decode prog_4_method_5_code 88 = .ok (.iinc 3 1, 3) := by decide +kernel
theorem twd_fi_findBreaks_91 : decode prog_4_method_5_code 91 = .ok (.goto (-87), 3) := by decide +kernel
theorem twd_fi_findBreaks_94 : decode prog_4_method_5_code 94 = .ok (.return_, 1) := by decide +kernel
theorem twk_fi_findBreaks : tw_dc twy_fi_findBreaks 1 := ⟨by decide +kernel, by decide +kernel, by decide +kernel⟩
theorem twd_fi_endOfLine_0 : decode prog_4_method_7_code 0 = .ok (.iconst (-1), 1) := by decide +kernel
theorem twd_fi_endOfLine_1 : decode prog_4_method_7_code 1 = .ok (.istore 4, 2) := by decide +kernel
theorem twd_fi_endOfLine_3 : decode prog_4_method_7_code 3 = .ok (.iconst (-1), 1) := by decide +kernel
theorem twd_fi_endOfLine_4 : decode prog_4_method_7_code 4 = .ok (.istore 5, 2) := by decide +kernel
theorem twd_fi_endOfLine_6 : decode prog_4_method_7_code 6 = .ok (.iconst 0, 1) := by decide +kernel
theorem twd_fi_endOfLine_7 : decode prog_4_method_7_code 7 = .ok (.istore 6, 2) := by decide +kernel
theorem twd_fi_endOfLine_9 : decode prog_4_method_7_code 9 = .ok (.iconst 0, 1) := by decide +kernel
theorem twd_fi_endOfLine_10 : decode prog_4_method_7_code 10 = .ok (.istore 7, 2) := by decide +kernel
theorem twd_fi_endOfLine_12 : decode prog_4_method_7_code 12 = .ok (.iload_n 2, 1) := by decide +kernel
theorem twd_fi_endOfLine_13 : decode prog_4_method_7_code 13 = .ok (.iconst 1, 1) := by decide +kernel
theorem twd_fi_endOfLine_14 : decode prog_4_method_7_code 14 = .ok (.iadd, 1) := by decide +kernel
theorem twd_fi_endOfLine_15 : decode prog_4_method_7_code 15 = .ok (.istore 8, 2) := by decide +kernel
theorem twd_fi_endOfLine_17 : decode prog_4_method_7_code 17 = .ok (.iload 8, 2) := by decide +kernel
theorem twd_fi_endOfLine_19 : decode prog_4_method_7_code 19 = .ok (.aload_n 1, 1) := by decide +kernel
theorem twd_fi_endOfLine_20 : decode prog_4_method_7_code 20 = .ok (.getfield 36, 3) := by decide +kernel
theorem twd_fi_endOfLine_23 : decode prog_4_method_7_code 23 = .ok (.if_icmp .gt 142, 3) := by decide +kernel
theorem twd_fi_endOfLine_26 : decode prog_4_method_7_code 26 = .ok (.iload 6, 2) := by decide +kernel
theorem twd_fi_endOfLine_28 : decode prog_4_method_7_code 28 = .ok (.aload_n 1, 1) := by decide +kernel
theorem twd_fi_endOfLine_29 : decode prog_4_method_7_code 29 = .ok (.getfield 56, 3) := by decide +kernel
theorem twd_fi_endOfLine_32 : decode prog_4_method_7_code 32 = .ok (.iload 8, 2) := by decide +kernel
theorem twd_fi_endOfLine_34 : decode prog_4_method_7_code 34 = .ok (.iconst 1, 1) := by decide +kernel
theorem twd_fi_endOfLine_35 : decode prog_4_method_7_code 35 = .ok (.isub, 1) := by decide +kernel
theorem twd_fi_endOfLine_36 : decode prog_4_method_7_code 36 = .ok (.iaload, 1) := by decide +kernel
theorem twd_fi_endOfLine_37 : decode prog_4_method_7_code 37 = .ok (.iadd, 1) := by decide +kernel
theorem twd_fi_endOfLine_38 : decode prog_4_method_7_code 38 = .ok (.istore 6, 2) := by decide +kernel
theorem twd_fi_endOfLine_40 : decode prog_4_method_7_code 40 = .ok (.aload_n 0, 1) := by decide +kernel
theorem twd_fi_endOfLine_41 : decode prog_4_method_7_code 41 = .ok (.getfield 26, 3) := by decide +kernel
theorem twd_fi_endOfLine_44 : decode prog_4_method_7_code 44 = .ok (.iload 8, 2) := by decide +kernel
theorem twd_fi_endOfLine_46 : decode prog_4_method_7_code 46 = .ok (.iconst 1, 1) := by decide +kernel
theorem twd_fi_endOfLine_47 : decode prog_4_method_7_code 47 = .ok (.isub, 1) := by decide +kernel
theorem twd_fi_endOfLine_48 : decode prog_4_method_7_code 48 = .ok (.iaload, 1) := by decide +kernel
theorem twd_fi_endOfLine_49 : decode prog_4_method_7_code 49 = .ok (.iconst 1, 1) := by decide +kernel
theorem twd_fi_endOfLine_50 : decode prog_4_method_7_code 50 = .ok (.if_icmp .ne 8, 3) := by decide +kernel
theorem twd_fi_endOfLine_53 : decode prog_4_method_7_code 53 = .ok (.iload 7, 2) := by decide +kernel
theorem twd_fi_endOfLine_55 : decode prog_4_method_7_code 55 = .ok (.goto 5, 3) := by decide +kernel
theorem twd_fi_endOfLine_58 : decode prog_4_method_7_code 58 = .ok (.iload 6, 2) := by decide +kernel
theorem twd_fi_endOfLine_60 : decode prog_4_method_7_code 60 = .ok (.istore 7, 2) := by decide +kernel
theorem twd_fi_endOfLine_62 : decode prog_4_method_7_code 62 = .ok (.iload 8, 2) := by decide +kernel
theorem twd_fi_endOfLine_64 : decode prog_4_method_7_code 64 = .ok (.aload_n 1, 1) := by decide +kernel
theorem twd_fi_endOfLine_65 : decode prog_4_method_7_code 65 = .ok (.getfield 36, 3) := by decide +kernel
theorem twd_fi_endOfLine_68 : decode prog_4_method_7_code 68 = .ok (.if_icmp .ne 7, 3) := by decide +kernel
theorem twd_fi_endOfLine_71 : decode prog_4_method_7_code 71 = .ok (.iconst 1, 1) := by decide +kernel
theorem twd_fi_endOfLine_72 : decode prog_4_method_7_code 72 = .ok (.goto 4, 3) := by decide +kernel
theorem twd_fi_endOfLine_75 : decode prog_4_method_7_code 75 = .ok (.iconst 0, 1) := by decide +kernel
theorem twd_fi_endOfLine_76 : decode prog_4_method_7_code 76 = .ok (.istore 9, 2) := by decide +kernel
theorem twd_fi_endOfLine_78 : decode prog_4_method_7_code 78 = .ok (.iload 9, 2) := by decide +kernel
theorem twd_fi_endOfLine_80 : decode prog_4_method_7_code 80 = .ok (.ifCond .ne 15, 3) := by decide +kernel
theorem twd_fi_endOfLine_83 : decode prog_4_method_7_code 83 = .ok (.aload_n 1, 1) := by decide +kernel
theorem twd_fi_endOfLine_84 : decode prog_4_method_7_code 84 = .ok (.getfield 48, 3) := by decide +kernel
theorem twd_fi_endOfLine_87 : decode prog_4_method_7_code 87 = .ok (.iload 8, 2) := by decide +kernel
theorem twd_fi_endOfLine_89 : decode prog_4_method_7_code 89 = .ok (.iaload, 1) := by decide +kernel
theorem twd_fi_endOfLine_90 : decode prog_4_method_7_code 90 = .ok (.bipush 8, 2) := by decide +kernel
theorem twd_fi_endOfLine_92 : decode prog_4_method_7_code 92 = .ok (.if_icmp .eq 7, 3) := by decide +kernel
theorem twd_fi_endOfLine_95 : decode prog_4_method_7_code 95 = .ok (.iconst 1, 1) := by decide +kernel
theorem twd_fi_endOfLine_96 : decode prog_4_method_7_code 96 = .ok (.goto 4, 3) := by decide +kernel
theorem twd_fi_endOfLine_99 : decode prog_4_method_7_code 99 = .ok (.iconst 0, 1) := by decide +kernel
theorem twd_fi_endOfLine_100 : decode prog_4_method_7_code 100 = .ok (.istore 10, 2) := by decide +kernel
theorem twd_fi_endOfLine_102 : decode prog_4_method_7_code 102 = .ok (.iload 7, 2) := by decide +kernel
theorem twd_fi_endOfLine_104 : decode prog_4_method_7_code 104 = .ok (.iload_n 3, 1) := by decide +kernel
theorem twd_fi_endOfLine_105 : decode prog_4_method_7_code 105 = .ok (.if_icmp .gt 7, 3) := by decide +kernel
theorem twd_fi_endOfLine_108 : decode prog_4_method_7_code 108 = .ok (.iconst 1, 1) := by decide +kernel
theorem twd_fi_endOfLine_109 : decode prog_4_method_7_code 109 = .ok (.goto 4, 3) := by decide +kernel
theorem twd_fi_endOfLine_112 : decode prog_4_method_7_code 112 = .ok (.iconst 0, 1) := by decide +kernel
theorem twd_fi_endOfLine_113 : decode prog_4_method_7_code 113 = .ok (.istore 11, 2) := by decide +kernel
theorem twd_fi_endOfLine_115 : decode prog_4_method_7_code 115 = .ok (.iload 10, 2) := by decide +kernel
theorem twd_fi_endOfLine_117 : decode prog_4_method_7_code 117 = .ok (.ifCond .eq 18, 3) := by decide +kernel
theorem twd_fi_endOfLine_120 : decode prog_4_method_7_code 120 = .ok (.iload 11, 2) := by decide +kernel
theorem twd_fi_endOfLine_122 : decode prog_4_method_7_code 122 = .ok (.ifCond .ne 9, 3) := by decide +kernel
theorem twd_fi_endOfLine_125 : decode prog_4_method_7_code 125 = .ok (.iload 5, 2) := by decide +kernel
theorem twd_fi_endOfLine_127 : decode prog_4_method_7_code 127 = .ok (.iconst (-1), 1) := by decide +kernel
theorem twd_fi_endOfLine_128 : decode prog_4_method_7_code 128 = .ok (.if_icmp .ne 7, 3) := by decide +kernel
theorem twd_fi_endOfLine_131 : decode prog_4_method_7_code 131 = .ok (.iload 8, 2) := by decide +kernel
theorem twd_fi_endOfLine_133 : decode prog_4_method_7_code 133 = .ok (.istore 5, 2) := by decide +kernel
theorem twd_fi_endOfLine_135 : decode prog_4_method_7_code 135 = .ok (.iload 11, 2) := by decide +kernel
theorem twd_fi_endOfLine_137 : decode prog_4_method_7_code 137 = .ok (.ifCond .eq 22, 3) := by decide +kernel
theorem twd_fi_endOfLine_140 : decode prog_4_method_7_code 140 = .ok (.iload 9, 2) := by decide +kernel
theorem twd_fi_endOfLine_142 : decode prog_4_method_7_code 142 = .ok (.ifCond .ne 13, 3) := by decide +kernel
theorem twd_fi_endOfLine_145 : decode prog_4_method_7_code 145 = .ok (.aload_n 0, 1) := by decide +kernel
theorem twd_fi_endOfLine_146 : decode prog_4_method_7_code 146 = .ok (.getfield 9, 3) := by decide +kernel
theorem twd_fi_endOfLine_149 : decode prog_4_method_7_code 149 = .ok (.iload 8, 2) := by decide +kernel
theorem twd_fi_endOfLine_151 : decode prog_4_method_7_code 151 = .ok (.baload, 1) := by decide +kernel
theorem twd_fi_endOfLine_152 : decode prog_4_method_7_code 152 = .ok (.ifCond .eq 7, 3) := by decide +kernel
theorem twd_fi_endOfLine_155 : decode prog_4_method_7_code 155 = .ok (.iload 8, 2) := by decide +kernel
theorem twd_fi_endOfLine_157 : decode prog_4_method_7_code 157 = .ok (.istore 4, 2) := by decide +kernel
theorem twd_fi_endOfLine_159 : decode prog_4_method_7_code 159 = .ok (.iinc 8 1, 3) := by decide +kernel
theorem twd_fi_endOfLine_162 : decode prog_4_method_7_code 162 = .ok (.goto (-145), 3) := by decide +kernel
theorem twd_fi_endOfLine_165 : decode prog_4_method_7_code 165 = .ok (.iload 4, 2) := by decide +kernel
theorem twd_fi_endOfLine_167 : decode prog_4_method_7_code 167 = .ok (.iconst (-1), 1) := by decide +kernel
theorem twd_fi_endOfLine_168 : decode prog_4_method_7_code 168 = .ok (.if_icmp .ne 8, 3) := by decide +kernel
theorem twd_fi_endOfLine_171 : decode prog_4_method_7_code 171 = .ok (.iload 5, 2) := by decide +kernel
theorem twd_fi_endOfLine_173 : decode prog_4_method_7_code 173 = .ok (.goto 5, 3) := by decide +kernel
theorem twd_fi_endOfLine_176 : decode prog_4_method_7_code 176 = .ok (.iload 4, 2) := by decide +kernel
theorem twd_fi_endOfLine_178 : decode prog_4_method_7_code 178 = .ok (.ireturn, 1) := by decide +kernel
theorem twk_fi_endOfLine : tw_dc twy_fi_endOfLine 3 := ⟨by decide +kernel, by decide +kernel, by decide +kernel⟩
theorem twd_fi_extentOf_0 : decode prog_4_method_8_code 0 = .ok (.iconst 0, 1) := by decide +kernel
theorem twd_fi_extentOf_1 : decode prog_4_method_8_code 1 = .ok (.istore 4, 2) := by decide +kernel
theorem twd_fi_extentOf_3 : decode prog_4_method_8_code 3 = .ok (.iconst 0, 1) := by decide +kernel
theorem twd_fi_extentOf_4 : decode prog_4_method_8_code 4 = .ok (.istore 5, 2) := by decide +kernel
theorem twd_fi_extentOf_6 : decode prog_4_method_8_code 6 = .ok (.iload_n 2, 1) := by decide +kernel
theorem twd_fi_extentOf_7 : decode prog_4_method_8_code 7 = .ok (.istore 6, 2) := by decide +kernel
theorem twd_fi_extentOf_9 : decode prog_4_method_8_code 9 = .ok (.iload 6, 2) := by decide +kernel
theorem twd_fi_extentOf_11 : decode prog_4_method_8_code 11 = .ok (.iload_n 3, 1) := by decide +kernel
theorem twd_fi_extentOf_12 : decode prog_4_method_8_code 12 = .ok (.if_icmp .ge 41, 3) := by decide +kernel
theorem twd_fi_extentOf_15 : decode prog_4_method_8_code 15 = .ok (.iload 4, 2) := by decide +kernel
theorem twd_fi_extentOf_17 : decode prog_4_method_8_code 17 = .ok (.aload_n 1, 1) := by decide +kernel
theorem twd_fi_extentOf_18 : decode prog_4_method_8_code 18 = .ok (.getfield 56, 3) := by decide +kernel
theorem twd_fi_extentOf_21 : decode prog_4_method_8_code 21 = .ok (.iload 6, 2) := by decide +kernel
theorem twd_fi_extentOf_23 : decode prog_4_method_8_code 23 = .ok (.iaload, 1) := by decide +kernel
theorem twd_fi_extentOf_24 : decode prog_4_method_8_code 24 = .ok (.iadd, 1) := by decide +kernel
theorem twd_fi_extentOf_25 : decode prog_4_method_8_code 25 = .ok (.istore 4, 2) := by decide +kernel
theorem twd_fi_extentOf_27 : decode prog_4_method_8_code 27 = .ok (.aload_n 0, 1) := by decide +kernel
theorem twd_fi_extentOf_28 : decode prog_4_method_8_code 28 = .ok (.getfield 26, 3) := by decide +kernel
theorem twd_fi_extentOf_31 : decode prog_4_method_8_code 31 = .ok (.iload 6, 2) := by decide +kernel
theorem twd_fi_extentOf_33 : decode prog_4_method_8_code 33 = .ok (.iaload, 1) := by decide +kernel
theorem twd_fi_extentOf_34 : decode prog_4_method_8_code 34 = .ok (.iconst 1, 1) := by decide +kernel
theorem twd_fi_extentOf_35 : decode prog_4_method_8_code 35 = .ok (.if_icmp .ne 8, 3) := by decide +kernel
theorem twd_fi_extentOf_38 : decode prog_4_method_8_code 38 = .ok (.iload 5, 2) := by decide +kernel
theorem twd_fi_extentOf_40 : decode prog_4_method_8_code 40 = .ok (.goto 5, 3) := by decide +kernel
theorem twd_fi_extentOf_43 : decode prog_4_method_8_code 43 = .ok (.iload 4, 2) := by decide +kernel
theorem twd_fi_extentOf_45 : decode prog_4_method_8_code 45 = .ok (.istore 5, 2) := by decide +kernel
theorem twd_fi_extentOf_47 : decode prog_4_method_8_code 47 = .ok (.iinc 6 1, 3) := by decide +kernel
theorem twd_fi_extentOf_50 : decode prog_4_method_8_code 50 = .ok (.goto (-41), 3) := by decide +kernel
theorem twd_fi_extentOf_53 : decode prog_4_method_8_code 53 = .ok (.iload 5, 2) := by decide +kernel
theorem twd_fi_extentOf_55 : decode prog_4_method_8_code 55 = .ok (.ireturn, 1) := by decide +kernel
theorem twk_fi_extentOf : tw_dc twy_fi_extentOf 3 := ⟨by decide +kernel, by decide +kernel, by decide +kernel⟩
theorem twd_fi_fill_0 : decode prog_4_method_3_code 0 = .ok (.aload_n 0, 1) := by decide +kernel
theorem twd_fi_fill_1 : decode prog_4_method_3_code 1 = .ok (.aload_n 1, 1) := by decide +kernel
theorem twd_fi_fill_2 : decode prog_4_method_3_code 2 = .ok (.invokevirtual 29, 3) := by decide +kernel
theorem twd_fi_fill_5 : decode prog_4_method_3_code 5 = .ok (.aload_n 0, 1) := by decide +kernel
theorem twd_fi_fill_6 : decode prog_4_method_3_code 6 = .ok (.aload_n 1, 1) := by decide +kernel
theorem twd_fi_fill_7 : decode prog_4_method_3_code 7 = .ok (.invokevirtual 33, 3) := by decide +kernel
theorem twd_fi_fill_10 : decode prog_4_method_3_code 10 = .ok (.aload_n 0, 1) := by decide +kernel
theorem twd_fi_fill_11 : decode prog_4_method_3_code 11 = .ok (.iconst 0, 1) := by decide +kernel
theorem twd_fi_fill_12 : decode prog_4_method_3_code 12 = .ok (.putfield 22, 3) := by decide +kernel
theorem twd_fi_fill_15 : decode prog_4_method_3_code 15 = .ok (.aload_n 0, 1) := by decide +kernel
theorem twd_fi_fill_16 : decode prog_4_method_3_code 16 = .ok (.getfield 15, 3) := by decide +kernel
theorem twd_fi_fill_19 : decode prog_4_method_3_code 19 = .ok (.iconst 0, 1) := by decide +kernel
theorem twd_fi_fill_20 : decode prog_4_method_3_code 20 = .ok (.iconst 0, 1) := by decide +kernel
theorem twd_fi_fill_21 : decode prog_4_method_3_code 21 = .ok (.iastore, 1) := by decide +kernel
theorem twd_fi_fill_22 : decode prog_4_method_3_code 22 = .ok (.iconst 0, 1) := by decide +kernel
theorem twd_fi_fill_23 : decode prog_4_method_3_code 23 = .ok (.istore_n 3, 1) := by decide +kernel
theorem twd_fi_fill_24 : decode prog_4_method_3_code 24 = .ok (.iload_n 3, 1) := by decide +kernel
theorem twd_fi_fill_25 : decode prog_4_method_3_code 25 = .ok (.bipush 64, 2) := by decide +kernel
theorem twd_fi_fill_27 : decode prog_4_method_3_code 27 = .ok (.if_icmp .ge 72, 3) := by decide +kernel
theorem twd_fi_fill_30 : decode prog_4_method_3_code 30 = .ok (.aload_n 0, 1) := by decide +kernel
theorem twd_fi_fill_31 : decode prog_4_method_3_code 31 = .ok (.getfield 15, 3) := by decide +kernel
theorem twd_fi_fill_34 : decode prog_4_method_3_code 34 = .ok (.iload_n 3, 1) := by decide +kernel
theorem twd_fi_fill_35 : decode prog_4_method_3_code 35 = .ok (.iaload, 1) := by decide +kernel
theorem twd_fi_fill_36 : decode prog_4_method_3_code 36 = .ok (.aload_n 1, 1) := by decide +kernel
theorem twd_fi_fill_37 : decode prog_4_method_3_code 37 = .ok (.getfield 36, 3) := by decide +kernel
theorem twd_fi_fill_40 : decode prog_4_method_3_code 40 = .ok (.if_icmp .ge 59, 3) := by decide +kernel
theorem twd_fi_fill_43 : decode prog_4_method_3_code 43 = .ok (.aload_n 0, 1) := by decide +kernel
theorem twd_fi_fill_44 : decode prog_4_method_3_code 44 = .ok (.aload_n 1, 1) := by decide +kernel
theorem twd_fi_fill_45 : decode prog_4_method_3_code 45 = .ok (.aload_n 0, 1) := by decide +kernel
theorem twd_fi_fill_46 : decode prog_4_method_3_code 46 = .ok (.getfield 15, 3) := by decide +kernel
theorem twd_fi_fill_49 : decode prog_4_method_3_code 49 = .ok (.iload_n 3, 1) := by decide +kernel
theorem twd_fi_fill_50 : decode prog_4_method_3_code 50 = .ok (.iaload, 1) := by decide +kernel
theorem twd_fi_fill_51 : decode prog_4_method_3_code 51 = .ok (.iload_n 2, 1) := by decide +kernel
theorem twd_fi_fill_52 : decode prog_4_method_3_code 52 = .ok (.invokevirtual 41, 3) := by decide +kernel
theorem twd_fi_fill_55 : decode prog_4_method_3_code 55 = .ok (.istore 4, 2) := by decide +kernel
theorem twd_fi_fill_57 : decode prog_4_method_3_code 57 = .ok (.aload_n 0, 1) := by decide +kernel
theorem twd_fi_fill_58 : decode prog_4_method_3_code 58 = .ok (.getfield 19, 3) := by decide +kernel
theorem twd_fi_fill_61 : decode prog_4_method_3_code 61 = .ok (.iload_n 3, 1) := by decide +kernel
theorem twd_fi_fill_62 : decode prog_4_method_3_code 62 = .ok (.aload_n 0, 1) := by decide +kernel
theorem twd_fi_fill_63 : decode prog_4_method_3_code 63 = .ok (.aload_n 1, 1) := by decide +kernel
theorem twd_fi_fill_64 : decode prog_4_method_3_code 64 = .ok (.aload_n 0, 1) := by decide +kernel
theorem twd_fi_fill_65 : decode prog_4_method_3_code 65 = .ok (.getfield 15, 3) := by decide +kernel
theorem twd_fi_fill_68 : decode prog_4_method_3_code 68 = .ok (.iload_n 3, 1) := by decide +kernel
theorem twd_fi_fill_69 : decode prog_4_method_3_code 69 = .ok (.iaload, 1) := by decide +kernel
theorem twd_fi_fill_70 : decode prog_4_method_3_code 70 = .ok (.iload 4, 2) := by decide +kernel
theorem twd_fi_fill_72 : decode prog_4_method_3_code 72 = .ok (.invokevirtual 45, 3) := by decide +kernel
theorem twd_fi_fill_75 : decode prog_4_method_3_code 75 = .ok (.iastore, 1) := by decide +kernel
theorem twd_fi_fill_76 : decode prog_4_method_3_code 76 = .ok (.aload_n 0, 1) := by decide +kernel
theorem twd_fi_fill_77 : decode prog_4_method_3_code 77 = .ok (.getfield 15, 3) := by decide +kernel
theorem twd_fi_fill_80 : decode prog_4_method_3_code 80 = .ok (.iload_n 3, 1) := by decide +kernel
theorem twd_fi_fill_81 : decode prog_4_method_3_code 81 = .ok (.iconst 1, 1) := by decide +kernel
theorem twd_fi_fill_82 : decode prog_4_method_3_code 82 = .ok (.iadd, 1) := by decide +kernel
theorem twd_fi_fill_83 : decode prog_4_method_3_code 83 = .ok (.iload 4, 2) := by decide +kernel
theorem twd_fi_fill_85 : decode prog_4_method_3_code 85 = .ok (.iastore, 1) := by decide +kernel
theorem twd_fi_fill_86 : decode prog_4_method_3_code 86 = .ok (.aload_n 0, 1) := by decide +kernel
theorem twd_fi_fill_87 : decode prog_4_method_3_code 87 = .ok (.iload_n 3, 1) := by decide +kernel
theorem twd_fi_fill_88 : decode prog_4_method_3_code 88 = .ok (.iconst 1, 1) := by decide +kernel
theorem twd_fi_fill_89 : decode prog_4_method_3_code 89 = .ok (.iadd, 1) := by decide +kernel
theorem twd_fi_fill_90 : decode prog_4_method_3_code 90 = .ok (.putfield 22, 3) := by decide +kernel
theorem twd_fi_fill_93 : decode prog_4_method_3_code 93 = .ok (.iinc 3 1, 3) := by decide +kernel
theorem twd_fi_fill_96 : decode prog_4_method_3_code 96 = .ok (.goto (-72), 3) := by decide +kernel
theorem twd_fi_fill_99 : decode prog_4_method_3_code 99 = .ok (.return_, 1) := by decide +kernel
theorem twk_fi_fill : tw_dc twy_fi_fill 2 := ⟨by decide +kernel, by decide +kernel, by decide +kernel⟩
theorem twd_sh_setLevels_0 : decode prog_9_method_3_code 0 = .ok (.iconst 1, 1) := by decide +kernel
theorem twd_sh_setLevels_1 : decode prog_9_method_3_code 1 = .ok (.istore 5, 2) := by decide +kernel
theorem twd_sh_setLevels_3 : decode prog_9_method_3_code 3 = .ok (.iload 4, 2) := by decide +kernel
theorem twd_sh_setLevels_5 : decode prog_9_method_3_code 5 = .ok (.iconst 1, 1) := by decide +kernel
theorem twd_sh_setLevels_6 : decode prog_9_method_3_code 6 = .ok (.isub, 1) := by decide +kernel
theorem twd_sh_setLevels_7 : decode prog_9_method_3_code 7 = .ok (.istore 6, 2) := by decide +kernel
theorem twd_sh_setLevels_9 : decode prog_9_method_3_code 9 = .ok (.iload 6, 2) := by decide +kernel
theorem twd_sh_setLevels_11 : decode prog_9_method_3_code 11 = .ok (.iload_n 3, 1) := by decide +kernel
theorem twd_sh_setLevels_12 : decode prog_9_method_3_code 12 = .ok (.if_icmp .lt 98, 3) := by decide +kernel
theorem twd_sh_setLevels_15 : decode prog_9_method_3_code 15 = .ok (.aload_n 1, 1) := by decide +kernel
theorem twd_sh_setLevels_16 : decode prog_9_method_3_code 16 = .ok (.getfield 35, 3) := by decide +kernel
theorem twd_sh_setLevels_19 : decode prog_9_method_3_code 19 = .ok (.iload 6, 2) := by decide +kernel
theorem twd_sh_setLevels_21 : decode prog_9_method_3_code 21 = .ok (.iaload, 1) := by decide +kernel
theorem twd_sh_setLevels_22 : decode prog_9_method_3_code 22 = .ok (.istore 7, 2) := by decide +kernel
theorem twd_sh_setLevels_24 : decode prog_9_method_3_code 24 = .ok (.iload 7, 2) := by decide +kernel
theorem twd_sh_setLevels_26 : decode prog_9_method_3_code 26 = .ok (.bipush 9, 2) := by decide +kernel
theorem twd_sh_setLevels_28 : decode prog_9_method_3_code 28 = .ok (.if_icmp .eq 19, 3) := by decide +kernel
theorem twd_sh_setLevels_31 : decode prog_9_method_3_code 31 = .ok (.iload 7, 2) := by decide +kernel
theorem twd_sh_setLevels_33 : decode prog_9_method_3_code 33 = .ok (.invokestatic 40, 3) := by decide +kernel
theorem twd_sh_setLevels_36 : decode prog_9_method_3_code 36 = .ok (.ifCond .ne 11, 3) := by decide +kernel
theorem twd_sh_setLevels_39 : decode prog_9_method_3_code 39 = .ok (.iload 7, 2) := by decide +kernel
theorem twd_sh_setLevels_41 : decode prog_9_method_3_code 41 = .ok (.invokestatic 44, 3) := by decide +kernel
theorem twd_sh_setLevels_44 : decode prog_9_method_3_code 44 = .ok (.ifCond .eq 7, 3) := by decide +kernel
theorem twd_sh_setLevels_47 : decode prog_9_method_3_code 47 = .ok (.iconst 1, 1) := by decide +kernel
theorem twd_sh_setLevels_48 : decode prog_9_method_3_code 48 = .ok (.goto 4, 3) := by decide +kernel
theorem twd_sh_setLevels_51 : decode prog_9_method_3_code 51 = .ok (.iconst 0, 1) := by decide +kernel
theorem twd_sh_setLevels_52 : decode prog_9_method_3_code 52 = .ok (.istore 8, 2) := by decide +kernel
theorem twd_sh_setLevels_54 : decode prog_9_method_3_code 54 = .ok (.iload 7, 2) := by decide +kernel
theorem twd_sh_setLevels_56 : decode prog_9_method_3_code 56 = .ok (.bipush 10, 2) := by decide +kernel
theorem twd_sh_setLevels_58 : decode prog_9_method_3_code 58 = .ok (.if_icmp .eq 13, 3) := by decide +kernel
theorem twd_sh_setLevels_61 : decode prog_9_method_3_code 61 = .ok (.iload 5, 2) := by decide +kernel
theorem twd_sh_setLevels_63 : decode prog_9_method_3_code 63 = .ok (.ifCond .eq 12, 3) := by decide +kernel
theorem twd_sh_setLevels_66 : decode prog_9_method_3_code 66 = .ok (.iload 8, 2) := by decide +kernel
theorem twd_sh_setLevels_68 : decode prog_9_method_3_code 68 = .ok (.ifCond .eq 7, 3) := by decide +kernel
theorem twd_sh_setLevels_71 : decode prog_9_method_3_code 71 = .ok (.iconst 1, 1) := by decide +kernel
theorem twd_sh_setLevels_72 : decode prog_9_method_3_code 72 = .ok (.goto 4, 3) := by decide +kernel
theorem twd_sh_setLevels_75 : decode prog_9_method_3_code 75 = .ok (.iconst 0, 1) := by decide +kernel
theorem twd_sh_setLevels_76 : decode prog_9_method_3_code 76 = .ok (.istore 5, 2) := by decide +kernel
theorem twd_sh_setLevels_78 : decode prog_9_method_3_code 78 = .ok (.aload_n 0, 1) := by decide +kernel
theorem twd_sh_setLevels_79 : decode prog_9_method_3_code 79 = .ok (.getfield 9, 3) := by decide +kernel
theorem twd_sh_setLevels_82 : decode prog_9_method_3_code 82 = .ok (.iload 6, 2) := by decide +kernel
theorem twd_sh_setLevels_84 : decode prog_9_method_3_code 84 = .ok (.iload 5, 2) := by decide +kernel
theorem twd_sh_setLevels_86 : decode prog_9_method_3_code 86 = .ok (.ifCond .eq 10, 3) := by decide +kernel
theorem twd_sh_setLevels_89 : decode prog_9_method_3_code 89 = .ok (.aload_n 2, 1) := by decide +kernel
theorem twd_sh_setLevels_90 : decode prog_9_method_3_code 90 = .ok (.getfield 47, 3) := by decide +kernel
theorem twd_sh_setLevels_93 : decode prog_9_method_3_code 93 = .ok (.goto 10, 3) := by decide +kernel
theorem twd_sh_setLevels_96 : decode prog_9_method_3_code 96 = .ok (.aload_n 2, 1) := by decide +kernel
theorem twd_sh_setLevels_97 : decode prog_9_method_3_code 97 = .ok (.getfield 52, 3) := by decide +kernel
theorem twd_sh_setLevels_100 : decode prog_9_method_3_code 100 = .ok (.iload 6, 2) := by decide +kernel
theorem twd_sh_setLevels_102 : decode prog_9_method_3_code 102 = .ok (.iaload, 1) := by decide +kernel
theorem twd_sh_setLevels_103 : decode prog_9_method_3_code 103 = .ok (.iastore, 1) := by decide +kernel
theorem twd_sh_setLevels_104 : decode prog_9_method_3_code 104 = .ok (.iinc 6 (-1), 3) := by decide +kernel
theorem twd_sh_setLevels_107 : decode prog_9_method_3_code 107 = .ok (.goto (-98), 3) := by decide +kernel
theorem twd_sh_setLevels_110 : decode prog_9_method_3_code 110 = .ok (.return_, 1) := by decide +kernel
theorem twk_sh_setLevels : tw_dc twy_sh_setLevels 4 := ⟨by decide +kernel, by decide +kernel, by decide +kernel⟩
theorem twd_sh_turn_0 : decode prog_9_method_6_code 0 = .ok (.iload_n 2, 1) := by decide +kernel
theorem twd_sh_turn_1 : decode prog_9_method_6_code 1 = .ok (.iload_n 1, 1) := by decide +kernel
theorem twd_sh_turn_2 : decode prog_9_method_6_code 2 = .ok (.isub, 1) := by decide +kernel
theorem twd_sh_turn_3 : decode prog_9_method_6_code 3 = .ok (.iconst 1, 1) := by decide +kernel
theorem twd_sh_turn_4 : decode prog_9_method_6_code 4 = .ok (.iadd, 1) := by decide +kernel
theorem twd_sh_turn_5 : decode prog_9_method_6_code 5 = .ok (.iconst 2, 1) := by decide +kernel
theorem twd_sh_turn_6 : decode prog_9_method_6_code 6 = .ok (.idiv, 1) := by decide +kernel
theorem twd_sh_turn_7 : decode prog_9_method_6_code 7 = .ok (.istore_n 3, 1) := by decide +kernel
theorem twd_sh_turn_8 : decode prog_9_method_6_code 8 = .ok (.iconst 0, 1) := by decide +kernel
theorem twd_sh_turn_9 : decode prog_9_method_6_code 9 = .ok (.istore 4, 2) := by decide +kernel
theorem twd_sh_turn_11 : decode prog_9_method_6_code 11 = .ok (.iload 4, 2) := by decide +kernel
theorem twd_sh_turn_13 : decode prog_9_method_6_code 13 = .ok (.iload_n 3, 1) := by decide +kernel
theorem twd_sh_turn_14 : decode prog_9_method_6_code 14 = .ok (.if_icmp .ge 49, 3) := by decide +kernel
theorem twd_sh_turn_17 : decode prog_9_method_6_code 17 = .ok (.aload_n 0, 1) := by decide +kernel
theorem twd_sh_turn_18 : decode prog_9_method_6_code 18 = .ok (.getfield 15, 3) := by decide +kernel
theorem twd_sh_turn_21 : decode prog_9_method_6_code 21 = .ok (.iload_n 1, 1) := by decide +kernel
theorem twd_sh_turn_22 : decode prog_9_method_6_code 22 = .ok (.iload 4, 2) := by decide +kernel
theorem twd_sh_turn_24 : decode prog_9_method_6_code 24 = .ok (.iadd, 1) := by decide +kernel
theorem twd_sh_turn_25 : decode prog_9_method_6_code 25 = .ok (.iaload, 1) := by decide +kernel
theorem twd_sh_turn_26 : decode prog_9_method_6_code 26 = .ok (.istore 5, 2) := by decide +kernel
theorem twd_sh_turn_28 : decode prog_9_method_6_code 28 = .ok (.aload_n 0, 1) := by decide +kernel
theorem twd_sh_turn_29 : decode prog_9_method_6_code 29 = .ok (.getfield 15, 3) := by decide +kernel
theorem twd_sh_turn_32 : decode prog_9_method_6_code 32 = .ok (.iload_n 1, 1) := by decide +kernel
theorem twd_sh_turn_33 : decode prog_9_method_6_code 33 = .ok (.iload 4, 2) := by decide +kernel
theorem twd_sh_turn_35 : decode prog_9_method_6_code 35 = .ok (.iadd, 1) := by decide +kernel
theorem twd_sh_turn_36 : decode prog_9_method_6_code 36 = .ok (.aload_n 0, 1) := by decide +kernel
theorem twd_sh_turn_37 : decode prog_9_method_6_code 37 = .ok (.getfield 15, 3) := by decide +kernel
theorem twd_sh_turn_40 : decode prog_9_method_6_code 40 = .ok (.iload_n 2, 1) := by decide +kernel
theorem twd_sh_turn_41 : decode prog_9_method_6_code 41 = .ok (.iload 4, 2) := by decide +kernel
theorem twd_sh_turn_43 : decode prog_9_method_6_code 43 = .ok (.isub, 1) := by decide +kernel
theorem twd_sh_turn_44 : decode prog_9_method_6_code 44 = .ok (.iaload, 1) := by decide +kernel
theorem twd_sh_turn_45 : decode prog_9_method_6_code 45 = .ok (.iastore, 1) := by decide +kernel
theorem twd_sh_turn_46 : decode prog_9_method_6_code 46 = .ok (.aload_n 0, 1) := by decide +kernel
theorem twd_sh_turn_47 : decode prog_9_method_6_code 47 = .ok (.getfield 15, 3) := by decide +kernel
theorem twd_sh_turn_50 : decode prog_9_method_6_code 50 = .ok (.iload_n 2, 1) := by decide +kernel
theorem twd_sh_turn_51 : decode prog_9_method_6_code 51 = .ok (.iload 4, 2) := by decide +kernel
theorem twd_sh_turn_53 : decode prog_9_method_6_code 53 = .ok (.isub, 1) := by decide +kernel
theorem twd_sh_turn_54 : decode prog_9_method_6_code 54 = .ok (.iload 5, 2) := by decide +kernel
theorem twd_sh_turn_56 : decode prog_9_method_6_code 56 = .ok (.iastore, 1) := by decide +kernel
theorem twd_sh_turn_57 : decode prog_9_method_6_code 57 = .ok (.iinc 4 1, 3) := by decide +kernel
theorem twd_sh_turn_60 : decode prog_9_method_6_code 60 = .ok (.goto (-49), 3) := by decide +kernel
theorem twd_sh_turn_63 : decode prog_9_method_6_code 63 = .ok (.return_, 1) := by decide +kernel
theorem twk_sh_turn : tw_dc twy_sh_turn 2 := ⟨by decide +kernel, by decide +kernel, by decide +kernel⟩
theorem twd_sh_turnRows_0 : decode prog_9_method_5_code 0 = .ok (.iload_n 1, 1) := by decide +kernel
theorem twd_sh_turnRows_1 : decode prog_9_method_5_code 1 = .ok (.istore 4, 2) := by decide +kernel
theorem twd_sh_turnRows_3 : decode prog_9_method_5_code 3 = .ok (.iload_n 1, 1) := by decide +kernel
theorem twd_sh_turnRows_4 : decode prog_9_method_5_code 4 = .ok (.istore 5, 2) := by decide +kernel
theorem twd_sh_turnRows_6 : decode prog_9_method_5_code 6 = .ok (.iload 5, 2) := by decide +kernel
theorem twd_sh_turnRows_8 : decode prog_9_method_5_code 8 = .ok (.iload_n 2, 1) := by decide +kernel
theorem twd_sh_turnRows_9 : decode prog_9_method_5_code 9 = .ok (.if_icmp .gt 47, 3) := by decide +kernel
theorem twd_sh_turnRows_12 : decode prog_9_method_5_code 12 = .ok (.iload 5, 2) := by decide +kernel
theorem twd_sh_turnRows_14 : decode prog_9_method_5_code 14 = .ok (.iload_n 2, 1) := by decide +kernel
theorem twd_sh_turnRows_15 : decode prog_9_method_5_code 15 = .ok (.if_icmp .eq 19, 3) := by decide +kernel
theorem twd_sh_turnRows_18 : decode prog_9_method_5_code 18 = .ok (.aload_n 0, 1) := by decide +kernel
theorem twd_sh_turnRows_19 : decode prog_9_method_5_code 19 = .ok (.getfield 9, 3) := by decide +kernel
theorem twd_sh_turnRows_22 : decode prog_9_method_5_code 22 = .ok (.aload_n 0, 1) := by decide +kernel
theorem twd_sh_turnRows_23 : decode prog_9_method_5_code 23 = .ok (.getfield 15, 3) := by decide +kernel
theorem twd_sh_turnRows_26 : decode prog_9_method_5_code 26 = .ok (.iload 5, 2) := by decide +kernel
theorem twd_sh_turnRows_28 : decode prog_9_method_5_code 28 = .ok (.iaload, 1) := by decide +kernel
theorem twd_sh_turnRows_29 : decode prog_9_method_5_code 29 = .ok (.iaload, 1) := by decide +kernel
theorem twd_sh_turnRows_30 : decode prog_9_method_5_code 30 = .ok (.iload_n 3, 1) := by decide +kernel
theorem twd_sh_turnRows_31 : decode prog_9_method_5_code 31 = .ok (.if_icmp .ge 19, 3) := by decide +kernel
theorem twd_sh_turnRows_34 : decode prog_9_method_5_code 34 = .ok (.aload_n 0, 1) := by decide +kernel
theorem twd_sh_turnRows_35 : decode prog_9_method_5_code 35 = .ok (.iload 4, 2) := by decide +kernel
theorem twd_sh_turnRows_37 : decode prog_9_method_5_code 37 = .ok (.iload 5, 2) := by decide +kernel
theorem twd_sh_turnRows_39 : decode prog_9_method_5_code 39 = .ok (.iconst 1, 1) := by decide +kernel
theorem twd_sh_turnRows_40 : decode prog_9_method_5_code 40 = .ok (.isub, 1) := by decide +kernel
theorem twd_sh_turnRows_41 : decode prog_9_method_5_code 41 = .ok (.invokevirtual 65, 3) := by decide +kernel
theorem twd_sh_turnRows_44 : decode prog_9_method_5_code 44 = .ok (.iload 5, 2) := by decide +kernel
theorem twd_sh_turnRows_46 : decode prog_9_method_5_code 46 = .ok (.iconst 1, 1) := by decide +kernel
theorem twd_sh_turnRows_47 : decode prog_9_method_5_code 47 = .ok (.iadd, 1) := by decide +kernel
theorem twd_sh_turnRows_48 : decode prog_9_method_5_code 48 = .ok (.istore 4, 2) := by decide +kernel
theorem twd_sh_turnRows_50 : decode prog_9_method_5_code 50 = .ok (.iinc 5 1, 3) := by decide +kernel
theorem twd_sh_turnRows_53 : decode prog_9_method_5_code 53 = .ok (.goto (-47), 3) := by decide +kernel
theorem twd_sh_turnRows_56 : decode prog_9_method_5_code 56 = .ok (.return_, 1) := by decide +kernel
theorem twk_sh_turnRows : tw_dc twy_sh_turnRows 3 := ⟨by decide +kernel, by decide +kernel, by decide +kernel⟩
theorem twd_sh_setOrder_0 : decode prog_9_method_4_code 0 = .ok (.iconst 0, 1) := by decide +kernel
theorem twd_sh_setOrder_1 : decode prog_9_method_4_code 1 = .ok (.istore_n 3, 1) := by decide +kernel
theorem twd_sh_setOrder_2 : decode prog_9_method_4_code 2 = .ok (.iload_n 1, 1) := by decide +kernel
theorem twd_sh_setOrder_3 : decode prog_9_method_4_code 3 = .ok (.istore 4, 2) := by decide +kernel
theorem twd_sh_setOrder_5 : decode prog_9_method_4_code 5 = .ok (.iload 4, 2) := by decide +kernel
theorem twd_sh_setOrder_7 : decode prog_9_method_4_code 7 = .ok (.iload_n 2, 1) := by decide +kernel
theorem twd_sh_setOrder_8 : decode prog_9_method_4_code 8 = .ok (.if_icmp .ge 30, 3) := by decide +kernel
theorem twd_sh_setOrder_11 : decode prog_9_method_4_code 11 = .ok (.aload_n 0, 1) := by decide +kernel
theorem twd_sh_setOrder_12 : decode prog_9_method_4_code 12 = .ok (.getfield 15, 3) := by decide +kernel
theorem twd_sh_setOrder_15 : decode prog_9_method_4_code 15 = .ok (.iload 4, 2) := by decide +kernel
theorem twd_sh_setOrder_17 : decode prog_9_method_4_code 17 = .ok (.iload 4, 2) := by decide +kernel
theorem twd_sh_setOrder_19 : decode prog_9_method_4_code 19 = .ok (.iastore, 1) := by decide +kernel
theorem twd_sh_setOrder_20 : decode prog_9_method_4_code 20 = .ok (.iload_n 3, 1) := by decide +kernel
theorem twd_sh_setOrder_21 : decode prog_9_method_4_code 21 = .ok (.aload_n 0, 1) := by decide +kernel
theorem twd_sh_setOrder_22 : decode prog_9_method_4_code 22 = .ok (.getfield 9, 3) := by decide +kernel
theorem twd_sh_setOrder_25 : decode prog_9_method_4_code 25 = .ok (.iload 4, 2) := by decide +kernel
theorem twd_sh_setOrder_27 : decode prog_9_method_4_code 27 = .ok (.iaload, 1) := by decide +kernel
theorem twd_sh_setOrder_28 : decode prog_9_method_4_code 28 = .ok (.invokestatic 55, 3) := by decide +kernel
theorem twd_sh_setOrder_31 : decode prog_9_method_4_code 31 = .ok (.istore_n 3, 1) := by decide +kernel
theorem twd_sh_setOrder_32 : decode prog_9_method_4_code 32 = .ok (.iinc 4 1, 3) := by decide +kernel
theorem twd_sh_setOrder_35 : decode prog_9_method_4_code 35 = .ok (.goto (-30), 3) := by decide +kernel
theorem twd_sh_setOrder_38 : decode prog_9_method_4_code 38 = .ok (.iload_n 3, 1) := by decide +kernel
theorem twd_sh_setOrder_39 : decode prog_9_method_4_code 39 = .ok (.istore 4, 2) := by decide +kernel
theorem twd_sh_setOrder_41 : decode prog_9_method_4_code 41 = .ok (.iload 4, 2) := by decide +kernel
theorem twd_sh_setOrder_43 : decode prog_9_method_4_code 43 = .ok (.iconst 1, 1) := by decide +kernel
theorem twd_sh_setOrder_44 : decode prog_9_method_4_code 44 = .ok (.if_icmp .lt 17, 3) := by decide +kernel
theorem twd_sh_setOrder_47 : decode prog_9_method_4_code 47 = .ok (.aload_n 0, 1) := by decide +kernel
theorem twd_sh_setOrder_48 : decode prog_9_method_4_code 48 = .ok (.iload_n 1, 1) := by decide +kernel
theorem twd_sh_setOrder_49 : decode prog_9_method_4_code 49 = .ok (.iload_n 2, 1) := by decide +kernel
theorem twd_sh_setOrder_50 : decode prog_9_method_4_code 50 = .ok (.iload 4, 2) := by decide +kernel
theorem twd_sh_setOrder_52 : decode prog_9_method_4_code 52 = .ok (.invokevirtual 61, 3) := by decide +kernel
theorem twd_sh_setOrder_55 : decode prog_9_method_4_code 55 = .ok (.iinc 4 (-1), 3) := by decide +kernel
theorem twd_sh_setOrder_58 : decode prog_9_method_4_code 58 = .ok (.goto (-17), 3) := by decide +kernel
theorem twd_sh_setOrder_61 : decode prog_9_method_4_code 61 = .ok (.return_, 1) := by decide +kernel
theorem twk_sh_setOrder : tw_dc twy_sh_setOrder 2 := ⟨by decide +kernel, by decide +kernel, by decide +kernel⟩
theorem twd_sh_arrange_0 : decode prog_9_method_2_code 0 = .ok (.iconst 0, 1) := by decide +kernel
theorem twd_sh_arrange_1 : decode prog_9_method_2_code 1 = .ok (.istore 4, 2) := by decide +kernel
theorem twd_sh_arrange_3 : decode prog_9_method_2_code 3 = .ok (.iload 4, 2) := by decide +kernel
theorem twd_sh_arrange_5 : decode prog_9_method_2_code 5 = .ok (.aload_n 3, 1) := by decide +kernel
theorem twd_sh_arrange_6 : decode prog_9_method_2_code 6 = .ok (.getfield 18, 3) := by decide +kernel
theorem twd_sh_arrange_9 : decode prog_9_method_2_code 9 = .ok (.if_icmp .ge 47, 3) := by decide +kernel
theorem twd_sh_arrange_12 : decode prog_9_method_2_code 12 = .ok (.aload_n 3, 1) := by decide +kernel
theorem twd_sh_arrange_13 : decode prog_9_method_2_code 13 = .ok (.getfield 24, 3) := by decide +kernel
theorem twd_sh_arrange_16 : decode prog_9_method_2_code 16 = .ok (.iload 4, 2) := by decide +kernel
theorem twd_sh_arrange_18 : decode prog_9_method_2_code 18 = .ok (.iaload, 1) := by decide +kernel
theorem twd_sh_arrange_19 : decode prog_9_method_2_code 19 = .ok (.istore 5, 2) := by decide +kernel
theorem twd_sh_arrange_21 : decode prog_9_method_2_code 21 = .ok (.aload_n 3, 1) := by decide +kernel
theorem twd_sh_arrange_22 : decode prog_9_method_2_code 22 = .ok (.getfield 24, 3) := by decide +kernel
theorem twd_sh_arrange_25 : decode prog_9_method_2_code 25 = .ok (.iload 4, 2) := by decide +kernel
theorem twd_sh_arrange_27 : decode prog_9_method_2_code 27 = .ok (.iconst 1, 1) := by decide +kernel
theorem twd_sh_arrange_28 : decode prog_9_method_2_code 28 = .ok (.iadd, 1) := by decide +kernel
theorem twd_sh_arrange_29 : decode prog_9_method_2_code 29 = .ok (.iaload, 1) := by decide +kernel
theorem twd_sh_arrange_30 : decode prog_9_method_2_code 30 = .ok (.istore 6, 2) := by decide +kernel
theorem twd_sh_arrange_32 : decode prog_9_method_2_code 32 = .ok (.aload_n 0, 1) := by decide +kernel
theorem twd_sh_arrange_33 : decode prog_9_method_2_code 33 = .ok (.aload_n 1, 1) := by decide +kernel
theorem twd_sh_arrange_34 : decode prog_9_method_2_code 34 = .ok (.aload_n 2, 1) := by decide +kernel
theorem twd_sh_arrange_35 : decode prog_9_method_2_code 35 = .ok (.iload 5, 2) := by decide +kernel
theorem twd_sh_arrange_37 : decode prog_9_method_2_code 37 = .ok (.iload 6, 2) := by decide +kernel
theorem twd_sh_arrange_39 : decode prog_9_method_2_code 39 = .ok (.invokevirtual 27, 3) := by decide +kernel
theorem twd_sh_arrange_42 : decode prog_9_method_2_code 42 = .ok (.aload_n 0, 1) := by decide +kernel
theorem twd_sh_arrange_43 : decode prog_9_method_2_code 43 = .ok (.iload 5, 2) := by decide +kernel
theorem twd_sh_arrange_45 : decode prog_9_method_2_code 45 = .ok (.iload 6, 2) := by decide +kernel
theorem twd_sh_arrange_47 : decode prog_9_method_2_code 47 = .ok (.invokevirtual 31, 3) := by decide +kernel
theorem twd_sh_arrange_50 : decode prog_9_method_2_code 50 = .ok (.iinc 4 1, 3) := by decide +kernel
theorem twd_sh_arrange_53 : decode prog_9_method_2_code 53 = .ok (.goto (-50), 3) := by decide +kernel
theorem twd_sh_arrange_56 : decode prog_9_method_2_code 56 = .ok (.return_, 1) := by decide +kernel
theorem twk_sh_arrange : tw_dc twy_sh_arrange 3 := ⟨by decide +kernel, by decide +kernel, by decide +kernel⟩
theorem twd_tl_layOut_0 : decode prog_1_method_20_code 0 = .ok (.aload_n 0, 1) := by decide +kernel
theorem twd_tl_layOut_1 : decode prog_1_method_20_code 1 = .ok (.getfield 41, 3) := by decide +kernel
theorem twd_tl_layOut_4 : decode prog_1_method_20_code 4 = .ok (.ifCond .ne 4, 3) := by decide +kernel
theorem twd_tl_layOut_7 : decode prog_1_method_20_code 7 = .ok (.return_, 1) := by decide +kernel
theorem twd_tl_layOut_8 : decode prog_1_method_20_code 8 = .ok (.aload_n 0, 1) := by decide +kernel
theorem twd_tl_layOut_9 : decode prog_1_method_20_code 9 = .ok (.getfield 19, 3) := by decide +kernel
theorem twd_tl_layOut_12 : decode prog_1_method_20_code 12 = .ok (.aload_n 0, 1) := by decide +kernel
theorem twd_tl_layOut_13 : decode prog_1_method_20_code 13 = .ok (.getfield 10, 3) := by decide +kernel
theorem twd_tl_layOut_16 : decode prog_1_method_20_code 16 = .ok (.invokevirtual 113, 3) := by decide +kernel
theorem twd_tl_layOut_19 : decode prog_1_method_20_code 19 = .ok (.aload_n 0, 1) := by decide +kernel
theorem twd_tl_layOut_20 : decode prog_1_method_20_code 20 = .ok (.getfield 19, 3) := by decide +kernel
theorem twd_tl_layOut_23 : decode prog_1_method_20_code 23 = .ok (.aload_n 0, 1) := by decide +kernel
theorem twd_tl_layOut_24 : decode prog_1_method_20_code 24 = .ok (.getfield 10, 3) := by decide +kernel
theorem twd_tl_layOut_27 : decode prog_1_method_20_code 27 = .ok (.invokevirtual 117, 3) := by decide +kernel
theorem twd_tl_layOut_30 : decode prog_1_method_20_code 30 = .ok (.aload_n 0, 1) := by decide +kernel
theorem twd_tl_layOut_31 : decode prog_1_method_20_code 31 = .ok (.getfield 19, 3) := by decide +kernel
theorem twd_tl_layOut_34 : decode prog_1_method_20_code 34 = .ok (.aload_n 0, 1) := by decide +kernel
theorem twd_tl_layOut_35 : decode prog_1_method_20_code 35 = .ok (.getfield 10, 3) := by decide +kernel
theorem twd_tl_layOut_38 : decode prog_1_method_20_code 38 = .ok (.invokevirtual 120, 3) := by decide +kernel
theorem twd_tl_layOut_41 : decode prog_1_method_20_code 41 = .ok (.aload_n 0, 1) := by decide +kernel
theorem twd_tl_layOut_42 : decode prog_1_method_20_code 42 = .ok (.getfield 26, 3) := by decide +kernel
theorem twd_tl_layOut_45 : decode prog_1_method_20_code 45 = .ok (.aload_n 0, 1) := by decide +kernel
theorem twd_tl_layOut_46 : decode prog_1_method_20_code 46 = .ok (.getfield 10, 3) := by decide +kernel
theorem twd_tl_layOut_49 : decode prog_1_method_20_code 49 = .ok (.aload_n 0, 1) := by decide +kernel
theorem twd_tl_layOut_50 : decode prog_1_method_20_code 50 = .ok (.getfield 37, 3) := by decide +kernel
theorem twd_tl_layOut_53 : decode prog_1_method_20_code 53 = .ok (.invokevirtual 123, 3) := by decide +kernel
theorem twd_tl_layOut_56 : decode prog_1_method_20_code 56 = .ok (.aload_n 0, 1) := by decide +kernel
theorem twd_tl_layOut_57 : decode prog_1_method_20_code 57 = .ok (.getfield 33, 3) := by decide +kernel
theorem twd_tl_layOut_60 : decode prog_1_method_20_code 60 = .ok (.aload_n 0, 1) := by decide +kernel
theorem twd_tl_layOut_61 : decode prog_1_method_20_code 61 = .ok (.getfield 10, 3) := by decide +kernel
theorem twd_tl_layOut_64 : decode prog_1_method_20_code 64 = .ok (.aload_n 0, 1) := by decide +kernel
theorem twd_tl_layOut_65 : decode prog_1_method_20_code 65 = .ok (.getfield 19, 3) := by decide +kernel
theorem twd_tl_layOut_68 : decode prog_1_method_20_code 68 = .ok (.aload_n 0, 1) := by decide +kernel
theorem twd_tl_layOut_69 : decode prog_1_method_20_code 69 = .ok (.getfield 26, 3) := by decide +kernel
theorem twd_tl_layOut_72 : decode prog_1_method_20_code 72 = .ok (.invokevirtual 127, 3) := by decide +kernel
theorem twd_tl_layOut_75 : decode prog_1_method_20_code 75 = .ok (.aload_n 0, 1) := by decide +kernel
theorem twd_tl_layOut_76 : decode prog_1_method_20_code 76 = .ok (.iconst 0, 1) := by decide +kernel
theorem twd_tl_layOut_77 : decode prog_1_method_20_code 77 = .ok (.putfield 41, 3) := by decide +kernel
theorem twd_tl_layOut_80 : decode prog_1_method_20_code 80 = .ok (.return_, 1) := by decide +kernel
theorem twk_tl_layOut : tw_dc twy_tl_layOut 0 := ⟨by decide +kernel, by decide +kernel, by decide +kernel⟩
theorem twd_tl_paragraphLevel_0 : decode prog_1_method_8_code 0 = .ok (.aload_n 0, 1) := by decide +kernel
theorem twd_tl_paragraphLevel_1 : decode prog_1_method_8_code 1 = .ok (.invokevirtual 59, 3) := by decide +kernel
theorem twd_tl_paragraphLevel_4 : decode prog_1_method_8_code 4 = .ok (.aload_n 0, 1) := by decide +kernel
theorem twd_tl_paragraphLevel_5 : decode prog_1_method_8_code 5 = .ok (.getfield 19, 3) := by decide +kernel
theorem twd_tl_paragraphLevel_8 : decode prog_1_method_8_code 8 = .ok (.getfield 62, 3) := by decide +kernel
theorem twd_tl_paragraphLevel_11 : decode prog_1_method_8_code 11 = .ok (.ireturn, 1) := by decide +kernel
theorem twk_tl_paragraphLevel : tw_dc twy_tl_paragraphLevel 0 := ⟨by decide +kernel, by decide +kernel, by decide +kernel⟩
theorem twd_pa_has_0 : decode prog_7_method_3_code 0 = .ok (.iload_n 1, 1) := by decide +kernel
theorem twd_pa_has_1 : decode prog_7_method_3_code 1 = .ok (.ifCond .lt 15, 3) := by decide +kernel
theorem twd_pa_has_4 : decode prog_7_method_3_code 4 = .ok (.iload_n 1, 1) := by decide +kernel
theorem twd_pa_has_5 : decode prog_7_method_3_code 5 = .ok (.aload_n 0, 1) := by decide +kernel
theorem twd_pa_has_6 : decode prog_7_method_3_code 6 = .ok (.getfield 24, 3) := by decide +kernel
theorem twd_pa_has_9 : decode prog_7_method_3_code 9 = .ok (.if_icmp .ge 7, 3) := by decide +kernel
theorem twd_pa_has_12 : decode prog_7_method_3_code 12 = .ok (.iconst 1, 1) := by decide +kernel
theorem twd_pa_has_13 : decode prog_7_method_3_code 13 = .ok (.goto 4, 3) := by decide +kernel
theorem twd_pa_has_16 : decode prog_7_method_3_code 16 = .ok (.iconst 0, 1) := by decide +kernel
theorem twd_pa_has_17 : decode prog_7_method_3_code 17 = .ok (.ireturn, 1) := by decide +kernel
theorem twk_pa_has : tw_dc twy_pa_has 1 := ⟨by decide +kernel, by decide +kernel, by decide +kernel⟩
theorem twd_tl_match_0 : decode prog_1_method_9_code 0 = .ok (.aload_n 0, 1) := by decide +kernel
theorem twd_tl_match_1 : decode prog_1_method_9_code 1 = .ok (.getfield 10, 3) := by decide +kernel
theorem twd_tl_match_4 : decode prog_1_method_9_code 4 = .ok (.iload_n 1, 1) := by decide +kernel
theorem twd_tl_match_5 : decode prog_1_method_9_code 5 = .ok (.invokevirtual 65, 3) := by decide +kernel
theorem twd_tl_match_8 : decode prog_1_method_9_code 8 = .ok (.ifCond .ne 5, 3) := by decide +kernel
theorem twd_tl_match_11 : decode prog_1_method_9_code 11 = .ok (.iconst (-1), 1) := by decide +kernel
theorem twd_tl_match_12 : decode prog_1_method_9_code 12 = .ok (.ireturn, 1) := by decide +kernel
theorem twd_tl_match_13 : decode prog_1_method_9_code 13 = .ok (.aload_n 0, 1) := by decide +kernel
theorem twd_tl_match_14 : decode prog_1_method_9_code 14 = .ok (.invokevirtual 59, 3) := by decide +kernel
theorem twd_tl_match_17 : decode prog_1_method_9_code 17 = .ok (.aload_n 0, 1) := by decide +kernel
theorem twd_tl_match_18 : decode prog_1_method_9_code 18 = .ok (.getfield 19, 3) := by decide +kernel
theorem twd_tl_match_21 : decode prog_1_method_9_code 21 = .ok (.getfield 69, 3) := by decide +kernel
theorem twd_tl_match_24 : decode prog_1_method_9_code 24 = .ok (.getfield 73, 3) := by decide +kernel
theorem twd_tl_match_27 : decode prog_1_method_9_code 27 = .ok (.iload_n 1, 1) := by decide +kernel
theorem twd_tl_match_28 : decode prog_1_method_9_code 28 = .ok (.iaload, 1) := by decide +kernel
theorem twd_tl_match_29 : decode prog_1_method_9_code 29 = .ok (.ireturn, 1) := by decide +kernel
theorem twk_tl_match : tw_dc twy_tl_match 1 := ⟨by decide +kernel, by decide +kernel, by decide +kernel⟩
theorem twd_tl_partner_0 : decode prog_1_method_10_code 0 = .ok (.aload_n 0, 1) := by decide +kernel
theorem twd_tl_partner_1 : decode prog_1_method_10_code 1 = .ok (.getfield 10, 3) := by decide +kernel
theorem twd_tl_partner_4 : decode prog_1_method_10_code 4 = .ok (.iload_n 1, 1) := by decide +kernel
theorem twd_tl_partner_5 : decode prog_1_method_10_code 5 = .ok (.invokevirtual 65, 3) := by decide +kernel
theorem twd_tl_partner_8 : decode prog_1_method_10_code 8 = .ok (.ifCond .ne 5, 3) := by decide +kernel
theorem twd_tl_partner_11 : decode prog_1_method_10_code 11 = .ok (.iconst (-1), 1) := by decide +kernel
theorem twd_tl_partner_12 : decode prog_1_method_10_code 12 = .ok (.ireturn, 1) := by decide +kernel
theorem twd_tl_partner_13 : decode prog_1_method_10_code 13 = .ok (.aload_n 0, 1) := by decide +kernel
theorem twd_tl_partner_14 : decode prog_1_method_10_code 14 = .ok (.invokevirtual 59, 3) := by decide +kernel
theorem twd_tl_partner_17 : decode prog_1_method_10_code 17 = .ok (.aload_n 0, 1) := by decide +kernel
theorem twd_tl_partner_18 : decode prog_1_method_10_code 18 = .ok (.getfield 19, 3) := by decide +kernel
theorem twd_tl_partner_21 : decode prog_1_method_10_code 21 = .ok (.getfield 79, 3) := by decide +kernel
theorem twd_tl_partner_24 : decode prog_1_method_10_code 24 = .ok (.iload_n 1, 1) := by decide +kernel
theorem twd_tl_partner_25 : decode prog_1_method_10_code 25 = .ok (.iaload, 1) := by decide +kernel
theorem twd_tl_partner_26 : decode prog_1_method_10_code 26 = .ok (.ireturn, 1) := by decide +kernel
theorem twk_tl_partner : tw_dc twy_tl_partner 1 := ⟨by decide +kernel, by decide +kernel, by decide +kernel⟩
theorem twd_tl_type_0 : decode prog_1_method_11_code 0 = .ok (.aload_n 0, 1) := by decide +kernel
theorem twd_tl_type_1 : decode prog_1_method_11_code 1 = .ok (.getfield 10, 3) := by decide +kernel
theorem twd_tl_type_4 : decode prog_1_method_11_code 4 = .ok (.iload_n 1, 1) := by decide +kernel
theorem twd_tl_type_5 : decode prog_1_method_11_code 5 = .ok (.invokevirtual 65, 3) := by decide +kernel
theorem twd_tl_type_8 : decode prog_1_method_11_code 8 = .ok (.ifCond .ne 5, 3) := by decide +kernel
theorem twd_tl_type_11 : decode prog_1_method_11_code 11 = .ok (.iconst (-1), 1) := by decide +kernel
theorem twd_tl_type_12 : decode prog_1_method_11_code 12 = .ok (.ireturn, 1) := by decide +kernel
theorem twd_tl_type_13 : decode prog_1_method_11_code 13 = .ok (.aload_n 0, 1) := by decide +kernel
theorem twd_tl_type_14 : decode prog_1_method_11_code 14 = .ok (.invokevirtual 59, 3) := by decide +kernel
theorem twd_tl_type_17 : decode prog_1_method_11_code 17 = .ok (.aload_n 0, 1) := by decide +kernel
theorem twd_tl_type_18 : decode prog_1_method_11_code 18 = .ok (.getfield 19, 3) := by decide +kernel
theorem twd_tl_type_21 : decode prog_1_method_11_code 21 = .ok (.getfield 82, 3) := by decide +kernel
theorem twd_tl_type_24 : decode prog_1_method_11_code 24 = .ok (.iload_n 1, 1) := by decide +kernel
theorem twd_tl_type_25 : decode prog_1_method_11_code 25 = .ok (.iaload, 1) := by decide +kernel
theorem twd_tl_type_26 : decode prog_1_method_11_code 26 = .ok (.ireturn, 1) := by decide +kernel
theorem twk_tl_type : tw_dc twy_tl_type 1 := ⟨by decide +kernel, by decide +kernel, by decide +kernel⟩
theorem twd_tl_level_0 : decode prog_1_method_12_code 0 = .ok (.aload_n 0, 1) := by decide +kernel
theorem twd_tl_level_1 : decode prog_1_method_12_code 1 = .ok (.getfield 10, 3) := by decide +kernel
theorem twd_tl_level_4 : decode prog_1_method_12_code 4 = .ok (.iload_n 1, 1) := by decide +kernel
theorem twd_tl_level_5 : decode prog_1_method_12_code 5 = .ok (.invokevirtual 65, 3) := by decide +kernel
theorem twd_tl_level_8 : decode prog_1_method_12_code 8 = .ok (.ifCond .ne 5, 3) := by decide +kernel
theorem twd_tl_level_11 : decode prog_1_method_12_code 11 = .ok (.iconst (-1), 1) := by decide +kernel
theorem twd_tl_level_12 : decode prog_1_method_12_code 12 = .ok (.ireturn, 1) := by decide +kernel
theorem twd_tl_level_13 : decode prog_1_method_12_code 13 = .ok (.aload_n 0, 1) := by decide +kernel
theorem twd_tl_level_14 : decode prog_1_method_12_code 14 = .ok (.invokevirtual 59, 3) := by decide +kernel
theorem twd_tl_level_17 : decode prog_1_method_12_code 17 = .ok (.aload_n 0, 1) := by decide +kernel
theorem twd_tl_level_18 : decode prog_1_method_12_code 18 = .ok (.getfield 19, 3) := by decide +kernel
theorem twd_tl_level_21 : decode prog_1_method_12_code 21 = .ok (.getfield 85, 3) := by decide +kernel
theorem twd_tl_level_24 : decode prog_1_method_12_code 24 = .ok (.iload_n 1, 1) := by decide +kernel
theorem twd_tl_level_25 : decode prog_1_method_12_code 25 = .ok (.iaload, 1) := by decide +kernel
theorem twd_tl_level_26 : decode prog_1_method_12_code 26 = .ok (.ireturn, 1) := by decide +kernel
theorem twk_tl_level : tw_dc twy_tl_level 1 := ⟨by decide +kernel, by decide +kernel, by decide +kernel⟩
theorem twd_tl_mayBreak_0 : decode prog_1_method_13_code 0 = .ok (.aload_n 0, 1) := by decide +kernel
theorem twd_tl_mayBreak_1 : decode prog_1_method_13_code 1 = .ok (.getfield 10, 3) := by decide +kernel
theorem twd_tl_mayBreak_4 : decode prog_1_method_13_code 4 = .ok (.iload_n 1, 1) := by decide +kernel
theorem twd_tl_mayBreak_5 : decode prog_1_method_13_code 5 = .ok (.invokevirtual 65, 3) := by decide +kernel
theorem twd_tl_mayBreak_8 : decode prog_1_method_13_code 8 = .ok (.ifCond .ne 5, 3) := by decide +kernel
theorem twd_tl_mayBreak_11 : decode prog_1_method_13_code 11 = .ok (.iconst 0, 1) := by decide +kernel
theorem twd_tl_mayBreak_12 : decode prog_1_method_13_code 12 = .ok (.ireturn, 1) := by decide +kernel
theorem twd_tl_mayBreak_13 : decode prog_1_method_13_code 13 = .ok (.aload_n 0, 1) := by decide +kernel
theorem twd_tl_mayBreak_14 : decode prog_1_method_13_code 14 = .ok (.invokevirtual 59, 3) := by decide +kernel
theorem twd_tl_mayBreak_17 : decode prog_1_method_13_code 17 = .ok (.aload_n 0, 1) := by decide +kernel
theorem twd_tl_mayBreak_18 : decode prog_1_method_13_code 18 = .ok (.getfield 26, 3) := by decide +kernel
theorem twd_tl_mayBreak_21 : decode prog_1_method_13_code 21 = .ok (.getfield 88, 3) := by decide +kernel
theorem twd_tl_mayBreak_24 : decode prog_1_method_13_code 24 = .ok (.iload_n 1, 1) := by decide +kernel
theorem twd_tl_mayBreak_25 : decode prog_1_method_13_code 25 = .ok (.baload, 1) := by decide +kernel
theorem twd_tl_mayBreak_26 : decode prog_1_method_13_code 26 = .ok (.ireturn, 1) := by decide +kernel
theorem twk_tl_mayBreak : tw_dc twy_tl_mayBreak 1 := ⟨by decide +kernel, by decide +kernel, by decide +kernel⟩
theorem twd_tl_lines_0 : decode prog_1_method_14_code 0 = .ok (.aload_n 0, 1) := by decide +kernel
theorem twd_tl_lines_1 : decode prog_1_method_14_code 1 = .ok (.invokevirtual 59, 3) := by decide +kernel
theorem twd_tl_lines_4 : decode prog_1_method_14_code 4 = .ok (.aload_n 0, 1) := by decide +kernel
theorem twd_tl_lines_5 : decode prog_1_method_14_code 5 = .ok (.getfield 26, 3) := by decide +kernel
theorem twd_tl_lines_8 : decode prog_1_method_14_code 8 = .ok (.getfield 92, 3) := by decide +kernel
theorem twd_tl_lines_11 : decode prog_1_method_14_code 11 = .ok (.ireturn, 1) := by decide +kernel
theorem twk_tl_lines : tw_dc twy_tl_lines 0 := ⟨by decide +kernel, by decide +kernel, by decide +kernel⟩
theorem twd_tl_start_0 : decode prog_1_method_15_code 0 = .ok (.aload_n 0, 1) := by decide +kernel
theorem twd_tl_start_1 : decode prog_1_method_15_code 1 = .ok (.invokevirtual 59, 3) := by decide +kernel
theorem twd_tl_start_4 : decode prog_1_method_15_code 4 = .ok (.iload_n 1, 1) := by decide +kernel
theorem twd_tl_start_5 : decode prog_1_method_15_code 5 = .ok (.iconst 0, 1) := by decide +kernel
theorem twd_tl_start_6 : decode prog_1_method_15_code 6 = .ok (.aload_n 0, 1) := by decide +kernel
theorem twd_tl_start_7 : decode prog_1_method_15_code 7 = .ok (.getfield 26, 3) := by decide +kernel
theorem twd_tl_start_10 : decode prog_1_method_15_code 10 = .ok (.getfield 92, 3) := by decide +kernel
theorem twd_tl_start_13 : decode prog_1_method_15_code 13 = .ok (.invokestatic 45, 3) := by decide +kernel
theorem twd_tl_start_16 : decode prog_1_method_15_code 16 = .ok (.ifCond .eq 15, 3) := by decide +kernel
theorem twd_tl_start_19 : decode prog_1_method_15_code 19 = .ok (.aload_n 0, 1) := by decide +kernel
theorem twd_tl_start_20 : decode prog_1_method_15_code 20 = .ok (.getfield 26, 3) := by decide +kernel
theorem twd_tl_start_23 : decode prog_1_method_15_code 23 = .ok (.getfield 95, 3) := by decide +kernel
theorem twd_tl_start_26 : decode prog_1_method_15_code 26 = .ok (.iload_n 1, 1) := by decide +kernel
theorem twd_tl_start_27 : decode prog_1_method_15_code 27 = .ok (.iaload, 1) := by decide +kernel
theorem twd_tl_start_28 : decode prog_1_method_15_code 28 = .ok (.goto 4, 3) := by decide +kernel
theorem twd_tl_start_31 : decode prog_1_method_15_code 31 = .ok (.iconst (-1), 1) := by decide +kernel
theorem twd_tl_start_32 : decode prog_1_method_15_code 32 = .ok (.ireturn, 1) := by decide +kernel
theorem twk_tl_start : tw_dc twy_tl_start 1 := ⟨by decide +kernel, by decide +kernel, by decide +kernel⟩
theorem twd_fi_has_0 : decode prog_4_method_2_code 0 = .ok (.iload_n 1, 1) := by decide +kernel
theorem twd_fi_has_1 : decode prog_4_method_2_code 1 = .ok (.ifCond .lt 15, 3) := by decide +kernel
theorem twd_fi_has_4 : decode prog_4_method_2_code 4 = .ok (.iload_n 1, 1) := by decide +kernel
theorem twd_fi_has_5 : decode prog_4_method_2_code 5 = .ok (.aload_n 0, 1) := by decide +kernel
theorem twd_fi_has_6 : decode prog_4_method_2_code 6 = .ok (.getfield 22, 3) := by decide +kernel
theorem twd_fi_has_9 : decode prog_4_method_2_code 9 = .ok (.if_icmp .ge 7, 3) := by decide +kernel
theorem twd_fi_has_12 : decode prog_4_method_2_code 12 = .ok (.iconst 1, 1) := by decide +kernel
theorem twd_fi_has_13 : decode prog_4_method_2_code 13 = .ok (.goto 4, 3) := by decide +kernel
theorem twd_fi_has_16 : decode prog_4_method_2_code 16 = .ok (.iconst 0, 1) := by decide +kernel
theorem twd_fi_has_17 : decode prog_4_method_2_code 17 = .ok (.ireturn, 1) := by decide +kernel
theorem twk_fi_has : tw_dc twy_fi_has 1 := ⟨by decide +kernel, by decide +kernel, by decide +kernel⟩
theorem twd_tl_extent_0 : decode prog_1_method_16_code 0 = .ok (.aload_n 0, 1) := by decide +kernel
theorem twd_tl_extent_1 : decode prog_1_method_16_code 1 = .ok (.invokevirtual 59, 3) := by decide +kernel
theorem twd_tl_extent_4 : decode prog_1_method_16_code 4 = .ok (.aload_n 0, 1) := by decide +kernel
theorem twd_tl_extent_5 : decode prog_1_method_16_code 5 = .ok (.getfield 26, 3) := by decide +kernel
theorem twd_tl_extent_8 : decode prog_1_method_16_code 8 = .ok (.iload_n 1, 1) := by decide +kernel
theorem twd_tl_extent_9 : decode prog_1_method_16_code 9 = .ok (.invokevirtual 98, 3) := by decide +kernel
theorem twd_tl_extent_12 : decode prog_1_method_16_code 12 = .ok (.ifCond .eq 15, 3) := by decide +kernel
theorem twd_tl_extent_15 : decode prog_1_method_16_code 15 = .ok (.aload_n 0, 1) := by decide +kernel
theorem twd_tl_extent_16 : decode prog_1_method_16_code 16 = .ok (.getfield 26, 3) := by decide +kernel
theorem twd_tl_extent_19 : decode prog_1_method_16_code 19 = .ok (.getfield 99, 3) := by decide +kernel
theorem twd_tl_extent_22 : decode prog_1_method_16_code 22 = .ok (.iload_n 1, 1) := by decide +kernel
theorem twd_tl_extent_23 : decode prog_1_method_16_code 23 = .ok (.iaload, 1) := by decide +kernel
theorem twd_tl_extent_24 : decode prog_1_method_16_code 24 = .ok (.goto 4, 3) := by decide +kernel
theorem twd_tl_extent_27 : decode prog_1_method_16_code 27 = .ok (.iconst (-1), 1) := by decide +kernel
theorem twd_tl_extent_28 : decode prog_1_method_16_code 28 = .ok (.ireturn, 1) := by decide +kernel
theorem twk_tl_extent : tw_dc twy_tl_extent 1 := ⟨by decide +kernel, by decide +kernel, by decide +kernel⟩
theorem twd_tl_shownLevel_0 : decode prog_1_method_17_code 0 = .ok (.aload_n 0, 1) := by decide +kernel
theorem twd_tl_shownLevel_1 : decode prog_1_method_17_code 1 = .ok (.getfield 10, 3) := by decide +kernel
theorem twd_tl_shownLevel_4 : decode prog_1_method_17_code 4 = .ok (.iload_n 1, 1) := by decide +kernel
theorem twd_tl_shownLevel_5 : decode prog_1_method_17_code 5 = .ok (.invokevirtual 65, 3) := by decide +kernel
theorem twd_tl_shownLevel_8 : decode prog_1_method_17_code 8 = .ok (.ifCond .ne 5, 3) := by decide +kernel
theorem twd_tl_shownLevel_11 : decode prog_1_method_17_code 11 = .ok (.iconst (-1), 1) := by decide +kernel
theorem twd_tl_shownLevel_12 : decode prog_1_method_17_code 12 = .ok (.ireturn, 1) := by decide +kernel
theorem twd_tl_shownLevel_13 : decode prog_1_method_17_code 13 = .ok (.aload_n 0, 1) := by decide +kernel
theorem twd_tl_shownLevel_14 : decode prog_1_method_17_code 14 = .ok (.invokevirtual 59, 3) := by decide +kernel
theorem twd_tl_shownLevel_17 : decode prog_1_method_17_code 17 = .ok (.aload_n 0, 1) := by decide +kernel
theorem twd_tl_shownLevel_18 : decode prog_1_method_17_code 18 = .ok (.getfield 33, 3) := by decide +kernel
theorem twd_tl_shownLevel_21 : decode prog_1_method_17_code 21 = .ok (.getfield 102, 3) := by decide +kernel
theorem twd_tl_shownLevel_24 : decode prog_1_method_17_code 24 = .ok (.iload_n 1, 1) := by decide +kernel
theorem twd_tl_shownLevel_25 : decode prog_1_method_17_code 25 = .ok (.iaload, 1) := by decide +kernel
theorem twd_tl_shownLevel_26 : decode prog_1_method_17_code 26 = .ok (.ireturn, 1) := by decide +kernel
theorem twk_tl_shownLevel : tw_dc twy_tl_shownLevel 1 := ⟨by decide +kernel, by decide +kernel, by decide +kernel⟩
theorem twd_tl_shown_0 : decode prog_1_method_18_code 0 = .ok (.aload_n 0, 1) := by decide +kernel
theorem twd_tl_shown_1 : decode prog_1_method_18_code 1 = .ok (.invokevirtual 59, 3) := by decide +kernel
theorem twd_tl_shown_4 : decode prog_1_method_18_code 4 = .ok (.aload_n 0, 1) := by decide +kernel
theorem twd_tl_shown_5 : decode prog_1_method_18_code 5 = .ok (.getfield 26, 3) := by decide +kernel
theorem twd_tl_shown_8 : decode prog_1_method_18_code 8 = .ok (.iload_n 1, 1) := by decide +kernel
theorem twd_tl_shown_9 : decode prog_1_method_18_code 9 = .ok (.invokevirtual 98, 3) := by decide +kernel
theorem twd_tl_shown_12 : decode prog_1_method_18_code 12 = .ok (.ifCond .ne 5, 3) := by decide +kernel
theorem twd_tl_shown_15 : decode prog_1_method_18_code 15 = .ok (.iconst (-1), 1) := by decide +kernel
theorem twd_tl_shown_16 : decode prog_1_method_18_code 16 = .ok (.ireturn, 1) := by decide +kernel
theorem twd_tl_shown_17 : decode prog_1_method_18_code 17 = .ok (.aload_n 0, 1) := by decide +kernel
theorem twd_tl_shown_18 : decode prog_1_method_18_code 18 = .ok (.getfield 26, 3) := by decide +kernel
theorem twd_tl_shown_21 : decode prog_1_method_18_code 21 = .ok (.getfield 95, 3) := by decide +kernel
theorem twd_tl_shown_24 : decode prog_1_method_18_code 24 = .ok (.iload_n 1, 1) := by decide +kernel
theorem twd_tl_shown_25 : decode prog_1_method_18_code 25 = .ok (.iaload, 1) := by decide +kernel
theorem twd_tl_shown_26 : decode prog_1_method_18_code 26 = .ok (.istore_n 3, 1) := by decide +kernel
theorem twd_tl_shown_27 : decode prog_1_method_18_code 27 = .ok (.aload_n 0, 1) := by decide +kernel
theorem twd_tl_shown_28 : decode prog_1_method_18_code 28 = .ok (.getfield 26, 3) := by decide +kernel
theorem twd_tl_shown_31 : decode prog_1_method_18_code 31 = .ok (.getfield 95, 3) := by decide +kernel
theorem twd_tl_shown_34 : decode prog_1_method_18_code 34 = .ok (.iload_n 1, 1) := by decide +kernel
theorem twd_tl_shown_35 : decode prog_1_method_18_code 35 = .ok (.iconst 1, 1) := by decide +kernel
theorem twd_tl_shown_36 : decode prog_1_method_18_code 36 = .ok (.iadd, 1) := by decide +kernel
theorem twd_tl_shown_37 : decode prog_1_method_18_code 37 = .ok (.iaload, 1) := by decide +kernel
theorem twd_tl_shown_38 : decode prog_1_method_18_code 38 = .ok (.iload_n 3, 1) := by decide +kernel
theorem twd_tl_shown_39 : decode prog_1_method_18_code 39 = .ok (.isub, 1) := by decide +kernel
theorem twd_tl_shown_40 : decode prog_1_method_18_code 40 = .ok (.istore 4, 2) := by decide +kernel
theorem twd_tl_shown_42 : decode prog_1_method_18_code 42 = .ok (.iload_n 2, 1) := by decide +kernel
theorem twd_tl_shown_43 : decode prog_1_method_18_code 43 = .ok (.iconst 0, 1) := by decide +kernel
theorem twd_tl_shown_44 : decode prog_1_method_18_code 44 = .ok (.iload 4, 2) := by decide +kernel
theorem twd_tl_shown_46 : decode prog_1_method_18_code 46 = .ok (.iconst 1, 1) := by decide +kernel
theorem twd_tl_shown_47 : decode prog_1_method_18_code 47 = .ok (.isub, 1) := by decide +kernel
theorem twd_tl_shown_48 : decode prog_1_method_18_code 48 = .ok (.invokestatic 45, 3) := by decide +kernel
theorem twd_tl_shown_51 : decode prog_1_method_18_code 51 = .ok (.ifCond .eq 17, 3) := by decide +kernel
theorem twd_tl_shown_54 : decode prog_1_method_18_code 54 = .ok (.aload_n 0, 1) := by decide +kernel
theorem twd_tl_shown_55 : decode prog_1_method_18_code 55 = .ok (.getfield 33, 3) := by decide +kernel
theorem twd_tl_shown_58 : decode prog_1_method_18_code 58 = .ok (.getfield 104, 3) := by decide +kernel
theorem twd_tl_shown_61 : decode prog_1_method_18_code 61 = .ok (.iload_n 3, 1) := by decide +kernel
theorem twd_tl_shown_62 : decode prog_1_method_18_code 62 = .ok (.iload_n 2, 1) := by decide +kernel
theorem twd_tl_shown_63 : decode prog_1_method_18_code 63 = .ok (.iadd, 1) := by decide +kernel
theorem twd_tl_shown_64 : decode prog_1_method_18_code 64 = .ok (.iaload, 1) := by decide +kernel
theorem twd_tl_shown_65 : decode prog_1_method_18_code 65 = .ok (.goto 4, 3) := by decide +kernel
theorem twd_tl_shown_68 : decode prog_1_method_18_code 68 = .ok (.iconst (-1), 1) := by decide +kernel
theorem twd_tl_shown_69 : decode prog_1_method_18_code 69 = .ok (.ireturn, 1) := by decide +kernel
theorem twk_tl_shown : tw_dc twy_tl_shown 2 := ⟨by decide +kernel, by decide +kernel, by decide +kernel⟩
theorem twd_tl_mirrored_0 : decode prog_1_method_19_code 0 = .ok (.aload_n 0, 1) := by decide +kernel
theorem twd_tl_mirrored_1 : decode prog_1_method_19_code 1 = .ok (.getfield 10, 3) := by decide +kernel
theorem twd_tl_mirrored_4 : decode prog_1_method_19_code 4 = .ok (.iload_n 1, 1) := by decide +kernel
theorem twd_tl_mirrored_5 : decode prog_1_method_19_code 5 = .ok (.invokevirtual 65, 3) := by decide +kernel
theorem twd_tl_mirrored_8 : decode prog_1_method_19_code 8 = .ok (.ifCond .ne 5, 3) := by decide +kernel
theorem twd_tl_mirrored_11 : decode prog_1_method_19_code 11 = .ok (.iconst 0, 1) := by decide +kernel
theorem twd_tl_mirrored_12 : decode prog_1_method_19_code 12 = .ok (.ireturn, 1) := by decide +kernel
theorem twd_tl_mirrored_13 : decode prog_1_method_19_code 13 = .ok (.aload_n 0, 1) := by decide +kernel
theorem twd_tl_mirrored_14 : decode prog_1_method_19_code 14 = .ok (.invokevirtual 59, 3) := by decide +kernel
theorem twd_tl_mirrored_17 : decode prog_1_method_19_code 17 = .ok (.aload_n 0, 1) := by decide +kernel
theorem twd_tl_mirrored_18 : decode prog_1_method_19_code 18 = .ok (.getfield 10, 3) := by decide +kernel
theorem twd_tl_mirrored_21 : decode prog_1_method_19_code 21 = .ok (.getfield 107, 3) := by decide +kernel
theorem twd_tl_mirrored_24 : decode prog_1_method_19_code 24 = .ok (.iload_n 1, 1) := by decide +kernel
theorem twd_tl_mirrored_25 : decode prog_1_method_19_code 25 = .ok (.iaload, 1) := by decide +kernel
theorem twd_tl_mirrored_26 : decode prog_1_method_19_code 26 = .ok (.ifCond .eq 22, 3) := by decide +kernel
theorem twd_tl_mirrored_29 : decode prog_1_method_19_code 29 = .ok (.aload_n 0, 1) := by decide +kernel
theorem twd_tl_mirrored_30 : decode prog_1_method_19_code 30 = .ok (.getfield 33, 3) := by decide +kernel
theorem twd_tl_mirrored_33 : decode prog_1_method_19_code 33 = .ok (.getfield 102, 3) := by decide +kernel
theorem twd_tl_mirrored_36 : decode prog_1_method_19_code 36 = .ok (.iload_n 1, 1) := by decide +kernel
theorem twd_tl_mirrored_37 : decode prog_1_method_19_code 37 = .ok (.iaload, 1) := by decide +kernel
theorem twd_tl_mirrored_38 : decode prog_1_method_19_code 38 = .ok (.invokestatic 110, 3) := by decide +kernel
theorem twd_tl_mirrored_41 : decode prog_1_method_19_code 41 = .ok (.ifCond .eq 7, 3) := by decide +kernel
theorem twd_tl_mirrored_44 : decode prog_1_method_19_code 44 = .ok (.iconst 1, 1) := by decide +kernel
theorem twd_tl_mirrored_45 : decode prog_1_method_19_code 45 = .ok (.goto 4, 3) := by decide +kernel
theorem twd_tl_mirrored_48 : decode prog_1_method_19_code 48 = .ok (.iconst 0, 1) := by decide +kernel
theorem twd_tl_mirrored_49 : decode prog_1_method_19_code 49 = .ok (.ireturn, 1) := by decide +kernel
theorem twk_tl_mirrored : tw_dc twy_tl_mirrored 1 := ⟨by decide +kernel, by decide +kernel, by decide +kernel⟩
