theorem twd_mo_add_0 : decode prog_11_method_2_code 0 = .ok (.aload_n 0, 1) := by decide +kernel
theorem twd_mo_add_1 : decode prog_11_method_2_code 1 = .ok (.getfield 69, 3) := by decide +kernel
theorem twd_mo_add_4 : decode prog_11_method_2_code 4 = .ok (.bipush 64, 2) := by decide +kernel
theorem twd_mo_add_6 : decode prog_11_method_2_code 6 = .ok (.if_icmp .eq 45, 3) := by decide +kernel
theorem twd_mo_add_9 : decode prog_11_method_2_code 9 = .ok (.iload_n 1, 1) := by decide +kernel
theorem twd_mo_add_10 : decode prog_11_method_2_code 10 = .ok (.ifCond .lt 41, 3) := by decide +kernel
theorem twd_mo_add_13 : decode prog_11_method_2_code 13 = .ok (.iload_n 1, 1) := by decide +kernel
theorem twd_mo_add_14 : decode prog_11_method_2_code 14 = .ok (.bipush 20, 2) := by decide +kernel
theorem twd_mo_add_16 : decode prog_11_method_2_code 16 = .ok (.if_icmp .gt 35, 3) := by decide +kernel
theorem twd_mo_add_19 : decode prog_11_method_2_code 19 = .ok (.iload_n 2, 1) := by decide +kernel
theorem twd_mo_add_20 : decode prog_11_method_2_code 20 = .ok (.ifCond .lt 31, 3) := by decide +kernel
theorem twd_mo_add_23 : decode prog_11_method_2_code 23 = .ok (.iload_n 2, 1) := by decide +kernel
theorem twd_mo_add_24 : decode prog_11_method_2_code 24 = .ok (.bipush 6, 2) := by decide +kernel
theorem twd_mo_add_26 : decode prog_11_method_2_code 26 = .ok (.if_icmp .gt 25, 3) := by decide +kernel
theorem twd_mo_add_29 : decode prog_11_method_2_code 29 = .ok (.iload_n 3, 1) := by decide +kernel
theorem twd_mo_add_30 : decode prog_11_method_2_code 30 = .ok (.ifCond .lt 21, 3) := by decide +kernel
theorem twd_mo_add_33 : decode prog_11_method_2_code 33 = .ok (.iload_n 3, 1) := by decide +kernel
theorem twd_mo_add_34 : decode prog_11_method_2_code 34 = .ok (.iconst 3, 1) := by decide +kernel
theorem twd_mo_add_35 : decode prog_11_method_2_code 35 = .ok (.if_icmp .gt 16, 3) := by decide +kernel
theorem twd_mo_add_38 : decode prog_11_method_2_code 38 = .ok (.iload 4, 2) := by decide +kernel
theorem twd_mo_add_40 : decode prog_11_method_2_code 40 = .ok (.bipush (-3), 2) := by decide +kernel
theorem twd_mo_add_42 : decode prog_11_method_2_code 42 = .ok (.if_icmp .lt 9, 3) := by decide +kernel
theorem twd_mo_add_45 : decode prog_11_method_2_code 45 = .ok (.iload 4, 2) := by decide +kernel
theorem twd_mo_add_47 : decode prog_11_method_2_code 47 = .ok (.iconst 3, 1) := by decide +kernel
theorem twd_mo_add_48 : decode prog_11_method_2_code 48 = .ok (.if_icmp .le 5, 3) := by decide +kernel
theorem twd_mo_add_51 : decode prog_11_method_2_code 51 = .ok (.iconst 0, 1) := by decide +kernel
theorem twd_mo_add_52 : decode prog_11_method_2_code 52 = .ok (.ireturn, 1) := by decide +kernel
theorem twd_mo_add_53 : decode prog_11_method_2_code 53 = .ok (.aload_n 0, 1) := by decide +kernel
theorem twd_mo_add_54 : decode prog_11_method_2_code 54 = .ok (.getfield 16, 3) := by decide +kernel
theorem twd_mo_add_57 : decode prog_11_method_2_code 57 = .ok (.aload_n 0, 1) := by decide +kernel
theorem twd_mo_add_58 : decode prog_11_method_2_code 58 = .ok (.getfield 69, 3) := by decide +kernel
theorem twd_mo_add_61 : decode prog_11_method_2_code 61 = .ok (.iload_n 1, 1) := by decide +kernel
theorem twd_mo_add_62 : decode prog_11_method_2_code 62 = .ok (.iastore, 1) := by decide +kernel
theorem twd_mo_add_63 : decode prog_11_method_2_code 63 = .ok (.aload_n 0, 1) := by decide +kernel
theorem twd_mo_add_64 : decode prog_11_method_2_code 64 = .ok (.getfield 20, 3) := by decide +kernel
theorem twd_mo_add_67 : decode prog_11_method_2_code 67 = .ok (.aload_n 0, 1) := by decide +kernel
theorem twd_mo_add_68 : decode prog_11_method_2_code 68 = .ok (.getfield 69, 3) := by decide +kernel
theorem twd_mo_add_71 : decode prog_11_method_2_code 71 = .ok (.iload_n 2, 1) := by decide +kernel
theorem twd_mo_add_72 : decode prog_11_method_2_code 72 = .ok (.iastore, 1) := by decide +kernel
theorem twd_mo_add_73 : decode prog_11_method_2_code 73 = .ok (.aload_n 0, 1) := by decide +kernel
theorem twd_mo_add_74 : decode prog_11_method_2_code 74 = .ok (.getfield 23, 3) := by decide +kernel
theorem twd_mo_add_77 : decode prog_11_method_2_code 77 = .ok (.aload_n 0, 1) := by decide +kernel
theorem twd_mo_add_78 : decode prog_11_method_2_code 78 = .ok (.getfield 69, 3) := by decide +kernel
theorem twd_mo_add_81 : decode prog_11_method_2_code 81 = .ok (.iload_n 1, 1) := by decide +kernel
theorem twd_mo_add_82 : decode prog_11_method_2_code 82 = .ok (.bipush 12, 2) := by decide +kernel
theorem twd_mo_add_84 : decode prog_11_method_2_code 84 = .ok (.if_icmp .lt 7, 3) := by decide +kernel
theorem twd_mo_add_87 : decode prog_11_method_2_code 87 = .ok (.iconst 0, 1) := by decide +kernel
theorem twd_mo_add_88 : decode prog_11_method_2_code 88 = .ok (.goto 4, 3) := by decide +kernel
theorem twd_mo_add_91 : decode prog_11_method_2_code 91 = .ok (.iload_n 3, 1) := by decide +kernel
theorem twd_mo_add_92 : decode prog_11_method_2_code 92 = .ok (.iastore, 1) := by decide +kernel
theorem twd_mo_add_93 : decode prog_11_method_2_code 93 = .ok (.aload_n 0, 1) := by decide +kernel
theorem twd_mo_add_94 : decode prog_11_method_2_code 94 = .ok (.getfield 26, 3) := by decide +kernel
theorem twd_mo_add_97 : decode prog_11_method_2_code 97 = .ok (.aload_n 0, 1) := by decide +kernel
theorem twd_mo_add_98 : decode prog_11_method_2_code 98 = .ok (.getfield 69, 3) := by decide +kernel
theorem twd_mo_add_101 : decode prog_11_method_2_code 101 = .ok (.iload_n 1, 1) := by decide +kernel
theorem twd_mo_add_102 : decode prog_11_method_2_code 102 = .ok (.bipush 11, 2) := by decide +kernel
theorem twd_mo_add_104 : decode prog_11_method_2_code 104 = .ok (.if_icmp .ne 8, 3) := by decide +kernel
theorem twd_mo_add_107 : decode prog_11_method_2_code 107 = .ok (.iload 4, 2) := by decide +kernel
theorem twd_mo_add_109 : decode prog_11_method_2_code 109 = .ok (.goto 4, 3) := by decide +kernel
theorem twd_mo_add_112 : decode prog_11_method_2_code 112 = .ok (.iconst 0, 1) := by decide +kernel
theorem twd_mo_add_113 : decode prog_11_method_2_code 113 = .ok (.iastore, 1) := by decide +kernel
theorem twd_mo_add_114 : decode prog_11_method_2_code 114 = .ok (.aload_n 0, 1) := by decide +kernel
theorem twd_mo_add_115 : decode prog_11_method_2_code 115 = .ok (.dup, 1) := by decide +kernel
theorem twd_mo_add_116 : decode prog_11_method_2_code 116 = .ok (.getfield 69, 3) := by decide +kernel
theorem twd_mo_add_119 : decode prog_11_method_2_code 119 = .ok (.iconst 1, 1) := by decide +kernel
theorem twd_mo_add_120 : decode prog_11_method_2_code 120 = .ok (.iadd, 1) := by decide +kernel
theorem twd_mo_add_121 : decode prog_11_method_2_code 121 = .ok (.putfield 69, 3) := by decide +kernel
theorem twd_mo_add_124 : decode prog_11_method_2_code 124 = .ok (.aload_n 0, 1) := by decide +kernel
theorem twd_mo_add_125 : decode prog_11_method_2_code 125 = .ok (.iconst 0, 1) := by decide +kernel
theorem twd_mo_add_126 : decode prog_11_method_2_code 126 = .ok (.putfield 72, 3) := by decide +kernel
theorem twd_mo_add_129 : decode prog_11_method_2_code 129 = .ok (.iconst 1, 1) := by decide +kernel
theorem twd_mo_add_130 : decode prog_11_method_2_code 130 = .ok (.ireturn, 1) := by decide +kernel
theorem twk_mo_add : tw_dc twy_mo_add 4 := ⟨by decide +kernel, by decide +kernel, by decide +kernel⟩
theorem twd_mo_drop_0 : decode prog_11_method_3_code 0 = .ok (.aload_n 0, 1) := by decide +kernel
theorem twd_mo_drop_1 : decode prog_11_method_3_code 1 = .ok (.iconst 0, 1) := by decide +kernel
theorem twd_mo_drop_2 : decode prog_11_method_3_code 2 = .ok (.putfield 72, 3) := by decide +kernel
theorem twd_mo_drop_5 : decode prog_11_method_3_code 5 = .ok (.aload_n 0, 1) := by decide +kernel
theorem twd_mo_drop_6 : decode prog_11_method_3_code 6 = .ok (.getfield 69, 3) := by decide +kernel
theorem twd_mo_drop_9 : decode prog_11_method_3_code 9 = .ok (.ifCond .le 7, 3) := by decide +kernel
theorem twd_mo_drop_12 : decode prog_11_method_3_code 12 = .ok (.iconst 1, 1) := by decide +kernel
theorem twd_mo_drop_13 : decode prog_11_method_3_code 13 = .ok (.goto 4, 3) := by decide +kernel
theorem twd_mo_drop_16 : decode prog_11_method_3_code 16 = .ok (.iconst 0, 1) := by decide +kernel
theorem twd_mo_drop_17 : decode prog_11_method_3_code 17 = .ok (.istore_n 1, 1) := by decide +kernel
theorem twd_mo_drop_18 : decode prog_11_method_3_code 18 = .ok (.aload_n 0, 1) := by decide +kernel
theorem twd_mo_drop_19 : decode prog_11_method_3_code 19 = .ok (.iload_n 1, 1) := by decide +kernel
theorem twd_mo_drop_20 : decode prog_11_method_3_code 20 = .ok (.ifCond .eq 12, 3) := by decide +kernel
theorem twd_mo_drop_23 : decode prog_11_method_3_code 23 = .ok (.aload_n 0, 1) := by decide +kernel
theorem twd_mo_drop_24 : decode prog_11_method_3_code 24 = .ok (.getfield 69, 3) := by decide +kernel
theorem twd_mo_drop_27 : decode prog_11_method_3_code 27 = .ok (.iconst 1, 1) := by decide +kernel
theorem twd_mo_drop_28 : decode prog_11_method_3_code 28 = .ok (.isub, 1) := by decide +kernel
theorem twd_mo_drop_29 : decode prog_11_method_3_code 29 = .ok (.goto 4, 3) := by decide +kernel
theorem twd_mo_drop_32 : decode prog_11_method_3_code 32 = .ok (.iconst 0, 1) := by decide +kernel
theorem twd_mo_drop_33 : decode prog_11_method_3_code 33 = .ok (.putfield 69, 3) := by decide +kernel
theorem twd_mo_drop_36 : decode prog_11_method_3_code 36 = .ok (.iload_n 1, 1) := by decide +kernel
theorem twd_mo_drop_37 : decode prog_11_method_3_code 37 = .ok (.ireturn, 1) := by decide +kernel
theorem twk_mo_drop : tw_dc twy_mo_drop 0 := ⟨by decide +kernel, by decide +kernel, by decide +kernel⟩
theorem twd_mo_clear_0 : decode prog_11_method_4_code 0 = .ok (.aload_n 0, 1) := by decide +kernel
theorem twd_mo_clear_1 : decode prog_11_method_4_code 1 = .ok (.iconst 0, 1) := by decide +kernel
theorem twd_mo_clear_2 : decode prog_11_method_4_code 2 = .ok (.putfield 69, 3) := by decide +kernel
theorem twd_mo_clear_5 : decode prog_11_method_4_code 5 = .ok (.aload_n 0, 1) := by decide +kernel
theorem twd_mo_clear_6 : decode prog_11_method_4_code 6 = .ok (.iconst 0, 1) := by decide +kernel
theorem twd_mo_clear_7 : decode prog_11_method_4_code 7 = .ok (.putfield 72, 3) := by decide +kernel
theorem twd_mo_clear_10 : decode prog_11_method_4_code 10 = .ok (.return_, 1) := by decide +kernel
theorem twk_mo_clear : tw_dc twy_mo_clear 0 := ⟨by decide +kernel, by decide +kernel, by decide +kernel⟩
theorem twd_mo_base_0 : decode prog_11_method_5_code 0 = .ok (.iload_n 1, 1) := by decide +kernel
theorem twd_mo_base_1 : decode prog_11_method_5_code 1 = .ok (.ifCond .lt 8, 3) := by decide +kernel
theorem twd_mo_base_4 : decode prog_11_method_5_code 4 = .ok (.iload_n 1, 1) := by decide +kernel
theorem twd_mo_base_5 : decode prog_11_method_5_code 5 = .ok (.iconst 2, 1) := by decide +kernel
theorem twd_mo_base_6 : decode prog_11_method_5_code 6 = .ok (.if_icmp .le 5, 3) := by decide +kernel
theorem twd_mo_base_9 : decode prog_11_method_5_code 9 = .ok (.iconst 0, 1) := by decide +kernel
theorem twd_mo_base_10 : decode prog_11_method_5_code 10 = .ok (.ireturn, 1) := by decide +kernel
theorem twd_mo_base_11 : decode prog_11_method_5_code 11 = .ok (.aload_n 0, 1) := by decide +kernel
theorem twd_mo_base_12 : decode prog_11_method_5_code 12 = .ok (.iload_n 1, 1) := by decide +kernel
theorem twd_mo_base_13 : decode prog_11_method_5_code 13 = .ok (.putfield 7, 3) := by decide +kernel
theorem twd_mo_base_16 : decode prog_11_method_5_code 16 = .ok (.aload_n 0, 1) := by decide +kernel
theorem twd_mo_base_17 : decode prog_11_method_5_code 17 = .ok (.iconst 0, 1) := by decide +kernel
theorem twd_mo_base_18 : decode prog_11_method_5_code 18 = .ok (.putfield 72, 3) := by decide +kernel
theorem twd_mo_base_21 : decode prog_11_method_5_code 21 = .ok (.iconst 1, 1) := by decide +kernel
theorem twd_mo_base_22 : decode prog_11_method_5_code 22 = .ok (.ireturn, 1) := by decide +kernel
theorem twk_mo_base : tw_dc twy_mo_base 1 := ⟨by decide +kernel, by decide +kernel, by decide +kernel⟩
theorem twd_mo_measure_0 : decode prog_11_method_6_code 0 = .ok (.iload_n 1, 1) := by decide +kernel
theorem twd_mo_measure_1 : decode prog_11_method_6_code 1 = .ok (.iconst 1, 1) := by decide +kernel
theorem twd_mo_measure_2 : decode prog_11_method_6_code 2 = .ok (.if_icmp .lt 9, 3) := by decide +kernel
theorem twd_mo_measure_5 : decode prog_11_method_6_code 5 = .ok (.iload_n 1, 1) := by decide +kernel
theorem twd_mo_measure_6 : decode prog_11_method_6_code 6 = .ok (.bipush 100, 2) := by decide +kernel
theorem twd_mo_measure_8 : decode prog_11_method_6_code 8 = .ok (.if_icmp .le 5, 3) := by decide +kernel
theorem twd_mo_measure_11 : decode prog_11_method_6_code 11 = .ok (.iconst 0, 1) := by decide +kernel
theorem twd_mo_measure_12 : decode prog_11_method_6_code 12 = .ok (.ireturn, 1) := by decide +kernel
theorem twd_mo_measure_13 : decode prog_11_method_6_code 13 = .ok (.aload_n 0, 1) := by decide +kernel
theorem twd_mo_measure_14 : decode prog_11_method_6_code 14 = .ok (.iload_n 1, 1) := by decide +kernel
theorem twd_mo_measure_15 : decode prog_11_method_6_code 15 = .ok (.putfield 13, 3) := by decide +kernel
theorem twd_mo_measure_18 : decode prog_11_method_6_code 18 = .ok (.aload_n 0, 1) := by decide +kernel
theorem twd_mo_measure_19 : decode prog_11_method_6_code 19 = .ok (.iconst 0, 1) := by decide +kernel
theorem twd_mo_measure_20 : decode prog_11_method_6_code 20 = .ok (.putfield 72, 3) := by decide +kernel
theorem twd_mo_measure_23 : decode prog_11_method_6_code 23 = .ok (.iconst 1, 1) := by decide +kernel
theorem twd_mo_measure_24 : decode prog_11_method_6_code 24 = .ok (.ireturn, 1) := by decide +kernel
theorem twk_mo_measure : tw_dc twy_mo_measure 1 := ⟨by decide +kernel, by decide +kernel, by decide +kernel⟩
theorem twd_mo_length_0 : decode prog_11_method_7_code 0 = .ok (.aload_n 0, 1) := by decide +kernel
theorem twd_mo_length_1 : decode prog_11_method_7_code 1 = .ok (.getfield 69, 3) := by decide +kernel
theorem twd_mo_length_4 : decode prog_11_method_7_code 4 = .ok (.ireturn, 1) := by decide +kernel
theorem twk_mo_length : tw_dc twy_mo_length 0 := ⟨by decide +kernel, by decide +kernel, by decide +kernel⟩
theorem twd_mo_opener_0 : decode prog_11_method_8_code 0 = .ok (.aload_n 0, 1) := by decide +kernel
theorem twd_mo_opener_1 : decode prog_11_method_8_code 1 = .ok (.getfield 16, 3) := by decide +kernel
theorem twd_mo_opener_4 : decode prog_11_method_8_code 4 = .ok (.iload_n 1, 1) := by decide +kernel
theorem twd_mo_opener_5 : decode prog_11_method_8_code 5 = .ok (.iaload, 1) := by decide +kernel
theorem twd_mo_opener_6 : decode prog_11_method_8_code 6 = .ok (.bipush 17, 2) := by decide +kernel
theorem twd_mo_opener_8 : decode prog_11_method_8_code 8 = .ok (.if_icmp .lt 18, 3) := by decide +kernel
theorem twd_mo_opener_11 : decode prog_11_method_8_code 11 = .ok (.aload_n 0, 1) := by decide +kernel
theorem twd_mo_opener_12 : decode prog_11_method_8_code 12 = .ok (.getfield 16, 3) := by decide +kernel
theorem twd_mo_opener_15 : decode prog_11_method_8_code 15 = .ok (.iload_n 1, 1) := by decide +kernel
theorem twd_mo_opener_16 : decode prog_11_method_8_code 16 = .ok (.iaload, 1) := by decide +kernel
theorem twd_mo_opener_17 : decode prog_11_method_8_code 17 = .ok (.bipush 19, 2) := by decide +kernel
theorem twd_mo_opener_19 : decode prog_11_method_8_code 19 = .ok (.if_icmp .gt 7, 3) := by decide +kernel
theorem twd_mo_opener_22 : decode prog_11_method_8_code 22 = .ok (.iconst 1, 1) := by decide +kernel
theorem twd_mo_opener_23 : decode prog_11_method_8_code 23 = .ok (.goto 4, 3) := by decide +kernel
theorem twd_mo_opener_26 : decode prog_11_method_8_code 26 = .ok (.iconst 0, 1) := by decide +kernel
theorem twd_mo_opener_27 : decode prog_11_method_8_code 27 = .ok (.ireturn, 1) := by decide +kernel
theorem twk_mo_opener : tw_dc twy_mo_opener 1 := ⟨by decide +kernel, by decide +kernel, by decide +kernel⟩
theorem twd_mo_hidden_0 : decode prog_11_method_9_code 0 = .ok (.aload_n 0, 1) := by decide +kernel
theorem twd_mo_hidden_1 : decode prog_11_method_9_code 1 = .ok (.getfield 16, 3) := by decide +kernel
theorem twd_mo_hidden_4 : decode prog_11_method_9_code 4 = .ok (.iload_n 1, 1) := by decide +kernel
theorem twd_mo_hidden_5 : decode prog_11_method_9_code 5 = .ok (.iaload, 1) := by decide +kernel
theorem twd_mo_hidden_6 : decode prog_11_method_9_code 6 = .ok (.bipush 12, 2) := by decide +kernel
theorem twd_mo_hidden_8 : decode prog_11_method_9_code 8 = .ok (.if_icmp .lt 18, 3) := by decide +kernel
theorem twd_mo_hidden_11 : decode prog_11_method_9_code 11 = .ok (.aload_n 0, 1) := by decide +kernel
theorem twd_mo_hidden_12 : decode prog_11_method_9_code 12 = .ok (.getfield 16, 3) := by decide +kernel
theorem twd_mo_hidden_15 : decode prog_11_method_9_code 15 = .ok (.iload_n 1, 1) := by decide +kernel
theorem twd_mo_hidden_16 : decode prog_11_method_9_code 16 = .ok (.iaload, 1) := by decide +kernel
theorem twd_mo_hidden_17 : decode prog_11_method_9_code 17 = .ok (.bipush 16, 2) := by decide +kernel
theorem twd_mo_hidden_19 : decode prog_11_method_9_code 19 = .ok (.if_icmp .gt 7, 3) := by decide +kernel
theorem twd_mo_hidden_22 : decode prog_11_method_9_code 22 = .ok (.iconst 1, 1) := by decide +kernel
theorem twd_mo_hidden_23 : decode prog_11_method_9_code 23 = .ok (.goto 4, 3) := by decide +kernel
theorem twd_mo_hidden_26 : decode prog_11_method_9_code 26 = .ok (.iconst 0, 1) := by decide +kernel
theorem twd_mo_hidden_27 : decode prog_11_method_9_code 27 = .ok (.ireturn, 1) := by decide +kernel
theorem twk_mo_hidden : tw_dc twy_mo_hidden 1 := ⟨by decide +kernel, by decide +kernel, by decide +kernel⟩
theorem twd_mo_closing_0 : decode prog_11_method_10_code 0 = .ok (.iconst 0, 1) := by decide +kernel
theorem twd_mo_closing_1 : decode prog_11_method_10_code 1 = .ok (.istore_n 2, 1) := by decide +kernel
theorem twd_mo_closing_2 : decode prog_11_method_10_code 2 = .ok (.iload_n 1, 1) := by decide +kernel
theorem twd_mo_closing_3 : decode prog_11_method_10_code 3 = .ok (.iconst 1, 1) := by decide +kernel
theorem twd_mo_closing_4 : decode prog_11_method_10_code 4 = .ok (.iadd, 1) := by decide +kernel
theorem twd_mo_closing_5 : decode prog_11_method_10_code 5 = .ok (.istore_n 3, 1) := by decide +kernel
theorem twd_mo_closing_6 : decode prog_11_method_10_code 6 = .ok (.iload_n 3, 1) := by decide +kernel
theorem twd_mo_closing_7 : decode prog_11_method_10_code 7 = .ok (.aload_n 0, 1) := by decide +kernel
theorem twd_mo_closing_8 : decode prog_11_method_10_code 8 = .ok (.getfield 69, 3) := by decide +kernel
theorem twd_mo_closing_11 : decode prog_11_method_10_code 11 = .ok (.if_icmp .ge 57, 3) := by decide +kernel
theorem twd_mo_closing_14 : decode prog_11_method_10_code 14 = .ok (.aload_n 0, 1) := by decide +kernel
theorem twd_mo_closing_15 : decode prog_11_method_10_code 15 = .ok (.getfield 16, 3) := by decide +kernel
theorem twd_mo_closing_18 : decode prog_11_method_10_code 18 = .ok (.iload_n 3, 1) := by decide +kernel
theorem twd_mo_closing_19 : decode prog_11_method_10_code 19 = .ok (.iaload, 1) := by decide +kernel
theorem twd_mo_closing_20 : decode prog_11_method_10_code 20 = .ok (.bipush 20, 2) := by decide +kernel
theorem twd_mo_closing_22 : decode prog_11_method_10_code 22 = .ok (.if_icmp .ne 9, 3) := by decide +kernel
theorem twd_mo_closing_25 : decode prog_11_method_10_code 25 = .ok (.iload_n 2, 1) := by decide +kernel
theorem twd_mo_closing_26 : decode prog_11_method_10_code 26 = .ok (.ifCond .ne 5, 3) := by decide +kernel
theorem twd_mo_closing_29 : decode prog_11_method_10_code 29 = .ok (.iload_n 3, 1) := by decide +kernel
theorem twd_mo_closing_30 : decode prog_11_method_10_code 30 = .ok (.ireturn, 1) := by decide +kernel
theorem twd_mo_closing_31 : decode prog_11_method_10_code 31 = .ok (.iload_n 2, 1) := by decide +kernel
theorem twd_mo_closing_32 : decode prog_11_method_10_code 32 = .ok (.aload_n 0, 1) := by decide +kernel
theorem twd_mo_closing_33 : decode prog_11_method_10_code 33 = .ok (.getfield 16, 3) := by decide +kernel
theorem twd_mo_closing_36 : decode prog_11_method_10_code 36 = .ok (.iload_n 3, 1) := by decide +kernel
theorem twd_mo_closing_37 : decode prog_11_method_10_code 37 = .ok (.iaload, 1) := by decide +kernel
theorem twd_mo_closing_38 : decode prog_11_method_10_code 38 = .ok (.bipush 20, 2) := by decide +kernel
theorem twd_mo_closing_40 : decode prog_11_method_10_code 40 = .ok (.if_icmp .ne 7, 3) := by decide +kernel
theorem twd_mo_closing_43 : decode prog_11_method_10_code 43 = .ok (.iconst (-1), 1) := by decide +kernel
theorem twd_mo_closing_44 : decode prog_11_method_10_code 44 = .ok (.goto 16, 3) := by decide +kernel
theorem twd_mo_closing_47 : decode prog_11_method_10_code 47 = .ok (.aload_n 0, 1) := by decide +kernel
theorem twd_mo_closing_48 : decode prog_11_method_10_code 48 = .ok (.iload_n 3, 1) := by decide +kernel
theorem twd_mo_closing_49 : decode prog_11_method_10_code 49 = .ok (.invokevirtual 76, 3) := by decide +kernel
theorem twd_mo_closing_52 : decode prog_11_method_10_code 52 = .ok (.ifCond .eq 7, 3) := by decide +kernel
theorem twd_mo_closing_55 : decode prog_11_method_10_code 55 = .ok (.iconst 1, 1) := by decide +kernel
theorem twd_mo_closing_56 : decode prog_11_method_10_code 56 = .ok (.goto 4, 3) := by decide +kernel
theorem twd_mo_closing_59 : decode prog_11_method_10_code 59 = .ok (.iconst 0, 1) := by decide +kernel
theorem twd_mo_closing_60 : decode prog_11_method_10_code 60 = .ok (.iadd, 1) := by decide +kernel
theorem twd_mo_closing_61 : decode prog_11_method_10_code 61 = .ok (.istore_n 2, 1) := by decide +kernel
theorem twd_mo_closing_62 : decode prog_11_method_10_code 62 = .ok (.iinc 3 1, 3) := by decide +kernel
theorem twd_mo_closing_65 : decode prog_11_method_10_code 65 = .ok (.goto (-59), 3) := by decide +kernel
theorem twd_mo_closing_68 : decode prog_11_method_10_code 68 = .ok (.iconst (-1), 1) := by decide +kernel
theorem twd_mo_closing_69 : decode prog_11_method_10_code 69 = .ok (.ireturn, 1) := by decide +kernel
theorem twk_mo_closing : tw_dc twy_mo_closing 1 := ⟨by decide +kernel, by decide +kernel, by decide +kernel⟩
theorem twd_mo_match_0 : decode prog_11_method_11_code 0 = .ok (.iload_n 1, 1) := by decide +kernel
theorem twd_mo_match_1 : decode prog_11_method_11_code 1 = .ok (.ifCond .lt 11, 3) := by decide +kernel
theorem twd_mo_match_4 : decode prog_11_method_11_code 4 = .ok (.iload_n 1, 1) := by decide +kernel
theorem twd_mo_match_5 : decode prog_11_method_11_code 5 = .ok (.aload_n 0, 1) := by decide +kernel
theorem twd_mo_match_6 : decode prog_11_method_11_code 6 = .ok (.getfield 69, 3) := by decide +kernel
theorem twd_mo_match_9 : decode prog_11_method_11_code 9 = .ok (.if_icmp .lt 5, 3) := by decide +kernel
theorem twd_mo_match_12 : decode prog_11_method_11_code 12 = .ok (.iconst (-1), 1) := by decide +kernel
theorem twd_mo_match_13 : decode prog_11_method_11_code 13 = .ok (.ireturn, 1) := by decide +kernel
theorem twd_mo_match_14 : decode prog_11_method_11_code 14 = .ok (.aload_n 0, 1) := by decide +kernel
theorem twd_mo_match_15 : decode prog_11_method_11_code 15 = .ok (.iload_n 1, 1) := by decide +kernel
theorem twd_mo_match_16 : decode prog_11_method_11_code 16 = .ok (.invokevirtual 76, 3) := by decide +kernel
theorem twd_mo_match_19 : decode prog_11_method_11_code 19 = .ok (.ifCond .eq 9, 3) := by decide +kernel
theorem twd_mo_match_22 : decode prog_11_method_11_code 22 = .ok (.aload_n 0, 1) := by decide +kernel
theorem twd_mo_match_23 : decode prog_11_method_11_code 23 = .ok (.iload_n 1, 1) := by decide +kernel
theorem twd_mo_match_24 : decode prog_11_method_11_code 24 = .ok (.invokevirtual 80, 3) := by decide +kernel
theorem twd_mo_match_27 : decode prog_11_method_11_code 27 = .ok (.ireturn, 1) := by decide +kernel
theorem twd_mo_match_28 : decode prog_11_method_11_code 28 = .ok (.iconst 0, 1) := by decide +kernel
theorem twd_mo_match_29 : decode prog_11_method_11_code 29 = .ok (.istore_n 2, 1) := by decide +kernel
theorem twd_mo_match_30 : decode prog_11_method_11_code 30 = .ok (.iload_n 2, 1) := by decide +kernel
theorem twd_mo_match_31 : decode prog_11_method_11_code 31 = .ok (.iload_n 1, 1) := by decide +kernel
theorem twd_mo_match_32 : decode prog_11_method_11_code 32 = .ok (.if_icmp .ge 39, 3) := by decide +kernel
theorem twd_mo_match_35 : decode prog_11_method_11_code 35 = .ok (.aload_n 0, 1) := by decide +kernel
theorem twd_mo_match_36 : decode prog_11_method_11_code 36 = .ok (.getfield 16, 3) := by decide +kernel
theorem twd_mo_match_39 : decode prog_11_method_11_code 39 = .ok (.iload_n 1, 1) := by decide +kernel
theorem twd_mo_match_40 : decode prog_11_method_11_code 40 = .ok (.iaload, 1) := by decide +kernel
theorem twd_mo_match_41 : decode prog_11_method_11_code 41 = .ok (.bipush 20, 2) := by decide +kernel
theorem twd_mo_match_43 : decode prog_11_method_11_code 43 = .ok (.if_icmp .ne 28, 3) := by decide +kernel
theorem twd_mo_match_46 : decode prog_11_method_11_code 46 = .ok (.aload_n 0, 1) := by decide +kernel
theorem twd_mo_match_47 : decode prog_11_method_11_code 47 = .ok (.iload_n 2, 1) := by decide +kernel
theorem twd_mo_match_48 : decode prog_11_method_11_code 48 = .ok (.invokevirtual 76, 3) := by decide +kernel
theorem twd_mo_match_51 : decode prog_11_method_11_code 51 = .ok (.ifCond .eq 14, 3) := by decide +kernel
theorem twd_mo_match_54 : decode prog_11_method_11_code 54 = .ok (.aload_n 0, 1) := by decide +kernel
theorem twd_mo_match_55 : decode prog_11_method_11_code 55 = .ok (.iload_n 2, 1) := by decide +kernel
theorem twd_mo_match_56 : decode prog_11_method_11_code 56 = .ok (.invokevirtual 80, 3) := by decide +kernel
theorem twd_mo_match_59 : decode prog_11_method_11_code 59 = .ok (.iload_n 1, 1) := by decide +kernel
theorem twd_mo_match_60 : decode prog_11_method_11_code 60 = .ok (.if_icmp .ne 5, 3) := by decide +kernel
theorem twd_mo_match_63 : decode prog_11_method_11_code 63 = .ok (.iload_n 2, 1) := by decide +kernel
theorem twd_mo_match_64 : decode prog_11_method_11_code 64 = .ok (.ireturn, 1) := by decide +kernel
theorem twd_mo_match_65 : decode prog_11_method_11_code 65 = .ok (.iinc 2 1, 3) := by decide +kernel
theorem twd_mo_match_68 : decode prog_11_method_11_code 68 = .ok (.goto (-38), 3) := by decide +kernel
theorem twd_mo_match_71 : decode prog_11_method_11_code 71 = .ok (.iconst (-1), 1) := by decide +kernel
theorem twd_mo_match_72 : decode prog_11_method_11_code 72 = .ok (.ireturn, 1) := by decide +kernel
theorem twk_mo_match : tw_dc twy_mo_match 1 := ⟨by decide +kernel, by decide +kernel, by decide +kernel⟩
theorem twd_mo_direction_0 : decode prog_11_method_12_code 0 = .ok (.iload_n 1, 1) := by decide +kernel
theorem twd_mo_direction_1 : decode prog_11_method_12_code 1 = .ok (.istore_n 3, 1) := by decide +kernel
theorem twd_mo_direction_2 : decode prog_11_method_12_code 2 = .ok (.iload_n 3, 1) := by decide +kernel
theorem twd_mo_direction_3 : decode prog_11_method_12_code 3 = .ok (.iload_n 2, 1) := by decide +kernel
theorem twd_mo_direction_4 : decode prog_11_method_12_code 4 = .ok (.if_icmp .ge 59, 3) := by decide +kernel
theorem twd_mo_direction_7 : decode prog_11_method_12_code 7 = .ok (.aload_n 0, 1) := by decide +kernel
theorem twd_mo_direction_8 : decode prog_11_method_12_code 8 = .ok (.getfield 16, 3) := by decide +kernel
theorem twd_mo_direction_11 : decode prog_11_method_12_code 11 = .ok (.iload_n 3, 1) := by decide +kernel
theorem twd_mo_direction_12 : decode prog_11_method_12_code 12 = .ok (.iaload, 1) := by decide +kernel
theorem twd_mo_direction_13 : decode prog_11_method_12_code 13 = .ok (.iconst 2, 1) := by decide +kernel
theorem twd_mo_direction_14 : decode prog_11_method_12_code 14 = .ok (.if_icmp .gt 18, 3) := by decide +kernel
theorem twd_mo_direction_17 : decode prog_11_method_12_code 17 = .ok (.aload_n 0, 1) := by decide +kernel
theorem twd_mo_direction_18 : decode prog_11_method_12_code 18 = .ok (.getfield 16, 3) := by decide +kernel
theorem twd_mo_direction_21 : decode prog_11_method_12_code 21 = .ok (.iload_n 3, 1) := by decide +kernel
theorem twd_mo_direction_22 : decode prog_11_method_12_code 22 = .ok (.iaload, 1) := by decide +kernel
theorem twd_mo_direction_23 : decode prog_11_method_12_code 23 = .ok (.ifCond .ne 7, 3) := by decide +kernel
theorem twd_mo_direction_26 : decode prog_11_method_12_code 26 = .ok (.iconst 0, 1) := by decide +kernel
theorem twd_mo_direction_27 : decode prog_11_method_12_code 27 = .ok (.goto 4, 3) := by decide +kernel
theorem twd_mo_direction_30 : decode prog_11_method_12_code 30 = .ok (.iconst 1, 1) := by decide +kernel
theorem twd_mo_direction_31 : decode prog_11_method_12_code 31 = .ok (.ireturn, 1) := by decide +kernel
theorem twd_mo_direction_32 : decode prog_11_method_12_code 32 = .ok (.aload_n 0, 1) := by decide +kernel
theorem twd_mo_direction_33 : decode prog_11_method_12_code 33 = .ok (.iload_n 3, 1) := by decide +kernel
theorem twd_mo_direction_34 : decode prog_11_method_12_code 34 = .ok (.invokevirtual 76, 3) := by decide +kernel
theorem twd_mo_direction_37 : decode prog_11_method_12_code 37 = .ok (.ifCond .eq 20, 3) := by decide +kernel
theorem twd_mo_direction_40 : decode prog_11_method_12_code 40 = .ok (.aload_n 0, 1) := by decide +kernel
theorem twd_mo_direction_41 : decode prog_11_method_12_code 41 = .ok (.iload_n 3, 1) := by decide +kernel
theorem twd_mo_direction_42 : decode prog_11_method_12_code 42 = .ok (.invokevirtual 80, 3) := by decide +kernel
theorem twd_mo_direction_45 : decode prog_11_method_12_code 45 = .ok (.istore 4, 2) := by decide +kernel
theorem twd_mo_direction_47 : decode prog_11_method_12_code 47 = .ok (.iload 4, 2) := by decide +kernel
theorem twd_mo_direction_49 : decode prog_11_method_12_code 49 = .ok (.ifCond .ge 5, 3) := by decide +kernel
theorem twd_mo_direction_52 : decode prog_11_method_12_code 52 = .ok (.iconst 0, 1) := by decide +kernel
theorem twd_mo_direction_53 : decode prog_11_method_12_code 53 = .ok (.ireturn, 1) := by decide +kernel
theorem twd_mo_direction_54 : decode prog_11_method_12_code 54 = .ok (.iload 4, 2) := by decide +kernel
theorem twd_mo_direction_56 : decode prog_11_method_12_code 56 = .ok (.istore_n 3, 1) := by decide +kernel
theorem twd_mo_direction_57 : decode prog_11_method_12_code 57 = .ok (.iinc 3 1, 3) := by decide +kernel
theorem twd_mo_direction_60 : decode prog_11_method_12_code 60 = .ok (.goto (-58), 3) := by decide +kernel
theorem twd_mo_direction_63 : decode prog_11_method_12_code 63 = .ok (.iconst 0, 1) := by decide +kernel
theorem twd_mo_direction_64 : decode prog_11_method_12_code 64 = .ok (.ireturn, 1) := by decide +kernel
theorem twk_mo_direction : tw_dc twy_mo_direction 2 := ⟨by decide +kernel, by decide +kernel, by decide +kernel⟩
theorem twd_mo_put_0 : decode prog_11_method_13_code 0 = .ok (.aload_n 0, 1) := by decide +kernel
theorem twd_mo_put_1 : decode prog_11_method_13_code 1 = .ok (.dup, 1) := by decide +kernel
theorem twd_mo_put_2 : decode prog_11_method_13_code 2 = .ok (.getfield 84, 3) := by decide +kernel
theorem twd_mo_put_5 : decode prog_11_method_13_code 5 = .ok (.iconst 1, 1) := by decide +kernel
theorem twd_mo_put_6 : decode prog_11_method_13_code 6 = .ok (.iadd, 1) := by decide +kernel
theorem twd_mo_put_7 : decode prog_11_method_13_code 7 = .ok (.putfield 84, 3) := by decide +kernel
theorem twd_mo_put_10 : decode prog_11_method_13_code 10 = .ok (.aload_n 0, 1) := by decide +kernel
theorem twd_mo_put_11 : decode prog_11_method_13_code 11 = .ok (.getfield 41, 3) := by decide +kernel
theorem twd_mo_put_14 : decode prog_11_method_13_code 14 = .ok (.aload_n 0, 1) := by decide +kernel
theorem twd_mo_put_15 : decode prog_11_method_13_code 15 = .ok (.getfield 84, 3) := by decide +kernel
theorem twd_mo_put_18 : decode prog_11_method_13_code 18 = .ok (.iload_n 1, 1) := by decide +kernel
theorem twd_mo_put_19 : decode prog_11_method_13_code 19 = .ok (.iastore, 1) := by decide +kernel
theorem twd_mo_put_20 : decode prog_11_method_13_code 20 = .ok (.aload_n 0, 1) := by decide +kernel
theorem twd_mo_put_21 : decode prog_11_method_13_code 21 = .ok (.getfield 44, 3) := by decide +kernel
theorem twd_mo_put_24 : decode prog_11_method_13_code 24 = .ok (.aload_n 0, 1) := by decide +kernel
theorem twd_mo_put_25 : decode prog_11_method_13_code 25 = .ok (.getfield 84, 3) := by decide +kernel
theorem twd_mo_put_28 : decode prog_11_method_13_code 28 = .ok (.iload_n 2, 1) := by decide +kernel
theorem twd_mo_put_29 : decode prog_11_method_13_code 29 = .ok (.iastore, 1) := by decide +kernel
theorem twd_mo_put_30 : decode prog_11_method_13_code 30 = .ok (.aload_n 0, 1) := by decide +kernel
theorem twd_mo_put_31 : decode prog_11_method_13_code 31 = .ok (.getfield 47, 3) := by decide +kernel
theorem twd_mo_put_34 : decode prog_11_method_13_code 34 = .ok (.aload_n 0, 1) := by decide +kernel
theorem twd_mo_put_35 : decode prog_11_method_13_code 35 = .ok (.getfield 84, 3) := by decide +kernel
theorem twd_mo_put_38 : decode prog_11_method_13_code 38 = .ok (.iload_n 3, 1) := by decide +kernel
theorem twd_mo_put_39 : decode prog_11_method_13_code 39 = .ok (.bastore, 1) := by decide +kernel
theorem twd_mo_put_40 : decode prog_11_method_13_code 40 = .ok (.return_, 1) := by decide +kernel
theorem twk_mo_put : tw_dc twy_mo_put 3 := ⟨by decide +kernel, by decide +kernel, by decide +kernel⟩
theorem twd_mo_next_0 : decode prog_11_method_14_code 0 = .ok (.aload_n 0, 1) := by decide +kernel
theorem twd_mo_next_1 : decode prog_11_method_14_code 1 = .ok (.getfield 41, 3) := by decide +kernel
theorem twd_mo_next_4 : decode prog_11_method_14_code 4 = .ok (.aload_n 0, 1) := by decide +kernel
theorem twd_mo_next_5 : decode prog_11_method_14_code 5 = .ok (.getfield 84, 3) := by decide +kernel
theorem twd_mo_next_8 : decode prog_11_method_14_code 8 = .ok (.iaload, 1) := by decide +kernel
theorem twd_mo_next_9 : decode prog_11_method_14_code 9 = .ok (.iconst 1, 1) := by decide +kernel
theorem twd_mo_next_10 : decode prog_11_method_14_code 10 = .ok (.iadd, 1) := by decide +kernel
theorem twd_mo_next_11 : decode prog_11_method_14_code 11 = .ok (.istore_n 2, 1) := by decide +kernel
theorem twd_mo_next_12 : decode prog_11_method_14_code 12 = .ok (.iload_n 2, 1) := by decide +kernel
theorem twd_mo_next_13 : decode prog_11_method_14_code 13 = .ok (.iconst 2, 1) := by decide +kernel
theorem twd_mo_next_14 : decode prog_11_method_14_code 14 = .ok (.irem, 1) := by decide +kernel
theorem twd_mo_next_15 : decode prog_11_method_14_code 15 = .ok (.iconst 1, 1) := by decide +kernel
theorem twd_mo_next_16 : decode prog_11_method_14_code 16 = .ok (.if_icmp .ne 7, 3) := by decide +kernel
theorem twd_mo_next_19 : decode prog_11_method_14_code 19 = .ok (.iconst 1, 1) := by decide +kernel
theorem twd_mo_next_20 : decode prog_11_method_14_code 20 = .ok (.goto 4, 3) := by decide +kernel
theorem twd_mo_next_23 : decode prog_11_method_14_code 23 = .ok (.iconst 0, 1) := by decide +kernel
theorem twd_mo_next_24 : decode prog_11_method_14_code 24 = .ok (.iload_n 1, 1) := by decide +kernel
theorem twd_mo_next_25 : decode prog_11_method_14_code 25 = .ok (.if_icmp .ne 7, 3) := by decide +kernel
theorem twd_mo_next_28 : decode prog_11_method_14_code 28 = .ok (.iload_n 2, 1) := by decide +kernel
theorem twd_mo_next_29 : decode prog_11_method_14_code 29 = .ok (.goto 6, 3) := by decide +kernel
theorem twd_mo_next_32 : decode prog_11_method_14_code 32 = .ok (.iload_n 2, 1) := by decide +kernel
theorem twd_mo_next_33 : decode prog_11_method_14_code 33 = .ok (.iconst 1, 1) := by decide +kernel
theorem twd_mo_next_34 : decode prog_11_method_14_code 34 = .ok (.iadd, 1) := by decide +kernel
theorem twd_mo_next_35 : decode prog_11_method_14_code 35 = .ok (.ireturn, 1) := by decide +kernel
theorem twk_mo_next : tw_dc twy_mo_next 1 := ⟨by decide +kernel, by decide +kernel, by decide +kernel⟩
theorem twd_mo_fits_0 : decode prog_11_method_15_code 0 = .ok (.iload_n 1, 1) := by decide +kernel
theorem twd_mo_fits_1 : decode prog_11_method_15_code 1 = .ok (.iconst 5, 1) := by decide +kernel
theorem twd_mo_fits_2 : decode prog_11_method_15_code 2 = .ok (.if_icmp .gt 21, 3) := by decide +kernel
theorem twd_mo_fits_5 : decode prog_11_method_15_code 5 = .ok (.aload_n 0, 1) := by decide +kernel
theorem twd_mo_fits_6 : decode prog_11_method_15_code 6 = .ok (.getfield 87, 3) := by decide +kernel
theorem twd_mo_fits_9 : decode prog_11_method_15_code 9 = .ok (.ifCond .ne 14, 3) := by decide +kernel
theorem twd_mo_fits_12 : decode prog_11_method_15_code 12 = .ok (.aload_n 0, 1) := by decide +kernel
theorem twd_mo_fits_13 : decode prog_11_method_15_code 13 = .ok (.getfield 90, 3) := by decide +kernel
theorem twd_mo_fits_16 : decode prog_11_method_15_code 16 = .ok (.ifCond .ne 7, 3) := by decide +kernel
theorem twd_mo_fits_19 : decode prog_11_method_15_code 19 = .ok (.iconst 1, 1) := by decide +kernel
theorem twd_mo_fits_20 : decode prog_11_method_15_code 20 = .ok (.goto 4, 3) := by decide +kernel
theorem twd_mo_fits_23 : decode prog_11_method_15_code 23 = .ok (.iconst 0, 1) := by decide +kernel
theorem twd_mo_fits_24 : decode prog_11_method_15_code 24 = .ok (.ireturn, 1) := by decide +kernel
theorem twk_mo_fits : tw_dc twy_mo_fits 1 := ⟨by decide +kernel, by decide +kernel, by decide +kernel⟩
theorem twd_mo_settle_0 : decode prog_11_method_16_code 0 = .ok (.aload_n 0, 1) := by decide +kernel
theorem twd_mo_settle_1 : decode prog_11_method_16_code 1 = .ok (.getfield 29, 3) := by decide +kernel
theorem twd_mo_settle_4 : decode prog_11_method_16_code 4 = .ok (.iload_n 1, 1) := by decide +kernel
theorem twd_mo_settle_5 : decode prog_11_method_16_code 5 = .ok (.aload_n 0, 1) := by decide +kernel
theorem twd_mo_settle_6 : decode prog_11_method_16_code 6 = .ok (.getfield 41, 3) := by decide +kernel
theorem twd_mo_settle_9 : decode prog_11_method_16_code 9 = .ok (.aload_n 0, 1) := by decide +kernel
theorem twd_mo_settle_10 : decode prog_11_method_16_code 10 = .ok (.getfield 84, 3) := by decide +kernel
theorem twd_mo_settle_13 : decode prog_11_method_16_code 13 = .ok (.iaload, 1) := by decide +kernel
theorem twd_mo_settle_14 : decode prog_11_method_16_code 14 = .ok (.iastore, 1) := by decide +kernel
theorem twd_mo_settle_15 : decode prog_11_method_16_code 15 = .ok (.aload_n 0, 1) := by decide +kernel
theorem twd_mo_settle_16 : decode prog_11_method_16_code 16 = .ok (.getfield 32, 3) := by decide +kernel
theorem twd_mo_settle_19 : decode prog_11_method_16_code 19 = .ok (.iload_n 1, 1) := by decide +kernel
theorem twd_mo_settle_20 : decode prog_11_method_16_code 20 = .ok (.aload_n 0, 1) := by decide +kernel
theorem twd_mo_settle_21 : decode prog_11_method_16_code 21 = .ok (.getfield 44, 3) := by decide +kernel
theorem twd_mo_settle_24 : decode prog_11_method_16_code 24 = .ok (.aload_n 0, 1) := by decide +kernel
theorem twd_mo_settle_25 : decode prog_11_method_16_code 25 = .ok (.getfield 84, 3) := by decide +kernel
theorem twd_mo_settle_28 : decode prog_11_method_16_code 28 = .ok (.iaload, 1) := by decide +kernel
theorem twd_mo_settle_29 : decode prog_11_method_16_code 29 = .ok (.ifCond .lt 15, 3) := by decide +kernel
theorem twd_mo_settle_32 : decode prog_11_method_16_code 32 = .ok (.aload_n 0, 1) := by decide +kernel
theorem twd_mo_settle_33 : decode prog_11_method_16_code 33 = .ok (.getfield 44, 3) := by decide +kernel
theorem twd_mo_settle_36 : decode prog_11_method_16_code 36 = .ok (.aload_n 0, 1) := by decide +kernel
theorem twd_mo_settle_37 : decode prog_11_method_16_code 37 = .ok (.getfield 84, 3) := by decide +kernel
theorem twd_mo_settle_40 : decode prog_11_method_16_code 40 = .ok (.iaload, 1) := by decide +kernel
theorem twd_mo_settle_41 : decode prog_11_method_16_code 41 = .ok (.goto 9, 3) := by decide +kernel
theorem twd_mo_settle_44 : decode prog_11_method_16_code 44 = .ok (.aload_n 0, 1) := by decide +kernel
theorem twd_mo_settle_45 : decode prog_11_method_16_code 45 = .ok (.getfield 16, 3) := by decide +kernel
theorem twd_mo_settle_48 : decode prog_11_method_16_code 48 = .ok (.iload_n 1, 1) := by decide +kernel
theorem twd_mo_settle_49 : decode prog_11_method_16_code 49 = .ok (.iaload, 1) := by decide +kernel
theorem twd_mo_settle_50 : decode prog_11_method_16_code 50 = .ok (.iastore, 1) := by decide +kernel
theorem twd_mo_settle_51 : decode prog_11_method_16_code 51 = .ok (.return_, 1) := by decide +kernel
theorem twk_mo_settle : tw_dc twy_mo_settle 1 := ⟨by decide +kernel, by decide +kernel, by decide +kernel⟩
theorem twd_mo_embed_0 : decode prog_11_method_17_code 0 = .ok (.aload_n 0, 1) := by decide +kernel
theorem twd_mo_embed_1 : decode prog_11_method_17_code 1 = .ok (.iload_n 1, 1) := by decide +kernel
theorem twd_mo_embed_2 : decode prog_11_method_17_code 2 = .ok (.bipush 13, 2) := by decide +kernel
theorem twd_mo_embed_4 : decode prog_11_method_17_code 4 = .ok (.if_icmp .eq 9, 3) := by decide +kernel
theorem twd_mo_embed_7 : decode prog_11_method_17_code 7 = .ok (.iload_n 1, 1) := by decide +kernel
theorem twd_mo_embed_8 : decode prog_11_method_17_code 8 = .ok (.bipush 15, 2) := by decide +kernel
theorem twd_mo_embed_10 : decode prog_11_method_17_code 10 = .ok (.if_icmp .ne 7, 3) := by decide +kernel
theorem twd_mo_embed_13 : decode prog_11_method_17_code 13 = .ok (.iconst 1, 1) := by decide +kernel
theorem twd_mo_embed_14 : decode prog_11_method_17_code 14 = .ok (.goto 4, 3) := by decide +kernel
theorem twd_mo_embed_17 : decode prog_11_method_17_code 17 = .ok (.iconst 0, 1) := by decide +kernel
theorem twd_mo_embed_18 : decode prog_11_method_17_code 18 = .ok (.invokevirtual 93, 3) := by decide +kernel
theorem twd_mo_embed_21 : decode prog_11_method_17_code 21 = .ok (.istore_n 2, 1) := by decide +kernel
theorem twd_mo_embed_22 : decode prog_11_method_17_code 22 = .ok (.aload_n 0, 1) := by decide +kernel
theorem twd_mo_embed_23 : decode prog_11_method_17_code 23 = .ok (.iload_n 2, 1) := by decide +kernel
theorem twd_mo_embed_24 : decode prog_11_method_17_code 24 = .ok (.invokevirtual 97, 3) := by decide +kernel
theorem twd_mo_embed_27 : decode prog_11_method_17_code 27 = .ok (.ifCond .eq 33, 3) := by decide +kernel
theorem twd_mo_embed_30 : decode prog_11_method_17_code 30 = .ok (.aload_n 0, 1) := by decide +kernel
theorem twd_mo_embed_31 : decode prog_11_method_17_code 31 = .ok (.iload_n 2, 1) := by decide +kernel
theorem twd_mo_embed_32 : decode prog_11_method_17_code 32 = .ok (.iload_n 1, 1) := by decide +kernel
theorem twd_mo_embed_33 : decode prog_11_method_17_code 33 = .ok (.bipush 14, 2) := by decide +kernel
theorem twd_mo_embed_35 : decode prog_11_method_17_code 35 = .ok (.if_icmp .ne 7, 3) := by decide +kernel
theorem twd_mo_embed_38 : decode prog_11_method_17_code 38 = .ok (.iconst 0, 1) := by decide +kernel
theorem twd_mo_embed_39 : decode prog_11_method_17_code 39 = .ok (.goto 14, 3) := by decide +kernel
theorem twd_mo_embed_42 : decode prog_11_method_17_code 42 = .ok (.iload_n 1, 1) := by decide +kernel
theorem twd_mo_embed_43 : decode prog_11_method_17_code 43 = .ok (.bipush 15, 2) := by decide +kernel
theorem twd_mo_embed_45 : decode prog_11_method_17_code 45 = .ok (.if_icmp .ne 7, 3) := by decide +kernel
theorem twd_mo_embed_48 : decode prog_11_method_17_code 48 = .ok (.iconst 1, 1) := by decide +kernel
theorem twd_mo_embed_49 : decode prog_11_method_17_code 49 = .ok (.goto 4, 3) := by decide +kernel
theorem twd_mo_embed_52 : decode prog_11_method_17_code 52 = .ok (.iconst (-1), 1) := by decide +kernel
theorem twd_mo_embed_53 : decode prog_11_method_17_code 53 = .ok (.iconst 0, 1) := by decide +kernel
theorem twd_mo_embed_54 : decode prog_11_method_17_code 54 = .ok (.invokevirtual 100, 3) := by decide +kernel
theorem twd_mo_embed_57 : decode prog_11_method_17_code 57 = .ok (.goto 20, 3) := by decide +kernel
theorem twd_mo_embed_60 : decode prog_11_method_17_code 60 = .ok (.aload_n 0, 1) := by decide +kernel
theorem twd_mo_embed_61 : decode prog_11_method_17_code 61 = .ok (.getfield 87, 3) := by decide +kernel
theorem twd_mo_embed_64 : decode prog_11_method_17_code 64 = .ok (.ifCond .ne 13, 3) := by decide +kernel
theorem twd_mo_embed_67 : decode prog_11_method_17_code 67 = .ok (.aload_n 0, 1) := by decide +kernel
theorem twd_mo_embed_68 : decode prog_11_method_17_code 68 = .ok (.dup, 1) := by decide +kernel
theorem twd_mo_embed_69 : decode prog_11_method_17_code 69 = .ok (.getfield 90, 3) := by decide +kernel
theorem twd_mo_embed_72 : decode prog_11_method_17_code 72 = .ok (.iconst 1, 1) := by decide +kernel
theorem twd_mo_embed_73 : decode prog_11_method_17_code 73 = .ok (.iadd, 1) := by decide +kernel
theorem twd_mo_embed_74 : decode prog_11_method_17_code 74 = .ok (.putfield 90, 3) := by decide +kernel
theorem twd_mo_embed_77 : decode prog_11_method_17_code 77 = .ok (.return_, 1) := by decide +kernel
theorem twk_mo_embed : tw_dc twy_mo_embed 1 := ⟨by decide +kernel, by decide +kernel, by decide +kernel⟩
theorem twd_mo_isolateAt_0 : decode prog_11_method_18_code 0 = .ok (.aload_n 0, 1) := by decide +kernel
theorem twd_mo_isolateAt_1 : decode prog_11_method_18_code 1 = .ok (.iload_n 1, 1) := by decide +kernel
theorem twd_mo_isolateAt_2 : decode prog_11_method_18_code 2 = .ok (.invokevirtual 104, 3) := by decide +kernel
theorem twd_mo_isolateAt_5 : decode prog_11_method_18_code 5 = .ok (.aload_n 0, 1) := by decide +kernel
theorem twd_mo_isolateAt_6 : decode prog_11_method_18_code 6 = .ok (.iload_n 1, 1) := by decide +kernel
theorem twd_mo_isolateAt_7 : decode prog_11_method_18_code 7 = .ok (.invokevirtual 80, 3) := by decide +kernel
theorem twd_mo_isolateAt_10 : decode prog_11_method_18_code 10 = .ok (.istore_n 2, 1) := by decide +kernel
theorem twd_mo_isolateAt_11 : decode prog_11_method_18_code 11 = .ok (.aload_n 0, 1) := by decide +kernel
theorem twd_mo_isolateAt_12 : decode prog_11_method_18_code 12 = .ok (.getfield 16, 3) := by decide +kernel
theorem twd_mo_isolateAt_15 : decode prog_11_method_18_code 15 = .ok (.iload_n 1, 1) := by decide +kernel
theorem twd_mo_isolateAt_16 : decode prog_11_method_18_code 16 = .ok (.iaload, 1) := by decide +kernel
theorem twd_mo_isolateAt_17 : decode prog_11_method_18_code 17 = .ok (.bipush 18, 2) := by decide +kernel
theorem twd_mo_isolateAt_19 : decode prog_11_method_18_code 19 = .ok (.if_icmp .eq 37, 3) := by decide +kernel
theorem twd_mo_isolateAt_22 : decode prog_11_method_18_code 22 = .ok (.aload_n 0, 1) := by decide +kernel
theorem twd_mo_isolateAt_23 : decode prog_11_method_18_code 23 = .ok (.getfield 16, 3) := by decide +kernel
theorem twd_mo_isolateAt_26 : decode prog_11_method_18_code 26 = .ok (.iload_n 1, 1) := by decide +kernel
theorem twd_mo_isolateAt_27 : decode prog_11_method_18_code 27 = .ok (.iaload, 1) := by decide +kernel
theorem twd_mo_isolateAt_28 : decode prog_11_method_18_code 28 = .ok (.bipush 19, 2) := by decide +kernel
theorem twd_mo_isolateAt_30 : decode prog_11_method_18_code 30 = .ok (.if_icmp .ne 30, 3) := by decide +kernel
theorem twd_mo_isolateAt_33 : decode prog_11_method_18_code 33 = .ok (.aload_n 0, 1) := by decide +kernel
theorem twd_mo_isolateAt_34 : decode prog_11_method_18_code 34 = .ok (.iload_n 1, 1) := by decide +kernel
theorem twd_mo_isolateAt_35 : decode prog_11_method_18_code 35 = .ok (.iconst 1, 1) := by decide +kernel
theorem twd_mo_isolateAt_36 : decode prog_11_method_18_code 36 = .ok (.iadd, 1) := by decide +kernel
theorem twd_mo_isolateAt_37 : decode prog_11_method_18_code 37 = .ok (.iload_n 2, 1) := by decide +kernel
theorem twd_mo_isolateAt_38 : decode prog_11_method_18_code 38 = .ok (.ifCond .ge 10, 3) := by decide +kernel
theorem twd_mo_isolateAt_41 : decode prog_11_method_18_code 41 = .ok (.aload_n 0, 1) := by decide +kernel
theorem twd_mo_isolateAt_42 : decode prog_11_method_18_code 42 = .ok (.getfield 69, 3) := by decide +kernel
theorem twd_mo_isolateAt_45 : decode prog_11_method_18_code 45 = .ok (.goto 4, 3) := by decide +kernel
theorem twd_mo_isolateAt_48 : decode prog_11_method_18_code 48 = .ok (.iload_n 2, 1) := by decide +kernel
theorem twd_mo_isolateAt_49 : decode prog_11_method_18_code 49 = .ok (.invokevirtual 108, 3) := by decide +kernel
theorem twd_mo_isolateAt_52 : decode prog_11_method_18_code 52 = .ok (.iconst 1, 1) := by decide +kernel
theorem twd_mo_isolateAt_53 : decode prog_11_method_18_code 53 = .ok (.if_icmp .ne 7, 3) := by decide +kernel
theorem twd_mo_isolateAt_56 : decode prog_11_method_18_code 56 = .ok (.iconst 1, 1) := by decide +kernel
theorem twd_mo_isolateAt_57 : decode prog_11_method_18_code 57 = .ok (.goto 4, 3) := by decide +kernel
theorem twd_mo_isolateAt_60 : decode prog_11_method_18_code 60 = .ok (.iconst 0, 1) := by decide +kernel
theorem twd_mo_isolateAt_61 : decode prog_11_method_18_code 61 = .ok (.istore_n 3, 1) := by decide +kernel
theorem twd_mo_isolateAt_62 : decode prog_11_method_18_code 62 = .ok (.aload_n 0, 1) := by decide +kernel
theorem twd_mo_isolateAt_63 : decode prog_11_method_18_code 63 = .ok (.iload_n 3, 1) := by decide +kernel
theorem twd_mo_isolateAt_64 : decode prog_11_method_18_code 64 = .ok (.invokevirtual 93, 3) := by decide +kernel
theorem twd_mo_isolateAt_67 : decode prog_11_method_18_code 67 = .ok (.istore 4, 2) := by decide +kernel
theorem twd_mo_isolateAt_69 : decode prog_11_method_18_code 69 = .ok (.aload_n 0, 1) := by decide +kernel
theorem twd_mo_isolateAt_70 : decode prog_11_method_18_code 70 = .ok (.iload 4, 2) := by decide +kernel
theorem twd_mo_isolateAt_72 : decode prog_11_method_18_code 72 = .ok (.invokevirtual 97, 3) := by decide +kernel
theorem twd_mo_isolateAt_75 : decode prog_11_method_18_code 75 = .ok (.ifCond .eq 24, 3) := by decide +kernel
theorem twd_mo_isolateAt_78 : decode prog_11_method_18_code 78 = .ok (.aload_n 0, 1) := by decide +kernel
theorem twd_mo_isolateAt_79 : decode prog_11_method_18_code 79 = .ok (.dup, 1) := by decide +kernel
theorem twd_mo_isolateAt_80 : decode prog_11_method_18_code 80 = .ok (.getfield 112, 3) := by decide +kernel
theorem twd_mo_isolateAt_83 : decode prog_11_method_18_code 83 = .ok (.iconst 1, 1) := by decide +kernel
theorem twd_mo_isolateAt_84 : decode prog_11_method_18_code 84 = .ok (.iadd, 1) := by decide +kernel
theorem twd_mo_isolateAt_85 : decode prog_11_method_18_code 85 = .ok (.putfield 112, 3) := by decide +kernel
theorem twd_mo_isolateAt_88 : decode prog_11_method_18_code 88 = .ok (.aload_n 0, 1) := by decide +kernel
theorem twd_mo_isolateAt_89 : decode prog_11_method_18_code 89 = .ok (.iload 4, 2) := by decide +kernel
theorem twd_mo_isolateAt_91 : decode prog_11_method_18_code 91 = .ok (.iconst (-1), 1) := by decide +kernel
theorem twd_mo_isolateAt_92 : decode prog_11_method_18_code 92 = .ok (.iconst 1, 1) := by decide +kernel
theorem twd_mo_isolateAt_93 : decode prog_11_method_18_code 93 = .ok (.invokevirtual 100, 3) := by decide +kernel
theorem twd_mo_isolateAt_96 : decode prog_11_method_18_code 96 = .ok (.goto 13, 3) := by decide +kernel
theorem twd_mo_isolateAt_99 : decode prog_11_method_18_code 99 = .ok (.aload_n 0, 1) := by decide +kernel
theorem twd_mo_isolateAt_100 : decode prog_11_method_18_code 100 = .ok (.dup, 1) := by decide +kernel
theorem twd_mo_isolateAt_101 : decode prog_11_method_18_code 101 = .ok (.getfield 87, 3) := by decide +kernel
theorem twd_mo_isolateAt_104 : decode prog_11_method_18_code 104 = .ok (.iconst 1, 1) := by decide +kernel
theorem twd_mo_isolateAt_105 : decode prog_11_method_18_code 105 = .ok (.iadd, 1) := by decide +kernel
theorem twd_mo_isolateAt_106 : decode prog_11_method_18_code 106 = .ok (.putfield 87, 3) := by decide +kernel
theorem twd_mo_isolateAt_109 : decode prog_11_method_18_code 109 = .ok (.return_, 1) := by decide +kernel
theorem twk_mo_isolateAt : tw_dc twy_mo_isolateAt 1 := ⟨by decide +kernel, by decide +kernel, by decide +kernel⟩
theorem twd_mo_leave_0 : decode prog_11_method_19_code 0 = .ok (.aload_n 0, 1) := by decide +kernel
theorem twd_mo_leave_1 : decode prog_11_method_19_code 1 = .ok (.getfield 87, 3) := by decide +kernel
theorem twd_mo_leave_4 : decode prog_11_method_19_code 4 = .ok (.ifCond .le 16, 3) := by decide +kernel
theorem twd_mo_leave_7 : decode prog_11_method_19_code 7 = .ok (.aload_n 0, 1) := by decide +kernel
theorem twd_mo_leave_8 : decode prog_11_method_19_code 8 = .ok (.dup, 1) := by decide +kernel
theorem twd_mo_leave_9 : decode prog_11_method_19_code 9 = .ok (.getfield 87, 3) := by decide +kernel
theorem twd_mo_leave_12 : decode prog_11_method_19_code 12 = .ok (.iconst 1, 1) := by decide +kernel
theorem twd_mo_leave_13 : decode prog_11_method_19_code 13 = .ok (.isub, 1) := by decide +kernel
theorem twd_mo_leave_14 : decode prog_11_method_19_code 14 = .ok (.putfield 87, 3) := by decide +kernel
theorem twd_mo_leave_17 : decode prog_11_method_19_code 17 = .ok (.goto 67, 3) := by decide +kernel
theorem twd_mo_leave_20 : decode prog_11_method_19_code 20 = .ok (.aload_n 0, 1) := by decide +kernel
theorem twd_mo_leave_21 : decode prog_11_method_19_code 21 = .ok (.getfield 112, 3) := by decide +kernel
theorem twd_mo_leave_24 : decode prog_11_method_19_code 24 = .ok (.ifCond .le 60, 3) := by decide +kernel
theorem twd_mo_leave_27 : decode prog_11_method_19_code 27 = .ok (.aload_n 0, 1) := by decide +kernel
theorem twd_mo_leave_28 : decode prog_11_method_19_code 28 = .ok (.iconst 0, 1) := by decide +kernel
theorem twd_mo_leave_29 : decode prog_11_method_19_code 29 = .ok (.putfield 90, 3) := by decide +kernel
theorem twd_mo_leave_32 : decode prog_11_method_19_code 32 = .ok (.aload_n 0, 1) := by decide +kernel
theorem twd_mo_leave_33 : decode prog_11_method_19_code 33 = .ok (.getfield 84, 3) := by decide +kernel
theorem twd_mo_leave_36 : decode prog_11_method_19_code 36 = .ok (.ifCond .le 28, 3) := by decide +kernel
theorem twd_mo_leave_39 : decode prog_11_method_19_code 39 = .ok (.aload_n 0, 1) := by decide +kernel
theorem twd_mo_leave_40 : decode prog_11_method_19_code 40 = .ok (.getfield 47, 3) := by decide +kernel
theorem twd_mo_leave_43 : decode prog_11_method_19_code 43 = .ok (.aload_n 0, 1) := by decide +kernel
theorem twd_mo_leave_44 : decode prog_11_method_19_code 44 = .ok (.getfield 84, 3) := by decide +kernel
theorem twd_mo_leave_47 : decode prog_11_method_19_code 47 = .ok (.baload, 1) := by decide +kernel
theorem twd_mo_leave_48 : decode prog_11_method_19_code 48 = .ok (.ifCond .ne 16, 3) := by decide +kernel
theorem twd_mo_leave_51 : decode prog_11_method_19_code 51 = .ok (.aload_n 0, 1) := by decide +kernel
theorem twd_mo_leave_52 : decode prog_11_method_19_code 52 = .ok (.dup, 1) := by decide +kernel
theorem twd_mo_leave_53 : decode prog_11_method_19_code 53 = .ok (.getfield 84, 3) := by decide +kernel
theorem twd_mo_leave_56 : decode prog_11_method_19_code 56 = .ok (.iconst 1, 1) := by decide +kernel
theorem twd_mo_leave_57 : decode prog_11_method_19_code 57 = .ok (.isub, 1) := by decide +kernel
theorem twd_mo_leave_58 : decode prog_11_method_19_code 58 = .ok (.putfield 84, 3) := by decide +kernel
theorem twd_mo_leave_61 : decode prog_11_method_19_code 61 = .ok (.goto (-29), 3) := by decide +kernel
theorem twd_mo_leave_64 : decode prog_11_method_19_code 64 = .ok (.aload_n 0, 1) := by decide +kernel
theorem twd_mo_leave_65 : decode prog_11_method_19_code 65 = .ok (.dup, 1) := by decide +kernel
theorem twd_mo_leave_66 : decode prog_11_method_19_code 66 = .ok (.getfield 84, 3) := by decide +kernel
theorem twd_mo_leave_69 : decode prog_11_method_19_code 69 = .ok (.iconst 1, 1) := by decide +kernel
theorem twd_mo_leave_70 : decode prog_11_method_19_code 70 = .ok (.isub, 1) := by decide +kernel
theorem twd_mo_leave_71 : decode prog_11_method_19_code 71 = .ok (.putfield 84, 3) := by decide +kernel
theorem twd_mo_leave_74 : decode prog_11_method_19_code 74 = .ok (.aload_n 0, 1) := by decide +kernel
theorem twd_mo_leave_75 : decode prog_11_method_19_code 75 = .ok (.dup, 1) := by decide +kernel
theorem twd_mo_leave_76 : decode prog_11_method_19_code 76 = .ok (.getfield 112, 3) := by decide +kernel
theorem twd_mo_leave_79 : decode prog_11_method_19_code 79 = .ok (.iconst 1, 1) := by decide +kernel
theorem twd_mo_leave_80 : decode prog_11_method_19_code 80 = .ok (.isub, 1) := by decide +kernel
theorem twd_mo_leave_81 : decode prog_11_method_19_code 81 = .ok (.putfield 112, 3) := by decide +kernel
theorem twd_mo_leave_84 : decode prog_11_method_19_code 84 = .ok (.aload_n 0, 1) := by decide +kernel
theorem twd_mo_leave_85 : decode prog_11_method_19_code 85 = .ok (.iload_n 1, 1) := by decide +kernel
theorem twd_mo_leave_86 : decode prog_11_method_19_code 86 = .ok (.invokevirtual 104, 3) := by decide +kernel
theorem twd_mo_leave_89 : decode prog_11_method_19_code 89 = .ok (.return_, 1) := by decide +kernel
theorem twk_mo_leave : tw_dc twy_mo_leave 1 := ⟨by decide +kernel, by decide +kernel, by decide +kernel⟩
theorem twd_mo_pop_0 : decode prog_11_method_20_code 0 = .ok (.aload_n 0, 1) := by decide +kernel
theorem twd_mo_pop_1 : decode prog_11_method_20_code 1 = .ok (.getfield 87, 3) := by decide +kernel
theorem twd_mo_pop_4 : decode prog_11_method_20_code 4 = .ok (.ifCond .le 4, 3) := by decide +kernel
theorem twd_mo_pop_7 : decode prog_11_method_20_code 7 = .ok (.return_, 1) := by decide +kernel
theorem twd_mo_pop_8 : decode prog_11_method_20_code 8 = .ok (.aload_n 0, 1) := by decide +kernel
theorem twd_mo_pop_9 : decode prog_11_method_20_code 9 = .ok (.getfield 90, 3) := by decide +kernel
theorem twd_mo_pop_12 : decode prog_11_method_20_code 12 = .ok (.ifCond .le 16, 3) := by decide +kernel
theorem twd_mo_pop_15 : decode prog_11_method_20_code 15 = .ok (.aload_n 0, 1) := by decide +kernel
theorem twd_mo_pop_16 : decode prog_11_method_20_code 16 = .ok (.dup, 1) := by decide +kernel
theorem twd_mo_pop_17 : decode prog_11_method_20_code 17 = .ok (.getfield 90, 3) := by decide +kernel
theorem twd_mo_pop_20 : decode prog_11_method_20_code 20 = .ok (.iconst 1, 1) := by decide +kernel
theorem twd_mo_pop_21 : decode prog_11_method_20_code 21 = .ok (.isub, 1) := by decide +kernel
theorem twd_mo_pop_22 : decode prog_11_method_20_code 22 = .ok (.putfield 90, 3) := by decide +kernel
theorem twd_mo_pop_25 : decode prog_11_method_20_code 25 = .ok (.goto 32, 3) := by decide +kernel
theorem twd_mo_pop_28 : decode prog_11_method_20_code 28 = .ok (.aload_n 0, 1) := by decide +kernel
theorem twd_mo_pop_29 : decode prog_11_method_20_code 29 = .ok (.getfield 84, 3) := by decide +kernel
theorem twd_mo_pop_32 : decode prog_11_method_20_code 32 = .ok (.ifCond .le 25, 3) := by decide +kernel
theorem twd_mo_pop_35 : decode prog_11_method_20_code 35 = .ok (.aload_n 0, 1) := by decide +kernel
theorem twd_mo_pop_36 : decode prog_11_method_20_code 36 = .ok (.getfield 47, 3) := by decide +kernel
theorem twd_mo_pop_39 : decode prog_11_method_20_code 39 = .ok (.aload_n 0, 1) := by decide +kernel
theorem twd_mo_pop_40 : decode prog_11_method_20_code 40 = .ok (.getfield 84, 3) := by decide +kernel
theorem twd_mo_pop_43 : decode prog_11_method_20_code 43 = .ok (.baload, 1) := by decide +kernel
theorem twd_mo_pop_44 : decode prog_11_method_20_code 44 = .ok (.ifCond .ne 13, 3) := by decide +kernel
theorem twd_mo_pop_47 : decode prog_11_method_20_code 47 = .ok (.aload_n 0, 1) := by decide +kernel
theorem twd_mo_pop_48 : decode prog_11_method_20_code 48 = .ok (.dup, 1) := by decide +kernel
theorem twd_mo_pop_49 : decode prog_11_method_20_code 49 = .ok (.getfield 84, 3) := by decide +kernel
theorem twd_mo_pop_52 : decode prog_11_method_20_code 52 = .ok (.iconst 1, 1) := by decide +kernel
theorem twd_mo_pop_53 : decode prog_11_method_20_code 53 = .ok (.isub, 1) := by decide +kernel
theorem twd_mo_pop_54 : decode prog_11_method_20_code 54 = .ok (.putfield 84, 3) := by decide +kernel
theorem twd_mo_pop_57 : decode prog_11_method_20_code 57 = .ok (.return_, 1) := by decide +kernel
theorem twk_mo_pop : tw_dc twy_mo_pop 0 := ⟨by decide +kernel, by decide +kernel, by decide +kernel⟩
theorem twd_mo_explicit_0 : decode prog_11_method_21_code 0 = .ok (.aload_n 0, 1) := by decide +kernel
theorem twd_mo_explicit_1 : decode prog_11_method_21_code 1 = .ok (.aload_n 0, 1) := by decide +kernel
theorem twd_mo_explicit_2 : decode prog_11_method_21_code 2 = .ok (.getfield 7, 3) := by decide +kernel
theorem twd_mo_explicit_5 : decode prog_11_method_21_code 5 = .ok (.iconst 2, 1) := by decide +kernel
theorem twd_mo_explicit_6 : decode prog_11_method_21_code 6 = .ok (.if_icmp .ge 10, 3) := by decide +kernel
theorem twd_mo_explicit_9 : decode prog_11_method_21_code 9 = .ok (.aload_n 0, 1) := by decide +kernel
theorem twd_mo_explicit_10 : decode prog_11_method_21_code 10 = .ok (.getfield 7, 3) := by decide +kernel
theorem twd_mo_explicit_13 : decode prog_11_method_21_code 13 = .ok (.goto 12, 3) := by decide +kernel
theorem twd_mo_explicit_16 : decode prog_11_method_21_code 16 = .ok (.aload_n 0, 1) := by decide +kernel
theorem twd_mo_explicit_17 : decode prog_11_method_21_code 17 = .ok (.iconst 0, 1) := by decide +kernel
theorem twd_mo_explicit_18 : decode prog_11_method_21_code 18 = .ok (.aload_n 0, 1) := by decide +kernel
theorem twd_mo_explicit_19 : decode prog_11_method_21_code 19 = .ok (.getfield 69, 3) := by decide +kernel
theorem twd_mo_explicit_22 : decode prog_11_method_21_code 22 = .ok (.invokevirtual 108, 3) := by decide +kernel
theorem twd_mo_explicit_25 : decode prog_11_method_21_code 25 = .ok (.putfield 115, 3) := by decide +kernel
theorem twd_mo_explicit_28 : decode prog_11_method_21_code 28 = .ok (.aload_n 0, 1) := by decide +kernel
theorem twd_mo_explicit_29 : decode prog_11_method_21_code 29 = .ok (.iconst (-1), 1) := by decide +kernel
theorem twd_mo_explicit_30 : decode prog_11_method_21_code 30 = .ok (.putfield 84, 3) := by decide +kernel
theorem twd_mo_explicit_33 : decode prog_11_method_21_code 33 = .ok (.aload_n 0, 1) := by decide +kernel
theorem twd_mo_explicit_34 : decode prog_11_method_21_code 34 = .ok (.aload_n 0, 1) := by decide +kernel
theorem twd_mo_explicit_35 : decode prog_11_method_21_code 35 = .ok (.getfield 115, 3) := by decide +kernel
theorem twd_mo_explicit_38 : decode prog_11_method_21_code 38 = .ok (.iconst (-1), 1) := by decide +kernel
theorem twd_mo_explicit_39 : decode prog_11_method_21_code 39 = .ok (.iconst 0, 1) := by decide +kernel
theorem twd_mo_explicit_40 : decode prog_11_method_21_code 40 = .ok (.invokevirtual 100, 3) := by decide +kernel
theorem twd_mo_explicit_43 : decode prog_11_method_21_code 43 = .ok (.aload_n 0, 1) := by decide +kernel
theorem twd_mo_explicit_44 : decode prog_11_method_21_code 44 = .ok (.iconst 0, 1) := by decide +kernel
theorem twd_mo_explicit_45 : decode prog_11_method_21_code 45 = .ok (.putfield 87, 3) := by decide +kernel
theorem twd_mo_explicit_48 : decode prog_11_method_21_code 48 = .ok (.aload_n 0, 1) := by decide +kernel
theorem twd_mo_explicit_49 : decode prog_11_method_21_code 49 = .ok (.iconst 0, 1) := by decide +kernel
theorem twd_mo_explicit_50 : decode prog_11_method_21_code 50 = .ok (.putfield 90, 3) := by decide +kernel
theorem twd_mo_explicit_53 : decode prog_11_method_21_code 53 = .ok (.aload_n 0, 1) := by decide +kernel
theorem twd_mo_explicit_54 : decode prog_11_method_21_code 54 = .ok (.iconst 0, 1) := by decide +kernel
theorem twd_mo_explicit_55 : decode prog_11_method_21_code 55 = .ok (.putfield 112, 3) := by decide +kernel
theorem twd_mo_explicit_58 : decode prog_11_method_21_code 58 = .ok (.iconst 0, 1) := by decide +kernel
theorem twd_mo_explicit_59 : decode prog_11_method_21_code 59 = .ok (.istore_n 1, 1) := by decide +kernel
theorem twd_mo_explicit_60 : decode prog_11_method_21_code 60 = .ok (.iload_n 1, 1) := by decide +kernel
theorem twd_mo_explicit_61 : decode prog_11_method_21_code 61 = .ok (.aload_n 0, 1) := by decide +kernel
theorem twd_mo_explicit_62 : decode prog_11_method_21_code 62 = .ok (.getfield 69, 3) := by decide +kernel
theorem twd_mo_explicit_65 : decode prog_11_method_21_code 65 = .ok (.if_icmp .ge 98, 3) := by decide +kernel
theorem twd_mo_explicit_68 : decode prog_11_method_21_code 68 = .ok (.aload_n 0, 1) := by decide +kernel
theorem twd_mo_explicit_69 : decode prog_11_method_21_code 69 = .ok (.getfield 16, 3) := by decide +kernel
theorem twd_mo_explicit_72 : decode prog_11_method_21_code 72 = .ok (.iload_n 1, 1) := by decide +kernel
theorem twd_mo_explicit_73 : decode prog_11_method_21_code 73 = .ok (.iaload, 1) := by decide +kernel
theorem twd_mo_explicit_74 : decode prog_11_method_21_code 74 = .ok (.istore_n 2, 1) := by decide +kernel
theorem twd_mo_explicit_75 : decode prog_11_method_21_code 75 = .ok (.aload_n 0, 1) := by decide +kernel
theorem twd_mo_explicit_76 : decode prog_11_method_21_code 76 = .ok (.getfield 32, 3) := by decide +kernel
theorem twd_mo_explicit_79 : decode prog_11_method_21_code 79 = .ok (.iload_n 1, 1) := by decide +kernel
theorem twd_mo_explicit_80 : decode prog_11_method_21_code 80 = .ok (.iconst (-1), 1) := by decide +kernel
theorem twd_mo_explicit_81 : decode prog_11_method_21_code 81 = .ok (.iastore, 1) := by decide +kernel
theorem twd_mo_explicit_82 : decode prog_11_method_21_code 82 = .ok (.aload_n 0, 1) := by decide +kernel
theorem twd_mo_explicit_83 : decode prog_11_method_21_code 83 = .ok (.getfield 38, 3) := by decide +kernel
theorem twd_mo_explicit_86 : decode prog_11_method_21_code 86 = .ok (.iload_n 1, 1) := by decide +kernel
theorem twd_mo_explicit_87 : decode prog_11_method_21_code 87 = .ok (.iconst (-1), 1) := by decide +kernel
theorem twd_mo_explicit_88 : decode prog_11_method_21_code 88 = .ok (.iastore, 1) := by decide +kernel
theorem twd_mo_explicit_89 : decode prog_11_method_21_code 89 = .ok (.iload_n 2, 1) := by decide +kernel
theorem twd_mo_explicit_90 : decode prog_11_method_21_code 90 = .ok (.bipush 12, 2) := by decide +kernel
theorem twd_mo_explicit_92 : decode prog_11_method_21_code 92 = .ok (.if_icmp .lt 17, 3) := by decide +kernel
theorem twd_mo_explicit_95 : decode prog_11_method_21_code 95 = .ok (.iload_n 2, 1) := by decide +kernel
theorem twd_mo_explicit_96 : decode prog_11_method_21_code 96 = .ok (.bipush 15, 2) := by decide +kernel
theorem twd_mo_explicit_98 : decode prog_11_method_21_code 98 = .ok (.if_icmp .gt 11, 3) := by decide +kernel
theorem twd_mo_explicit_101 : decode prog_11_method_21_code 101 = .ok (.aload_n 0, 1) := by decide +kernel
theorem twd_mo_explicit_102 : decode prog_11_method_21_code 102 = .ok (.iload_n 2, 1) := by decide +kernel
theorem twd_mo_explicit_103 : decode prog_11_method_21_code 103 = .ok (.invokevirtual 118, 3) := by decide +kernel
theorem twd_mo_explicit_106 : decode prog_11_method_21_code 106 = .ok (.goto 51, 3) := by decide +kernel
theorem twd_mo_explicit_109 : decode prog_11_method_21_code 109 = .ok (.iload_n 2, 1) := by decide +kernel
theorem twd_mo_explicit_110 : decode prog_11_method_21_code 110 = .ok (.bipush 16, 2) := by decide +kernel
theorem twd_mo_explicit_112 : decode prog_11_method_21_code 112 = .ok (.if_icmp .ne 10, 3) := by decide +kernel
theorem twd_mo_explicit_115 : decode prog_11_method_21_code 115 = .ok (.aload_n 0, 1) := by decide +kernel
theorem twd_mo_explicit_116 : decode prog_11_method_21_code 116 = .ok (.invokevirtual 121, 3) := by decide +kernel
theorem twd_mo_explicit_119 : decode prog_11_method_21_code 119 = .ok (.goto 38, 3) := by decide +kernel
theorem twd_mo_explicit_122 : decode prog_11_method_21_code 122 = .ok (.aload_n 0, 1) := by decide +kernel
theorem twd_mo_explicit_123 : decode prog_11_method_21_code 123 = .ok (.iload_n 1, 1) := by decide +kernel
theorem twd_mo_explicit_124 : decode prog_11_method_21_code 124 = .ok (.invokevirtual 76, 3) := by decide +kernel
theorem twd_mo_explicit_127 : decode prog_11_method_21_code 127 = .ok (.ifCond .eq 11, 3) := by decide +kernel
theorem twd_mo_explicit_130 : decode prog_11_method_21_code 130 = .ok (.aload_n 0, 1) := by decide +kernel
theorem twd_mo_explicit_131 : decode prog_11_method_21_code 131 = .ok (.iload_n 1, 1) := by decide +kernel
theorem twd_mo_explicit_132 : decode prog_11_method_21_code 132 = .ok (.invokevirtual 124, 3) := by decide +kernel
theorem twd_mo_explicit_135 : decode prog_11_method_21_code 135 = .ok (.goto 22, 3) := by decide +kernel
theorem twd_mo_explicit_138 : decode prog_11_method_21_code 138 = .ok (.iload_n 2, 1) := by decide +kernel
theorem twd_mo_explicit_139 : decode prog_11_method_21_code 139 = .ok (.bipush 20, 2) := by decide +kernel
theorem twd_mo_explicit_141 : decode prog_11_method_21_code 141 = .ok (.if_icmp .ne 11, 3) := by decide +kernel
theorem twd_mo_explicit_144 : decode prog_11_method_21_code 144 = .ok (.aload_n 0, 1) := by decide +kernel
theorem twd_mo_explicit_145 : decode prog_11_method_21_code 145 = .ok (.iload_n 1, 1) := by decide +kernel
theorem twd_mo_explicit_146 : decode prog_11_method_21_code 146 = .ok (.invokevirtual 127, 3) := by decide +kernel
theorem twd_mo_explicit_149 : decode prog_11_method_21_code 149 = .ok (.goto 8, 3) := by decide +kernel
theorem twd_mo_explicit_152 : decode prog_11_method_21_code 152 = .ok (.aload_n 0, 1) := by decide +kernel
theorem twd_mo_explicit_153 : decode prog_11_method_21_code 153 = .ok (.iload_n 1, 1) := by decide +kernel
theorem twd_mo_explicit_154 : decode prog_11_method_21_code 154 = .ok (.invokevirtual 104, 3) := by decide +kernel
theorem twd_mo_explicit_157 : decode prog_11_method_21_code 157 = .ok (.iinc 1 1, 3) := by decide +kernel
theorem twd_mo_explicit_160 : decode prog_11_method_21_code 160 = .ok (.goto (-100), 3) := by decide +kernel
theorem twd_mo_explicit_163 : decode prog_11_method_21_code 163 = .ok (.return_, 1) := by decide +kernel
theorem twk_mo_explicit : tw_dc twy_mo_explicit 0 := ⟨by decide +kernel, by decide +kernel, by decide +kernel⟩
theorem twd_mo_seen_0 : decode prog_11_method_22_code 0 = .ok (.iload_n 1, 1) := by decide +kernel
theorem twd_mo_seen_1 : decode prog_11_method_22_code 1 = .ok (.istore_n 3, 1) := by decide +kernel
theorem twd_mo_seen_2 : decode prog_11_method_22_code 2 = .ok (.iload_n 3, 1) := by decide +kernel
theorem twd_mo_seen_3 : decode prog_11_method_22_code 3 = .ok (.ifCond .lt 26, 3) := by decide +kernel
theorem twd_mo_seen_6 : decode prog_11_method_22_code 6 = .ok (.iload_n 3, 1) := by decide +kernel
theorem twd_mo_seen_7 : decode prog_11_method_22_code 7 = .ok (.aload_n 0, 1) := by decide +kernel
theorem twd_mo_seen_8 : decode prog_11_method_22_code 8 = .ok (.getfield 69, 3) := by decide +kernel
theorem twd_mo_seen_11 : decode prog_11_method_22_code 11 = .ok (.if_icmp .ge 18, 3) := by decide +kernel
theorem twd_mo_seen_14 : decode prog_11_method_22_code 14 = .ok (.aload_n 0, 1) := by decide +kernel
theorem twd_mo_seen_15 : decode prog_11_method_22_code 15 = .ok (.iload_n 3, 1) := by decide +kernel
theorem twd_mo_seen_16 : decode prog_11_method_22_code 16 = .ok (.invokevirtual 130, 3) := by decide +kernel
theorem twd_mo_seen_19 : decode prog_11_method_22_code 19 = .ok (.ifCond .eq 10, 3) := by decide +kernel
theorem twd_mo_seen_22 : decode prog_11_method_22_code 22 = .ok (.iload_n 3, 1) := by decide +kernel
theorem twd_mo_seen_23 : decode prog_11_method_22_code 23 = .ok (.iload_n 2, 1) := by decide +kernel
theorem twd_mo_seen_24 : decode prog_11_method_22_code 24 = .ok (.iadd, 1) := by decide +kernel
theorem twd_mo_seen_25 : decode prog_11_method_22_code 25 = .ok (.istore_n 3, 1) := by decide +kernel
theorem twd_mo_seen_26 : decode prog_11_method_22_code 26 = .ok (.goto (-24), 3) := by decide +kernel
theorem twd_mo_seen_29 : decode prog_11_method_22_code 29 = .ok (.iload_n 3, 1) := by decide +kernel
theorem twd_mo_seen_30 : decode prog_11_method_22_code 30 = .ok (.ifCond .lt 11, 3) := by decide +kernel
theorem twd_mo_seen_33 : decode prog_11_method_22_code 33 = .ok (.iload_n 3, 1) := by decide +kernel
theorem twd_mo_seen_34 : decode prog_11_method_22_code 34 = .ok (.aload_n 0, 1) := by decide +kernel
theorem twd_mo_seen_35 : decode prog_11_method_22_code 35 = .ok (.getfield 69, 3) := by decide +kernel
theorem twd_mo_seen_38 : decode prog_11_method_22_code 38 = .ok (.if_icmp .lt 7, 3) := by decide +kernel
theorem twd_mo_seen_41 : decode prog_11_method_22_code 41 = .ok (.iconst (-1), 1) := by decide +kernel
theorem twd_mo_seen_42 : decode prog_11_method_22_code 42 = .ok (.goto 4, 3) := by decide +kernel
theorem twd_mo_seen_45 : decode prog_11_method_22_code 45 = .ok (.iload_n 3, 1) := by decide +kernel
theorem twd_mo_seen_46 : decode prog_11_method_22_code 46 = .ok (.ireturn, 1) := by decide +kernel
theorem twk_mo_seen : tw_dc twy_mo_seen 2 := ⟨by decide +kernel, by decide +kernel, by decide +kernel⟩
theorem twd_mo_beginsRun_0 : decode prog_11_method_23_code 0 = .ok (.aload_n 0, 1) := by decide +kernel
theorem twd_mo_beginsRun_1 : decode prog_11_method_23_code 1 = .ok (.iload_n 1, 1) := by decide +kernel
theorem twd_mo_beginsRun_2 : decode prog_11_method_23_code 2 = .ok (.iconst 1, 1) := by decide +kernel
theorem twd_mo_beginsRun_3 : decode prog_11_method_23_code 3 = .ok (.isub, 1) := by decide +kernel
theorem twd_mo_beginsRun_4 : decode prog_11_method_23_code 4 = .ok (.iconst (-1), 1) := by decide +kernel
theorem twd_mo_beginsRun_5 : decode prog_11_method_23_code 5 = .ok (.invokevirtual 133, 3) := by decide +kernel
theorem twd_mo_beginsRun_8 : decode prog_11_method_23_code 8 = .ok (.istore_n 2, 1) := by decide +kernel
theorem twd_mo_beginsRun_9 : decode prog_11_method_23_code 9 = .ok (.iload_n 2, 1) := by decide +kernel
theorem twd_mo_beginsRun_10 : decode prog_11_method_23_code 10 = .ok (.ifCond .lt 18, 3) := by decide +kernel
theorem twd_mo_beginsRun_13 : decode prog_11_method_23_code 13 = .ok (.aload_n 0, 1) := by decide +kernel
theorem twd_mo_beginsRun_14 : decode prog_11_method_23_code 14 = .ok (.getfield 29, 3) := by decide +kernel
theorem twd_mo_beginsRun_17 : decode prog_11_method_23_code 17 = .ok (.iload_n 2, 1) := by decide +kernel
theorem twd_mo_beginsRun_18 : decode prog_11_method_23_code 18 = .ok (.iaload, 1) := by decide +kernel
theorem twd_mo_beginsRun_19 : decode prog_11_method_23_code 19 = .ok (.aload_n 0, 1) := by decide +kernel
theorem twd_mo_beginsRun_20 : decode prog_11_method_23_code 20 = .ok (.getfield 29, 3) := by decide +kernel
theorem twd_mo_beginsRun_23 : decode prog_11_method_23_code 23 = .ok (.iload_n 1, 1) := by decide +kernel
theorem twd_mo_beginsRun_24 : decode prog_11_method_23_code 24 = .ok (.iaload, 1) := by decide +kernel
theorem twd_mo_beginsRun_25 : decode prog_11_method_23_code 25 = .ok (.if_icmp .eq 7, 3) := by decide +kernel
theorem twd_mo_beginsRun_28 : decode prog_11_method_23_code 28 = .ok (.iconst 1, 1) := by decide +kernel
theorem twd_mo_beginsRun_29 : decode prog_11_method_23_code 29 = .ok (.goto 4, 3) := by decide +kernel
theorem twd_mo_beginsRun_32 : decode prog_11_method_23_code 32 = .ok (.iconst 0, 1) := by decide +kernel
theorem twd_mo_beginsRun_33 : decode prog_11_method_23_code 33 = .ok (.ireturn, 1) := by decide +kernel
theorem twk_mo_beginsRun : tw_dc twy_mo_beginsRun 1 := ⟨by decide +kernel, by decide +kernel, by decide +kernel⟩
theorem twd_mo_addRun_0 : decode prog_11_method_24_code 0 = .ok (.iload_n 1, 1) := by decide +kernel
theorem twd_mo_addRun_1 : decode prog_11_method_24_code 1 = .ok (.istore_n 2, 1) := by decide +kernel
theorem twd_mo_addRun_2 : decode prog_11_method_24_code 2 = .ok (.aload_n 0, 1) := by decide +kernel
theorem twd_mo_addRun_3 : decode prog_11_method_24_code 3 = .ok (.iload_n 2, 1) := by decide +kernel
theorem twd_mo_addRun_4 : decode prog_11_method_24_code 4 = .ok (.invokevirtual 136, 3) := by decide +kernel
theorem twd_mo_addRun_7 : decode prog_11_method_24_code 7 = .ok (.ifCond .ne 15, 3) := by decide +kernel
theorem twd_mo_addRun_10 : decode prog_11_method_24_code 10 = .ok (.aload_n 0, 1) := by decide +kernel
theorem twd_mo_addRun_11 : decode prog_11_method_24_code 11 = .ok (.iload_n 2, 1) := by decide +kernel
theorem twd_mo_addRun_12 : decode prog_11_method_24_code 12 = .ok (.iconst 1, 1) := by decide +kernel
theorem twd_mo_addRun_13 : decode prog_11_method_24_code 13 = .ok (.isub, 1) := by decide +kernel
theorem twd_mo_addRun_14 : decode prog_11_method_24_code 14 = .ok (.iconst (-1), 1) := by decide +kernel
theorem twd_mo_addRun_15 : decode prog_11_method_24_code 15 = .ok (.invokevirtual 133, 3) := by decide +kernel
theorem twd_mo_addRun_18 : decode prog_11_method_24_code 18 = .ok (.istore_n 2, 1) := by decide +kernel
theorem twd_mo_addRun_19 : decode prog_11_method_24_code 19 = .ok (.goto (-17), 3) := by decide +kernel
theorem twd_mo_addRun_22 : decode prog_11_method_24_code 22 = .ok (.aload_n 0, 1) := by decide +kernel
theorem twd_mo_addRun_23 : decode prog_11_method_24_code 23 = .ok (.getfield 29, 3) := by decide +kernel
theorem twd_mo_addRun_26 : decode prog_11_method_24_code 26 = .ok (.iload_n 2, 1) := by decide +kernel
theorem twd_mo_addRun_27 : decode prog_11_method_24_code 27 = .ok (.iaload, 1) := by decide +kernel
theorem twd_mo_addRun_28 : decode prog_11_method_24_code 28 = .ok (.istore_n 3, 1) := by decide +kernel
theorem twd_mo_addRun_29 : decode prog_11_method_24_code 29 = .ok (.iload_n 2, 1) := by decide +kernel
theorem twd_mo_addRun_30 : decode prog_11_method_24_code 30 = .ok (.ifCond .lt 54, 3) := by decide +kernel
theorem twd_mo_addRun_33 : decode prog_11_method_24_code 33 = .ok (.aload_n 0, 1) := by decide +kernel
theorem twd_mo_addRun_34 : decode prog_11_method_24_code 34 = .ok (.getfield 29, 3) := by decide +kernel
theorem twd_mo_addRun_37 : decode prog_11_method_24_code 37 = .ok (.iload_n 2, 1) := by decide +kernel
theorem twd_mo_addRun_38 : decode prog_11_method_24_code 38 = .ok (.iaload, 1) := by decide +kernel
theorem twd_mo_addRun_39 : decode prog_11_method_24_code 39 = .ok (.iload_n 3, 1) := by decide +kernel
theorem twd_mo_addRun_40 : decode prog_11_method_24_code 40 = .ok (.if_icmp .ne 44, 3) := by decide +kernel
theorem twd_mo_addRun_43 : decode prog_11_method_24_code 43 = .ok (.aload_n 0, 1) := by decide +kernel
theorem twd_mo_addRun_44 : decode prog_11_method_24_code 44 = .ok (.getfield 139, 3) := by decide +kernel
theorem twd_mo_addRun_47 : decode prog_11_method_24_code 47 = .ok (.bipush 64, 2) := by decide +kernel
theorem twd_mo_addRun_49 : decode prog_11_method_24_code 49 = .ok (.if_icmp .ge 35, 3) := by decide +kernel
theorem twd_mo_addRun_52 : decode prog_11_method_24_code 52 = .ok (.aload_n 0, 1) := by decide +kernel
theorem twd_mo_addRun_53 : decode prog_11_method_24_code 53 = .ok (.getfield 51, 3) := by decide +kernel
theorem twd_mo_addRun_56 : decode prog_11_method_24_code 56 = .ok (.aload_n 0, 1) := by decide +kernel
theorem twd_mo_addRun_57 : decode prog_11_method_24_code 57 = .ok (.getfield 139, 3) := by decide +kernel
theorem twd_mo_addRun_60 : decode prog_11_method_24_code 60 = .ok (.iload_n 2, 1) := by decide +kernel
theorem twd_mo_addRun_61 : decode prog_11_method_24_code 61 = .ok (.iastore, 1) := by decide +kernel
theorem twd_mo_addRun_62 : decode prog_11_method_24_code 62 = .ok (.aload_n 0, 1) := by decide +kernel
theorem twd_mo_addRun_63 : decode prog_11_method_24_code 63 = .ok (.dup, 1) := by decide +kernel
theorem twd_mo_addRun_64 : decode prog_11_method_24_code 64 = .ok (.getfield 139, 3) := by decide +kernel
theorem twd_mo_addRun_67 : decode prog_11_method_24_code 67 = .ok (.iconst 1, 1) := by decide +kernel
theorem twd_mo_addRun_68 : decode prog_11_method_24_code 68 = .ok (.iadd, 1) := by decide +kernel
theorem twd_mo_addRun_69 : decode prog_11_method_24_code 69 = .ok (.putfield 139, 3) := by decide +kernel
theorem twd_mo_addRun_72 : decode prog_11_method_24_code 72 = .ok (.aload_n 0, 1) := by decide +kernel
theorem twd_mo_addRun_73 : decode prog_11_method_24_code 73 = .ok (.iload_n 2, 1) := by decide +kernel
theorem twd_mo_addRun_74 : decode prog_11_method_24_code 74 = .ok (.iconst 1, 1) := by decide +kernel
theorem twd_mo_addRun_75 : decode prog_11_method_24_code 75 = .ok (.iadd, 1) := by decide +kernel
theorem twd_mo_addRun_76 : decode prog_11_method_24_code 76 = .ok (.iconst 1, 1) := by decide +kernel
theorem twd_mo_addRun_77 : decode prog_11_method_24_code 77 = .ok (.invokevirtual 133, 3) := by decide +kernel
theorem twd_mo_addRun_80 : decode prog_11_method_24_code 80 = .ok (.istore_n 2, 1) := by decide +kernel
theorem twd_mo_addRun_81 : decode prog_11_method_24_code 81 = .ok (.goto (-52), 3) := by decide +kernel
theorem twd_mo_addRun_84 : decode prog_11_method_24_code 84 = .ok (.return_, 1) := by decide +kernel
theorem twk_mo_addRun : tw_dc twy_mo_addRun 1 := ⟨by decide +kernel, by decide +kernel, by decide +kernel⟩
theorem twd_mo_bounds_0 : decode prog_11_method_26_code 0 = .ok (.aload_n 0, 1) := by decide +kernel
theorem twd_mo_bounds_1 : decode prog_11_method_26_code 1 = .ok (.getfield 29, 3) := by decide +kernel
theorem twd_mo_bounds_4 : decode prog_11_method_26_code 4 = .ok (.aload_n 0, 1) := by decide +kernel
theorem twd_mo_bounds_5 : decode prog_11_method_26_code 5 = .ok (.getfield 51, 3) := by decide +kernel
theorem twd_mo_bounds_8 : decode prog_11_method_26_code 8 = .ok (.iconst 0, 1) := by decide +kernel
theorem twd_mo_bounds_9 : decode prog_11_method_26_code 9 = .ok (.iaload, 1) := by decide +kernel
theorem twd_mo_bounds_10 : decode prog_11_method_26_code 10 = .ok (.iaload, 1) := by decide +kernel
theorem twd_mo_bounds_11 : decode prog_11_method_26_code 11 = .ok (.istore_n 1, 1) := by decide +kernel
theorem twd_mo_bounds_12 : decode prog_11_method_26_code 12 = .ok (.aload_n 0, 1) := by decide +kernel
theorem twd_mo_bounds_13 : decode prog_11_method_26_code 13 = .ok (.getfield 51, 3) := by decide +kernel
theorem twd_mo_bounds_16 : decode prog_11_method_26_code 16 = .ok (.aload_n 0, 1) := by decide +kernel
theorem twd_mo_bounds_17 : decode prog_11_method_26_code 17 = .ok (.getfield 139, 3) := by decide +kernel
theorem twd_mo_bounds_20 : decode prog_11_method_26_code 20 = .ok (.iconst 1, 1) := by decide +kernel
theorem twd_mo_bounds_21 : decode prog_11_method_26_code 21 = .ok (.isub, 1) := by decide +kernel
theorem twd_mo_bounds_22 : decode prog_11_method_26_code 22 = .ok (.iaload, 1) := by decide +kernel
theorem twd_mo_bounds_23 : decode prog_11_method_26_code 23 = .ok (.istore_n 2, 1) := by decide +kernel
theorem twd_mo_bounds_24 : decode prog_11_method_26_code 24 = .ok (.aload_n 0, 1) := by decide +kernel
theorem twd_mo_bounds_25 : decode prog_11_method_26_code 25 = .ok (.aload_n 0, 1) := by decide +kernel
theorem twd_mo_bounds_26 : decode prog_11_method_26_code 26 = .ok (.getfield 51, 3) := by decide +kernel
theorem twd_mo_bounds_29 : decode prog_11_method_26_code 29 = .ok (.iconst 0, 1) := by decide +kernel
theorem twd_mo_bounds_30 : decode prog_11_method_26_code 30 = .ok (.iaload, 1) := by decide +kernel
theorem twd_mo_bounds_31 : decode prog_11_method_26_code 31 = .ok (.iconst 1, 1) := by decide +kernel
theorem twd_mo_bounds_32 : decode prog_11_method_26_code 32 = .ok (.isub, 1) := by decide +kernel
theorem twd_mo_bounds_33 : decode prog_11_method_26_code 33 = .ok (.iconst (-1), 1) := by decide +kernel
theorem twd_mo_bounds_34 : decode prog_11_method_26_code 34 = .ok (.invokevirtual 133, 3) := by decide +kernel
theorem twd_mo_bounds_37 : decode prog_11_method_26_code 37 = .ok (.istore_n 3, 1) := by decide +kernel
theorem twd_mo_bounds_38 : decode prog_11_method_26_code 38 = .ok (.aload_n 0, 1) := by decide +kernel
theorem twd_mo_bounds_39 : decode prog_11_method_26_code 39 = .ok (.iload_n 2, 1) := by decide +kernel
theorem twd_mo_bounds_40 : decode prog_11_method_26_code 40 = .ok (.invokevirtual 76, 3) := by decide +kernel
theorem twd_mo_bounds_43 : decode prog_11_method_26_code 43 = .ok (.ifCond .eq 15, 3) := by decide +kernel
theorem twd_mo_bounds_46 : decode prog_11_method_26_code 46 = .ok (.aload_n 0, 1) := by decide +kernel
theorem twd_mo_bounds_47 : decode prog_11_method_26_code 47 = .ok (.iload_n 2, 1) := by decide +kernel
theorem twd_mo_bounds_48 : decode prog_11_method_26_code 48 = .ok (.invokevirtual 80, 3) := by decide +kernel
theorem twd_mo_bounds_51 : decode prog_11_method_26_code 51 = .ok (.ifCond .ge 7, 3) := by decide +kernel
theorem twd_mo_bounds_54 : decode prog_11_method_26_code 54 = .ok (.iconst (-1), 1) := by decide +kernel
theorem twd_mo_bounds_55 : decode prog_11_method_26_code 55 = .ok (.goto 11, 3) := by decide +kernel
theorem twd_mo_bounds_58 : decode prog_11_method_26_code 58 = .ok (.aload_n 0, 1) := by decide +kernel
theorem twd_mo_bounds_59 : decode prog_11_method_26_code 59 = .ok (.iload_n 2, 1) := by decide +kernel
theorem twd_mo_bounds_60 : decode prog_11_method_26_code 60 = .ok (.iconst 1, 1) := by decide +kernel
theorem twd_mo_bounds_61 : decode prog_11_method_26_code 61 = .ok (.iadd, 1) := by decide +kernel
theorem twd_mo_bounds_62 : decode prog_11_method_26_code 62 = .ok (.iconst 1, 1) := by decide +kernel
theorem twd_mo_bounds_63 : decode prog_11_method_26_code 63 = .ok (.invokevirtual 133, 3) := by decide +kernel
theorem twd_mo_bounds_66 : decode prog_11_method_26_code 66 = .ok (.istore 4, 2) := by decide +kernel
theorem twd_mo_bounds_68 : decode prog_11_method_26_code 68 = .ok (.iload_n 3, 1) := by decide +kernel
theorem twd_mo_bounds_69 : decode prog_11_method_26_code 69 = .ok (.ifCond .ge 10, 3) := by decide +kernel
theorem twd_mo_bounds_72 : decode prog_11_method_26_code 72 = .ok (.aload_n 0, 1) := by decide +kernel
theorem twd_mo_bounds_73 : decode prog_11_method_26_code 73 = .ok (.getfield 115, 3) := by decide +kernel
theorem twd_mo_bounds_76 : decode prog_11_method_26_code 76 = .ok (.goto 9, 3) := by decide +kernel
theorem twd_mo_bounds_79 : decode prog_11_method_26_code 79 = .ok (.aload_n 0, 1) := by decide +kernel
theorem twd_mo_bounds_80 : decode prog_11_method_26_code 80 = .ok (.getfield 29, 3) := by decide +kernel
theorem twd_mo_bounds_83 : decode prog_11_method_26_code 83 = .ok (.iload_n 3, 1) := by decide +kernel
theorem twd_mo_bounds_84 : decode prog_11_method_26_code 84 = .ok (.iaload, 1) := by decide +kernel
theorem twd_mo_bounds_85 : decode prog_11_method_26_code 85 = .ok (.istore 5, 2) := by decide +kernel
theorem twd_mo_bounds_87 : decode prog_11_method_26_code 87 = .ok (.iload 4, 2) := by decide +kernel
theorem twd_mo_bounds_89 : decode prog_11_method_26_code 89 = .ok (.ifCond .ge 10, 3) := by decide +kernel
theorem twd_mo_bounds_92 : decode prog_11_method_26_code 92 = .ok (.aload_n 0, 1) := by decide +kernel
theorem twd_mo_bounds_93 : decode prog_11_method_26_code 93 = .ok (.getfield 115, 3) := by decide +kernel
theorem twd_mo_bounds_96 : decode prog_11_method_26_code 96 = .ok (.goto 10, 3) := by decide +kernel
theorem twd_mo_bounds_99 : decode prog_11_method_26_code 99 = .ok (.aload_n 0, 1) := by decide +kernel
theorem twd_mo_bounds_100 : decode prog_11_method_26_code 100 = .ok (.getfield 29, 3) := by decide +kernel
theorem twd_mo_bounds_103 : decode prog_11_method_26_code 103 = .ok (.iload 4, 2) := by decide +kernel
theorem twd_mo_bounds_105 : decode prog_11_method_26_code 105 = .ok (.iaload, 1) := by decide +kernel
theorem twd_mo_bounds_106 : decode prog_11_method_26_code 106 = .ok (.istore 6, 2) := by decide +kernel
theorem twd_mo_bounds_108 : decode prog_11_method_26_code 108 = .ok (.aload_n 0, 1) := by decide +kernel
theorem twd_mo_bounds_109 : decode prog_11_method_26_code 109 = .ok (.iload 5, 2) := by decide +kernel
theorem twd_mo_bounds_111 : decode prog_11_method_26_code 111 = .ok (.iload_n 1, 1) := by decide +kernel
theorem twd_mo_bounds_112 : decode prog_11_method_26_code 112 = .ok (.if_icmp .le 8, 3) := by decide +kernel
theorem twd_mo_bounds_115 : decode prog_11_method_26_code 115 = .ok (.iload 5, 2) := by decide +kernel
theorem twd_mo_bounds_117 : decode prog_11_method_26_code 117 = .ok (.goto 4, 3) := by decide +kernel
theorem twd_mo_bounds_120 : decode prog_11_method_26_code 120 = .ok (.iload_n 1, 1) := by decide +kernel
theorem twd_mo_bounds_121 : decode prog_11_method_26_code 121 = .ok (.iconst 2, 1) := by decide +kernel
theorem twd_mo_bounds_122 : decode prog_11_method_26_code 122 = .ok (.irem, 1) := by decide +kernel
theorem twd_mo_bounds_123 : decode prog_11_method_26_code 123 = .ok (.putfield 160, 3) := by decide +kernel
theorem twd_mo_bounds_126 : decode prog_11_method_26_code 126 = .ok (.aload_n 0, 1) := by decide +kernel
theorem twd_mo_bounds_127 : decode prog_11_method_26_code 127 = .ok (.iload 6, 2) := by decide +kernel
theorem twd_mo_bounds_129 : decode prog_11_method_26_code 129 = .ok (.iload_n 1, 1) := by decide +kernel
theorem twd_mo_bounds_130 : decode prog_11_method_26_code 130 = .ok (.if_icmp .le 8, 3) := by decide +kernel
theorem twd_mo_bounds_133 : decode prog_11_method_26_code 133 = .ok (.iload 6, 2) := by decide +kernel
theorem twd_mo_bounds_135 : decode prog_11_method_26_code 135 = .ok (.goto 4, 3) := by decide +kernel
theorem twd_mo_bounds_138 : decode prog_11_method_26_code 138 = .ok (.iload_n 1, 1) := by decide +kernel
theorem twd_mo_bounds_139 : decode prog_11_method_26_code 139 = .ok (.iconst 2, 1) := by decide +kernel
theorem twd_mo_bounds_140 : decode prog_11_method_26_code 140 = .ok (.irem, 1) := by decide +kernel
theorem twd_mo_bounds_141 : decode prog_11_method_26_code 141 = .ok (.putfield 163, 3) := by decide +kernel
theorem twd_mo_bounds_144 : decode prog_11_method_26_code 144 = .ok (.aload_n 0, 1) := by decide +kernel
theorem twd_mo_bounds_145 : decode prog_11_method_26_code 145 = .ok (.iload_n 1, 1) := by decide +kernel
theorem twd_mo_bounds_146 : decode prog_11_method_26_code 146 = .ok (.iconst 2, 1) := by decide +kernel
theorem twd_mo_bounds_147 : decode prog_11_method_26_code 147 = .ok (.irem, 1) := by decide +kernel
theorem twd_mo_bounds_148 : decode prog_11_method_26_code 148 = .ok (.putfield 166, 3) := by decide +kernel
theorem twd_mo_bounds_151 : decode prog_11_method_26_code 151 = .ok (.return_, 1) := by decide +kernel
theorem twk_mo_bounds : tw_dc twy_mo_bounds 0 := ⟨by decide +kernel, by decide +kernel, by decide +kernel⟩
theorem twd_mo_at_0 : decode prog_11_method_27_code 0 = .ok (.aload_n 0, 1) := by decide +kernel
theorem twd_mo_at_1 : decode prog_11_method_27_code 1 = .ok (.getfield 32, 3) := by decide +kernel
theorem twd_mo_at_4 : decode prog_11_method_27_code 4 = .ok (.aload_n 0, 1) := by decide +kernel
theorem twd_mo_at_5 : decode prog_11_method_27_code 5 = .ok (.getfield 51, 3) := by decide +kernel
theorem twd_mo_at_8 : decode prog_11_method_27_code 8 = .ok (.iload_n 1, 1) := by decide +kernel
theorem twd_mo_at_9 : decode prog_11_method_27_code 9 = .ok (.iaload, 1) := by decide +kernel
theorem twd_mo_at_10 : decode prog_11_method_27_code 10 = .ok (.iaload, 1) := by decide +kernel
theorem twd_mo_at_11 : decode prog_11_method_27_code 11 = .ok (.ireturn, 1) := by decide +kernel
theorem twk_mo_at : tw_dc twy_mo_at 1 := ⟨by decide +kernel, by decide +kernel, by decide +kernel⟩
theorem twd_mo_set_0 : decode prog_11_method_28_code 0 = .ok (.aload_n 0, 1) := by decide +kernel
theorem twd_mo_set_1 : decode prog_11_method_28_code 1 = .ok (.getfield 32, 3) := by decide +kernel
theorem twd_mo_set_4 : decode prog_11_method_28_code 4 = .ok (.aload_n 0, 1) := by decide +kernel
theorem twd_mo_set_5 : decode prog_11_method_28_code 5 = .ok (.getfield 51, 3) := by decide +kernel
theorem twd_mo_set_8 : decode prog_11_method_28_code 8 = .ok (.iload_n 1, 1) := by decide +kernel
theorem twd_mo_set_9 : decode prog_11_method_28_code 9 = .ok (.iaload, 1) := by decide +kernel
theorem twd_mo_set_10 : decode prog_11_method_28_code 10 = .ok (.iload_n 2, 1) := by decide +kernel
theorem twd_mo_set_11 : decode prog_11_method_28_code 11 = .ok (.iastore, 1) := by decide +kernel
theorem twd_mo_set_12 : decode prog_11_method_28_code 12 = .ok (.return_, 1) := by decide +kernel
theorem twk_mo_set : tw_dc twy_mo_set 2 := ⟨by decide +kernel, by decide +kernel, by decide +kernel⟩
theorem twd_mo_terminators_0 : decode prog_11_method_30_code 0 = .ok (.iconst 0, 1) := by decide +kernel
theorem twd_mo_terminators_1 : decode prog_11_method_30_code 1 = .ok (.istore_n 1, 1) := by decide +kernel
theorem twd_mo_terminators_2 : decode prog_11_method_30_code 2 = .ok (.iload_n 1, 1) := by decide +kernel
theorem twd_mo_terminators_3 : decode prog_11_method_30_code 3 = .ok (.aload_n 0, 1) := by decide +kernel
theorem twd_mo_terminators_4 : decode prog_11_method_30_code 4 = .ok (.getfield 139, 3) := by decide +kernel
theorem twd_mo_terminators_7 : decode prog_11_method_30_code 7 = .ok (.if_icmp .ge 113, 3) := by decide +kernel
theorem twd_mo_terminators_10 : decode prog_11_method_30_code 10 = .ok (.iload_n 1, 1) := by decide +kernel
theorem twd_mo_terminators_11 : decode prog_11_method_30_code 11 = .ok (.istore_n 2, 1) := by decide +kernel
theorem twd_mo_terminators_12 : decode prog_11_method_30_code 12 = .ok (.iload_n 2, 1) := by decide +kernel
theorem twd_mo_terminators_13 : decode prog_11_method_30_code 13 = .ok (.aload_n 0, 1) := by decide +kernel
theorem twd_mo_terminators_14 : decode prog_11_method_30_code 14 = .ok (.getfield 139, 3) := by decide +kernel
theorem twd_mo_terminators_17 : decode prog_11_method_30_code 17 = .ok (.if_icmp .ge 18, 3) := by decide +kernel
theorem twd_mo_terminators_20 : decode prog_11_method_30_code 20 = .ok (.aload_n 0, 1) := by decide +kernel
theorem twd_mo_terminators_21 : decode prog_11_method_30_code 21 = .ok (.iload_n 2, 1) := by decide +kernel
theorem twd_mo_terminators_22 : decode prog_11_method_30_code 22 = .ok (.invokevirtual 169, 3) := by decide +kernel
theorem twd_mo_terminators_25 : decode prog_11_method_30_code 25 = .ok (.iconst 5, 1) := by decide +kernel
theorem twd_mo_terminators_26 : decode prog_11_method_30_code 26 = .ok (.if_icmp .ne 9, 3) := by decide +kernel
theorem twd_mo_terminators_29 : decode prog_11_method_30_code 29 = .ok (.iinc 2 1, 3) := by decide +kernel
theorem twd_mo_terminators_32 : decode prog_11_method_30_code 32 = .ok (.goto (-20), 3) := by decide +kernel
theorem twd_mo_terminators_35 : decode prog_11_method_30_code 35 = .ok (.iload_n 2, 1) := by decide +kernel
theorem twd_mo_terminators_36 : decode prog_11_method_30_code 36 = .ok (.iload_n 1, 1) := by decide +kernel
theorem twd_mo_terminators_37 : decode prog_11_method_30_code 37 = .ok (.if_icmp .le 39, 3) := by decide +kernel
theorem twd_mo_terminators_40 : decode prog_11_method_30_code 40 = .ok (.iload_n 1, 1) := by decide +kernel
theorem twd_mo_terminators_41 : decode prog_11_method_30_code 41 = .ok (.ifCond .le 14, 3) := by decide +kernel
theorem twd_mo_terminators_44 : decode prog_11_method_30_code 44 = .ok (.aload_n 0, 1) := by decide +kernel
theorem twd_mo_terminators_45 : decode prog_11_method_30_code 45 = .ok (.iload_n 1, 1) := by decide +kernel
theorem twd_mo_terminators_46 : decode prog_11_method_30_code 46 = .ok (.iconst 1, 1) := by decide +kernel
theorem twd_mo_terminators_47 : decode prog_11_method_30_code 47 = .ok (.isub, 1) := by decide +kernel
theorem twd_mo_terminators_48 : decode prog_11_method_30_code 48 = .ok (.invokevirtual 169, 3) := by decide +kernel
theorem twd_mo_terminators_51 : decode prog_11_method_30_code 51 = .ok (.iconst 3, 1) := by decide +kernel
theorem twd_mo_terminators_52 : decode prog_11_method_30_code 52 = .ok (.if_icmp .eq 20, 3) := by decide +kernel
theorem twd_mo_terminators_55 : decode prog_11_method_30_code 55 = .ok (.iload_n 2, 1) := by decide +kernel
theorem twd_mo_terminators_56 : decode prog_11_method_30_code 56 = .ok (.aload_n 0, 1) := by decide +kernel
theorem twd_mo_terminators_57 : decode prog_11_method_30_code 57 = .ok (.getfield 139, 3) := by decide +kernel
theorem twd_mo_terminators_60 : decode prog_11_method_30_code 60 = .ok (.if_icmp .ge 16, 3) := by decide +kernel
theorem twd_mo_terminators_63 : decode prog_11_method_30_code 63 = .ok (.aload_n 0, 1) := by decide +kernel
theorem twd_mo_terminators_64 : decode prog_11_method_30_code 64 = .ok (.iload_n 2, 1) := by decide +kernel
theorem twd_mo_terminators_65 : decode prog_11_method_30_code 65 = .ok (.invokevirtual 169, 3) := by decide +kernel
theorem twd_mo_terminators_68 : decode prog_11_method_30_code 68 = .ok (.iconst 3, 1) := by decide +kernel
theorem twd_mo_terminators_69 : decode prog_11_method_30_code 69 = .ok (.if_icmp .ne 7, 3) := by decide +kernel
theorem twd_mo_terminators_72 : decode prog_11_method_30_code 72 = .ok (.iconst 1, 1) := by decide +kernel
theorem twd_mo_terminators_73 : decode prog_11_method_30_code 73 = .ok (.goto 4, 3) := by decide +kernel
theorem twd_mo_terminators_76 : decode prog_11_method_30_code 76 = .ok (.iconst 0, 1) := by decide +kernel
theorem twd_mo_terminators_77 : decode prog_11_method_30_code 77 = .ok (.istore_n 3, 1) := by decide +kernel
theorem twd_mo_terminators_78 : decode prog_11_method_30_code 78 = .ok (.iload_n 1, 1) := by decide +kernel
theorem twd_mo_terminators_79 : decode prog_11_method_30_code 79 = .ok (.istore 4, 2) := by decide +kernel
theorem twd_mo_terminators_81 : decode prog_11_method_30_code 81 = .ok (.iload 4, 2) := by decide +kernel
theorem twd_mo_terminators_83 : decode prog_11_method_30_code 83 = .ok (.iload_n 2, 1) := by decide +kernel
theorem twd_mo_terminators_84 : decode prog_11_method_30_code 84 = .ok (.if_icmp .ge 20, 3) := by decide +kernel
theorem twd_mo_terminators_87 : decode prog_11_method_30_code 87 = .ok (.iload_n 3, 1) := by decide +kernel
theorem twd_mo_terminators_88 : decode prog_11_method_30_code 88 = .ok (.ifCond .eq 16, 3) := by decide +kernel
theorem twd_mo_terminators_91 : decode prog_11_method_30_code 91 = .ok (.aload_n 0, 1) := by decide +kernel
theorem twd_mo_terminators_92 : decode prog_11_method_30_code 92 = .ok (.iload 4, 2) := by decide +kernel
theorem twd_mo_terminators_94 : decode prog_11_method_30_code 94 = .ok (.iconst 3, 1) := by decide +kernel
theorem twd_mo_terminators_95 : decode prog_11_method_30_code 95 = .ok (.invokevirtual 172, 3) := by decide +kernel
theorem twd_mo_terminators_98 : decode prog_11_method_30_code 98 = .ok (.iinc 4 1, 3) := by decide +kernel
theorem twd_mo_terminators_101 : decode prog_11_method_30_code 101 = .ok (.goto (-20), 3) := by decide +kernel
theorem twd_mo_terminators_104 : decode prog_11_method_30_code 104 = .ok (.iload_n 2, 1) := by decide +kernel
theorem twd_mo_terminators_105 : decode prog_11_method_30_code 105 = .ok (.iload_n 1, 1) := by decide +kernel
theorem twd_mo_terminators_106 : decode prog_11_method_30_code 106 = .ok (.if_icmp .le 7, 3) := by decide +kernel
theorem twd_mo_terminators_109 : decode prog_11_method_30_code 109 = .ok (.iload_n 2, 1) := by decide +kernel
theorem twd_mo_terminators_110 : decode prog_11_method_30_code 110 = .ok (.goto 6, 3) := by decide +kernel
theorem twd_mo_terminators_113 : decode prog_11_method_30_code 113 = .ok (.iload_n 1, 1) := by decide +kernel
theorem twd_mo_terminators_114 : decode prog_11_method_30_code 114 = .ok (.iconst 1, 1) := by decide +kernel
theorem twd_mo_terminators_115 : decode prog_11_method_30_code 115 = .ok (.iadd, 1) := by decide +kernel
theorem twd_mo_terminators_116 : decode prog_11_method_30_code 116 = .ok (.istore_n 1, 1) := by decide +kernel
theorem twd_mo_terminators_117 : decode prog_11_method_30_code 117 = .ok (.goto (-115), 3) := by decide +kernel
theorem twd_mo_terminators_120 : decode prog_11_method_30_code 120 = .ok (.iconst 0, 1) := by decide +kernel
theorem twd_mo_terminators_121 : decode prog_11_method_30_code 121 = .ok (.istore_n 2, 1) := by decide +kernel
theorem twd_mo_terminators_122 : decode prog_11_method_30_code 122 = .ok (.iload_n 2, 1) := by decide +kernel
theorem twd_mo_terminators_123 : decode prog_11_method_30_code 123 = .ok (.aload_n 0, 1) := by decide +kernel
theorem twd_mo_terminators_124 : decode prog_11_method_30_code 124 = .ok (.getfield 139, 3) := by decide +kernel
theorem twd_mo_terminators_127 : decode prog_11_method_30_code 127 = .ok (.if_icmp .ge 44, 3) := by decide +kernel
theorem twd_mo_terminators_130 : decode prog_11_method_30_code 130 = .ok (.aload_n 0, 1) := by decide +kernel
theorem twd_mo_terminators_131 : decode prog_11_method_30_code 131 = .ok (.iload_n 2, 1) := by decide +kernel
theorem twd_mo_terminators_132 : decode prog_11_method_30_code 132 = .ok (.invokevirtual 169, 3) := by decide +kernel
theorem twd_mo_terminators_135 : decode prog_11_method_30_code 135 = .ok (.iconst 4, 1) := by decide +kernel
theorem twd_mo_terminators_136 : decode prog_11_method_30_code 136 = .ok (.if_icmp .eq 22, 3) := by decide +kernel
theorem twd_mo_terminators_139 : decode prog_11_method_30_code 139 = .ok (.aload_n 0, 1) := by decide +kernel
theorem twd_mo_terminators_140 : decode prog_11_method_30_code 140 = .ok (.iload_n 2, 1) := by decide +kernel
theorem twd_mo_terminators_141 : decode prog_11_method_30_code 141 = .ok (.invokevirtual 169, 3) := by decide +kernel
theorem twd_mo_terminators_144 : decode prog_11_method_30_code 144 = .ok (.iconst 5, 1) := by decide +kernel
theorem twd_mo_terminators_145 : decode prog_11_method_30_code 145 = .ok (.if_icmp .eq 13, 3) := by decide +kernel
theorem twd_mo_terminators_148 : decode prog_11_method_30_code 148 = .ok (.aload_n 0, 1) := by decide +kernel
theorem twd_mo_terminators_149 : decode prog_11_method_30_code 149 = .ok (.iload_n 2, 1) := by decide +kernel
theorem twd_mo_terminators_150 : decode prog_11_method_30_code 150 = .ok (.invokevirtual 169, 3) := by decide +kernel
theorem twd_mo_terminators_153 : decode prog_11_method_30_code 153 = .ok (.bipush 7, 2) := by decide +kernel
theorem twd_mo_terminators_155 : decode prog_11_method_30_code 155 = .ok (.if_icmp .ne 10, 3) := by decide +kernel
theorem twd_mo_terminators_158 : decode prog_11_method_30_code 158 = .ok (.aload_n 0, 1) := by decide +kernel
theorem twd_mo_terminators_159 : decode prog_11_method_30_code 159 = .ok (.iload_n 2, 1) := by decide +kernel
theorem twd_mo_terminators_160 : decode prog_11_method_30_code 160 = .ok (.bipush 11, 2) := by decide +kernel
theorem twd_mo_terminators_162 : decode prog_11_method_30_code 162 = .ok (.invokevirtual 172, 3) := by decide +kernel
theorem twd_mo_terminators_165 : decode prog_11_method_30_code 165 = .ok (.iinc 2 1, 3) := by decide +kernel
theorem twd_mo_terminators_168 : decode prog_11_method_30_code 168 = .ok (.goto (-46), 3) := by decide +kernel
theorem twd_mo_terminators_171 : decode prog_11_method_30_code 171 = .ok (.return_, 1) := by decide +kernel
theorem twk_mo_terminators : tw_dc twy_mo_terminators 0 := ⟨by decide +kernel, by decide +kernel, by decide +kernel⟩
theorem twd_mo_weak_0 : decode prog_11_method_29_code 0 = .ok (.iconst 0, 1) := by decide +kernel
theorem twd_mo_weak_1 : decode prog_11_method_29_code 1 = .ok (.istore_n 1, 1) := by decide +kernel
theorem twd_mo_weak_2 : decode prog_11_method_29_code 2 = .ok (.iload_n 1, 1) := by decide +kernel
theorem twd_mo_weak_3 : decode prog_11_method_29_code 3 = .ok (.aload_n 0, 1) := by decide +kernel
theorem twd_mo_weak_4 : decode prog_11_method_29_code 4 = .ok (.getfield 139, 3) := by decide +kernel
theorem twd_mo_weak_7 : decode prog_11_method_29_code 7 = .ok (.if_icmp .ge 75, 3) := by decide +kernel
theorem twd_mo_weak_10 : decode prog_11_method_29_code 10 = .ok (.aload_n 0, 1) := by decide +kernel
theorem twd_mo_weak_11 : decode prog_11_method_29_code 11 = .ok (.getfield 54, 3) := by decide +kernel
theorem twd_mo_weak_14 : decode prog_11_method_29_code 14 = .ok (.iload_n 1, 1) := by decide +kernel
theorem twd_mo_weak_15 : decode prog_11_method_29_code 15 = .ok (.aload_n 0, 1) := by decide +kernel
theorem twd_mo_weak_16 : decode prog_11_method_29_code 16 = .ok (.iload_n 1, 1) := by decide +kernel
theorem twd_mo_weak_17 : decode prog_11_method_29_code 17 = .ok (.invokevirtual 169, 3) := by decide +kernel
theorem twd_mo_weak_20 : decode prog_11_method_29_code 20 = .ok (.bipush 8, 2) := by decide +kernel
theorem twd_mo_weak_22 : decode prog_11_method_29_code 22 = .ok (.if_icmp .ne 7, 3) := by decide +kernel
theorem twd_mo_weak_25 : decode prog_11_method_29_code 25 = .ok (.iconst 1, 1) := by decide +kernel
theorem twd_mo_weak_26 : decode prog_11_method_29_code 26 = .ok (.goto 4, 3) := by decide +kernel
theorem twd_mo_weak_29 : decode prog_11_method_29_code 29 = .ok (.iconst 0, 1) := by decide +kernel
theorem twd_mo_weak_30 : decode prog_11_method_29_code 30 = .ok (.bastore, 1) := by decide +kernel
theorem twd_mo_weak_31 : decode prog_11_method_29_code 31 = .ok (.iload_n 1, 1) := by decide +kernel
theorem twd_mo_weak_32 : decode prog_11_method_29_code 32 = .ok (.ifCond .ne 10, 3) := by decide +kernel
theorem twd_mo_weak_35 : decode prog_11_method_29_code 35 = .ok (.aload_n 0, 1) := by decide +kernel
theorem twd_mo_weak_36 : decode prog_11_method_29_code 36 = .ok (.getfield 160, 3) := by decide +kernel
theorem twd_mo_weak_39 : decode prog_11_method_29_code 39 = .ok (.goto 10, 3) := by decide +kernel
theorem twd_mo_weak_42 : decode prog_11_method_29_code 42 = .ok (.aload_n 0, 1) := by decide +kernel
theorem twd_mo_weak_43 : decode prog_11_method_29_code 43 = .ok (.iload_n 1, 1) := by decide +kernel
theorem twd_mo_weak_44 : decode prog_11_method_29_code 44 = .ok (.iconst 1, 1) := by decide +kernel
theorem twd_mo_weak_45 : decode prog_11_method_29_code 45 = .ok (.isub, 1) := by decide +kernel
theorem twd_mo_weak_46 : decode prog_11_method_29_code 46 = .ok (.invokevirtual 169, 3) := by decide +kernel
theorem twd_mo_weak_49 : decode prog_11_method_29_code 49 = .ok (.istore_n 2, 1) := by decide +kernel
theorem twd_mo_weak_50 : decode prog_11_method_29_code 50 = .ok (.aload_n 0, 1) := by decide +kernel
theorem twd_mo_weak_51 : decode prog_11_method_29_code 51 = .ok (.getfield 54, 3) := by decide +kernel
theorem twd_mo_weak_54 : decode prog_11_method_29_code 54 = .ok (.iload_n 1, 1) := by decide +kernel
theorem twd_mo_weak_55 : decode prog_11_method_29_code 55 = .ok (.baload, 1) := by decide +kernel
theorem twd_mo_weak_56 : decode prog_11_method_29_code 56 = .ok (.ifCond .eq 20, 3) := by decide +kernel
theorem twd_mo_weak_59 : decode prog_11_method_29_code 59 = .ok (.aload_n 0, 1) := by decide +kernel
theorem twd_mo_weak_60 : decode prog_11_method_29_code 60 = .ok (.iload_n 1, 1) := by decide +kernel
theorem twd_mo_weak_61 : decode prog_11_method_29_code 61 = .ok (.iload_n 2, 1) := by decide +kernel
theorem twd_mo_weak_62 : decode prog_11_method_29_code 62 = .ok (.bipush 17, 2) := by decide +kernel
theorem twd_mo_weak_64 : decode prog_11_method_29_code 64 = .ok (.if_icmp .lt 8, 3) := by decide +kernel
theorem twd_mo_weak_67 : decode prog_11_method_29_code 67 = .ok (.bipush 11, 2) := by decide +kernel
theorem twd_mo_weak_69 : decode prog_11_method_29_code 69 = .ok (.goto 4, 3) := by decide +kernel
theorem twd_mo_weak_72 : decode prog_11_method_29_code 72 = .ok (.iload_n 2, 1) := by decide +kernel
theorem twd_mo_weak_73 : decode prog_11_method_29_code 73 = .ok (.invokevirtual 172, 3) := by decide +kernel
theorem twd_mo_weak_76 : decode prog_11_method_29_code 76 = .ok (.iinc 1 1, 3) := by decide +kernel
theorem twd_mo_weak_79 : decode prog_11_method_29_code 79 = .ok (.goto (-77), 3) := by decide +kernel
theorem twd_mo_weak_82 : decode prog_11_method_29_code 82 = .ok (.iconst (-1), 1) := by decide +kernel
theorem twd_mo_weak_83 : decode prog_11_method_29_code 83 = .ok (.istore_n 1, 1) := by decide +kernel
theorem twd_mo_weak_84 : decode prog_11_method_29_code 84 = .ok (.iconst 0, 1) := by decide +kernel
theorem twd_mo_weak_85 : decode prog_11_method_29_code 85 = .ok (.istore_n 2, 1) := by decide +kernel
theorem twd_mo_weak_86 : decode prog_11_method_29_code 86 = .ok (.iload_n 2, 1) := by decide +kernel
theorem twd_mo_weak_87 : decode prog_11_method_29_code 87 = .ok (.aload_n 0, 1) := by decide +kernel
theorem twd_mo_weak_88 : decode prog_11_method_29_code 88 = .ok (.getfield 139, 3) := by decide +kernel
theorem twd_mo_weak_91 : decode prog_11_method_29_code 91 = .ok (.if_icmp .ge 49, 3) := by decide +kernel
theorem twd_mo_weak_94 : decode prog_11_method_29_code 94 = .ok (.aload_n 0, 1) := by decide +kernel
theorem twd_mo_weak_95 : decode prog_11_method_29_code 95 = .ok (.iload_n 2, 1) := by decide +kernel
theorem twd_mo_weak_96 : decode prog_11_method_29_code 96 = .ok (.invokevirtual 169, 3) := by decide +kernel
theorem twd_mo_weak_99 : decode prog_11_method_29_code 99 = .ok (.iconst 2, 1) := by decide +kernel
theorem twd_mo_weak_100 : decode prog_11_method_29_code 100 = .ok (.if_icmp .gt 11, 3) := by decide +kernel
theorem twd_mo_weak_103 : decode prog_11_method_29_code 103 = .ok (.aload_n 0, 1) := by decide +kernel
theorem twd_mo_weak_104 : decode prog_11_method_29_code 104 = .ok (.iload_n 2, 1) := by decide +kernel
theorem twd_mo_weak_105 : decode prog_11_method_29_code 105 = .ok (.invokevirtual 169, 3) := by decide +kernel
theorem twd_mo_weak_108 : decode prog_11_method_29_code 108 = .ok (.goto 4, 3) := by decide +kernel
theorem twd_mo_weak_111 : decode prog_11_method_29_code 111 = .ok (.iload_n 1, 1) := by decide +kernel
theorem twd_mo_weak_112 : decode prog_11_method_29_code 112 = .ok (.istore_n 1, 1) := by decide +kernel
theorem twd_mo_weak_113 : decode prog_11_method_29_code 113 = .ok (.aload_n 0, 1) := by decide +kernel
theorem twd_mo_weak_114 : decode prog_11_method_29_code 114 = .ok (.iload_n 2, 1) := by decide +kernel
theorem twd_mo_weak_115 : decode prog_11_method_29_code 115 = .ok (.invokevirtual 169, 3) := by decide +kernel
theorem twd_mo_weak_118 : decode prog_11_method_29_code 118 = .ok (.iconst 3, 1) := by decide +kernel
theorem twd_mo_weak_119 : decode prog_11_method_29_code 119 = .ok (.if_icmp .ne 15, 3) := by decide +kernel
theorem twd_mo_weak_122 : decode prog_11_method_29_code 122 = .ok (.iload_n 1, 1) := by decide +kernel
theorem twd_mo_weak_123 : decode prog_11_method_29_code 123 = .ok (.iconst 2, 1) := by decide +kernel
theorem twd_mo_weak_124 : decode prog_11_method_29_code 124 = .ok (.if_icmp .ne 10, 3) := by decide +kernel
theorem twd_mo_weak_127 : decode prog_11_method_29_code 127 = .ok (.aload_n 0, 1) := by decide +kernel
theorem twd_mo_weak_128 : decode prog_11_method_29_code 128 = .ok (.iload_n 2, 1) := by decide +kernel
theorem twd_mo_weak_129 : decode prog_11_method_29_code 129 = .ok (.bipush 6, 2) := by decide +kernel
theorem twd_mo_weak_131 : decode prog_11_method_29_code 131 = .ok (.invokevirtual 172, 3) := by decide +kernel
theorem twd_mo_weak_134 : decode prog_11_method_29_code 134 = .ok (.iinc 2 1, 3) := by decide +kernel
theorem twd_mo_weak_137 : decode prog_11_method_29_code 137 = .ok (.goto (-51), 3) := by decide +kernel
theorem twd_mo_weak_140 : decode prog_11_method_29_code 140 = .ok (.iconst 0, 1) := by decide +kernel
theorem twd_mo_weak_141 : decode prog_11_method_29_code 141 = .ok (.istore_n 2, 1) := by decide +kernel
theorem twd_mo_weak_142 : decode prog_11_method_29_code 142 = .ok (.iload_n 2, 1) := by decide +kernel
theorem twd_mo_weak_143 : decode prog_11_method_29_code 143 = .ok (.aload_n 0, 1) := by decide +kernel
theorem twd_mo_weak_144 : decode prog_11_method_29_code 144 = .ok (.getfield 139, 3) := by decide +kernel
theorem twd_mo_weak_147 : decode prog_11_method_29_code 147 = .ok (.if_icmp .ge 24, 3) := by decide +kernel
theorem twd_mo_weak_150 : decode prog_11_method_29_code 150 = .ok (.aload_n 0, 1) := by decide +kernel
theorem twd_mo_weak_151 : decode prog_11_method_29_code 151 = .ok (.iload_n 2, 1) := by decide +kernel
theorem twd_mo_weak_152 : decode prog_11_method_29_code 152 = .ok (.invokevirtual 169, 3) := by decide +kernel
theorem twd_mo_weak_155 : decode prog_11_method_29_code 155 = .ok (.iconst 2, 1) := by decide +kernel
theorem twd_mo_weak_156 : decode prog_11_method_29_code 156 = .ok (.if_icmp .ne 9, 3) := by decide +kernel
theorem twd_mo_weak_159 : decode prog_11_method_29_code 159 = .ok (.aload_n 0, 1) := by decide +kernel
theorem twd_mo_weak_160 : decode prog_11_method_29_code 160 = .ok (.iload_n 2, 1) := by decide +kernel
theorem twd_mo_weak_161 : decode prog_11_method_29_code 161 = .ok (.iconst 1, 1) := by decide +kernel
theorem twd_mo_weak_162 : decode prog_11_method_29_code 162 = .ok (.invokevirtual 172, 3) := by decide +kernel
theorem twd_mo_weak_165 : decode prog_11_method_29_code 165 = .ok (.iinc 2 1, 3) := by decide +kernel
theorem twd_mo_weak_168 : decode prog_11_method_29_code 168 = .ok (.goto (-26), 3) := by decide +kernel
theorem twd_mo_weak_171 : decode prog_11_method_29_code 171 = .ok (.iconst 1, 1) := by decide +kernel
theorem twd_mo_weak_172 : decode prog_11_method_29_code 172 = .ok (.istore_n 2, 1) := by decide +kernel
theorem twd_mo_weak_173 : decode prog_11_method_29_code 173 = .ok (.iload_n 2, 1) := by decide +kernel
theorem twd_mo_weak_174 : decode prog_11_method_29_code 174 = .ok (.iconst 1, 1) := by decide +kernel
theorem twd_mo_weak_175 : decode prog_11_method_29_code 175 = .ok (.iadd, 1) := by decide +kernel
theorem twd_mo_weak_176 : decode prog_11_method_29_code 176 = .ok (.aload_n 0, 1) := by decide +kernel
theorem twd_mo_weak_177 : decode prog_11_method_29_code 177 = .ok (.getfield 139, 3) := by decide +kernel
theorem twd_mo_weak_180 : decode prog_11_method_29_code 180 = .ok (.if_icmp .ge 100, 3) := by decide +kernel
theorem twd_mo_weak_183 : decode prog_11_method_29_code 183 = .ok (.aload_n 0, 1) := by decide +kernel
theorem twd_mo_weak_184 : decode prog_11_method_29_code 184 = .ok (.iload_n 2, 1) := by decide +kernel
theorem twd_mo_weak_185 : decode prog_11_method_29_code 185 = .ok (.iconst 1, 1) := by decide +kernel
theorem twd_mo_weak_186 : decode prog_11_method_29_code 186 = .ok (.isub, 1) := by decide +kernel
theorem twd_mo_weak_187 : decode prog_11_method_29_code 187 = .ok (.invokevirtual 169, 3) := by decide +kernel
theorem twd_mo_weak_190 : decode prog_11_method_29_code 190 = .ok (.aload_n 0, 1) := by decide +kernel
theorem twd_mo_weak_191 : decode prog_11_method_29_code 191 = .ok (.iload_n 2, 1) := by decide +kernel
theorem twd_mo_weak_192 : decode prog_11_method_29_code 192 = .ok (.iconst 1, 1) := by decide +kernel
theorem twd_mo_weak_193 : decode prog_11_method_29_code 193 = .ok (.iadd, 1) := by decide +kernel
theorem twd_mo_weak_194 : decode prog_11_method_29_code 194 = .ok (.invokevirtual 169, 3) := by decide +kernel
theorem twd_mo_weak_197 : decode prog_11_method_29_code 197 = .ok (.if_icmp .ne 40, 3) := by decide +kernel
theorem twd_mo_weak_200 : decode prog_11_method_29_code 200 = .ok (.aload_n 0, 1) := by decide +kernel
theorem twd_mo_weak_201 : decode prog_11_method_29_code 201 = .ok (.iload_n 2, 1) := by decide +kernel
theorem twd_mo_weak_202 : decode prog_11_method_29_code 202 = .ok (.iconst 1, 1) := by decide +kernel
theorem twd_mo_weak_203 : decode prog_11_method_29_code 203 = .ok (.isub, 1) := by decide +kernel
theorem twd_mo_weak_204 : decode prog_11_method_29_code 204 = .ok (.invokevirtual 169, 3) := by decide +kernel
theorem twd_mo_weak_207 : decode prog_11_method_29_code 207 = .ok (.iconst 3, 1) := by decide +kernel
theorem twd_mo_weak_208 : decode prog_11_method_29_code 208 = .ok (.if_icmp .eq 25, 3) := by decide +kernel
theorem twd_mo_weak_211 : decode prog_11_method_29_code 211 = .ok (.aload_n 0, 1) := by decide +kernel
theorem twd_mo_weak_212 : decode prog_11_method_29_code 212 = .ok (.iload_n 2, 1) := by decide +kernel
theorem twd_mo_weak_213 : decode prog_11_method_29_code 213 = .ok (.iconst 1, 1) := by decide +kernel
theorem twd_mo_weak_214 : decode prog_11_method_29_code 214 = .ok (.isub, 1) := by decide +kernel
theorem twd_mo_weak_215 : decode prog_11_method_29_code 215 = .ok (.invokevirtual 169, 3) := by decide +kernel
theorem twd_mo_weak_218 : decode prog_11_method_29_code 218 = .ok (.bipush 6, 2) := by decide +kernel
theorem twd_mo_weak_220 : decode prog_11_method_29_code 220 = .ok (.if_icmp .ne 17, 3) := by decide +kernel
theorem twd_mo_weak_223 : decode prog_11_method_29_code 223 = .ok (.aload_n 0, 1) := by decide +kernel
theorem twd_mo_weak_224 : decode prog_11_method_29_code 224 = .ok (.iload_n 2, 1) := by decide +kernel
theorem twd_mo_weak_225 : decode prog_11_method_29_code 225 = .ok (.invokevirtual 169, 3) := by decide +kernel
theorem twd_mo_weak_228 : decode prog_11_method_29_code 228 = .ok (.bipush 7, 2) := by decide +kernel
theorem twd_mo_weak_230 : decode prog_11_method_29_code 230 = .ok (.if_icmp .ne 7, 3) := by decide +kernel
theorem twd_mo_weak_233 : decode prog_11_method_29_code 233 = .ok (.iconst 1, 1) := by decide +kernel
theorem twd_mo_weak_234 : decode prog_11_method_29_code 234 = .ok (.goto 4, 3) := by decide +kernel
theorem twd_mo_weak_237 : decode prog_11_method_29_code 237 = .ok (.iconst 0, 1) := by decide +kernel
theorem twd_mo_weak_238 : decode prog_11_method_29_code 238 = .ok (.istore_n 3, 1) := by decide +kernel
theorem twd_mo_weak_239 : decode prog_11_method_29_code 239 = .ok (.aload_n 0, 1) := by decide +kernel
theorem twd_mo_weak_240 : decode prog_11_method_29_code 240 = .ok (.iload_n 2, 1) := by decide +kernel
theorem twd_mo_weak_241 : decode prog_11_method_29_code 241 = .ok (.invokevirtual 169, 3) := by decide +kernel
theorem twd_mo_weak_244 : decode prog_11_method_29_code 244 = .ok (.iconst 4, 1) := by decide +kernel
theorem twd_mo_weak_245 : decode prog_11_method_29_code 245 = .ok (.if_icmp .eq 13, 3) := by decide +kernel
theorem twd_mo_weak_248 : decode prog_11_method_29_code 248 = .ok (.aload_n 0, 1) := by decide +kernel
theorem twd_mo_weak_249 : decode prog_11_method_29_code 249 = .ok (.iload_n 2, 1) := by decide +kernel
theorem twd_mo_weak_250 : decode prog_11_method_29_code 250 = .ok (.invokevirtual 169, 3) := by decide +kernel
theorem twd_mo_weak_253 : decode prog_11_method_29_code 253 = .ok (.bipush 7, 2) := by decide +kernel
theorem twd_mo_weak_255 : decode prog_11_method_29_code 255 = .ok (.if_icmp .ne 19, 3) := by decide +kernel
theorem twd_mo_weak_258 : decode prog_11_method_29_code 258 = .ok (.iload_n 3, 1) := by decide +kernel
theorem twd_mo_weak_259 : decode prog_11_method_29_code 259 = .ok (.ifCond .eq 15, 3) := by decide +kernel
theorem twd_mo_weak_262 : decode prog_11_method_29_code 262 = .ok (.aload_n 0, 1) := by decide +kernel
theorem twd_mo_weak_263 : decode prog_11_method_29_code 263 = .ok (.iload_n 2, 1) := by decide +kernel
theorem twd_mo_weak_264 : decode prog_11_method_29_code 264 = .ok (.aload_n 0, 1) := by decide +kernel
theorem twd_mo_weak_265 : decode prog_11_method_29_code 265 = .ok (.iload_n 2, 1) := by decide +kernel
theorem twd_mo_weak_266 : decode prog_11_method_29_code 266 = .ok (.iconst 1, 1) := by decide +kernel
theorem twd_mo_weak_267 : decode prog_11_method_29_code 267 = .ok (.isub, 1) := by decide +kernel
theorem twd_mo_weak_268 : decode prog_11_method_29_code 268 = .ok (.invokevirtual 169, 3) := by decide +kernel
theorem twd_mo_weak_271 : decode prog_11_method_29_code 271 = .ok (.invokevirtual 172, 3) := by decide +kernel
theorem twd_mo_weak_274 : decode prog_11_method_29_code 274 = .ok (.iinc 2 1, 3) := by decide +kernel
theorem twd_mo_weak_277 : decode prog_11_method_29_code 277 = .ok (.goto (-104), 3) := by decide +kernel
theorem twd_mo_weak_280 : decode prog_11_method_29_code 280 = .ok (.aload_n 0, 1) := by decide +kernel
theorem twd_mo_weak_281 : decode prog_11_method_29_code 281 = .ok (.invokevirtual 176, 3) := by decide +kernel
theorem twd_mo_weak_284 : decode prog_11_method_29_code 284 = .ok (.aload_n 0, 1) := by decide +kernel
theorem twd_mo_weak_285 : decode prog_11_method_29_code 285 = .ok (.getfield 160, 3) := by decide +kernel
theorem twd_mo_weak_288 : decode prog_11_method_29_code 288 = .ok (.istore_n 1, 1) := by decide +kernel
theorem twd_mo_weak_289 : decode prog_11_method_29_code 289 = .ok (.iconst 0, 1) := by decide +kernel
theorem twd_mo_weak_290 : decode prog_11_method_29_code 290 = .ok (.istore_n 2, 1) := by decide +kernel
theorem twd_mo_weak_291 : decode prog_11_method_29_code 291 = .ok (.iload_n 2, 1) := by decide +kernel
theorem twd_mo_weak_292 : decode prog_11_method_29_code 292 = .ok (.aload_n 0, 1) := by decide +kernel
theorem twd_mo_weak_293 : decode prog_11_method_29_code 293 = .ok (.getfield 139, 3) := by decide +kernel
theorem twd_mo_weak_296 : decode prog_11_method_29_code 296 = .ok (.if_icmp .ge 47, 3) := by decide +kernel
theorem twd_mo_weak_299 : decode prog_11_method_29_code 299 = .ok (.aload_n 0, 1) := by decide +kernel
theorem twd_mo_weak_300 : decode prog_11_method_29_code 300 = .ok (.iload_n 2, 1) := by decide +kernel
theorem twd_mo_weak_301 : decode prog_11_method_29_code 301 = .ok (.invokevirtual 169, 3) := by decide +kernel
theorem twd_mo_weak_304 : decode prog_11_method_29_code 304 = .ok (.iconst 1, 1) := by decide +kernel
theorem twd_mo_weak_305 : decode prog_11_method_29_code 305 = .ok (.if_icmp .gt 11, 3) := by decide +kernel
theorem twd_mo_weak_308 : decode prog_11_method_29_code 308 = .ok (.aload_n 0, 1) := by decide +kernel
theorem twd_mo_weak_309 : decode prog_11_method_29_code 309 = .ok (.iload_n 2, 1) := by decide +kernel
theorem twd_mo_weak_310 : decode prog_11_method_29_code 310 = .ok (.invokevirtual 169, 3) := by decide +kernel
theorem twd_mo_weak_313 : decode prog_11_method_29_code 313 = .ok (.goto 4, 3) := by decide +kernel
theorem twd_mo_weak_316 : decode prog_11_method_29_code 316 = .ok (.iload_n 1, 1) := by decide +kernel
theorem twd_mo_weak_317 : decode prog_11_method_29_code 317 = .ok (.istore_n 1, 1) := by decide +kernel
theorem twd_mo_weak_318 : decode prog_11_method_29_code 318 = .ok (.aload_n 0, 1) := by decide +kernel
theorem twd_mo_weak_319 : decode prog_11_method_29_code 319 = .ok (.iload_n 2, 1) := by decide +kernel
theorem twd_mo_weak_320 : decode prog_11_method_29_code 320 = .ok (.invokevirtual 169, 3) := by decide +kernel
theorem twd_mo_weak_323 : decode prog_11_method_29_code 323 = .ok (.iconst 3, 1) := by decide +kernel
theorem twd_mo_weak_324 : decode prog_11_method_29_code 324 = .ok (.if_icmp .ne 13, 3) := by decide +kernel
theorem twd_mo_weak_327 : decode prog_11_method_29_code 327 = .ok (.iload_n 1, 1) := by decide +kernel
theorem twd_mo_weak_328 : decode prog_11_method_29_code 328 = .ok (.ifCond .ne 9, 3) := by decide +kernel
theorem twd_mo_weak_331 : decode prog_11_method_29_code 331 = .ok (.aload_n 0, 1) := by decide +kernel
theorem twd_mo_weak_332 : decode prog_11_method_29_code 332 = .ok (.iload_n 2, 1) := by decide +kernel
theorem twd_mo_weak_333 : decode prog_11_method_29_code 333 = .ok (.iconst 0, 1) := by decide +kernel
theorem twd_mo_weak_334 : decode prog_11_method_29_code 334 = .ok (.invokevirtual 172, 3) := by decide +kernel
theorem twd_mo_weak_337 : decode prog_11_method_29_code 337 = .ok (.iinc 2 1, 3) := by decide +kernel
theorem twd_mo_weak_340 : decode prog_11_method_29_code 340 = .ok (.goto (-49), 3) := by decide +kernel
theorem twd_mo_weak_343 : decode prog_11_method_29_code 343 = .ok (.return_, 1) := by decide +kernel
theorem twk_mo_weak : tw_dc twy_mo_weak 0 := ⟨by decide +kernel, by decide +kernel, by decide +kernel⟩
theorem twd_mo_strong_0 : decode prog_11_method_31_code 0 = .ok (.aload_n 0, 1) := by decide +kernel
theorem twd_mo_strong_1 : decode prog_11_method_31_code 1 = .ok (.iload_n 1, 1) := by decide +kernel
theorem twd_mo_strong_2 : decode prog_11_method_31_code 2 = .ok (.invokevirtual 169, 3) := by decide +kernel
theorem twd_mo_strong_5 : decode prog_11_method_31_code 5 = .ok (.istore_n 2, 1) := by decide +kernel
theorem twd_mo_strong_6 : decode prog_11_method_31_code 6 = .ok (.iload_n 2, 1) := by decide +kernel
theorem twd_mo_strong_7 : decode prog_11_method_31_code 7 = .ok (.ifCond .ne 7, 3) := by decide +kernel
theorem twd_mo_strong_10 : decode prog_11_method_31_code 10 = .ok (.iconst 0, 1) := by decide +kernel
theorem twd_mo_strong_11 : decode prog_11_method_31_code 11 = .ok (.goto 24, 3) := by decide +kernel
theorem twd_mo_strong_14 : decode prog_11_method_31_code 14 = .ok (.iload_n 2, 1) := by decide +kernel
theorem twd_mo_strong_15 : decode prog_11_method_31_code 15 = .ok (.iconst 1, 1) := by decide +kernel
theorem twd_mo_strong_16 : decode prog_11_method_31_code 16 = .ok (.if_icmp .eq 14, 3) := by decide +kernel
theorem twd_mo_strong_19 : decode prog_11_method_31_code 19 = .ok (.iload_n 2, 1) := by decide +kernel
theorem twd_mo_strong_20 : decode prog_11_method_31_code 20 = .ok (.iconst 3, 1) := by decide +kernel
theorem twd_mo_strong_21 : decode prog_11_method_31_code 21 = .ok (.if_icmp .eq 9, 3) := by decide +kernel
theorem twd_mo_strong_24 : decode prog_11_method_31_code 24 = .ok (.iload_n 2, 1) := by decide +kernel
theorem twd_mo_strong_25 : decode prog_11_method_31_code 25 = .ok (.bipush 6, 2) := by decide +kernel
theorem twd_mo_strong_27 : decode prog_11_method_31_code 27 = .ok (.if_icmp .ne 7, 3) := by decide +kernel
theorem twd_mo_strong_30 : decode prog_11_method_31_code 30 = .ok (.iconst 1, 1) := by decide +kernel
theorem twd_mo_strong_31 : decode prog_11_method_31_code 31 = .ok (.goto 4, 3) := by decide +kernel
theorem twd_mo_strong_34 : decode prog_11_method_31_code 34 = .ok (.iconst (-1), 1) := by decide +kernel
theorem twd_mo_strong_35 : decode prog_11_method_31_code 35 = .ok (.ireturn, 1) := by decide +kernel
theorem twk_mo_strong : tw_dc twy_mo_strong 1 := ⟨by decide +kernel, by decide +kernel, by decide +kernel⟩
theorem twd_mo_give_0 : decode prog_11_method_34_code 0 = .ok (.aload_n 0, 1) := by decide +kernel
theorem twd_mo_give_1 : decode prog_11_method_34_code 1 = .ok (.iload_n 1, 1) := by decide +kernel
theorem twd_mo_give_2 : decode prog_11_method_34_code 2 = .ok (.iload_n 2, 1) := by decide +kernel
theorem twd_mo_give_3 : decode prog_11_method_34_code 3 = .ok (.invokevirtual 172, 3) := by decide +kernel
theorem twd_mo_give_6 : decode prog_11_method_34_code 6 = .ok (.iload_n 1, 1) := by decide +kernel
theorem twd_mo_give_7 : decode prog_11_method_34_code 7 = .ok (.iconst 1, 1) := by decide +kernel
theorem twd_mo_give_8 : decode prog_11_method_34_code 8 = .ok (.iadd, 1) := by decide +kernel
theorem twd_mo_give_9 : decode prog_11_method_34_code 9 = .ok (.istore_n 3, 1) := by decide +kernel
theorem twd_mo_give_10 : decode prog_11_method_34_code 10 = .ok (.iload_n 3, 1) := by decide +kernel
theorem twd_mo_give_11 : decode prog_11_method_34_code 11 = .ok (.aload_n 0, 1) := by decide +kernel
theorem twd_mo_give_12 : decode prog_11_method_34_code 12 = .ok (.getfield 139, 3) := by decide +kernel
theorem twd_mo_give_15 : decode prog_11_method_34_code 15 = .ok (.if_icmp .ge 24, 3) := by decide +kernel
theorem twd_mo_give_18 : decode prog_11_method_34_code 18 = .ok (.aload_n 0, 1) := by decide +kernel
theorem twd_mo_give_19 : decode prog_11_method_34_code 19 = .ok (.getfield 54, 3) := by decide +kernel
theorem twd_mo_give_22 : decode prog_11_method_34_code 22 = .ok (.iload_n 3, 1) := by decide +kernel
theorem twd_mo_give_23 : decode prog_11_method_34_code 23 = .ok (.baload, 1) := by decide +kernel
theorem twd_mo_give_24 : decode prog_11_method_34_code 24 = .ok (.ifCond .eq 15, 3) := by decide +kernel
theorem twd_mo_give_27 : decode prog_11_method_34_code 27 = .ok (.aload_n 0, 1) := by decide +kernel
theorem twd_mo_give_28 : decode prog_11_method_34_code 28 = .ok (.iload_n 3, 1) := by decide +kernel
theorem twd_mo_give_29 : decode prog_11_method_34_code 29 = .ok (.iload_n 2, 1) := by decide +kernel
theorem twd_mo_give_30 : decode prog_11_method_34_code 30 = .ok (.invokevirtual 172, 3) := by decide +kernel
theorem twd_mo_give_33 : decode prog_11_method_34_code 33 = .ok (.iinc 3 1, 3) := by decide +kernel
theorem twd_mo_give_36 : decode prog_11_method_34_code 36 = .ok (.goto (-26), 3) := by decide +kernel
theorem twd_mo_give_39 : decode prog_11_method_34_code 39 = .ok (.return_, 1) := by decide +kernel
theorem twk_mo_give : tw_dc twy_mo_give 2 := ⟨by decide +kernel, by decide +kernel, by decide +kernel⟩
theorem twd_mo_enclose_0 : decode prog_11_method_33_code 0 = .ok (.iconst 0, 1) := by decide +kernel
theorem twd_mo_enclose_1 : decode prog_11_method_33_code 1 = .ok (.istore_n 3, 1) := by decide +kernel
theorem twd_mo_enclose_2 : decode prog_11_method_33_code 2 = .ok (.iconst 0, 1) := by decide +kernel
theorem twd_mo_enclose_3 : decode prog_11_method_33_code 3 = .ok (.istore 4, 2) := by decide +kernel
theorem twd_mo_enclose_5 : decode prog_11_method_33_code 5 = .ok (.iload_n 1, 1) := by decide +kernel
theorem twd_mo_enclose_6 : decode prog_11_method_33_code 6 = .ok (.iconst 1, 1) := by decide +kernel
theorem twd_mo_enclose_7 : decode prog_11_method_33_code 7 = .ok (.iadd, 1) := by decide +kernel
theorem twd_mo_enclose_8 : decode prog_11_method_33_code 8 = .ok (.istore 5, 2) := by decide +kernel
theorem twd_mo_enclose_10 : decode prog_11_method_33_code 10 = .ok (.iload 5, 2) := by decide +kernel
theorem twd_mo_enclose_12 : decode prog_11_method_33_code 12 = .ok (.iload_n 2, 1) := by decide +kernel
theorem twd_mo_enclose_13 : decode prog_11_method_33_code 13 = .ok (.if_icmp .ge 59, 3) := by decide +kernel
theorem twd_mo_enclose_16 : decode prog_11_method_33_code 16 = .ok (.iload_n 3, 1) := by decide +kernel
theorem twd_mo_enclose_17 : decode prog_11_method_33_code 17 = .ok (.ifCond .ne 16, 3) := by decide +kernel
theorem twd_mo_enclose_20 : decode prog_11_method_33_code 20 = .ok (.aload_n 0, 1) := by decide +kernel
theorem twd_mo_enclose_21 : decode prog_11_method_33_code 21 = .ok (.iload 5, 2) := by decide +kernel
theorem twd_mo_enclose_23 : decode prog_11_method_33_code 23 = .ok (.invokevirtual 182, 3) := by decide +kernel
theorem twd_mo_enclose_26 : decode prog_11_method_33_code 26 = .ok (.aload_n 0, 1) := by decide +kernel
theorem twd_mo_enclose_27 : decode prog_11_method_33_code 27 = .ok (.getfield 166, 3) := by decide +kernel
theorem twd_mo_enclose_30 : decode prog_11_method_33_code 30 = .ok (.if_icmp .ne 7, 3) := by decide +kernel
theorem twd_mo_enclose_33 : decode prog_11_method_33_code 33 = .ok (.iconst 1, 1) := by decide +kernel
theorem twd_mo_enclose_34 : decode prog_11_method_33_code 34 = .ok (.goto 4, 3) := by decide +kernel
theorem twd_mo_enclose_37 : decode prog_11_method_33_code 37 = .ok (.iconst 0, 1) := by decide +kernel
theorem twd_mo_enclose_38 : decode prog_11_method_33_code 38 = .ok (.istore_n 3, 1) := by decide +kernel
theorem twd_mo_enclose_39 : decode prog_11_method_33_code 39 = .ok (.iload 4, 2) := by decide +kernel
theorem twd_mo_enclose_41 : decode prog_11_method_33_code 41 = .ok (.ifCond .ne 18, 3) := by decide +kernel
theorem twd_mo_enclose_44 : decode prog_11_method_33_code 44 = .ok (.aload_n 0, 1) := by decide +kernel
theorem twd_mo_enclose_45 : decode prog_11_method_33_code 45 = .ok (.iload 5, 2) := by decide +kernel
theorem twd_mo_enclose_47 : decode prog_11_method_33_code 47 = .ok (.invokevirtual 182, 3) := by decide +kernel
theorem twd_mo_enclose_50 : decode prog_11_method_33_code 50 = .ok (.iconst 1, 1) := by decide +kernel
theorem twd_mo_enclose_51 : decode prog_11_method_33_code 51 = .ok (.aload_n 0, 1) := by decide +kernel
theorem twd_mo_enclose_52 : decode prog_11_method_33_code 52 = .ok (.getfield 166, 3) := by decide +kernel
theorem twd_mo_enclose_55 : decode prog_11_method_33_code 55 = .ok (.isub, 1) := by decide +kernel
theorem twd_mo_enclose_56 : decode prog_11_method_33_code 56 = .ok (.if_icmp .ne 7, 3) := by decide +kernel
theorem twd_mo_enclose_59 : decode prog_11_method_33_code 59 = .ok (.iconst 1, 1) := by decide +kernel
theorem twd_mo_enclose_60 : decode prog_11_method_33_code 60 = .ok (.goto 4, 3) := by decide +kernel
theorem twd_mo_enclose_63 : decode prog_11_method_33_code 63 = .ok (.iconst 0, 1) := by decide +kernel
theorem twd_mo_enclose_64 : decode prog_11_method_33_code 64 = .ok (.istore 4, 2) := by decide +kernel
theorem twd_mo_enclose_66 : decode prog_11_method_33_code 66 = .ok (.iinc 5 1, 3) := by decide +kernel
theorem twd_mo_enclose_69 : decode prog_11_method_33_code 69 = .ok (.goto (-59), 3) := by decide +kernel
theorem twd_mo_enclose_72 : decode prog_11_method_33_code 72 = .ok (.iload_n 3, 1) := by decide +kernel
theorem twd_mo_enclose_73 : decode prog_11_method_33_code 73 = .ok (.ifCond .ne 9, 3) := by decide +kernel
theorem twd_mo_enclose_76 : decode prog_11_method_33_code 76 = .ok (.iload 4, 2) := by decide +kernel
theorem twd_mo_enclose_78 : decode prog_11_method_33_code 78 = .ok (.ifCond .ne 4, 3) := by decide +kernel
theorem twd_mo_enclose_81 : decode prog_11_method_33_code 81 = .ok (.return_, 1) := by decide +kernel
theorem twd_mo_enclose_82 : decode prog_11_method_33_code 82 = .ok (.aload_n 0, 1) := by decide +kernel
theorem twd_mo_enclose_83 : decode prog_11_method_33_code 83 = .ok (.getfield 160, 3) := by decide +kernel
theorem twd_mo_enclose_86 : decode prog_11_method_33_code 86 = .ok (.istore 5, 2) := by decide +kernel
theorem twd_mo_enclose_88 : decode prog_11_method_33_code 88 = .ok (.iconst 0, 1) := by decide +kernel
theorem twd_mo_enclose_89 : decode prog_11_method_33_code 89 = .ok (.istore 6, 2) := by decide +kernel
theorem twd_mo_enclose_91 : decode prog_11_method_33_code 91 = .ok (.iload 6, 2) := by decide +kernel
theorem twd_mo_enclose_93 : decode prog_11_method_33_code 93 = .ok (.iload_n 1, 1) := by decide +kernel
theorem twd_mo_enclose_94 : decode prog_11_method_33_code 94 = .ok (.if_icmp .ge 31, 3) := by decide +kernel
theorem twd_mo_enclose_97 : decode prog_11_method_33_code 97 = .ok (.aload_n 0, 1) := by decide +kernel
theorem twd_mo_enclose_98 : decode prog_11_method_33_code 98 = .ok (.iload 6, 2) := by decide +kernel
theorem twd_mo_enclose_100 : decode prog_11_method_33_code 100 = .ok (.invokevirtual 182, 3) := by decide +kernel
theorem twd_mo_enclose_103 : decode prog_11_method_33_code 103 = .ok (.ifCond .lt 12, 3) := by decide +kernel
theorem twd_mo_enclose_106 : decode prog_11_method_33_code 106 = .ok (.aload_n 0, 1) := by decide +kernel
theorem twd_mo_enclose_107 : decode prog_11_method_33_code 107 = .ok (.iload 6, 2) := by decide +kernel
theorem twd_mo_enclose_109 : decode prog_11_method_33_code 109 = .ok (.invokevirtual 182, 3) := by decide +kernel
theorem twd_mo_enclose_112 : decode prog_11_method_33_code 112 = .ok (.goto 5, 3) := by decide +kernel
theorem twd_mo_enclose_115 : decode prog_11_method_33_code 115 = .ok (.iload 5, 2) := by decide +kernel
theorem twd_mo_enclose_117 : decode prog_11_method_33_code 117 = .ok (.istore 5, 2) := by decide +kernel
theorem twd_mo_enclose_119 : decode prog_11_method_33_code 119 = .ok (.iinc 6 1, 3) := by decide +kernel
theorem twd_mo_enclose_122 : decode prog_11_method_33_code 122 = .ok (.goto (-31), 3) := by decide +kernel
theorem twd_mo_enclose_125 : decode prog_11_method_33_code 125 = .ok (.iload_n 3, 1) := by decide +kernel
theorem twd_mo_enclose_126 : decode prog_11_method_33_code 126 = .ok (.ifCond .ne 21, 3) := by decide +kernel
theorem twd_mo_enclose_129 : decode prog_11_method_33_code 129 = .ok (.iload 5, 2) := by decide +kernel
theorem twd_mo_enclose_131 : decode prog_11_method_33_code 131 = .ok (.aload_n 0, 1) := by decide +kernel
theorem twd_mo_enclose_132 : decode prog_11_method_33_code 132 = .ok (.getfield 166, 3) := by decide +kernel
theorem twd_mo_enclose_135 : decode prog_11_method_33_code 135 = .ok (.if_icmp .eq 12, 3) := by decide +kernel
theorem twd_mo_enclose_138 : decode prog_11_method_33_code 138 = .ok (.iconst 1, 1) := by decide +kernel
theorem twd_mo_enclose_139 : decode prog_11_method_33_code 139 = .ok (.aload_n 0, 1) := by decide +kernel
theorem twd_mo_enclose_140 : decode prog_11_method_33_code 140 = .ok (.getfield 166, 3) := by decide +kernel
theorem twd_mo_enclose_143 : decode prog_11_method_33_code 143 = .ok (.isub, 1) := by decide +kernel
theorem twd_mo_enclose_144 : decode prog_11_method_33_code 144 = .ok (.goto 7, 3) := by decide +kernel
theorem twd_mo_enclose_147 : decode prog_11_method_33_code 147 = .ok (.aload_n 0, 1) := by decide +kernel
theorem twd_mo_enclose_148 : decode prog_11_method_33_code 148 = .ok (.getfield 166, 3) := by decide +kernel
theorem twd_mo_enclose_151 : decode prog_11_method_33_code 151 = .ok (.istore 6, 2) := by decide +kernel
theorem twd_mo_enclose_153 : decode prog_11_method_33_code 153 = .ok (.aload_n 0, 1) := by decide +kernel
theorem twd_mo_enclose_154 : decode prog_11_method_33_code 154 = .ok (.iload_n 1, 1) := by decide +kernel
theorem twd_mo_enclose_155 : decode prog_11_method_33_code 155 = .ok (.iload 6, 2) := by decide +kernel
theorem twd_mo_enclose_157 : decode prog_11_method_33_code 157 = .ok (.invokevirtual 185, 3) := by decide +kernel
theorem twd_mo_enclose_160 : decode prog_11_method_33_code 160 = .ok (.aload_n 0, 1) := by decide +kernel
theorem twd_mo_enclose_161 : decode prog_11_method_33_code 161 = .ok (.iload_n 2, 1) := by decide +kernel
theorem twd_mo_enclose_162 : decode prog_11_method_33_code 162 = .ok (.iload 6, 2) := by decide +kernel
theorem twd_mo_enclose_164 : decode prog_11_method_33_code 164 = .ok (.invokevirtual 185, 3) := by decide +kernel
theorem twd_mo_enclose_167 : decode prog_11_method_33_code 167 = .ok (.return_, 1) := by decide +kernel
theorem twk_mo_enclose : tw_dc twy_mo_enclose 2 := ⟨by decide +kernel, by decide +kernel, by decide +kernel⟩
theorem twd_mo_brackets_0 : decode prog_11_method_32_code 0 = .ok (.iconst 0, 1) := by decide +kernel
theorem twd_mo_brackets_1 : decode prog_11_method_32_code 1 = .ok (.istore_n 1, 1) := by decide +kernel
theorem twd_mo_brackets_2 : decode prog_11_method_32_code 2 = .ok (.iconst 0, 1) := by decide +kernel
theorem twd_mo_brackets_3 : decode prog_11_method_32_code 3 = .ok (.istore_n 2, 1) := by decide +kernel
theorem twd_mo_brackets_4 : decode prog_11_method_32_code 4 = .ok (.iload_n 2, 1) := by decide +kernel
theorem twd_mo_brackets_5 : decode prog_11_method_32_code 5 = .ok (.aload_n 0, 1) := by decide +kernel
theorem twd_mo_brackets_6 : decode prog_11_method_32_code 6 = .ok (.getfield 139, 3) := by decide +kernel
theorem twd_mo_brackets_9 : decode prog_11_method_32_code 9 = .ok (.if_icmp .ge 149, 3) := by decide +kernel
theorem twd_mo_brackets_12 : decode prog_11_method_32_code 12 = .ok (.aload_n 0, 1) := by decide +kernel
theorem twd_mo_brackets_13 : decode prog_11_method_32_code 13 = .ok (.iload_n 2, 1) := by decide +kernel
theorem twd_mo_brackets_14 : decode prog_11_method_32_code 14 = .ok (.invokevirtual 169, 3) := by decide +kernel
theorem twd_mo_brackets_17 : decode prog_11_method_32_code 17 = .ok (.bipush 11, 2) := by decide +kernel
theorem twd_mo_brackets_19 : decode prog_11_method_32_code 19 = .ok (.if_icmp .ne 17, 3) := by decide +kernel
theorem twd_mo_brackets_22 : decode prog_11_method_32_code 22 = .ok (.aload_n 0, 1) := by decide +kernel
theorem twd_mo_brackets_23 : decode prog_11_method_32_code 23 = .ok (.getfield 26, 3) := by decide +kernel
theorem twd_mo_brackets_26 : decode prog_11_method_32_code 26 = .ok (.aload_n 0, 1) := by decide +kernel
theorem twd_mo_brackets_27 : decode prog_11_method_32_code 27 = .ok (.getfield 51, 3) := by decide +kernel
theorem twd_mo_brackets_30 : decode prog_11_method_32_code 30 = .ok (.iload_n 2, 1) := by decide +kernel
theorem twd_mo_brackets_31 : decode prog_11_method_32_code 31 = .ok (.iaload, 1) := by decide +kernel
theorem twd_mo_brackets_32 : decode prog_11_method_32_code 32 = .ok (.iaload, 1) := by decide +kernel
theorem twd_mo_brackets_33 : decode prog_11_method_32_code 33 = .ok (.goto 4, 3) := by decide +kernel
theorem twd_mo_brackets_36 : decode prog_11_method_32_code 36 = .ok (.iconst 0, 1) := by decide +kernel
theorem twd_mo_brackets_37 : decode prog_11_method_32_code 37 = .ok (.istore_n 3, 1) := by decide +kernel
theorem twd_mo_brackets_38 : decode prog_11_method_32_code 38 = .ok (.iload_n 3, 1) := by decide +kernel
theorem twd_mo_brackets_39 : decode prog_11_method_32_code 39 = .ok (.ifCond .le 13, 3) := by decide +kernel
theorem twd_mo_brackets_42 : decode prog_11_method_32_code 42 = .ok (.aload_n 0, 1) := by decide +kernel
theorem twd_mo_brackets_43 : decode prog_11_method_32_code 43 = .ok (.getfield 57, 3) := by decide +kernel
theorem twd_mo_brackets_46 : decode prog_11_method_32_code 46 = .ok (.iload_n 1, 1) := by decide +kernel
theorem twd_mo_brackets_47 : decode prog_11_method_32_code 47 = .ok (.iload_n 2, 1) := by decide +kernel
theorem twd_mo_brackets_48 : decode prog_11_method_32_code 48 = .ok (.iastore, 1) := by decide +kernel
theorem twd_mo_brackets_49 : decode prog_11_method_32_code 49 = .ok (.iinc 1 1, 3) := by decide +kernel
theorem twd_mo_brackets_52 : decode prog_11_method_32_code 52 = .ok (.iload_n 3, 1) := by decide +kernel
theorem twd_mo_brackets_53 : decode prog_11_method_32_code 53 = .ok (.ifCond .ge 9, 3) := by decide +kernel
theorem twd_mo_brackets_56 : decode prog_11_method_32_code 56 = .ok (.iload_n 1, 1) := by decide +kernel
theorem twd_mo_brackets_57 : decode prog_11_method_32_code 57 = .ok (.iconst 1, 1) := by decide +kernel
theorem twd_mo_brackets_58 : decode prog_11_method_32_code 58 = .ok (.isub, 1) := by decide +kernel
theorem twd_mo_brackets_59 : decode prog_11_method_32_code 59 = .ok (.goto 4, 3) := by decide +kernel
theorem twd_mo_brackets_62 : decode prog_11_method_32_code 62 = .ok (.iconst (-1), 1) := by decide +kernel
theorem twd_mo_brackets_63 : decode prog_11_method_32_code 63 = .ok (.istore 4, 2) := by decide +kernel
theorem twd_mo_brackets_65 : decode prog_11_method_32_code 65 = .ok (.iload 4, 2) := by decide +kernel
theorem twd_mo_brackets_67 : decode prog_11_method_32_code 67 = .ok (.ifCond .lt 31, 3) := by decide +kernel
theorem twd_mo_brackets_70 : decode prog_11_method_32_code 70 = .ok (.aload_n 0, 1) := by decide +kernel
theorem twd_mo_brackets_71 : decode prog_11_method_32_code 71 = .ok (.getfield 26, 3) := by decide +kernel
theorem twd_mo_brackets_74 : decode prog_11_method_32_code 74 = .ok (.aload_n 0, 1) := by decide +kernel
theorem twd_mo_brackets_75 : decode prog_11_method_32_code 75 = .ok (.getfield 51, 3) := by decide +kernel
theorem twd_mo_brackets_78 : decode prog_11_method_32_code 78 = .ok (.aload_n 0, 1) := by decide +kernel
theorem twd_mo_brackets_79 : decode prog_11_method_32_code 79 = .ok (.getfield 57, 3) := by decide +kernel
theorem twd_mo_brackets_82 : decode prog_11_method_32_code 82 = .ok (.iload 4, 2) := by decide +kernel
theorem twd_mo_brackets_84 : decode prog_11_method_32_code 84 = .ok (.iaload, 1) := by decide +kernel
theorem twd_mo_brackets_85 : decode prog_11_method_32_code 85 = .ok (.iaload, 1) := by decide +kernel
theorem twd_mo_brackets_86 : decode prog_11_method_32_code 86 = .ok (.iaload, 1) := by decide +kernel
theorem twd_mo_brackets_87 : decode prog_11_method_32_code 87 = .ok (.iload_n 3, 1) := by decide +kernel
theorem twd_mo_brackets_88 : decode prog_11_method_32_code 88 = .ok (.ineg, 1) := by decide +kernel
theorem twd_mo_brackets_89 : decode prog_11_method_32_code 89 = .ok (.if_icmp .eq 9, 3) := by decide +kernel
theorem twd_mo_brackets_92 : decode prog_11_method_32_code 92 = .ok (.iinc 4 (-1), 3) := by decide +kernel
theorem twd_mo_brackets_95 : decode prog_11_method_32_code 95 = .ok (.goto (-30), 3) := by decide +kernel
theorem twd_mo_brackets_98 : decode prog_11_method_32_code 98 = .ok (.iload 4, 2) := by decide +kernel
theorem twd_mo_brackets_100 : decode prog_11_method_32_code 100 = .ok (.ifCond .lt 52, 3) := by decide +kernel
theorem twd_mo_brackets_103 : decode prog_11_method_32_code 103 = .ok (.aload_n 0, 1) := by decide +kernel
theorem twd_mo_brackets_104 : decode prog_11_method_32_code 104 = .ok (.getfield 38, 3) := by decide +kernel
theorem twd_mo_brackets_107 : decode prog_11_method_32_code 107 = .ok (.aload_n 0, 1) := by decide +kernel
theorem twd_mo_brackets_108 : decode prog_11_method_32_code 108 = .ok (.getfield 51, 3) := by decide +kernel
theorem twd_mo_brackets_111 : decode prog_11_method_32_code 111 = .ok (.iload_n 2, 1) := by decide +kernel
theorem twd_mo_brackets_112 : decode prog_11_method_32_code 112 = .ok (.iaload, 1) := by decide +kernel
theorem twd_mo_brackets_113 : decode prog_11_method_32_code 113 = .ok (.aload_n 0, 1) := by decide +kernel
theorem twd_mo_brackets_114 : decode prog_11_method_32_code 114 = .ok (.getfield 51, 3) := by decide +kernel
theorem twd_mo_brackets_117 : decode prog_11_method_32_code 117 = .ok (.aload_n 0, 1) := by decide +kernel
theorem twd_mo_brackets_118 : decode prog_11_method_32_code 118 = .ok (.getfield 57, 3) := by decide +kernel
theorem twd_mo_brackets_121 : decode prog_11_method_32_code 121 = .ok (.iload 4, 2) := by decide +kernel
theorem twd_mo_brackets_123 : decode prog_11_method_32_code 123 = .ok (.iaload, 1) := by decide +kernel
theorem twd_mo_brackets_124 : decode prog_11_method_32_code 124 = .ok (.iaload, 1) := by decide +kernel
theorem twd_mo_brackets_125 : decode prog_11_method_32_code 125 = .ok (.iastore, 1) := by decide +kernel
theorem twd_mo_brackets_126 : decode prog_11_method_32_code 126 = .ok (.aload_n 0, 1) := by decide +kernel
theorem twd_mo_brackets_127 : decode prog_11_method_32_code 127 = .ok (.getfield 38, 3) := by decide +kernel
theorem twd_mo_brackets_130 : decode prog_11_method_32_code 130 = .ok (.aload_n 0, 1) := by decide +kernel
theorem twd_mo_brackets_131 : decode prog_11_method_32_code 131 = .ok (.getfield 51, 3) := by decide +kernel
theorem twd_mo_brackets_134 : decode prog_11_method_32_code 134 = .ok (.aload_n 0, 1) := by decide +kernel
theorem twd_mo_brackets_135 : decode prog_11_method_32_code 135 = .ok (.getfield 57, 3) := by decide +kernel
theorem twd_mo_brackets_138 : decode prog_11_method_32_code 138 = .ok (.iload 4, 2) := by decide +kernel
theorem twd_mo_brackets_140 : decode prog_11_method_32_code 140 = .ok (.iaload, 1) := by decide +kernel
theorem twd_mo_brackets_141 : decode prog_11_method_32_code 141 = .ok (.iaload, 1) := by decide +kernel
theorem twd_mo_brackets_142 : decode prog_11_method_32_code 142 = .ok (.aload_n 0, 1) := by decide +kernel
theorem twd_mo_brackets_143 : decode prog_11_method_32_code 143 = .ok (.getfield 51, 3) := by decide +kernel
theorem twd_mo_brackets_146 : decode prog_11_method_32_code 146 = .ok (.iload_n 2, 1) := by decide +kernel
theorem twd_mo_brackets_147 : decode prog_11_method_32_code 147 = .ok (.iaload, 1) := by decide +kernel
theorem twd_mo_brackets_148 : decode prog_11_method_32_code 148 = .ok (.iastore, 1) := by decide +kernel
theorem twd_mo_brackets_149 : decode prog_11_method_32_code 149 = .ok (.iload 4, 2) := by decide +kernel
theorem twd_mo_brackets_151 : decode prog_11_method_32_code 151 = .ok (.istore_n 1, 1) := by decide +kernel
theorem twd_mo_brackets_152 : decode prog_11_method_32_code 152 = .ok (.iinc 2 1, 3) := by decide +kernel
theorem twd_mo_brackets_155 : decode prog_11_method_32_code 155 = .ok (.goto (-151), 3) := by decide +kernel
theorem twd_mo_brackets_158 : decode prog_11_method_32_code 158 = .ok (.iconst 0, 1) := by decide +kernel
theorem twd_mo_brackets_159 : decode prog_11_method_32_code 159 = .ok (.istore_n 2, 1) := by decide +kernel
theorem twd_mo_brackets_160 : decode prog_11_method_32_code 160 = .ok (.iload_n 2, 1) := by decide +kernel
theorem twd_mo_brackets_161 : decode prog_11_method_32_code 161 = .ok (.aload_n 0, 1) := by decide +kernel
theorem twd_mo_brackets_162 : decode prog_11_method_32_code 162 = .ok (.getfield 139, 3) := by decide +kernel
theorem twd_mo_brackets_165 : decode prog_11_method_32_code 165 = .ok (.if_icmp .ge 58, 3) := by decide +kernel
theorem twd_mo_brackets_168 : decode prog_11_method_32_code 168 = .ok (.aload_n 0, 1) := by decide +kernel
theorem twd_mo_brackets_169 : decode prog_11_method_32_code 169 = .ok (.getfield 38, 3) := by decide +kernel
theorem twd_mo_brackets_172 : decode prog_11_method_32_code 172 = .ok (.aload_n 0, 1) := by decide +kernel
theorem twd_mo_brackets_173 : decode prog_11_method_32_code 173 = .ok (.getfield 51, 3) := by decide +kernel
theorem twd_mo_brackets_176 : decode prog_11_method_32_code 176 = .ok (.iload_n 2, 1) := by decide +kernel
theorem twd_mo_brackets_177 : decode prog_11_method_32_code 177 = .ok (.iaload, 1) := by decide +kernel
theorem twd_mo_brackets_178 : decode prog_11_method_32_code 178 = .ok (.iaload, 1) := by decide +kernel
theorem twd_mo_brackets_179 : decode prog_11_method_32_code 179 = .ok (.istore_n 3, 1) := by decide +kernel
theorem twd_mo_brackets_180 : decode prog_11_method_32_code 180 = .ok (.iload_n 3, 1) := by decide +kernel
theorem twd_mo_brackets_181 : decode prog_11_method_32_code 181 = .ok (.aload_n 0, 1) := by decide +kernel
theorem twd_mo_brackets_182 : decode prog_11_method_32_code 182 = .ok (.getfield 51, 3) := by decide +kernel
theorem twd_mo_brackets_185 : decode prog_11_method_32_code 185 = .ok (.iload_n 2, 1) := by decide +kernel
theorem twd_mo_brackets_186 : decode prog_11_method_32_code 186 = .ok (.iaload, 1) := by decide +kernel
theorem twd_mo_brackets_187 : decode prog_11_method_32_code 187 = .ok (.if_icmp .le 30, 3) := by decide +kernel
theorem twd_mo_brackets_190 : decode prog_11_method_32_code 190 = .ok (.iload_n 2, 1) := by decide +kernel
theorem twd_mo_brackets_191 : decode prog_11_method_32_code 191 = .ok (.istore 4, 2) := by decide +kernel
theorem twd_mo_brackets_193 : decode prog_11_method_32_code 193 = .ok (.aload_n 0, 1) := by decide +kernel
theorem twd_mo_brackets_194 : decode prog_11_method_32_code 194 = .ok (.getfield 51, 3) := by decide +kernel
theorem twd_mo_brackets_197 : decode prog_11_method_32_code 197 = .ok (.iload 4, 2) := by decide +kernel
theorem twd_mo_brackets_199 : decode prog_11_method_32_code 199 = .ok (.iaload, 1) := by decide +kernel
theorem twd_mo_brackets_200 : decode prog_11_method_32_code 200 = .ok (.iload_n 3, 1) := by decide +kernel
theorem twd_mo_brackets_201 : decode prog_11_method_32_code 201 = .ok (.if_icmp .eq 9, 3) := by decide +kernel
theorem twd_mo_brackets_204 : decode prog_11_method_32_code 204 = .ok (.iinc 4 1, 3) := by decide +kernel
theorem twd_mo_brackets_207 : decode prog_11_method_32_code 207 = .ok (.goto (-14), 3) := by decide +kernel
theorem twd_mo_brackets_210 : decode prog_11_method_32_code 210 = .ok (.aload_n 0, 1) := by decide +kernel
theorem twd_mo_brackets_211 : decode prog_11_method_32_code 211 = .ok (.iload_n 2, 1) := by decide +kernel
theorem twd_mo_brackets_212 : decode prog_11_method_32_code 212 = .ok (.iload 4, 2) := by decide +kernel
theorem twd_mo_brackets_214 : decode prog_11_method_32_code 214 = .ok (.invokevirtual 179, 3) := by decide +kernel
theorem twd_mo_brackets_217 : decode prog_11_method_32_code 217 = .ok (.iinc 2 1, 3) := by decide +kernel
theorem twd_mo_brackets_220 : decode prog_11_method_32_code 220 = .ok (.goto (-60), 3) := by decide +kernel
theorem twd_mo_brackets_223 : decode prog_11_method_32_code 223 = .ok (.return_, 1) := by decide +kernel
theorem twk_mo_brackets : tw_dc twy_mo_brackets 0 := ⟨by decide +kernel, by decide +kernel, by decide +kernel⟩
theorem twd_mo_neutral_0 : decode prog_11_method_35_code 0 = .ok (.iconst 0, 1) := by decide +kernel
theorem twd_mo_neutral_1 : decode prog_11_method_35_code 1 = .ok (.istore_n 1, 1) := by decide +kernel
theorem twd_mo_neutral_2 : decode prog_11_method_35_code 2 = .ok (.iload_n 1, 1) := by decide +kernel
theorem twd_mo_neutral_3 : decode prog_11_method_35_code 3 = .ok (.aload_n 0, 1) := by decide +kernel
theorem twd_mo_neutral_4 : decode prog_11_method_35_code 4 = .ok (.getfield 139, 3) := by decide +kernel
theorem twd_mo_neutral_7 : decode prog_11_method_35_code 7 = .ok (.if_icmp .ge 126, 3) := by decide +kernel
theorem twd_mo_neutral_10 : decode prog_11_method_35_code 10 = .ok (.iload_n 1, 1) := by decide +kernel
theorem twd_mo_neutral_11 : decode prog_11_method_35_code 11 = .ok (.istore_n 2, 1) := by decide +kernel
theorem twd_mo_neutral_12 : decode prog_11_method_35_code 12 = .ok (.iload_n 2, 1) := by decide +kernel
theorem twd_mo_neutral_13 : decode prog_11_method_35_code 13 = .ok (.aload_n 0, 1) := by decide +kernel
theorem twd_mo_neutral_14 : decode prog_11_method_35_code 14 = .ok (.getfield 139, 3) := by decide +kernel
theorem twd_mo_neutral_17 : decode prog_11_method_35_code 17 = .ok (.if_icmp .ge 19, 3) := by decide +kernel
theorem twd_mo_neutral_20 : decode prog_11_method_35_code 20 = .ok (.aload_n 0, 1) := by decide +kernel
theorem twd_mo_neutral_21 : decode prog_11_method_35_code 21 = .ok (.iload_n 2, 1) := by decide +kernel
theorem twd_mo_neutral_22 : decode prog_11_method_35_code 22 = .ok (.invokevirtual 169, 3) := by decide +kernel
theorem twd_mo_neutral_25 : decode prog_11_method_35_code 25 = .ok (.bipush 9, 2) := by decide +kernel
theorem twd_mo_neutral_27 : decode prog_11_method_35_code 27 = .ok (.if_icmp .lt 9, 3) := by decide +kernel
theorem twd_mo_neutral_30 : decode prog_11_method_35_code 30 = .ok (.iinc 2 1, 3) := by decide +kernel
theorem twd_mo_neutral_33 : decode prog_11_method_35_code 33 = .ok (.goto (-21), 3) := by decide +kernel
theorem twd_mo_neutral_36 : decode prog_11_method_35_code 36 = .ok (.iload_n 2, 1) := by decide +kernel
theorem twd_mo_neutral_37 : decode prog_11_method_35_code 37 = .ok (.iload_n 1, 1) := by decide +kernel
theorem twd_mo_neutral_38 : decode prog_11_method_35_code 38 = .ok (.if_icmp .le 79, 3) := by decide +kernel
theorem twd_mo_neutral_41 : decode prog_11_method_35_code 41 = .ok (.iload_n 1, 1) := by decide +kernel
theorem twd_mo_neutral_42 : decode prog_11_method_35_code 42 = .ok (.ifCond .ne 10, 3) := by decide +kernel
theorem twd_mo_neutral_45 : decode prog_11_method_35_code 45 = .ok (.aload_n 0, 1) := by decide +kernel
theorem twd_mo_neutral_46 : decode prog_11_method_35_code 46 = .ok (.getfield 160, 3) := by decide +kernel
theorem twd_mo_neutral_49 : decode prog_11_method_35_code 49 = .ok (.goto 10, 3) := by decide +kernel
theorem twd_mo_neutral_52 : decode prog_11_method_35_code 52 = .ok (.aload_n 0, 1) := by decide +kernel
theorem twd_mo_neutral_53 : decode prog_11_method_35_code 53 = .ok (.iload_n 1, 1) := by decide +kernel
theorem twd_mo_neutral_54 : decode prog_11_method_35_code 54 = .ok (.iconst 1, 1) := by decide +kernel
theorem twd_mo_neutral_55 : decode prog_11_method_35_code 55 = .ok (.isub, 1) := by decide +kernel
theorem twd_mo_neutral_56 : decode prog_11_method_35_code 56 = .ok (.invokevirtual 182, 3) := by decide +kernel
theorem twd_mo_neutral_59 : decode prog_11_method_35_code 59 = .ok (.istore_n 3, 1) := by decide +kernel
theorem twd_mo_neutral_60 : decode prog_11_method_35_code 60 = .ok (.iload_n 2, 1) := by decide +kernel
theorem twd_mo_neutral_61 : decode prog_11_method_35_code 61 = .ok (.aload_n 0, 1) := by decide +kernel
theorem twd_mo_neutral_62 : decode prog_11_method_35_code 62 = .ok (.getfield 139, 3) := by decide +kernel
theorem twd_mo_neutral_65 : decode prog_11_method_35_code 65 = .ok (.if_icmp .ne 10, 3) := by decide +kernel
theorem twd_mo_neutral_68 : decode prog_11_method_35_code 68 = .ok (.aload_n 0, 1) := by decide +kernel
theorem twd_mo_neutral_69 : decode prog_11_method_35_code 69 = .ok (.getfield 163, 3) := by decide +kernel
theorem twd_mo_neutral_72 : decode prog_11_method_35_code 72 = .ok (.goto 8, 3) := by decide +kernel
theorem twd_mo_neutral_75 : decode prog_11_method_35_code 75 = .ok (.aload_n 0, 1) := by decide +kernel
theorem twd_mo_neutral_76 : decode prog_11_method_35_code 76 = .ok (.iload_n 2, 1) := by decide +kernel
theorem twd_mo_neutral_77 : decode prog_11_method_35_code 77 = .ok (.invokevirtual 182, 3) := by decide +kernel
theorem twd_mo_neutral_80 : decode prog_11_method_35_code 80 = .ok (.istore 4, 2) := by decide +kernel
theorem twd_mo_neutral_82 : decode prog_11_method_35_code 82 = .ok (.iload_n 1, 1) := by decide +kernel
theorem twd_mo_neutral_83 : decode prog_11_method_35_code 83 = .ok (.istore 5, 2) := by decide +kernel
theorem twd_mo_neutral_85 : decode prog_11_method_35_code 85 = .ok (.iload 5, 2) := by decide +kernel
theorem twd_mo_neutral_87 : decode prog_11_method_35_code 87 = .ok (.iload_n 2, 1) := by decide +kernel
theorem twd_mo_neutral_88 : decode prog_11_method_35_code 88 = .ok (.if_icmp .ge 29, 3) := by decide +kernel
theorem twd_mo_neutral_91 : decode prog_11_method_35_code 91 = .ok (.aload_n 0, 1) := by decide +kernel
theorem twd_mo_neutral_92 : decode prog_11_method_35_code 92 = .ok (.iload 5, 2) := by decide +kernel
theorem twd_mo_neutral_94 : decode prog_11_method_35_code 94 = .ok (.iload_n 3, 1) := by decide +kernel
theorem twd_mo_neutral_95 : decode prog_11_method_35_code 95 = .ok (.iload 4, 2) := by decide +kernel
theorem twd_mo_neutral_97 : decode prog_11_method_35_code 97 = .ok (.if_icmp .ne 7, 3) := by decide +kernel
theorem twd_mo_neutral_100 : decode prog_11_method_35_code 100 = .ok (.iload_n 3, 1) := by decide +kernel
theorem twd_mo_neutral_101 : decode prog_11_method_35_code 101 = .ok (.goto 7, 3) := by decide +kernel
theorem twd_mo_neutral_104 : decode prog_11_method_35_code 104 = .ok (.aload_n 0, 1) := by decide +kernel
theorem twd_mo_neutral_105 : decode prog_11_method_35_code 105 = .ok (.getfield 166, 3) := by decide +kernel
theorem twd_mo_neutral_108 : decode prog_11_method_35_code 108 = .ok (.invokevirtual 172, 3) := by decide +kernel
theorem twd_mo_neutral_111 : decode prog_11_method_35_code 111 = .ok (.iinc 5 1, 3) := by decide +kernel
theorem twd_mo_neutral_114 : decode prog_11_method_35_code 114 = .ok (.goto (-29), 3) := by decide +kernel
theorem twd_mo_neutral_117 : decode prog_11_method_35_code 117 = .ok (.iload_n 2, 1) := by decide +kernel
theorem twd_mo_neutral_118 : decode prog_11_method_35_code 118 = .ok (.iload_n 1, 1) := by decide +kernel
theorem twd_mo_neutral_119 : decode prog_11_method_35_code 119 = .ok (.if_icmp .le 7, 3) := by decide +kernel
theorem twd_mo_neutral_122 : decode prog_11_method_35_code 122 = .ok (.iload_n 2, 1) := by decide +kernel
theorem twd_mo_neutral_123 : decode prog_11_method_35_code 123 = .ok (.goto 6, 3) := by decide +kernel
theorem twd_mo_neutral_126 : decode prog_11_method_35_code 126 = .ok (.iload_n 1, 1) := by decide +kernel
theorem twd_mo_neutral_127 : decode prog_11_method_35_code 127 = .ok (.iconst 1, 1) := by decide +kernel
theorem twd_mo_neutral_128 : decode prog_11_method_35_code 128 = .ok (.iadd, 1) := by decide +kernel
theorem twd_mo_neutral_129 : decode prog_11_method_35_code 129 = .ok (.istore_n 1, 1) := by decide +kernel
theorem twd_mo_neutral_130 : decode prog_11_method_35_code 130 = .ok (.goto (-128), 3) := by decide +kernel
theorem twd_mo_neutral_133 : decode prog_11_method_35_code 133 = .ok (.return_, 1) := by decide +kernel
theorem twk_mo_neutral : tw_dc twy_mo_neutral 0 := ⟨by decide +kernel, by decide +kernel, by decide +kernel⟩
theorem twd_mo_sequences_0 : decode prog_11_method_25_code 0 = .ok (.iconst 0, 1) := by decide +kernel
theorem twd_mo_sequences_1 : decode prog_11_method_25_code 1 = .ok (.istore_n 1, 1) := by decide +kernel
theorem twd_mo_sequences_2 : decode prog_11_method_25_code 2 = .ok (.iload_n 1, 1) := by decide +kernel
theorem twd_mo_sequences_3 : decode prog_11_method_25_code 3 = .ok (.aload_n 0, 1) := by decide +kernel
theorem twd_mo_sequences_4 : decode prog_11_method_25_code 4 = .ok (.getfield 69, 3) := by decide +kernel
theorem twd_mo_sequences_7 : decode prog_11_method_25_code 7 = .ok (.if_icmp .ge 128, 3) := by decide +kernel
theorem twd_mo_sequences_10 : decode prog_11_method_25_code 10 = .ok (.aload_n 0, 1) := by decide +kernel
theorem twd_mo_sequences_11 : decode prog_11_method_25_code 11 = .ok (.iload_n 1, 1) := by decide +kernel
theorem twd_mo_sequences_12 : decode prog_11_method_25_code 12 = .ok (.invokevirtual 130, 3) := by decide +kernel
theorem twd_mo_sequences_15 : decode prog_11_method_25_code 15 = .ok (.ifCond .ne 114, 3) := by decide +kernel
theorem twd_mo_sequences_18 : decode prog_11_method_25_code 18 = .ok (.aload_n 0, 1) := by decide +kernel
theorem twd_mo_sequences_19 : decode prog_11_method_25_code 19 = .ok (.iload_n 1, 1) := by decide +kernel
theorem twd_mo_sequences_20 : decode prog_11_method_25_code 20 = .ok (.invokevirtual 136, 3) := by decide +kernel
theorem twd_mo_sequences_23 : decode prog_11_method_25_code 23 = .ok (.ifCond .eq 106, 3) := by decide +kernel
theorem twd_mo_sequences_26 : decode prog_11_method_25_code 26 = .ok (.aload_n 0, 1) := by decide +kernel
theorem twd_mo_sequences_27 : decode prog_11_method_25_code 27 = .ok (.getfield 16, 3) := by decide +kernel
theorem twd_mo_sequences_30 : decode prog_11_method_25_code 30 = .ok (.iload_n 1, 1) := by decide +kernel
theorem twd_mo_sequences_31 : decode prog_11_method_25_code 31 = .ok (.iaload, 1) := by decide +kernel
theorem twd_mo_sequences_32 : decode prog_11_method_25_code 32 = .ok (.bipush 20, 2) := by decide +kernel
theorem twd_mo_sequences_34 : decode prog_11_method_25_code 34 = .ok (.if_icmp .ne 11, 3) := by decide +kernel
theorem twd_mo_sequences_37 : decode prog_11_method_25_code 37 = .ok (.aload_n 0, 1) := by decide +kernel
theorem twd_mo_sequences_38 : decode prog_11_method_25_code 38 = .ok (.iload_n 1, 1) := by decide +kernel
theorem twd_mo_sequences_39 : decode prog_11_method_25_code 39 = .ok (.invokevirtual 142, 3) := by decide +kernel
theorem twd_mo_sequences_42 : decode prog_11_method_25_code 42 = .ok (.ifCond .ge 87, 3) := by decide +kernel
theorem twd_mo_sequences_45 : decode prog_11_method_25_code 45 = .ok (.aload_n 0, 1) := by decide +kernel
theorem twd_mo_sequences_46 : decode prog_11_method_25_code 46 = .ok (.iconst 0, 1) := by decide +kernel
theorem twd_mo_sequences_47 : decode prog_11_method_25_code 47 = .ok (.putfield 139, 3) := by decide +kernel
theorem twd_mo_sequences_50 : decode prog_11_method_25_code 50 = .ok (.iload_n 1, 1) := by decide +kernel
theorem twd_mo_sequences_51 : decode prog_11_method_25_code 51 = .ok (.istore_n 2, 1) := by decide +kernel
theorem twd_mo_sequences_52 : decode prog_11_method_25_code 52 = .ok (.iconst 0, 1) := by decide +kernel
theorem twd_mo_sequences_53 : decode prog_11_method_25_code 53 = .ok (.istore_n 3, 1) := by decide +kernel
theorem twd_mo_sequences_54 : decode prog_11_method_25_code 54 = .ok (.iload_n 3, 1) := by decide +kernel
theorem twd_mo_sequences_55 : decode prog_11_method_25_code 55 = .ok (.bipush 64, 2) := by decide +kernel
theorem twd_mo_sequences_57 : decode prog_11_method_25_code 57 = .ok (.if_icmp .ge 56, 3) := by decide +kernel
theorem twd_mo_sequences_60 : decode prog_11_method_25_code 60 = .ok (.iload_n 2, 1) := by decide +kernel
theorem twd_mo_sequences_61 : decode prog_11_method_25_code 61 = .ok (.ifCond .lt 52, 3) := by decide +kernel
theorem twd_mo_sequences_64 : decode prog_11_method_25_code 64 = .ok (.aload_n 0, 1) := by decide +kernel
theorem twd_mo_sequences_65 : decode prog_11_method_25_code 65 = .ok (.iload_n 2, 1) := by decide +kernel
theorem twd_mo_sequences_66 : decode prog_11_method_25_code 66 = .ok (.invokevirtual 145, 3) := by decide +kernel
theorem twd_mo_sequences_69 : decode prog_11_method_25_code 69 = .ok (.aload_n 0, 1) := by decide +kernel
theorem twd_mo_sequences_70 : decode prog_11_method_25_code 70 = .ok (.aload_n 0, 1) := by decide +kernel
theorem twd_mo_sequences_71 : decode prog_11_method_25_code 71 = .ok (.getfield 51, 3) := by decide +kernel
theorem twd_mo_sequences_74 : decode prog_11_method_25_code 74 = .ok (.aload_n 0, 1) := by decide +kernel
theorem twd_mo_sequences_75 : decode prog_11_method_25_code 75 = .ok (.getfield 139, 3) := by decide +kernel
theorem twd_mo_sequences_78 : decode prog_11_method_25_code 78 = .ok (.iconst 1, 1) := by decide +kernel
theorem twd_mo_sequences_79 : decode prog_11_method_25_code 79 = .ok (.isub, 1) := by decide +kernel
theorem twd_mo_sequences_80 : decode prog_11_method_25_code 80 = .ok (.iaload, 1) := by decide +kernel
theorem twd_mo_sequences_81 : decode prog_11_method_25_code 81 = .ok (.invokevirtual 76, 3) := by decide +kernel
theorem twd_mo_sequences_84 : decode prog_11_method_25_code 84 = .ok (.ifCond .eq 21, 3) := by decide +kernel
theorem twd_mo_sequences_87 : decode prog_11_method_25_code 87 = .ok (.aload_n 0, 1) := by decide +kernel
theorem twd_mo_sequences_88 : decode prog_11_method_25_code 88 = .ok (.aload_n 0, 1) := by decide +kernel
theorem twd_mo_sequences_89 : decode prog_11_method_25_code 89 = .ok (.getfield 51, 3) := by decide +kernel
theorem twd_mo_sequences_92 : decode prog_11_method_25_code 92 = .ok (.aload_n 0, 1) := by decide +kernel
theorem twd_mo_sequences_93 : decode prog_11_method_25_code 93 = .ok (.getfield 139, 3) := by decide +kernel
theorem twd_mo_sequences_96 : decode prog_11_method_25_code 96 = .ok (.iconst 1, 1) := by decide +kernel
theorem twd_mo_sequences_97 : decode prog_11_method_25_code 97 = .ok (.isub, 1) := by decide +kernel
theorem twd_mo_sequences_98 : decode prog_11_method_25_code 98 = .ok (.iaload, 1) := by decide +kernel
theorem twd_mo_sequences_99 : decode prog_11_method_25_code 99 = .ok (.invokevirtual 80, 3) := by decide +kernel
theorem twd_mo_sequences_102 : decode prog_11_method_25_code 102 = .ok (.goto 4, 3) := by decide +kernel
theorem twd_mo_sequences_105 : decode prog_11_method_25_code 105 = .ok (.iconst (-1), 1) := by decide +kernel
theorem twd_mo_sequences_106 : decode prog_11_method_25_code 106 = .ok (.istore_n 2, 1) := by decide +kernel
theorem twd_mo_sequences_107 : decode prog_11_method_25_code 107 = .ok (.iinc 3 1, 3) := by decide +kernel
theorem twd_mo_sequences_110 : decode prog_11_method_25_code 110 = .ok (.goto (-56), 3) := by decide +kernel
theorem twd_mo_sequences_113 : decode prog_11_method_25_code 113 = .ok (.aload_n 0, 1) := by decide +kernel
theorem twd_mo_sequences_114 : decode prog_11_method_25_code 114 = .ok (.invokevirtual 148, 3) := by decide +kernel
theorem twd_mo_sequences_117 : decode prog_11_method_25_code 117 = .ok (.aload_n 0, 1) := by decide +kernel
theorem twd_mo_sequences_118 : decode prog_11_method_25_code 118 = .ok (.invokevirtual 151, 3) := by decide +kernel
theorem twd_mo_sequences_121 : decode prog_11_method_25_code 121 = .ok (.aload_n 0, 1) := by decide +kernel
theorem twd_mo_sequences_122 : decode prog_11_method_25_code 122 = .ok (.invokevirtual 154, 3) := by decide +kernel
theorem twd_mo_sequences_125 : decode prog_11_method_25_code 125 = .ok (.aload_n 0, 1) := by decide +kernel
theorem twd_mo_sequences_126 : decode prog_11_method_25_code 126 = .ok (.invokevirtual 157, 3) := by decide +kernel
theorem twd_mo_sequences_129 : decode prog_11_method_25_code 129 = .ok (.iinc 1 1, 3) := by decide +kernel
theorem twd_mo_sequences_132 : decode prog_11_method_25_code 132 = .ok (.goto (-130), 3) := by decide +kernel
theorem twd_mo_sequences_135 : decode prog_11_method_25_code 135 = .ok (.return_, 1) := by decide +kernel
theorem twk_mo_sequences : tw_dc twy_mo_sequences 0 := ⟨by decide +kernel, by decide +kernel, by decide +kernel⟩
theorem twd_mo_resolve_0 : decode prog_11_method_36_code 0 = .ok (.iconst 0, 1) := by decide +kernel
theorem twd_mo_resolve_1 : decode prog_11_method_36_code 1 = .ok (.istore_n 1, 1) := by decide +kernel
theorem twd_mo_resolve_2 : decode prog_11_method_36_code 2 = .ok (.iload_n 1, 1) := by decide +kernel
theorem twd_mo_resolve_3 : decode prog_11_method_36_code 3 = .ok (.aload_n 0, 1) := by decide +kernel
theorem twd_mo_resolve_4 : decode prog_11_method_36_code 4 = .ok (.getfield 69, 3) := by decide +kernel
theorem twd_mo_resolve_7 : decode prog_11_method_36_code 7 = .ok (.if_icmp .ge 109, 3) := by decide +kernel
theorem twd_mo_resolve_10 : decode prog_11_method_36_code 10 = .ok (.aload_n 0, 1) := by decide +kernel
theorem twd_mo_resolve_11 : decode prog_11_method_36_code 11 = .ok (.getfield 32, 3) := by decide +kernel
theorem twd_mo_resolve_14 : decode prog_11_method_36_code 14 = .ok (.iload_n 1, 1) := by decide +kernel
theorem twd_mo_resolve_15 : decode prog_11_method_36_code 15 = .ok (.iaload, 1) := by decide +kernel
theorem twd_mo_resolve_16 : decode prog_11_method_36_code 16 = .ok (.istore_n 2, 1) := by decide +kernel
theorem twd_mo_resolve_17 : decode prog_11_method_36_code 17 = .ok (.aload_n 0, 1) := by decide +kernel
theorem twd_mo_resolve_18 : decode prog_11_method_36_code 18 = .ok (.getfield 29, 3) := by decide +kernel
theorem twd_mo_resolve_21 : decode prog_11_method_36_code 21 = .ok (.iload_n 1, 1) := by decide +kernel
theorem twd_mo_resolve_22 : decode prog_11_method_36_code 22 = .ok (.iaload, 1) := by decide +kernel
theorem twd_mo_resolve_23 : decode prog_11_method_36_code 23 = .ok (.istore_n 3, 1) := by decide +kernel
theorem twd_mo_resolve_24 : decode prog_11_method_36_code 24 = .ok (.iload_n 3, 1) := by decide +kernel
theorem twd_mo_resolve_25 : decode prog_11_method_36_code 25 = .ok (.iconst 2, 1) := by decide +kernel
theorem twd_mo_resolve_26 : decode prog_11_method_36_code 26 = .ok (.irem, 1) := by decide +kernel
theorem twd_mo_resolve_27 : decode prog_11_method_36_code 27 = .ok (.ifCond .ne 31, 3) := by decide +kernel
theorem twd_mo_resolve_30 : decode prog_11_method_36_code 30 = .ok (.iload_n 2, 1) := by decide +kernel
theorem twd_mo_resolve_31 : decode prog_11_method_36_code 31 = .ok (.iconst 1, 1) := by decide +kernel
theorem twd_mo_resolve_32 : decode prog_11_method_36_code 32 = .ok (.if_icmp .ne 7, 3) := by decide +kernel
theorem twd_mo_resolve_35 : decode prog_11_method_36_code 35 = .ok (.iconst 1, 1) := by decide +kernel
theorem twd_mo_resolve_36 : decode prog_11_method_36_code 36 = .ok (.goto 32, 3) := by decide +kernel
theorem twd_mo_resolve_39 : decode prog_11_method_36_code 39 = .ok (.iload_n 2, 1) := by decide +kernel
theorem twd_mo_resolve_40 : decode prog_11_method_36_code 40 = .ok (.iconst 3, 1) := by decide +kernel
theorem twd_mo_resolve_41 : decode prog_11_method_36_code 41 = .ok (.if_icmp .eq 9, 3) := by decide +kernel
theorem twd_mo_resolve_44 : decode prog_11_method_36_code 44 = .ok (.iload_n 2, 1) := by decide +kernel
theorem twd_mo_resolve_45 : decode prog_11_method_36_code 45 = .ok (.bipush 6, 2) := by decide +kernel
theorem twd_mo_resolve_47 : decode prog_11_method_36_code 47 = .ok (.if_icmp .ne 7, 3) := by decide +kernel
theorem twd_mo_resolve_50 : decode prog_11_method_36_code 50 = .ok (.iconst 2, 1) := by decide +kernel
theorem twd_mo_resolve_51 : decode prog_11_method_36_code 51 = .ok (.goto 17, 3) := by decide +kernel
theorem twd_mo_resolve_54 : decode prog_11_method_36_code 54 = .ok (.iconst 0, 1) := by decide +kernel
theorem twd_mo_resolve_55 : decode prog_11_method_36_code 55 = .ok (.goto 13, 3) := by decide +kernel
theorem twd_mo_resolve_58 : decode prog_11_method_36_code 58 = .ok (.iload_n 2, 1) := by decide +kernel
theorem twd_mo_resolve_59 : decode prog_11_method_36_code 59 = .ok (.iconst 1, 1) := by decide +kernel
theorem twd_mo_resolve_60 : decode prog_11_method_36_code 60 = .ok (.if_icmp .ne 7, 3) := by decide +kernel
theorem twd_mo_resolve_63 : decode prog_11_method_36_code 63 = .ok (.iconst 0, 1) := by decide +kernel
theorem twd_mo_resolve_64 : decode prog_11_method_36_code 64 = .ok (.goto 4, 3) := by decide +kernel
theorem twd_mo_resolve_67 : decode prog_11_method_36_code 67 = .ok (.iconst 1, 1) := by decide +kernel
theorem twd_mo_resolve_68 : decode prog_11_method_36_code 68 = .ok (.istore 4, 2) := by decide +kernel
theorem twd_mo_resolve_70 : decode prog_11_method_36_code 70 = .ok (.aload_n 0, 1) := by decide +kernel
theorem twd_mo_resolve_71 : decode prog_11_method_36_code 71 = .ok (.getfield 35, 3) := by decide +kernel
theorem twd_mo_resolve_74 : decode prog_11_method_36_code 74 = .ok (.iload_n 1, 1) := by decide +kernel
theorem twd_mo_resolve_75 : decode prog_11_method_36_code 75 = .ok (.aload_n 0, 1) := by decide +kernel
theorem twd_mo_resolve_76 : decode prog_11_method_36_code 76 = .ok (.iload_n 1, 1) := by decide +kernel
theorem twd_mo_resolve_77 : decode prog_11_method_36_code 77 = .ok (.invokevirtual 130, 3) := by decide +kernel
theorem twd_mo_resolve_80 : decode prog_11_method_36_code 80 = .ok (.ifCond .eq 25, 3) := by decide +kernel
theorem twd_mo_resolve_83 : decode prog_11_method_36_code 83 = .ok (.iload_n 1, 1) := by decide +kernel
theorem twd_mo_resolve_84 : decode prog_11_method_36_code 84 = .ok (.ifCond .ne 10, 3) := by decide +kernel
theorem twd_mo_resolve_87 : decode prog_11_method_36_code 87 = .ok (.aload_n 0, 1) := by decide +kernel
theorem twd_mo_resolve_88 : decode prog_11_method_36_code 88 = .ok (.getfield 115, 3) := by decide +kernel
theorem twd_mo_resolve_91 : decode prog_11_method_36_code 91 = .ok (.goto 18, 3) := by decide +kernel
theorem twd_mo_resolve_94 : decode prog_11_method_36_code 94 = .ok (.aload_n 0, 1) := by decide +kernel
theorem twd_mo_resolve_95 : decode prog_11_method_36_code 95 = .ok (.getfield 35, 3) := by decide +kernel
theorem twd_mo_resolve_98 : decode prog_11_method_36_code 98 = .ok (.iload_n 1, 1) := by decide +kernel
theorem twd_mo_resolve_99 : decode prog_11_method_36_code 99 = .ok (.iconst 1, 1) := by decide +kernel
theorem twd_mo_resolve_100 : decode prog_11_method_36_code 100 = .ok (.isub, 1) := by decide +kernel
theorem twd_mo_resolve_101 : decode prog_11_method_36_code 101 = .ok (.iaload, 1) := by decide +kernel
theorem twd_mo_resolve_102 : decode prog_11_method_36_code 102 = .ok (.goto 7, 3) := by decide +kernel
theorem twd_mo_resolve_105 : decode prog_11_method_36_code 105 = .ok (.iload_n 3, 1) := by decide +kernel
theorem twd_mo_resolve_106 : decode prog_11_method_36_code 106 = .ok (.iload 4, 2) := by decide +kernel
theorem twd_mo_resolve_108 : decode prog_11_method_36_code 108 = .ok (.iadd, 1) := by decide +kernel
theorem twd_mo_resolve_109 : decode prog_11_method_36_code 109 = .ok (.iastore, 1) := by decide +kernel
theorem twd_mo_resolve_110 : decode prog_11_method_36_code 110 = .ok (.iinc 1 1, 3) := by decide +kernel
theorem twd_mo_resolve_113 : decode prog_11_method_36_code 113 = .ok (.goto (-111), 3) := by decide +kernel
theorem twd_mo_resolve_116 : decode prog_11_method_36_code 116 = .ok (.return_, 1) := by decide +kernel
theorem twk_mo_resolve : tw_dc twy_mo_resolve 0 := ⟨by decide +kernel, by decide +kernel, by decide +kernel⟩
theorem twd_mo_groupOf_0 : decode prog_11_method_37_code 0 = .ok (.iload_n 1, 1) := by decide +kernel
theorem twd_mo_groupOf_1 : decode prog_11_method_37_code 1 = .ok (.istore_n 2, 1) := by decide +kernel
theorem twd_mo_groupOf_2 : decode prog_11_method_37_code 2 = .ok (.iload_n 2, 1) := by decide +kernel
theorem twd_mo_groupOf_3 : decode prog_11_method_37_code 3 = .ok (.ifCond .lt 20, 3) := by decide +kernel
theorem twd_mo_groupOf_6 : decode prog_11_method_37_code 6 = .ok (.aload_n 0, 1) := by decide +kernel
theorem twd_mo_groupOf_7 : decode prog_11_method_37_code 7 = .ok (.getfield 16, 3) := by decide +kernel
theorem twd_mo_groupOf_10 : decode prog_11_method_37_code 10 = .ok (.iload_n 2, 1) := by decide +kernel
theorem twd_mo_groupOf_11 : decode prog_11_method_37_code 11 = .ok (.iaload, 1) := by decide +kernel
theorem twd_mo_groupOf_12 : decode prog_11_method_37_code 12 = .ok (.bipush 8, 2) := by decide +kernel
theorem twd_mo_groupOf_14 : decode prog_11_method_37_code 14 = .ok (.if_icmp .ne 9, 3) := by decide +kernel
theorem twd_mo_groupOf_17 : decode prog_11_method_37_code 17 = .ok (.iinc 2 (-1), 3) := by decide +kernel
theorem twd_mo_groupOf_20 : decode prog_11_method_37_code 20 = .ok (.goto (-18), 3) := by decide +kernel
theorem twd_mo_groupOf_23 : decode prog_11_method_37_code 23 = .ok (.iload_n 2, 1) := by decide +kernel
theorem twd_mo_groupOf_24 : decode prog_11_method_37_code 24 = .ok (.ifCond .ge 7, 3) := by decide +kernel
theorem twd_mo_groupOf_27 : decode prog_11_method_37_code 27 = .ok (.iconst 0, 1) := by decide +kernel
theorem twd_mo_groupOf_28 : decode prog_11_method_37_code 28 = .ok (.goto 9, 3) := by decide +kernel
theorem twd_mo_groupOf_31 : decode prog_11_method_37_code 31 = .ok (.aload_n 0, 1) := by decide +kernel
theorem twd_mo_groupOf_32 : decode prog_11_method_37_code 32 = .ok (.getfield 20, 3) := by decide +kernel
theorem twd_mo_groupOf_35 : decode prog_11_method_37_code 35 = .ok (.iload_n 2, 1) := by decide +kernel
theorem twd_mo_groupOf_36 : decode prog_11_method_37_code 36 = .ok (.iaload, 1) := by decide +kernel
theorem twd_mo_groupOf_37 : decode prog_11_method_37_code 37 = .ok (.ireturn, 1) := by decide +kernel
theorem twk_mo_groupOf : tw_dc twy_mo_groupOf 1 := ⟨by decide +kernel, by decide +kernel, by decide +kernel⟩
theorem twd_mo_mayBreak_0 : decode prog_11_method_38_code 0 = .ok (.iload_n 1, 1) := by decide +kernel
theorem twd_mo_mayBreak_1 : decode prog_11_method_38_code 1 = .ok (.iconst 1, 1) := by decide +kernel
theorem twd_mo_mayBreak_2 : decode prog_11_method_38_code 2 = .ok (.if_icmp .lt 22, 3) := by decide +kernel
theorem twd_mo_mayBreak_5 : decode prog_11_method_38_code 5 = .ok (.iload_n 1, 1) := by decide +kernel
theorem twd_mo_mayBreak_6 : decode prog_11_method_38_code 6 = .ok (.aload_n 0, 1) := by decide +kernel
theorem twd_mo_mayBreak_7 : decode prog_11_method_38_code 7 = .ok (.getfield 69, 3) := by decide +kernel
theorem twd_mo_mayBreak_10 : decode prog_11_method_38_code 10 = .ok (.if_icmp .ge 14, 3) := by decide +kernel
theorem twd_mo_mayBreak_13 : decode prog_11_method_38_code 13 = .ok (.aload_n 0, 1) := by decide +kernel
theorem twd_mo_mayBreak_14 : decode prog_11_method_38_code 14 = .ok (.getfield 16, 3) := by decide +kernel
theorem twd_mo_mayBreak_17 : decode prog_11_method_38_code 17 = .ok (.iload_n 1, 1) := by decide +kernel
theorem twd_mo_mayBreak_18 : decode prog_11_method_38_code 18 = .ok (.iaload, 1) := by decide +kernel
theorem twd_mo_mayBreak_19 : decode prog_11_method_38_code 19 = .ok (.bipush 8, 2) := by decide +kernel
theorem twd_mo_mayBreak_21 : decode prog_11_method_38_code 21 = .ok (.if_icmp .ne 5, 3) := by decide +kernel
theorem twd_mo_mayBreak_24 : decode prog_11_method_38_code 24 = .ok (.iconst 0, 1) := by decide +kernel
theorem twd_mo_mayBreak_25 : decode prog_11_method_38_code 25 = .ok (.ireturn, 1) := by decide +kernel
theorem twd_mo_mayBreak_26 : decode prog_11_method_38_code 26 = .ok (.aload_n 0, 1) := by decide +kernel
theorem twd_mo_mayBreak_27 : decode prog_11_method_38_code 27 = .ok (.iload_n 1, 1) := by decide +kernel
theorem twd_mo_mayBreak_28 : decode prog_11_method_38_code 28 = .ok (.invokevirtual 188, 3) := by decide +kernel
theorem twd_mo_mayBreak_31 : decode prog_11_method_38_code 31 = .ok (.istore_n 2, 1) := by decide +kernel
theorem twd_mo_mayBreak_32 : decode prog_11_method_38_code 32 = .ok (.aload_n 0, 1) := by decide +kernel
theorem twd_mo_mayBreak_33 : decode prog_11_method_38_code 33 = .ok (.iload_n 1, 1) := by decide +kernel
theorem twd_mo_mayBreak_34 : decode prog_11_method_38_code 34 = .ok (.iconst 1, 1) := by decide +kernel
theorem twd_mo_mayBreak_35 : decode prog_11_method_38_code 35 = .ok (.isub, 1) := by decide +kernel
theorem twd_mo_mayBreak_36 : decode prog_11_method_38_code 36 = .ok (.invokevirtual 188, 3) := by decide +kernel
theorem twd_mo_mayBreak_39 : decode prog_11_method_38_code 39 = .ok (.istore_n 3, 1) := by decide +kernel
theorem twd_mo_mayBreak_40 : decode prog_11_method_38_code 40 = .ok (.iload_n 1, 1) := by decide +kernel
theorem twd_mo_mayBreak_41 : decode prog_11_method_38_code 41 = .ok (.iconst 1, 1) := by decide +kernel
theorem twd_mo_mayBreak_42 : decode prog_11_method_38_code 42 = .ok (.isub, 1) := by decide +kernel
theorem twd_mo_mayBreak_43 : decode prog_11_method_38_code 43 = .ok (.istore 4, 2) := by decide +kernel
theorem twd_mo_mayBreak_45 : decode prog_11_method_38_code 45 = .ok (.iload 4, 2) := by decide +kernel
theorem twd_mo_mayBreak_47 : decode prog_11_method_38_code 47 = .ok (.ifCond .lt 19, 3) := by decide +kernel
theorem twd_mo_mayBreak_50 : decode prog_11_method_38_code 50 = .ok (.aload_n 0, 1) := by decide +kernel
theorem twd_mo_mayBreak_51 : decode prog_11_method_38_code 51 = .ok (.iload 4, 2) := by decide +kernel
theorem twd_mo_mayBreak_53 : decode prog_11_method_38_code 53 = .ok (.invokevirtual 188, 3) := by decide +kernel
theorem twd_mo_mayBreak_56 : decode prog_11_method_38_code 56 = .ok (.iconst 1, 1) := by decide +kernel
theorem twd_mo_mayBreak_57 : decode prog_11_method_38_code 57 = .ok (.if_icmp .ne 9, 3) := by decide +kernel
theorem twd_mo_mayBreak_60 : decode prog_11_method_38_code 60 = .ok (.iinc 4 (-1), 3) := by decide +kernel
theorem twd_mo_mayBreak_63 : decode prog_11_method_38_code 63 = .ok (.goto (-18), 3) := by decide +kernel
theorem twd_mo_mayBreak_66 : decode prog_11_method_38_code 66 = .ok (.iload_n 2, 1) := by decide +kernel
theorem twd_mo_mayBreak_67 : decode prog_11_method_38_code 67 = .ok (.iconst 1, 1) := by decide +kernel
theorem twd_mo_mayBreak_68 : decode prog_11_method_38_code 68 = .ok (.if_icmp .eq 23, 3) := by decide +kernel
theorem twd_mo_mayBreak_71 : decode prog_11_method_38_code 71 = .ok (.iload_n 2, 1) := by decide +kernel
theorem twd_mo_mayBreak_72 : decode prog_11_method_38_code 72 = .ok (.iconst 3, 1) := by decide +kernel
theorem twd_mo_mayBreak_73 : decode prog_11_method_38_code 73 = .ok (.if_icmp .eq 18, 3) := by decide +kernel
theorem twd_mo_mayBreak_76 : decode prog_11_method_38_code 76 = .ok (.iload 4, 2) := by decide +kernel
theorem twd_mo_mayBreak_78 : decode prog_11_method_38_code 78 = .ok (.ifCond .lt 15, 3) := by decide +kernel
theorem twd_mo_mayBreak_81 : decode prog_11_method_38_code 81 = .ok (.aload_n 0, 1) := by decide +kernel
theorem twd_mo_mayBreak_82 : decode prog_11_method_38_code 82 = .ok (.iload 4, 2) := by decide +kernel
theorem twd_mo_mayBreak_84 : decode prog_11_method_38_code 84 = .ok (.invokevirtual 188, 3) := by decide +kernel
theorem twd_mo_mayBreak_87 : decode prog_11_method_38_code 87 = .ok (.iconst 2, 1) := by decide +kernel
theorem twd_mo_mayBreak_88 : decode prog_11_method_38_code 88 = .ok (.if_icmp .ne 5, 3) := by decide +kernel
theorem twd_mo_mayBreak_91 : decode prog_11_method_38_code 91 = .ok (.iconst 0, 1) := by decide +kernel
theorem twd_mo_mayBreak_92 : decode prog_11_method_38_code 92 = .ok (.ireturn, 1) := by decide +kernel
theorem twd_mo_mayBreak_93 : decode prog_11_method_38_code 93 = .ok (.iload_n 3, 1) := by decide +kernel
theorem twd_mo_mayBreak_94 : decode prog_11_method_38_code 94 = .ok (.iconst 1, 1) := by decide +kernel
theorem twd_mo_mayBreak_95 : decode prog_11_method_38_code 95 = .ok (.if_icmp .ne 5, 3) := by decide +kernel
theorem twd_mo_mayBreak_98 : decode prog_11_method_38_code 98 = .ok (.iconst 1, 1) := by decide +kernel
theorem twd_mo_mayBreak_99 : decode prog_11_method_38_code 99 = .ok (.ireturn, 1) := by decide +kernel
theorem twd_mo_mayBreak_100 : decode prog_11_method_38_code 100 = .ok (.iload_n 3, 1) := by decide +kernel
theorem twd_mo_mayBreak_101 : decode prog_11_method_38_code 101 = .ok (.iconst 4, 1) := by decide +kernel
theorem twd_mo_mayBreak_102 : decode prog_11_method_38_code 102 = .ok (.if_icmp .eq 34, 3) := by decide +kernel
theorem twd_mo_mayBreak_105 : decode prog_11_method_38_code 105 = .ok (.iload_n 2, 1) := by decide +kernel
theorem twd_mo_mayBreak_106 : decode prog_11_method_38_code 106 = .ok (.iconst 4, 1) := by decide +kernel
theorem twd_mo_mayBreak_107 : decode prog_11_method_38_code 107 = .ok (.if_icmp .eq 29, 3) := by decide +kernel
theorem twd_mo_mayBreak_110 : decode prog_11_method_38_code 110 = .ok (.iload_n 2, 1) := by decide +kernel
theorem twd_mo_mayBreak_111 : decode prog_11_method_38_code 111 = .ok (.bipush 6, 2) := by decide +kernel
theorem twd_mo_mayBreak_113 : decode prog_11_method_38_code 113 = .ok (.if_icmp .eq 23, 3) := by decide +kernel
theorem twd_mo_mayBreak_116 : decode prog_11_method_38_code 116 = .ok (.iload_n 3, 1) := by decide +kernel
theorem twd_mo_mayBreak_117 : decode prog_11_method_38_code 117 = .ok (.bipush 6, 2) := by decide +kernel
theorem twd_mo_mayBreak_119 : decode prog_11_method_38_code 119 = .ok (.if_icmp .eq 13, 3) := by decide +kernel
theorem twd_mo_mayBreak_122 : decode prog_11_method_38_code 122 = .ok (.iload_n 3, 1) := by decide +kernel
theorem twd_mo_mayBreak_123 : decode prog_11_method_38_code 123 = .ok (.iconst 5, 1) := by decide +kernel
theorem twd_mo_mayBreak_124 : decode prog_11_method_38_code 124 = .ok (.if_icmp .eq 8, 3) := by decide +kernel
theorem twd_mo_mayBreak_127 : decode prog_11_method_38_code 127 = .ok (.iload_n 2, 1) := by decide +kernel
theorem twd_mo_mayBreak_128 : decode prog_11_method_38_code 128 = .ok (.iconst 5, 1) := by decide +kernel
theorem twd_mo_mayBreak_129 : decode prog_11_method_38_code 129 = .ok (.if_icmp .ne 7, 3) := by decide +kernel
theorem twd_mo_mayBreak_132 : decode prog_11_method_38_code 132 = .ok (.iconst 1, 1) := by decide +kernel
theorem twd_mo_mayBreak_133 : decode prog_11_method_38_code 133 = .ok (.goto 4, 3) := by decide +kernel
theorem twd_mo_mayBreak_136 : decode prog_11_method_38_code 136 = .ok (.iconst 0, 1) := by decide +kernel
theorem twd_mo_mayBreak_137 : decode prog_11_method_38_code 137 = .ok (.ireturn, 1) := by decide +kernel
theorem twk_mo_mayBreak : tw_dc twy_mo_mayBreak 1 := ⟨by decide +kernel, by decide +kernel, by decide +kernel⟩
theorem twd_mo_extentOf_0 : decode prog_11_method_39_code 0 = .ok (.iload_n 2, 1) := by decide +kernel
theorem twd_mo_extentOf_1 : decode prog_11_method_39_code 1 = .ok (.istore_n 3, 1) := by decide +kernel
theorem twd_mo_extentOf_2 : decode prog_11_method_39_code 2 = .ok (.iload_n 3, 1) := by decide +kernel
theorem twd_mo_extentOf_3 : decode prog_11_method_39_code 3 = .ok (.iload_n 1, 1) := by decide +kernel
theorem twd_mo_extentOf_4 : decode prog_11_method_39_code 4 = .ok (.if_icmp .le 20, 3) := by decide +kernel
theorem twd_mo_extentOf_7 : decode prog_11_method_39_code 7 = .ok (.aload_n 0, 1) := by decide +kernel
theorem twd_mo_extentOf_8 : decode prog_11_method_39_code 8 = .ok (.iload_n 3, 1) := by decide +kernel
theorem twd_mo_extentOf_9 : decode prog_11_method_39_code 9 = .ok (.iconst 1, 1) := by decide +kernel
theorem twd_mo_extentOf_10 : decode prog_11_method_39_code 10 = .ok (.isub, 1) := by decide +kernel
theorem twd_mo_extentOf_11 : decode prog_11_method_39_code 11 = .ok (.invokevirtual 188, 3) := by decide +kernel
theorem twd_mo_extentOf_14 : decode prog_11_method_39_code 14 = .ok (.iconst 1, 1) := by decide +kernel
theorem twd_mo_extentOf_15 : decode prog_11_method_39_code 15 = .ok (.if_icmp .ne 9, 3) := by decide +kernel
theorem twd_mo_extentOf_18 : decode prog_11_method_39_code 18 = .ok (.iinc 3 (-1), 3) := by decide +kernel
theorem twd_mo_extentOf_21 : decode prog_11_method_39_code 21 = .ok (.goto (-19), 3) := by decide +kernel
theorem twd_mo_extentOf_24 : decode prog_11_method_39_code 24 = .ok (.iconst 0, 1) := by decide +kernel
theorem twd_mo_extentOf_25 : decode prog_11_method_39_code 25 = .ok (.istore 4, 2) := by decide +kernel
theorem twd_mo_extentOf_27 : decode prog_11_method_39_code 27 = .ok (.iload_n 1, 1) := by decide +kernel
theorem twd_mo_extentOf_28 : decode prog_11_method_39_code 28 = .ok (.istore 5, 2) := by decide +kernel
theorem twd_mo_extentOf_30 : decode prog_11_method_39_code 30 = .ok (.iload 5, 2) := by decide +kernel
theorem twd_mo_extentOf_32 : decode prog_11_method_39_code 32 = .ok (.iload_n 3, 1) := by decide +kernel
theorem twd_mo_extentOf_33 : decode prog_11_method_39_code 33 = .ok (.if_icmp .ge 21, 3) := by decide +kernel
theorem twd_mo_extentOf_36 : decode prog_11_method_39_code 36 = .ok (.iload 4, 2) := by decide +kernel
theorem twd_mo_extentOf_38 : decode prog_11_method_39_code 38 = .ok (.aload_n 0, 1) := by decide +kernel
theorem twd_mo_extentOf_39 : decode prog_11_method_39_code 39 = .ok (.getfield 23, 3) := by decide +kernel
theorem twd_mo_extentOf_42 : decode prog_11_method_39_code 42 = .ok (.iload 5, 2) := by decide +kernel
theorem twd_mo_extentOf_44 : decode prog_11_method_39_code 44 = .ok (.iaload, 1) := by decide +kernel
theorem twd_mo_extentOf_45 : decode prog_11_method_39_code 45 = .ok (.iadd, 1) := by decide +kernel
theorem twd_mo_extentOf_46 : decode prog_11_method_39_code 46 = .ok (.istore 4, 2) := by decide +kernel
theorem twd_mo_extentOf_48 : decode prog_11_method_39_code 48 = .ok (.iinc 5 1, 3) := by decide +kernel
theorem twd_mo_extentOf_51 : decode prog_11_method_39_code 51 = .ok (.goto (-21), 3) := by decide +kernel
theorem twd_mo_extentOf_54 : decode prog_11_method_39_code 54 = .ok (.iload 4, 2) := by decide +kernel
theorem twd_mo_extentOf_56 : decode prog_11_method_39_code 56 = .ok (.ireturn, 1) := by decide +kernel
theorem twk_mo_extentOf : tw_dc twy_mo_extentOf 2 := ⟨by decide +kernel, by decide +kernel, by decide +kernel⟩
theorem twd_mo_endOf_0 : decode prog_11_method_40_code 0 = .ok (.aload_n 0, 1) := by decide +kernel
theorem twd_mo_endOf_1 : decode prog_11_method_40_code 1 = .ok (.getfield 69, 3) := by decide +kernel
theorem twd_mo_endOf_4 : decode prog_11_method_40_code 4 = .ok (.istore_n 2, 1) := by decide +kernel
theorem twd_mo_endOf_5 : decode prog_11_method_40_code 5 = .ok (.iload_n 2, 1) := by decide +kernel
theorem twd_mo_endOf_6 : decode prog_11_method_40_code 6 = .ok (.iload_n 1, 1) := by decide +kernel
theorem twd_mo_endOf_7 : decode prog_11_method_40_code 7 = .ok (.if_icmp .le 40, 3) := by decide +kernel
theorem twd_mo_endOf_10 : decode prog_11_method_40_code 10 = .ok (.iload_n 2, 1) := by decide +kernel
theorem twd_mo_endOf_11 : decode prog_11_method_40_code 11 = .ok (.aload_n 0, 1) := by decide +kernel
theorem twd_mo_endOf_12 : decode prog_11_method_40_code 12 = .ok (.getfield 69, 3) := by decide +kernel
theorem twd_mo_endOf_15 : decode prog_11_method_40_code 15 = .ok (.if_icmp .eq 11, 3) := by decide +kernel
theorem twd_mo_endOf_18 : decode prog_11_method_40_code 18 = .ok (.aload_n 0, 1) := by decide +kernel
theorem twd_mo_endOf_19 : decode prog_11_method_40_code 19 = .ok (.iload_n 2, 1) := by decide +kernel
theorem twd_mo_endOf_20 : decode prog_11_method_40_code 20 = .ok (.invokevirtual 191, 3) := by decide +kernel
theorem twd_mo_endOf_23 : decode prog_11_method_40_code 23 = .ok (.ifCond .eq 18, 3) := by decide +kernel
theorem twd_mo_endOf_26 : decode prog_11_method_40_code 26 = .ok (.aload_n 0, 1) := by decide +kernel
theorem twd_mo_endOf_27 : decode prog_11_method_40_code 27 = .ok (.iload_n 1, 1) := by decide +kernel
theorem twd_mo_endOf_28 : decode prog_11_method_40_code 28 = .ok (.iload_n 2, 1) := by decide +kernel
theorem twd_mo_endOf_29 : decode prog_11_method_40_code 29 = .ok (.invokevirtual 194, 3) := by decide +kernel
theorem twd_mo_endOf_32 : decode prog_11_method_40_code 32 = .ok (.aload_n 0, 1) := by decide +kernel
theorem twd_mo_endOf_33 : decode prog_11_method_40_code 33 = .ok (.getfield 13, 3) := by decide +kernel
theorem twd_mo_endOf_36 : decode prog_11_method_40_code 36 = .ok (.if_icmp .gt 5, 3) := by decide +kernel
theorem twd_mo_endOf_39 : decode prog_11_method_40_code 39 = .ok (.iload_n 2, 1) := by decide +kernel
theorem twd_mo_endOf_40 : decode prog_11_method_40_code 40 = .ok (.ireturn, 1) := by decide +kernel
theorem twd_mo_endOf_41 : decode prog_11_method_40_code 41 = .ok (.iinc 2 (-1), 3) := by decide +kernel
theorem twd_mo_endOf_44 : decode prog_11_method_40_code 44 = .ok (.goto (-39), 3) := by decide +kernel
theorem twd_mo_endOf_47 : decode prog_11_method_40_code 47 = .ok (.aload_n 0, 1) := by decide +kernel
theorem twd_mo_endOf_48 : decode prog_11_method_40_code 48 = .ok (.getfield 69, 3) := by decide +kernel
theorem twd_mo_endOf_51 : decode prog_11_method_40_code 51 = .ok (.istore_n 2, 1) := by decide +kernel
theorem twd_mo_endOf_52 : decode prog_11_method_40_code 52 = .ok (.aload_n 0, 1) := by decide +kernel
theorem twd_mo_endOf_53 : decode prog_11_method_40_code 53 = .ok (.getfield 69, 3) := by decide +kernel
theorem twd_mo_endOf_56 : decode prog_11_method_40_code 56 = .ok (.istore_n 3, 1) := by decide +kernel
theorem twd_mo_endOf_57 : decode prog_11_method_40_code 57 = .ok (.iload_n 3, 1) := by decide +kernel
theorem twd_mo_endOf_58 : decode prog_11_method_40_code 58 = .ok (.iload_n 1, 1) := by decide +kernel
theorem twd_mo_endOf_59 : decode prog_11_method_40_code 59 = .ok (.if_icmp .le 45, 3) := by decide +kernel
theorem twd_mo_endOf_62 : decode prog_11_method_40_code 62 = .ok (.iload_n 3, 1) := by decide +kernel
theorem twd_mo_endOf_63 : decode prog_11_method_40_code 63 = .ok (.aload_n 0, 1) := by decide +kernel
theorem twd_mo_endOf_64 : decode prog_11_method_40_code 64 = .ok (.getfield 69, 3) := by decide +kernel
theorem twd_mo_endOf_67 : decode prog_11_method_40_code 67 = .ok (.if_icmp .eq 14, 3) := by decide +kernel
theorem twd_mo_endOf_70 : decode prog_11_method_40_code 70 = .ok (.aload_n 0, 1) := by decide +kernel
theorem twd_mo_endOf_71 : decode prog_11_method_40_code 71 = .ok (.getfield 16, 3) := by decide +kernel
theorem twd_mo_endOf_74 : decode prog_11_method_40_code 74 = .ok (.iload_n 3, 1) := by decide +kernel
theorem twd_mo_endOf_75 : decode prog_11_method_40_code 75 = .ok (.iaload, 1) := by decide +kernel
theorem twd_mo_endOf_76 : decode prog_11_method_40_code 76 = .ok (.bipush 8, 2) := by decide +kernel
theorem twd_mo_endOf_78 : decode prog_11_method_40_code 78 = .ok (.if_icmp .eq 20, 3) := by decide +kernel
theorem twd_mo_endOf_81 : decode prog_11_method_40_code 81 = .ok (.aload_n 0, 1) := by decide +kernel
theorem twd_mo_endOf_82 : decode prog_11_method_40_code 82 = .ok (.iload_n 1, 1) := by decide +kernel
theorem twd_mo_endOf_83 : decode prog_11_method_40_code 83 = .ok (.iload_n 3, 1) := by decide +kernel
theorem twd_mo_endOf_84 : decode prog_11_method_40_code 84 = .ok (.invokevirtual 194, 3) := by decide +kernel
theorem twd_mo_endOf_87 : decode prog_11_method_40_code 87 = .ok (.aload_n 0, 1) := by decide +kernel
theorem twd_mo_endOf_88 : decode prog_11_method_40_code 88 = .ok (.getfield 13, 3) := by decide +kernel
theorem twd_mo_endOf_91 : decode prog_11_method_40_code 91 = .ok (.if_icmp .gt 5, 3) := by decide +kernel
theorem twd_mo_endOf_94 : decode prog_11_method_40_code 94 = .ok (.iload_n 3, 1) := by decide +kernel
theorem twd_mo_endOf_95 : decode prog_11_method_40_code 95 = .ok (.ireturn, 1) := by decide +kernel
theorem twd_mo_endOf_96 : decode prog_11_method_40_code 96 = .ok (.iload_n 3, 1) := by decide +kernel
theorem twd_mo_endOf_97 : decode prog_11_method_40_code 97 = .ok (.istore_n 2, 1) := by decide +kernel
theorem twd_mo_endOf_98 : decode prog_11_method_40_code 98 = .ok (.iinc 3 (-1), 3) := by decide +kernel
theorem twd_mo_endOf_101 : decode prog_11_method_40_code 101 = .ok (.goto (-44), 3) := by decide +kernel
theorem twd_mo_endOf_104 : decode prog_11_method_40_code 104 = .ok (.iload_n 2, 1) := by decide +kernel
theorem twd_mo_endOf_105 : decode prog_11_method_40_code 105 = .ok (.ireturn, 1) := by decide +kernel
theorem twk_mo_endOf : tw_dc twy_mo_endOf 1 := ⟨by decide +kernel, by decide +kernel, by decide +kernel⟩
theorem twd_mo_turn_0 : decode prog_11_method_42_code 0 = .ok (.iload_n 1, 1) := by decide +kernel
theorem twd_mo_turn_1 : decode prog_11_method_42_code 1 = .ok (.istore_n 3, 1) := by decide +kernel
theorem twd_mo_turn_2 : decode prog_11_method_42_code 2 = .ok (.iload_n 2, 1) := by decide +kernel
theorem twd_mo_turn_3 : decode prog_11_method_42_code 3 = .ok (.istore 4, 2) := by decide +kernel
theorem twd_mo_turn_5 : decode prog_11_method_42_code 5 = .ok (.iload_n 3, 1) := by decide +kernel
theorem twd_mo_turn_6 : decode prog_11_method_42_code 6 = .ok (.iload 4, 2) := by decide +kernel
theorem twd_mo_turn_8 : decode prog_11_method_42_code 8 = .ok (.if_icmp .ge 42, 3) := by decide +kernel
theorem twd_mo_turn_11 : decode prog_11_method_42_code 11 = .ok (.aload_n 0, 1) := by decide +kernel
theorem twd_mo_turn_12 : decode prog_11_method_42_code 12 = .ok (.getfield 66, 3) := by decide +kernel
theorem twd_mo_turn_15 : decode prog_11_method_42_code 15 = .ok (.iload_n 3, 1) := by decide +kernel
theorem twd_mo_turn_16 : decode prog_11_method_42_code 16 = .ok (.iaload, 1) := by decide +kernel
theorem twd_mo_turn_17 : decode prog_11_method_42_code 17 = .ok (.istore 5, 2) := by decide +kernel
theorem twd_mo_turn_19 : decode prog_11_method_42_code 19 = .ok (.aload_n 0, 1) := by decide +kernel
theorem twd_mo_turn_20 : decode prog_11_method_42_code 20 = .ok (.getfield 66, 3) := by decide +kernel
theorem twd_mo_turn_23 : decode prog_11_method_42_code 23 = .ok (.iload_n 3, 1) := by decide +kernel
theorem twd_mo_turn_24 : decode prog_11_method_42_code 24 = .ok (.aload_n 0, 1) := by decide +kernel
theorem twd_mo_turn_25 : decode prog_11_method_42_code 25 = .ok (.getfield 66, 3) := by decide +kernel
theorem twd_mo_turn_28 : decode prog_11_method_42_code 28 = .ok (.iload 4, 2) := by decide +kernel
theorem twd_mo_turn_30 : decode prog_11_method_42_code 30 = .ok (.iaload, 1) := by decide +kernel
theorem twd_mo_turn_31 : decode prog_11_method_42_code 31 = .ok (.iastore, 1) := by decide +kernel
theorem twd_mo_turn_32 : decode prog_11_method_42_code 32 = .ok (.aload_n 0, 1) := by decide +kernel
theorem twd_mo_turn_33 : decode prog_11_method_42_code 33 = .ok (.getfield 66, 3) := by decide +kernel
theorem twd_mo_turn_36 : decode prog_11_method_42_code 36 = .ok (.iload 4, 2) := by decide +kernel
theorem twd_mo_turn_38 : decode prog_11_method_42_code 38 = .ok (.iload 5, 2) := by decide +kernel
theorem twd_mo_turn_40 : decode prog_11_method_42_code 40 = .ok (.iastore, 1) := by decide +kernel
theorem twd_mo_turn_41 : decode prog_11_method_42_code 41 = .ok (.iinc 3 1, 3) := by decide +kernel
theorem twd_mo_turn_44 : decode prog_11_method_42_code 44 = .ok (.iinc 4 (-1), 3) := by decide +kernel
theorem twd_mo_turn_47 : decode prog_11_method_42_code 47 = .ok (.goto (-42), 3) := by decide +kernel
theorem twd_mo_turn_50 : decode prog_11_method_42_code 50 = .ok (.return_, 1) := by decide +kernel
theorem twk_mo_turn : tw_dc twy_mo_turn 2 := ⟨by decide +kernel, by decide +kernel, by decide +kernel⟩
theorem twd_mo_showLine_0 : decode prog_11_method_43_code 0 = .ok (.iconst 1, 1) := by decide +kernel
theorem twd_mo_showLine_1 : decode prog_11_method_43_code 1 = .ok (.istore_n 3, 1) := by decide +kernel
theorem twd_mo_showLine_2 : decode prog_11_method_43_code 2 = .ok (.iload_n 2, 1) := by decide +kernel
theorem twd_mo_showLine_3 : decode prog_11_method_43_code 3 = .ok (.iconst 1, 1) := by decide +kernel
theorem twd_mo_showLine_4 : decode prog_11_method_43_code 4 = .ok (.isub, 1) := by decide +kernel
theorem twd_mo_showLine_5 : decode prog_11_method_43_code 5 = .ok (.istore 4, 2) := by decide +kernel
theorem twd_mo_showLine_7 : decode prog_11_method_43_code 7 = .ok (.iload 4, 2) := by decide +kernel
theorem twd_mo_showLine_9 : decode prog_11_method_43_code 9 = .ok (.iload_n 1, 1) := by decide +kernel
theorem twd_mo_showLine_10 : decode prog_11_method_43_code 10 = .ok (.if_icmp .lt 101, 3) := by decide +kernel
theorem twd_mo_showLine_13 : decode prog_11_method_43_code 13 = .ok (.aload_n 0, 1) := by decide +kernel
theorem twd_mo_showLine_14 : decode prog_11_method_43_code 14 = .ok (.getfield 16, 3) := by decide +kernel
theorem twd_mo_showLine_17 : decode prog_11_method_43_code 17 = .ok (.iload 4, 2) := by decide +kernel
theorem twd_mo_showLine_19 : decode prog_11_method_43_code 19 = .ok (.iaload, 1) := by decide +kernel
theorem twd_mo_showLine_20 : decode prog_11_method_43_code 20 = .ok (.bipush 9, 2) := by decide +kernel
theorem twd_mo_showLine_22 : decode prog_11_method_43_code 22 = .ok (.if_icmp .eq 15, 3) := by decide +kernel
theorem twd_mo_showLine_25 : decode prog_11_method_43_code 25 = .ok (.aload_n 0, 1) := by decide +kernel
theorem twd_mo_showLine_26 : decode prog_11_method_43_code 26 = .ok (.getfield 16, 3) := by decide +kernel
theorem twd_mo_showLine_29 : decode prog_11_method_43_code 29 = .ok (.iload 4, 2) := by decide +kernel
theorem twd_mo_showLine_31 : decode prog_11_method_43_code 31 = .ok (.iaload, 1) := by decide +kernel
theorem twd_mo_showLine_32 : decode prog_11_method_43_code 32 = .ok (.bipush 12, 2) := by decide +kernel
theorem twd_mo_showLine_34 : decode prog_11_method_43_code 34 = .ok (.if_icmp .lt 7, 3) := by decide +kernel
theorem twd_mo_showLine_37 : decode prog_11_method_43_code 37 = .ok (.iconst 1, 1) := by decide +kernel
theorem twd_mo_showLine_38 : decode prog_11_method_43_code 38 = .ok (.goto 4, 3) := by decide +kernel
theorem twd_mo_showLine_41 : decode prog_11_method_43_code 41 = .ok (.iconst 0, 1) := by decide +kernel
theorem twd_mo_showLine_42 : decode prog_11_method_43_code 42 = .ok (.istore 5, 2) := by decide +kernel
theorem twd_mo_showLine_44 : decode prog_11_method_43_code 44 = .ok (.aload_n 0, 1) := by decide +kernel
theorem twd_mo_showLine_45 : decode prog_11_method_43_code 45 = .ok (.getfield 16, 3) := by decide +kernel
theorem twd_mo_showLine_48 : decode prog_11_method_43_code 48 = .ok (.iload 4, 2) := by decide +kernel
theorem twd_mo_showLine_50 : decode prog_11_method_43_code 50 = .ok (.iaload, 1) := by decide +kernel
theorem twd_mo_showLine_51 : decode prog_11_method_43_code 51 = .ok (.bipush 10, 2) := by decide +kernel
theorem twd_mo_showLine_53 : decode prog_11_method_43_code 53 = .ok (.if_icmp .eq 12, 3) := by decide +kernel
theorem twd_mo_showLine_56 : decode prog_11_method_43_code 56 = .ok (.iload_n 3, 1) := by decide +kernel
theorem twd_mo_showLine_57 : decode prog_11_method_43_code 57 = .ok (.ifCond .eq 12, 3) := by decide +kernel
theorem twd_mo_showLine_60 : decode prog_11_method_43_code 60 = .ok (.iload 5, 2) := by decide +kernel
theorem twd_mo_showLine_62 : decode prog_11_method_43_code 62 = .ok (.ifCond .eq 7, 3) := by decide +kernel
theorem twd_mo_showLine_65 : decode prog_11_method_43_code 65 = .ok (.iconst 1, 1) := by decide +kernel
theorem twd_mo_showLine_66 : decode prog_11_method_43_code 66 = .ok (.goto 4, 3) := by decide +kernel
theorem twd_mo_showLine_69 : decode prog_11_method_43_code 69 = .ok (.iconst 0, 1) := by decide +kernel
theorem twd_mo_showLine_70 : decode prog_11_method_43_code 70 = .ok (.istore_n 3, 1) := by decide +kernel
theorem twd_mo_showLine_71 : decode prog_11_method_43_code 71 = .ok (.aload_n 0, 1) := by decide +kernel
theorem twd_mo_showLine_72 : decode prog_11_method_43_code 72 = .ok (.getfield 63, 3) := by decide +kernel
theorem twd_mo_showLine_75 : decode prog_11_method_43_code 75 = .ok (.iload 4, 2) := by decide +kernel
theorem twd_mo_showLine_77 : decode prog_11_method_43_code 77 = .ok (.iload_n 3, 1) := by decide +kernel
theorem twd_mo_showLine_78 : decode prog_11_method_43_code 78 = .ok (.ifCond .eq 10, 3) := by decide +kernel
theorem twd_mo_showLine_81 : decode prog_11_method_43_code 81 = .ok (.aload_n 0, 1) := by decide +kernel
theorem twd_mo_showLine_82 : decode prog_11_method_43_code 82 = .ok (.getfield 115, 3) := by decide +kernel
theorem twd_mo_showLine_85 : decode prog_11_method_43_code 85 = .ok (.goto 10, 3) := by decide +kernel
theorem twd_mo_showLine_88 : decode prog_11_method_43_code 88 = .ok (.aload_n 0, 1) := by decide +kernel
theorem twd_mo_showLine_89 : decode prog_11_method_43_code 89 = .ok (.getfield 35, 3) := by decide +kernel
theorem twd_mo_showLine_92 : decode prog_11_method_43_code 92 = .ok (.iload 4, 2) := by decide +kernel
theorem twd_mo_showLine_94 : decode prog_11_method_43_code 94 = .ok (.iaload, 1) := by decide +kernel
theorem twd_mo_showLine_95 : decode prog_11_method_43_code 95 = .ok (.iastore, 1) := by decide +kernel
theorem twd_mo_showLine_96 : decode prog_11_method_43_code 96 = .ok (.aload_n 0, 1) := by decide +kernel
theorem twd_mo_showLine_97 : decode prog_11_method_43_code 97 = .ok (.getfield 66, 3) := by decide +kernel
theorem twd_mo_showLine_100 : decode prog_11_method_43_code 100 = .ok (.iload 4, 2) := by decide +kernel
theorem twd_mo_showLine_102 : decode prog_11_method_43_code 102 = .ok (.iload 4, 2) := by decide +kernel
theorem twd_mo_showLine_104 : decode prog_11_method_43_code 104 = .ok (.iastore, 1) := by decide +kernel
theorem twd_mo_showLine_105 : decode prog_11_method_43_code 105 = .ok (.iinc 4 (-1), 3) := by decide +kernel
theorem twd_mo_showLine_108 : decode prog_11_method_43_code 108 = .ok (.goto (-101), 3) := by decide +kernel
theorem twd_mo_showLine_111 : decode prog_11_method_43_code 111 = .ok (.bipush 8, 2) := by decide +kernel
theorem twd_mo_showLine_113 : decode prog_11_method_43_code 113 = .ok (.istore 4, 2) := by decide +kernel
theorem twd_mo_showLine_115 : decode prog_11_method_43_code 115 = .ok (.iload 4, 2) := by decide +kernel
theorem twd_mo_showLine_117 : decode prog_11_method_43_code 117 = .ok (.iconst 1, 1) := by decide +kernel
theorem twd_mo_showLine_118 : decode prog_11_method_43_code 118 = .ok (.if_icmp .lt 82, 3) := by decide +kernel
theorem twd_mo_showLine_121 : decode prog_11_method_43_code 121 = .ok (.iload_n 1, 1) := by decide +kernel
theorem twd_mo_showLine_122 : decode prog_11_method_43_code 122 = .ok (.istore 5, 2) := by decide +kernel
theorem twd_mo_showLine_124 : decode prog_11_method_43_code 124 = .ok (.iload 5, 2) := by decide +kernel
theorem twd_mo_showLine_126 : decode prog_11_method_43_code 126 = .ok (.iload_n 2, 1) := by decide +kernel
theorem twd_mo_showLine_127 : decode prog_11_method_43_code 127 = .ok (.if_icmp .ge 67, 3) := by decide +kernel
theorem twd_mo_showLine_130 : decode prog_11_method_43_code 130 = .ok (.iload 5, 2) := by decide +kernel
theorem twd_mo_showLine_132 : decode prog_11_method_43_code 132 = .ok (.istore 6, 2) := by decide +kernel
theorem twd_mo_showLine_134 : decode prog_11_method_43_code 134 = .ok (.iload 6, 2) := by decide +kernel
theorem twd_mo_showLine_136 : decode prog_11_method_43_code 136 = .ok (.iload_n 2, 1) := by decide +kernel
theorem twd_mo_showLine_137 : decode prog_11_method_43_code 137 = .ok (.if_icmp .ge 26, 3) := by decide +kernel
theorem twd_mo_showLine_140 : decode prog_11_method_43_code 140 = .ok (.aload_n 0, 1) := by decide +kernel
theorem twd_mo_showLine_141 : decode prog_11_method_43_code 141 = .ok (.getfield 63, 3) := by decide +kernel
theorem twd_mo_showLine_144 : decode prog_11_method_43_code 144 = .ok (.aload_n 0, 1) := by decide +kernel
theorem twd_mo_showLine_145 : decode prog_11_method_43_code 145 = .ok (.getfield 66, 3) := by decide +kernel
theorem twd_mo_showLine_148 : decode prog_11_method_43_code 148 = .ok (.iload 6, 2) := by decide +kernel
theorem twd_mo_showLine_150 : decode prog_11_method_43_code 150 = .ok (.iaload, 1) := by decide +kernel
theorem twd_mo_showLine_151 : decode prog_11_method_43_code 151 = .ok (.iaload, 1) := by decide +kernel
theorem twd_mo_showLine_152 : decode prog_11_method_43_code 152 = .ok (.iload 4, 2) := by decide +kernel
theorem twd_mo_showLine_154 : decode prog_11_method_43_code 154 = .ok (.if_icmp .lt 9, 3) := by decide +kernel
theorem twd_mo_showLine_157 : decode prog_11_method_43_code 157 = .ok (.iinc 6 1, 3) := by decide +kernel
theorem twd_mo_showLine_160 : decode prog_11_method_43_code 160 = .ok (.goto (-26), 3) := by decide +kernel
theorem twd_mo_showLine_163 : decode prog_11_method_43_code 163 = .ok (.aload_n 0, 1) := by decide +kernel
theorem twd_mo_showLine_164 : decode prog_11_method_43_code 164 = .ok (.iload 5, 2) := by decide +kernel
theorem twd_mo_showLine_166 : decode prog_11_method_43_code 166 = .ok (.iload 6, 2) := by decide +kernel
theorem twd_mo_showLine_168 : decode prog_11_method_43_code 168 = .ok (.iconst 1, 1) := by decide +kernel
theorem twd_mo_showLine_169 : decode prog_11_method_43_code 169 = .ok (.isub, 1) := by decide +kernel
theorem twd_mo_showLine_170 : decode prog_11_method_43_code 170 = .ok (.invokevirtual 206, 3) := by decide +kernel
theorem twd_mo_showLine_173 : decode prog_11_method_43_code 173 = .ok (.iload 6, 2) := by decide +kernel
theorem twd_mo_showLine_175 : decode prog_11_method_43_code 175 = .ok (.iload 5, 2) := by decide +kernel
theorem twd_mo_showLine_177 : decode prog_11_method_43_code 177 = .ok (.if_icmp .le 8, 3) := by decide +kernel
theorem twd_mo_showLine_180 : decode prog_11_method_43_code 180 = .ok (.iload 6, 2) := by decide +kernel
theorem twd_mo_showLine_182 : decode prog_11_method_43_code 182 = .ok (.goto 7, 3) := by decide +kernel
theorem twd_mo_showLine_185 : decode prog_11_method_43_code 185 = .ok (.iload 5, 2) := by decide +kernel
theorem twd_mo_showLine_187 : decode prog_11_method_43_code 187 = .ok (.iconst 1, 1) := by decide +kernel
theorem twd_mo_showLine_188 : decode prog_11_method_43_code 188 = .ok (.iadd, 1) := by decide +kernel
theorem twd_mo_showLine_189 : decode prog_11_method_43_code 189 = .ok (.istore 5, 2) := by decide +kernel
theorem twd_mo_showLine_191 : decode prog_11_method_43_code 191 = .ok (.goto (-67), 3) := by decide +kernel
theorem twd_mo_showLine_194 : decode prog_11_method_43_code 194 = .ok (.iinc 4 (-1), 3) := by decide +kernel
theorem twd_mo_showLine_197 : decode prog_11_method_43_code 197 = .ok (.goto (-82), 3) := by decide +kernel
theorem twd_mo_showLine_200 : decode prog_11_method_43_code 200 = .ok (.return_, 1) := by decide +kernel
theorem twk_mo_showLine : tw_dc twy_mo_showLine 2 := ⟨by decide +kernel, by decide +kernel, by decide +kernel⟩
theorem twd_mo_fill_0 : decode prog_11_method_41_code 0 = .ok (.aload_n 0, 1) := by decide +kernel
theorem twd_mo_fill_1 : decode prog_11_method_41_code 1 = .ok (.iconst 0, 1) := by decide +kernel
theorem twd_mo_fill_2 : decode prog_11_method_41_code 2 = .ok (.putfield 197, 3) := by decide +kernel
theorem twd_mo_fill_5 : decode prog_11_method_41_code 5 = .ok (.iconst 0, 1) := by decide +kernel
theorem twd_mo_fill_6 : decode prog_11_method_41_code 6 = .ok (.istore_n 1, 1) := by decide +kernel
theorem twd_mo_fill_7 : decode prog_11_method_41_code 7 = .ok (.aload_n 0, 1) := by decide +kernel
theorem twd_mo_fill_8 : decode prog_11_method_41_code 8 = .ok (.getfield 60, 3) := by decide +kernel
theorem twd_mo_fill_11 : decode prog_11_method_41_code 11 = .ok (.iconst 0, 1) := by decide +kernel
theorem twd_mo_fill_12 : decode prog_11_method_41_code 12 = .ok (.iconst 0, 1) := by decide +kernel
theorem twd_mo_fill_13 : decode prog_11_method_41_code 13 = .ok (.iastore, 1) := by decide +kernel
theorem twd_mo_fill_14 : decode prog_11_method_41_code 14 = .ok (.iload_n 1, 1) := by decide +kernel
theorem twd_mo_fill_15 : decode prog_11_method_41_code 15 = .ok (.aload_n 0, 1) := by decide +kernel
theorem twd_mo_fill_16 : decode prog_11_method_41_code 16 = .ok (.getfield 69, 3) := by decide +kernel
theorem twd_mo_fill_19 : decode prog_11_method_41_code 19 = .ok (.if_icmp .ge 32, 3) := by decide +kernel
theorem twd_mo_fill_22 : decode prog_11_method_41_code 22 = .ok (.aload_n 0, 1) := by decide +kernel
theorem twd_mo_fill_23 : decode prog_11_method_41_code 23 = .ok (.iload_n 1, 1) := by decide +kernel
theorem twd_mo_fill_24 : decode prog_11_method_41_code 24 = .ok (.invokevirtual 200, 3) := by decide +kernel
theorem twd_mo_fill_27 : decode prog_11_method_41_code 27 = .ok (.istore_n 1, 1) := by decide +kernel
theorem twd_mo_fill_28 : decode prog_11_method_41_code 28 = .ok (.aload_n 0, 1) := by decide +kernel
theorem twd_mo_fill_29 : decode prog_11_method_41_code 29 = .ok (.dup, 1) := by decide +kernel
theorem twd_mo_fill_30 : decode prog_11_method_41_code 30 = .ok (.getfield 197, 3) := by decide +kernel
theorem twd_mo_fill_33 : decode prog_11_method_41_code 33 = .ok (.iconst 1, 1) := by decide +kernel
theorem twd_mo_fill_34 : decode prog_11_method_41_code 34 = .ok (.iadd, 1) := by decide +kernel
theorem twd_mo_fill_35 : decode prog_11_method_41_code 35 = .ok (.putfield 197, 3) := by decide +kernel
theorem twd_mo_fill_38 : decode prog_11_method_41_code 38 = .ok (.aload_n 0, 1) := by decide +kernel
theorem twd_mo_fill_39 : decode prog_11_method_41_code 39 = .ok (.getfield 60, 3) := by decide +kernel
theorem twd_mo_fill_42 : decode prog_11_method_41_code 42 = .ok (.aload_n 0, 1) := by decide +kernel
theorem twd_mo_fill_43 : decode prog_11_method_41_code 43 = .ok (.getfield 197, 3) := by decide +kernel
theorem twd_mo_fill_46 : decode prog_11_method_41_code 46 = .ok (.iload_n 1, 1) := by decide +kernel
theorem twd_mo_fill_47 : decode prog_11_method_41_code 47 = .ok (.iastore, 1) := by decide +kernel
theorem twd_mo_fill_48 : decode prog_11_method_41_code 48 = .ok (.goto (-34), 3) := by decide +kernel
theorem twd_mo_fill_51 : decode prog_11_method_41_code 51 = .ok (.iconst 0, 1) := by decide +kernel
theorem twd_mo_fill_52 : decode prog_11_method_41_code 52 = .ok (.istore_n 2, 1) := by decide +kernel
theorem twd_mo_fill_53 : decode prog_11_method_41_code 53 = .ok (.iload_n 2, 1) := by decide +kernel
theorem twd_mo_fill_54 : decode prog_11_method_41_code 54 = .ok (.aload_n 0, 1) := by decide +kernel
theorem twd_mo_fill_55 : decode prog_11_method_41_code 55 = .ok (.getfield 197, 3) := by decide +kernel
theorem twd_mo_fill_58 : decode prog_11_method_41_code 58 = .ok (.if_icmp .ge 27, 3) := by decide +kernel
theorem twd_mo_fill_61 : decode prog_11_method_41_code 61 = .ok (.aload_n 0, 1) := by decide +kernel
theorem twd_mo_fill_62 : decode prog_11_method_41_code 62 = .ok (.aload_n 0, 1) := by decide +kernel
theorem twd_mo_fill_63 : decode prog_11_method_41_code 63 = .ok (.getfield 60, 3) := by decide +kernel
theorem twd_mo_fill_66 : decode prog_11_method_41_code 66 = .ok (.iload_n 2, 1) := by decide +kernel
theorem twd_mo_fill_67 : decode prog_11_method_41_code 67 = .ok (.iaload, 1) := by decide +kernel
theorem twd_mo_fill_68 : decode prog_11_method_41_code 68 = .ok (.aload_n 0, 1) := by decide +kernel
theorem twd_mo_fill_69 : decode prog_11_method_41_code 69 = .ok (.getfield 60, 3) := by decide +kernel
theorem twd_mo_fill_72 : decode prog_11_method_41_code 72 = .ok (.iload_n 2, 1) := by decide +kernel
theorem twd_mo_fill_73 : decode prog_11_method_41_code 73 = .ok (.iconst 1, 1) := by decide +kernel
theorem twd_mo_fill_74 : decode prog_11_method_41_code 74 = .ok (.iadd, 1) := by decide +kernel
theorem twd_mo_fill_75 : decode prog_11_method_41_code 75 = .ok (.iaload, 1) := by decide +kernel
theorem twd_mo_fill_76 : decode prog_11_method_41_code 76 = .ok (.invokevirtual 203, 3) := by decide +kernel
theorem twd_mo_fill_79 : decode prog_11_method_41_code 79 = .ok (.iinc 2 1, 3) := by decide +kernel
theorem twd_mo_fill_82 : decode prog_11_method_41_code 82 = .ok (.goto (-29), 3) := by decide +kernel
theorem twd_mo_fill_85 : decode prog_11_method_41_code 85 = .ok (.return_, 1) := by decide +kernel
theorem twk_mo_fill : tw_dc twy_mo_fill 0 := ⟨by decide +kernel, by decide +kernel, by decide +kernel⟩
theorem twd_mo_work_0 : decode prog_11_method_44_code 0 = .ok (.aload_n 0, 1) := by decide +kernel
theorem twd_mo_work_1 : decode prog_11_method_44_code 1 = .ok (.getfield 72, 3) := by decide +kernel
theorem twd_mo_work_4 : decode prog_11_method_44_code 4 = .ok (.ifCond .ne 24, 3) := by decide +kernel
theorem twd_mo_work_7 : decode prog_11_method_44_code 7 = .ok (.aload_n 0, 1) := by decide +kernel
theorem twd_mo_work_8 : decode prog_11_method_44_code 8 = .ok (.iconst 1, 1) := by decide +kernel
theorem twd_mo_work_9 : decode prog_11_method_44_code 9 = .ok (.putfield 72, 3) := by decide +kernel
theorem twd_mo_work_12 : decode prog_11_method_44_code 12 = .ok (.aload_n 0, 1) := by decide +kernel
theorem twd_mo_work_13 : decode prog_11_method_44_code 13 = .ok (.invokevirtual 209, 3) := by decide +kernel
theorem twd_mo_work_16 : decode prog_11_method_44_code 16 = .ok (.aload_n 0, 1) := by decide +kernel
theorem twd_mo_work_17 : decode prog_11_method_44_code 17 = .ok (.invokevirtual 212, 3) := by decide +kernel
theorem twd_mo_work_20 : decode prog_11_method_44_code 20 = .ok (.aload_n 0, 1) := by decide +kernel
theorem twd_mo_work_21 : decode prog_11_method_44_code 21 = .ok (.invokevirtual 215, 3) := by decide +kernel
theorem twd_mo_work_24 : decode prog_11_method_44_code 24 = .ok (.aload_n 0, 1) := by decide +kernel
theorem twd_mo_work_25 : decode prog_11_method_44_code 25 = .ok (.invokevirtual 218, 3) := by decide +kernel
theorem twd_mo_work_28 : decode prog_11_method_44_code 28 = .ok (.return_, 1) := by decide +kernel
theorem twk_mo_work : tw_dc twy_mo_work 0 := ⟨by decide +kernel, by decide +kernel, by decide +kernel⟩
theorem twd_mo_is_0 : decode prog_11_method_45_code 0 = .ok (.aload_n 0, 1) := by decide +kernel
theorem twd_mo_is_1 : decode prog_11_method_45_code 1 = .ok (.invokevirtual 221, 3) := by decide +kernel
theorem twd_mo_is_4 : decode prog_11_method_45_code 4 = .ok (.iload_n 1, 1) := by decide +kernel
theorem twd_mo_is_5 : decode prog_11_method_45_code 5 = .ok (.ifCond .lt 15, 3) := by decide +kernel
theorem twd_mo_is_8 : decode prog_11_method_45_code 8 = .ok (.iload_n 1, 1) := by decide +kernel
theorem twd_mo_is_9 : decode prog_11_method_45_code 9 = .ok (.aload_n 0, 1) := by decide +kernel
theorem twd_mo_is_10 : decode prog_11_method_45_code 10 = .ok (.getfield 69, 3) := by decide +kernel
theorem twd_mo_is_13 : decode prog_11_method_45_code 13 = .ok (.if_icmp .ge 7, 3) := by decide +kernel
theorem twd_mo_is_16 : decode prog_11_method_45_code 16 = .ok (.iconst 1, 1) := by decide +kernel
theorem twd_mo_is_17 : decode prog_11_method_45_code 17 = .ok (.goto 4, 3) := by decide +kernel
theorem twd_mo_is_20 : decode prog_11_method_45_code 20 = .ok (.iconst 0, 1) := by decide +kernel
theorem twd_mo_is_21 : decode prog_11_method_45_code 21 = .ok (.ireturn, 1) := by decide +kernel
theorem twk_mo_is : tw_dc twy_mo_is 1 := ⟨by decide +kernel, by decide +kernel, by decide +kernel⟩
theorem twd_mo_paragraphLevel_0 : decode prog_11_method_46_code 0 = .ok (.aload_n 0, 1) := by decide +kernel
theorem twd_mo_paragraphLevel_1 : decode prog_11_method_46_code 1 = .ok (.invokevirtual 221, 3) := by decide +kernel
theorem twd_mo_paragraphLevel_4 : decode prog_11_method_46_code 4 = .ok (.aload_n 0, 1) := by decide +kernel
theorem twd_mo_paragraphLevel_5 : decode prog_11_method_46_code 5 = .ok (.getfield 115, 3) := by decide +kernel
theorem twd_mo_paragraphLevel_8 : decode prog_11_method_46_code 8 = .ok (.ireturn, 1) := by decide +kernel
theorem twk_mo_paragraphLevel : tw_dc twy_mo_paragraphLevel 0 := ⟨by decide +kernel, by decide +kernel, by decide +kernel⟩
theorem twd_mo_partner_0 : decode prog_11_method_47_code 0 = .ok (.aload_n 0, 1) := by decide +kernel
theorem twd_mo_partner_1 : decode prog_11_method_47_code 1 = .ok (.iload_n 1, 1) := by decide +kernel
theorem twd_mo_partner_2 : decode prog_11_method_47_code 2 = .ok (.invokevirtual 224, 3) := by decide +kernel
theorem twd_mo_partner_5 : decode prog_11_method_47_code 5 = .ok (.ifCond .eq 12, 3) := by decide +kernel
theorem twd_mo_partner_8 : decode prog_11_method_47_code 8 = .ok (.aload_n 0, 1) := by decide +kernel
theorem twd_mo_partner_9 : decode prog_11_method_47_code 9 = .ok (.getfield 38, 3) := by decide +kernel
theorem twd_mo_partner_12 : decode prog_11_method_47_code 12 = .ok (.iload_n 1, 1) := by decide +kernel
theorem twd_mo_partner_13 : decode prog_11_method_47_code 13 = .ok (.iaload, 1) := by decide +kernel
theorem twd_mo_partner_14 : decode prog_11_method_47_code 14 = .ok (.goto 4, 3) := by decide +kernel
theorem twd_mo_partner_17 : decode prog_11_method_47_code 17 = .ok (.iconst (-1), 1) := by decide +kernel
theorem twd_mo_partner_18 : decode prog_11_method_47_code 18 = .ok (.ireturn, 1) := by decide +kernel
theorem twk_mo_partner : tw_dc twy_mo_partner 1 := ⟨by decide +kernel, by decide +kernel, by decide +kernel⟩
theorem twd_mo_type_0 : decode prog_11_method_48_code 0 = .ok (.aload_n 0, 1) := by decide +kernel
theorem twd_mo_type_1 : decode prog_11_method_48_code 1 = .ok (.iload_n 1, 1) := by decide +kernel
theorem twd_mo_type_2 : decode prog_11_method_48_code 2 = .ok (.invokevirtual 224, 3) := by decide +kernel
theorem twd_mo_type_5 : decode prog_11_method_48_code 5 = .ok (.ifCond .eq 12, 3) := by decide +kernel
theorem twd_mo_type_8 : decode prog_11_method_48_code 8 = .ok (.aload_n 0, 1) := by decide +kernel
theorem twd_mo_type_9 : decode prog_11_method_48_code 9 = .ok (.getfield 32, 3) := by decide +kernel
theorem twd_mo_type_12 : decode prog_11_method_48_code 12 = .ok (.iload_n 1, 1) := by decide +kernel
theorem twd_mo_type_13 : decode prog_11_method_48_code 13 = .ok (.iaload, 1) := by decide +kernel
theorem twd_mo_type_14 : decode prog_11_method_48_code 14 = .ok (.goto 4, 3) := by decide +kernel
theorem twd_mo_type_17 : decode prog_11_method_48_code 17 = .ok (.iconst (-1), 1) := by decide +kernel
theorem twd_mo_type_18 : decode prog_11_method_48_code 18 = .ok (.ireturn, 1) := by decide +kernel
theorem twk_mo_type : tw_dc twy_mo_type 1 := ⟨by decide +kernel, by decide +kernel, by decide +kernel⟩
theorem twd_mo_level_0 : decode prog_11_method_49_code 0 = .ok (.aload_n 0, 1) := by decide +kernel
theorem twd_mo_level_1 : decode prog_11_method_49_code 1 = .ok (.iload_n 1, 1) := by decide +kernel
theorem twd_mo_level_2 : decode prog_11_method_49_code 2 = .ok (.invokevirtual 224, 3) := by decide +kernel
theorem twd_mo_level_5 : decode prog_11_method_49_code 5 = .ok (.ifCond .eq 12, 3) := by decide +kernel
theorem twd_mo_level_8 : decode prog_11_method_49_code 8 = .ok (.aload_n 0, 1) := by decide +kernel
theorem twd_mo_level_9 : decode prog_11_method_49_code 9 = .ok (.getfield 35, 3) := by decide +kernel
theorem twd_mo_level_12 : decode prog_11_method_49_code 12 = .ok (.iload_n 1, 1) := by decide +kernel
theorem twd_mo_level_13 : decode prog_11_method_49_code 13 = .ok (.iaload, 1) := by decide +kernel
theorem twd_mo_level_14 : decode prog_11_method_49_code 14 = .ok (.goto 4, 3) := by decide +kernel
theorem twd_mo_level_17 : decode prog_11_method_49_code 17 = .ok (.iconst (-1), 1) := by decide +kernel
theorem twd_mo_level_18 : decode prog_11_method_49_code 18 = .ok (.ireturn, 1) := by decide +kernel
theorem twk_mo_level : tw_dc twy_mo_level 1 := ⟨by decide +kernel, by decide +kernel, by decide +kernel⟩
theorem twd_mo_lines_0 : decode prog_11_method_50_code 0 = .ok (.aload_n 0, 1) := by decide +kernel
theorem twd_mo_lines_1 : decode prog_11_method_50_code 1 = .ok (.invokevirtual 221, 3) := by decide +kernel
theorem twd_mo_lines_4 : decode prog_11_method_50_code 4 = .ok (.aload_n 0, 1) := by decide +kernel
theorem twd_mo_lines_5 : decode prog_11_method_50_code 5 = .ok (.getfield 197, 3) := by decide +kernel
theorem twd_mo_lines_8 : decode prog_11_method_50_code 8 = .ok (.ireturn, 1) := by decide +kernel
theorem twk_mo_lines : tw_dc twy_mo_lines 0 := ⟨by decide +kernel, by decide +kernel, by decide +kernel⟩
theorem twd_mo_start_0 : decode prog_11_method_51_code 0 = .ok (.aload_n 0, 1) := by decide +kernel
theorem twd_mo_start_1 : decode prog_11_method_51_code 1 = .ok (.invokevirtual 221, 3) := by decide +kernel
theorem twd_mo_start_4 : decode prog_11_method_51_code 4 = .ok (.iload_n 1, 1) := by decide +kernel
theorem twd_mo_start_5 : decode prog_11_method_51_code 5 = .ok (.ifCond .lt 11, 3) := by decide +kernel
theorem twd_mo_start_8 : decode prog_11_method_51_code 8 = .ok (.iload_n 1, 1) := by decide +kernel
theorem twd_mo_start_9 : decode prog_11_method_51_code 9 = .ok (.aload_n 0, 1) := by decide +kernel
theorem twd_mo_start_10 : decode prog_11_method_51_code 10 = .ok (.getfield 197, 3) := by decide +kernel
theorem twd_mo_start_13 : decode prog_11_method_51_code 13 = .ok (.if_icmp .le 7, 3) := by decide +kernel
theorem twd_mo_start_16 : decode prog_11_method_51_code 16 = .ok (.iconst (-1), 1) := by decide +kernel
theorem twd_mo_start_17 : decode prog_11_method_51_code 17 = .ok (.goto 9, 3) := by decide +kernel
theorem twd_mo_start_20 : decode prog_11_method_51_code 20 = .ok (.aload_n 0, 1) := by decide +kernel
theorem twd_mo_start_21 : decode prog_11_method_51_code 21 = .ok (.getfield 60, 3) := by decide +kernel
theorem twd_mo_start_24 : decode prog_11_method_51_code 24 = .ok (.iload_n 1, 1) := by decide +kernel
theorem twd_mo_start_25 : decode prog_11_method_51_code 25 = .ok (.iaload, 1) := by decide +kernel
theorem twd_mo_start_26 : decode prog_11_method_51_code 26 = .ok (.ireturn, 1) := by decide +kernel
theorem twk_mo_start : tw_dc twy_mo_start 1 := ⟨by decide +kernel, by decide +kernel, by decide +kernel⟩
theorem twd_mo_extent_0 : decode prog_11_method_52_code 0 = .ok (.aload_n 0, 1) := by decide +kernel
theorem twd_mo_extent_1 : decode prog_11_method_52_code 1 = .ok (.invokevirtual 221, 3) := by decide +kernel
theorem twd_mo_extent_4 : decode prog_11_method_52_code 4 = .ok (.iload_n 1, 1) := by decide +kernel
theorem twd_mo_extent_5 : decode prog_11_method_52_code 5 = .ok (.ifCond .lt 11, 3) := by decide +kernel
theorem twd_mo_extent_8 : decode prog_11_method_52_code 8 = .ok (.iload_n 1, 1) := by decide +kernel
theorem twd_mo_extent_9 : decode prog_11_method_52_code 9 = .ok (.aload_n 0, 1) := by decide +kernel
theorem twd_mo_extent_10 : decode prog_11_method_52_code 10 = .ok (.getfield 197, 3) := by decide +kernel
theorem twd_mo_extent_13 : decode prog_11_method_52_code 13 = .ok (.if_icmp .lt 7, 3) := by decide +kernel
theorem twd_mo_extent_16 : decode prog_11_method_52_code 16 = .ok (.iconst (-1), 1) := by decide +kernel
theorem twd_mo_extent_17 : decode prog_11_method_52_code 17 = .ok (.goto 21, 3) := by decide +kernel
theorem twd_mo_extent_20 : decode prog_11_method_52_code 20 = .ok (.aload_n 0, 1) := by decide +kernel
theorem twd_mo_extent_21 : decode prog_11_method_52_code 21 = .ok (.aload_n 0, 1) := by decide +kernel
theorem twd_mo_extent_22 : decode prog_11_method_52_code 22 = .ok (.getfield 60, 3) := by decide +kernel
theorem twd_mo_extent_25 : decode prog_11_method_52_code 25 = .ok (.iload_n 1, 1) := by decide +kernel
theorem twd_mo_extent_26 : decode prog_11_method_52_code 26 = .ok (.iaload, 1) := by decide +kernel
theorem twd_mo_extent_27 : decode prog_11_method_52_code 27 = .ok (.aload_n 0, 1) := by decide +kernel
theorem twd_mo_extent_28 : decode prog_11_method_52_code 28 = .ok (.getfield 60, 3) := by decide +kernel
theorem twd_mo_extent_31 : decode prog_11_method_52_code 31 = .ok (.iload_n 1, 1) := by decide +kernel
theorem twd_mo_extent_32 : decode prog_11_method_52_code 32 = .ok (.iconst 1, 1) := by decide +kernel
theorem twd_mo_extent_33 : decode prog_11_method_52_code 33 = .ok (.iadd, 1) := by decide +kernel
theorem twd_mo_extent_34 : decode prog_11_method_52_code 34 = .ok (.iaload, 1) := by decide +kernel
theorem twd_mo_extent_35 : decode prog_11_method_52_code 35 = .ok (.invokevirtual 194, 3) := by decide +kernel
theorem twd_mo_extent_38 : decode prog_11_method_52_code 38 = .ok (.ireturn, 1) := by decide +kernel
theorem twk_mo_extent : tw_dc twy_mo_extent 1 := ⟨by decide +kernel, by decide +kernel, by decide +kernel⟩
theorem twd_mo_shownLevel_0 : decode prog_11_method_53_code 0 = .ok (.aload_n 0, 1) := by decide +kernel
theorem twd_mo_shownLevel_1 : decode prog_11_method_53_code 1 = .ok (.iload_n 1, 1) := by decide +kernel
theorem twd_mo_shownLevel_2 : decode prog_11_method_53_code 2 = .ok (.invokevirtual 224, 3) := by decide +kernel
theorem twd_mo_shownLevel_5 : decode prog_11_method_53_code 5 = .ok (.ifCond .eq 12, 3) := by decide +kernel
theorem twd_mo_shownLevel_8 : decode prog_11_method_53_code 8 = .ok (.aload_n 0, 1) := by decide +kernel
theorem twd_mo_shownLevel_9 : decode prog_11_method_53_code 9 = .ok (.getfield 63, 3) := by decide +kernel
theorem twd_mo_shownLevel_12 : decode prog_11_method_53_code 12 = .ok (.iload_n 1, 1) := by decide +kernel
theorem twd_mo_shownLevel_13 : decode prog_11_method_53_code 13 = .ok (.iaload, 1) := by decide +kernel
theorem twd_mo_shownLevel_14 : decode prog_11_method_53_code 14 = .ok (.goto 4, 3) := by decide +kernel
theorem twd_mo_shownLevel_17 : decode prog_11_method_53_code 17 = .ok (.iconst (-1), 1) := by decide +kernel
theorem twd_mo_shownLevel_18 : decode prog_11_method_53_code 18 = .ok (.ireturn, 1) := by decide +kernel
theorem twk_mo_shownLevel : tw_dc twy_mo_shownLevel 1 := ⟨by decide +kernel, by decide +kernel, by decide +kernel⟩
theorem twd_mo_shown_0 : decode prog_11_method_54_code 0 = .ok (.aload_n 0, 1) := by decide +kernel
theorem twd_mo_shown_1 : decode prog_11_method_54_code 1 = .ok (.invokevirtual 221, 3) := by decide +kernel
theorem twd_mo_shown_4 : decode prog_11_method_54_code 4 = .ok (.iload_n 1, 1) := by decide +kernel
theorem twd_mo_shown_5 : decode prog_11_method_54_code 5 = .ok (.ifCond .lt 34, 3) := by decide +kernel
theorem twd_mo_shown_8 : decode prog_11_method_54_code 8 = .ok (.iload_n 1, 1) := by decide +kernel
theorem twd_mo_shown_9 : decode prog_11_method_54_code 9 = .ok (.aload_n 0, 1) := by decide +kernel
theorem twd_mo_shown_10 : decode prog_11_method_54_code 10 = .ok (.getfield 197, 3) := by decide +kernel
theorem twd_mo_shown_13 : decode prog_11_method_54_code 13 = .ok (.if_icmp .ge 26, 3) := by decide +kernel
theorem twd_mo_shown_16 : decode prog_11_method_54_code 16 = .ok (.iload_n 2, 1) := by decide +kernel
theorem twd_mo_shown_17 : decode prog_11_method_54_code 17 = .ok (.ifCond .lt 22, 3) := by decide +kernel
theorem twd_mo_shown_20 : decode prog_11_method_54_code 20 = .ok (.iload_n 2, 1) := by decide +kernel
theorem twd_mo_shown_21 : decode prog_11_method_54_code 21 = .ok (.aload_n 0, 1) := by decide +kernel
theorem twd_mo_shown_22 : decode prog_11_method_54_code 22 = .ok (.getfield 60, 3) := by decide +kernel
theorem twd_mo_shown_25 : decode prog_11_method_54_code 25 = .ok (.iload_n 1, 1) := by decide +kernel
theorem twd_mo_shown_26 : decode prog_11_method_54_code 26 = .ok (.iconst 1, 1) := by decide +kernel
theorem twd_mo_shown_27 : decode prog_11_method_54_code 27 = .ok (.iadd, 1) := by decide +kernel
theorem twd_mo_shown_28 : decode prog_11_method_54_code 28 = .ok (.iaload, 1) := by decide +kernel
theorem twd_mo_shown_29 : decode prog_11_method_54_code 29 = .ok (.aload_n 0, 1) := by decide +kernel
theorem twd_mo_shown_30 : decode prog_11_method_54_code 30 = .ok (.getfield 60, 3) := by decide +kernel
theorem twd_mo_shown_33 : decode prog_11_method_54_code 33 = .ok (.iload_n 1, 1) := by decide +kernel
theorem twd_mo_shown_34 : decode prog_11_method_54_code 34 = .ok (.iaload, 1) := by decide +kernel
theorem twd_mo_shown_35 : decode prog_11_method_54_code 35 = .ok (.isub, 1) := by decide +kernel
theorem twd_mo_shown_36 : decode prog_11_method_54_code 36 = .ok (.if_icmp .lt 5, 3) := by decide +kernel
theorem twd_mo_shown_39 : decode prog_11_method_54_code 39 = .ok (.iconst (-1), 1) := by decide +kernel
theorem twd_mo_shown_40 : decode prog_11_method_54_code 40 = .ok (.ireturn, 1) := by decide +kernel
theorem twd_mo_shown_41 : decode prog_11_method_54_code 41 = .ok (.aload_n 0, 1) := by decide +kernel
theorem twd_mo_shown_42 : decode prog_11_method_54_code 42 = .ok (.getfield 66, 3) := by decide +kernel
theorem twd_mo_shown_45 : decode prog_11_method_54_code 45 = .ok (.aload_n 0, 1) := by decide +kernel
theorem twd_mo_shown_46 : decode prog_11_method_54_code 46 = .ok (.getfield 60, 3) := by decide +kernel
theorem twd_mo_shown_49 : decode prog_11_method_54_code 49 = .ok (.iload_n 1, 1) := by decide +kernel
theorem twd_mo_shown_50 : decode prog_11_method_54_code 50 = .ok (.iaload, 1) := by decide +kernel
theorem twd_mo_shown_51 : decode prog_11_method_54_code 51 = .ok (.iload_n 2, 1) := by decide +kernel
theorem twd_mo_shown_52 : decode prog_11_method_54_code 52 = .ok (.iadd, 1) := by decide +kernel
theorem twd_mo_shown_53 : decode prog_11_method_54_code 53 = .ok (.iaload, 1) := by decide +kernel
theorem twd_mo_shown_54 : decode prog_11_method_54_code 54 = .ok (.ireturn, 1) := by decide +kernel
theorem twk_mo_shown : tw_dc twy_mo_shown 2 := ⟨by decide +kernel, by decide +kernel, by decide +kernel⟩
theorem twd_mo_mirrored_0 : decode prog_11_method_55_code 0 = .ok (.aload_n 0, 1) := by decide +kernel
theorem twd_mo_mirrored_1 : decode prog_11_method_55_code 1 = .ok (.iload_n 1, 1) := by decide +kernel
theorem twd_mo_mirrored_2 : decode prog_11_method_55_code 2 = .ok (.invokevirtual 224, 3) := by decide +kernel
theorem twd_mo_mirrored_5 : decode prog_11_method_55_code 5 = .ok (.ifCond .eq 28, 3) := by decide +kernel
theorem twd_mo_mirrored_8 : decode prog_11_method_55_code 8 = .ok (.aload_n 0, 1) := by decide +kernel
theorem twd_mo_mirrored_9 : decode prog_11_method_55_code 9 = .ok (.getfield 26, 3) := by decide +kernel
theorem twd_mo_mirrored_12 : decode prog_11_method_55_code 12 = .ok (.iload_n 1, 1) := by decide +kernel
theorem twd_mo_mirrored_13 : decode prog_11_method_55_code 13 = .ok (.iaload, 1) := by decide +kernel
theorem twd_mo_mirrored_14 : decode prog_11_method_55_code 14 = .ok (.ifCond .eq 19, 3) := by decide +kernel
theorem twd_mo_mirrored_17 : decode prog_11_method_55_code 17 = .ok (.aload_n 0, 1) := by decide +kernel
theorem twd_mo_mirrored_18 : decode prog_11_method_55_code 18 = .ok (.getfield 63, 3) := by decide +kernel
theorem twd_mo_mirrored_21 : decode prog_11_method_55_code 21 = .ok (.iload_n 1, 1) := by decide +kernel
theorem twd_mo_mirrored_22 : decode prog_11_method_55_code 22 = .ok (.iaload, 1) := by decide +kernel
theorem twd_mo_mirrored_23 : decode prog_11_method_55_code 23 = .ok (.iconst 2, 1) := by decide +kernel
theorem twd_mo_mirrored_24 : decode prog_11_method_55_code 24 = .ok (.irem, 1) := by decide +kernel
theorem twd_mo_mirrored_25 : decode prog_11_method_55_code 25 = .ok (.iconst 1, 1) := by decide +kernel
theorem twd_mo_mirrored_26 : decode prog_11_method_55_code 26 = .ok (.if_icmp .ne 7, 3) := by decide +kernel
theorem twd_mo_mirrored_29 : decode prog_11_method_55_code 29 = .ok (.iconst 1, 1) := by decide +kernel
theorem twd_mo_mirrored_30 : decode prog_11_method_55_code 30 = .ok (.goto 4, 3) := by decide +kernel
theorem twd_mo_mirrored_33 : decode prog_11_method_55_code 33 = .ok (.iconst 0, 1) := by decide +kernel
theorem twd_mo_mirrored_34 : decode prog_11_method_55_code 34 = .ok (.ireturn, 1) := by decide +kernel
theorem twk_mo_mirrored : tw_dc twy_mo_mirrored 1 := ⟨by decide +kernel, by decide +kernel, by decide +kernel⟩
