theorem hx_d_Model_copy_91 : decode hx_c_Model_copy 91 = .ok (.iload_n 3, 1) := by decide +kernel
theorem hx_d_Model_copy_92 : decode hx_c_Model_copy 92 = .ok (.invokestatic 151, 3) := by decide +kernel
theorem hx_d_Model_copy_95 : decode hx_c_Model_copy 95 = .ok (.iload 4, 2) := by decide +kernel
theorem hx_d_Model_copy_97 : decode hx_c_Model_copy 97 = .ok (.i2l, 1) := by decide +kernel
theorem hx_d_Model_copy_98 : decode hx_c_Model_copy 98 = .ok (.ladd, 1) := by decide +kernel
theorem hx_d_Model_copy_99 : decode hx_c_Model_copy 99 = .ok (.invokevirtual 158, 3) := by decide +kernel
theorem hx_d_Model_copy_102 : decode hx_c_Model_copy 102 = .ok (.iinc 4 1, 3) := by decide +kernel
theorem hx_d_Model_copy_105 : decode hx_c_Model_copy 105 = .ok (.goto (-21), 3) := by decide +kernel
theorem hx_d_Model_copy_108 : decode hx_c_Model_copy 108 = .ok (.iconst 0, 1) := by decide +kernel
theorem hx_d_Model_copy_109 : decode hx_c_Model_copy 109 = .ok (.istore 4, 2) := by decide +kernel
theorem hx_d_Model_copy_111 : decode hx_c_Model_copy 111 = .ok (.iload 4, 2) := by decide +kernel
theorem hx_d_Model_copy_113 : decode hx_c_Model_copy 113 = .ok (.iload_n 2, 1) := by decide +kernel
theorem hx_d_Model_copy_114 : decode hx_c_Model_copy 114 = .ok (.if_icmp .ge 38, 3) := by decide +kernel
theorem hx_d_Model_copy_117 : decode hx_c_Model_copy 117 = .ok (.aload_n 0, 1) := by decide +kernel
theorem hx_d_Model_copy_118 : decode hx_c_Model_copy 118 = .ok (.getfield 34, 3) := by decide +kernel
theorem hx_d_Model_copy_121 : decode hx_c_Model_copy 121 = .ok (.iload 4, 2) := by decide +kernel
theorem hx_d_Model_copy_123 : decode hx_c_Model_copy 123 = .ok (.iaload, 1) := by decide +kernel
theorem hx_d_Model_copy_124 : decode hx_c_Model_copy 124 = .ok (.ifCond .lt 22, 3) := by decide +kernel
theorem hx_d_Model_copy_127 : decode hx_c_Model_copy 127 = .ok (.aload_n 0, 1) := by decide +kernel
theorem hx_d_Model_copy_128 : decode hx_c_Model_copy 128 = .ok (.iload_n 3, 1) := by decide +kernel
theorem hx_d_Model_copy_129 : decode hx_c_Model_copy 129 = .ok (.invokestatic 151, 3) := by decide +kernel
theorem hx_d_Model_copy_132 : decode hx_c_Model_copy 132 = .ok (.iload 4, 2) := by decide +kernel
theorem hx_d_Model_copy_134 : decode hx_c_Model_copy 134 = .ok (.i2l, 1) := by decide +kernel
theorem hx_d_Model_copy_135 : decode hx_c_Model_copy 135 = .ok (.ladd, 1) := by decide +kernel
theorem hx_d_Model_copy_136 : decode hx_c_Model_copy 136 = .ok (.aload_n 0, 1) := by decide +kernel
theorem hx_d_Model_copy_137 : decode hx_c_Model_copy 137 = .ok (.getfield 34, 3) := by decide +kernel
theorem hx_d_Model_copy_140 : decode hx_c_Model_copy 140 = .ok (.iload 4, 2) := by decide +kernel
theorem hx_d_Model_copy_142 : decode hx_c_Model_copy 142 = .ok (.iaload, 1) := by decide +kernel
theorem hx_d_Model_copy_143 : decode hx_c_Model_copy 143 = .ok (.invokevirtual 142, 3) := by decide +kernel
theorem hx_d_Model_copy_146 : decode hx_c_Model_copy 146 = .ok (.iinc 4 1, 3) := by decide +kernel
theorem hx_d_Model_copy_149 : decode hx_c_Model_copy 149 = .ok (.goto (-38), 3) := by decide +kernel
theorem hx_d_Model_copy_152 : decode hx_c_Model_copy 152 = .ok (.iconst 1, 1) := by decide +kernel
theorem hx_d_Model_copy_153 : decode hx_c_Model_copy 153 = .ok (.ireturn, 1) := by decide +kernel
theorem hx_d_Model_clear_0 : decode hx_c_Model_clear 0 = .ok (.aload_n 0, 1) := by decide +kernel
theorem hx_d_Model_clear_1 : decode hx_c_Model_clear 1 = .ok (.iconst 0, 1) := by decide +kernel
theorem hx_d_Model_clear_2 : decode hx_c_Model_clear 2 = .ok (.putfield 43, 3) := by decide +kernel
theorem hx_d_Model_clear_5 : decode hx_c_Model_clear 5 = .ok (.aload_n 0, 1) := by decide +kernel
theorem hx_d_Model_clear_6 : decode hx_c_Model_clear 6 = .ok (.getfield 57, 3) := by decide +kernel
theorem hx_d_Model_clear_9 : decode hx_c_Model_clear 9 = .ok (.istore_n 1, 1) := by decide +kernel
theorem hx_d_Model_clear_10 : decode hx_c_Model_clear 10 = .ok (.aload_n 0, 1) := by decide +kernel
theorem hx_d_Model_clear_11 : decode hx_c_Model_clear 11 = .ok (.iconst 0, 1) := by decide +kernel
theorem hx_d_Model_clear_12 : decode hx_c_Model_clear 12 = .ok (.putfield 57, 3) := by decide +kernel
theorem hx_d_Model_clear_15 : decode hx_c_Model_clear 15 = .ok (.iload_n 1, 1) := by decide +kernel
theorem hx_d_Model_clear_16 : decode hx_c_Model_clear 16 = .ok (.ireturn, 1) := by decide +kernel
theorem hx_d_Model_begin_0 : decode hx_c_Model_begin 0 = .ok (.aload_n 0, 1) := by decide +kernel
theorem hx_d_Model_begin_1 : decode hx_c_Model_begin 1 = .ok (.iconst 0, 1) := by decide +kernel
theorem hx_d_Model_begin_2 : decode hx_c_Model_begin 2 = .ok (.putfield 43, 3) := by decide +kernel
theorem hx_d_Model_begin_5 : decode hx_c_Model_begin 5 = .ok (.iload_n 1, 1) := by decide +kernel
theorem hx_d_Model_begin_6 : decode hx_c_Model_begin 6 = .ok (.ifCond .lt 8, 3) := by decide +kernel
theorem hx_d_Model_begin_9 : decode hx_c_Model_begin 9 = .ok (.iload_n 1, 1) := by decide +kernel
theorem hx_d_Model_begin_10 : decode hx_c_Model_begin 10 = .ok (.iconst 1, 1) := by decide +kernel
theorem hx_d_Model_begin_11 : decode hx_c_Model_begin 11 = .ok (.if_icmp .le 5, 3) := by decide +kernel
theorem hx_d_Model_begin_14 : decode hx_c_Model_begin 14 = .ok (.iconst 0, 1) := by decide +kernel
theorem hx_d_Model_begin_15 : decode hx_c_Model_begin 15 = .ok (.ireturn, 1) := by decide +kernel
theorem hx_d_Model_begin_16 : decode hx_c_Model_begin 16 = .ok (.aload_n 0, 1) := by decide +kernel
theorem hx_d_Model_begin_17 : decode hx_c_Model_begin 17 = .ok (.iload_n 1, 1) := by decide +kernel
theorem hx_d_Model_begin_18 : decode hx_c_Model_begin 18 = .ok (.iconst 1, 1) := by decide +kernel
theorem hx_d_Model_begin_19 : decode hx_c_Model_begin 19 = .ok (.if_icmp .ne 7, 3) := by decide +kernel
theorem hx_d_Model_begin_22 : decode hx_c_Model_begin 22 = .ok (.iconst 1, 1) := by decide +kernel
theorem hx_d_Model_begin_23 : decode hx_c_Model_begin 23 = .ok (.goto 4, 3) := by decide +kernel
theorem hx_d_Model_begin_26 : decode hx_c_Model_begin 26 = .ok (.iconst 0, 1) := by decide +kernel
theorem hx_d_Model_begin_27 : decode hx_c_Model_begin 27 = .ok (.putfield 145, 3) := by decide +kernel
theorem hx_d_Model_begin_30 : decode hx_c_Model_begin 30 = .ok (.aload_n 0, 1) := by decide +kernel
theorem hx_d_Model_begin_31 : decode hx_c_Model_begin 31 = .ok (.iload_n 2, 1) := by decide +kernel
theorem hx_d_Model_begin_32 : decode hx_c_Model_begin 32 = .ok (.invokestatic 151, 3) := by decide +kernel
theorem hx_d_Model_begin_35 : decode hx_c_Model_begin 35 = .ok (.putfield 148, 3) := by decide +kernel
theorem hx_d_Model_begin_38 : decode hx_c_Model_begin 38 = .ok (.iconst 1, 1) := by decide +kernel
theorem hx_d_Model_begin_39 : decode hx_c_Model_begin 39 = .ok (.ireturn, 1) := by decide +kernel
theorem hx_d_Model_start_0 : decode hx_c_Model_start 0 = .ok (.aload_n 0, 1) := by decide +kernel
theorem hx_d_Model_start_1 : decode hx_c_Model_start 1 = .ok (.iconst 0, 1) := by decide +kernel
theorem hx_d_Model_start_2 : decode hx_c_Model_start 2 = .ok (.putfield 43, 3) := by decide +kernel
theorem hx_d_Model_start_5 : decode hx_c_Model_start 5 = .ok (.aload_n 0, 1) := by decide +kernel
theorem hx_d_Model_start_6 : decode hx_c_Model_start 6 = .ok (.getfield 145, 3) := by decide +kernel
theorem hx_d_Model_start_9 : decode hx_c_Model_start 9 = .ok (.ifCond .eq 10, 3) := by decide +kernel
theorem hx_d_Model_start_12 : decode hx_c_Model_start 12 = .ok (.aload_n 0, 1) := by decide +kernel
theorem hx_d_Model_start_13 : decode hx_c_Model_start 13 = .ok (.getfield 148, 3) := by decide +kernel
theorem hx_d_Model_start_16 : decode hx_c_Model_start 16 = .ok (.goto 6, 3) := by decide +kernel
theorem hx_d_Model_start_19 : decode hx_c_Model_start 19 = .ok (.ldc2_w 170, 3) := by decide +kernel
theorem hx_d_Model_start_22 : decode hx_c_Model_start 22 = .ok (.lreturn, 1) := by decide +kernel
theorem hx_d_Model_count_0 : decode hx_c_Model_count 0 = .ok (.aload_n 0, 1) := by decide +kernel
theorem hx_d_Model_count_1 : decode hx_c_Model_count 1 = .ok (.iconst 0, 1) := by decide +kernel
theorem hx_d_Model_count_2 : decode hx_c_Model_count 2 = .ok (.putfield 43, 3) := by decide +kernel
theorem hx_d_Model_count_5 : decode hx_c_Model_count 5 = .ok (.iconst 0, 1) := by decide +kernel
theorem hx_d_Model_count_6 : decode hx_c_Model_count 6 = .ok (.istore_n 2, 1) := by decide +kernel
theorem hx_d_Model_count_7 : decode hx_c_Model_count 7 = .ok (.iconst 0, 1) := by decide +kernel
theorem hx_d_Model_count_8 : decode hx_c_Model_count 8 = .ok (.istore_n 3, 1) := by decide +kernel
theorem hx_d_Model_count_9 : decode hx_c_Model_count 9 = .ok (.iconst 0, 1) := by decide +kernel
theorem hx_d_Model_count_10 : decode hx_c_Model_count 10 = .ok (.istore 4, 2) := by decide +kernel
theorem hx_d_Model_count_12 : decode hx_c_Model_count 12 = .ok (.iload 4, 2) := by decide +kernel
theorem hx_d_Model_count_14 : decode hx_c_Model_count 14 = .ok (.aload_n 0, 1) := by decide +kernel
theorem hx_d_Model_count_15 : decode hx_c_Model_count 15 = .ok (.getfield 57, 3) := by decide +kernel
theorem hx_d_Model_count_18 : decode hx_c_Model_count 18 = .ok (.if_icmp .ge 36, 3) := by decide +kernel
theorem hx_d_Model_count_21 : decode hx_c_Model_count 21 = .ok (.aload_n 0, 1) := by decide +kernel
theorem hx_d_Model_count_22 : decode hx_c_Model_count 22 = .ok (.iload 4, 2) := by decide +kernel
theorem hx_d_Model_count_24 : decode hx_c_Model_count 24 = .ok (.invokevirtual 172, 3) := by decide +kernel
theorem hx_d_Model_count_27 : decode hx_c_Model_count 27 = .ok (.ifCond .eq 9, 3) := by decide +kernel
theorem hx_d_Model_count_30 : decode hx_c_Model_count 30 = .ok (.iload_n 2, 1) := by decide +kernel
theorem hx_d_Model_count_31 : decode hx_c_Model_count 31 = .ok (.iconst 1, 1) := by decide +kernel
theorem hx_d_Model_count_32 : decode hx_c_Model_count 32 = .ok (.iadd, 1) := by decide +kernel
theorem hx_d_Model_count_33 : decode hx_c_Model_count 33 = .ok (.goto 4, 3) := by decide +kernel
theorem hx_d_Model_count_36 : decode hx_c_Model_count 36 = .ok (.iload_n 2, 1) := by decide +kernel
theorem hx_d_Model_count_37 : decode hx_c_Model_count 37 = .ok (.istore_n 2, 1) := by decide +kernel
theorem hx_d_Model_count_38 : decode hx_c_Model_count 38 = .ok (.iload_n 3, 1) := by decide +kernel
theorem hx_d_Model_count_39 : decode hx_c_Model_count 39 = .ok (.aload_n 0, 1) := by decide +kernel
theorem hx_d_Model_count_40 : decode hx_c_Model_count 40 = .ok (.getfield 13, 3) := by decide +kernel
theorem hx_d_Model_count_43 : decode hx_c_Model_count 43 = .ok (.iload 4, 2) := by decide +kernel
theorem hx_d_Model_count_45 : decode hx_c_Model_count 45 = .ok (.iaload, 1) := by decide +kernel
theorem hx_d_Model_count_46 : decode hx_c_Model_count 46 = .ok (.iadd, 1) := by decide +kernel
theorem hx_d_Model_count_47 : decode hx_c_Model_count 47 = .ok (.istore_n 3, 1) := by decide +kernel
theorem hx_d_Model_count_48 : decode hx_c_Model_count 48 = .ok (.iinc 4 1, 3) := by decide +kernel
theorem hx_d_Model_count_51 : decode hx_c_Model_count 51 = .ok (.goto (-39), 3) := by decide +kernel
theorem hx_d_Model_count_54 : decode hx_c_Model_count 54 = .ok (.iload_n 1, 1) := by decide +kernel
theorem hx_d_Model_count_55 : decode hx_c_Model_count 55 = .ok (.ifCond .ne 10, 3) := by decide +kernel
theorem hx_d_Model_count_58 : decode hx_c_Model_count 58 = .ok (.aload_n 0, 1) := by decide +kernel
theorem hx_d_Model_count_59 : decode hx_c_Model_count 59 = .ok (.getfield 57, 3) := by decide +kernel
theorem hx_d_Model_count_62 : decode hx_c_Model_count 62 = .ok (.goto 34, 3) := by decide +kernel
theorem hx_d_Model_count_65 : decode hx_c_Model_count 65 = .ok (.iload_n 1, 1) := by decide +kernel
theorem hx_d_Model_count_66 : decode hx_c_Model_count 66 = .ok (.iconst 1, 1) := by decide +kernel
theorem hx_d_Model_count_67 : decode hx_c_Model_count 67 = .ok (.if_icmp .ne 7, 3) := by decide +kernel
theorem hx_d_Model_count_70 : decode hx_c_Model_count 70 = .ok (.iload_n 2, 1) := by decide +kernel
theorem hx_d_Model_count_71 : decode hx_c_Model_count 71 = .ok (.goto 25, 3) := by decide +kernel
theorem hx_d_Model_count_74 : decode hx_c_Model_count 74 = .ok (.iload_n 1, 1) := by decide +kernel
theorem hx_d_Model_count_75 : decode hx_c_Model_count 75 = .ok (.iconst 2, 1) := by decide +kernel
theorem hx_d_Model_count_76 : decode hx_c_Model_count 76 = .ok (.if_icmp .ne 7, 3) := by decide +kernel
theorem hx_d_Model_count_79 : decode hx_c_Model_count 79 = .ok (.iload_n 3, 1) := by decide +kernel
theorem hx_d_Model_count_80 : decode hx_c_Model_count 80 = .ok (.goto 16, 3) := by decide +kernel
theorem hx_d_Model_count_83 : decode hx_c_Model_count 83 = .ok (.iload_n 1, 1) := by decide +kernel
theorem hx_d_Model_count_84 : decode hx_c_Model_count 84 = .ok (.iconst 3, 1) := by decide +kernel
theorem hx_d_Model_count_85 : decode hx_c_Model_count 85 = .ok (.if_icmp .ne 10, 3) := by decide +kernel
theorem hx_d_Model_count_88 : decode hx_c_Model_count 88 = .ok (.aload_n 0, 1) := by decide +kernel
theorem hx_d_Model_count_89 : decode hx_c_Model_count 89 = .ok (.getfield 176, 3) := by decide +kernel
theorem hx_d_Model_count_92 : decode hx_c_Model_count 92 = .ok (.goto 4, 3) := by decide +kernel
theorem hx_d_Model_count_95 : decode hx_c_Model_count 95 = .ok (.iconst (-1), 1) := by decide +kernel
theorem hx_d_Model_count_96 : decode hx_c_Model_count 96 = .ok (.ireturn, 1) := by decide +kernel
theorem hx_d_Model_begins_0 : decode hx_c_Model_begins 0 = .ok (.iload_n 1, 1) := by decide +kernel
theorem hx_d_Model_begins_1 : decode hx_c_Model_begins 1 = .ok (.ifCond .eq 23, 3) := by decide +kernel
theorem hx_d_Model_begins_4 : decode hx_c_Model_begins 4 = .ok (.aload_n 0, 1) := by decide +kernel
theorem hx_d_Model_begins_5 : decode hx_c_Model_begins 5 = .ok (.getfield 7, 3) := by decide +kernel
theorem hx_d_Model_begins_8 : decode hx_c_Model_begins 8 = .ok (.iload_n 1, 1) := by decide +kernel
theorem hx_d_Model_begins_9 : decode hx_c_Model_begins 9 = .ok (.iconst 1, 1) := by decide +kernel
theorem hx_d_Model_begins_10 : decode hx_c_Model_begins 10 = .ok (.isub, 1) := by decide +kernel
theorem hx_d_Model_begins_11 : decode hx_c_Model_begins 11 = .ok (.laload, 1) := by decide +kernel
theorem hx_d_Model_begins_12 : decode hx_c_Model_begins 12 = .ok (.lconst 1, 1) := by decide +kernel
theorem hx_d_Model_begins_13 : decode hx_c_Model_begins 13 = .ok (.ladd, 1) := by decide +kernel
theorem hx_d_Model_begins_14 : decode hx_c_Model_begins 14 = .ok (.aload_n 0, 1) := by decide +kernel
theorem hx_d_Model_begins_15 : decode hx_c_Model_begins 15 = .ok (.getfield 7, 3) := by decide +kernel
theorem hx_d_Model_begins_18 : decode hx_c_Model_begins 18 = .ok (.iload_n 1, 1) := by decide +kernel
theorem hx_d_Model_begins_19 : decode hx_c_Model_begins 19 = .ok (.laload, 1) := by decide +kernel
theorem hx_d_Model_begins_20 : decode hx_c_Model_begins 20 = .ok (.lcmp, 1) := by decide +kernel
theorem hx_d_Model_begins_21 : decode hx_c_Model_begins 21 = .ok (.ifCond .eq 7, 3) := by decide +kernel
theorem hx_d_Model_begins_24 : decode hx_c_Model_begins 24 = .ok (.iconst 1, 1) := by decide +kernel
theorem hx_d_Model_begins_25 : decode hx_c_Model_begins 25 = .ok (.goto 4, 3) := by decide +kernel
theorem hx_d_Model_begins_28 : decode hx_c_Model_begins 28 = .ok (.iconst 0, 1) := by decide +kernel
theorem hx_d_Model_begins_29 : decode hx_c_Model_begins 29 = .ok (.ireturn, 1) := by decide +kernel
theorem hx_d_Model_run_0 : decode hx_c_Model_run 0 = .ok (.aload_n 0, 1) := by decide +kernel
theorem hx_d_Model_run_1 : decode hx_c_Model_run 1 = .ok (.iconst 0, 1) := by decide +kernel
theorem hx_d_Model_run_2 : decode hx_c_Model_run 2 = .ok (.putfield 43, 3) := by decide +kernel
theorem hx_d_Model_run_5 : decode hx_c_Model_run 5 = .ok (.iload_n 1, 1) := by decide +kernel
theorem hx_d_Model_run_6 : decode hx_c_Model_run 6 = .ok (.ifCond .lt 12, 3) := by decide +kernel
theorem hx_d_Model_run_9 : decode hx_c_Model_run 9 = .ok (.iload_n 2, 1) := by decide +kernel
theorem hx_d_Model_run_10 : decode hx_c_Model_run 10 = .ok (.ifCond .lt 8, 3) := by decide +kernel
theorem hx_d_Model_run_13 : decode hx_c_Model_run 13 = .ok (.iload_n 2, 1) := by decide +kernel
theorem hx_d_Model_run_14 : decode hx_c_Model_run 14 = .ok (.iconst 1, 1) := by decide +kernel
theorem hx_d_Model_run_15 : decode hx_c_Model_run 15 = .ok (.if_icmp .le 7, 3) := by decide +kernel
theorem hx_d_Model_run_18 : decode hx_c_Model_run 18 = .ok (.ldc2_w 170, 3) := by decide +kernel
theorem hx_d_Model_run_21 : decode hx_c_Model_run 21 = .ok (.lreturn, 1) := by decide +kernel
theorem hx_d_Model_run_22 : decode hx_c_Model_run 22 = .ok (.iconst 0, 1) := by decide +kernel
theorem hx_d_Model_run_23 : decode hx_c_Model_run 23 = .ok (.istore_n 3, 1) := by decide +kernel
theorem hx_d_Model_run_24 : decode hx_c_Model_run 24 = .ok (.iconst 0, 1) := by decide +kernel
theorem hx_d_Model_run_25 : decode hx_c_Model_run 25 = .ok (.istore 4, 2) := by decide +kernel
theorem hx_d_Model_run_27 : decode hx_c_Model_run 27 = .ok (.iload 4, 2) := by decide +kernel
theorem hx_d_Model_run_29 : decode hx_c_Model_run 29 = .ok (.aload_n 0, 1) := by decide +kernel
theorem hx_d_Model_run_30 : decode hx_c_Model_run 30 = .ok (.getfield 57, 3) := by decide +kernel
theorem hx_d_Model_run_33 : decode hx_c_Model_run 33 = .ok (.if_icmp .ge 77, 3) := by decide +kernel
theorem hx_d_Model_run_36 : decode hx_c_Model_run 36 = .ok (.aload_n 0, 1) := by decide +kernel
theorem hx_d_Model_run_37 : decode hx_c_Model_run 37 = .ok (.iload 4, 2) := by decide +kernel
theorem hx_d_Model_run_39 : decode hx_c_Model_run 39 = .ok (.invokevirtual 172, 3) := by decide +kernel
theorem hx_d_Model_run_42 : decode hx_c_Model_run 42 = .ok (.ifCond .eq 62, 3) := by decide +kernel
theorem hx_d_Model_run_45 : decode hx_c_Model_run 45 = .ok (.iload_n 3, 1) := by decide +kernel
theorem hx_d_Model_run_46 : decode hx_c_Model_run 46 = .ok (.iload_n 1, 1) := by decide +kernel
theorem hx_d_Model_run_47 : decode hx_c_Model_run 47 = .ok (.if_icmp .ne 54, 3) := by decide +kernel
theorem hx_d_Model_run_50 : decode hx_c_Model_run 50 = .ok (.iload 4, 2) := by decide +kernel
theorem hx_d_Model_run_52 : decode hx_c_Model_run 52 = .ok (.iconst 1, 1) := by decide +kernel
theorem hx_d_Model_run_53 : decode hx_c_Model_run 53 = .ok (.iadd, 1) := by decide +kernel
theorem hx_d_Model_run_54 : decode hx_c_Model_run 54 = .ok (.istore 5, 2) := by decide +kernel
theorem hx_d_Model_run_56 : decode hx_c_Model_run 56 = .ok (.iload 5, 2) := by decide +kernel
theorem hx_d_Model_run_58 : decode hx_c_Model_run 58 = .ok (.aload_n 0, 1) := by decide +kernel
theorem hx_d_Model_run_59 : decode hx_c_Model_run 59 = .ok (.getfield 57, 3) := by decide +kernel
theorem hx_d_Model_run_62 : decode hx_c_Model_run 62 = .ok (.if_icmp .ge 18, 3) := by decide +kernel
theorem hx_d_Model_run_65 : decode hx_c_Model_run 65 = .ok (.aload_n 0, 1) := by decide +kernel
theorem hx_d_Model_run_66 : decode hx_c_Model_run 66 = .ok (.iload 5, 2) := by decide +kernel
theorem hx_d_Model_run_68 : decode hx_c_Model_run 68 = .ok (.invokevirtual 172, 3) := by decide +kernel
theorem hx_d_Model_run_71 : decode hx_c_Model_run 71 = .ok (.ifCond .ne 9, 3) := by decide +kernel
theorem hx_d_Model_run_74 : decode hx_c_Model_run 74 = .ok (.iinc 5 1, 3) := by decide +kernel
theorem hx_d_Model_run_77 : decode hx_c_Model_run 77 = .ok (.goto (-21), 3) := by decide +kernel
theorem hx_d_Model_run_80 : decode hx_c_Model_run 80 = .ok (.iload_n 2, 1) := by decide +kernel
theorem hx_d_Model_run_81 : decode hx_c_Model_run 81 = .ok (.ifCond .ne 13, 3) := by decide +kernel
theorem hx_d_Model_run_84 : decode hx_c_Model_run 84 = .ok (.aload_n 0, 1) := by decide +kernel
theorem hx_d_Model_run_85 : decode hx_c_Model_run 85 = .ok (.getfield 7, 3) := by decide +kernel
theorem hx_d_Model_run_88 : decode hx_c_Model_run 88 = .ok (.iload 4, 2) := by decide +kernel
theorem hx_d_Model_run_90 : decode hx_c_Model_run 90 = .ok (.laload, 1) := by decide +kernel
theorem hx_d_Model_run_91 : decode hx_c_Model_run 91 = .ok (.goto 9, 3) := by decide +kernel
theorem hx_d_Model_run_94 : decode hx_c_Model_run 94 = .ok (.iload 5, 2) := by decide +kernel
theorem hx_d_Model_run_96 : decode hx_c_Model_run 96 = .ok (.iload 4, 2) := by decide +kernel
theorem hx_d_Model_run_98 : decode hx_c_Model_run 98 = .ok (.isub, 1) := by decide +kernel
theorem hx_d_Model_run_99 : decode hx_c_Model_run 99 = .ok (.i2l, 1) := by decide +kernel
theorem hx_d_Model_run_100 : decode hx_c_Model_run 100 = .ok (.lreturn, 1) := by decide +kernel
theorem hx_d_Model_run_101 : decode hx_c_Model_run 101 = .ok (.iinc 3 1, 3) := by decide +kernel
theorem hx_d_Model_run_104 : decode hx_c_Model_run 104 = .ok (.iinc 4 1, 3) := by decide +kernel
theorem hx_d_Model_run_107 : decode hx_c_Model_run 107 = .ok (.goto (-80), 3) := by decide +kernel
theorem hx_d_Model_run_110 : decode hx_c_Model_run 110 = .ok (.ldc2_w 170, 3) := by decide +kernel
theorem hx_d_Model_run_113 : decode hx_c_Model_run 113 = .ok (.lreturn, 1) := by decide +kernel
theorem hx_d_Model_next_0 : decode hx_c_Model_next 0 = .ok (.aload_n 0, 1) := by decide +kernel
theorem hx_d_Model_next_1 : decode hx_c_Model_next 1 = .ok (.iconst 0, 1) := by decide +kernel
theorem hx_d_Model_next_2 : decode hx_c_Model_next 2 = .ok (.putfield 43, 3) := by decide +kernel
theorem hx_d_Model_next_5 : decode hx_c_Model_next 5 = .ok (.aload_n 0, 1) := by decide +kernel
theorem hx_d_Model_next_6 : decode hx_c_Model_next 6 = .ok (.iload_n 1, 1) := by decide +kernel
theorem hx_d_Model_next_7 : decode hx_c_Model_next 7 = .ok (.invokestatic 151, 3) := by decide +kernel
theorem hx_d_Model_next_10 : decode hx_c_Model_next 10 = .ok (.invokevirtual 60, 3) := by decide +kernel
theorem hx_d_Model_next_13 : decode hx_c_Model_next 13 = .ok (.istore_n 2, 1) := by decide +kernel
theorem hx_d_Model_next_14 : decode hx_c_Model_next 14 = .ok (.iload_n 2, 1) := by decide +kernel
theorem hx_d_Model_next_15 : decode hx_c_Model_next 15 = .ok (.aload_n 0, 1) := by decide +kernel
theorem hx_d_Model_next_16 : decode hx_c_Model_next 16 = .ok (.getfield 57, 3) := by decide +kernel
theorem hx_d_Model_next_19 : decode hx_c_Model_next 19 = .ok (.if_icmp .ge 12, 3) := by decide +kernel
theorem hx_d_Model_next_22 : decode hx_c_Model_next 22 = .ok (.aload_n 0, 1) := by decide +kernel
theorem hx_d_Model_next_23 : decode hx_c_Model_next 23 = .ok (.getfield 7, 3) := by decide +kernel
theorem hx_d_Model_next_26 : decode hx_c_Model_next 26 = .ok (.iload_n 2, 1) := by decide +kernel
theorem hx_d_Model_next_27 : decode hx_c_Model_next 27 = .ok (.laload, 1) := by decide +kernel
theorem hx_d_Model_next_28 : decode hx_c_Model_next 28 = .ok (.goto 6, 3) := by decide +kernel
theorem hx_d_Model_next_31 : decode hx_c_Model_next 31 = .ok (.ldc2_w 170, 3) := by decide +kernel
theorem hx_d_Model_next_34 : decode hx_c_Model_next 34 = .ok (.lreturn, 1) := by decide +kernel
theorem hx_d_Model_tell_0 : decode hx_c_Model_tell 0 = .ok (.aload_n 0, 1) := by decide +kernel
theorem hx_d_Model_tell_1 : decode hx_c_Model_tell 1 = .ok (.iconst 0, 1) := by decide +kernel
theorem hx_d_Model_tell_2 : decode hx_c_Model_tell 2 = .ok (.putfield 43, 3) := by decide +kernel
theorem hx_d_Model_tell_5 : decode hx_c_Model_tell 5 = .ok (.iload_n 1, 1) := by decide +kernel
theorem hx_d_Model_tell_6 : decode hx_c_Model_tell 6 = .ok (.ifCond .lt 19, 3) := by decide +kernel
theorem hx_d_Model_tell_9 : decode hx_c_Model_tell 9 = .ok (.iload_n 1, 1) := by decide +kernel
theorem hx_d_Model_tell_10 : decode hx_c_Model_tell 10 = .ok (.iconst 1, 1) := by decide +kernel
theorem hx_d_Model_tell_11 : decode hx_c_Model_tell 11 = .ok (.if_icmp .gt 14, 3) := by decide +kernel
theorem hx_d_Model_tell_14 : decode hx_c_Model_tell 14 = .ok (.iload_n 2, 1) := by decide +kernel
theorem hx_d_Model_tell_15 : decode hx_c_Model_tell 15 = .ok (.iconst 1, 1) := by decide +kernel
theorem hx_d_Model_tell_16 : decode hx_c_Model_tell 16 = .ok (.if_icmp .lt 9, 3) := by decide +kernel
theorem hx_d_Model_tell_19 : decode hx_c_Model_tell 19 = .ok (.iload_n 2, 1) := by decide +kernel
theorem hx_d_Model_tell_20 : decode hx_c_Model_tell 20 = .ok (.bipush 32, 2) := by decide +kernel
theorem hx_d_Model_tell_22 : decode hx_c_Model_tell 22 = .ok (.if_icmp .le 5, 3) := by decide +kernel
theorem hx_d_Model_tell_25 : decode hx_c_Model_tell 25 = .ok (.iconst (-1), 1) := by decide +kernel
theorem hx_d_Model_tell_26 : decode hx_c_Model_tell 26 = .ok (.ireturn, 1) := by decide +kernel
theorem hx_d_Model_tell_27 : decode hx_c_Model_tell 27 = .ok (.aload_n 0, 1) := by decide +kernel
theorem hx_d_Model_tell_28 : decode hx_c_Model_tell 28 = .ok (.iconst 0, 1) := by decide +kernel
theorem hx_d_Model_tell_29 : decode hx_c_Model_tell 29 = .ok (.putfield 179, 3) := by decide +kernel
theorem hx_d_Model_tell_32 : decode hx_c_Model_tell 32 = .ok (.aload_n 0, 1) := by decide +kernel
theorem hx_d_Model_tell_33 : decode hx_c_Model_tell 33 = .ok (.getfield 145, 3) := by decide +kernel
theorem hx_d_Model_tell_36 : decode hx_c_Model_tell 36 = .ok (.ifCond .eq 10, 3) := by decide +kernel
theorem hx_d_Model_tell_39 : decode hx_c_Model_tell 39 = .ok (.aload_n 0, 1) := by decide +kernel
theorem hx_d_Model_tell_40 : decode hx_c_Model_tell 40 = .ok (.getfield 148, 3) := by decide +kernel
theorem hx_d_Model_tell_43 : decode hx_c_Model_tell 43 = .ok (.goto 4, 3) := by decide +kernel
theorem hx_d_Model_tell_46 : decode hx_c_Model_tell 46 = .ok (.lconst 0, 1) := by decide +kernel
theorem hx_d_Model_tell_47 : decode hx_c_Model_tell 47 = .ok (.lstore_n 3, 1) := by decide +kernel
theorem hx_d_Model_tell_48 : decode hx_c_Model_tell 48 = .ok (.aload_n 0, 1) := by decide +kernel
theorem hx_d_Model_tell_49 : decode hx_c_Model_tell 49 = .ok (.getfield 57, 3) := by decide +kernel
theorem hx_d_Model_tell_52 : decode hx_c_Model_tell 52 = .ok (.ifCond .le 33, 3) := by decide +kernel
theorem hx_d_Model_tell_55 : decode hx_c_Model_tell 55 = .ok (.aload_n 0, 1) := by decide +kernel
theorem hx_d_Model_tell_56 : decode hx_c_Model_tell 56 = .ok (.getfield 7, 3) := by decide +kernel
theorem hx_d_Model_tell_59 : decode hx_c_Model_tell 59 = .ok (.aload_n 0, 1) := by decide +kernel
theorem hx_d_Model_tell_60 : decode hx_c_Model_tell 60 = .ok (.getfield 57, 3) := by decide +kernel
theorem hx_d_Model_tell_63 : decode hx_c_Model_tell 63 = .ok (.iconst 1, 1) := by decide +kernel
theorem hx_d_Model_tell_64 : decode hx_c_Model_tell 64 = .ok (.isub, 1) := by decide +kernel
theorem hx_d_Model_tell_65 : decode hx_c_Model_tell 65 = .ok (.laload, 1) := by decide +kernel
theorem hx_d_Model_tell_66 : decode hx_c_Model_tell 66 = .ok (.lload_n 3, 1) := by decide +kernel
theorem hx_d_Model_tell_67 : decode hx_c_Model_tell 67 = .ok (.lcmp, 1) := by decide +kernel
theorem hx_d_Model_tell_68 : decode hx_c_Model_tell 68 = .ok (.ifCond .le 17, 3) := by decide +kernel
theorem hx_d_Model_tell_71 : decode hx_c_Model_tell 71 = .ok (.aload_n 0, 1) := by decide +kernel
theorem hx_d_Model_tell_72 : decode hx_c_Model_tell 72 = .ok (.getfield 7, 3) := by decide +kernel
theorem hx_d_Model_tell_75 : decode hx_c_Model_tell 75 = .ok (.aload_n 0, 1) := by decide +kernel
theorem hx_d_Model_tell_76 : decode hx_c_Model_tell 76 = .ok (.getfield 57, 3) := by decide +kernel
theorem hx_d_Model_tell_79 : decode hx_c_Model_tell 79 = .ok (.iconst 1, 1) := by decide +kernel
theorem hx_d_Model_tell_80 : decode hx_c_Model_tell 80 = .ok (.isub, 1) := by decide +kernel
theorem hx_d_Model_tell_81 : decode hx_c_Model_tell 81 = .ok (.laload, 1) := by decide +kernel
theorem hx_d_Model_tell_82 : decode hx_c_Model_tell 82 = .ok (.goto 4, 3) := by decide +kernel
theorem hx_d_Model_tell_85 : decode hx_c_Model_tell 85 = .ok (.lload_n 3, 1) := by decide +kernel
theorem hx_d_Model_tell_86 : decode hx_c_Model_tell 86 = .ok (.lstore 5, 2) := by decide +kernel
theorem hx_d_Model_tell_88 : decode hx_c_Model_tell 88 = .ok (.lload 5, 2) := by decide +kernel
theorem hx_d_Model_tell_90 : decode hx_c_Model_tell 90 = .ok (.ldc2_w 113, 3) := by decide +kernel
theorem hx_d_Model_tell_93 : decode hx_c_Model_tell 93 = .ok (.lcmp, 1) := by decide +kernel
theorem hx_d_Model_tell_94 : decode hx_c_Model_tell 94 = .ok (.ifCond .ge 7, 3) := by decide +kernel
theorem hx_d_Model_tell_97 : decode hx_c_Model_tell 97 = .ok (.iconst 1, 1) := by decide +kernel
theorem hx_d_Model_tell_98 : decode hx_c_Model_tell 98 = .ok (.goto 17, 3) := by decide +kernel
theorem hx_d_Model_tell_101 : decode hx_c_Model_tell 101 = .ok (.lload 5, 2) := by decide +kernel
theorem hx_d_Model_tell_103 : decode hx_c_Model_tell 103 = .ok (.ldc2_w 203, 3) := by decide +kernel
theorem hx_d_Model_tell_106 : decode hx_c_Model_tell 106 = .ok (.lcmp, 1) := by decide +kernel
theorem hx_d_Model_tell_107 : decode hx_c_Model_tell 107 = .ok (.ifCond .ge 7, 3) := by decide +kernel
theorem hx_d_Model_tell_110 : decode hx_c_Model_tell 110 = .ok (.iconst 2, 1) := by decide +kernel
theorem hx_d_Model_tell_111 : decode hx_c_Model_tell 111 = .ok (.goto 4, 3) := by decide +kernel
theorem hx_d_Model_tell_114 : decode hx_c_Model_tell 114 = .ok (.iconst 3, 1) := by decide +kernel
theorem hx_d_Model_tell_115 : decode hx_c_Model_tell 115 = .ok (.istore 7, 2) := by decide +kernel
theorem hx_d_Model_tell_117 : decode hx_c_Model_tell 117 = .ok (.iload_n 1, 1) := by decide +kernel
theorem hx_d_Model_tell_118 : decode hx_c_Model_tell 118 = .ok (.iconst 1, 1) := by decide +kernel
theorem hx_d_Model_tell_119 : decode hx_c_Model_tell 119 = .ok (.if_icmp .ne 12, 3) := by decide +kernel
theorem hx_d_Model_tell_122 : decode hx_c_Model_tell 122 = .ok (.aload_n 0, 1) := by decide +kernel
theorem hx_d_Model_tell_123 : decode hx_c_Model_tell 123 = .ok (.iconst 0, 1) := by decide +kernel
theorem hx_d_Model_tell_124 : decode hx_c_Model_tell 124 = .ok (.lconst 0, 1) := by decide +kernel
theorem hx_d_Model_tell_125 : decode hx_c_Model_tell 125 = .ok (.iconst 2, 1) := by decide +kernel
theorem hx_d_Model_tell_126 : decode hx_c_Model_tell 126 = .ok (.iconst 0, 1) := by decide +kernel
theorem hx_d_Model_tell_127 : decode hx_c_Model_tell 127 = .ok (.iconst 0, 1) := by decide +kernel
theorem hx_d_Model_tell_128 : decode hx_c_Model_tell 128 = .ok (.invokevirtual 205, 3) := by decide +kernel
theorem hx_d_Model_tell_131 : decode hx_c_Model_tell 131 = .ok (.lconst 0, 1) := by decide +kernel
theorem hx_d_Model_tell_132 : decode hx_c_Model_tell 132 = .ok (.lstore 8, 2) := by decide +kernel
theorem hx_d_Model_tell_134 : decode hx_c_Model_tell 134 = .ok (.iconst 0, 1) := by decide +kernel
theorem hx_d_Model_tell_135 : decode hx_c_Model_tell 135 = .ok (.istore 10, 2) := by decide +kernel
theorem hx_d_Model_tell_137 : decode hx_c_Model_tell 137 = .ok (.iconst 0, 1) := by decide +kernel
theorem hx_d_Model_tell_138 : decode hx_c_Model_tell 138 = .ok (.istore 11, 2) := by decide +kernel
theorem hx_d_Model_tell_140 : decode hx_c_Model_tell 140 = .ok (.iload 11, 2) := by decide +kernel
theorem hx_d_Model_tell_142 : decode hx_c_Model_tell 142 = .ok (.aload_n 0, 1) := by decide +kernel
theorem hx_d_Model_tell_143 : decode hx_c_Model_tell 143 = .ok (.getfield 57, 3) := by decide +kernel
theorem hx_d_Model_tell_146 : decode hx_c_Model_tell 146 = .ok (.if_icmp .ge 141, 3) := by decide +kernel
theorem hx_d_Model_tell_149 : decode hx_c_Model_tell 149 = .ok (.aload_n 0, 1) := by decide +kernel
theorem hx_d_Model_tell_150 : decode hx_c_Model_tell 150 = .ok (.iload_n 1, 1) := by decide +kernel
theorem hx_d_Model_tell_151 : decode hx_c_Model_tell 151 = .ok (.iload 11, 2) := by decide +kernel
theorem hx_d_Model_tell_153 : decode hx_c_Model_tell 153 = .ok (.iload_n 2, 1) := by decide +kernel
theorem hx_d_Model_tell_154 : decode hx_c_Model_tell 154 = .ok (.invokevirtual 209, 3) := by decide +kernel
theorem hx_d_Model_tell_157 : decode hx_c_Model_tell 157 = .ok (.istore 12, 2) := by decide +kernel
theorem hx_d_Model_tell_159 : decode hx_c_Model_tell 159 = .ok (.iinc 10 1, 3) := by decide +kernel
theorem hx_d_Model_tell_162 : decode hx_c_Model_tell 162 = .ok (.iload_n 1, 1) := by decide +kernel
theorem hx_d_Model_tell_163 : decode hx_c_Model_tell 163 = .ok (.iconst 1, 1) := by decide +kernel
theorem hx_d_Model_tell_164 : decode hx_c_Model_tell 164 = .ok (.if_icmp .ne 27, 3) := by decide +kernel
theorem hx_d_Model_tell_167 : decode hx_c_Model_tell 167 = .ok (.aload_n 0, 1) := by decide +kernel
theorem hx_d_Model_tell_168 : decode hx_c_Model_tell 168 = .ok (.iload 7, 2) := by decide +kernel
theorem hx_d_Model_tell_170 : decode hx_c_Model_tell 170 = .ok (.aload_n 0, 1) := by decide +kernel
theorem hx_d_Model_tell_171 : decode hx_c_Model_tell 171 = .ok (.getfield 7, 3) := by decide +kernel
theorem hx_d_Model_tell_174 : decode hx_c_Model_tell 174 = .ok (.iload 11, 2) := by decide +kernel
theorem hx_d_Model_tell_176 : decode hx_c_Model_tell 176 = .ok (.laload, 1) := by decide +kernel
theorem hx_d_Model_tell_177 : decode hx_c_Model_tell 177 = .ok (.iload 7, 2) := by decide +kernel
theorem hx_d_Model_tell_179 : decode hx_c_Model_tell 179 = .ok (.iconst 1, 1) := by decide +kernel
theorem hx_d_Model_tell_180 : decode hx_c_Model_tell 180 = .ok (.iadd, 1) := by decide +kernel
theorem hx_d_Model_tell_181 : decode hx_c_Model_tell 181 = .ok (.iload 11, 2) := by decide +kernel
theorem hx_d_Model_tell_183 : decode hx_c_Model_tell 183 = .ok (.iload 12, 2) := by decide +kernel
theorem hx_d_Model_tell_185 : decode hx_c_Model_tell 185 = .ok (.invokevirtual 205, 3) := by decide +kernel
theorem hx_d_Model_tell_188 : decode hx_c_Model_tell 188 = .ok (.goto 83, 3) := by decide +kernel
theorem hx_d_Model_tell_191 : decode hx_c_Model_tell 191 = .ok (.aload_n 0, 1) := by decide +kernel
theorem hx_d_Model_tell_192 : decode hx_c_Model_tell 192 = .ok (.getfield 7, 3) := by decide +kernel
theorem hx_d_Model_tell_195 : decode hx_c_Model_tell 195 = .ok (.iload 11, 2) := by decide +kernel
theorem hx_d_Model_tell_197 : decode hx_c_Model_tell 197 = .ok (.laload, 1) := by decide +kernel
theorem hx_d_Model_tell_198 : decode hx_c_Model_tell 198 = .ok (.ldc2_w 113, 3) := by decide +kernel
theorem hx_d_Model_tell_201 : decode hx_c_Model_tell 201 = .ok (.ldiv, 1) := by decide +kernel
theorem hx_d_Model_tell_202 : decode hx_c_Model_tell 202 = .ok (.lload 8, 2) := by decide +kernel
theorem hx_d_Model_tell_204 : decode hx_c_Model_tell 204 = .ok (.lcmp, 1) := by decide +kernel
theorem hx_d_Model_tell_205 : decode hx_c_Model_tell 205 = .ok (.ifCond .eq 35, 3) := by decide +kernel
theorem hx_d_Model_tell_208 : decode hx_c_Model_tell 208 = .ok (.aload_n 0, 1) := by decide +kernel
theorem hx_d_Model_tell_209 : decode hx_c_Model_tell 209 = .ok (.getfield 7, 3) := by decide +kernel
theorem hx_d_Model_tell_212 : decode hx_c_Model_tell 212 = .ok (.iload 11, 2) := by decide +kernel
theorem hx_d_Model_tell_214 : decode hx_c_Model_tell 214 = .ok (.laload, 1) := by decide +kernel
theorem hx_d_Model_tell_215 : decode hx_c_Model_tell 215 = .ok (.ldc2_w 113, 3) := by decide +kernel
theorem hx_d_Model_tell_218 : decode hx_c_Model_tell 218 = .ok (.ldiv, 1) := by decide +kernel
theorem hx_d_Model_tell_219 : decode hx_c_Model_tell 219 = .ok (.lstore 8, 2) := by decide +kernel
theorem hx_d_Model_tell_221 : decode hx_c_Model_tell 221 = .ok (.aload_n 0, 1) := by decide +kernel
theorem hx_d_Model_tell_222 : decode hx_c_Model_tell 222 = .ok (.iconst 2, 1) := by decide +kernel
theorem hx_d_Model_tell_223 : decode hx_c_Model_tell 223 = .ok (.lconst 0, 1) := by decide +kernel
theorem hx_d_Model_tell_224 : decode hx_c_Model_tell 224 = .ok (.iconst 4, 1) := by decide +kernel
theorem hx_d_Model_tell_225 : decode hx_c_Model_tell 225 = .ok (.invokevirtual 213, 3) := by decide +kernel
theorem hx_d_Model_tell_228 : decode hx_c_Model_tell 228 = .ok (.aload_n 0, 1) := by decide +kernel
theorem hx_d_Model_tell_229 : decode hx_c_Model_tell 229 = .ok (.lload 8, 2) := by decide +kernel
theorem hx_d_Model_tell_231 : decode hx_c_Model_tell 231 = .ok (.iconst 2, 1) := by decide +kernel
theorem hx_d_Model_tell_232 : decode hx_c_Model_tell 232 = .ok (.invokevirtual 191, 3) := by decide +kernel
theorem hx_d_Model_tell_235 : decode hx_c_Model_tell 235 = .ok (.aload_n 0, 1) := by decide +kernel
theorem hx_d_Model_tell_236 : decode hx_c_Model_tell 236 = .ok (.iconst 0, 1) := by decide +kernel
theorem hx_d_Model_tell_237 : decode hx_c_Model_tell 237 = .ok (.invokevirtual 200, 3) := by decide +kernel
theorem hx_d_Model_tell_240 : decode hx_c_Model_tell 240 = .ok (.aload_n 0, 1) := by decide +kernel
theorem hx_d_Model_tell_241 : decode hx_c_Model_tell 241 = .ok (.iload 12, 2) := by decide +kernel
theorem hx_d_Model_tell_243 : decode hx_c_Model_tell 243 = .ok (.aload_n 0, 1) := by decide +kernel
theorem hx_d_Model_tell_244 : decode hx_c_Model_tell 244 = .ok (.getfield 7, 3) := by decide +kernel
theorem hx_d_Model_tell_247 : decode hx_c_Model_tell 247 = .ok (.iload 11, 2) := by decide +kernel
theorem hx_d_Model_tell_249 : decode hx_c_Model_tell 249 = .ok (.laload, 1) := by decide +kernel
theorem hx_d_Model_tell_250 : decode hx_c_Model_tell 250 = .ok (.ldc2_w 113, 3) := by decide +kernel
theorem hx_d_Model_tell_253 : decode hx_c_Model_tell 253 = .ok (.lrem, 1) := by decide +kernel
theorem hx_d_Model_tell_254 : decode hx_c_Model_tell 254 = .ok (.iconst 0, 1) := by decide +kernel
theorem hx_d_Model_tell_255 : decode hx_c_Model_tell 255 = .ok (.invokevirtual 213, 3) := by decide +kernel
theorem hx_d_Model_tell_258 : decode hx_c_Model_tell 258 = .ok (.aload_n 0, 1) := by decide +kernel
theorem hx_d_Model_tell_259 : decode hx_c_Model_tell 259 = .ok (.iload 11, 2) := by decide +kernel
theorem hx_d_Model_tell_261 : decode hx_c_Model_tell 261 = .ok (.iload 12, 2) := by decide +kernel
theorem hx_d_Model_tell_263 : decode hx_c_Model_tell 263 = .ok (.invokevirtual 197, 3) := by decide +kernel
theorem hx_d_Model_tell_266 : decode hx_c_Model_tell 266 = .ok (.aload_n 0, 1) := by decide +kernel
theorem hx_d_Model_tell_267 : decode hx_c_Model_tell 267 = .ok (.iconst 0, 1) := by decide +kernel
theorem hx_d_Model_tell_268 : decode hx_c_Model_tell 268 = .ok (.invokevirtual 200, 3) := by decide +kernel
theorem hx_d_Model_tell_271 : decode hx_c_Model_tell 271 = .ok (.iload 11, 2) := by decide +kernel
theorem hx_d_Model_tell_273 : decode hx_c_Model_tell 273 = .ok (.aload_n 0, 1) := by decide +kernel
theorem hx_d_Model_tell_274 : decode hx_c_Model_tell 274 = .ok (.iload_n 1, 1) := by decide +kernel
theorem hx_d_Model_tell_275 : decode hx_c_Model_tell 275 = .ok (.iload 11, 2) := by decide +kernel
theorem hx_d_Model_tell_277 : decode hx_c_Model_tell 277 = .ok (.iload_n 2, 1) := by decide +kernel
theorem hx_d_Model_tell_278 : decode hx_c_Model_tell 278 = .ok (.invokevirtual 209, 3) := by decide +kernel
theorem hx_d_Model_tell_281 : decode hx_c_Model_tell 281 = .ok (.iadd, 1) := by decide +kernel
theorem hx_d_Model_tell_282 : decode hx_c_Model_tell 282 = .ok (.istore 11, 2) := by decide +kernel
theorem hx_d_Model_tell_284 : decode hx_c_Model_tell 284 = .ok (.goto (-144), 3) := by decide +kernel
theorem hx_d_Model_tell_287 : decode hx_c_Model_tell 287 = .ok (.iload_n 1, 1) := by decide +kernel
theorem hx_d_Model_tell_288 : decode hx_c_Model_tell 288 = .ok (.iconst 1, 1) := by decide +kernel
theorem hx_d_Model_tell_289 : decode hx_c_Model_tell 289 = .ok (.if_icmp .ne 33, 3) := by decide +kernel
theorem hx_d_Model_tell_292 : decode hx_c_Model_tell 292 = .ok (.aload_n 0, 1) := by decide +kernel
theorem hx_d_Model_tell_293 : decode hx_c_Model_tell 293 = .ok (.iconst 5, 1) := by decide +kernel
theorem hx_d_Model_tell_294 : decode hx_c_Model_tell 294 = .ok (.iload 10, 2) := by decide +kernel
theorem hx_d_Model_tell_296 : decode hx_c_Model_tell 296 = .ok (.i2l, 1) := by decide +kernel
theorem hx_d_Model_tell_297 : decode hx_c_Model_tell 297 = .ok (.iconst 2, 1) := by decide +kernel
theorem hx_d_Model_tell_298 : decode hx_c_Model_tell 298 = .ok (.iconst 0, 1) := by decide +kernel
theorem hx_d_Model_tell_299 : decode hx_c_Model_tell 299 = .ok (.iconst 0, 1) := by decide +kernel
theorem hx_d_Model_tell_300 : decode hx_c_Model_tell 300 = .ok (.invokevirtual 205, 3) := by decide +kernel
theorem hx_d_Model_tell_303 : decode hx_c_Model_tell 303 = .ok (.aload_n 0, 1) := by decide +kernel
theorem hx_d_Model_tell_304 : decode hx_c_Model_tell 304 = .ok (.bipush 10, 2) := by decide +kernel
theorem hx_d_Model_tell_306 : decode hx_c_Model_tell 306 = .ok (.iload 7, 2) := by decide +kernel
theorem hx_d_Model_tell_308 : decode hx_c_Model_tell 308 = .ok (.isub, 1) := by decide +kernel
theorem hx_d_Model_tell_309 : decode hx_c_Model_tell 309 = .ok (.lload_n 3, 1) := by decide +kernel
theorem hx_d_Model_tell_310 : decode hx_c_Model_tell 310 = .ok (.iload 7, 2) := by decide +kernel
theorem hx_d_Model_tell_312 : decode hx_c_Model_tell 312 = .ok (.iconst 1, 1) := by decide +kernel
theorem hx_d_Model_tell_313 : decode hx_c_Model_tell 313 = .ok (.iadd, 1) := by decide +kernel
theorem hx_d_Model_tell_314 : decode hx_c_Model_tell 314 = .ok (.iconst 0, 1) := by decide +kernel
theorem hx_d_Model_tell_315 : decode hx_c_Model_tell 315 = .ok (.iconst 0, 1) := by decide +kernel
theorem hx_d_Model_tell_316 : decode hx_c_Model_tell 316 = .ok (.invokevirtual 205, 3) := by decide +kernel
theorem hx_d_Model_tell_319 : decode hx_c_Model_tell 319 = .ok (.goto 7, 3) := by decide +kernel
theorem hx_d_Model_tell_322 : decode hx_c_Model_tell 322 = .ok (.aload_n 0, 1) := by decide +kernel
theorem hx_d_Model_tell_323 : decode hx_c_Model_tell 323 = .ok (.invokevirtual 217, 3) := by decide +kernel
theorem hx_d_Model_tell_326 : decode hx_c_Model_tell 326 = .ok (.aload_n 0, 1) := by decide +kernel
theorem hx_d_Model_tell_327 : decode hx_c_Model_tell 327 = .ok (.invokevirtual 220, 3) := by decide +kernel
theorem hx_d_Model_tell_330 : decode hx_c_Model_tell 330 = .ok (.ireturn, 1) := by decide +kernel
theorem hx_d_Model_letterRecord_0 : decode hx_c_Model_letterRecord 0 = .ok (.aload_n 0, 1) := by decide +kernel
theorem hx_d_Model_letterRecord_1 : decode hx_c_Model_letterRecord 1 = .ok (.invokevirtual 194, 3) := by decide +kernel
theorem hx_d_Model_letterRecord_4 : decode hx_c_Model_letterRecord 4 = .ok (.aload_n 0, 1) := by decide +kernel
theorem hx_d_Model_letterRecord_5 : decode hx_c_Model_letterRecord 5 = .ok (.bipush 83, 2) := by decide +kernel
theorem hx_d_Model_letterRecord_7 : decode hx_c_Model_letterRecord 7 = .ok (.invokevirtual 185, 3) := by decide +kernel
theorem hx_d_Model_letterRecord_10 : decode hx_c_Model_letterRecord 10 = .ok (.aload_n 0, 1) := by decide +kernel
theorem hx_d_Model_letterRecord_11 : decode hx_c_Model_letterRecord 11 = .ok (.bipush 48, 2) := by decide +kernel
theorem hx_d_Model_letterRecord_13 : decode hx_c_Model_letterRecord 13 = .ok (.iload_n 1, 1) := by decide +kernel
theorem hx_d_Model_letterRecord_14 : decode hx_c_Model_letterRecord 14 = .ok (.iadd, 1) := by decide +kernel
theorem hx_d_Model_letterRecord_15 : decode hx_c_Model_letterRecord 15 = .ok (.invokevirtual 185, 3) := by decide +kernel
theorem hx_d_Model_letterRecord_18 : decode hx_c_Model_letterRecord 18 = .ok (.aload_n 0, 1) := by decide +kernel
theorem hx_d_Model_letterRecord_19 : decode hx_c_Model_letterRecord 19 = .ok (.iload 4, 2) := by decide +kernel
theorem hx_d_Model_letterRecord_21 : decode hx_c_Model_letterRecord 21 = .ok (.iconst 1, 1) := by decide +kernel
theorem hx_d_Model_letterRecord_22 : decode hx_c_Model_letterRecord 22 = .ok (.iadd, 1) := by decide +kernel
theorem hx_d_Model_letterRecord_23 : decode hx_c_Model_letterRecord 23 = .ok (.iload 6, 2) := by decide +kernel
theorem hx_d_Model_letterRecord_25 : decode hx_c_Model_letterRecord 25 = .ok (.iadd, 1) := by decide +kernel
theorem hx_d_Model_letterRecord_26 : decode hx_c_Model_letterRecord 26 = .ok (.i2l, 1) := by decide +kernel
theorem hx_d_Model_letterRecord_27 : decode hx_c_Model_letterRecord 27 = .ok (.iconst 1, 1) := by decide +kernel
theorem hx_d_Model_letterRecord_28 : decode hx_c_Model_letterRecord 28 = .ok (.invokevirtual 191, 3) := by decide +kernel
theorem hx_d_Model_letterRecord_31 : decode hx_c_Model_letterRecord 31 = .ok (.aload_n 0, 1) := by decide +kernel
theorem hx_d_Model_letterRecord_32 : decode hx_c_Model_letterRecord 32 = .ok (.lload_n 2, 1) := by decide +kernel
theorem hx_d_Model_letterRecord_33 : decode hx_c_Model_letterRecord 33 = .ok (.iload 4, 2) := by decide +kernel
theorem hx_d_Model_letterRecord_35 : decode hx_c_Model_letterRecord 35 = .ok (.invokevirtual 191, 3) := by decide +kernel
theorem hx_d_Model_letterRecord_38 : decode hx_c_Model_letterRecord 38 = .ok (.aload_n 0, 1) := by decide +kernel
theorem hx_d_Model_letterRecord_39 : decode hx_c_Model_letterRecord 39 = .ok (.iload 5, 2) := by decide +kernel
theorem hx_d_Model_letterRecord_41 : decode hx_c_Model_letterRecord 41 = .ok (.iload 6, 2) := by decide +kernel
theorem hx_d_Model_letterRecord_43 : decode hx_c_Model_letterRecord 43 = .ok (.invokevirtual 197, 3) := by decide +kernel
theorem hx_d_Model_letterRecord_46 : decode hx_c_Model_letterRecord 46 = .ok (.aload_n 0, 1) := by decide +kernel
theorem hx_d_Model_letterRecord_47 : decode hx_c_Model_letterRecord 47 = .ok (.sipush 255, 3) := by decide +kernel
theorem hx_d_Model_letterRecord_50 : decode hx_c_Model_letterRecord 50 = .ok (.invokevirtual 200, 3) := by decide +kernel
theorem hx_d_Model_letterRecord_53 : decode hx_c_Model_letterRecord 53 = .ok (.return_, 1) := by decide +kernel
theorem hx_d_Model_open_0 : decode hx_c_Model_open 0 = .ok (.aload_n 0, 1) := by decide +kernel
theorem hx_d_Model_open_1 : decode hx_c_Model_open 1 = .ok (.getfield 179, 3) := by decide +kernel
theorem hx_d_Model_open_4 : decode hx_c_Model_open 4 = .ok (.ifCond .le 9, 3) := by decide +kernel
theorem hx_d_Model_open_7 : decode hx_c_Model_open 7 = .ok (.aload_n 0, 1) := by decide +kernel
theorem hx_d_Model_open_8 : decode hx_c_Model_open 8 = .ok (.bipush 32, 2) := by decide +kernel
theorem hx_d_Model_open_10 : decode hx_c_Model_open 10 = .ok (.invokevirtual 185, 3) := by decide +kernel
theorem hx_d_Model_open_13 : decode hx_c_Model_open 13 = .ok (.aload_n 0, 1) := by decide +kernel
theorem hx_d_Model_open_14 : decode hx_c_Model_open 14 = .ok (.iconst 0, 1) := by decide +kernel
theorem hx_d_Model_open_15 : decode hx_c_Model_open 15 = .ok (.putfield 189, 3) := by decide +kernel
theorem hx_d_Model_open_18 : decode hx_c_Model_open 18 = .ok (.return_, 1) := by decide +kernel
theorem hx_d_Model_say_0 : decode hx_c_Model_say 0 = .ok (.aload_n 0, 1) := by decide +kernel
theorem hx_d_Model_say_1 : decode hx_c_Model_say 1 = .ok (.getfield 179, 3) := by decide +kernel
theorem hx_d_Model_say_4 : decode hx_c_Model_say 4 = .ok (.sipush 12000, 3) := by decide +kernel
theorem hx_d_Model_say_7 : decode hx_c_Model_say 7 = .ok (.if_icmp .ge 14, 3) := by decide +kernel
theorem hx_d_Model_say_10 : decode hx_c_Model_say 10 = .ok (.aload_n 0, 1) := by decide +kernel
theorem hx_d_Model_say_11 : decode hx_c_Model_say 11 = .ok (.getfield 40, 3) := by decide +kernel
theorem hx_d_Model_say_14 : decode hx_c_Model_say 14 = .ok (.aload_n 0, 1) := by decide +kernel
theorem hx_d_Model_say_15 : decode hx_c_Model_say 15 = .ok (.getfield 179, 3) := by decide +kernel
theorem hx_d_Model_say_18 : decode hx_c_Model_say 18 = .ok (.iload_n 1, 1) := by decide +kernel
theorem hx_d_Model_say_19 : decode hx_c_Model_say 19 = .ok (.i2b, 1) := by decide +kernel
theorem hx_d_Model_say_20 : decode hx_c_Model_say 20 = .ok (.bastore, 1) := by decide +kernel
theorem hx_d_Model_say_21 : decode hx_c_Model_say 21 = .ok (.aload_n 0, 1) := by decide +kernel
theorem hx_d_Model_say_22 : decode hx_c_Model_say 22 = .ok (.dup, 1) := by decide +kernel
theorem hx_d_Model_say_23 : decode hx_c_Model_say 23 = .ok (.getfield 179, 3) := by decide +kernel
theorem hx_d_Model_say_26 : decode hx_c_Model_say 26 = .ok (.iconst 1, 1) := by decide +kernel
theorem hx_d_Model_say_27 : decode hx_c_Model_say 27 = .ok (.iadd, 1) := by decide +kernel
theorem hx_d_Model_say_28 : decode hx_c_Model_say 28 = .ok (.putfield 179, 3) := by decide +kernel
theorem hx_d_Model_say_31 : decode hx_c_Model_say 31 = .ok (.return_, 1) := by decide +kernel
theorem hx_d_Model_sayBytes_0 : decode hx_c_Model_sayBytes 0 = .ok (.iload_n 3, 1) := by decide +kernel
theorem hx_d_Model_sayBytes_1 : decode hx_c_Model_sayBytes 1 = .ok (.iconst 1, 1) := by decide +kernel
theorem hx_d_Model_sayBytes_2 : decode hx_c_Model_sayBytes 2 = .ok (.isub, 1) := by decide +kernel
theorem hx_d_Model_sayBytes_3 : decode hx_c_Model_sayBytes 3 = .ok (.istore 4, 2) := by decide +kernel
theorem hx_d_Model_sayBytes_5 : decode hx_c_Model_sayBytes 5 = .ok (.iload 4, 2) := by decide +kernel
theorem hx_d_Model_sayBytes_7 : decode hx_c_Model_sayBytes 7 = .ok (.ifCond .lt 58, 3) := by decide +kernel
theorem hx_d_Model_sayBytes_10 : decode hx_c_Model_sayBytes 10 = .ok (.lload_n 1, 1) := by decide +kernel
theorem hx_d_Model_sayBytes_11 : decode hx_c_Model_sayBytes 11 = .ok (.bipush 8, 2) := by decide +kernel
theorem hx_d_Model_sayBytes_13 : decode hx_c_Model_sayBytes 13 = .ok (.iload 4, 2) := by decide +kernel
theorem hx_d_Model_sayBytes_15 : decode hx_c_Model_sayBytes 15 = .ok (.imul, 1) := by decide +kernel
theorem hx_d_Model_sayBytes_16 : decode hx_c_Model_sayBytes 16 = .ok (.lshr, 1) := by decide +kernel
theorem hx_d_Model_sayBytes_17 : decode hx_c_Model_sayBytes 17 = .ok (.ldc2_w 51, 3) := by decide +kernel
theorem hx_d_Model_sayBytes_20 : decode hx_c_Model_sayBytes 20 = .ok (.land, 1) := by decide +kernel
theorem hx_d_Model_sayBytes_21 : decode hx_c_Model_sayBytes 21 = .ok (.l2i, 1) := by decide +kernel
theorem hx_d_Model_sayBytes_22 : decode hx_c_Model_sayBytes 22 = .ok (.istore 5, 2) := by decide +kernel
theorem hx_d_Model_sayBytes_24 : decode hx_c_Model_sayBytes 24 = .ok (.aload_n 0, 1) := by decide +kernel
theorem hx_d_Model_sayBytes_25 : decode hx_c_Model_sayBytes 25 = .ok (.iload 5, 2) := by decide +kernel
theorem hx_d_Model_sayBytes_27 : decode hx_c_Model_sayBytes 27 = .ok (.bipush 16, 2) := by decide +kernel
theorem hx_d_Model_sayBytes_29 : decode hx_c_Model_sayBytes 29 = .ok (.idiv, 1) := by decide +kernel
theorem hx_d_Model_sayBytes_30 : decode hx_c_Model_sayBytes 30 = .ok (.invokestatic 182, 3) := by decide +kernel
theorem hx_d_Model_sayBytes_33 : decode hx_c_Model_sayBytes 33 = .ok (.invokevirtual 185, 3) := by decide +kernel
theorem hx_d_Model_sayBytes_36 : decode hx_c_Model_sayBytes 36 = .ok (.aload_n 0, 1) := by decide +kernel
theorem hx_d_Model_sayBytes_37 : decode hx_c_Model_sayBytes 37 = .ok (.iload 5, 2) := by decide +kernel
theorem hx_d_Model_sayBytes_39 : decode hx_c_Model_sayBytes 39 = .ok (.bipush 16, 2) := by decide +kernel
theorem hx_d_Model_sayBytes_41 : decode hx_c_Model_sayBytes 41 = .ok (.irem, 1) := by decide +kernel
theorem hx_d_Model_sayBytes_42 : decode hx_c_Model_sayBytes 42 = .ok (.invokestatic 182, 3) := by decide +kernel
theorem hx_d_Model_sayBytes_45 : decode hx_c_Model_sayBytes 45 = .ok (.invokevirtual 185, 3) := by decide +kernel
theorem hx_d_Model_sayBytes_48 : decode hx_c_Model_sayBytes 48 = .ok (.aload_n 0, 1) := by decide +kernel
theorem hx_d_Model_sayBytes_49 : decode hx_c_Model_sayBytes 49 = .ok (.aload_n 0, 1) := by decide +kernel
theorem hx_d_Model_sayBytes_50 : decode hx_c_Model_sayBytes 50 = .ok (.getfield 189, 3) := by decide +kernel
theorem hx_d_Model_sayBytes_53 : decode hx_c_Model_sayBytes 53 = .ok (.iload 5, 2) := by decide +kernel
theorem hx_d_Model_sayBytes_55 : decode hx_c_Model_sayBytes 55 = .ok (.iadd, 1) := by decide +kernel
theorem hx_d_Model_sayBytes_56 : decode hx_c_Model_sayBytes 56 = .ok (.putfield 189, 3) := by decide +kernel
theorem hx_d_Model_sayBytes_59 : decode hx_c_Model_sayBytes 59 = .ok (.iinc 4 (-1), 3) := by decide +kernel
theorem hx_d_Model_sayBytes_62 : decode hx_c_Model_sayBytes 62 = .ok (.goto (-57), 3) := by decide +kernel
theorem hx_d_Model_sayBytes_65 : decode hx_c_Model_sayBytes 65 = .ok (.return_, 1) := by decide +kernel
theorem hx_d_Model_letter_0 : decode hx_c_Model_letter 0 = .ok (.iload_n 0, 1) := by decide +kernel
theorem hx_d_Model_letter_1 : decode hx_c_Model_letter 1 = .ok (.bipush 10, 2) := by decide +kernel
theorem hx_d_Model_letter_3 : decode hx_c_Model_letter 3 = .ok (.if_icmp .ge 10, 3) := by decide +kernel
theorem hx_d_Model_letter_6 : decode hx_c_Model_letter 6 = .ok (.bipush 48, 2) := by decide +kernel
theorem hx_d_Model_letter_8 : decode hx_c_Model_letter 8 = .ok (.iload_n 0, 1) := by decide +kernel
theorem hx_d_Model_letter_9 : decode hx_c_Model_letter 9 = .ok (.iadd, 1) := by decide +kernel
theorem hx_d_Model_letter_10 : decode hx_c_Model_letter 10 = .ok (.goto 10, 3) := by decide +kernel
theorem hx_d_Model_letter_13 : decode hx_c_Model_letter 13 = .ok (.bipush 65, 2) := by decide +kernel
theorem hx_d_Model_letter_15 : decode hx_c_Model_letter 15 = .ok (.iload_n 0, 1) := by decide +kernel
theorem hx_d_Model_letter_16 : decode hx_c_Model_letter 16 = .ok (.iadd, 1) := by decide +kernel
theorem hx_d_Model_letter_17 : decode hx_c_Model_letter 17 = .ok (.bipush 10, 2) := by decide +kernel
theorem hx_d_Model_letter_19 : decode hx_c_Model_letter 19 = .ok (.isub, 1) := by decide +kernel
theorem hx_d_Model_letter_20 : decode hx_c_Model_letter 20 = .ok (.ireturn, 1) := by decide +kernel
theorem hx_d_Model_sayData_0 : decode hx_c_Model_sayData 0 = .ok (.iconst 0, 1) := by decide +kernel
theorem hx_d_Model_sayData_1 : decode hx_c_Model_sayData 1 = .ok (.istore_n 3, 1) := by decide +kernel
theorem hx_d_Model_sayData_2 : decode hx_c_Model_sayData 2 = .ok (.iload_n 3, 1) := by decide +kernel
theorem hx_d_Model_sayData_3 : decode hx_c_Model_sayData 3 = .ok (.iload_n 2, 1) := by decide +kernel
theorem hx_d_Model_sayData_4 : decode hx_c_Model_sayData 4 = .ok (.if_icmp .ge 23, 3) := by decide +kernel
theorem hx_d_Model_sayData_7 : decode hx_c_Model_sayData 7 = .ok (.aload_n 0, 1) := by decide +kernel
theorem hx_d_Model_sayData_8 : decode hx_c_Model_sayData 8 = .ok (.aload_n 0, 1) := by decide +kernel
theorem hx_d_Model_sayData_9 : decode hx_c_Model_sayData 9 = .ok (.getfield 13, 3) := by decide +kernel
theorem hx_d_Model_sayData_12 : decode hx_c_Model_sayData 12 = .ok (.iload_n 1, 1) := by decide +kernel
theorem hx_d_Model_sayData_13 : decode hx_c_Model_sayData 13 = .ok (.iload_n 3, 1) := by decide +kernel
theorem hx_d_Model_sayData_14 : decode hx_c_Model_sayData 14 = .ok (.iadd, 1) := by decide +kernel
theorem hx_d_Model_sayData_15 : decode hx_c_Model_sayData 15 = .ok (.iaload, 1) := by decide +kernel
theorem hx_d_Model_sayData_16 : decode hx_c_Model_sayData 16 = .ok (.i2l, 1) := by decide +kernel
theorem hx_d_Model_sayData_17 : decode hx_c_Model_sayData 17 = .ok (.iconst 1, 1) := by decide +kernel
theorem hx_d_Model_sayData_18 : decode hx_c_Model_sayData 18 = .ok (.invokevirtual 191, 3) := by decide +kernel
theorem hx_d_Model_sayData_21 : decode hx_c_Model_sayData 21 = .ok (.iinc 3 1, 3) := by decide +kernel
theorem hx_d_Model_sayData_24 : decode hx_c_Model_sayData 24 = .ok (.goto (-22), 3) := by decide +kernel
theorem hx_d_Model_sayData_27 : decode hx_c_Model_sayData 27 = .ok (.return_, 1) := by decide +kernel
theorem hx_d_Model_close_0 : decode hx_c_Model_close 0 = .ok (.aload_n 0, 1) := by decide +kernel
theorem hx_d_Model_close_1 : decode hx_c_Model_close 1 = .ok (.iload_n 1, 1) := by decide +kernel
theorem hx_d_Model_close_2 : decode hx_c_Model_close 2 = .ok (.aload_n 0, 1) := by decide +kernel
theorem hx_d_Model_close_3 : decode hx_c_Model_close 3 = .ok (.getfield 189, 3) := by decide +kernel
theorem hx_d_Model_close_6 : decode hx_c_Model_close 6 = .ok (.isub, 1) := by decide +kernel
theorem hx_d_Model_close_7 : decode hx_c_Model_close 7 = .ok (.sipush 256, 3) := by decide +kernel
theorem hx_d_Model_close_10 : decode hx_c_Model_close 10 = .ok (.irem, 1) := by decide +kernel
theorem hx_d_Model_close_11 : decode hx_c_Model_close 11 = .ok (.sipush 256, 3) := by decide +kernel
theorem hx_d_Model_close_14 : decode hx_c_Model_close 14 = .ok (.iadd, 1) := by decide +kernel
theorem hx_d_Model_close_15 : decode hx_c_Model_close 15 = .ok (.i2l, 1) := by decide +kernel
theorem hx_d_Model_close_16 : decode hx_c_Model_close 16 = .ok (.iconst 1, 1) := by decide +kernel
theorem hx_d_Model_close_17 : decode hx_c_Model_close 17 = .ok (.invokevirtual 191, 3) := by decide +kernel
theorem hx_d_Model_close_20 : decode hx_c_Model_close 20 = .ok (.return_, 1) := by decide +kernel
theorem hx_d_Model_cutAt_0 : decode hx_c_Model_cutAt 0 = .ok (.iload_n 2, 1) := by decide +kernel
theorem hx_d_Model_cutAt_1 : decode hx_c_Model_cutAt 1 = .ok (.iconst 1, 1) := by decide +kernel
theorem hx_d_Model_cutAt_2 : decode hx_c_Model_cutAt 2 = .ok (.iadd, 1) := by decide +kernel
theorem hx_d_Model_cutAt_3 : decode hx_c_Model_cutAt 3 = .ok (.istore 4, 2) := by decide +kernel
theorem hx_d_Model_cutAt_5 : decode hx_c_Model_cutAt 5 = .ok (.iload 4, 2) := by decide +kernel
theorem hx_d_Model_cutAt_7 : decode hx_c_Model_cutAt 7 = .ok (.aload_n 0, 1) := by decide +kernel
theorem hx_d_Model_cutAt_8 : decode hx_c_Model_cutAt 8 = .ok (.getfield 57, 3) := by decide +kernel
theorem hx_d_Model_cutAt_11 : decode hx_c_Model_cutAt 11 = .ok (.if_icmp .ge 47, 3) := by decide +kernel
theorem hx_d_Model_cutAt_14 : decode hx_c_Model_cutAt 14 = .ok (.iload 4, 2) := by decide +kernel
theorem hx_d_Model_cutAt_16 : decode hx_c_Model_cutAt 16 = .ok (.iload_n 2, 1) := by decide +kernel
theorem hx_d_Model_cutAt_17 : decode hx_c_Model_cutAt 17 = .ok (.isub, 1) := by decide +kernel
theorem hx_d_Model_cutAt_18 : decode hx_c_Model_cutAt 18 = .ok (.iload_n 3, 1) := by decide +kernel
theorem hx_d_Model_cutAt_19 : decode hx_c_Model_cutAt 19 = .ok (.if_icmp .ge 39, 3) := by decide +kernel
theorem hx_d_Model_cutAt_22 : decode hx_c_Model_cutAt 22 = .ok (.aload_n 0, 1) := by decide +kernel
theorem hx_d_Model_cutAt_23 : decode hx_c_Model_cutAt 23 = .ok (.iload 4, 2) := by decide +kernel
theorem hx_d_Model_cutAt_25 : decode hx_c_Model_cutAt 25 = .ok (.invokevirtual 172, 3) := by decide +kernel
theorem hx_d_Model_cutAt_28 : decode hx_c_Model_cutAt 28 = .ok (.ifCond .ne 30, 3) := by decide +kernel
theorem hx_d_Model_cutAt_31 : decode hx_c_Model_cutAt 31 = .ok (.iload_n 1, 1) := by decide +kernel
theorem hx_d_Model_cutAt_32 : decode hx_c_Model_cutAt 32 = .ok (.iconst 1, 1) := by decide +kernel
theorem hx_d_Model_cutAt_33 : decode hx_c_Model_cutAt 33 = .ok (.if_icmp .eq 19, 3) := by decide +kernel
theorem hx_d_Model_cutAt_36 : decode hx_c_Model_cutAt 36 = .ok (.aload_n 0, 1) := by decide +kernel
theorem hx_d_Model_cutAt_37 : decode hx_c_Model_cutAt 37 = .ok (.getfield 7, 3) := by decide +kernel
theorem hx_d_Model_cutAt_40 : decode hx_c_Model_cutAt 40 = .ok (.iload 4, 2) := by decide +kernel
theorem hx_d_Model_cutAt_42 : decode hx_c_Model_cutAt 42 = .ok (.laload, 1) := by decide +kernel
theorem hx_d_Model_cutAt_43 : decode hx_c_Model_cutAt 43 = .ok (.ldc2_w 113, 3) := by decide +kernel
theorem hx_d_Model_cutAt_46 : decode hx_c_Model_cutAt 46 = .ok (.lrem, 1) := by decide +kernel
theorem hx_d_Model_cutAt_47 : decode hx_c_Model_cutAt 47 = .ok (.lconst 0, 1) := by decide +kernel
theorem hx_d_Model_cutAt_48 : decode hx_c_Model_cutAt 48 = .ok (.lcmp, 1) := by decide +kernel
theorem hx_d_Model_cutAt_49 : decode hx_c_Model_cutAt 49 = .ok (.ifCond .eq 9, 3) := by decide +kernel
theorem hx_d_Model_cutAt_52 : decode hx_c_Model_cutAt 52 = .ok (.iinc 4 1, 3) := by decide +kernel
theorem hx_d_Model_cutAt_55 : decode hx_c_Model_cutAt 55 = .ok (.goto (-50), 3) := by decide +kernel
theorem hx_d_Model_cutAt_58 : decode hx_c_Model_cutAt 58 = .ok (.iload 4, 2) := by decide +kernel
theorem hx_d_Model_cutAt_60 : decode hx_c_Model_cutAt 60 = .ok (.iload_n 2, 1) := by decide +kernel
theorem hx_d_Model_cutAt_61 : decode hx_c_Model_cutAt 61 = .ok (.isub, 1) := by decide +kernel
theorem hx_d_Model_cutAt_62 : decode hx_c_Model_cutAt 62 = .ok (.ireturn, 1) := by decide +kernel
theorem hx_d_Model_colon_0 : decode hx_c_Model_colon 0 = .ok (.aload_n 0, 1) := by decide +kernel
theorem hx_d_Model_colon_1 : decode hx_c_Model_colon 1 = .ok (.invokevirtual 194, 3) := by decide +kernel
theorem hx_d_Model_colon_4 : decode hx_c_Model_colon 4 = .ok (.aload_n 0, 1) := by decide +kernel
theorem hx_d_Model_colon_5 : decode hx_c_Model_colon 5 = .ok (.bipush 58, 2) := by decide +kernel
theorem hx_d_Model_colon_7 : decode hx_c_Model_colon 7 = .ok (.invokevirtual 185, 3) := by decide +kernel
theorem hx_d_Model_colon_10 : decode hx_c_Model_colon 10 = .ok (.aload_n 0, 1) := by decide +kernel
