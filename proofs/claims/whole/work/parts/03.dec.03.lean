theorem hx_d_Teller_colonCut_17 : decode hx_c_Teller_colonCut 17 = .ok (.ifCond .eq 32, 3) := by decide +kernel
theorem hx_d_Teller_colonCut_20 : decode hx_c_Teller_colonCut 20 = .ok (.aload_n 0, 1) := by decide +kernel
theorem hx_d_Teller_colonCut_21 : decode hx_c_Teller_colonCut 21 = .ok (.lload 4, 2) := by decide +kernel
theorem hx_d_Teller_colonCut_23 : decode hx_c_Teller_colonCut 23 = .ok (.bipush 16, 2) := by decide +kernel
theorem hx_d_Teller_colonCut_25 : decode hx_c_Teller_colonCut 25 = .ok (.lshr, 1) := by decide +kernel
theorem hx_d_Teller_colonCut_26 : decode hx_c_Teller_colonCut 26 = .ok (.putfield 29, 3) := by decide +kernel
theorem hx_d_Teller_colonCut_29 : decode hx_c_Teller_colonCut 29 = .ok (.aload_n 0, 1) := by decide +kernel
theorem hx_d_Teller_colonCut_30 : decode hx_c_Teller_colonCut 30 = .ok (.iconst 2, 1) := by decide +kernel
theorem hx_d_Teller_colonCut_31 : decode hx_c_Teller_colonCut 31 = .ok (.iconst 0, 1) := by decide +kernel
theorem hx_d_Teller_colonCut_32 : decode hx_c_Teller_colonCut 32 = .ok (.iconst 4, 1) := by decide +kernel
theorem hx_d_Teller_colonCut_33 : decode hx_c_Teller_colonCut 33 = .ok (.invokevirtual 62, 3) := by decide +kernel
theorem hx_d_Teller_colonCut_36 : decode hx_c_Teller_colonCut 36 = .ok (.aload_n 0, 1) := by decide +kernel
theorem hx_d_Teller_colonCut_37 : decode hx_c_Teller_colonCut 37 = .ok (.aload_n 0, 1) := by decide +kernel
theorem hx_d_Teller_colonCut_38 : decode hx_c_Teller_colonCut 38 = .ok (.getfield 29, 3) := by decide +kernel
theorem hx_d_Teller_colonCut_41 : decode hx_c_Teller_colonCut 41 = .ok (.iconst 2, 1) := by decide +kernel
theorem hx_d_Teller_colonCut_42 : decode hx_c_Teller_colonCut 42 = .ok (.invokevirtual 66, 3) := by decide +kernel
theorem hx_d_Teller_colonCut_45 : decode hx_c_Teller_colonCut 45 = .ok (.aload_n 0, 1) := by decide +kernel
theorem hx_d_Teller_colonCut_46 : decode hx_c_Teller_colonCut 46 = .ok (.invokevirtual 70, 3) := by decide +kernel
theorem hx_d_Teller_colonCut_49 : decode hx_c_Teller_colonCut 49 = .ok (.aload_n 0, 1) := by decide +kernel
theorem hx_d_Teller_colonCut_50 : decode hx_c_Teller_colonCut 50 = .ok (.iload_n 3, 1) := by decide +kernel
theorem hx_d_Teller_colonCut_51 : decode hx_c_Teller_colonCut 51 = .ok (.lload 4, 2) := by decide +kernel
theorem hx_d_Teller_colonCut_53 : decode hx_c_Teller_colonCut 53 = .ok (.l2i, 1) := by decide +kernel
theorem hx_d_Teller_colonCut_54 : decode hx_c_Teller_colonCut 54 = .ok (.ldc 73, 2) := by decide +kernel
theorem hx_d_Teller_colonCut_56 : decode hx_c_Teller_colonCut 56 = .ok (.iand, 1) := by decide +kernel
theorem hx_d_Teller_colonCut_57 : decode hx_c_Teller_colonCut 57 = .ok (.iconst 0, 1) := by decide +kernel
theorem hx_d_Teller_colonCut_58 : decode hx_c_Teller_colonCut 58 = .ok (.invokevirtual 62, 3) := by decide +kernel
theorem hx_d_Teller_colonCut_61 : decode hx_c_Teller_colonCut 61 = .ok (.aload_n 0, 1) := by decide +kernel
theorem hx_d_Teller_colonCut_62 : decode hx_c_Teller_colonCut 62 = .ok (.aload_n 1, 1) := by decide +kernel
theorem hx_d_Teller_colonCut_63 : decode hx_c_Teller_colonCut 63 = .ok (.iload_n 2, 1) := by decide +kernel
theorem hx_d_Teller_colonCut_64 : decode hx_c_Teller_colonCut 64 = .ok (.iload_n 3, 1) := by decide +kernel
theorem hx_d_Teller_colonCut_65 : decode hx_c_Teller_colonCut 65 = .ok (.invokevirtual 74, 3) := by decide +kernel
theorem hx_d_Teller_colonCut_68 : decode hx_c_Teller_colonCut 68 = .ok (.aload_n 0, 1) := by decide +kernel
theorem hx_d_Teller_colonCut_69 : decode hx_c_Teller_colonCut 69 = .ok (.invokevirtual 70, 3) := by decide +kernel
theorem hx_d_Teller_colonCut_72 : decode hx_c_Teller_colonCut 72 = .ok (.return_, 1) := by decide +kernel
theorem hx_d_Teller_openColon_0 : decode hx_c_Teller_openColon 0 = .ok (.aload_n 0, 1) := by decide +kernel
theorem hx_d_Teller_openColon_1 : decode hx_c_Teller_openColon 1 = .ok (.bipush 58, 2) := by decide +kernel
theorem hx_d_Teller_openColon_3 : decode hx_c_Teller_openColon 3 = .ok (.invokevirtual 77, 3) := by decide +kernel
theorem hx_d_Teller_openColon_6 : decode hx_c_Teller_openColon 6 = .ok (.aload_n 0, 1) := by decide +kernel
theorem hx_d_Teller_openColon_7 : decode hx_c_Teller_openColon 7 = .ok (.iload_n 1, 1) := by decide +kernel
theorem hx_d_Teller_openColon_8 : decode hx_c_Teller_openColon 8 = .ok (.invokevirtual 81, 3) := by decide +kernel
theorem hx_d_Teller_openColon_11 : decode hx_c_Teller_openColon 11 = .ok (.aload_n 0, 1) := by decide +kernel
theorem hx_d_Teller_openColon_12 : decode hx_c_Teller_openColon 12 = .ok (.iload_n 2, 1) := by decide +kernel
theorem hx_d_Teller_openColon_13 : decode hx_c_Teller_openColon 13 = .ok (.bipush 8, 2) := by decide +kernel
theorem hx_d_Teller_openColon_15 : decode hx_c_Teller_openColon 15 = .ok (.ishr, 1) := by decide +kernel
theorem hx_d_Teller_openColon_16 : decode hx_c_Teller_openColon 16 = .ok (.invokevirtual 81, 3) := by decide +kernel
theorem hx_d_Teller_openColon_19 : decode hx_c_Teller_openColon 19 = .ok (.aload_n 0, 1) := by decide +kernel
theorem hx_d_Teller_openColon_20 : decode hx_c_Teller_openColon 20 = .ok (.iload_n 2, 1) := by decide +kernel
theorem hx_d_Teller_openColon_21 : decode hx_c_Teller_openColon 21 = .ok (.sipush 255, 3) := by decide +kernel
theorem hx_d_Teller_openColon_24 : decode hx_c_Teller_openColon 24 = .ok (.iand, 1) := by decide +kernel
theorem hx_d_Teller_openColon_25 : decode hx_c_Teller_openColon 25 = .ok (.invokevirtual 81, 3) := by decide +kernel
theorem hx_d_Teller_openColon_28 : decode hx_c_Teller_openColon 28 = .ok (.aload_n 0, 1) := by decide +kernel
theorem hx_d_Teller_openColon_29 : decode hx_c_Teller_openColon 29 = .ok (.iload_n 3, 1) := by decide +kernel
theorem hx_d_Teller_openColon_30 : decode hx_c_Teller_openColon 30 = .ok (.invokevirtual 81, 3) := by decide +kernel
theorem hx_d_Teller_openColon_33 : decode hx_c_Teller_openColon 33 = .ok (.return_, 1) := by decide +kernel
theorem hx_d_Teller_mark_0 : decode hx_c_Teller_mark 0 = .ok (.aload_n 0, 1) := by decide +kernel
theorem hx_d_Teller_mark_1 : decode hx_c_Teller_mark 1 = .ok (.getfield 19, 3) := by decide +kernel
theorem hx_d_Teller_mark_4 : decode hx_c_Teller_mark 4 = .ok (.ifCond .le 9, 3) := by decide +kernel
theorem hx_d_Teller_mark_7 : decode hx_c_Teller_mark 7 = .ok (.aload_n 0, 1) := by decide +kernel
theorem hx_d_Teller_mark_8 : decode hx_c_Teller_mark 8 = .ok (.bipush 32, 2) := by decide +kernel
theorem hx_d_Teller_mark_10 : decode hx_c_Teller_mark 10 = .ok (.invokevirtual 104, 3) := by decide +kernel
theorem hx_d_Teller_mark_13 : decode hx_c_Teller_mark 13 = .ok (.aload_n 0, 1) := by decide +kernel
theorem hx_d_Teller_mark_14 : decode hx_c_Teller_mark 14 = .ok (.iload_n 1, 1) := by decide +kernel
theorem hx_d_Teller_mark_15 : decode hx_c_Teller_mark 15 = .ok (.invokevirtual 104, 3) := by decide +kernel
theorem hx_d_Teller_mark_18 : decode hx_c_Teller_mark 18 = .ok (.aload_n 0, 1) := by decide +kernel
theorem hx_d_Teller_mark_19 : decode hx_c_Teller_mark 19 = .ok (.iconst 0, 1) := by decide +kernel
theorem hx_d_Teller_mark_20 : decode hx_c_Teller_mark 20 = .ok (.putfield 26, 3) := by decide +kernel
theorem hx_d_Teller_mark_23 : decode hx_c_Teller_mark 23 = .ok (.return_, 1) := by decide +kernel
theorem hx_d_Teller_put_0 : decode hx_c_Teller_put 0 = .ok (.aload_n 0, 1) := by decide +kernel
theorem hx_d_Teller_put_1 : decode hx_c_Teller_put 1 = .ok (.getfield 22, 3) := by decide +kernel
theorem hx_d_Teller_put_4 : decode hx_c_Teller_put 4 = .ok (.ifCond .eq 24, 3) := by decide +kernel
theorem hx_d_Teller_put_7 : decode hx_c_Teller_put 7 = .ok (.aload_n 0, 1) := by decide +kernel
theorem hx_d_Teller_put_8 : decode hx_c_Teller_put 8 = .ok (.getfield 19, 3) := by decide +kernel
theorem hx_d_Teller_put_11 : decode hx_c_Teller_put 11 = .ok (.sipush 12000, 3) := by decide +kernel
theorem hx_d_Teller_put_14 : decode hx_c_Teller_put 14 = .ok (.if_icmp .ge 14, 3) := by decide +kernel
theorem hx_d_Teller_put_17 : decode hx_c_Teller_put 17 = .ok (.aload_n 0, 1) := by decide +kernel
theorem hx_d_Teller_put_18 : decode hx_c_Teller_put 18 = .ok (.getfield 9, 3) := by decide +kernel
theorem hx_d_Teller_put_21 : decode hx_c_Teller_put 21 = .ok (.aload_n 0, 1) := by decide +kernel
theorem hx_d_Teller_put_22 : decode hx_c_Teller_put 22 = .ok (.getfield 19, 3) := by decide +kernel
theorem hx_d_Teller_put_25 : decode hx_c_Teller_put 25 = .ok (.iload_n 1, 1) := by decide +kernel
theorem hx_d_Teller_put_26 : decode hx_c_Teller_put 26 = .ok (.i2b, 1) := by decide +kernel
theorem hx_d_Teller_put_27 : decode hx_c_Teller_put 27 = .ok (.bastore, 1) := by decide +kernel
theorem hx_d_Teller_put_28 : decode hx_c_Teller_put 28 = .ok (.aload_n 0, 1) := by decide +kernel
theorem hx_d_Teller_put_29 : decode hx_c_Teller_put 29 = .ok (.dup, 1) := by decide +kernel
theorem hx_d_Teller_put_30 : decode hx_c_Teller_put 30 = .ok (.getfield 19, 3) := by decide +kernel
theorem hx_d_Teller_put_33 : decode hx_c_Teller_put 33 = .ok (.iconst 1, 1) := by decide +kernel
theorem hx_d_Teller_put_34 : decode hx_c_Teller_put 34 = .ok (.iadd, 1) := by decide +kernel
theorem hx_d_Teller_put_35 : decode hx_c_Teller_put 35 = .ok (.putfield 19, 3) := by decide +kernel
theorem hx_d_Teller_put_38 : decode hx_c_Teller_put 38 = .ok (.return_, 1) := by decide +kernel
theorem hx_d_Teller_octet_0 : decode hx_c_Teller_octet 0 = .ok (.aload_n 0, 1) := by decide +kernel
theorem hx_d_Teller_octet_1 : decode hx_c_Teller_octet 1 = .ok (.dup, 1) := by decide +kernel
theorem hx_d_Teller_octet_2 : decode hx_c_Teller_octet 2 = .ok (.getfield 26, 3) := by decide +kernel
theorem hx_d_Teller_octet_5 : decode hx_c_Teller_octet 5 = .ok (.iload_n 1, 1) := by decide +kernel
theorem hx_d_Teller_octet_6 : decode hx_c_Teller_octet 6 = .ok (.iadd, 1) := by decide +kernel
theorem hx_d_Teller_octet_7 : decode hx_c_Teller_octet 7 = .ok (.putfield 26, 3) := by decide +kernel
theorem hx_d_Teller_octet_10 : decode hx_c_Teller_octet 10 = .ok (.aload_n 0, 1) := by decide +kernel
theorem hx_d_Teller_octet_11 : decode hx_c_Teller_octet 11 = .ok (.iload_n 1, 1) := by decide +kernel
theorem hx_d_Teller_octet_12 : decode hx_c_Teller_octet 12 = .ok (.iconst 4, 1) := by decide +kernel
theorem hx_d_Teller_octet_13 : decode hx_c_Teller_octet 13 = .ok (.ishr, 1) := by decide +kernel
theorem hx_d_Teller_octet_14 : decode hx_c_Teller_octet 14 = .ok (.bipush 15, 2) := by decide +kernel
theorem hx_d_Teller_octet_16 : decode hx_c_Teller_octet 16 = .ok (.iand, 1) := by decide +kernel
theorem hx_d_Teller_octet_17 : decode hx_c_Teller_octet 17 = .ok (.invokestatic 111, 3) := by decide +kernel
theorem hx_d_Teller_octet_20 : decode hx_c_Teller_octet 20 = .ok (.invokevirtual 104, 3) := by decide +kernel
theorem hx_d_Teller_octet_23 : decode hx_c_Teller_octet 23 = .ok (.aload_n 0, 1) := by decide +kernel
theorem hx_d_Teller_octet_24 : decode hx_c_Teller_octet 24 = .ok (.iload_n 1, 1) := by decide +kernel
theorem hx_d_Teller_octet_25 : decode hx_c_Teller_octet 25 = .ok (.bipush 15, 2) := by decide +kernel
theorem hx_d_Teller_octet_27 : decode hx_c_Teller_octet 27 = .ok (.iand, 1) := by decide +kernel
theorem hx_d_Teller_octet_28 : decode hx_c_Teller_octet 28 = .ok (.invokestatic 111, 3) := by decide +kernel
theorem hx_d_Teller_octet_31 : decode hx_c_Teller_octet 31 = .ok (.invokevirtual 104, 3) := by decide +kernel
theorem hx_d_Teller_octet_34 : decode hx_c_Teller_octet 34 = .ok (.return_, 1) := by decide +kernel
theorem hx_d_Teller_digit_0 : decode hx_c_Teller_digit 0 = .ok (.iload_n 0, 1) := by decide +kernel
theorem hx_d_Teller_digit_1 : decode hx_c_Teller_digit 1 = .ok (.bipush 10, 2) := by decide +kernel
theorem hx_d_Teller_digit_3 : decode hx_c_Teller_digit 3 = .ok (.if_icmp .ge 10, 3) := by decide +kernel
theorem hx_d_Teller_digit_6 : decode hx_c_Teller_digit 6 = .ok (.bipush 48, 2) := by decide +kernel
theorem hx_d_Teller_digit_8 : decode hx_c_Teller_digit 8 = .ok (.iload_n 0, 1) := by decide +kernel
theorem hx_d_Teller_digit_9 : decode hx_c_Teller_digit 9 = .ok (.iadd, 1) := by decide +kernel
theorem hx_d_Teller_digit_10 : decode hx_c_Teller_digit 10 = .ok (.goto 10, 3) := by decide +kernel
theorem hx_d_Teller_digit_13 : decode hx_c_Teller_digit 13 = .ok (.bipush 65, 2) := by decide +kernel
theorem hx_d_Teller_digit_15 : decode hx_c_Teller_digit 15 = .ok (.iload_n 0, 1) := by decide +kernel
theorem hx_d_Teller_digit_16 : decode hx_c_Teller_digit 16 = .ok (.iadd, 1) := by decide +kernel
theorem hx_d_Teller_digit_17 : decode hx_c_Teller_digit 17 = .ok (.bipush 10, 2) := by decide +kernel
theorem hx_d_Teller_digit_19 : decode hx_c_Teller_digit 19 = .ok (.isub, 1) := by decide +kernel
theorem hx_d_Teller_digit_20 : decode hx_c_Teller_digit 20 = .ok (.ireturn, 1) := by decide +kernel
theorem hx_d_Teller_number_0 : decode hx_c_Teller_number 0 = .ok (.iload_n 3, 1) := by decide +kernel
theorem hx_d_Teller_number_1 : decode hx_c_Teller_number 1 = .ok (.iconst 1, 1) := by decide +kernel
theorem hx_d_Teller_number_2 : decode hx_c_Teller_number 2 = .ok (.isub, 1) := by decide +kernel
theorem hx_d_Teller_number_3 : decode hx_c_Teller_number 3 = .ok (.istore 4, 2) := by decide +kernel
theorem hx_d_Teller_number_5 : decode hx_c_Teller_number 5 = .ok (.iload 4, 2) := by decide +kernel
theorem hx_d_Teller_number_7 : decode hx_c_Teller_number 7 = .ok (.ifCond .lt 25, 3) := by decide +kernel
theorem hx_d_Teller_number_10 : decode hx_c_Teller_number 10 = .ok (.aload_n 0, 1) := by decide +kernel
theorem hx_d_Teller_number_11 : decode hx_c_Teller_number 11 = .ok (.lload_n 1, 1) := by decide +kernel
theorem hx_d_Teller_number_12 : decode hx_c_Teller_number 12 = .ok (.bipush 8, 2) := by decide +kernel
theorem hx_d_Teller_number_14 : decode hx_c_Teller_number 14 = .ok (.iload 4, 2) := by decide +kernel
theorem hx_d_Teller_number_16 : decode hx_c_Teller_number 16 = .ok (.imul, 1) := by decide +kernel
theorem hx_d_Teller_number_17 : decode hx_c_Teller_number 17 = .ok (.lshr, 1) := by decide +kernel
theorem hx_d_Teller_number_18 : decode hx_c_Teller_number 18 = .ok (.l2i, 1) := by decide +kernel
theorem hx_d_Teller_number_19 : decode hx_c_Teller_number 19 = .ok (.sipush 255, 3) := by decide +kernel
theorem hx_d_Teller_number_22 : decode hx_c_Teller_number 22 = .ok (.iand, 1) := by decide +kernel
theorem hx_d_Teller_number_23 : decode hx_c_Teller_number 23 = .ok (.invokevirtual 81, 3) := by decide +kernel
theorem hx_d_Teller_number_26 : decode hx_c_Teller_number 26 = .ok (.iinc 4 (-1), 3) := by decide +kernel
theorem hx_d_Teller_number_29 : decode hx_c_Teller_number 29 = .ok (.goto (-24), 3) := by decide +kernel
theorem hx_d_Teller_number_32 : decode hx_c_Teller_number 32 = .ok (.return_, 1) := by decide +kernel
theorem hx_d_Teller_closeColon_0 : decode hx_c_Teller_closeColon 0 = .ok (.aload_n 0, 1) := by decide +kernel
theorem hx_d_Teller_closeColon_1 : decode hx_c_Teller_closeColon 1 = .ok (.aload_n 0, 1) := by decide +kernel
theorem hx_d_Teller_closeColon_2 : decode hx_c_Teller_closeColon 2 = .ok (.getfield 26, 3) := by decide +kernel
theorem hx_d_Teller_closeColon_5 : decode hx_c_Teller_closeColon 5 = .ok (.ineg, 1) := by decide +kernel
theorem hx_d_Teller_closeColon_6 : decode hx_c_Teller_closeColon 6 = .ok (.sipush 255, 3) := by decide +kernel
theorem hx_d_Teller_closeColon_9 : decode hx_c_Teller_closeColon 9 = .ok (.iand, 1) := by decide +kernel
theorem hx_d_Teller_closeColon_10 : decode hx_c_Teller_closeColon 10 = .ok (.invokevirtual 81, 3) := by decide +kernel
theorem hx_d_Teller_closeColon_13 : decode hx_c_Teller_closeColon 13 = .ok (.return_, 1) := by decide +kernel
theorem hx_d_Teller_data_0 : decode hx_c_Teller_data 0 = .ok (.iconst 0, 1) := by decide +kernel
theorem hx_d_Teller_data_1 : decode hx_c_Teller_data 1 = .ok (.istore 4, 2) := by decide +kernel
theorem hx_d_Teller_data_3 : decode hx_c_Teller_data 3 = .ok (.iload 4, 2) := by decide +kernel
theorem hx_d_Teller_data_5 : decode hx_c_Teller_data 5 = .ok (.iload_n 3, 1) := by decide +kernel
theorem hx_d_Teller_data_6 : decode hx_c_Teller_data 6 = .ok (.if_icmp .ge 21, 3) := by decide +kernel
theorem hx_d_Teller_data_9 : decode hx_c_Teller_data 9 = .ok (.aload_n 0, 1) := by decide +kernel
theorem hx_d_Teller_data_10 : decode hx_c_Teller_data 10 = .ok (.aload_n 1, 1) := by decide +kernel
theorem hx_d_Teller_data_11 : decode hx_c_Teller_data 11 = .ok (.iload_n 2, 1) := by decide +kernel
theorem hx_d_Teller_data_12 : decode hx_c_Teller_data 12 = .ok (.iload 4, 2) := by decide +kernel
theorem hx_d_Teller_data_14 : decode hx_c_Teller_data 14 = .ok (.iadd, 1) := by decide +kernel
theorem hx_d_Teller_data_15 : decode hx_c_Teller_data 15 = .ok (.invokevirtual 107, 3) := by decide +kernel
theorem hx_d_Teller_data_18 : decode hx_c_Teller_data 18 = .ok (.invokevirtual 81, 3) := by decide +kernel
theorem hx_d_Teller_data_21 : decode hx_c_Teller_data 21 = .ok (.iinc 4 1, 3) := by decide +kernel
theorem hx_d_Teller_data_24 : decode hx_c_Teller_data 24 = .ok (.goto (-21), 3) := by decide +kernel
theorem hx_d_Teller_data_27 : decode hx_c_Teller_data 27 = .ok (.return_, 1) := by decide +kernel
theorem hx_d_Image_valueOf_0 : decode hx_c_Image_valueOf 0 = .ok (.iload_n 1, 1) := by decide +kernel
theorem hx_d_Image_valueOf_1 : decode hx_c_Image_valueOf 1 = .ok (.ifCond .lt 20, 3) := by decide +kernel
theorem hx_d_Image_valueOf_4 : decode hx_c_Image_valueOf 4 = .ok (.iload_n 1, 1) := by decide +kernel
theorem hx_d_Image_valueOf_5 : decode hx_c_Image_valueOf 5 = .ok (.aload_n 0, 1) := by decide +kernel
theorem hx_d_Image_valueOf_6 : decode hx_c_Image_valueOf 6 = .ok (.getfield 25, 3) := by decide +kernel
theorem hx_d_Image_valueOf_9 : decode hx_c_Image_valueOf 9 = .ok (.if_icmp .ge 12, 3) := by decide +kernel
theorem hx_d_Image_valueOf_12 : decode hx_c_Image_valueOf 12 = .ok (.aload_n 0, 1) := by decide +kernel
theorem hx_d_Image_valueOf_13 : decode hx_c_Image_valueOf 13 = .ok (.getfield 15, 3) := by decide +kernel
theorem hx_d_Image_valueOf_16 : decode hx_c_Image_valueOf 16 = .ok (.iload_n 1, 1) := by decide +kernel
theorem hx_d_Image_valueOf_17 : decode hx_c_Image_valueOf 17 = .ok (.iaload, 1) := by decide +kernel
theorem hx_d_Image_valueOf_18 : decode hx_c_Image_valueOf 18 = .ok (.goto 4, 3) := by decide +kernel
theorem hx_d_Image_valueOf_21 : decode hx_c_Image_valueOf 21 = .ok (.iconst (-1), 1) := by decide +kernel
theorem hx_d_Image_valueOf_22 : decode hx_c_Image_valueOf 22 = .ok (.ireturn, 1) := by decide +kernel
theorem hx_d_Teller_sRecords_0 : decode hx_c_Teller_sRecords 0 = .ok (.lload_n 2, 1) := by decide +kernel
theorem hx_d_Teller_sRecords_1 : decode hx_c_Teller_sRecords 1 = .ok (.ldc2_w 60, 3) := by decide +kernel
theorem hx_d_Teller_sRecords_4 : decode hx_c_Teller_sRecords 4 = .ok (.lcmp, 1) := by decide +kernel
theorem hx_d_Teller_sRecords_5 : decode hx_c_Teller_sRecords 5 = .ok (.ifCond .ne 7, 3) := by decide +kernel
theorem hx_d_Teller_sRecords_8 : decode hx_c_Teller_sRecords 8 = .ok (.lconst 0, 1) := by decide +kernel
theorem hx_d_Teller_sRecords_9 : decode hx_c_Teller_sRecords 9 = .ok (.goto 4, 3) := by decide +kernel
theorem hx_d_Teller_sRecords_12 : decode hx_c_Teller_sRecords 12 = .ok (.lload_n 2, 1) := by decide +kernel
theorem hx_d_Teller_sRecords_13 : decode hx_c_Teller_sRecords 13 = .ok (.lstore 5, 2) := by decide +kernel
theorem hx_d_Teller_sRecords_15 : decode hx_c_Teller_sRecords 15 = .ok (.aload_n 1, 1) := by decide +kernel
theorem hx_d_Teller_sRecords_16 : decode hx_c_Teller_sRecords 16 = .ok (.aload_n 1, 1) := by decide +kernel
theorem hx_d_Teller_sRecords_17 : decode hx_c_Teller_sRecords 17 = .ok (.invokevirtual 40, 3) := by decide +kernel
theorem hx_d_Teller_sRecords_20 : decode hx_c_Teller_sRecords 20 = .ok (.iconst 1, 1) := by decide +kernel
theorem hx_d_Teller_sRecords_21 : decode hx_c_Teller_sRecords 21 = .ok (.isub, 1) := by decide +kernel
theorem hx_d_Teller_sRecords_22 : decode hx_c_Teller_sRecords 22 = .ok (.invokevirtual 46, 3) := by decide +kernel
theorem hx_d_Teller_sRecords_25 : decode hx_c_Teller_sRecords 25 = .ok (.lload 5, 2) := by decide +kernel
theorem hx_d_Teller_sRecords_27 : decode hx_c_Teller_sRecords 27 = .ok (.invokestatic 85, 3) := by decide +kernel
theorem hx_d_Teller_sRecords_30 : decode hx_c_Teller_sRecords 30 = .ok (.invokestatic 91, 3) := by decide +kernel
theorem hx_d_Teller_sRecords_33 : decode hx_c_Teller_sRecords 33 = .ok (.istore 7, 2) := by decide +kernel
theorem hx_d_Teller_sRecords_35 : decode hx_c_Teller_sRecords 35 = .ok (.aload_n 0, 1) := by decide +kernel
theorem hx_d_Teller_sRecords_36 : decode hx_c_Teller_sRecords 36 = .ok (.iconst 0, 1) := by decide +kernel
theorem hx_d_Teller_sRecords_37 : decode hx_c_Teller_sRecords 37 = .ok (.iconst 0, 1) := by decide +kernel
theorem hx_d_Teller_sRecords_38 : decode hx_c_Teller_sRecords 38 = .ok (.iconst 2, 1) := by decide +kernel
theorem hx_d_Teller_sRecords_39 : decode hx_c_Teller_sRecords 39 = .ok (.lconst 0, 1) := by decide +kernel
theorem hx_d_Teller_sRecords_40 : decode hx_c_Teller_sRecords 40 = .ok (.invokevirtual 95, 3) := by decide +kernel
theorem hx_d_Teller_sRecords_43 : decode hx_c_Teller_sRecords 43 = .ok (.aload_n 0, 1) := by decide +kernel
theorem hx_d_Teller_sRecords_44 : decode hx_c_Teller_sRecords 44 = .ok (.invokevirtual 99, 3) := by decide +kernel
theorem hx_d_Teller_sRecords_47 : decode hx_c_Teller_sRecords 47 = .ok (.iconst 0, 1) := by decide +kernel
theorem hx_d_Teller_sRecords_48 : decode hx_c_Teller_sRecords 48 = .ok (.istore 8, 2) := by decide +kernel
theorem hx_d_Teller_sRecords_50 : decode hx_c_Teller_sRecords 50 = .ok (.iconst 0, 1) := by decide +kernel
theorem hx_d_Teller_sRecords_51 : decode hx_c_Teller_sRecords 51 = .ok (.istore 9, 2) := by decide +kernel
theorem hx_d_Teller_sRecords_53 : decode hx_c_Teller_sRecords 53 = .ok (.iconst 1, 1) := by decide +kernel
theorem hx_d_Teller_sRecords_54 : decode hx_c_Teller_sRecords 54 = .ok (.istore 10, 2) := by decide +kernel
theorem hx_d_Teller_sRecords_56 : decode hx_c_Teller_sRecords 56 = .ok (.iload 10, 2) := by decide +kernel
theorem hx_d_Teller_sRecords_58 : decode hx_c_Teller_sRecords 58 = .ok (.aload_n 1, 1) := by decide +kernel
theorem hx_d_Teller_sRecords_59 : decode hx_c_Teller_sRecords 59 = .ok (.invokevirtual 40, 3) := by decide +kernel
theorem hx_d_Teller_sRecords_62 : decode hx_c_Teller_sRecords 62 = .ok (.if_icmp .gt 82, 3) := by decide +kernel
theorem hx_d_Teller_sRecords_65 : decode hx_c_Teller_sRecords 65 = .ok (.aload_n 0, 1) := by decide +kernel
theorem hx_d_Teller_sRecords_66 : decode hx_c_Teller_sRecords 66 = .ok (.getfield 19, 3) := by decide +kernel
theorem hx_d_Teller_sRecords_69 : decode hx_c_Teller_sRecords 69 = .ok (.sipush 12000, 3) := by decide +kernel
theorem hx_d_Teller_sRecords_72 : decode hx_c_Teller_sRecords 72 = .ok (.if_icmp .gt 72, 3) := by decide +kernel
theorem hx_d_Teller_sRecords_75 : decode hx_c_Teller_sRecords 75 = .ok (.iload 10, 2) := by decide +kernel
theorem hx_d_Teller_sRecords_77 : decode hx_c_Teller_sRecords 77 = .ok (.iload 9, 2) := by decide +kernel
theorem hx_d_Teller_sRecords_79 : decode hx_c_Teller_sRecords 79 = .ok (.isub, 1) := by decide +kernel
theorem hx_d_Teller_sRecords_80 : decode hx_c_Teller_sRecords 80 = .ok (.iload 4, 2) := by decide +kernel
theorem hx_d_Teller_sRecords_82 : decode hx_c_Teller_sRecords 82 = .ok (.if_icmp .eq 12, 3) := by decide +kernel
theorem hx_d_Teller_sRecords_85 : decode hx_c_Teller_sRecords 85 = .ok (.aload_n 1, 1) := by decide +kernel
theorem hx_d_Teller_sRecords_86 : decode hx_c_Teller_sRecords 86 = .ok (.iload 10, 2) := by decide +kernel
theorem hx_d_Teller_sRecords_88 : decode hx_c_Teller_sRecords 88 = .ok (.invokevirtual 52, 3) := by decide +kernel
theorem hx_d_Teller_sRecords_91 : decode hx_c_Teller_sRecords 91 = .ok (.ifCond .ne 47, 3) := by decide +kernel
theorem hx_d_Teller_sRecords_94 : decode hx_c_Teller_sRecords 94 = .ok (.aload_n 0, 1) := by decide +kernel
theorem hx_d_Teller_sRecords_95 : decode hx_c_Teller_sRecords 95 = .ok (.iload 7, 2) := by decide +kernel
theorem hx_d_Teller_sRecords_97 : decode hx_c_Teller_sRecords 97 = .ok (.iload 10, 2) := by decide +kernel
theorem hx_d_Teller_sRecords_99 : decode hx_c_Teller_sRecords 99 = .ok (.iload 9, 2) := by decide +kernel
theorem hx_d_Teller_sRecords_101 : decode hx_c_Teller_sRecords 101 = .ok (.isub, 1) := by decide +kernel
theorem hx_d_Teller_sRecords_102 : decode hx_c_Teller_sRecords 102 = .ok (.iload 7, 2) := by decide +kernel
theorem hx_d_Teller_sRecords_104 : decode hx_c_Teller_sRecords 104 = .ok (.iconst 1, 1) := by decide +kernel
theorem hx_d_Teller_sRecords_105 : decode hx_c_Teller_sRecords 105 = .ok (.iadd, 1) := by decide +kernel
theorem hx_d_Teller_sRecords_106 : decode hx_c_Teller_sRecords 106 = .ok (.aload_n 1, 1) := by decide +kernel
theorem hx_d_Teller_sRecords_107 : decode hx_c_Teller_sRecords 107 = .ok (.iload 9, 2) := by decide +kernel
theorem hx_d_Teller_sRecords_109 : decode hx_c_Teller_sRecords 109 = .ok (.invokevirtual 46, 3) := by decide +kernel
theorem hx_d_Teller_sRecords_112 : decode hx_c_Teller_sRecords 112 = .ok (.invokevirtual 95, 3) := by decide +kernel
theorem hx_d_Teller_sRecords_115 : decode hx_c_Teller_sRecords 115 = .ok (.aload_n 0, 1) := by decide +kernel
theorem hx_d_Teller_sRecords_116 : decode hx_c_Teller_sRecords 116 = .ok (.aload_n 1, 1) := by decide +kernel
theorem hx_d_Teller_sRecords_117 : decode hx_c_Teller_sRecords 117 = .ok (.iload 9, 2) := by decide +kernel
theorem hx_d_Teller_sRecords_119 : decode hx_c_Teller_sRecords 119 = .ok (.iload 10, 2) := by decide +kernel
theorem hx_d_Teller_sRecords_121 : decode hx_c_Teller_sRecords 121 = .ok (.iload 9, 2) := by decide +kernel
theorem hx_d_Teller_sRecords_123 : decode hx_c_Teller_sRecords 123 = .ok (.isub, 1) := by decide +kernel
theorem hx_d_Teller_sRecords_124 : decode hx_c_Teller_sRecords 124 = .ok (.invokevirtual 74, 3) := by decide +kernel
theorem hx_d_Teller_sRecords_127 : decode hx_c_Teller_sRecords 127 = .ok (.aload_n 0, 1) := by decide +kernel
theorem hx_d_Teller_sRecords_128 : decode hx_c_Teller_sRecords 128 = .ok (.invokevirtual 99, 3) := by decide +kernel
theorem hx_d_Teller_sRecords_131 : decode hx_c_Teller_sRecords 131 = .ok (.iinc 8 1, 3) := by decide +kernel
theorem hx_d_Teller_sRecords_134 : decode hx_c_Teller_sRecords 134 = .ok (.iload 10, 2) := by decide +kernel
theorem hx_d_Teller_sRecords_136 : decode hx_c_Teller_sRecords 136 = .ok (.istore 9, 2) := by decide +kernel
theorem hx_d_Teller_sRecords_138 : decode hx_c_Teller_sRecords 138 = .ok (.iinc 10 1, 3) := by decide +kernel
theorem hx_d_Teller_sRecords_141 : decode hx_c_Teller_sRecords 141 = .ok (.goto (-85), 3) := by decide +kernel
theorem hx_d_Teller_sRecords_144 : decode hx_c_Teller_sRecords 144 = .ok (.aload_n 0, 1) := by decide +kernel
theorem hx_d_Teller_sRecords_145 : decode hx_c_Teller_sRecords 145 = .ok (.iconst 5, 1) := by decide +kernel
theorem hx_d_Teller_sRecords_146 : decode hx_c_Teller_sRecords 146 = .ok (.iconst 0, 1) := by decide +kernel
theorem hx_d_Teller_sRecords_147 : decode hx_c_Teller_sRecords 147 = .ok (.iconst 2, 1) := by decide +kernel
theorem hx_d_Teller_sRecords_148 : decode hx_c_Teller_sRecords 148 = .ok (.iload 8, 2) := by decide +kernel
theorem hx_d_Teller_sRecords_150 : decode hx_c_Teller_sRecords 150 = .ok (.i2l, 1) := by decide +kernel
theorem hx_d_Teller_sRecords_151 : decode hx_c_Teller_sRecords 151 = .ok (.invokevirtual 95, 3) := by decide +kernel
theorem hx_d_Teller_sRecords_154 : decode hx_c_Teller_sRecords 154 = .ok (.aload_n 0, 1) := by decide +kernel
theorem hx_d_Teller_sRecords_155 : decode hx_c_Teller_sRecords 155 = .ok (.invokevirtual 99, 3) := by decide +kernel
theorem hx_d_Teller_sRecords_158 : decode hx_c_Teller_sRecords 158 = .ok (.aload_n 0, 1) := by decide +kernel
theorem hx_d_Teller_sRecords_159 : decode hx_c_Teller_sRecords 159 = .ok (.bipush 10, 2) := by decide +kernel
theorem hx_d_Teller_sRecords_161 : decode hx_c_Teller_sRecords 161 = .ok (.iload 7, 2) := by decide +kernel
theorem hx_d_Teller_sRecords_163 : decode hx_c_Teller_sRecords 163 = .ok (.isub, 1) := by decide +kernel
theorem hx_d_Teller_sRecords_164 : decode hx_c_Teller_sRecords 164 = .ok (.iconst 0, 1) := by decide +kernel
theorem hx_d_Teller_sRecords_165 : decode hx_c_Teller_sRecords 165 = .ok (.iload 7, 2) := by decide +kernel
theorem hx_d_Teller_sRecords_167 : decode hx_c_Teller_sRecords 167 = .ok (.iconst 1, 1) := by decide +kernel
theorem hx_d_Teller_sRecords_168 : decode hx_c_Teller_sRecords 168 = .ok (.iadd, 1) := by decide +kernel
theorem hx_d_Teller_sRecords_169 : decode hx_c_Teller_sRecords 169 = .ok (.lload 5, 2) := by decide +kernel
theorem hx_d_Teller_sRecords_171 : decode hx_c_Teller_sRecords 171 = .ok (.invokevirtual 95, 3) := by decide +kernel
theorem hx_d_Teller_sRecords_174 : decode hx_c_Teller_sRecords 174 = .ok (.aload_n 0, 1) := by decide +kernel
theorem hx_d_Teller_sRecords_175 : decode hx_c_Teller_sRecords 175 = .ok (.invokevirtual 99, 3) := by decide +kernel
theorem hx_d_Teller_sRecords_178 : decode hx_c_Teller_sRecords 178 = .ok (.return_, 1) := by decide +kernel
theorem hx_d_Math_max_0 : decode hx_c_Math_max 0 = .ok (.lload_n 0, 1) := by decide +kernel
theorem hx_d_Math_max_1 : decode hx_c_Math_max 1 = .ok (.lload_n 2, 1) := by decide +kernel
theorem hx_d_Math_max_2 : decode hx_c_Math_max 2 = .ok (.lcmp, 1) := by decide +kernel
theorem hx_d_Math_max_3 : decode hx_c_Math_max 3 = .ok (.ifCond .lt 7, 3) := by decide +kernel
theorem hx_d_Math_max_6 : decode hx_c_Math_max 6 = .ok (.lload_n 0, 1) := by decide +kernel
theorem hx_d_Math_max_7 : decode hx_c_Math_max 7 = .ok (.goto 4, 3) := by decide +kernel
theorem hx_d_Math_max_10 : decode hx_c_Math_max 10 = .ok (.lload_n 2, 1) := by decide +kernel
theorem hx_d_Math_max_11 : decode hx_c_Math_max 11 = .ok (.lreturn, 1) := by decide +kernel
theorem hx_d_Teller_typeFor_0 : decode hx_c_Teller_typeFor 0 = .ok (.lload_n 0, 1) := by decide +kernel
theorem hx_d_Teller_typeFor_1 : decode hx_c_Teller_typeFor 1 = .ok (.ldc2_w 50, 3) := by decide +kernel
theorem hx_d_Teller_typeFor_4 : decode hx_c_Teller_typeFor 4 = .ok (.lcmp, 1) := by decide +kernel
theorem hx_d_Teller_typeFor_5 : decode hx_c_Teller_typeFor 5 = .ok (.ifCond .gt 5, 3) := by decide +kernel
theorem hx_d_Teller_typeFor_8 : decode hx_c_Teller_typeFor 8 = .ok (.iconst 1, 1) := by decide +kernel
theorem hx_d_Teller_typeFor_9 : decode hx_c_Teller_typeFor 9 = .ok (.ireturn, 1) := by decide +kernel
theorem hx_d_Teller_typeFor_10 : decode hx_c_Teller_typeFor 10 = .ok (.lload_n 0, 1) := by decide +kernel
theorem hx_d_Teller_typeFor_11 : decode hx_c_Teller_typeFor 11 = .ok (.ldc2_w 102, 3) := by decide +kernel
theorem hx_d_Teller_typeFor_14 : decode hx_c_Teller_typeFor 14 = .ok (.lcmp, 1) := by decide +kernel
theorem hx_d_Teller_typeFor_15 : decode hx_c_Teller_typeFor 15 = .ok (.ifCond .gt 7, 3) := by decide +kernel
theorem hx_d_Teller_typeFor_18 : decode hx_c_Teller_typeFor 18 = .ok (.iconst 2, 1) := by decide +kernel
theorem hx_d_Teller_typeFor_19 : decode hx_c_Teller_typeFor 19 = .ok (.goto 4, 3) := by decide +kernel
theorem hx_d_Teller_typeFor_22 : decode hx_c_Teller_typeFor 22 = .ok (.iconst 3, 1) := by decide +kernel
theorem hx_d_Teller_typeFor_23 : decode hx_c_Teller_typeFor 23 = .ok (.ireturn, 1) := by decide +kernel
theorem hx_d_Teller_openS_0 : decode hx_c_Teller_openS 0 = .ok (.aload_n 0, 1) := by decide +kernel
theorem hx_d_Teller_openS_1 : decode hx_c_Teller_openS 1 = .ok (.bipush 83, 2) := by decide +kernel
theorem hx_d_Teller_openS_3 : decode hx_c_Teller_openS 3 = .ok (.invokevirtual 77, 3) := by decide +kernel
theorem hx_d_Teller_openS_6 : decode hx_c_Teller_openS 6 = .ok (.aload_n 0, 1) := by decide +kernel
theorem hx_d_Teller_openS_7 : decode hx_c_Teller_openS 7 = .ok (.bipush 48, 2) := by decide +kernel
theorem hx_d_Teller_openS_9 : decode hx_c_Teller_openS 9 = .ok (.iload_n 1, 1) := by decide +kernel
theorem hx_d_Teller_openS_10 : decode hx_c_Teller_openS 10 = .ok (.iadd, 1) := by decide +kernel
theorem hx_d_Teller_openS_11 : decode hx_c_Teller_openS 11 = .ok (.invokevirtual 104, 3) := by decide +kernel
theorem hx_d_Teller_openS_14 : decode hx_c_Teller_openS 14 = .ok (.aload_n 0, 1) := by decide +kernel
theorem hx_d_Teller_openS_15 : decode hx_c_Teller_openS 15 = .ok (.iload_n 3, 1) := by decide +kernel
theorem hx_d_Teller_openS_16 : decode hx_c_Teller_openS 16 = .ok (.iload_n 2, 1) := by decide +kernel
theorem hx_d_Teller_openS_17 : decode hx_c_Teller_openS 17 = .ok (.iadd, 1) := by decide +kernel
theorem hx_d_Teller_openS_18 : decode hx_c_Teller_openS 18 = .ok (.iconst 1, 1) := by decide +kernel
theorem hx_d_Teller_openS_19 : decode hx_c_Teller_openS 19 = .ok (.iadd, 1) := by decide +kernel
theorem hx_d_Teller_openS_20 : decode hx_c_Teller_openS 20 = .ok (.invokevirtual 81, 3) := by decide +kernel
theorem hx_d_Teller_openS_23 : decode hx_c_Teller_openS 23 = .ok (.aload_n 0, 1) := by decide +kernel
theorem hx_d_Teller_openS_24 : decode hx_c_Teller_openS 24 = .ok (.lload 4, 2) := by decide +kernel
theorem hx_d_Teller_openS_26 : decode hx_c_Teller_openS 26 = .ok (.iload_n 3, 1) := by decide +kernel
theorem hx_d_Teller_openS_27 : decode hx_c_Teller_openS 27 = .ok (.invokevirtual 66, 3) := by decide +kernel
theorem hx_d_Teller_openS_30 : decode hx_c_Teller_openS 30 = .ok (.return_, 1) := by decide +kernel
theorem hx_d_Teller_closeS_0 : decode hx_c_Teller_closeS 0 = .ok (.aload_n 0, 1) := by decide +kernel
theorem hx_d_Teller_closeS_1 : decode hx_c_Teller_closeS 1 = .ok (.aload_n 0, 1) := by decide +kernel
theorem hx_d_Teller_closeS_2 : decode hx_c_Teller_closeS 2 = .ok (.getfield 26, 3) := by decide +kernel
theorem hx_d_Teller_closeS_5 : decode hx_c_Teller_closeS 5 = .ok (.iconst (-1), 1) := by decide +kernel
theorem hx_d_Teller_closeS_6 : decode hx_c_Teller_closeS 6 = .ok (.ixor, 1) := by decide +kernel
theorem hx_d_Teller_closeS_7 : decode hx_c_Teller_closeS 7 = .ok (.sipush 255, 3) := by decide +kernel
theorem hx_d_Teller_closeS_10 : decode hx_c_Teller_closeS 10 = .ok (.iand, 1) := by decide +kernel
theorem hx_d_Teller_closeS_11 : decode hx_c_Teller_closeS 11 = .ok (.invokevirtual 81, 3) := by decide +kernel
theorem hx_d_Teller_closeS_14 : decode hx_c_Teller_closeS 14 = .ok (.return_, 1) := by decide +kernel
theorem hx_d_Loom_character_0 : decode hx_c_Loom_character 0 = .ok (.aload_n 0, 1) := by decide +kernel
theorem hx_d_Loom_character_1 : decode hx_c_Loom_character 1 = .ok (.getfield 47, 3) := by decide +kernel
theorem hx_d_Loom_character_4 : decode hx_c_Loom_character 4 = .ok (.iload_n 1, 1) := by decide +kernel
theorem hx_d_Loom_character_5 : decode hx_c_Loom_character 5 = .ok (.invokevirtual 130, 3) := by decide +kernel
theorem hx_d_Loom_character_8 : decode hx_c_Loom_character 8 = .ok (.ireturn, 1) := by decide +kernel
theorem hx_d_Teller_characterAt_0 : decode hx_c_Teller_characterAt 0 = .ok (.iload_n 1, 1) := by decide +kernel
theorem hx_d_Teller_characterAt_1 : decode hx_c_Teller_characterAt 1 = .ok (.ifCond .lt 20, 3) := by decide +kernel
theorem hx_d_Teller_characterAt_4 : decode hx_c_Teller_characterAt 4 = .ok (.iload_n 1, 1) := by decide +kernel
theorem hx_d_Teller_characterAt_5 : decode hx_c_Teller_characterAt 5 = .ok (.aload_n 0, 1) := by decide +kernel
theorem hx_d_Teller_characterAt_6 : decode hx_c_Teller_characterAt 6 = .ok (.getfield 15, 3) := by decide +kernel
theorem hx_d_Teller_characterAt_9 : decode hx_c_Teller_characterAt 9 = .ok (.if_icmp .ge 12, 3) := by decide +kernel
theorem hx_d_Teller_characterAt_12 : decode hx_c_Teller_characterAt 12 = .ok (.aload_n 0, 1) := by decide +kernel
theorem hx_d_Teller_characterAt_13 : decode hx_c_Teller_characterAt 13 = .ok (.getfield 9, 3) := by decide +kernel
theorem hx_d_Teller_characterAt_16 : decode hx_c_Teller_characterAt 16 = .ok (.iload_n 1, 1) := by decide +kernel
theorem hx_d_Teller_characterAt_17 : decode hx_c_Teller_characterAt 17 = .ok (.baload, 1) := by decide +kernel
theorem hx_d_Teller_characterAt_18 : decode hx_c_Teller_characterAt 18 = .ok (.goto 4, 3) := by decide +kernel
theorem hx_d_Teller_characterAt_21 : decode hx_c_Teller_characterAt 21 = .ok (.iconst (-1), 1) := by decide +kernel
theorem hx_d_Teller_characterAt_22 : decode hx_c_Teller_characterAt 22 = .ok (.ireturn, 1) := by decide +kernel
theorem hx_d_Loom_check_0 : decode hx_c_Loom_check 0 = .ok (.aload_n 0, 1) := by decide +kernel
theorem hx_d_Loom_check_1 : decode hx_c_Loom_check 1 = .ok (.getfield 10, 3) := by decide +kernel
theorem hx_d_Loom_check_4 : decode hx_c_Loom_check 4 = .ok (.invokevirtual 133, 3) := by decide +kernel
theorem hx_d_Loom_check_7 : decode hx_c_Loom_check 7 = .ok (.ifCond .eq 7, 3) := by decide +kernel
theorem hx_d_Loom_check_10 : decode hx_c_Loom_check 10 = .ok (.iconst 1, 1) := by decide +kernel
theorem hx_d_Loom_check_11 : decode hx_c_Loom_check 11 = .ok (.goto 4, 3) := by decide +kernel
theorem hx_d_Loom_check_14 : decode hx_c_Loom_check 14 = .ok (.iconst 0, 1) := by decide +kernel
theorem hx_d_Loom_check_15 : decode hx_c_Loom_check 15 = .ok (.ireturn, 1) := by decide +kernel
theorem hx_d_Image_isSound_0 : decode hx_c_Image_isSound 0 = .ok (.aload_n 0, 1) := by decide +kernel
theorem hx_d_Image_isSound_1 : decode hx_c_Image_isSound 1 = .ok (.getfield 25, 3) := by decide +kernel
theorem hx_d_Image_isSound_4 : decode hx_c_Image_isSound 4 = .ok (.ifCond .lt 13, 3) := by decide +kernel
theorem hx_d_Image_isSound_7 : decode hx_c_Image_isSound 7 = .ok (.aload_n 0, 1) := by decide +kernel
theorem hx_d_Image_isSound_8 : decode hx_c_Image_isSound 8 = .ok (.getfield 25, 3) := by decide +kernel
theorem hx_d_Image_isSound_11 : decode hx_c_Image_isSound 11 = .ok (.sipush 3000, 3) := by decide +kernel
theorem hx_d_Image_isSound_14 : decode hx_c_Image_isSound 14 = .ok (.if_icmp .le 5, 3) := by decide +kernel
theorem hx_d_Image_isSound_17 : decode hx_c_Image_isSound 17 = .ok (.iconst 0, 1) := by decide +kernel
theorem hx_d_Image_isSound_18 : decode hx_c_Image_isSound 18 = .ok (.ireturn, 1) := by decide +kernel
theorem hx_d_Image_isSound_19 : decode hx_c_Image_isSound 19 = .ok (.ldc2_w 29, 3) := by decide +kernel
theorem hx_d_Image_isSound_22 : decode hx_c_Image_isSound 22 = .ok (.lstore_n 1, 1) := by decide +kernel
theorem hx_d_Image_isSound_23 : decode hx_c_Image_isSound 23 = .ok (.iconst 0, 1) := by decide +kernel
theorem hx_d_Image_isSound_24 : decode hx_c_Image_isSound 24 = .ok (.istore_n 3, 1) := by decide +kernel
theorem hx_d_Image_isSound_25 : decode hx_c_Image_isSound 25 = .ok (.iload_n 3, 1) := by decide +kernel
theorem hx_d_Image_isSound_26 : decode hx_c_Image_isSound 26 = .ok (.aload_n 0, 1) := by decide +kernel
theorem hx_d_Image_isSound_27 : decode hx_c_Image_isSound 27 = .ok (.getfield 25, 3) := by decide +kernel
theorem hx_d_Image_isSound_30 : decode hx_c_Image_isSound 30 = .ok (.if_icmp .ge 50, 3) := by decide +kernel
theorem hx_d_Image_isSound_33 : decode hx_c_Image_isSound 33 = .ok (.aload_n 0, 1) := by decide +kernel
theorem hx_d_Image_isSound_34 : decode hx_c_Image_isSound 34 = .ok (.getfield 9, 3) := by decide +kernel
theorem hx_d_Image_isSound_37 : decode hx_c_Image_isSound 37 = .ok (.iload_n 3, 1) := by decide +kernel
theorem hx_d_Image_isSound_38 : decode hx_c_Image_isSound 38 = .ok (.laload, 1) := by decide +kernel
theorem hx_d_Image_isSound_39 : decode hx_c_Image_isSound 39 = .ok (.lload_n 1, 1) := by decide +kernel
theorem hx_d_Image_isSound_40 : decode hx_c_Image_isSound 40 = .ok (.lcmp, 1) := by decide +kernel
theorem hx_d_Image_isSound_41 : decode hx_c_Image_isSound 41 = .ok (.ifCond .le 24, 3) := by decide +kernel
theorem hx_d_Image_isSound_44 : decode hx_c_Image_isSound 44 = .ok (.aload_n 0, 1) := by decide +kernel
theorem hx_d_Image_isSound_45 : decode hx_c_Image_isSound 45 = .ok (.getfield 15, 3) := by decide +kernel
theorem hx_d_Image_isSound_48 : decode hx_c_Image_isSound 48 = .ok (.iload_n 3, 1) := by decide +kernel
theorem hx_d_Image_isSound_49 : decode hx_c_Image_isSound 49 = .ok (.iaload, 1) := by decide +kernel
theorem hx_d_Image_isSound_50 : decode hx_c_Image_isSound 50 = .ok (.ifCond .lt 15, 3) := by decide +kernel
theorem hx_d_Image_isSound_53 : decode hx_c_Image_isSound 53 = .ok (.aload_n 0, 1) := by decide +kernel
theorem hx_d_Image_isSound_54 : decode hx_c_Image_isSound 54 = .ok (.getfield 15, 3) := by decide +kernel
theorem hx_d_Image_isSound_57 : decode hx_c_Image_isSound 57 = .ok (.iload_n 3, 1) := by decide +kernel
theorem hx_d_Image_isSound_58 : decode hx_c_Image_isSound 58 = .ok (.iaload, 1) := by decide +kernel
theorem hx_d_Image_isSound_59 : decode hx_c_Image_isSound 59 = .ok (.sipush 255, 3) := by decide +kernel
theorem hx_d_Image_isSound_62 : decode hx_c_Image_isSound 62 = .ok (.if_icmp .le 5, 3) := by decide +kernel
theorem hx_d_Image_isSound_65 : decode hx_c_Image_isSound 65 = .ok (.iconst 0, 1) := by decide +kernel
theorem hx_d_Image_isSound_66 : decode hx_c_Image_isSound 66 = .ok (.ireturn, 1) := by decide +kernel
theorem hx_d_Image_isSound_67 : decode hx_c_Image_isSound 67 = .ok (.aload_n 0, 1) := by decide +kernel
theorem hx_d_Image_isSound_68 : decode hx_c_Image_isSound 68 = .ok (.getfield 9, 3) := by decide +kernel
theorem hx_d_Image_isSound_71 : decode hx_c_Image_isSound 71 = .ok (.iload_n 3, 1) := by decide +kernel
theorem hx_d_Image_isSound_72 : decode hx_c_Image_isSound 72 = .ok (.laload, 1) := by decide +kernel
theorem hx_d_Image_isSound_73 : decode hx_c_Image_isSound 73 = .ok (.lstore_n 1, 1) := by decide +kernel
theorem hx_d_Image_isSound_74 : decode hx_c_Image_isSound 74 = .ok (.iinc 3 1, 3) := by decide +kernel
theorem hx_d_Image_isSound_77 : decode hx_c_Image_isSound 77 = .ok (.goto (-52), 3) := by decide +kernel
theorem hx_d_Image_isSound_80 : decode hx_c_Image_isSound 80 = .ok (.lload_n 1, 1) := by decide +kernel
theorem hx_d_Image_isSound_81 : decode hx_c_Image_isSound 81 = .ok (.ldc2_w 62, 3) := by decide +kernel
theorem hx_d_Image_isSound_84 : decode hx_c_Image_isSound 84 = .ok (.lcmp, 1) := by decide +kernel
theorem hx_d_Image_isSound_85 : decode hx_c_Image_isSound 85 = .ok (.ifCond .gt 7, 3) := by decide +kernel
theorem hx_d_Image_isSound_88 : decode hx_c_Image_isSound 88 = .ok (.iconst 1, 1) := by decide +kernel
theorem hx_d_Image_isSound_89 : decode hx_c_Image_isSound 89 = .ok (.goto 4, 3) := by decide +kernel
theorem hx_d_Image_isSound_92 : decode hx_c_Image_isSound 92 = .ok (.iconst 0, 1) := by decide +kernel
theorem hx_d_Image_isSound_93 : decode hx_c_Image_isSound 93 = .ok (.ireturn, 1) := by decide +kernel
theorem hx_d_Model_init_0 : decode hx_c_Model_init 0 = .ok (.aload_n 0, 1) := by decide +kernel
theorem hx_d_Model_init_1 : decode hx_c_Model_init 1 = .ok (.invokespecial 1, 3) := by decide +kernel
theorem hx_d_Model_init_4 : decode hx_c_Model_init 4 = .ok (.aload_n 0, 1) := by decide +kernel
theorem hx_d_Model_init_5 : decode hx_c_Model_init 5 = .ok (.sipush 3001, 3) := by decide +kernel
theorem hx_d_Model_init_8 : decode hx_c_Model_init 8 = .ok (.newarray .long, 2) := by decide +kernel
theorem hx_d_Model_init_10 : decode hx_c_Model_init 10 = .ok (.putfield 7, 3) := by decide +kernel
theorem hx_d_Model_init_13 : decode hx_c_Model_init 13 = .ok (.aload_n 0, 1) := by decide +kernel
theorem hx_d_Model_init_14 : decode hx_c_Model_init 14 = .ok (.sipush 3001, 3) := by decide +kernel
theorem hx_d_Model_init_17 : decode hx_c_Model_init 17 = .ok (.newarray .int, 2) := by decide +kernel
theorem hx_d_Model_init_19 : decode hx_c_Model_init 19 = .ok (.putfield 13, 3) := by decide +kernel
theorem hx_d_Model_init_22 : decode hx_c_Model_init 22 = .ok (.aload_n 0, 1) := by decide +kernel
theorem hx_d_Model_init_23 : decode hx_c_Model_init 23 = .ok (.sipush 8000, 3) := by decide +kernel
theorem hx_d_Model_init_26 : decode hx_c_Model_init 26 = .ok (.newarray .byte, 2) := by decide +kernel
theorem hx_d_Model_init_28 : decode hx_c_Model_init 28 = .ok (.putfield 17, 3) := by decide +kernel
theorem hx_d_Model_init_31 : decode hx_c_Model_init 31 = .ok (.aload_n 0, 1) := by decide +kernel
theorem hx_d_Model_init_32 : decode hx_c_Model_init 32 = .ok (.iconst (-1), 1) := by decide +kernel
theorem hx_d_Model_init_33 : decode hx_c_Model_init 33 = .ok (.putfield 21, 3) := by decide +kernel
theorem hx_d_Model_init_36 : decode hx_c_Model_init 36 = .ok (.aload_n 0, 1) := by decide +kernel
theorem hx_d_Model_init_37 : decode hx_c_Model_init 37 = .ok (.sipush 4100, 3) := by decide +kernel
theorem hx_d_Model_init_40 : decode hx_c_Model_init 40 = .ok (.newarray .long, 2) := by decide +kernel
theorem hx_d_Model_init_42 : decode hx_c_Model_init 42 = .ok (.putfield 25, 3) := by decide +kernel
theorem hx_d_Model_init_45 : decode hx_c_Model_init 45 = .ok (.aload_n 0, 1) := by decide +kernel
theorem hx_d_Model_init_46 : decode hx_c_Model_init 46 = .ok (.sipush 4100, 3) := by decide +kernel
theorem hx_d_Model_init_49 : decode hx_c_Model_init 49 = .ok (.newarray .int, 2) := by decide +kernel
theorem hx_d_Model_init_51 : decode hx_c_Model_init 51 = .ok (.putfield 28, 3) := by decide +kernel
theorem hx_d_Model_init_54 : decode hx_c_Model_init 54 = .ok (.aload_n 0, 1) := by decide +kernel
theorem hx_d_Model_init_55 : decode hx_c_Model_init 55 = .ok (.sipush 4100, 3) := by decide +kernel
theorem hx_d_Model_init_58 : decode hx_c_Model_init 58 = .ok (.newarray .int, 2) := by decide +kernel
theorem hx_d_Model_init_60 : decode hx_c_Model_init 60 = .ok (.putfield 31, 3) := by decide +kernel
theorem hx_d_Model_init_63 : decode hx_c_Model_init 63 = .ok (.aload_n 0, 1) := by decide +kernel
theorem hx_d_Model_init_64 : decode hx_c_Model_init 64 = .ok (.sipush 256, 3) := by decide +kernel
theorem hx_d_Model_init_67 : decode hx_c_Model_init 67 = .ok (.newarray .int, 2) := by decide +kernel
theorem hx_d_Model_init_69 : decode hx_c_Model_init 69 = .ok (.putfield 34, 3) := by decide +kernel
theorem hx_d_Model_init_72 : decode hx_c_Model_init 72 = .ok (.aload_n 0, 1) := by decide +kernel
theorem hx_d_Model_init_73 : decode hx_c_Model_init 73 = .ok (.sipush 12000, 3) := by decide +kernel
theorem hx_d_Model_init_76 : decode hx_c_Model_init 76 = .ok (.newarray .byte, 2) := by decide +kernel
theorem hx_d_Model_init_78 : decode hx_c_Model_init 78 = .ok (.putfield 37, 3) := by decide +kernel
theorem hx_d_Model_init_81 : decode hx_c_Model_init 81 = .ok (.aload_n 0, 1) := by decide +kernel
theorem hx_d_Model_init_82 : decode hx_c_Model_init 82 = .ok (.sipush 12000, 3) := by decide +kernel
theorem hx_d_Model_init_85 : decode hx_c_Model_init 85 = .ok (.newarray .byte, 2) := by decide +kernel
theorem hx_d_Model_init_87 : decode hx_c_Model_init 87 = .ok (.putfield 40, 3) := by decide +kernel
theorem hx_d_Model_init_90 : decode hx_c_Model_init 90 = .ok (.return_, 1) := by decide +kernel
theorem hx_d_Model_type_0 : decode hx_c_Model_type 0 = .ok (.aload_n 0, 1) := by decide +kernel
theorem hx_d_Model_type_1 : decode hx_c_Model_type 1 = .ok (.iconst 0, 1) := by decide +kernel
theorem hx_d_Model_type_2 : decode hx_c_Model_type 2 = .ok (.putfield 43, 3) := by decide +kernel
theorem hx_d_Model_type_5 : decode hx_c_Model_type 5 = .ok (.iload_n 3, 1) := by decide +kernel
theorem hx_d_Model_type_6 : decode hx_c_Model_type 6 = .ok (.iconst 1, 1) := by decide +kernel
theorem hx_d_Model_type_7 : decode hx_c_Model_type 7 = .ok (.if_icmp .lt 25, 3) := by decide +kernel
theorem hx_d_Model_type_10 : decode hx_c_Model_type 10 = .ok (.iload_n 3, 1) := by decide +kernel
theorem hx_d_Model_type_11 : decode hx_c_Model_type 11 = .ok (.bipush 8, 2) := by decide +kernel
theorem hx_d_Model_type_13 : decode hx_c_Model_type 13 = .ok (.if_icmp .gt 19, 3) := by decide +kernel
theorem hx_d_Model_type_16 : decode hx_c_Model_type 16 = .ok (.aload_n 0, 1) := by decide +kernel
theorem hx_d_Model_type_17 : decode hx_c_Model_type 17 = .ok (.getfield 48, 3) := by decide +kernel
theorem hx_d_Model_type_20 : decode hx_c_Model_type 20 = .ok (.iload_n 3, 1) := by decide +kernel
theorem hx_d_Model_type_21 : decode hx_c_Model_type 21 = .ok (.iadd, 1) := by decide +kernel
theorem hx_d_Model_type_22 : decode hx_c_Model_type 22 = .ok (.sipush 8000, 3) := by decide +kernel
theorem hx_d_Model_type_25 : decode hx_c_Model_type 25 = .ok (.if_icmp .gt 7, 3) := by decide +kernel
theorem hx_d_Model_type_28 : decode hx_c_Model_type 28 = .ok (.iconst 1, 1) := by decide +kernel
theorem hx_d_Model_type_29 : decode hx_c_Model_type 29 = .ok (.goto 4, 3) := by decide +kernel
theorem hx_d_Model_type_32 : decode hx_c_Model_type 32 = .ok (.iconst 0, 1) := by decide +kernel
theorem hx_d_Model_type_33 : decode hx_c_Model_type 33 = .ok (.istore 4, 2) := by decide +kernel
theorem hx_d_Model_type_35 : decode hx_c_Model_type 35 = .ok (.iconst 0, 1) := by decide +kernel
theorem hx_d_Model_type_36 : decode hx_c_Model_type 36 = .ok (.istore 5, 2) := by decide +kernel
theorem hx_d_Model_type_38 : decode hx_c_Model_type 38 = .ok (.iload 4, 2) := by decide +kernel
theorem hx_d_Model_type_40 : decode hx_c_Model_type 40 = .ok (.ifCond .eq 53, 3) := by decide +kernel
theorem hx_d_Model_type_43 : decode hx_c_Model_type 43 = .ok (.iload 5, 2) := by decide +kernel
theorem hx_d_Model_type_45 : decode hx_c_Model_type 45 = .ok (.iload_n 3, 1) := by decide +kernel
theorem hx_d_Model_type_46 : decode hx_c_Model_type 46 = .ok (.if_icmp .ge 47, 3) := by decide +kernel
theorem hx_d_Model_type_49 : decode hx_c_Model_type 49 = .ok (.lload_n 1, 1) := by decide +kernel
theorem hx_d_Model_type_50 : decode hx_c_Model_type 50 = .ok (.bipush 8, 2) := by decide +kernel
theorem hx_d_Model_type_52 : decode hx_c_Model_type 52 = .ok (.iload 5, 2) := by decide +kernel
theorem hx_d_Model_type_54 : decode hx_c_Model_type 54 = .ok (.imul, 1) := by decide +kernel
theorem hx_d_Model_type_55 : decode hx_c_Model_type 55 = .ok (.lshr, 1) := by decide +kernel
theorem hx_d_Model_type_56 : decode hx_c_Model_type 56 = .ok (.ldc2_w 51, 3) := by decide +kernel
theorem hx_d_Model_type_59 : decode hx_c_Model_type 59 = .ok (.land, 1) := by decide +kernel
theorem hx_d_Model_type_60 : decode hx_c_Model_type 60 = .ok (.lstore 6, 2) := by decide +kernel
theorem hx_d_Model_type_62 : decode hx_c_Model_type 62 = .ok (.lload 6, 2) := by decide +kernel
theorem hx_d_Model_type_64 : decode hx_c_Model_type 64 = .ok (.ldc2_w 53, 3) := by decide +kernel
theorem hx_d_Model_type_67 : decode hx_c_Model_type 67 = .ok (.lcmp, 1) := by decide +kernel
theorem hx_d_Model_type_68 : decode hx_c_Model_type 68 = .ok (.ifCond .lt 16, 3) := by decide +kernel
theorem hx_d_Model_type_71 : decode hx_c_Model_type 71 = .ok (.lload 6, 2) := by decide +kernel
theorem hx_d_Model_type_73 : decode hx_c_Model_type 73 = .ok (.ldc2_w 55, 3) := by decide +kernel
theorem hx_d_Model_type_76 : decode hx_c_Model_type 76 = .ok (.lcmp, 1) := by decide +kernel
theorem hx_d_Model_type_77 : decode hx_c_Model_type 77 = .ok (.ifCond .gt 7, 3) := by decide +kernel
theorem hx_d_Model_type_80 : decode hx_c_Model_type 80 = .ok (.iconst 1, 1) := by decide +kernel
theorem hx_d_Model_type_81 : decode hx_c_Model_type 81 = .ok (.goto 4, 3) := by decide +kernel
theorem hx_d_Model_type_84 : decode hx_c_Model_type 84 = .ok (.iconst 0, 1) := by decide +kernel
theorem hx_d_Model_type_85 : decode hx_c_Model_type 85 = .ok (.istore 4, 2) := by decide +kernel
theorem hx_d_Model_type_87 : decode hx_c_Model_type 87 = .ok (.iinc 5 1, 3) := by decide +kernel
theorem hx_d_Model_type_90 : decode hx_c_Model_type 90 = .ok (.goto (-52), 3) := by decide +kernel
theorem hx_d_Model_type_93 : decode hx_c_Model_type 93 = .ok (.iload 4, 2) := by decide +kernel
theorem hx_d_Model_type_95 : decode hx_c_Model_type 95 = .ok (.ifCond .ne 5, 3) := by decide +kernel
theorem hx_d_Model_type_98 : decode hx_c_Model_type 98 = .ok (.iconst (-1), 1) := by decide +kernel
theorem hx_d_Model_type_99 : decode hx_c_Model_type 99 = .ok (.ireturn, 1) := by decide +kernel
theorem hx_d_Model_type_100 : decode hx_c_Model_type 100 = .ok (.iload_n 3, 1) := by decide +kernel
theorem hx_d_Model_type_101 : decode hx_c_Model_type 101 = .ok (.iconst 1, 1) := by decide +kernel
theorem hx_d_Model_type_102 : decode hx_c_Model_type 102 = .ok (.isub, 1) := by decide +kernel
theorem hx_d_Model_type_103 : decode hx_c_Model_type 103 = .ok (.istore 5, 2) := by decide +kernel
theorem hx_d_Model_type_105 : decode hx_c_Model_type 105 = .ok (.iload 5, 2) := by decide +kernel
theorem hx_d_Model_type_107 : decode hx_c_Model_type 107 = .ok (.ifCond .lt 37, 3) := by decide +kernel
theorem hx_d_Model_type_110 : decode hx_c_Model_type 110 = .ok (.aload_n 0, 1) := by decide +kernel
theorem hx_d_Model_type_111 : decode hx_c_Model_type 111 = .ok (.getfield 17, 3) := by decide +kernel
theorem hx_d_Model_type_114 : decode hx_c_Model_type 114 = .ok (.aload_n 0, 1) := by decide +kernel
theorem hx_d_Model_type_115 : decode hx_c_Model_type 115 = .ok (.getfield 48, 3) := by decide +kernel
theorem hx_d_Model_type_118 : decode hx_c_Model_type 118 = .ok (.lload_n 1, 1) := by decide +kernel
theorem hx_d_Model_type_119 : decode hx_c_Model_type 119 = .ok (.bipush 8, 2) := by decide +kernel
theorem hx_d_Model_type_121 : decode hx_c_Model_type 121 = .ok (.iload 5, 2) := by decide +kernel
theorem hx_d_Model_type_123 : decode hx_c_Model_type 123 = .ok (.imul, 1) := by decide +kernel
theorem hx_d_Model_type_124 : decode hx_c_Model_type 124 = .ok (.lshr, 1) := by decide +kernel
theorem hx_d_Model_type_125 : decode hx_c_Model_type 125 = .ok (.l2i, 1) := by decide +kernel
theorem hx_d_Model_type_126 : decode hx_c_Model_type 126 = .ok (.i2b, 1) := by decide +kernel
theorem hx_d_Model_type_127 : decode hx_c_Model_type 127 = .ok (.bastore, 1) := by decide +kernel
theorem hx_d_Model_type_128 : decode hx_c_Model_type 128 = .ok (.aload_n 0, 1) := by decide +kernel
theorem hx_d_Model_type_129 : decode hx_c_Model_type 129 = .ok (.dup, 1) := by decide +kernel
theorem hx_d_Model_type_130 : decode hx_c_Model_type 130 = .ok (.getfield 48, 3) := by decide +kernel
theorem hx_d_Model_type_133 : decode hx_c_Model_type 133 = .ok (.iconst 1, 1) := by decide +kernel
theorem hx_d_Model_type_134 : decode hx_c_Model_type 134 = .ok (.iadd, 1) := by decide +kernel
theorem hx_d_Model_type_135 : decode hx_c_Model_type 135 = .ok (.putfield 48, 3) := by decide +kernel
theorem hx_d_Model_type_138 : decode hx_c_Model_type 138 = .ok (.iinc 5 (-1), 3) := by decide +kernel
theorem hx_d_Model_type_141 : decode hx_c_Model_type 141 = .ok (.goto (-36), 3) := by decide +kernel
theorem hx_d_Model_type_144 : decode hx_c_Model_type 144 = .ok (.aload_n 0, 1) := by decide +kernel
theorem hx_d_Model_type_145 : decode hx_c_Model_type 145 = .ok (.getfield 48, 3) := by decide +kernel
theorem hx_d_Model_type_148 : decode hx_c_Model_type 148 = .ok (.ireturn, 1) := by decide +kernel
theorem hx_d_Model_read_0 : decode hx_c_Model_read 0 = .ok (.aload_n 0, 1) := by decide +kernel
theorem hx_d_Model_read_1 : decode hx_c_Model_read 1 = .ok (.iconst 0, 1) := by decide +kernel
theorem hx_d_Model_read_2 : decode hx_c_Model_read 2 = .ok (.putfield 43, 3) := by decide +kernel
theorem hx_d_Model_read_5 : decode hx_c_Model_read 5 = .ok (.aload_n 0, 1) := by decide +kernel
theorem hx_d_Model_read_6 : decode hx_c_Model_read 6 = .ok (.getfield 48, 3) := by decide +kernel
theorem hx_d_Model_read_9 : decode hx_c_Model_read 9 = .ok (.istore_n 2, 1) := by decide +kernel
theorem hx_d_Model_read_10 : decode hx_c_Model_read 10 = .ok (.aload_n 0, 1) := by decide +kernel
theorem hx_d_Model_read_11 : decode hx_c_Model_read 11 = .ok (.iconst 0, 1) := by decide +kernel
theorem hx_d_Model_read_12 : decode hx_c_Model_read 12 = .ok (.putfield 48, 3) := by decide +kernel
theorem hx_d_Model_read_15 : decode hx_c_Model_read 15 = .ok (.iload_n 1, 1) := by decide +kernel
theorem hx_d_Model_read_16 : decode hx_c_Model_read 16 = .ok (.ifCond .lt 8, 3) := by decide +kernel
theorem hx_d_Model_read_19 : decode hx_c_Model_read 19 = .ok (.iload_n 1, 1) := by decide +kernel
theorem hx_d_Model_read_20 : decode hx_c_Model_read 20 = .ok (.iconst 1, 1) := by decide +kernel
theorem hx_d_Model_read_21 : decode hx_c_Model_read 21 = .ok (.if_icmp .le 5, 3) := by decide +kernel
theorem hx_d_Model_read_24 : decode hx_c_Model_read 24 = .ok (.iconst (-1), 1) := by decide +kernel
theorem hx_d_Model_read_25 : decode hx_c_Model_read 25 = .ok (.ireturn, 1) := by decide +kernel
theorem hx_d_Model_read_26 : decode hx_c_Model_read 26 = .ok (.aload_n 0, 1) := by decide +kernel
theorem hx_d_Model_read_27 : decode hx_c_Model_read 27 = .ok (.invokevirtual 133, 3) := by decide +kernel
theorem hx_d_Model_read_30 : decode hx_c_Model_read 30 = .ok (.iconst 0, 1) := by decide +kernel
theorem hx_d_Model_read_31 : decode hx_c_Model_read 31 = .ok (.istore_n 3, 1) := by decide +kernel
theorem hx_d_Model_read_32 : decode hx_c_Model_read 32 = .ok (.iload_n 3, 1) := by decide +kernel
theorem hx_d_Model_read_33 : decode hx_c_Model_read 33 = .ok (.iload_n 2, 1) := by decide +kernel
theorem hx_d_Model_read_34 : decode hx_c_Model_read 34 = .ok (.if_icmp .ge 96, 3) := by decide +kernel
theorem hx_d_Model_read_37 : decode hx_c_Model_read 37 = .ok (.aload_n 0, 1) := by decide +kernel
theorem hx_d_Model_read_38 : decode hx_c_Model_read 38 = .ok (.getfield 68, 3) := by decide +kernel
theorem hx_d_Model_read_41 : decode hx_c_Model_read 41 = .ok (.ifCond .ne 89, 3) := by decide +kernel
theorem hx_d_Model_read_44 : decode hx_c_Model_read 44 = .ok (.iload_n 3, 1) := by decide +kernel
theorem hx_d_Model_read_45 : decode hx_c_Model_read 45 = .ok (.istore 4, 2) := by decide +kernel
theorem hx_d_Model_read_47 : decode hx_c_Model_read 47 = .ok (.iload 4, 2) := by decide +kernel
theorem hx_d_Model_read_49 : decode hx_c_Model_read 49 = .ok (.iload_n 2, 1) := by decide +kernel
theorem hx_d_Model_read_50 : decode hx_c_Model_read 50 = .ok (.if_icmp .ge 21, 3) := by decide +kernel
theorem hx_d_Model_read_53 : decode hx_c_Model_read 53 = .ok (.aload_n 0, 1) := by decide +kernel
theorem hx_d_Model_read_54 : decode hx_c_Model_read 54 = .ok (.getfield 17, 3) := by decide +kernel
theorem hx_d_Model_read_57 : decode hx_c_Model_read 57 = .ok (.iload 4, 2) := by decide +kernel
theorem hx_d_Model_read_59 : decode hx_c_Model_read 59 = .ok (.baload, 1) := by decide +kernel
theorem hx_d_Model_read_60 : decode hx_c_Model_read 60 = .ok (.bipush 32, 2) := by decide +kernel
theorem hx_d_Model_read_62 : decode hx_c_Model_read 62 = .ok (.if_icmp .eq 9, 3) := by decide +kernel
theorem hx_d_Model_read_65 : decode hx_c_Model_read 65 = .ok (.iinc 4 1, 3) := by decide +kernel
theorem hx_d_Model_read_68 : decode hx_c_Model_read 68 = .ok (.goto (-21), 3) := by decide +kernel
theorem hx_d_Model_read_71 : decode hx_c_Model_read 71 = .ok (.iload 4, 2) := by decide +kernel
theorem hx_d_Model_read_73 : decode hx_c_Model_read 73 = .ok (.iload_n 3, 1) := by decide +kernel
theorem hx_d_Model_read_74 : decode hx_c_Model_read 74 = .ok (.if_icmp .le 48, 3) := by decide +kernel
theorem hx_d_Model_read_77 : decode hx_c_Model_read 77 = .ok (.iload_n 1, 1) := by decide +kernel
theorem hx_d_Model_read_78 : decode hx_c_Model_read 78 = .ok (.ifCond .ne 13, 3) := by decide +kernel
theorem hx_d_Model_read_81 : decode hx_c_Model_read 81 = .ok (.aload_n 0, 1) := by decide +kernel
theorem hx_d_Model_read_82 : decode hx_c_Model_read 82 = .ok (.iload_n 3, 1) := by decide +kernel
theorem hx_d_Model_read_83 : decode hx_c_Model_read 83 = .ok (.iload 4, 2) := by decide +kernel
theorem hx_d_Model_read_85 : decode hx_c_Model_read 85 = .ok (.invokevirtual 136, 3) := by decide +kernel
theorem hx_d_Model_read_88 : decode hx_c_Model_read 88 = .ok (.goto 10, 3) := by decide +kernel
theorem hx_d_Model_read_91 : decode hx_c_Model_read 91 = .ok (.aload_n 0, 1) := by decide +kernel
theorem hx_d_Model_read_92 : decode hx_c_Model_read 92 = .ok (.iload_n 3, 1) := by decide +kernel
theorem hx_d_Model_read_93 : decode hx_c_Model_read 93 = .ok (.iload 4, 2) := by decide +kernel
theorem hx_d_Model_read_95 : decode hx_c_Model_read 95 = .ok (.invokevirtual 139, 3) := by decide +kernel
theorem hx_d_Model_read_98 : decode hx_c_Model_read 98 = .ok (.aload_n 0, 1) := by decide +kernel
theorem hx_d_Model_read_99 : decode hx_c_Model_read 99 = .ok (.aload_n 0, 1) := by decide +kernel
theorem hx_d_Model_read_100 : decode hx_c_Model_read 100 = .ok (.getfield 68, 3) := by decide +kernel
theorem hx_d_Model_read_103 : decode hx_c_Model_read 103 = .ok (.ifCond .ne 12, 3) := by decide +kernel
theorem hx_d_Model_read_106 : decode hx_c_Model_read 106 = .ok (.aload_n 0, 1) := by decide +kernel
theorem hx_d_Model_read_107 : decode hx_c_Model_read 107 = .ok (.getfield 21, 3) := by decide +kernel
theorem hx_d_Model_read_110 : decode hx_c_Model_read 110 = .ok (.iconst 1, 1) := by decide +kernel
theorem hx_d_Model_read_111 : decode hx_c_Model_read 111 = .ok (.iadd, 1) := by decide +kernel
theorem hx_d_Model_read_112 : decode hx_c_Model_read 112 = .ok (.goto 7, 3) := by decide +kernel
theorem hx_d_Model_read_115 : decode hx_c_Model_read 115 = .ok (.aload_n 0, 1) := by decide +kernel
theorem hx_d_Model_read_116 : decode hx_c_Model_read 116 = .ok (.getfield 21, 3) := by decide +kernel
theorem hx_d_Model_read_119 : decode hx_c_Model_read 119 = .ok (.putfield 21, 3) := by decide +kernel
theorem hx_d_Model_read_122 : decode hx_c_Model_read 122 = .ok (.iload 4, 2) := by decide +kernel
theorem hx_d_Model_read_124 : decode hx_c_Model_read 124 = .ok (.iconst 1, 1) := by decide +kernel
theorem hx_d_Model_read_125 : decode hx_c_Model_read 125 = .ok (.iadd, 1) := by decide +kernel
theorem hx_d_Model_read_126 : decode hx_c_Model_read 126 = .ok (.istore_n 3, 1) := by decide +kernel
theorem hx_d_Model_read_127 : decode hx_c_Model_read 127 = .ok (.goto (-95), 3) := by decide +kernel
theorem hx_d_Model_read_130 : decode hx_c_Model_read 130 = .ok (.aload_n 0, 1) := by decide +kernel
theorem hx_d_Model_read_131 : decode hx_c_Model_read 131 = .ok (.aload_n 0, 1) := by decide +kernel
theorem hx_d_Model_read_132 : decode hx_c_Model_read 132 = .ok (.getfield 98, 3) := by decide +kernel
theorem hx_d_Model_read_135 : decode hx_c_Model_read 135 = .ok (.bipush 10, 2) := by decide +kernel
