theorem hx_d_Loom_init_0 : decode hx_c_Loom_init 0 = .ok (.aload_n 0, 1) := by decide +kernel
theorem hx_d_Loom_init_1 : decode hx_c_Loom_init 1 = .ok (.invokespecial 1, 3) := by decide +kernel
theorem hx_d_Loom_init_4 : decode hx_c_Loom_init 4 = .ok (.aload_n 0, 1) := by decide +kernel
theorem hx_d_Loom_init_5 : decode hx_c_Loom_init 5 = .ok (.new 7, 3) := by decide +kernel
theorem hx_d_Loom_init_8 : decode hx_c_Loom_init 8 = .ok (.dup, 1) := by decide +kernel
theorem hx_d_Loom_init_9 : decode hx_c_Loom_init 9 = .ok (.invokespecial 9, 3) := by decide +kernel
theorem hx_d_Loom_init_12 : decode hx_c_Loom_init 12 = .ok (.putfield 10, 3) := by decide +kernel
theorem hx_d_Loom_init_15 : decode hx_c_Loom_init 15 = .ok (.aload_n 0, 1) := by decide +kernel
theorem hx_d_Loom_init_16 : decode hx_c_Loom_init 16 = .ok (.new 16, 3) := by decide +kernel
theorem hx_d_Loom_init_19 : decode hx_c_Loom_init 19 = .ok (.dup, 1) := by decide +kernel
theorem hx_d_Loom_init_20 : decode hx_c_Loom_init 20 = .ok (.invokespecial 18, 3) := by decide +kernel
theorem hx_d_Loom_init_23 : decode hx_c_Loom_init 23 = .ok (.putfield 19, 3) := by decide +kernel
theorem hx_d_Loom_init_26 : decode hx_c_Loom_init 26 = .ok (.aload_n 0, 1) := by decide +kernel
theorem hx_d_Loom_init_27 : decode hx_c_Loom_init 27 = .ok (.new 23, 3) := by decide +kernel
theorem hx_d_Loom_init_30 : decode hx_c_Loom_init 30 = .ok (.dup, 1) := by decide +kernel
theorem hx_d_Loom_init_31 : decode hx_c_Loom_init 31 = .ok (.invokespecial 25, 3) := by decide +kernel
theorem hx_d_Loom_init_34 : decode hx_c_Loom_init 34 = .ok (.putfield 26, 3) := by decide +kernel
theorem hx_d_Loom_init_37 : decode hx_c_Loom_init 37 = .ok (.aload_n 0, 1) := by decide +kernel
theorem hx_d_Loom_init_38 : decode hx_c_Loom_init 38 = .ok (.new 30, 3) := by decide +kernel
theorem hx_d_Loom_init_41 : decode hx_c_Loom_init 41 = .ok (.dup, 1) := by decide +kernel
theorem hx_d_Loom_init_42 : decode hx_c_Loom_init 42 = .ok (.invokespecial 32, 3) := by decide +kernel
theorem hx_d_Loom_init_45 : decode hx_c_Loom_init 45 = .ok (.putfield 33, 3) := by decide +kernel
theorem hx_d_Loom_init_48 : decode hx_c_Loom_init 48 = .ok (.aload_n 0, 1) := by decide +kernel
theorem hx_d_Loom_init_49 : decode hx_c_Loom_init 49 = .ok (.new 37, 3) := by decide +kernel
theorem hx_d_Loom_init_52 : decode hx_c_Loom_init 52 = .ok (.dup, 1) := by decide +kernel
theorem hx_d_Loom_init_53 : decode hx_c_Loom_init 53 = .ok (.invokespecial 39, 3) := by decide +kernel
theorem hx_d_Loom_init_56 : decode hx_c_Loom_init 56 = .ok (.putfield 40, 3) := by decide +kernel
theorem hx_d_Loom_init_59 : decode hx_c_Loom_init 59 = .ok (.aload_n 0, 1) := by decide +kernel
theorem hx_d_Loom_init_60 : decode hx_c_Loom_init 60 = .ok (.new 44, 3) := by decide +kernel
theorem hx_d_Loom_init_63 : decode hx_c_Loom_init 63 = .ok (.dup, 1) := by decide +kernel
theorem hx_d_Loom_init_64 : decode hx_c_Loom_init 64 = .ok (.invokespecial 46, 3) := by decide +kernel
theorem hx_d_Loom_init_67 : decode hx_c_Loom_init 67 = .ok (.putfield 47, 3) := by decide +kernel
theorem hx_d_Loom_init_70 : decode hx_c_Loom_init 70 = .ok (.aload_n 0, 1) := by decide +kernel
theorem hx_d_Loom_init_71 : decode hx_c_Loom_init 71 = .ok (.ldc2_w 51, 3) := by decide +kernel
theorem hx_d_Loom_init_74 : decode hx_c_Loom_init 74 = .ok (.putfield 53, 3) := by decide +kernel
theorem hx_d_Loom_init_77 : decode hx_c_Loom_init 77 = .ok (.aload_n 0, 1) := by decide +kernel
theorem hx_d_Loom_init_78 : decode hx_c_Loom_init 78 = .ok (.iconst (-1), 1) := by decide +kernel
theorem hx_d_Loom_init_79 : decode hx_c_Loom_init 79 = .ok (.putfield 57, 3) := by decide +kernel
theorem hx_d_Loom_init_82 : decode hx_c_Loom_init 82 = .ok (.return_, 1) := by decide +kernel
theorem hx_d_Image_init_0 : decode hx_c_Image_init 0 = .ok (.aload_n 0, 1) := by decide +kernel
theorem hx_d_Image_init_1 : decode hx_c_Image_init 1 = .ok (.invokespecial 3, 3) := by decide +kernel
theorem hx_d_Image_init_4 : decode hx_c_Image_init 4 = .ok (.aload_n 0, 1) := by decide +kernel
theorem hx_d_Image_init_5 : decode hx_c_Image_init 5 = .ok (.sipush 3000, 3) := by decide +kernel
theorem hx_d_Image_init_8 : decode hx_c_Image_init 8 = .ok (.newarray .long, 2) := by decide +kernel
theorem hx_d_Image_init_10 : decode hx_c_Image_init 10 = .ok (.putfield 9, 3) := by decide +kernel
theorem hx_d_Image_init_13 : decode hx_c_Image_init 13 = .ok (.aload_n 0, 1) := by decide +kernel
theorem hx_d_Image_init_14 : decode hx_c_Image_init 14 = .ok (.sipush 3000, 3) := by decide +kernel
theorem hx_d_Image_init_17 : decode hx_c_Image_init 17 = .ok (.newarray .int, 2) := by decide +kernel
theorem hx_d_Image_init_19 : decode hx_c_Image_init 19 = .ok (.putfield 15, 3) := by decide +kernel
theorem hx_d_Image_init_22 : decode hx_c_Image_init 22 = .ok (.aload_n 0, 1) := by decide +kernel
theorem hx_d_Image_init_23 : decode hx_c_Image_init 23 = .ok (.sipush 256, 3) := by decide +kernel
theorem hx_d_Image_init_26 : decode hx_c_Image_init 26 = .ok (.newarray .long, 2) := by decide +kernel
theorem hx_d_Image_init_28 : decode hx_c_Image_init 28 = .ok (.putfield 19, 3) := by decide +kernel
theorem hx_d_Image_init_31 : decode hx_c_Image_init 31 = .ok (.aload_n 0, 1) := by decide +kernel
theorem hx_d_Image_init_32 : decode hx_c_Image_init 32 = .ok (.sipush 256, 3) := by decide +kernel
theorem hx_d_Image_init_35 : decode hx_c_Image_init 35 = .ok (.newarray .int, 2) := by decide +kernel
theorem hx_d_Image_init_37 : decode hx_c_Image_init 37 = .ok (.putfield 22, 3) := by decide +kernel
theorem hx_d_Image_init_40 : decode hx_c_Image_init 40 = .ok (.aload_n 0, 1) := by decide +kernel
theorem hx_d_Image_init_41 : decode hx_c_Image_init 41 = .ok (.iconst 0, 1) := by decide +kernel
theorem hx_d_Image_init_42 : decode hx_c_Image_init 42 = .ok (.putfield 25, 3) := by decide +kernel
theorem hx_d_Image_init_45 : decode hx_c_Image_init 45 = .ok (.return_, 1) := by decide +kernel
theorem hx_d_Typed_init_0 : decode hx_c_Typed_init 0 = .ok (.aload_n 0, 1) := by decide +kernel
theorem hx_d_Typed_init_1 : decode hx_c_Typed_init 1 = .ok (.invokespecial 3, 3) := by decide +kernel
theorem hx_d_Typed_init_4 : decode hx_c_Typed_init 4 = .ok (.aload_n 0, 1) := by decide +kernel
theorem hx_d_Typed_init_5 : decode hx_c_Typed_init 5 = .ok (.sipush 8000, 3) := by decide +kernel
theorem hx_d_Typed_init_8 : decode hx_c_Typed_init 8 = .ok (.newarray .byte, 2) := by decide +kernel
theorem hx_d_Typed_init_10 : decode hx_c_Typed_init 10 = .ok (.putfield 9, 3) := by decide +kernel
theorem hx_d_Typed_init_13 : decode hx_c_Typed_init 13 = .ok (.aload_n 0, 1) := by decide +kernel
theorem hx_d_Typed_init_14 : decode hx_c_Typed_init 14 = .ok (.iconst 0, 1) := by decide +kernel
theorem hx_d_Typed_init_15 : decode hx_c_Typed_init 15 = .ok (.putfield 15, 3) := by decide +kernel
theorem hx_d_Typed_init_18 : decode hx_c_Typed_init 18 = .ok (.aload_n 0, 1) := by decide +kernel
theorem hx_d_Typed_init_19 : decode hx_c_Typed_init 19 = .ok (.invokevirtual 19, 3) := by decide +kernel
theorem hx_d_Typed_init_22 : decode hx_c_Typed_init 22 = .ok (.return_, 1) := by decide +kernel
theorem hx_d_Typed_rewind_0 : decode hx_c_Typed_rewind 0 = .ok (.aload_n 0, 1) := by decide +kernel
theorem hx_d_Typed_rewind_1 : decode hx_c_Typed_rewind 1 = .ok (.iconst 0, 1) := by decide +kernel
theorem hx_d_Typed_rewind_2 : decode hx_c_Typed_rewind 2 = .ok (.putfield 26, 3) := by decide +kernel
theorem hx_d_Typed_rewind_5 : decode hx_c_Typed_rewind 5 = .ok (.aload_n 0, 1) := by decide +kernel
theorem hx_d_Typed_rewind_6 : decode hx_c_Typed_rewind 6 = .ok (.iconst 0, 1) := by decide +kernel
theorem hx_d_Typed_rewind_7 : decode hx_c_Typed_rewind 7 = .ok (.putfield 29, 3) := by decide +kernel
theorem hx_d_Typed_rewind_10 : decode hx_c_Typed_rewind 10 = .ok (.aload_n 0, 1) := by decide +kernel
theorem hx_d_Typed_rewind_11 : decode hx_c_Typed_rewind 11 = .ok (.iconst 0, 1) := by decide +kernel
theorem hx_d_Typed_rewind_12 : decode hx_c_Typed_rewind 12 = .ok (.putfield 32, 3) := by decide +kernel
theorem hx_d_Typed_rewind_15 : decode hx_c_Typed_rewind 15 = .ok (.return_, 1) := by decide +kernel
theorem hx_d_Draft_init_0 : decode hx_c_Draft_init 0 = .ok (.aload_n 0, 1) := by decide +kernel
theorem hx_d_Draft_init_1 : decode hx_c_Draft_init 1 = .ok (.invokespecial 3, 3) := by decide +kernel
theorem hx_d_Draft_init_4 : decode hx_c_Draft_init 4 = .ok (.aload_n 0, 1) := by decide +kernel
theorem hx_d_Draft_init_5 : decode hx_c_Draft_init 5 = .ok (.new 9, 3) := by decide +kernel
theorem hx_d_Draft_init_8 : decode hx_c_Draft_init 8 = .ok (.dup, 1) := by decide +kernel
theorem hx_d_Draft_init_9 : decode hx_c_Draft_init 9 = .ok (.invokespecial 11, 3) := by decide +kernel
theorem hx_d_Draft_init_12 : decode hx_c_Draft_init 12 = .ok (.putfield 12, 3) := by decide +kernel
theorem hx_d_Draft_init_15 : decode hx_c_Draft_init 15 = .ok (.aload_n 0, 1) := by decide +kernel
theorem hx_d_Draft_init_16 : decode hx_c_Draft_init 16 = .ok (.invokevirtual 18, 3) := by decide +kernel
theorem hx_d_Draft_init_19 : decode hx_c_Draft_init 19 = .ok (.return_, 1) := by decide +kernel
theorem hx_d_Draft_restart_0 : decode hx_c_Draft_restart 0 = .ok (.aload_n 0, 1) := by decide +kernel
theorem hx_d_Draft_restart_1 : decode hx_c_Draft_restart 1 = .ok (.getfield 12, 3) := by decide +kernel
theorem hx_d_Draft_restart_4 : decode hx_c_Draft_restart 4 = .ok (.invokevirtual 21, 3) := by decide +kernel
theorem hx_d_Draft_restart_7 : decode hx_c_Draft_restart 7 = .ok (.aload_n 0, 1) := by decide +kernel
theorem hx_d_Draft_restart_8 : decode hx_c_Draft_restart 8 = .ok (.iconst 0, 1) := by decide +kernel
theorem hx_d_Draft_restart_9 : decode hx_c_Draft_restart 9 = .ok (.putfield 24, 3) := by decide +kernel
theorem hx_d_Draft_restart_12 : decode hx_c_Draft_restart 12 = .ok (.aload_n 0, 1) := by decide +kernel
theorem hx_d_Draft_restart_13 : decode hx_c_Draft_restart 13 = .ok (.ldc2_w 28, 3) := by decide +kernel
theorem hx_d_Draft_restart_16 : decode hx_c_Draft_restart 16 = .ok (.putfield 30, 3) := by decide +kernel
theorem hx_d_Draft_restart_19 : decode hx_c_Draft_restart 19 = .ok (.aload_n 0, 1) := by decide +kernel
theorem hx_d_Draft_restart_20 : decode hx_c_Draft_restart 20 = .ok (.iconst 0, 1) := by decide +kernel
theorem hx_d_Draft_restart_21 : decode hx_c_Draft_restart 21 = .ok (.putfield 34, 3) := by decide +kernel
theorem hx_d_Draft_restart_24 : decode hx_c_Draft_restart 24 = .ok (.return_, 1) := by decide +kernel
theorem hx_d_Image_forget_0 : decode hx_c_Image_forget 0 = .ok (.aload_n 0, 1) := by decide +kernel
theorem hx_d_Image_forget_1 : decode hx_c_Image_forget 1 = .ok (.iconst 0, 1) := by decide +kernel
theorem hx_d_Image_forget_2 : decode hx_c_Image_forget 2 = .ok (.putfield 25, 3) := by decide +kernel
theorem hx_d_Image_forget_5 : decode hx_c_Image_forget 5 = .ok (.return_, 1) := by decide +kernel
theorem hx_d_Colon_init_0 : decode hx_c_Colon_init 0 = .ok (.aload_n 0, 1) := by decide +kernel
theorem hx_d_Colon_init_1 : decode hx_c_Colon_init 1 = .ok (.invokespecial 3, 3) := by decide +kernel
theorem hx_d_Colon_init_4 : decode hx_c_Colon_init 4 = .ok (.aload_n 0, 1) := by decide +kernel
theorem hx_d_Colon_init_5 : decode hx_c_Colon_init 5 = .ok (.lconst 0, 1) := by decide +kernel
theorem hx_d_Colon_init_6 : decode hx_c_Colon_init 6 = .ok (.putfield 9, 3) := by decide +kernel
theorem hx_d_Colon_init_9 : decode hx_c_Colon_init 9 = .ok (.aload_n 0, 1) := by decide +kernel
theorem hx_d_Colon_init_10 : decode hx_c_Colon_init 10 = .ok (.iconst 0, 1) := by decide +kernel
theorem hx_d_Colon_init_11 : decode hx_c_Colon_init 11 = .ok (.putfield 15, 3) := by decide +kernel
theorem hx_d_Colon_init_14 : decode hx_c_Colon_init 14 = .ok (.return_, 1) := by decide +kernel
theorem hx_d_Reader_init_0 : decode hx_c_Reader_init 0 = .ok (.aload_n 0, 1) := by decide +kernel
theorem hx_d_Reader_init_1 : decode hx_c_Reader_init 1 = .ok (.invokespecial 3, 3) := by decide +kernel
theorem hx_d_Reader_init_4 : decode hx_c_Reader_init 4 = .ok (.return_, 1) := by decide +kernel
theorem hx_d_SRead_init_0 : decode hx_c_SRead_init 0 = .ok (.aload_n 0, 1) := by decide +kernel
theorem hx_d_SRead_init_1 : decode hx_c_SRead_init 1 = .ok (.invokespecial 3, 3) := by decide +kernel
theorem hx_d_SRead_init_4 : decode hx_c_SRead_init 4 = .ok (.aload_n 0, 1) := by decide +kernel
theorem hx_d_SRead_init_5 : decode hx_c_SRead_init 5 = .ok (.iconst 0, 1) := by decide +kernel
theorem hx_d_SRead_init_6 : decode hx_c_SRead_init 6 = .ok (.putfield 9, 3) := by decide +kernel
theorem hx_d_SRead_init_9 : decode hx_c_SRead_init 9 = .ok (.return_, 1) := by decide +kernel
theorem hx_d_Teller_init_0 : decode hx_c_Teller_init 0 = .ok (.aload_n 0, 1) := by decide +kernel
theorem hx_d_Teller_init_1 : decode hx_c_Teller_init 1 = .ok (.invokespecial 3, 3) := by decide +kernel
theorem hx_d_Teller_init_4 : decode hx_c_Teller_init 4 = .ok (.aload_n 0, 1) := by decide +kernel
theorem hx_d_Teller_init_5 : decode hx_c_Teller_init 5 = .ok (.sipush 12000, 3) := by decide +kernel
theorem hx_d_Teller_init_8 : decode hx_c_Teller_init 8 = .ok (.newarray .byte, 2) := by decide +kernel
theorem hx_d_Teller_init_10 : decode hx_c_Teller_init 10 = .ok (.putfield 9, 3) := by decide +kernel
theorem hx_d_Teller_init_13 : decode hx_c_Teller_init 13 = .ok (.aload_n 0, 1) := by decide +kernel
theorem hx_d_Teller_init_14 : decode hx_c_Teller_init 14 = .ok (.iconst 0, 1) := by decide +kernel
theorem hx_d_Teller_init_15 : decode hx_c_Teller_init 15 = .ok (.putfield 15, 3) := by decide +kernel
theorem hx_d_Teller_init_18 : decode hx_c_Teller_init 18 = .ok (.aload_n 0, 1) := by decide +kernel
theorem hx_d_Teller_init_19 : decode hx_c_Teller_init 19 = .ok (.iconst 0, 1) := by decide +kernel
theorem hx_d_Teller_init_20 : decode hx_c_Teller_init 20 = .ok (.putfield 19, 3) := by decide +kernel
theorem hx_d_Teller_init_23 : decode hx_c_Teller_init 23 = .ok (.aload_n 0, 1) := by decide +kernel
theorem hx_d_Teller_init_24 : decode hx_c_Teller_init 24 = .ok (.iconst 0, 1) := by decide +kernel
theorem hx_d_Teller_init_25 : decode hx_c_Teller_init 25 = .ok (.putfield 22, 3) := by decide +kernel
theorem hx_d_Teller_init_28 : decode hx_c_Teller_init 28 = .ok (.aload_n 0, 1) := by decide +kernel
theorem hx_d_Teller_init_29 : decode hx_c_Teller_init 29 = .ok (.iconst 0, 1) := by decide +kernel
theorem hx_d_Teller_init_30 : decode hx_c_Teller_init 30 = .ok (.putfield 26, 3) := by decide +kernel
theorem hx_d_Teller_init_33 : decode hx_c_Teller_init 33 = .ok (.aload_n 0, 1) := by decide +kernel
theorem hx_d_Teller_init_34 : decode hx_c_Teller_init 34 = .ok (.lconst 0, 1) := by decide +kernel
theorem hx_d_Teller_init_35 : decode hx_c_Teller_init 35 = .ok (.putfield 29, 3) := by decide +kernel
theorem hx_d_Teller_init_38 : decode hx_c_Teller_init 38 = .ok (.return_, 1) := by decide +kernel
theorem hx_d_Loom_type_0 : decode hx_c_Loom_type 0 = .ok (.aload_n 0, 1) := by decide +kernel
theorem hx_d_Loom_type_1 : decode hx_c_Loom_type 1 = .ok (.getfield 19, 3) := by decide +kernel
theorem hx_d_Loom_type_4 : decode hx_c_Loom_type 4 = .ok (.lload_n 1, 1) := by decide +kernel
theorem hx_d_Loom_type_5 : decode hx_c_Loom_type 5 = .ok (.iload_n 3, 1) := by decide +kernel
theorem hx_d_Loom_type_6 : decode hx_c_Loom_type 6 = .ok (.invokevirtual 61, 3) := by decide +kernel
theorem hx_d_Loom_type_9 : decode hx_c_Loom_type 9 = .ok (.ireturn, 1) := by decide +kernel
theorem hx_d_Typed_append_0 : decode hx_c_Typed_append 0 = .ok (.iload_n 3, 1) := by decide +kernel
theorem hx_d_Typed_append_1 : decode hx_c_Typed_append 1 = .ok (.iconst 1, 1) := by decide +kernel
theorem hx_d_Typed_append_2 : decode hx_c_Typed_append 2 = .ok (.if_icmp .lt 21, 3) := by decide +kernel
theorem hx_d_Typed_append_5 : decode hx_c_Typed_append 5 = .ok (.iload_n 3, 1) := by decide +kernel
theorem hx_d_Typed_append_6 : decode hx_c_Typed_append 6 = .ok (.bipush 8, 2) := by decide +kernel
theorem hx_d_Typed_append_8 : decode hx_c_Typed_append 8 = .ok (.if_icmp .gt 15, 3) := by decide +kernel
theorem hx_d_Typed_append_11 : decode hx_c_Typed_append 11 = .ok (.iload_n 3, 1) := by decide +kernel
theorem hx_d_Typed_append_12 : decode hx_c_Typed_append 12 = .ok (.sipush 8000, 3) := by decide +kernel
theorem hx_d_Typed_append_15 : decode hx_c_Typed_append 15 = .ok (.aload_n 0, 1) := by decide +kernel
theorem hx_d_Typed_append_16 : decode hx_c_Typed_append 16 = .ok (.getfield 15, 3) := by decide +kernel
theorem hx_d_Typed_append_19 : decode hx_c_Typed_append 19 = .ok (.isub, 1) := by decide +kernel
theorem hx_d_Typed_append_20 : decode hx_c_Typed_append 20 = .ok (.if_icmp .le 5, 3) := by decide +kernel
theorem hx_d_Typed_append_23 : decode hx_c_Typed_append 23 = .ok (.iconst (-1), 1) := by decide +kernel
theorem hx_d_Typed_append_24 : decode hx_c_Typed_append 24 = .ok (.ireturn, 1) := by decide +kernel
theorem hx_d_Typed_append_25 : decode hx_c_Typed_append 25 = .ok (.iconst 0, 1) := by decide +kernel
theorem hx_d_Typed_append_26 : decode hx_c_Typed_append 26 = .ok (.istore 4, 2) := by decide +kernel
theorem hx_d_Typed_append_28 : decode hx_c_Typed_append 28 = .ok (.iload 4, 2) := by decide +kernel
theorem hx_d_Typed_append_30 : decode hx_c_Typed_append 30 = .ok (.iload_n 3, 1) := by decide +kernel
theorem hx_d_Typed_append_31 : decode hx_c_Typed_append 31 = .ok (.if_icmp .ge 33, 3) := by decide +kernel
theorem hx_d_Typed_append_34 : decode hx_c_Typed_append 34 = .ok (.lload_n 1, 1) := by decide +kernel
theorem hx_d_Typed_append_35 : decode hx_c_Typed_append 35 = .ok (.iload 4, 2) := by decide +kernel
theorem hx_d_Typed_append_37 : decode hx_c_Typed_append 37 = .ok (.invokestatic 22, 3) := by decide +kernel
theorem hx_d_Typed_append_40 : decode hx_c_Typed_append 40 = .ok (.istore 5, 2) := by decide +kernel
theorem hx_d_Typed_append_42 : decode hx_c_Typed_append 42 = .ok (.iload 5, 2) := by decide +kernel
theorem hx_d_Typed_append_44 : decode hx_c_Typed_append 44 = .ok (.bipush 32, 2) := by decide +kernel
theorem hx_d_Typed_append_46 : decode hx_c_Typed_append 46 = .ok (.if_icmp .lt 10, 3) := by decide +kernel
theorem hx_d_Typed_append_49 : decode hx_c_Typed_append 49 = .ok (.iload 5, 2) := by decide +kernel
theorem hx_d_Typed_append_51 : decode hx_c_Typed_append 51 = .ok (.bipush 126, 2) := by decide +kernel
theorem hx_d_Typed_append_53 : decode hx_c_Typed_append 53 = .ok (.if_icmp .le 5, 3) := by decide +kernel
theorem hx_d_Typed_append_56 : decode hx_c_Typed_append 56 = .ok (.iconst (-1), 1) := by decide +kernel
theorem hx_d_Typed_append_57 : decode hx_c_Typed_append 57 = .ok (.ireturn, 1) := by decide +kernel
theorem hx_d_Typed_append_58 : decode hx_c_Typed_append 58 = .ok (.iinc 4 1, 3) := by decide +kernel
theorem hx_d_Typed_append_61 : decode hx_c_Typed_append 61 = .ok (.goto (-33), 3) := by decide +kernel
theorem hx_d_Typed_append_64 : decode hx_c_Typed_append 64 = .ok (.iload_n 3, 1) := by decide +kernel
theorem hx_d_Typed_append_65 : decode hx_c_Typed_append 65 = .ok (.iconst 1, 1) := by decide +kernel
theorem hx_d_Typed_append_66 : decode hx_c_Typed_append 66 = .ok (.isub, 1) := by decide +kernel
theorem hx_d_Typed_append_67 : decode hx_c_Typed_append 67 = .ok (.istore 4, 2) := by decide +kernel
theorem hx_d_Typed_append_69 : decode hx_c_Typed_append 69 = .ok (.iload 4, 2) := by decide +kernel
theorem hx_d_Typed_append_71 : decode hx_c_Typed_append 71 = .ok (.ifCond .lt 35, 3) := by decide +kernel
theorem hx_d_Typed_append_74 : decode hx_c_Typed_append 74 = .ok (.aload_n 0, 1) := by decide +kernel
theorem hx_d_Typed_append_75 : decode hx_c_Typed_append 75 = .ok (.getfield 9, 3) := by decide +kernel
theorem hx_d_Typed_append_78 : decode hx_c_Typed_append 78 = .ok (.aload_n 0, 1) := by decide +kernel
theorem hx_d_Typed_append_79 : decode hx_c_Typed_append 79 = .ok (.getfield 15, 3) := by decide +kernel
theorem hx_d_Typed_append_82 : decode hx_c_Typed_append 82 = .ok (.lload_n 1, 1) := by decide +kernel
theorem hx_d_Typed_append_83 : decode hx_c_Typed_append 83 = .ok (.iload 4, 2) := by decide +kernel
theorem hx_d_Typed_append_85 : decode hx_c_Typed_append 85 = .ok (.invokestatic 22, 3) := by decide +kernel
theorem hx_d_Typed_append_88 : decode hx_c_Typed_append 88 = .ok (.i2b, 1) := by decide +kernel
theorem hx_d_Typed_append_89 : decode hx_c_Typed_append 89 = .ok (.bastore, 1) := by decide +kernel
theorem hx_d_Typed_append_90 : decode hx_c_Typed_append 90 = .ok (.aload_n 0, 1) := by decide +kernel
theorem hx_d_Typed_append_91 : decode hx_c_Typed_append 91 = .ok (.dup, 1) := by decide +kernel
theorem hx_d_Typed_append_92 : decode hx_c_Typed_append 92 = .ok (.getfield 15, 3) := by decide +kernel
theorem hx_d_Typed_append_95 : decode hx_c_Typed_append 95 = .ok (.iconst 1, 1) := by decide +kernel
theorem hx_d_Typed_append_96 : decode hx_c_Typed_append 96 = .ok (.iadd, 1) := by decide +kernel
theorem hx_d_Typed_append_97 : decode hx_c_Typed_append 97 = .ok (.putfield 15, 3) := by decide +kernel
theorem hx_d_Typed_append_100 : decode hx_c_Typed_append 100 = .ok (.iinc 4 (-1), 3) := by decide +kernel
theorem hx_d_Typed_append_103 : decode hx_c_Typed_append 103 = .ok (.goto (-34), 3) := by decide +kernel
theorem hx_d_Typed_append_106 : decode hx_c_Typed_append 106 = .ok (.aload_n 0, 1) := by decide +kernel
theorem hx_d_Typed_append_107 : decode hx_c_Typed_append 107 = .ok (.getfield 15, 3) := by decide +kernel
theorem hx_d_Typed_append_110 : decode hx_c_Typed_append 110 = .ok (.ireturn, 1) := by decide +kernel
theorem hx_d_Typed_packedAt_0 : decode hx_c_Typed_packedAt 0 = .ok (.lload_n 0, 1) := by decide +kernel
theorem hx_d_Typed_packedAt_1 : decode hx_c_Typed_packedAt 1 = .ok (.bipush 8, 2) := by decide +kernel
theorem hx_d_Typed_packedAt_3 : decode hx_c_Typed_packedAt 3 = .ok (.iload_n 2, 1) := by decide +kernel
theorem hx_d_Typed_packedAt_4 : decode hx_c_Typed_packedAt 4 = .ok (.imul, 1) := by decide +kernel
theorem hx_d_Typed_packedAt_5 : decode hx_c_Typed_packedAt 5 = .ok (.lushr, 1) := by decide +kernel
theorem hx_d_Typed_packedAt_6 : decode hx_c_Typed_packedAt 6 = .ok (.l2i, 1) := by decide +kernel
theorem hx_d_Typed_packedAt_7 : decode hx_c_Typed_packedAt 7 = .ok (.sipush 255, 3) := by decide +kernel
theorem hx_d_Typed_packedAt_10 : decode hx_c_Typed_packedAt 10 = .ok (.iand, 1) := by decide +kernel
theorem hx_d_Typed_packedAt_11 : decode hx_c_Typed_packedAt 11 = .ok (.ireturn, 1) := by decide +kernel
theorem hx_d_Loom_read_0 : decode hx_c_Loom_read 0 = .ok (.iconst (-1), 1) := by decide +kernel
theorem hx_d_Loom_read_1 : decode hx_c_Loom_read 1 = .ok (.istore_n 2, 1) := by decide +kernel
theorem hx_d_Loom_read_2 : decode hx_c_Loom_read 2 = .ok (.iload_n 1, 1) := by decide +kernel
theorem hx_d_Loom_read_3 : decode hx_c_Loom_read 3 = .ok (.ifCond .ne 15, 3) := by decide +kernel
theorem hx_d_Loom_read_6 : decode hx_c_Loom_read 6 = .ok (.aload_n 0, 1) := by decide +kernel
theorem hx_d_Loom_read_7 : decode hx_c_Loom_read 7 = .ok (.aload_n 0, 1) := by decide +kernel
theorem hx_d_Loom_read_8 : decode hx_c_Loom_read 8 = .ok (.getfield 33, 3) := by decide +kernel
theorem hx_d_Loom_read_11 : decode hx_c_Loom_read 11 = .ok (.invokevirtual 65, 3) := by decide +kernel
theorem hx_d_Loom_read_14 : decode hx_c_Loom_read 14 = .ok (.istore_n 2, 1) := by decide +kernel
theorem hx_d_Loom_read_15 : decode hx_c_Loom_read 15 = .ok (.goto 17, 3) := by decide +kernel
theorem hx_d_Loom_read_18 : decode hx_c_Loom_read 18 = .ok (.iload_n 1, 1) := by decide +kernel
theorem hx_d_Loom_read_19 : decode hx_c_Loom_read 19 = .ok (.iconst 1, 1) := by decide +kernel
theorem hx_d_Loom_read_20 : decode hx_c_Loom_read 20 = .ok (.if_icmp .ne 12, 3) := by decide +kernel
theorem hx_d_Loom_read_23 : decode hx_c_Loom_read 23 = .ok (.aload_n 0, 1) := by decide +kernel
theorem hx_d_Loom_read_24 : decode hx_c_Loom_read 24 = .ok (.aload_n 0, 1) := by decide +kernel
theorem hx_d_Loom_read_25 : decode hx_c_Loom_read 25 = .ok (.getfield 40, 3) := by decide +kernel
theorem hx_d_Loom_read_28 : decode hx_c_Loom_read 28 = .ok (.invokevirtual 65, 3) := by decide +kernel
theorem hx_d_Loom_read_31 : decode hx_c_Loom_read 31 = .ok (.istore_n 2, 1) := by decide +kernel
theorem hx_d_Loom_read_32 : decode hx_c_Loom_read 32 = .ok (.aload_n 0, 1) := by decide +kernel
theorem hx_d_Loom_read_33 : decode hx_c_Loom_read 33 = .ok (.getfield 19, 3) := by decide +kernel
theorem hx_d_Loom_read_36 : decode hx_c_Loom_read 36 = .ok (.invokevirtual 69, 3) := by decide +kernel
theorem hx_d_Loom_read_39 : decode hx_c_Loom_read 39 = .ok (.iload_n 2, 1) := by decide +kernel
theorem hx_d_Loom_read_40 : decode hx_c_Loom_read 40 = .ok (.ireturn, 1) := by decide +kernel
theorem hx_d_Loom_readRecords_0 : decode hx_c_Loom_readRecords 0 = .ok (.aload_n 0, 1) := by decide +kernel
theorem hx_d_Loom_readRecords_1 : decode hx_c_Loom_readRecords 1 = .ok (.getfield 26, 3) := by decide +kernel
theorem hx_d_Loom_readRecords_4 : decode hx_c_Loom_readRecords 4 = .ok (.invokevirtual 139, 3) := by decide +kernel
theorem hx_d_Loom_readRecords_7 : decode hx_c_Loom_readRecords 7 = .ok (.aload_n 1, 1) := by decide +kernel
theorem hx_d_Loom_readRecords_8 : decode hx_c_Loom_readRecords 8 = .ok (.invokevirtual 142, 3) := by decide +kernel
theorem hx_d_Loom_readRecords_11 : decode hx_c_Loom_readRecords 11 = .ok (.aload_n 0, 1) := by decide +kernel
theorem hx_d_Loom_readRecords_12 : decode hx_c_Loom_readRecords 12 = .ok (.getfield 19, 3) := by decide +kernel
theorem hx_d_Loom_readRecords_15 : decode hx_c_Loom_readRecords 15 = .ok (.invokevirtual 145, 3) := by decide +kernel
theorem hx_d_Loom_readRecords_18 : decode hx_c_Loom_readRecords 18 = .ok (.iconst 0, 1) := by decide +kernel
theorem hx_d_Loom_readRecords_19 : decode hx_c_Loom_readRecords 19 = .ok (.istore_n 2, 1) := by decide +kernel
theorem hx_d_Loom_readRecords_20 : decode hx_c_Loom_readRecords 20 = .ok (.iload_n 2, 1) := by decide +kernel
theorem hx_d_Loom_readRecords_21 : decode hx_c_Loom_readRecords 21 = .ok (.sipush 8000, 3) := by decide +kernel
theorem hx_d_Loom_readRecords_24 : decode hx_c_Loom_readRecords 24 = .ok (.if_icmp .ge 47, 3) := by decide +kernel
theorem hx_d_Loom_readRecords_27 : decode hx_c_Loom_readRecords 27 = .ok (.aload_n 0, 1) := by decide +kernel
theorem hx_d_Loom_readRecords_28 : decode hx_c_Loom_readRecords 28 = .ok (.getfield 19, 3) := by decide +kernel
theorem hx_d_Loom_readRecords_31 : decode hx_c_Loom_readRecords 31 = .ok (.invokevirtual 148, 3) := by decide +kernel
theorem hx_d_Loom_readRecords_34 : decode hx_c_Loom_readRecords 34 = .ok (.ifCond .eq 37, 3) := by decide +kernel
theorem hx_d_Loom_readRecords_37 : decode hx_c_Loom_readRecords 37 = .ok (.aload_n 1, 1) := by decide +kernel
theorem hx_d_Loom_readRecords_38 : decode hx_c_Loom_readRecords 38 = .ok (.aload_n 0, 1) := by decide +kernel
theorem hx_d_Loom_readRecords_39 : decode hx_c_Loom_readRecords 39 = .ok (.getfield 19, 3) := by decide +kernel
theorem hx_d_Loom_readRecords_42 : decode hx_c_Loom_readRecords 42 = .ok (.aload_n 0, 1) := by decide +kernel
theorem hx_d_Loom_readRecords_43 : decode hx_c_Loom_readRecords 43 = .ok (.getfield 26, 3) := by decide +kernel
theorem hx_d_Loom_readRecords_46 : decode hx_c_Loom_readRecords 46 = .ok (.aload_n 0, 1) := by decide +kernel
theorem hx_d_Loom_readRecords_47 : decode hx_c_Loom_readRecords 47 = .ok (.getfield 10, 3) := by decide +kernel
theorem hx_d_Loom_readRecords_50 : decode hx_c_Loom_readRecords 50 = .ok (.invokevirtual 151, 3) := by decide +kernel
theorem hx_d_Loom_readRecords_53 : decode hx_c_Loom_readRecords 53 = .ok (.istore_n 3, 1) := by decide +kernel
theorem hx_d_Loom_readRecords_54 : decode hx_c_Loom_readRecords 54 = .ok (.iload_n 3, 1) := by decide +kernel
theorem hx_d_Loom_readRecords_55 : decode hx_c_Loom_readRecords 55 = .ok (.ifCond .eq 10, 3) := by decide +kernel
theorem hx_d_Loom_readRecords_58 : decode hx_c_Loom_readRecords 58 = .ok (.aload_n 0, 1) := by decide +kernel
theorem hx_d_Loom_readRecords_59 : decode hx_c_Loom_readRecords 59 = .ok (.iload_n 2, 1) := by decide +kernel
theorem hx_d_Loom_readRecords_60 : decode hx_c_Loom_readRecords 60 = .ok (.putfield 57, 3) := by decide +kernel
theorem hx_d_Loom_readRecords_63 : decode hx_c_Loom_readRecords 63 = .ok (.iload_n 3, 1) := by decide +kernel
theorem hx_d_Loom_readRecords_64 : decode hx_c_Loom_readRecords 64 = .ok (.ireturn, 1) := by decide +kernel
theorem hx_d_Loom_readRecords_65 : decode hx_c_Loom_readRecords 65 = .ok (.iinc 2 1, 3) := by decide +kernel
theorem hx_d_Loom_readRecords_68 : decode hx_c_Loom_readRecords 68 = .ok (.goto (-48), 3) := by decide +kernel
theorem hx_d_Loom_readRecords_71 : decode hx_c_Loom_readRecords 71 = .ok (.aload_n 0, 1) := by decide +kernel
theorem hx_d_Loom_readRecords_72 : decode hx_c_Loom_readRecords 72 = .ok (.getfield 26, 3) := by decide +kernel
theorem hx_d_Loom_readRecords_75 : decode hx_c_Loom_readRecords 75 = .ok (.getfield 155, 3) := by decide +kernel
theorem hx_d_Loom_readRecords_78 : decode hx_c_Loom_readRecords 78 = .ok (.ifCond .ne 11, 3) := by decide +kernel
theorem hx_d_Loom_readRecords_81 : decode hx_c_Loom_readRecords 81 = .ok (.aload_n 0, 1) := by decide +kernel
theorem hx_d_Loom_readRecords_82 : decode hx_c_Loom_readRecords 82 = .ok (.iload_n 2, 1) := by decide +kernel
theorem hx_d_Loom_readRecords_83 : decode hx_c_Loom_readRecords 83 = .ok (.putfield 57, 3) := by decide +kernel
theorem hx_d_Loom_readRecords_86 : decode hx_c_Loom_readRecords 86 = .ok (.bipush 10, 2) := by decide +kernel
theorem hx_d_Loom_readRecords_88 : decode hx_c_Loom_readRecords 88 = .ok (.ireturn, 1) := by decide +kernel
theorem hx_d_Loom_readRecords_89 : decode hx_c_Loom_readRecords 89 = .ok (.aload_n 0, 1) := by decide +kernel
theorem hx_d_Loom_readRecords_90 : decode hx_c_Loom_readRecords 90 = .ok (.iconst (-1), 1) := by decide +kernel
theorem hx_d_Loom_readRecords_91 : decode hx_c_Loom_readRecords 91 = .ok (.putfield 57, 3) := by decide +kernel
theorem hx_d_Loom_readRecords_94 : decode hx_c_Loom_readRecords 94 = .ok (.aload_n 0, 1) := by decide +kernel
theorem hx_d_Loom_readRecords_95 : decode hx_c_Loom_readRecords 95 = .ok (.getfield 10, 3) := by decide +kernel
theorem hx_d_Loom_readRecords_98 : decode hx_c_Loom_readRecords 98 = .ok (.aload_n 0, 1) := by decide +kernel
theorem hx_d_Loom_readRecords_99 : decode hx_c_Loom_readRecords 99 = .ok (.getfield 26, 3) := by decide +kernel
theorem hx_d_Loom_readRecords_102 : decode hx_c_Loom_readRecords 102 = .ok (.getfield 159, 3) := by decide +kernel
theorem hx_d_Loom_readRecords_105 : decode hx_c_Loom_readRecords 105 = .ok (.aload_n 0, 1) := by decide +kernel
theorem hx_d_Loom_readRecords_106 : decode hx_c_Loom_readRecords 106 = .ok (.getfield 26, 3) := by decide +kernel
theorem hx_d_Loom_readRecords_109 : decode hx_c_Loom_readRecords 109 = .ok (.getfield 162, 3) := by decide +kernel
theorem hx_d_Loom_readRecords_112 : decode hx_c_Loom_readRecords 112 = .ok (.invokevirtual 165, 3) := by decide +kernel
theorem hx_d_Loom_readRecords_115 : decode hx_c_Loom_readRecords 115 = .ok (.aload_n 0, 1) := by decide +kernel
theorem hx_d_Loom_readRecords_116 : decode hx_c_Loom_readRecords 116 = .ok (.getfield 26, 3) := by decide +kernel
theorem hx_d_Loom_readRecords_119 : decode hx_c_Loom_readRecords 119 = .ok (.getfield 169, 3) := by decide +kernel
theorem hx_d_Loom_readRecords_122 : decode hx_c_Loom_readRecords 122 = .ok (.ldc2_w 51, 3) := by decide +kernel
theorem hx_d_Loom_readRecords_125 : decode hx_c_Loom_readRecords 125 = .ok (.lcmp, 1) := by decide +kernel
theorem hx_d_Loom_readRecords_126 : decode hx_c_Loom_readRecords 126 = .ok (.ifCond .eq 14, 3) := by decide +kernel
theorem hx_d_Loom_readRecords_129 : decode hx_c_Loom_readRecords 129 = .ok (.aload_n 0, 1) := by decide +kernel
theorem hx_d_Loom_readRecords_130 : decode hx_c_Loom_readRecords 130 = .ok (.aload_n 0, 1) := by decide +kernel
theorem hx_d_Loom_readRecords_131 : decode hx_c_Loom_readRecords 131 = .ok (.getfield 26, 3) := by decide +kernel
theorem hx_d_Loom_readRecords_134 : decode hx_c_Loom_readRecords 134 = .ok (.getfield 169, 3) := by decide +kernel
theorem hx_d_Loom_readRecords_137 : decode hx_c_Loom_readRecords 137 = .ok (.putfield 53, 3) := by decide +kernel
theorem hx_d_Loom_readRecords_140 : decode hx_c_Loom_readRecords 140 = .ok (.iconst 0, 1) := by decide +kernel
theorem hx_d_Loom_readRecords_141 : decode hx_c_Loom_readRecords 141 = .ok (.ireturn, 1) := by decide +kernel
theorem hx_d_Colon_restart_0 : decode hx_c_Colon_restart 0 = .ok (.aload_n 0, 1) := by decide +kernel
theorem hx_d_Colon_restart_1 : decode hx_c_Colon_restart 1 = .ok (.lconst 0, 1) := by decide +kernel
theorem hx_d_Colon_restart_2 : decode hx_c_Colon_restart 2 = .ok (.putfield 9, 3) := by decide +kernel
theorem hx_d_Colon_restart_5 : decode hx_c_Colon_restart 5 = .ok (.aload_n 0, 1) := by decide +kernel
theorem hx_d_Colon_restart_6 : decode hx_c_Colon_restart 6 = .ok (.iconst 0, 1) := by decide +kernel
theorem hx_d_Colon_restart_7 : decode hx_c_Colon_restart 7 = .ok (.putfield 15, 3) := by decide +kernel
theorem hx_d_Colon_restart_10 : decode hx_c_Colon_restart 10 = .ok (.return_, 1) := by decide +kernel
theorem hx_d_SRead_restart_0 : decode hx_c_SRead_restart 0 = .ok (.aload_n 0, 1) := by decide +kernel
theorem hx_d_SRead_restart_1 : decode hx_c_SRead_restart 1 = .ok (.iconst 0, 1) := by decide +kernel
theorem hx_d_SRead_restart_2 : decode hx_c_SRead_restart 2 = .ok (.putfield 9, 3) := by decide +kernel
theorem hx_d_SRead_restart_5 : decode hx_c_SRead_restart 5 = .ok (.return_, 1) := by decide +kernel
theorem hx_d_Typed_toNextRecord_0 : decode hx_c_Typed_toNextRecord 0 = .ok (.aload_n 0, 1) := by decide +kernel
theorem hx_d_Typed_toNextRecord_1 : decode hx_c_Typed_toNextRecord 1 = .ok (.aload_n 0, 1) := by decide +kernel
theorem hx_d_Typed_toNextRecord_2 : decode hx_c_Typed_toNextRecord 2 = .ok (.getfield 29, 3) := by decide +kernel
theorem hx_d_Typed_toNextRecord_5 : decode hx_c_Typed_toNextRecord 5 = .ok (.putfield 26, 3) := by decide +kernel
theorem hx_d_Typed_toNextRecord_8 : decode hx_c_Typed_toNextRecord 8 = .ok (.aload_n 0, 1) := by decide +kernel
theorem hx_d_Typed_toNextRecord_9 : decode hx_c_Typed_toNextRecord 9 = .ok (.getfield 26, 3) := by decide +kernel
theorem hx_d_Typed_toNextRecord_12 : decode hx_c_Typed_toNextRecord 12 = .ok (.aload_n 0, 1) := by decide +kernel
theorem hx_d_Typed_toNextRecord_13 : decode hx_c_Typed_toNextRecord 13 = .ok (.getfield 15, 3) := by decide +kernel
theorem hx_d_Typed_toNextRecord_16 : decode hx_c_Typed_toNextRecord 16 = .ok (.if_icmp .ge 30, 3) := by decide +kernel
theorem hx_d_Typed_toNextRecord_19 : decode hx_c_Typed_toNextRecord 19 = .ok (.aload_n 0, 1) := by decide +kernel
theorem hx_d_Typed_toNextRecord_20 : decode hx_c_Typed_toNextRecord 20 = .ok (.getfield 9, 3) := by decide +kernel
theorem hx_d_Typed_toNextRecord_23 : decode hx_c_Typed_toNextRecord 23 = .ok (.aload_n 0, 1) := by decide +kernel
theorem hx_d_Typed_toNextRecord_24 : decode hx_c_Typed_toNextRecord 24 = .ok (.getfield 26, 3) := by decide +kernel
theorem hx_d_Typed_toNextRecord_27 : decode hx_c_Typed_toNextRecord 27 = .ok (.baload, 1) := by decide +kernel
theorem hx_d_Typed_toNextRecord_28 : decode hx_c_Typed_toNextRecord 28 = .ok (.bipush 32, 2) := by decide +kernel
theorem hx_d_Typed_toNextRecord_30 : decode hx_c_Typed_toNextRecord 30 = .ok (.if_icmp .ne 16, 3) := by decide +kernel
theorem hx_d_Typed_toNextRecord_33 : decode hx_c_Typed_toNextRecord 33 = .ok (.aload_n 0, 1) := by decide +kernel
theorem hx_d_Typed_toNextRecord_34 : decode hx_c_Typed_toNextRecord 34 = .ok (.dup, 1) := by decide +kernel
theorem hx_d_Typed_toNextRecord_35 : decode hx_c_Typed_toNextRecord 35 = .ok (.getfield 26, 3) := by decide +kernel
theorem hx_d_Typed_toNextRecord_38 : decode hx_c_Typed_toNextRecord 38 = .ok (.iconst 1, 1) := by decide +kernel
theorem hx_d_Typed_toNextRecord_39 : decode hx_c_Typed_toNextRecord 39 = .ok (.iadd, 1) := by decide +kernel
theorem hx_d_Typed_toNextRecord_40 : decode hx_c_Typed_toNextRecord 40 = .ok (.putfield 26, 3) := by decide +kernel
theorem hx_d_Typed_toNextRecord_43 : decode hx_c_Typed_toNextRecord 43 = .ok (.goto (-35), 3) := by decide +kernel
theorem hx_d_Typed_toNextRecord_46 : decode hx_c_Typed_toNextRecord 46 = .ok (.aload_n 0, 1) := by decide +kernel
theorem hx_d_Typed_toNextRecord_47 : decode hx_c_Typed_toNextRecord 47 = .ok (.aload_n 0, 1) := by decide +kernel
theorem hx_d_Typed_toNextRecord_48 : decode hx_c_Typed_toNextRecord 48 = .ok (.getfield 26, 3) := by decide +kernel
theorem hx_d_Typed_toNextRecord_51 : decode hx_c_Typed_toNextRecord 51 = .ok (.putfield 29, 3) := by decide +kernel
theorem hx_d_Typed_toNextRecord_54 : decode hx_c_Typed_toNextRecord 54 = .ok (.aload_n 0, 1) := by decide +kernel
theorem hx_d_Typed_toNextRecord_55 : decode hx_c_Typed_toNextRecord 55 = .ok (.getfield 29, 3) := by decide +kernel
theorem hx_d_Typed_toNextRecord_58 : decode hx_c_Typed_toNextRecord 58 = .ok (.aload_n 0, 1) := by decide +kernel
theorem hx_d_Typed_toNextRecord_59 : decode hx_c_Typed_toNextRecord 59 = .ok (.getfield 15, 3) := by decide +kernel
theorem hx_d_Typed_toNextRecord_62 : decode hx_c_Typed_toNextRecord 62 = .ok (.if_icmp .ge 30, 3) := by decide +kernel
theorem hx_d_Typed_toNextRecord_65 : decode hx_c_Typed_toNextRecord 65 = .ok (.aload_n 0, 1) := by decide +kernel
theorem hx_d_Typed_toNextRecord_66 : decode hx_c_Typed_toNextRecord 66 = .ok (.getfield 9, 3) := by decide +kernel
theorem hx_d_Typed_toNextRecord_69 : decode hx_c_Typed_toNextRecord 69 = .ok (.aload_n 0, 1) := by decide +kernel
theorem hx_d_Typed_toNextRecord_70 : decode hx_c_Typed_toNextRecord 70 = .ok (.getfield 29, 3) := by decide +kernel
theorem hx_d_Typed_toNextRecord_73 : decode hx_c_Typed_toNextRecord 73 = .ok (.baload, 1) := by decide +kernel
theorem hx_d_Typed_toNextRecord_74 : decode hx_c_Typed_toNextRecord 74 = .ok (.bipush 32, 2) := by decide +kernel
theorem hx_d_Typed_toNextRecord_76 : decode hx_c_Typed_toNextRecord 76 = .ok (.if_icmp .eq 16, 3) := by decide +kernel
theorem hx_d_Typed_toNextRecord_79 : decode hx_c_Typed_toNextRecord 79 = .ok (.aload_n 0, 1) := by decide +kernel
theorem hx_d_Typed_toNextRecord_80 : decode hx_c_Typed_toNextRecord 80 = .ok (.dup, 1) := by decide +kernel
theorem hx_d_Typed_toNextRecord_81 : decode hx_c_Typed_toNextRecord 81 = .ok (.getfield 29, 3) := by decide +kernel
theorem hx_d_Typed_toNextRecord_84 : decode hx_c_Typed_toNextRecord 84 = .ok (.iconst 1, 1) := by decide +kernel
theorem hx_d_Typed_toNextRecord_85 : decode hx_c_Typed_toNextRecord 85 = .ok (.iadd, 1) := by decide +kernel
theorem hx_d_Typed_toNextRecord_86 : decode hx_c_Typed_toNextRecord 86 = .ok (.putfield 29, 3) := by decide +kernel
theorem hx_d_Typed_toNextRecord_89 : decode hx_c_Typed_toNextRecord 89 = .ok (.goto (-35), 3) := by decide +kernel
theorem hx_d_Typed_toNextRecord_92 : decode hx_c_Typed_toNextRecord 92 = .ok (.aload_n 0, 1) := by decide +kernel
theorem hx_d_Typed_toNextRecord_93 : decode hx_c_Typed_toNextRecord 93 = .ok (.aload_n 0, 1) := by decide +kernel
theorem hx_d_Typed_toNextRecord_94 : decode hx_c_Typed_toNextRecord 94 = .ok (.getfield 29, 3) := by decide +kernel
theorem hx_d_Typed_toNextRecord_97 : decode hx_c_Typed_toNextRecord 97 = .ok (.putfield 32, 3) := by decide +kernel
theorem hx_d_Typed_toNextRecord_100 : decode hx_c_Typed_toNextRecord 100 = .ok (.aload_n 0, 1) := by decide +kernel
theorem hx_d_Typed_toNextRecord_101 : decode hx_c_Typed_toNextRecord 101 = .ok (.getfield 26, 3) := by decide +kernel
theorem hx_d_Typed_toNextRecord_104 : decode hx_c_Typed_toNextRecord 104 = .ok (.aload_n 0, 1) := by decide +kernel
theorem hx_d_Typed_toNextRecord_105 : decode hx_c_Typed_toNextRecord 105 = .ok (.getfield 29, 3) := by decide +kernel
theorem hx_d_Typed_toNextRecord_108 : decode hx_c_Typed_toNextRecord 108 = .ok (.if_icmp .ge 7, 3) := by decide +kernel
theorem hx_d_Typed_toNextRecord_111 : decode hx_c_Typed_toNextRecord 111 = .ok (.iconst 1, 1) := by decide +kernel
theorem hx_d_Typed_toNextRecord_112 : decode hx_c_Typed_toNextRecord 112 = .ok (.goto 4, 3) := by decide +kernel
theorem hx_d_Typed_toNextRecord_115 : decode hx_c_Typed_toNextRecord 115 = .ok (.iconst 0, 1) := by decide +kernel
theorem hx_d_Typed_toNextRecord_116 : decode hx_c_Typed_toNextRecord 116 = .ok (.ireturn, 1) := by decide +kernel
theorem hx_d_Colon_faultOf_0 : decode hx_c_Colon_faultOf 0 = .ok (.aload_n 1, 1) := by decide +kernel
theorem hx_d_Colon_faultOf_1 : decode hx_c_Colon_faultOf 1 = .ok (.invokestatic 19, 3) := by decide +kernel
theorem hx_d_Colon_faultOf_4 : decode hx_c_Colon_faultOf 4 = .ok (.istore 4, 2) := by decide +kernel
theorem hx_d_Colon_faultOf_6 : decode hx_c_Colon_faultOf 6 = .ok (.iload 4, 2) := by decide +kernel
theorem hx_d_Colon_faultOf_8 : decode hx_c_Colon_faultOf 8 = .ok (.ifCond .eq 6, 3) := by decide +kernel
theorem hx_d_Colon_faultOf_11 : decode hx_c_Colon_faultOf 11 = .ok (.iload 4, 2) := by decide +kernel
theorem hx_d_Colon_faultOf_13 : decode hx_c_Colon_faultOf 13 = .ok (.ireturn, 1) := by decide +kernel
theorem hx_d_Colon_faultOf_14 : decode hx_c_Colon_faultOf 14 = .ok (.aload_n 2, 1) := by decide +kernel
theorem hx_d_Colon_faultOf_15 : decode hx_c_Colon_faultOf 15 = .ok (.getfield 23, 3) := by decide +kernel
theorem hx_d_Colon_faultOf_18 : decode hx_c_Colon_faultOf 18 = .ok (.ifCond .eq 6, 3) := by decide +kernel
theorem hx_d_Colon_faultOf_21 : decode hx_c_Colon_faultOf 21 = .ok (.bipush 6, 2) := by decide +kernel
theorem hx_d_Colon_faultOf_23 : decode hx_c_Colon_faultOf 23 = .ok (.ireturn, 1) := by decide +kernel
theorem hx_d_Colon_faultOf_24 : decode hx_c_Colon_faultOf 24 = .ok (.aload_n 1, 1) := by decide +kernel
theorem hx_d_Colon_faultOf_25 : decode hx_c_Colon_faultOf 25 = .ok (.iconst 3, 1) := by decide +kernel
theorem hx_d_Colon_faultOf_26 : decode hx_c_Colon_faultOf 26 = .ok (.invokevirtual 28, 3) := by decide +kernel
theorem hx_d_Colon_faultOf_29 : decode hx_c_Colon_faultOf 29 = .ok (.istore 5, 2) := by decide +kernel
theorem hx_d_Colon_faultOf_31 : decode hx_c_Colon_faultOf 31 = .ok (.iload 5, 2) := by decide +kernel
theorem hx_d_Colon_faultOf_33 : decode hx_c_Colon_faultOf 33 = .ok (.ifCond .ne 27, 3) := by decide +kernel
theorem hx_d_Colon_faultOf_36 : decode hx_c_Colon_faultOf 36 = .ok (.aload_n 1, 1) := by decide +kernel
theorem hx_d_Colon_faultOf_37 : decode hx_c_Colon_faultOf 37 = .ok (.iconst 1, 1) := by decide +kernel
theorem hx_d_Colon_faultOf_38 : decode hx_c_Colon_faultOf 38 = .ok (.iconst 2, 1) := by decide +kernel
theorem hx_d_Colon_faultOf_39 : decode hx_c_Colon_faultOf 39 = .ok (.invokevirtual 34, 3) := by decide +kernel
theorem hx_d_Colon_faultOf_42 : decode hx_c_Colon_faultOf 42 = .ok (.lstore 6, 2) := by decide +kernel
theorem hx_d_Colon_faultOf_44 : decode hx_c_Colon_faultOf 44 = .ok (.aload_n 0, 1) := by decide +kernel
theorem hx_d_Colon_faultOf_45 : decode hx_c_Colon_faultOf 45 = .ok (.aload_n 1, 1) := by decide +kernel
theorem hx_d_Colon_faultOf_46 : decode hx_c_Colon_faultOf 46 = .ok (.iconst 4, 1) := by decide +kernel
theorem hx_d_Colon_faultOf_47 : decode hx_c_Colon_faultOf 47 = .ok (.aload_n 1, 1) := by decide +kernel
theorem hx_d_Colon_faultOf_48 : decode hx_c_Colon_faultOf 48 = .ok (.iconst 0, 1) := by decide +kernel
theorem hx_d_Colon_faultOf_49 : decode hx_c_Colon_faultOf 49 = .ok (.invokevirtual 28, 3) := by decide +kernel
theorem hx_d_Colon_faultOf_52 : decode hx_c_Colon_faultOf 52 = .ok (.lload 6, 2) := by decide +kernel
theorem hx_d_Colon_faultOf_54 : decode hx_c_Colon_faultOf 54 = .ok (.aload_n 2, 1) := by decide +kernel
theorem hx_d_Colon_faultOf_55 : decode hx_c_Colon_faultOf 55 = .ok (.aload_n 3, 1) := by decide +kernel
theorem hx_d_Colon_faultOf_56 : decode hx_c_Colon_faultOf 56 = .ok (.invokevirtual 38, 3) := by decide +kernel
theorem hx_d_Colon_faultOf_59 : decode hx_c_Colon_faultOf 59 = .ok (.ireturn, 1) := by decide +kernel
theorem hx_d_Colon_faultOf_60 : decode hx_c_Colon_faultOf 60 = .ok (.aload_n 0, 1) := by decide +kernel
theorem hx_d_Colon_faultOf_61 : decode hx_c_Colon_faultOf 61 = .ok (.iload 5, 2) := by decide +kernel
theorem hx_d_Colon_faultOf_63 : decode hx_c_Colon_faultOf 63 = .ok (.aload_n 1, 1) := by decide +kernel
theorem hx_d_Colon_faultOf_64 : decode hx_c_Colon_faultOf 64 = .ok (.aload_n 2, 1) := by decide +kernel
theorem hx_d_Colon_faultOf_65 : decode hx_c_Colon_faultOf 65 = .ok (.invokevirtual 42, 3) := by decide +kernel
theorem hx_d_Colon_faultOf_68 : decode hx_c_Colon_faultOf 68 = .ok (.iconst 0, 1) := by decide +kernel
theorem hx_d_Colon_faultOf_69 : decode hx_c_Colon_faultOf 69 = .ok (.ireturn, 1) := by decide +kernel
theorem hx_d_Colon_faultOfForm_0 : decode hx_c_Colon_faultOfForm 0 = .ok (.aload_n 0, 1) := by decide +kernel
theorem hx_d_Colon_faultOfForm_1 : decode hx_c_Colon_faultOfForm 1 = .ok (.bipush 58, 2) := by decide +kernel
theorem hx_d_Colon_faultOfForm_3 : decode hx_c_Colon_faultOfForm 3 = .ok (.invokevirtual 46, 3) := by decide +kernel
theorem hx_d_Colon_faultOfForm_6 : decode hx_c_Colon_faultOfForm 6 = .ok (.ifCond .ne 5, 3) := by decide +kernel
theorem hx_d_Colon_faultOfForm_9 : decode hx_c_Colon_faultOfForm 9 = .ok (.iconst 1, 1) := by decide +kernel
theorem hx_d_Colon_faultOfForm_10 : decode hx_c_Colon_faultOfForm 10 = .ok (.ireturn, 1) := by decide +kernel
theorem hx_d_Colon_faultOfForm_11 : decode hx_c_Colon_faultOfForm 11 = .ok (.aload_n 0, 1) := by decide +kernel
theorem hx_d_Colon_faultOfForm_12 : decode hx_c_Colon_faultOfForm 12 = .ok (.iconst 1, 1) := by decide +kernel
theorem hx_d_Colon_faultOfForm_13 : decode hx_c_Colon_faultOfForm 13 = .ok (.invokevirtual 50, 3) := by decide +kernel
theorem hx_d_Colon_faultOfForm_16 : decode hx_c_Colon_faultOfForm 16 = .ok (.ifCond .ne 5, 3) := by decide +kernel
theorem hx_d_Colon_faultOfForm_19 : decode hx_c_Colon_faultOfForm 19 = .ok (.iconst 2, 1) := by decide +kernel
theorem hx_d_Colon_faultOfForm_20 : decode hx_c_Colon_faultOfForm 20 = .ok (.ireturn, 1) := by decide +kernel
theorem hx_d_Colon_faultOfForm_21 : decode hx_c_Colon_faultOfForm 21 = .ok (.aload_n 0, 1) := by decide +kernel
theorem hx_d_Colon_faultOfForm_22 : decode hx_c_Colon_faultOfForm 22 = .ok (.invokevirtual 54, 3) := by decide +kernel
theorem hx_d_Colon_faultOfForm_25 : decode hx_c_Colon_faultOfForm 25 = .ok (.istore_n 1, 1) := by decide +kernel
theorem hx_d_Colon_faultOfForm_26 : decode hx_c_Colon_faultOfForm 26 = .ok (.aload_n 0, 1) := by decide +kernel
theorem hx_d_Colon_faultOfForm_27 : decode hx_c_Colon_faultOfForm 27 = .ok (.invokevirtual 58, 3) := by decide +kernel
theorem hx_d_Colon_faultOfForm_30 : decode hx_c_Colon_faultOfForm 30 = .ok (.ifCond .ne 19, 3) := by decide +kernel
theorem hx_d_Colon_faultOfForm_33 : decode hx_c_Colon_faultOfForm 33 = .ok (.iload_n 1, 1) := by decide +kernel
theorem hx_d_Colon_faultOfForm_34 : decode hx_c_Colon_faultOfForm 34 = .ok (.iconst 5, 1) := by decide +kernel
theorem hx_d_Colon_faultOfForm_35 : decode hx_c_Colon_faultOfForm 35 = .ok (.if_icmp .lt 14, 3) := by decide +kernel
theorem hx_d_Colon_faultOfForm_38 : decode hx_c_Colon_faultOfForm 38 = .ok (.iload_n 1, 1) := by decide +kernel
theorem hx_d_Colon_faultOfForm_39 : decode hx_c_Colon_faultOfForm 39 = .ok (.aload_n 0, 1) := by decide +kernel
theorem hx_d_Colon_faultOfForm_40 : decode hx_c_Colon_faultOfForm 40 = .ok (.iconst 0, 1) := by decide +kernel
theorem hx_d_Colon_faultOfForm_41 : decode hx_c_Colon_faultOfForm 41 = .ok (.invokevirtual 28, 3) := by decide +kernel
theorem hx_d_Colon_faultOfForm_44 : decode hx_c_Colon_faultOfForm 44 = .ok (.iconst 5, 1) := by decide +kernel
theorem hx_d_Colon_faultOfForm_45 : decode hx_c_Colon_faultOfForm 45 = .ok (.iadd, 1) := by decide +kernel
theorem hx_d_Colon_faultOfForm_46 : decode hx_c_Colon_faultOfForm 46 = .ok (.if_icmp .eq 5, 3) := by decide +kernel
theorem hx_d_Colon_faultOfForm_49 : decode hx_c_Colon_faultOfForm 49 = .ok (.iconst 3, 1) := by decide +kernel
theorem hx_d_Colon_faultOfForm_50 : decode hx_c_Colon_faultOfForm 50 = .ok (.ireturn, 1) := by decide +kernel
theorem hx_d_Colon_faultOfForm_51 : decode hx_c_Colon_faultOfForm 51 = .ok (.aload_n 0, 1) := by decide +kernel
theorem hx_d_Colon_faultOfForm_52 : decode hx_c_Colon_faultOfForm 52 = .ok (.iconst 3, 1) := by decide +kernel
theorem hx_d_Colon_faultOfForm_53 : decode hx_c_Colon_faultOfForm 53 = .ok (.invokevirtual 28, 3) := by decide +kernel
theorem hx_d_Colon_faultOfForm_56 : decode hx_c_Colon_faultOfForm 56 = .ok (.aload_n 0, 1) := by decide +kernel
theorem hx_d_Colon_faultOfForm_57 : decode hx_c_Colon_faultOfForm 57 = .ok (.iconst 0, 1) := by decide +kernel
theorem hx_d_Colon_faultOfForm_58 : decode hx_c_Colon_faultOfForm 58 = .ok (.invokevirtual 28, 3) := by decide +kernel
theorem hx_d_Colon_faultOfForm_61 : decode hx_c_Colon_faultOfForm 61 = .ok (.invokestatic 62, 3) := by decide +kernel
theorem hx_d_Colon_faultOfForm_64 : decode hx_c_Colon_faultOfForm 64 = .ok (.ifCond .ne 5, 3) := by decide +kernel
theorem hx_d_Colon_faultOfForm_67 : decode hx_c_Colon_faultOfForm 67 = .ok (.iconst 4, 1) := by decide +kernel
theorem hx_d_Colon_faultOfForm_68 : decode hx_c_Colon_faultOfForm 68 = .ok (.ireturn, 1) := by decide +kernel
theorem hx_d_Colon_faultOfForm_69 : decode hx_c_Colon_faultOfForm 69 = .ok (.aload_n 0, 1) := by decide +kernel
theorem hx_d_Colon_faultOfForm_70 : decode hx_c_Colon_faultOfForm 70 = .ok (.invokevirtual 66, 3) := by decide +kernel
theorem hx_d_Colon_faultOfForm_73 : decode hx_c_Colon_faultOfForm 73 = .ok (.ifCond .ne 7, 3) := by decide +kernel
theorem hx_d_Colon_faultOfForm_76 : decode hx_c_Colon_faultOfForm 76 = .ok (.iconst 0, 1) := by decide +kernel
theorem hx_d_Colon_faultOfForm_77 : decode hx_c_Colon_faultOfForm 77 = .ok (.goto 4, 3) := by decide +kernel
theorem hx_d_Colon_faultOfForm_80 : decode hx_c_Colon_faultOfForm 80 = .ok (.iconst 5, 1) := by decide +kernel
theorem hx_d_Colon_faultOfForm_81 : decode hx_c_Colon_faultOfForm 81 = .ok (.ireturn, 1) := by decide +kernel
theorem hx_d_Typed_beginsWith_0 : decode hx_c_Typed_beginsWith 0 = .ok (.aload_n 0, 1) := by decide +kernel
theorem hx_d_Typed_beginsWith_1 : decode hx_c_Typed_beginsWith 1 = .ok (.getfield 26, 3) := by decide +kernel
theorem hx_d_Typed_beginsWith_4 : decode hx_c_Typed_beginsWith 4 = .ok (.aload_n 0, 1) := by decide +kernel
theorem hx_d_Typed_beginsWith_5 : decode hx_c_Typed_beginsWith 5 = .ok (.getfield 29, 3) := by decide +kernel
theorem hx_d_Typed_beginsWith_8 : decode hx_c_Typed_beginsWith 8 = .ok (.if_icmp .ge 20, 3) := by decide +kernel
theorem hx_d_Typed_beginsWith_11 : decode hx_c_Typed_beginsWith 11 = .ok (.aload_n 0, 1) := by decide +kernel
theorem hx_d_Typed_beginsWith_12 : decode hx_c_Typed_beginsWith 12 = .ok (.getfield 9, 3) := by decide +kernel
theorem hx_d_Typed_beginsWith_15 : decode hx_c_Typed_beginsWith 15 = .ok (.aload_n 0, 1) := by decide +kernel
theorem hx_d_Typed_beginsWith_16 : decode hx_c_Typed_beginsWith 16 = .ok (.getfield 26, 3) := by decide +kernel
theorem hx_d_Typed_beginsWith_19 : decode hx_c_Typed_beginsWith 19 = .ok (.baload, 1) := by decide +kernel
theorem hx_d_Typed_beginsWith_20 : decode hx_c_Typed_beginsWith 20 = .ok (.iload_n 1, 1) := by decide +kernel
theorem hx_d_Typed_beginsWith_21 : decode hx_c_Typed_beginsWith 21 = .ok (.if_icmp .ne 7, 3) := by decide +kernel
theorem hx_d_Typed_beginsWith_24 : decode hx_c_Typed_beginsWith 24 = .ok (.iconst 1, 1) := by decide +kernel
theorem hx_d_Typed_beginsWith_25 : decode hx_c_Typed_beginsWith 25 = .ok (.goto 4, 3) := by decide +kernel
theorem hx_d_Typed_beginsWith_28 : decode hx_c_Typed_beginsWith 28 = .ok (.iconst 0, 1) := by decide +kernel
theorem hx_d_Typed_beginsWith_29 : decode hx_c_Typed_beginsWith 29 = .ok (.ireturn, 1) := by decide +kernel
theorem hx_d_Typed_takeBytesFrom_0 : decode hx_c_Typed_takeBytesFrom 0 = .ok (.aload_n 0, 1) := by decide +kernel
theorem hx_d_Typed_takeBytesFrom_1 : decode hx_c_Typed_takeBytesFrom 1 = .ok (.iload_n 1, 1) := by decide +kernel
theorem hx_d_Typed_takeBytesFrom_2 : decode hx_c_Typed_takeBytesFrom 2 = .ok (.putfield 32, 3) := by decide +kernel
theorem hx_d_Typed_takeBytesFrom_5 : decode hx_c_Typed_takeBytesFrom 5 = .ok (.iload_n 1, 1) := by decide +kernel
theorem hx_d_Typed_takeBytesFrom_6 : decode hx_c_Typed_takeBytesFrom 6 = .ok (.istore_n 2, 1) := by decide +kernel
theorem hx_d_Typed_takeBytesFrom_7 : decode hx_c_Typed_takeBytesFrom 7 = .ok (.iload_n 2, 1) := by decide +kernel
theorem hx_d_Typed_takeBytesFrom_8 : decode hx_c_Typed_takeBytesFrom 8 = .ok (.aload_n 0, 1) := by decide +kernel
theorem hx_d_Typed_takeBytesFrom_9 : decode hx_c_Typed_takeBytesFrom 9 = .ok (.invokevirtual 35, 3) := by decide +kernel
theorem hx_d_Typed_takeBytesFrom_12 : decode hx_c_Typed_takeBytesFrom 12 = .ok (.if_icmp .ge 20, 3) := by decide +kernel
theorem hx_d_Typed_takeBytesFrom_15 : decode hx_c_Typed_takeBytesFrom 15 = .ok (.aload_n 0, 1) := by decide +kernel
theorem hx_d_Typed_takeBytesFrom_16 : decode hx_c_Typed_takeBytesFrom 16 = .ok (.iload_n 2, 1) := by decide +kernel
theorem hx_d_Typed_takeBytesFrom_17 : decode hx_c_Typed_takeBytesFrom 17 = .ok (.invokevirtual 39, 3) := by decide +kernel
theorem hx_d_Typed_takeBytesFrom_20 : decode hx_c_Typed_takeBytesFrom 20 = .ok (.iconst (-1), 1) := by decide +kernel
theorem hx_d_Typed_takeBytesFrom_21 : decode hx_c_Typed_takeBytesFrom 21 = .ok (.if_icmp .ne 5, 3) := by decide +kernel
theorem hx_d_Typed_takeBytesFrom_24 : decode hx_c_Typed_takeBytesFrom 24 = .ok (.iconst 0, 1) := by decide +kernel
theorem hx_d_Typed_takeBytesFrom_25 : decode hx_c_Typed_takeBytesFrom 25 = .ok (.ireturn, 1) := by decide +kernel
theorem hx_d_Typed_takeBytesFrom_26 : decode hx_c_Typed_takeBytesFrom 26 = .ok (.iinc 2 1, 3) := by decide +kernel
theorem hx_d_Typed_takeBytesFrom_29 : decode hx_c_Typed_takeBytesFrom 29 = .ok (.goto (-22), 3) := by decide +kernel
theorem hx_d_Typed_takeBytesFrom_32 : decode hx_c_Typed_takeBytesFrom 32 = .ok (.iconst 1, 1) := by decide +kernel
theorem hx_d_Typed_takeBytesFrom_33 : decode hx_c_Typed_takeBytesFrom 33 = .ok (.ireturn, 1) := by decide +kernel
theorem hx_d_Typed_recordLength_0 : decode hx_c_Typed_recordLength 0 = .ok (.aload_n 0, 1) := by decide +kernel
theorem hx_d_Typed_recordLength_1 : decode hx_c_Typed_recordLength 1 = .ok (.getfield 29, 3) := by decide +kernel
theorem hx_d_Typed_recordLength_4 : decode hx_c_Typed_recordLength 4 = .ok (.aload_n 0, 1) := by decide +kernel
theorem hx_d_Typed_recordLength_5 : decode hx_c_Typed_recordLength 5 = .ok (.getfield 26, 3) := by decide +kernel
theorem hx_d_Typed_recordLength_8 : decode hx_c_Typed_recordLength 8 = .ok (.isub, 1) := by decide +kernel
theorem hx_d_Typed_recordLength_9 : decode hx_c_Typed_recordLength 9 = .ok (.ireturn, 1) := by decide +kernel
theorem hx_d_Typed_digitAt_0 : decode hx_c_Typed_digitAt 0 = .ok (.aload_n 0, 1) := by decide +kernel
theorem hx_d_Typed_digitAt_1 : decode hx_c_Typed_digitAt 1 = .ok (.getfield 26, 3) := by decide +kernel
theorem hx_d_Typed_digitAt_4 : decode hx_c_Typed_digitAt 4 = .ok (.iload_n 1, 1) := by decide +kernel
theorem hx_d_Typed_digitAt_5 : decode hx_c_Typed_digitAt 5 = .ok (.iadd, 1) := by decide +kernel
theorem hx_d_Typed_digitAt_6 : decode hx_c_Typed_digitAt 6 = .ok (.istore_n 2, 1) := by decide +kernel
theorem hx_d_Typed_digitAt_7 : decode hx_c_Typed_digitAt 7 = .ok (.iload_n 2, 1) := by decide +kernel
theorem hx_d_Typed_digitAt_8 : decode hx_c_Typed_digitAt 8 = .ok (.aload_n 0, 1) := by decide +kernel
theorem hx_d_Typed_digitAt_9 : decode hx_c_Typed_digitAt 9 = .ok (.getfield 26, 3) := by decide +kernel
theorem hx_d_Typed_digitAt_12 : decode hx_c_Typed_digitAt 12 = .ok (.if_icmp .lt 11, 3) := by decide +kernel
theorem hx_d_Typed_digitAt_15 : decode hx_c_Typed_digitAt 15 = .ok (.iload_n 2, 1) := by decide +kernel
theorem hx_d_Typed_digitAt_16 : decode hx_c_Typed_digitAt 16 = .ok (.aload_n 0, 1) := by decide +kernel
theorem hx_d_Typed_digitAt_17 : decode hx_c_Typed_digitAt 17 = .ok (.getfield 29, 3) := by decide +kernel
theorem hx_d_Typed_digitAt_20 : decode hx_c_Typed_digitAt 20 = .ok (.if_icmp .lt 5, 3) := by decide +kernel
theorem hx_d_Typed_digitAt_23 : decode hx_c_Typed_digitAt 23 = .ok (.iconst (-1), 1) := by decide +kernel
theorem hx_d_Typed_digitAt_24 : decode hx_c_Typed_digitAt 24 = .ok (.ireturn, 1) := by decide +kernel
theorem hx_d_Typed_digitAt_25 : decode hx_c_Typed_digitAt 25 = .ok (.aload_n 0, 1) := by decide +kernel
theorem hx_d_Typed_digitAt_26 : decode hx_c_Typed_digitAt 26 = .ok (.getfield 9, 3) := by decide +kernel
theorem hx_d_Typed_digitAt_29 : decode hx_c_Typed_digitAt 29 = .ok (.iload_n 2, 1) := by decide +kernel
theorem hx_d_Typed_digitAt_30 : decode hx_c_Typed_digitAt 30 = .ok (.baload, 1) := by decide +kernel
theorem hx_d_Typed_digitAt_31 : decode hx_c_Typed_digitAt 31 = .ok (.istore_n 3, 1) := by decide +kernel
theorem hx_d_Typed_digitAt_32 : decode hx_c_Typed_digitAt 32 = .ok (.iload_n 3, 1) := by decide +kernel
theorem hx_d_Typed_digitAt_33 : decode hx_c_Typed_digitAt 33 = .ok (.bipush 48, 2) := by decide +kernel
theorem hx_d_Typed_digitAt_35 : decode hx_c_Typed_digitAt 35 = .ok (.if_icmp .lt 14, 3) := by decide +kernel
theorem hx_d_Typed_digitAt_38 : decode hx_c_Typed_digitAt 38 = .ok (.iload_n 3, 1) := by decide +kernel
theorem hx_d_Typed_digitAt_39 : decode hx_c_Typed_digitAt 39 = .ok (.bipush 57, 2) := by decide +kernel
theorem hx_d_Typed_digitAt_41 : decode hx_c_Typed_digitAt 41 = .ok (.if_icmp .gt 8, 3) := by decide +kernel
theorem hx_d_Typed_digitAt_44 : decode hx_c_Typed_digitAt 44 = .ok (.iload_n 3, 1) := by decide +kernel
theorem hx_d_Typed_digitAt_45 : decode hx_c_Typed_digitAt 45 = .ok (.bipush 48, 2) := by decide +kernel
theorem hx_d_Typed_digitAt_47 : decode hx_c_Typed_digitAt 47 = .ok (.isub, 1) := by decide +kernel
theorem hx_d_Typed_digitAt_48 : decode hx_c_Typed_digitAt 48 = .ok (.ireturn, 1) := by decide +kernel
theorem hx_d_Typed_digitAt_49 : decode hx_c_Typed_digitAt 49 = .ok (.iload_n 3, 1) := by decide +kernel
theorem hx_d_Typed_digitAt_50 : decode hx_c_Typed_digitAt 50 = .ok (.bipush 65, 2) := by decide +kernel
theorem hx_d_Typed_digitAt_52 : decode hx_c_Typed_digitAt 52 = .ok (.if_icmp .lt 17, 3) := by decide +kernel
theorem hx_d_Typed_digitAt_55 : decode hx_c_Typed_digitAt 55 = .ok (.iload_n 3, 1) := by decide +kernel
theorem hx_d_Typed_digitAt_56 : decode hx_c_Typed_digitAt 56 = .ok (.bipush 70, 2) := by decide +kernel
theorem hx_d_Typed_digitAt_58 : decode hx_c_Typed_digitAt 58 = .ok (.if_icmp .gt 11, 3) := by decide +kernel
theorem hx_d_Typed_digitAt_61 : decode hx_c_Typed_digitAt 61 = .ok (.iload_n 3, 1) := by decide +kernel
theorem hx_d_Typed_digitAt_62 : decode hx_c_Typed_digitAt 62 = .ok (.bipush 65, 2) := by decide +kernel
theorem hx_d_Typed_digitAt_64 : decode hx_c_Typed_digitAt 64 = .ok (.isub, 1) := by decide +kernel
theorem hx_d_Typed_digitAt_65 : decode hx_c_Typed_digitAt 65 = .ok (.bipush 10, 2) := by decide +kernel
theorem hx_d_Typed_digitAt_67 : decode hx_c_Typed_digitAt 67 = .ok (.iadd, 1) := by decide +kernel
theorem hx_d_Typed_digitAt_68 : decode hx_c_Typed_digitAt 68 = .ok (.ireturn, 1) := by decide +kernel
theorem hx_d_Typed_digitAt_69 : decode hx_c_Typed_digitAt 69 = .ok (.iload_n 3, 1) := by decide +kernel
theorem hx_d_Typed_digitAt_70 : decode hx_c_Typed_digitAt 70 = .ok (.bipush 97, 2) := by decide +kernel
theorem hx_d_Typed_digitAt_72 : decode hx_c_Typed_digitAt 72 = .ok (.if_icmp .lt 17, 3) := by decide +kernel
theorem hx_d_Typed_digitAt_75 : decode hx_c_Typed_digitAt 75 = .ok (.iload_n 3, 1) := by decide +kernel
theorem hx_d_Typed_digitAt_76 : decode hx_c_Typed_digitAt 76 = .ok (.bipush 102, 2) := by decide +kernel
theorem hx_d_Typed_digitAt_78 : decode hx_c_Typed_digitAt 78 = .ok (.if_icmp .gt 11, 3) := by decide +kernel
theorem hx_d_Typed_digitAt_81 : decode hx_c_Typed_digitAt 81 = .ok (.iload_n 3, 1) := by decide +kernel
theorem hx_d_Typed_digitAt_82 : decode hx_c_Typed_digitAt 82 = .ok (.bipush 97, 2) := by decide +kernel
theorem hx_d_Typed_digitAt_84 : decode hx_c_Typed_digitAt 84 = .ok (.isub, 1) := by decide +kernel
theorem hx_d_Typed_digitAt_85 : decode hx_c_Typed_digitAt 85 = .ok (.bipush 10, 2) := by decide +kernel
theorem hx_d_Typed_digitAt_87 : decode hx_c_Typed_digitAt 87 = .ok (.iadd, 1) := by decide +kernel
theorem hx_d_Typed_digitAt_88 : decode hx_c_Typed_digitAt 88 = .ok (.ireturn, 1) := by decide +kernel
theorem hx_d_Typed_digitAt_89 : decode hx_c_Typed_digitAt 89 = .ok (.iconst (-1), 1) := by decide +kernel
theorem hx_d_Typed_digitAt_90 : decode hx_c_Typed_digitAt 90 = .ok (.ireturn, 1) := by decide +kernel
theorem hx_d_Typed_bytes_0 : decode hx_c_Typed_bytes 0 = .ok (.aload_n 0, 1) := by decide +kernel
theorem hx_d_Typed_bytes_1 : decode hx_c_Typed_bytes 1 = .ok (.invokevirtual 35, 3) := by decide +kernel
theorem hx_d_Typed_bytes_4 : decode hx_c_Typed_bytes 4 = .ok (.aload_n 0, 1) := by decide +kernel
theorem hx_d_Typed_bytes_5 : decode hx_c_Typed_bytes 5 = .ok (.getfield 32, 3) := by decide +kernel
theorem hx_d_Typed_bytes_8 : decode hx_c_Typed_bytes 8 = .ok (.isub, 1) := by decide +kernel
theorem hx_d_Typed_bytes_9 : decode hx_c_Typed_bytes 9 = .ok (.iconst 2, 1) := by decide +kernel
theorem hx_d_Typed_bytes_10 : decode hx_c_Typed_bytes 10 = .ok (.idiv, 1) := by decide +kernel
theorem hx_d_Typed_bytes_11 : decode hx_c_Typed_bytes 11 = .ok (.ireturn, 1) := by decide +kernel
theorem hx_d_Typed_hasHalfByte_0 : decode hx_c_Typed_hasHalfByte 0 = .ok (.aload_n 0, 1) := by decide +kernel
theorem hx_d_Typed_hasHalfByte_1 : decode hx_c_Typed_hasHalfByte 1 = .ok (.invokevirtual 35, 3) := by decide +kernel
theorem hx_d_Typed_hasHalfByte_4 : decode hx_c_Typed_hasHalfByte 4 = .ok (.aload_n 0, 1) := by decide +kernel
theorem hx_d_Typed_hasHalfByte_5 : decode hx_c_Typed_hasHalfByte 5 = .ok (.getfield 32, 3) := by decide +kernel
theorem hx_d_Typed_hasHalfByte_8 : decode hx_c_Typed_hasHalfByte 8 = .ok (.isub, 1) := by decide +kernel
theorem hx_d_Typed_hasHalfByte_9 : decode hx_c_Typed_hasHalfByte 9 = .ok (.iconst 2, 1) := by decide +kernel
theorem hx_d_Typed_hasHalfByte_10 : decode hx_c_Typed_hasHalfByte 10 = .ok (.irem, 1) := by decide +kernel
theorem hx_d_Typed_hasHalfByte_11 : decode hx_c_Typed_hasHalfByte 11 = .ok (.ifCond .eq 7, 3) := by decide +kernel
theorem hx_d_Typed_hasHalfByte_14 : decode hx_c_Typed_hasHalfByte 14 = .ok (.iconst 1, 1) := by decide +kernel
theorem hx_d_Typed_hasHalfByte_15 : decode hx_c_Typed_hasHalfByte 15 = .ok (.goto 4, 3) := by decide +kernel
theorem hx_d_Typed_hasHalfByte_18 : decode hx_c_Typed_hasHalfByte 18 = .ok (.iconst 0, 1) := by decide +kernel
theorem hx_d_Typed_hasHalfByte_19 : decode hx_c_Typed_hasHalfByte 19 = .ok (.ireturn, 1) := by decide +kernel
theorem hx_d_Typed_byteAt_0 : decode hx_c_Typed_byteAt 0 = .ok (.aload_n 0, 1) := by decide +kernel
theorem hx_d_Typed_byteAt_1 : decode hx_c_Typed_byteAt 1 = .ok (.getfield 32, 3) := by decide +kernel
theorem hx_d_Typed_byteAt_4 : decode hx_c_Typed_byteAt 4 = .ok (.iconst 2, 1) := by decide +kernel
theorem hx_d_Typed_byteAt_5 : decode hx_c_Typed_byteAt 5 = .ok (.iload_n 1, 1) := by decide +kernel
theorem hx_d_Typed_byteAt_6 : decode hx_c_Typed_byteAt 6 = .ok (.imul, 1) := by decide +kernel
theorem hx_d_Typed_byteAt_7 : decode hx_c_Typed_byteAt 7 = .ok (.iadd, 1) := by decide +kernel
theorem hx_d_Typed_byteAt_8 : decode hx_c_Typed_byteAt 8 = .ok (.istore_n 2, 1) := by decide +kernel
theorem hx_d_Typed_byteAt_9 : decode hx_c_Typed_byteAt 9 = .ok (.aload_n 0, 1) := by decide +kernel
