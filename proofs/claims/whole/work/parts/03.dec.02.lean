theorem hx_d_Image_overlay_68 : decode hx_c_Image_overlay 68 = .ok (.iload 5, 2) := by decide +kernel
theorem hx_d_Image_overlay_70 : decode hx_c_Image_overlay 70 = .ok (.laload, 1) := by decide +kernel
theorem hx_d_Image_overlay_71 : decode hx_c_Image_overlay 71 = .ok (.lcmp, 1) := by decide +kernel
theorem hx_d_Image_overlay_72 : decode hx_c_Image_overlay 72 = .ok (.ifCond .le 35, 3) := by decide +kernel
theorem hx_d_Image_overlay_75 : decode hx_c_Image_overlay 75 = .ok (.aload_n 0, 1) := by decide +kernel
theorem hx_d_Image_overlay_76 : decode hx_c_Image_overlay 76 = .ok (.getfield 9, 3) := by decide +kernel
theorem hx_d_Image_overlay_79 : decode hx_c_Image_overlay 79 = .ok (.iload 4, 2) := by decide +kernel
theorem hx_d_Image_overlay_81 : decode hx_c_Image_overlay 81 = .ok (.aload_n 0, 1) := by decide +kernel
theorem hx_d_Image_overlay_82 : decode hx_c_Image_overlay 82 = .ok (.getfield 9, 3) := by decide +kernel
theorem hx_d_Image_overlay_85 : decode hx_c_Image_overlay 85 = .ok (.iload_n 3, 1) := by decide +kernel
theorem hx_d_Image_overlay_86 : decode hx_c_Image_overlay 86 = .ok (.laload, 1) := by decide +kernel
theorem hx_d_Image_overlay_87 : decode hx_c_Image_overlay 87 = .ok (.lastore, 1) := by decide +kernel
theorem hx_d_Image_overlay_88 : decode hx_c_Image_overlay 88 = .ok (.aload_n 0, 1) := by decide +kernel
theorem hx_d_Image_overlay_89 : decode hx_c_Image_overlay 89 = .ok (.getfield 15, 3) := by decide +kernel
theorem hx_d_Image_overlay_92 : decode hx_c_Image_overlay 92 = .ok (.iload 4, 2) := by decide +kernel
theorem hx_d_Image_overlay_94 : decode hx_c_Image_overlay 94 = .ok (.aload_n 0, 1) := by decide +kernel
theorem hx_d_Image_overlay_95 : decode hx_c_Image_overlay 95 = .ok (.getfield 15, 3) := by decide +kernel
theorem hx_d_Image_overlay_98 : decode hx_c_Image_overlay 98 = .ok (.iload_n 3, 1) := by decide +kernel
theorem hx_d_Image_overlay_99 : decode hx_c_Image_overlay 99 = .ok (.iaload, 1) := by decide +kernel
theorem hx_d_Image_overlay_100 : decode hx_c_Image_overlay 100 = .ok (.iastore, 1) := by decide +kernel
theorem hx_d_Image_overlay_101 : decode hx_c_Image_overlay 101 = .ok (.iinc 3 (-1), 3) := by decide +kernel
theorem hx_d_Image_overlay_104 : decode hx_c_Image_overlay 104 = .ok (.goto 58, 3) := by decide +kernel
theorem hx_d_Image_overlay_107 : decode hx_c_Image_overlay 107 = .ok (.iload_n 3, 1) := by decide +kernel
theorem hx_d_Image_overlay_108 : decode hx_c_Image_overlay 108 = .ok (.ifCond .lt 23, 3) := by decide +kernel
theorem hx_d_Image_overlay_111 : decode hx_c_Image_overlay 111 = .ok (.aload_n 0, 1) := by decide +kernel
theorem hx_d_Image_overlay_112 : decode hx_c_Image_overlay 112 = .ok (.getfield 9, 3) := by decide +kernel
theorem hx_d_Image_overlay_115 : decode hx_c_Image_overlay 115 = .ok (.iload_n 3, 1) := by decide +kernel
theorem hx_d_Image_overlay_116 : decode hx_c_Image_overlay 116 = .ok (.laload, 1) := by decide +kernel
theorem hx_d_Image_overlay_117 : decode hx_c_Image_overlay 117 = .ok (.aload_n 1, 1) := by decide +kernel
theorem hx_d_Image_overlay_118 : decode hx_c_Image_overlay 118 = .ok (.getfield 9, 3) := by decide +kernel
theorem hx_d_Image_overlay_121 : decode hx_c_Image_overlay 121 = .ok (.iload 5, 2) := by decide +kernel
theorem hx_d_Image_overlay_123 : decode hx_c_Image_overlay 123 = .ok (.laload, 1) := by decide +kernel
theorem hx_d_Image_overlay_124 : decode hx_c_Image_overlay 124 = .ok (.lcmp, 1) := by decide +kernel
theorem hx_d_Image_overlay_125 : decode hx_c_Image_overlay 125 = .ok (.ifCond .ne 6, 3) := by decide +kernel
theorem hx_d_Image_overlay_128 : decode hx_c_Image_overlay 128 = .ok (.iinc 3 (-1), 3) := by decide +kernel
theorem hx_d_Image_overlay_131 : decode hx_c_Image_overlay 131 = .ok (.aload_n 0, 1) := by decide +kernel
theorem hx_d_Image_overlay_132 : decode hx_c_Image_overlay 132 = .ok (.getfield 9, 3) := by decide +kernel
theorem hx_d_Image_overlay_135 : decode hx_c_Image_overlay 135 = .ok (.iload 4, 2) := by decide +kernel
theorem hx_d_Image_overlay_137 : decode hx_c_Image_overlay 137 = .ok (.aload_n 1, 1) := by decide +kernel
theorem hx_d_Image_overlay_138 : decode hx_c_Image_overlay 138 = .ok (.getfield 9, 3) := by decide +kernel
theorem hx_d_Image_overlay_141 : decode hx_c_Image_overlay 141 = .ok (.iload 5, 2) := by decide +kernel
theorem hx_d_Image_overlay_143 : decode hx_c_Image_overlay 143 = .ok (.laload, 1) := by decide +kernel
theorem hx_d_Image_overlay_144 : decode hx_c_Image_overlay 144 = .ok (.lastore, 1) := by decide +kernel
theorem hx_d_Image_overlay_145 : decode hx_c_Image_overlay 145 = .ok (.aload_n 0, 1) := by decide +kernel
theorem hx_d_Image_overlay_146 : decode hx_c_Image_overlay 146 = .ok (.getfield 15, 3) := by decide +kernel
theorem hx_d_Image_overlay_149 : decode hx_c_Image_overlay 149 = .ok (.iload 4, 2) := by decide +kernel
theorem hx_d_Image_overlay_151 : decode hx_c_Image_overlay 151 = .ok (.aload_n 1, 1) := by decide +kernel
theorem hx_d_Image_overlay_152 : decode hx_c_Image_overlay 152 = .ok (.getfield 15, 3) := by decide +kernel
theorem hx_d_Image_overlay_155 : decode hx_c_Image_overlay 155 = .ok (.iload 5, 2) := by decide +kernel
theorem hx_d_Image_overlay_157 : decode hx_c_Image_overlay 157 = .ok (.iaload, 1) := by decide +kernel
theorem hx_d_Image_overlay_158 : decode hx_c_Image_overlay 158 = .ok (.iastore, 1) := by decide +kernel
theorem hx_d_Image_overlay_159 : decode hx_c_Image_overlay 159 = .ok (.iinc 5 (-1), 3) := by decide +kernel
theorem hx_d_Image_overlay_162 : decode hx_c_Image_overlay 162 = .ok (.iinc 4 (-1), 3) := by decide +kernel
theorem hx_d_Image_overlay_165 : decode hx_c_Image_overlay 165 = .ok (.goto (-121), 3) := by decide +kernel
theorem hx_d_Image_overlay_168 : decode hx_c_Image_overlay 168 = .ok (.return_, 1) := by decide +kernel
theorem hx_d_Typed_forget_0 : decode hx_c_Typed_forget 0 = .ok (.aload_n 0, 1) := by decide +kernel
theorem hx_d_Typed_forget_1 : decode hx_c_Typed_forget 1 = .ok (.iconst 0, 1) := by decide +kernel
theorem hx_d_Typed_forget_2 : decode hx_c_Typed_forget 2 = .ok (.putfield 15, 3) := by decide +kernel
theorem hx_d_Typed_forget_5 : decode hx_c_Typed_forget 5 = .ok (.aload_n 0, 1) := by decide +kernel
theorem hx_d_Typed_forget_6 : decode hx_c_Typed_forget 6 = .ok (.invokevirtual 19, 3) := by decide +kernel
theorem hx_d_Typed_forget_9 : decode hx_c_Typed_forget 9 = .ok (.return_, 1) := by decide +kernel
theorem hx_d_Loom_place_0 : decode hx_c_Loom_place 0 = .ok (.aload_n 0, 1) := by decide +kernel
theorem hx_d_Loom_place_1 : decode hx_c_Loom_place 1 = .ok (.getfield 57, 3) := by decide +kernel
theorem hx_d_Loom_place_4 : decode hx_c_Loom_place 4 = .ok (.ireturn, 1) := by decide +kernel
theorem hx_d_Loom_set_0 : decode hx_c_Loom_set 0 = .ok (.aload_n 0, 1) := by decide +kernel
theorem hx_d_Loom_set_1 : decode hx_c_Loom_set 1 = .ok (.iload_n 1, 1) := by decide +kernel
theorem hx_d_Loom_set_2 : decode hx_c_Loom_set 2 = .ok (.iconst 1, 1) := by decide +kernel
theorem hx_d_Loom_set_3 : decode hx_c_Loom_set 3 = .ok (.iload_n 2, 1) := by decide +kernel
theorem hx_d_Loom_set_4 : decode hx_c_Loom_set 4 = .ok (.invokevirtual 72, 3) := by decide +kernel
theorem hx_d_Loom_set_7 : decode hx_c_Loom_set 7 = .ok (.ireturn, 1) := by decide +kernel
theorem hx_d_Loom_fill_0 : decode hx_c_Loom_fill 0 = .ok (.iload_n 1, 1) := by decide +kernel
theorem hx_d_Loom_fill_1 : decode hx_c_Loom_fill 1 = .ok (.iload_n 2, 1) := by decide +kernel
theorem hx_d_Loom_fill_2 : decode hx_c_Loom_fill 2 = .ok (.invokestatic 87, 3) := by decide +kernel
theorem hx_d_Loom_fill_5 : decode hx_c_Loom_fill 5 = .ok (.ifCond .eq 14, 3) := by decide +kernel
theorem hx_d_Loom_fill_8 : decode hx_c_Loom_fill 8 = .ok (.iload_n 3, 1) := by decide +kernel
theorem hx_d_Loom_fill_9 : decode hx_c_Loom_fill 9 = .ok (.ifCond .lt 10, 3) := by decide +kernel
theorem hx_d_Loom_fill_12 : decode hx_c_Loom_fill 12 = .ok (.iload_n 3, 1) := by decide +kernel
theorem hx_d_Loom_fill_13 : decode hx_c_Loom_fill 13 = .ok (.sipush 255, 3) := by decide +kernel
theorem hx_d_Loom_fill_16 : decode hx_c_Loom_fill 16 = .ok (.if_icmp .le 5, 3) := by decide +kernel
theorem hx_d_Loom_fill_19 : decode hx_c_Loom_fill 19 = .ok (.iconst 0, 1) := by decide +kernel
theorem hx_d_Loom_fill_20 : decode hx_c_Loom_fill 20 = .ok (.ireturn, 1) := by decide +kernel
theorem hx_d_Loom_fill_21 : decode hx_c_Loom_fill 21 = .ok (.aload_n 0, 1) := by decide +kernel
theorem hx_d_Loom_fill_22 : decode hx_c_Loom_fill 22 = .ok (.getfield 10, 3) := by decide +kernel
theorem hx_d_Loom_fill_25 : decode hx_c_Loom_fill 25 = .ok (.iload_n 1, 1) := by decide +kernel
theorem hx_d_Loom_fill_26 : decode hx_c_Loom_fill 26 = .ok (.invokestatic 76, 3) := by decide +kernel
theorem hx_d_Loom_fill_29 : decode hx_c_Loom_fill 29 = .ok (.iload_n 2, 1) := by decide +kernel
theorem hx_d_Loom_fill_30 : decode hx_c_Loom_fill 30 = .ok (.iload_n 3, 1) := by decide +kernel
theorem hx_d_Loom_fill_31 : decode hx_c_Loom_fill 31 = .ok (.invokevirtual 91, 3) := by decide +kernel
theorem hx_d_Loom_fill_34 : decode hx_c_Loom_fill 34 = .ok (.ifCond .eq 7, 3) := by decide +kernel
theorem hx_d_Loom_fill_37 : decode hx_c_Loom_fill 37 = .ok (.iconst 1, 1) := by decide +kernel
theorem hx_d_Loom_fill_38 : decode hx_c_Loom_fill 38 = .ok (.goto 4, 3) := by decide +kernel
theorem hx_d_Loom_fill_41 : decode hx_c_Loom_fill 41 = .ok (.iconst 0, 1) := by decide +kernel
theorem hx_d_Loom_fill_42 : decode hx_c_Loom_fill 42 = .ok (.ireturn, 1) := by decide +kernel
theorem hx_d_Loom_isBlock_0 : decode hx_c_Loom_isBlock 0 = .ok (.iload_n 1, 1) := by decide +kernel
theorem hx_d_Loom_isBlock_1 : decode hx_c_Loom_isBlock 1 = .ok (.iconst 1, 1) := by decide +kernel
theorem hx_d_Loom_isBlock_2 : decode hx_c_Loom_isBlock 2 = .ok (.if_icmp .lt 30, 3) := by decide +kernel
theorem hx_d_Loom_isBlock_5 : decode hx_c_Loom_isBlock 5 = .ok (.iload_n 1, 1) := by decide +kernel
theorem hx_d_Loom_isBlock_6 : decode hx_c_Loom_isBlock 6 = .ok (.sipush 256, 3) := by decide +kernel
theorem hx_d_Loom_isBlock_9 : decode hx_c_Loom_isBlock 9 = .ok (.if_icmp .gt 23, 3) := by decide +kernel
theorem hx_d_Loom_isBlock_12 : decode hx_c_Loom_isBlock 12 = .ok (.iload_n 0, 1) := by decide +kernel
theorem hx_d_Loom_isBlock_13 : decode hx_c_Loom_isBlock 13 = .ok (.invokestatic 76, 3) := by decide +kernel
theorem hx_d_Loom_isBlock_16 : decode hx_c_Loom_isBlock 16 = .ok (.iload_n 1, 1) := by decide +kernel
theorem hx_d_Loom_isBlock_17 : decode hx_c_Loom_isBlock 17 = .ok (.i2l, 1) := by decide +kernel
theorem hx_d_Loom_isBlock_18 : decode hx_c_Loom_isBlock 18 = .ok (.ladd, 1) := by decide +kernel
theorem hx_d_Loom_isBlock_19 : decode hx_c_Loom_isBlock 19 = .ok (.lconst 1, 1) := by decide +kernel
theorem hx_d_Loom_isBlock_20 : decode hx_c_Loom_isBlock 20 = .ok (.lsub, 1) := by decide +kernel
theorem hx_d_Loom_isBlock_21 : decode hx_c_Loom_isBlock 21 = .ok (.ldc2_w 137, 3) := by decide +kernel
theorem hx_d_Loom_isBlock_24 : decode hx_c_Loom_isBlock 24 = .ok (.lcmp, 1) := by decide +kernel
theorem hx_d_Loom_isBlock_25 : decode hx_c_Loom_isBlock 25 = .ok (.ifCond .gt 7, 3) := by decide +kernel
theorem hx_d_Loom_isBlock_28 : decode hx_c_Loom_isBlock 28 = .ok (.iconst 1, 1) := by decide +kernel
theorem hx_d_Loom_isBlock_29 : decode hx_c_Loom_isBlock 29 = .ok (.goto 4, 3) := by decide +kernel
theorem hx_d_Loom_isBlock_32 : decode hx_c_Loom_isBlock 32 = .ok (.iconst 0, 1) := by decide +kernel
theorem hx_d_Loom_isBlock_33 : decode hx_c_Loom_isBlock 33 = .ok (.ireturn, 1) := by decide +kernel
theorem hx_d_Loom_unsigned_0 : decode hx_c_Loom_unsigned 0 = .ok (.iload_n 0, 1) := by decide +kernel
theorem hx_d_Loom_unsigned_1 : decode hx_c_Loom_unsigned 1 = .ok (.i2l, 1) := by decide +kernel
theorem hx_d_Loom_unsigned_2 : decode hx_c_Loom_unsigned 2 = .ok (.ldc2_w 137, 3) := by decide +kernel
theorem hx_d_Loom_unsigned_5 : decode hx_c_Loom_unsigned 5 = .ok (.land, 1) := by decide +kernel
theorem hx_d_Loom_unsigned_6 : decode hx_c_Loom_unsigned 6 = .ok (.lreturn, 1) := by decide +kernel
theorem hx_d_Loom_drop_0 : decode hx_c_Loom_drop 0 = .ok (.aload_n 0, 1) := by decide +kernel
theorem hx_d_Loom_drop_1 : decode hx_c_Loom_drop 1 = .ok (.getfield 10, 3) := by decide +kernel
theorem hx_d_Loom_drop_4 : decode hx_c_Loom_drop 4 = .ok (.iload_n 1, 1) := by decide +kernel
theorem hx_d_Loom_drop_5 : decode hx_c_Loom_drop 5 = .ok (.invokestatic 76, 3) := by decide +kernel
theorem hx_d_Loom_drop_8 : decode hx_c_Loom_drop 8 = .ok (.invokevirtual 80, 3) := by decide +kernel
theorem hx_d_Loom_drop_11 : decode hx_c_Loom_drop 11 = .ok (.ireturn, 1) := by decide +kernel
theorem hx_d_Image_remove_0 : decode hx_c_Image_remove 0 = .ok (.aload_n 0, 1) := by decide +kernel
theorem hx_d_Image_remove_1 : decode hx_c_Image_remove 1 = .ok (.lload_n 1, 1) := by decide +kernel
theorem hx_d_Image_remove_2 : decode hx_c_Image_remove 2 = .ok (.invokevirtual 39, 3) := by decide +kernel
theorem hx_d_Image_remove_5 : decode hx_c_Image_remove 5 = .ok (.istore_n 3, 1) := by decide +kernel
theorem hx_d_Image_remove_6 : decode hx_c_Image_remove 6 = .ok (.aload_n 0, 1) := by decide +kernel
theorem hx_d_Image_remove_7 : decode hx_c_Image_remove 7 = .ok (.lload_n 1, 1) := by decide +kernel
theorem hx_d_Image_remove_8 : decode hx_c_Image_remove 8 = .ok (.iconst 1, 1) := by decide +kernel
theorem hx_d_Image_remove_9 : decode hx_c_Image_remove 9 = .ok (.iconst 0, 1) := by decide +kernel
theorem hx_d_Image_remove_10 : decode hx_c_Image_remove 10 = .ok (.invokevirtual 42, 3) := by decide +kernel
theorem hx_d_Image_remove_13 : decode hx_c_Image_remove 13 = .ok (.pop, 1) := by decide +kernel
theorem hx_d_Image_remove_14 : decode hx_c_Image_remove 14 = .ok (.iload_n 3, 1) := by decide +kernel
theorem hx_d_Image_remove_15 : decode hx_c_Image_remove 15 = .ok (.ireturn, 1) := by decide +kernel
theorem hx_d_Image_valueAt_0 : decode hx_c_Image_valueAt 0 = .ok (.aload_n 0, 1) := by decide +kernel
theorem hx_d_Image_valueAt_1 : decode hx_c_Image_valueAt 1 = .ok (.lload_n 1, 1) := by decide +kernel
theorem hx_d_Image_valueAt_2 : decode hx_c_Image_valueAt 2 = .ok (.invokevirtual 31, 3) := by decide +kernel
theorem hx_d_Image_valueAt_5 : decode hx_c_Image_valueAt 5 = .ok (.istore_n 3, 1) := by decide +kernel
theorem hx_d_Image_valueAt_6 : decode hx_c_Image_valueAt 6 = .ok (.aload_n 0, 1) := by decide +kernel
theorem hx_d_Image_valueAt_7 : decode hx_c_Image_valueAt 7 = .ok (.iload_n 3, 1) := by decide +kernel
theorem hx_d_Image_valueAt_8 : decode hx_c_Image_valueAt 8 = .ok (.invokevirtual 35, 3) := by decide +kernel
theorem hx_d_Image_valueAt_11 : decode hx_c_Image_valueAt 11 = .ok (.lload_n 1, 1) := by decide +kernel
theorem hx_d_Image_valueAt_12 : decode hx_c_Image_valueAt 12 = .ok (.lcmp, 1) := by decide +kernel
theorem hx_d_Image_valueAt_13 : decode hx_c_Image_valueAt 13 = .ok (.ifCond .ne 12, 3) := by decide +kernel
theorem hx_d_Image_valueAt_16 : decode hx_c_Image_valueAt 16 = .ok (.aload_n 0, 1) := by decide +kernel
theorem hx_d_Image_valueAt_17 : decode hx_c_Image_valueAt 17 = .ok (.getfield 15, 3) := by decide +kernel
theorem hx_d_Image_valueAt_20 : decode hx_c_Image_valueAt 20 = .ok (.iload_n 3, 1) := by decide +kernel
theorem hx_d_Image_valueAt_21 : decode hx_c_Image_valueAt 21 = .ok (.iaload, 1) := by decide +kernel
theorem hx_d_Image_valueAt_22 : decode hx_c_Image_valueAt 22 = .ok (.goto 4, 3) := by decide +kernel
theorem hx_d_Image_valueAt_25 : decode hx_c_Image_valueAt 25 = .ok (.iconst (-1), 1) := by decide +kernel
theorem hx_d_Image_valueAt_26 : decode hx_c_Image_valueAt 26 = .ok (.ireturn, 1) := by decide +kernel
theorem hx_d_Loom_get_0 : decode hx_c_Loom_get 0 = .ok (.aload_n 0, 1) := by decide +kernel
theorem hx_d_Loom_get_1 : decode hx_c_Loom_get 1 = .ok (.getfield 10, 3) := by decide +kernel
theorem hx_d_Loom_get_4 : decode hx_c_Loom_get 4 = .ok (.iload_n 1, 1) := by decide +kernel
theorem hx_d_Loom_get_5 : decode hx_c_Loom_get 5 = .ok (.invokestatic 76, 3) := by decide +kernel
theorem hx_d_Loom_get_8 : decode hx_c_Loom_get 8 = .ok (.invokevirtual 84, 3) := by decide +kernel
theorem hx_d_Loom_get_11 : decode hx_c_Loom_get 11 = .ok (.ireturn, 1) := by decide +kernel
theorem hx_d_Loom_copy_0 : decode hx_c_Loom_copy 0 = .ok (.iload_n 1, 1) := by decide +kernel
theorem hx_d_Loom_copy_1 : decode hx_c_Loom_copy 1 = .ok (.iload_n 2, 1) := by decide +kernel
theorem hx_d_Loom_copy_2 : decode hx_c_Loom_copy 2 = .ok (.invokestatic 87, 3) := by decide +kernel
theorem hx_d_Loom_copy_5 : decode hx_c_Loom_copy 5 = .ok (.ifCond .eq 11, 3) := by decide +kernel
theorem hx_d_Loom_copy_8 : decode hx_c_Loom_copy 8 = .ok (.iload_n 3, 1) := by decide +kernel
theorem hx_d_Loom_copy_9 : decode hx_c_Loom_copy 9 = .ok (.iload_n 2, 1) := by decide +kernel
theorem hx_d_Loom_copy_10 : decode hx_c_Loom_copy 10 = .ok (.invokestatic 87, 3) := by decide +kernel
theorem hx_d_Loom_copy_13 : decode hx_c_Loom_copy 13 = .ok (.ifCond .ne 5, 3) := by decide +kernel
theorem hx_d_Loom_copy_16 : decode hx_c_Loom_copy 16 = .ok (.iconst 0, 1) := by decide +kernel
theorem hx_d_Loom_copy_17 : decode hx_c_Loom_copy 17 = .ok (.ireturn, 1) := by decide +kernel
theorem hx_d_Loom_copy_18 : decode hx_c_Loom_copy 18 = .ok (.aload_n 0, 1) := by decide +kernel
theorem hx_d_Loom_copy_19 : decode hx_c_Loom_copy 19 = .ok (.getfield 10, 3) := by decide +kernel
theorem hx_d_Loom_copy_22 : decode hx_c_Loom_copy 22 = .ok (.iload_n 1, 1) := by decide +kernel
theorem hx_d_Loom_copy_23 : decode hx_c_Loom_copy 23 = .ok (.invokestatic 76, 3) := by decide +kernel
theorem hx_d_Loom_copy_26 : decode hx_c_Loom_copy 26 = .ok (.iload_n 2, 1) := by decide +kernel
theorem hx_d_Loom_copy_27 : decode hx_c_Loom_copy 27 = .ok (.iload_n 3, 1) := by decide +kernel
theorem hx_d_Loom_copy_28 : decode hx_c_Loom_copy 28 = .ok (.invokestatic 76, 3) := by decide +kernel
theorem hx_d_Loom_copy_31 : decode hx_c_Loom_copy 31 = .ok (.invokevirtual 95, 3) := by decide +kernel
theorem hx_d_Loom_copy_34 : decode hx_c_Loom_copy 34 = .ok (.ifCond .eq 7, 3) := by decide +kernel
theorem hx_d_Loom_copy_37 : decode hx_c_Loom_copy 37 = .ok (.iconst 1, 1) := by decide +kernel
theorem hx_d_Loom_copy_38 : decode hx_c_Loom_copy 38 = .ok (.goto 4, 3) := by decide +kernel
theorem hx_d_Loom_copy_41 : decode hx_c_Loom_copy 41 = .ok (.iconst 0, 1) := by decide +kernel
theorem hx_d_Loom_copy_42 : decode hx_c_Loom_copy 42 = .ok (.ireturn, 1) := by decide +kernel
theorem hx_d_Image_duplicate_0 : decode hx_c_Image_duplicate 0 = .ok (.aload_n 0, 1) := by decide +kernel
theorem hx_d_Image_duplicate_1 : decode hx_c_Image_duplicate 1 = .ok (.lload_n 1, 1) := by decide +kernel
theorem hx_d_Image_duplicate_2 : decode hx_c_Image_duplicate 2 = .ok (.invokevirtual 31, 3) := by decide +kernel
theorem hx_d_Image_duplicate_5 : decode hx_c_Image_duplicate 5 = .ok (.istore 6, 2) := by decide +kernel
theorem hx_d_Image_duplicate_7 : decode hx_c_Image_duplicate 7 = .ok (.aload_n 0, 1) := by decide +kernel
theorem hx_d_Image_duplicate_8 : decode hx_c_Image_duplicate 8 = .ok (.lload_n 1, 1) := by decide +kernel
theorem hx_d_Image_duplicate_9 : decode hx_c_Image_duplicate 9 = .ok (.iload_n 3, 1) := by decide +kernel
theorem hx_d_Image_duplicate_10 : decode hx_c_Image_duplicate 10 = .ok (.i2l, 1) := by decide +kernel
theorem hx_d_Image_duplicate_11 : decode hx_c_Image_duplicate 11 = .ok (.ladd, 1) := by decide +kernel
theorem hx_d_Image_duplicate_12 : decode hx_c_Image_duplicate 12 = .ok (.invokevirtual 31, 3) := by decide +kernel
theorem hx_d_Image_duplicate_15 : decode hx_c_Image_duplicate 15 = .ok (.iload 6, 2) := by decide +kernel
theorem hx_d_Image_duplicate_17 : decode hx_c_Image_duplicate 17 = .ok (.isub, 1) := by decide +kernel
theorem hx_d_Image_duplicate_18 : decode hx_c_Image_duplicate 18 = .ok (.sipush 256, 3) := by decide +kernel
theorem hx_d_Image_duplicate_21 : decode hx_c_Image_duplicate 21 = .ok (.invokestatic 46, 3) := by decide +kernel
theorem hx_d_Image_duplicate_24 : decode hx_c_Image_duplicate 24 = .ok (.istore 7, 2) := by decide +kernel
theorem hx_d_Image_duplicate_26 : decode hx_c_Image_duplicate 26 = .ok (.aload_n 0, 1) := by decide +kernel
theorem hx_d_Image_duplicate_27 : decode hx_c_Image_duplicate 27 = .ok (.getfield 9, 3) := by decide +kernel
theorem hx_d_Image_duplicate_30 : decode hx_c_Image_duplicate 30 = .ok (.iload 6, 2) := by decide +kernel
theorem hx_d_Image_duplicate_32 : decode hx_c_Image_duplicate 32 = .ok (.aload_n 0, 1) := by decide +kernel
theorem hx_d_Image_duplicate_33 : decode hx_c_Image_duplicate 33 = .ok (.getfield 19, 3) := by decide +kernel
theorem hx_d_Image_duplicate_36 : decode hx_c_Image_duplicate 36 = .ok (.iconst 0, 1) := by decide +kernel
theorem hx_d_Image_duplicate_37 : decode hx_c_Image_duplicate 37 = .ok (.iload 7, 2) := by decide +kernel
theorem hx_d_Image_duplicate_39 : decode hx_c_Image_duplicate 39 = .ok (.invokestatic 52, 3) := by decide +kernel
theorem hx_d_Image_duplicate_42 : decode hx_c_Image_duplicate 42 = .ok (.aload_n 0, 1) := by decide +kernel
theorem hx_d_Image_duplicate_43 : decode hx_c_Image_duplicate 43 = .ok (.getfield 15, 3) := by decide +kernel
theorem hx_d_Image_duplicate_46 : decode hx_c_Image_duplicate 46 = .ok (.iload 6, 2) := by decide +kernel
theorem hx_d_Image_duplicate_48 : decode hx_c_Image_duplicate 48 = .ok (.aload_n 0, 1) := by decide +kernel
theorem hx_d_Image_duplicate_49 : decode hx_c_Image_duplicate 49 = .ok (.getfield 22, 3) := by decide +kernel
theorem hx_d_Image_duplicate_52 : decode hx_c_Image_duplicate 52 = .ok (.iconst 0, 1) := by decide +kernel
theorem hx_d_Image_duplicate_53 : decode hx_c_Image_duplicate 53 = .ok (.iload 7, 2) := by decide +kernel
theorem hx_d_Image_duplicate_55 : decode hx_c_Image_duplicate 55 = .ok (.invokestatic 52, 3) := by decide +kernel
theorem hx_d_Image_duplicate_58 : decode hx_c_Image_duplicate 58 = .ok (.aload_n 0, 1) := by decide +kernel
theorem hx_d_Image_duplicate_59 : decode hx_c_Image_duplicate 59 = .ok (.lload 4, 2) := by decide +kernel
theorem hx_d_Image_duplicate_61 : decode hx_c_Image_duplicate 61 = .ok (.iload_n 3, 1) := by decide +kernel
theorem hx_d_Image_duplicate_62 : decode hx_c_Image_duplicate 62 = .ok (.iload 7, 2) := by decide +kernel
theorem hx_d_Image_duplicate_64 : decode hx_c_Image_duplicate 64 = .ok (.invokevirtual 42, 3) := by decide +kernel
theorem hx_d_Image_duplicate_67 : decode hx_c_Image_duplicate 67 = .ok (.istore 8, 2) := by decide +kernel
theorem hx_d_Image_duplicate_69 : decode hx_c_Image_duplicate 69 = .ok (.iload 8, 2) := by decide +kernel
theorem hx_d_Image_duplicate_71 : decode hx_c_Image_duplicate 71 = .ok (.iconst (-1), 1) := by decide +kernel
theorem hx_d_Image_duplicate_72 : decode hx_c_Image_duplicate 72 = .ok (.if_icmp .ne 5, 3) := by decide +kernel
theorem hx_d_Image_duplicate_75 : decode hx_c_Image_duplicate 75 = .ok (.iconst 0, 1) := by decide +kernel
theorem hx_d_Image_duplicate_76 : decode hx_c_Image_duplicate 76 = .ok (.ireturn, 1) := by decide +kernel
theorem hx_d_Image_duplicate_77 : decode hx_c_Image_duplicate 77 = .ok (.iconst 0, 1) := by decide +kernel
theorem hx_d_Image_duplicate_78 : decode hx_c_Image_duplicate 78 = .ok (.istore 9, 2) := by decide +kernel
theorem hx_d_Image_duplicate_80 : decode hx_c_Image_duplicate 80 = .ok (.iload 9, 2) := by decide +kernel
theorem hx_d_Image_duplicate_82 : decode hx_c_Image_duplicate 82 = .ok (.iload 7, 2) := by decide +kernel
theorem hx_d_Image_duplicate_84 : decode hx_c_Image_duplicate 84 = .ok (.if_icmp .ge 48, 3) := by decide +kernel
theorem hx_d_Image_duplicate_87 : decode hx_c_Image_duplicate 87 = .ok (.aload_n 0, 1) := by decide +kernel
theorem hx_d_Image_duplicate_88 : decode hx_c_Image_duplicate 88 = .ok (.getfield 9, 3) := by decide +kernel
theorem hx_d_Image_duplicate_91 : decode hx_c_Image_duplicate 91 = .ok (.iload 8, 2) := by decide +kernel
theorem hx_d_Image_duplicate_93 : decode hx_c_Image_duplicate 93 = .ok (.iload 9, 2) := by decide +kernel
theorem hx_d_Image_duplicate_95 : decode hx_c_Image_duplicate 95 = .ok (.iadd, 1) := by decide +kernel
theorem hx_d_Image_duplicate_96 : decode hx_c_Image_duplicate 96 = .ok (.aload_n 0, 1) := by decide +kernel
theorem hx_d_Image_duplicate_97 : decode hx_c_Image_duplicate 97 = .ok (.getfield 19, 3) := by decide +kernel
theorem hx_d_Image_duplicate_100 : decode hx_c_Image_duplicate 100 = .ok (.iload 9, 2) := by decide +kernel
theorem hx_d_Image_duplicate_102 : decode hx_c_Image_duplicate 102 = .ok (.laload, 1) := by decide +kernel
theorem hx_d_Image_duplicate_103 : decode hx_c_Image_duplicate 103 = .ok (.lload_n 1, 1) := by decide +kernel
theorem hx_d_Image_duplicate_104 : decode hx_c_Image_duplicate 104 = .ok (.lsub, 1) := by decide +kernel
theorem hx_d_Image_duplicate_105 : decode hx_c_Image_duplicate 105 = .ok (.lload 4, 2) := by decide +kernel
theorem hx_d_Image_duplicate_107 : decode hx_c_Image_duplicate 107 = .ok (.ladd, 1) := by decide +kernel
theorem hx_d_Image_duplicate_108 : decode hx_c_Image_duplicate 108 = .ok (.lastore, 1) := by decide +kernel
theorem hx_d_Image_duplicate_109 : decode hx_c_Image_duplicate 109 = .ok (.aload_n 0, 1) := by decide +kernel
theorem hx_d_Image_duplicate_110 : decode hx_c_Image_duplicate 110 = .ok (.getfield 15, 3) := by decide +kernel
theorem hx_d_Image_duplicate_113 : decode hx_c_Image_duplicate 113 = .ok (.iload 8, 2) := by decide +kernel
theorem hx_d_Image_duplicate_115 : decode hx_c_Image_duplicate 115 = .ok (.iload 9, 2) := by decide +kernel
theorem hx_d_Image_duplicate_117 : decode hx_c_Image_duplicate 117 = .ok (.iadd, 1) := by decide +kernel
theorem hx_d_Image_duplicate_118 : decode hx_c_Image_duplicate 118 = .ok (.aload_n 0, 1) := by decide +kernel
theorem hx_d_Image_duplicate_119 : decode hx_c_Image_duplicate 119 = .ok (.getfield 22, 3) := by decide +kernel
theorem hx_d_Image_duplicate_122 : decode hx_c_Image_duplicate 122 = .ok (.iload 9, 2) := by decide +kernel
theorem hx_d_Image_duplicate_124 : decode hx_c_Image_duplicate 124 = .ok (.iaload, 1) := by decide +kernel
theorem hx_d_Image_duplicate_125 : decode hx_c_Image_duplicate 125 = .ok (.iastore, 1) := by decide +kernel
theorem hx_d_Image_duplicate_126 : decode hx_c_Image_duplicate 126 = .ok (.iinc 9 1, 3) := by decide +kernel
theorem hx_d_Image_duplicate_129 : decode hx_c_Image_duplicate 129 = .ok (.goto (-49), 3) := by decide +kernel
theorem hx_d_Image_duplicate_132 : decode hx_c_Image_duplicate 132 = .ok (.iconst 1, 1) := by decide +kernel
theorem hx_d_Image_duplicate_133 : decode hx_c_Image_duplicate 133 = .ok (.ireturn, 1) := by decide +kernel
theorem hx_d_Math_min_0 : decode hx_c_Math_min 0 = .ok (.iload_n 0, 1) := by decide +kernel
theorem hx_d_Math_min_1 : decode hx_c_Math_min 1 = .ok (.iload_n 1, 1) := by decide +kernel
theorem hx_d_Math_min_2 : decode hx_c_Math_min 2 = .ok (.if_icmp .gt 7, 3) := by decide +kernel
theorem hx_d_Math_min_5 : decode hx_c_Math_min 5 = .ok (.iload_n 0, 1) := by decide +kernel
theorem hx_d_Math_min_6 : decode hx_c_Math_min 6 = .ok (.goto 4, 3) := by decide +kernel
theorem hx_d_Math_min_9 : decode hx_c_Math_min 9 = .ok (.iload_n 1, 1) := by decide +kernel
theorem hx_d_Math_min_10 : decode hx_c_Math_min 10 = .ok (.ireturn, 1) := by decide +kernel
theorem hx_d_Loom_clear_0 : decode hx_c_Loom_clear 0 = .ok (.aload_n 0, 1) := by decide +kernel
theorem hx_d_Loom_clear_1 : decode hx_c_Loom_clear 1 = .ok (.getfield 10, 3) := by decide +kernel
theorem hx_d_Loom_clear_4 : decode hx_c_Loom_clear 4 = .ok (.invokevirtual 99, 3) := by decide +kernel
theorem hx_d_Loom_clear_7 : decode hx_c_Loom_clear 7 = .ok (.istore_n 1, 1) := by decide +kernel
theorem hx_d_Loom_clear_8 : decode hx_c_Loom_clear 8 = .ok (.aload_n 0, 1) := by decide +kernel
theorem hx_d_Loom_clear_9 : decode hx_c_Loom_clear 9 = .ok (.getfield 10, 3) := by decide +kernel
theorem hx_d_Loom_clear_12 : decode hx_c_Loom_clear 12 = .ok (.invokevirtual 103, 3) := by decide +kernel
theorem hx_d_Loom_clear_15 : decode hx_c_Loom_clear 15 = .ok (.iload_n 1, 1) := by decide +kernel
theorem hx_d_Loom_clear_16 : decode hx_c_Loom_clear 16 = .ok (.ireturn, 1) := by decide +kernel
theorem hx_d_Loom_begin_0 : decode hx_c_Loom_begin 0 = .ok (.iload_n 1, 1) := by decide +kernel
theorem hx_d_Loom_begin_1 : decode hx_c_Loom_begin 1 = .ok (.ifCond .eq 10, 3) := by decide +kernel
theorem hx_d_Loom_begin_4 : decode hx_c_Loom_begin 4 = .ok (.iload_n 1, 1) := by decide +kernel
theorem hx_d_Loom_begin_5 : decode hx_c_Loom_begin 5 = .ok (.iconst 1, 1) := by decide +kernel
theorem hx_d_Loom_begin_6 : decode hx_c_Loom_begin 6 = .ok (.if_icmp .eq 5, 3) := by decide +kernel
theorem hx_d_Loom_begin_9 : decode hx_c_Loom_begin 9 = .ok (.iconst 0, 1) := by decide +kernel
theorem hx_d_Loom_begin_10 : decode hx_c_Loom_begin 10 = .ok (.ireturn, 1) := by decide +kernel
theorem hx_d_Loom_begin_11 : decode hx_c_Loom_begin 11 = .ok (.aload_n 0, 1) := by decide +kernel
theorem hx_d_Loom_begin_12 : decode hx_c_Loom_begin 12 = .ok (.iload_n 1, 1) := by decide +kernel
theorem hx_d_Loom_begin_13 : decode hx_c_Loom_begin 13 = .ok (.iconst 1, 1) := by decide +kernel
theorem hx_d_Loom_begin_14 : decode hx_c_Loom_begin 14 = .ok (.if_icmp .ne 10, 3) := by decide +kernel
theorem hx_d_Loom_begin_17 : decode hx_c_Loom_begin 17 = .ok (.iload_n 2, 1) := by decide +kernel
theorem hx_d_Loom_begin_18 : decode hx_c_Loom_begin 18 = .ok (.invokestatic 76, 3) := by decide +kernel
theorem hx_d_Loom_begin_21 : decode hx_c_Loom_begin 21 = .ok (.goto 6, 3) := by decide +kernel
theorem hx_d_Loom_begin_24 : decode hx_c_Loom_begin 24 = .ok (.ldc2_w 51, 3) := by decide +kernel
theorem hx_d_Loom_begin_27 : decode hx_c_Loom_begin 27 = .ok (.putfield 53, 3) := by decide +kernel
theorem hx_d_Loom_begin_30 : decode hx_c_Loom_begin 30 = .ok (.iconst 1, 1) := by decide +kernel
theorem hx_d_Loom_begin_31 : decode hx_c_Loom_begin 31 = .ok (.ireturn, 1) := by decide +kernel
theorem hx_d_Loom_start_0 : decode hx_c_Loom_start 0 = .ok (.aload_n 0, 1) := by decide +kernel
theorem hx_d_Loom_start_1 : decode hx_c_Loom_start 1 = .ok (.getfield 53, 3) := by decide +kernel
theorem hx_d_Loom_start_4 : decode hx_c_Loom_start 4 = .ok (.lreturn, 1) := by decide +kernel
theorem hx_d_Loom_count_0 : decode hx_c_Loom_count 0 = .ok (.iload_n 1, 1) := by decide +kernel
theorem hx_d_Loom_count_1 : decode hx_c_Loom_count 1 = .ok (.tableswitch 63 0 3 #[31, 39, 47, 55], 31) := by decide +kernel
theorem hx_d_Loom_count_32 : decode hx_c_Loom_count 32 = .ok (.aload_n 0, 1) := by decide +kernel
theorem hx_d_Loom_count_33 : decode hx_c_Loom_count 33 = .ok (.getfield 10, 3) := by decide +kernel
theorem hx_d_Loom_count_36 : decode hx_c_Loom_count 36 = .ok (.invokevirtual 99, 3) := by decide +kernel
theorem hx_d_Loom_count_39 : decode hx_c_Loom_count 39 = .ok (.ireturn, 1) := by decide +kernel
theorem hx_d_Loom_count_40 : decode hx_c_Loom_count 40 = .ok (.aload_n 0, 1) := by decide +kernel
theorem hx_d_Loom_count_41 : decode hx_c_Loom_count 41 = .ok (.getfield 10, 3) := by decide +kernel
theorem hx_d_Loom_count_44 : decode hx_c_Loom_count 44 = .ok (.invokevirtual 104, 3) := by decide +kernel
theorem hx_d_Loom_count_47 : decode hx_c_Loom_count 47 = .ok (.ireturn, 1) := by decide +kernel
theorem hx_d_Loom_count_48 : decode hx_c_Loom_count 48 = .ok (.aload_n 0, 1) := by decide +kernel
theorem hx_d_Loom_count_49 : decode hx_c_Loom_count 49 = .ok (.getfield 10, 3) := by decide +kernel
theorem hx_d_Loom_count_52 : decode hx_c_Loom_count 52 = .ok (.invokevirtual 107, 3) := by decide +kernel
theorem hx_d_Loom_count_55 : decode hx_c_Loom_count 55 = .ok (.ireturn, 1) := by decide +kernel
theorem hx_d_Loom_count_56 : decode hx_c_Loom_count 56 = .ok (.aload_n 0, 1) := by decide +kernel
theorem hx_d_Loom_count_57 : decode hx_c_Loom_count 57 = .ok (.getfield 47, 3) := by decide +kernel
theorem hx_d_Loom_count_60 : decode hx_c_Loom_count 60 = .ok (.invokevirtual 110, 3) := by decide +kernel
theorem hx_d_Loom_count_63 : decode hx_c_Loom_count 63 = .ok (.ireturn, 1) := by decide +kernel
theorem hx_d_Loom_count_64 : decode hx_c_Loom_count 64 = .ok (.iconst (-1), 1) := by decide +kernel
theorem hx_d_Loom_count_65 : decode hx_c_Loom_count 65 = .ok (.ireturn, 1) := by decide +kernel
theorem hx_d_Image_runs_0 : decode hx_c_Image_runs 0 = .ok (.iconst 0, 1) := by decide +kernel
theorem hx_d_Image_runs_1 : decode hx_c_Image_runs 1 = .ok (.istore_n 1, 1) := by decide +kernel
theorem hx_d_Image_runs_2 : decode hx_c_Image_runs 2 = .ok (.iconst 0, 1) := by decide +kernel
theorem hx_d_Image_runs_3 : decode hx_c_Image_runs 3 = .ok (.istore_n 2, 1) := by decide +kernel
theorem hx_d_Image_runs_4 : decode hx_c_Image_runs 4 = .ok (.iload_n 2, 1) := by decide +kernel
theorem hx_d_Image_runs_5 : decode hx_c_Image_runs 5 = .ok (.aload_n 0, 1) := by decide +kernel
theorem hx_d_Image_runs_6 : decode hx_c_Image_runs 6 = .ok (.getfield 25, 3) := by decide +kernel
theorem hx_d_Image_runs_9 : decode hx_c_Image_runs 9 = .ok (.if_icmp .ge 20, 3) := by decide +kernel
theorem hx_d_Image_runs_12 : decode hx_c_Image_runs 12 = .ok (.aload_n 0, 1) := by decide +kernel
theorem hx_d_Image_runs_13 : decode hx_c_Image_runs 13 = .ok (.iload_n 2, 1) := by decide +kernel
theorem hx_d_Image_runs_14 : decode hx_c_Image_runs 14 = .ok (.invokevirtual 58, 3) := by decide +kernel
theorem hx_d_Image_runs_17 : decode hx_c_Image_runs 17 = .ok (.ifCond .ne 6, 3) := by decide +kernel
theorem hx_d_Image_runs_20 : decode hx_c_Image_runs 20 = .ok (.iinc 1 1, 3) := by decide +kernel
theorem hx_d_Image_runs_23 : decode hx_c_Image_runs 23 = .ok (.iinc 2 1, 3) := by decide +kernel
theorem hx_d_Image_runs_26 : decode hx_c_Image_runs 26 = .ok (.goto (-22), 3) := by decide +kernel
theorem hx_d_Image_runs_29 : decode hx_c_Image_runs 29 = .ok (.iload_n 1, 1) := by decide +kernel
theorem hx_d_Image_runs_30 : decode hx_c_Image_runs 30 = .ok (.ireturn, 1) := by decide +kernel
theorem hx_d_Image_continuesRun_0 : decode hx_c_Image_continuesRun 0 = .ok (.iload_n 1, 1) := by decide +kernel
theorem hx_d_Image_continuesRun_1 : decode hx_c_Image_continuesRun 1 = .ok (.ifCond .le 35, 3) := by decide +kernel
theorem hx_d_Image_continuesRun_4 : decode hx_c_Image_continuesRun 4 = .ok (.iload_n 1, 1) := by decide +kernel
theorem hx_d_Image_continuesRun_5 : decode hx_c_Image_continuesRun 5 = .ok (.aload_n 0, 1) := by decide +kernel
theorem hx_d_Image_continuesRun_6 : decode hx_c_Image_continuesRun 6 = .ok (.getfield 25, 3) := by decide +kernel
theorem hx_d_Image_continuesRun_9 : decode hx_c_Image_continuesRun 9 = .ok (.if_icmp .ge 27, 3) := by decide +kernel
theorem hx_d_Image_continuesRun_12 : decode hx_c_Image_continuesRun 12 = .ok (.aload_n 0, 1) := by decide +kernel
theorem hx_d_Image_continuesRun_13 : decode hx_c_Image_continuesRun 13 = .ok (.getfield 9, 3) := by decide +kernel
theorem hx_d_Image_continuesRun_16 : decode hx_c_Image_continuesRun 16 = .ok (.iload_n 1, 1) := by decide +kernel
theorem hx_d_Image_continuesRun_17 : decode hx_c_Image_continuesRun 17 = .ok (.laload, 1) := by decide +kernel
theorem hx_d_Image_continuesRun_18 : decode hx_c_Image_continuesRun 18 = .ok (.aload_n 0, 1) := by decide +kernel
theorem hx_d_Image_continuesRun_19 : decode hx_c_Image_continuesRun 19 = .ok (.getfield 9, 3) := by decide +kernel
theorem hx_d_Image_continuesRun_22 : decode hx_c_Image_continuesRun 22 = .ok (.iload_n 1, 1) := by decide +kernel
theorem hx_d_Image_continuesRun_23 : decode hx_c_Image_continuesRun 23 = .ok (.iconst 1, 1) := by decide +kernel
theorem hx_d_Image_continuesRun_24 : decode hx_c_Image_continuesRun 24 = .ok (.isub, 1) := by decide +kernel
theorem hx_d_Image_continuesRun_25 : decode hx_c_Image_continuesRun 25 = .ok (.laload, 1) := by decide +kernel
theorem hx_d_Image_continuesRun_26 : decode hx_c_Image_continuesRun 26 = .ok (.lconst 1, 1) := by decide +kernel
theorem hx_d_Image_continuesRun_27 : decode hx_c_Image_continuesRun 27 = .ok (.ladd, 1) := by decide +kernel
theorem hx_d_Image_continuesRun_28 : decode hx_c_Image_continuesRun 28 = .ok (.lcmp, 1) := by decide +kernel
theorem hx_d_Image_continuesRun_29 : decode hx_c_Image_continuesRun 29 = .ok (.ifCond .ne 7, 3) := by decide +kernel
theorem hx_d_Image_continuesRun_32 : decode hx_c_Image_continuesRun 32 = .ok (.iconst 1, 1) := by decide +kernel
theorem hx_d_Image_continuesRun_33 : decode hx_c_Image_continuesRun 33 = .ok (.goto 4, 3) := by decide +kernel
theorem hx_d_Image_continuesRun_36 : decode hx_c_Image_continuesRun 36 = .ok (.iconst 0, 1) := by decide +kernel
theorem hx_d_Image_continuesRun_37 : decode hx_c_Image_continuesRun 37 = .ok (.ireturn, 1) := by decide +kernel
theorem hx_d_Image_total_0 : decode hx_c_Image_total 0 = .ok (.iconst 0, 1) := by decide +kernel
theorem hx_d_Image_total_1 : decode hx_c_Image_total 1 = .ok (.istore_n 1, 1) := by decide +kernel
theorem hx_d_Image_total_2 : decode hx_c_Image_total 2 = .ok (.iconst 0, 1) := by decide +kernel
theorem hx_d_Image_total_3 : decode hx_c_Image_total 3 = .ok (.istore_n 2, 1) := by decide +kernel
theorem hx_d_Image_total_4 : decode hx_c_Image_total 4 = .ok (.iload_n 2, 1) := by decide +kernel
theorem hx_d_Image_total_5 : decode hx_c_Image_total 5 = .ok (.aload_n 0, 1) := by decide +kernel
theorem hx_d_Image_total_6 : decode hx_c_Image_total 6 = .ok (.getfield 25, 3) := by decide +kernel
theorem hx_d_Image_total_9 : decode hx_c_Image_total 9 = .ok (.if_icmp .ge 18, 3) := by decide +kernel
theorem hx_d_Image_total_12 : decode hx_c_Image_total 12 = .ok (.iload_n 1, 1) := by decide +kernel
theorem hx_d_Image_total_13 : decode hx_c_Image_total 13 = .ok (.aload_n 0, 1) := by decide +kernel
theorem hx_d_Image_total_14 : decode hx_c_Image_total 14 = .ok (.getfield 15, 3) := by decide +kernel
theorem hx_d_Image_total_17 : decode hx_c_Image_total 17 = .ok (.iload_n 2, 1) := by decide +kernel
theorem hx_d_Image_total_18 : decode hx_c_Image_total 18 = .ok (.iaload, 1) := by decide +kernel
theorem hx_d_Image_total_19 : decode hx_c_Image_total 19 = .ok (.iadd, 1) := by decide +kernel
theorem hx_d_Image_total_20 : decode hx_c_Image_total 20 = .ok (.istore_n 1, 1) := by decide +kernel
theorem hx_d_Image_total_21 : decode hx_c_Image_total 21 = .ok (.iinc 2 1, 3) := by decide +kernel
theorem hx_d_Image_total_24 : decode hx_c_Image_total 24 = .ok (.goto (-20), 3) := by decide +kernel
theorem hx_d_Image_total_27 : decode hx_c_Image_total 27 = .ok (.iload_n 1, 1) := by decide +kernel
theorem hx_d_Image_total_28 : decode hx_c_Image_total 28 = .ok (.ireturn, 1) := by decide +kernel
theorem hx_d_Teller_length_0 : decode hx_c_Teller_length 0 = .ok (.aload_n 0, 1) := by decide +kernel
theorem hx_d_Teller_length_1 : decode hx_c_Teller_length 1 = .ok (.getfield 15, 3) := by decide +kernel
theorem hx_d_Teller_length_4 : decode hx_c_Teller_length 4 = .ok (.ireturn, 1) := by decide +kernel
theorem hx_d_Loom_run_0 : decode hx_c_Loom_run 0 = .ok (.aload_n 0, 1) := by decide +kernel
theorem hx_d_Loom_run_1 : decode hx_c_Loom_run 1 = .ok (.getfield 10, 3) := by decide +kernel
theorem hx_d_Loom_run_4 : decode hx_c_Loom_run 4 = .ok (.iload_n 1, 1) := by decide +kernel
theorem hx_d_Loom_run_5 : decode hx_c_Loom_run 5 = .ok (.invokevirtual 113, 3) := by decide +kernel
theorem hx_d_Loom_run_8 : decode hx_c_Loom_run 8 = .ok (.istore_n 3, 1) := by decide +kernel
theorem hx_d_Loom_run_9 : decode hx_c_Loom_run 9 = .ok (.iload_n 3, 1) := by decide +kernel
theorem hx_d_Loom_run_10 : decode hx_c_Loom_run 10 = .ok (.iconst (-1), 1) := by decide +kernel
theorem hx_d_Loom_run_11 : decode hx_c_Loom_run 11 = .ok (.if_icmp .ne 7, 3) := by decide +kernel
theorem hx_d_Loom_run_14 : decode hx_c_Loom_run 14 = .ok (.ldc2_w 51, 3) := by decide +kernel
theorem hx_d_Loom_run_17 : decode hx_c_Loom_run 17 = .ok (.lreturn, 1) := by decide +kernel
theorem hx_d_Loom_run_18 : decode hx_c_Loom_run 18 = .ok (.iload_n 2, 1) := by decide +kernel
theorem hx_d_Loom_run_19 : decode hx_c_Loom_run 19 = .ok (.lookupswitch 44 #[(0, 25), (1, 34)], 25) := by decide +kernel
theorem hx_d_Loom_run_44 : decode hx_c_Loom_run 44 = .ok (.aload_n 0, 1) := by decide +kernel
theorem hx_d_Loom_run_45 : decode hx_c_Loom_run 45 = .ok (.getfield 10, 3) := by decide +kernel
theorem hx_d_Loom_run_48 : decode hx_c_Loom_run 48 = .ok (.iload_n 3, 1) := by decide +kernel
theorem hx_d_Loom_run_49 : decode hx_c_Loom_run 49 = .ok (.invokevirtual 117, 3) := by decide +kernel
theorem hx_d_Loom_run_52 : decode hx_c_Loom_run 52 = .ok (.lreturn, 1) := by decide +kernel
theorem hx_d_Loom_run_53 : decode hx_c_Loom_run 53 = .ok (.aload_n 0, 1) := by decide +kernel
theorem hx_d_Loom_run_54 : decode hx_c_Loom_run 54 = .ok (.getfield 10, 3) := by decide +kernel
theorem hx_d_Loom_run_57 : decode hx_c_Loom_run 57 = .ok (.iload_n 3, 1) := by decide +kernel
theorem hx_d_Loom_run_58 : decode hx_c_Loom_run 58 = .ok (.invokevirtual 120, 3) := by decide +kernel
theorem hx_d_Loom_run_61 : decode hx_c_Loom_run 61 = .ok (.i2l, 1) := by decide +kernel
theorem hx_d_Loom_run_62 : decode hx_c_Loom_run 62 = .ok (.lreturn, 1) := by decide +kernel
theorem hx_d_Loom_run_63 : decode hx_c_Loom_run 63 = .ok (.ldc2_w 51, 3) := by decide +kernel
theorem hx_d_Loom_run_66 : decode hx_c_Loom_run 66 = .ok (.lreturn, 1) := by decide +kernel
theorem hx_d_Image_firstOfRun_0 : decode hx_c_Image_firstOfRun 0 = .ok (.iconst 0, 1) := by decide +kernel
theorem hx_d_Image_firstOfRun_1 : decode hx_c_Image_firstOfRun 1 = .ok (.istore_n 2, 1) := by decide +kernel
theorem hx_d_Image_firstOfRun_2 : decode hx_c_Image_firstOfRun 2 = .ok (.iconst 0, 1) := by decide +kernel
theorem hx_d_Image_firstOfRun_3 : decode hx_c_Image_firstOfRun 3 = .ok (.istore_n 3, 1) := by decide +kernel
theorem hx_d_Image_firstOfRun_4 : decode hx_c_Image_firstOfRun 4 = .ok (.iload_n 3, 1) := by decide +kernel
theorem hx_d_Image_firstOfRun_5 : decode hx_c_Image_firstOfRun 5 = .ok (.aload_n 0, 1) := by decide +kernel
theorem hx_d_Image_firstOfRun_6 : decode hx_c_Image_firstOfRun 6 = .ok (.getfield 25, 3) := by decide +kernel
theorem hx_d_Image_firstOfRun_9 : decode hx_c_Image_firstOfRun 9 = .ok (.if_icmp .ge 27, 3) := by decide +kernel
theorem hx_d_Image_firstOfRun_12 : decode hx_c_Image_firstOfRun 12 = .ok (.aload_n 0, 1) := by decide +kernel
theorem hx_d_Image_firstOfRun_13 : decode hx_c_Image_firstOfRun 13 = .ok (.iload_n 3, 1) := by decide +kernel
theorem hx_d_Image_firstOfRun_14 : decode hx_c_Image_firstOfRun 14 = .ok (.invokevirtual 58, 3) := by decide +kernel
theorem hx_d_Image_firstOfRun_17 : decode hx_c_Image_firstOfRun 17 = .ok (.ifCond .ne 13, 3) := by decide +kernel
theorem hx_d_Image_firstOfRun_20 : decode hx_c_Image_firstOfRun 20 = .ok (.iload_n 2, 1) := by decide +kernel
theorem hx_d_Image_firstOfRun_21 : decode hx_c_Image_firstOfRun 21 = .ok (.iload_n 1, 1) := by decide +kernel
theorem hx_d_Image_firstOfRun_22 : decode hx_c_Image_firstOfRun 22 = .ok (.if_icmp .ne 5, 3) := by decide +kernel
theorem hx_d_Image_firstOfRun_25 : decode hx_c_Image_firstOfRun 25 = .ok (.iload_n 3, 1) := by decide +kernel
theorem hx_d_Image_firstOfRun_26 : decode hx_c_Image_firstOfRun 26 = .ok (.ireturn, 1) := by decide +kernel
theorem hx_d_Image_firstOfRun_27 : decode hx_c_Image_firstOfRun 27 = .ok (.iinc 2 1, 3) := by decide +kernel
theorem hx_d_Image_firstOfRun_30 : decode hx_c_Image_firstOfRun 30 = .ok (.iinc 3 1, 3) := by decide +kernel
theorem hx_d_Image_firstOfRun_33 : decode hx_c_Image_firstOfRun 33 = .ok (.goto (-29), 3) := by decide +kernel
theorem hx_d_Image_firstOfRun_36 : decode hx_c_Image_firstOfRun 36 = .ok (.iconst (-1), 1) := by decide +kernel
theorem hx_d_Image_firstOfRun_37 : decode hx_c_Image_firstOfRun 37 = .ok (.ireturn, 1) := by decide +kernel
theorem hx_d_Image_lengthOfRun_0 : decode hx_c_Image_lengthOfRun 0 = .ok (.iload_n 1, 1) := by decide +kernel
theorem hx_d_Image_lengthOfRun_1 : decode hx_c_Image_lengthOfRun 1 = .ok (.iconst 1, 1) := by decide +kernel
theorem hx_d_Image_lengthOfRun_2 : decode hx_c_Image_lengthOfRun 2 = .ok (.iadd, 1) := by decide +kernel
theorem hx_d_Image_lengthOfRun_3 : decode hx_c_Image_lengthOfRun 3 = .ok (.istore_n 2, 1) := by decide +kernel
theorem hx_d_Image_lengthOfRun_4 : decode hx_c_Image_lengthOfRun 4 = .ok (.iload_n 2, 1) := by decide +kernel
theorem hx_d_Image_lengthOfRun_5 : decode hx_c_Image_lengthOfRun 5 = .ok (.aload_n 0, 1) := by decide +kernel
theorem hx_d_Image_lengthOfRun_6 : decode hx_c_Image_lengthOfRun 6 = .ok (.getfield 25, 3) := by decide +kernel
theorem hx_d_Image_lengthOfRun_9 : decode hx_c_Image_lengthOfRun 9 = .ok (.if_icmp .ge 17, 3) := by decide +kernel
theorem hx_d_Image_lengthOfRun_12 : decode hx_c_Image_lengthOfRun 12 = .ok (.aload_n 0, 1) := by decide +kernel
theorem hx_d_Image_lengthOfRun_13 : decode hx_c_Image_lengthOfRun 13 = .ok (.iload_n 2, 1) := by decide +kernel
theorem hx_d_Image_lengthOfRun_14 : decode hx_c_Image_lengthOfRun 14 = .ok (.invokevirtual 58, 3) := by decide +kernel
theorem hx_d_Image_lengthOfRun_17 : decode hx_c_Image_lengthOfRun 17 = .ok (.ifCond .eq 9, 3) := by decide +kernel
theorem hx_d_Image_lengthOfRun_20 : decode hx_c_Image_lengthOfRun 20 = .ok (.iinc 2 1, 3) := by decide +kernel
theorem hx_d_Image_lengthOfRun_23 : decode hx_c_Image_lengthOfRun 23 = .ok (.goto (-19), 3) := by decide +kernel
theorem hx_d_Image_lengthOfRun_26 : decode hx_c_Image_lengthOfRun 26 = .ok (.iload_n 2, 1) := by decide +kernel
theorem hx_d_Image_lengthOfRun_27 : decode hx_c_Image_lengthOfRun 27 = .ok (.iload_n 1, 1) := by decide +kernel
theorem hx_d_Image_lengthOfRun_28 : decode hx_c_Image_lengthOfRun 28 = .ok (.isub, 1) := by decide +kernel
theorem hx_d_Image_lengthOfRun_29 : decode hx_c_Image_lengthOfRun 29 = .ok (.ireturn, 1) := by decide +kernel
theorem hx_d_Loom_next_0 : decode hx_c_Loom_next 0 = .ok (.aload_n 0, 1) := by decide +kernel
theorem hx_d_Loom_next_1 : decode hx_c_Loom_next 1 = .ok (.getfield 10, 3) := by decide +kernel
theorem hx_d_Loom_next_4 : decode hx_c_Loom_next 4 = .ok (.aload_n 0, 1) := by decide +kernel
theorem hx_d_Loom_next_5 : decode hx_c_Loom_next 5 = .ok (.getfield 10, 3) := by decide +kernel
theorem hx_d_Loom_next_8 : decode hx_c_Loom_next 8 = .ok (.iload_n 1, 1) := by decide +kernel
theorem hx_d_Loom_next_9 : decode hx_c_Loom_next 9 = .ok (.invokestatic 76, 3) := by decide +kernel
theorem hx_d_Loom_next_12 : decode hx_c_Loom_next 12 = .ok (.invokevirtual 123, 3) := by decide +kernel
theorem hx_d_Loom_next_15 : decode hx_c_Loom_next 15 = .ok (.invokevirtual 117, 3) := by decide +kernel
theorem hx_d_Loom_next_18 : decode hx_c_Loom_next 18 = .ok (.lreturn, 1) := by decide +kernel
theorem hx_d_Loom_tell_0 : decode hx_c_Loom_tell 0 = .ok (.iload_n 1, 1) := by decide +kernel
theorem hx_d_Loom_tell_1 : decode hx_c_Loom_tell 1 = .ok (.ifCond .eq 8, 3) := by decide +kernel
theorem hx_d_Loom_tell_4 : decode hx_c_Loom_tell 4 = .ok (.iload_n 1, 1) := by decide +kernel
theorem hx_d_Loom_tell_5 : decode hx_c_Loom_tell 5 = .ok (.iconst 1, 1) := by decide +kernel
theorem hx_d_Loom_tell_6 : decode hx_c_Loom_tell 6 = .ok (.if_icmp .ne 14, 3) := by decide +kernel
theorem hx_d_Loom_tell_9 : decode hx_c_Loom_tell 9 = .ok (.iload_n 2, 1) := by decide +kernel
theorem hx_d_Loom_tell_10 : decode hx_c_Loom_tell 10 = .ok (.iconst 1, 1) := by decide +kernel
theorem hx_d_Loom_tell_11 : decode hx_c_Loom_tell 11 = .ok (.if_icmp .lt 9, 3) := by decide +kernel
theorem hx_d_Loom_tell_14 : decode hx_c_Loom_tell 14 = .ok (.iload_n 2, 1) := by decide +kernel
theorem hx_d_Loom_tell_15 : decode hx_c_Loom_tell 15 = .ok (.bipush 32, 2) := by decide +kernel
theorem hx_d_Loom_tell_17 : decode hx_c_Loom_tell 17 = .ok (.if_icmp .le 5, 3) := by decide +kernel
theorem hx_d_Loom_tell_20 : decode hx_c_Loom_tell 20 = .ok (.iconst (-1), 1) := by decide +kernel
theorem hx_d_Loom_tell_21 : decode hx_c_Loom_tell 21 = .ok (.ireturn, 1) := by decide +kernel
theorem hx_d_Loom_tell_22 : decode hx_c_Loom_tell 22 = .ok (.aload_n 0, 1) := by decide +kernel
theorem hx_d_Loom_tell_23 : decode hx_c_Loom_tell 23 = .ok (.getfield 47, 3) := by decide +kernel
theorem hx_d_Loom_tell_26 : decode hx_c_Loom_tell 26 = .ok (.aload_n 0, 1) := by decide +kernel
theorem hx_d_Loom_tell_27 : decode hx_c_Loom_tell 27 = .ok (.getfield 10, 3) := by decide +kernel
theorem hx_d_Loom_tell_30 : decode hx_c_Loom_tell 30 = .ok (.aload_n 0, 1) := by decide +kernel
theorem hx_d_Loom_tell_31 : decode hx_c_Loom_tell 31 = .ok (.getfield 53, 3) := by decide +kernel
theorem hx_d_Loom_tell_34 : decode hx_c_Loom_tell 34 = .ok (.iload_n 1, 1) := by decide +kernel
theorem hx_d_Loom_tell_35 : decode hx_c_Loom_tell 35 = .ok (.iload_n 2, 1) := by decide +kernel
theorem hx_d_Loom_tell_36 : decode hx_c_Loom_tell 36 = .ok (.invokevirtual 126, 3) := by decide +kernel
theorem hx_d_Loom_tell_39 : decode hx_c_Loom_tell 39 = .ok (.ireturn, 1) := by decide +kernel
theorem hx_d_Teller_weave_0 : decode hx_c_Teller_weave 0 = .ok (.iconst 0, 1) := by decide +kernel
theorem hx_d_Teller_weave_1 : decode hx_c_Teller_weave 1 = .ok (.istore 6, 2) := by decide +kernel
theorem hx_d_Teller_weave_3 : decode hx_c_Teller_weave 3 = .ok (.iload 6, 2) := by decide +kernel
theorem hx_d_Teller_weave_5 : decode hx_c_Teller_weave 5 = .ok (.iconst 2, 1) := by decide +kernel
theorem hx_d_Teller_weave_6 : decode hx_c_Teller_weave 6 = .ok (.if_icmp .ge 66, 3) := by decide +kernel
theorem hx_d_Teller_weave_9 : decode hx_c_Teller_weave 9 = .ok (.aload_n 0, 1) := by decide +kernel
theorem hx_d_Teller_weave_10 : decode hx_c_Teller_weave 10 = .ok (.iload 6, 2) := by decide +kernel
theorem hx_d_Teller_weave_12 : decode hx_c_Teller_weave 12 = .ok (.iconst 1, 1) := by decide +kernel
theorem hx_d_Teller_weave_13 : decode hx_c_Teller_weave 13 = .ok (.if_icmp .ne 7, 3) := by decide +kernel
theorem hx_d_Teller_weave_16 : decode hx_c_Teller_weave 16 = .ok (.iconst 1, 1) := by decide +kernel
theorem hx_d_Teller_weave_17 : decode hx_c_Teller_weave 17 = .ok (.goto 4, 3) := by decide +kernel
theorem hx_d_Teller_weave_20 : decode hx_c_Teller_weave 20 = .ok (.iconst 0, 1) := by decide +kernel
theorem hx_d_Teller_weave_21 : decode hx_c_Teller_weave 21 = .ok (.putfield 22, 3) := by decide +kernel
theorem hx_d_Teller_weave_24 : decode hx_c_Teller_weave 24 = .ok (.aload_n 0, 1) := by decide +kernel
theorem hx_d_Teller_weave_25 : decode hx_c_Teller_weave 25 = .ok (.iconst 0, 1) := by decide +kernel
theorem hx_d_Teller_weave_26 : decode hx_c_Teller_weave 26 = .ok (.putfield 19, 3) := by decide +kernel
theorem hx_d_Teller_weave_29 : decode hx_c_Teller_weave 29 = .ok (.iload 4, 2) := by decide +kernel
theorem hx_d_Teller_weave_31 : decode hx_c_Teller_weave 31 = .ok (.ifCond .ne 14, 3) := by decide +kernel
theorem hx_d_Teller_weave_34 : decode hx_c_Teller_weave 34 = .ok (.aload_n 0, 1) := by decide +kernel
theorem hx_d_Teller_weave_35 : decode hx_c_Teller_weave 35 = .ok (.aload_n 1, 1) := by decide +kernel
theorem hx_d_Teller_weave_36 : decode hx_c_Teller_weave 36 = .ok (.lload_n 2, 1) := by decide +kernel
theorem hx_d_Teller_weave_37 : decode hx_c_Teller_weave 37 = .ok (.iload 5, 2) := by decide +kernel
theorem hx_d_Teller_weave_39 : decode hx_c_Teller_weave 39 = .ok (.invokevirtual 33, 3) := by decide +kernel
theorem hx_d_Teller_weave_42 : decode hx_c_Teller_weave 42 = .ok (.goto 11, 3) := by decide +kernel
theorem hx_d_Teller_weave_45 : decode hx_c_Teller_weave 45 = .ok (.aload_n 0, 1) := by decide +kernel
theorem hx_d_Teller_weave_46 : decode hx_c_Teller_weave 46 = .ok (.aload_n 1, 1) := by decide +kernel
theorem hx_d_Teller_weave_47 : decode hx_c_Teller_weave 47 = .ok (.lload_n 2, 1) := by decide +kernel
theorem hx_d_Teller_weave_48 : decode hx_c_Teller_weave 48 = .ok (.iload 5, 2) := by decide +kernel
theorem hx_d_Teller_weave_50 : decode hx_c_Teller_weave 50 = .ok (.invokevirtual 37, 3) := by decide +kernel
theorem hx_d_Teller_weave_53 : decode hx_c_Teller_weave 53 = .ok (.aload_n 0, 1) := by decide +kernel
theorem hx_d_Teller_weave_54 : decode hx_c_Teller_weave 54 = .ok (.getfield 19, 3) := by decide +kernel
theorem hx_d_Teller_weave_57 : decode hx_c_Teller_weave 57 = .ok (.sipush 12000, 3) := by decide +kernel
theorem hx_d_Teller_weave_60 : decode hx_c_Teller_weave 60 = .ok (.if_icmp .le 6, 3) := by decide +kernel
theorem hx_d_Teller_weave_63 : decode hx_c_Teller_weave 63 = .ok (.bipush (-2), 2) := by decide +kernel
theorem hx_d_Teller_weave_65 : decode hx_c_Teller_weave 65 = .ok (.ireturn, 1) := by decide +kernel
theorem hx_d_Teller_weave_66 : decode hx_c_Teller_weave 66 = .ok (.iinc 6 1, 3) := by decide +kernel
theorem hx_d_Teller_weave_69 : decode hx_c_Teller_weave 69 = .ok (.goto (-66), 3) := by decide +kernel
theorem hx_d_Teller_weave_72 : decode hx_c_Teller_weave 72 = .ok (.aload_n 0, 1) := by decide +kernel
theorem hx_d_Teller_weave_73 : decode hx_c_Teller_weave 73 = .ok (.aload_n 0, 1) := by decide +kernel
theorem hx_d_Teller_weave_74 : decode hx_c_Teller_weave 74 = .ok (.getfield 19, 3) := by decide +kernel
theorem hx_d_Teller_weave_77 : decode hx_c_Teller_weave 77 = .ok (.putfield 15, 3) := by decide +kernel
theorem hx_d_Teller_weave_80 : decode hx_c_Teller_weave 80 = .ok (.aload_n 0, 1) := by decide +kernel
theorem hx_d_Teller_weave_81 : decode hx_c_Teller_weave 81 = .ok (.getfield 15, 3) := by decide +kernel
theorem hx_d_Teller_weave_84 : decode hx_c_Teller_weave 84 = .ok (.ireturn, 1) := by decide +kernel
theorem hx_d_Teller_colonRecords_0 : decode hx_c_Teller_colonRecords 0 = .ok (.aload_n 0, 1) := by decide +kernel
theorem hx_d_Teller_colonRecords_1 : decode hx_c_Teller_colonRecords 1 = .ok (.lconst 0, 1) := by decide +kernel
theorem hx_d_Teller_colonRecords_2 : decode hx_c_Teller_colonRecords 2 = .ok (.putfield 29, 3) := by decide +kernel
theorem hx_d_Teller_colonRecords_5 : decode hx_c_Teller_colonRecords 5 = .ok (.iconst 0, 1) := by decide +kernel
theorem hx_d_Teller_colonRecords_6 : decode hx_c_Teller_colonRecords 6 = .ok (.istore 5, 2) := by decide +kernel
theorem hx_d_Teller_colonRecords_8 : decode hx_c_Teller_colonRecords 8 = .ok (.iconst 1, 1) := by decide +kernel
theorem hx_d_Teller_colonRecords_9 : decode hx_c_Teller_colonRecords 9 = .ok (.istore 6, 2) := by decide +kernel
theorem hx_d_Teller_colonRecords_11 : decode hx_c_Teller_colonRecords 11 = .ok (.iload 6, 2) := by decide +kernel
theorem hx_d_Teller_colonRecords_13 : decode hx_c_Teller_colonRecords 13 = .ok (.aload_n 1, 1) := by decide +kernel
theorem hx_d_Teller_colonRecords_14 : decode hx_c_Teller_colonRecords 14 = .ok (.invokevirtual 40, 3) := by decide +kernel
theorem hx_d_Teller_colonRecords_17 : decode hx_c_Teller_colonRecords 17 = .ok (.if_icmp .gt 81, 3) := by decide +kernel
theorem hx_d_Teller_colonRecords_20 : decode hx_c_Teller_colonRecords 20 = .ok (.aload_n 0, 1) := by decide +kernel
theorem hx_d_Teller_colonRecords_21 : decode hx_c_Teller_colonRecords 21 = .ok (.getfield 19, 3) := by decide +kernel
theorem hx_d_Teller_colonRecords_24 : decode hx_c_Teller_colonRecords 24 = .ok (.sipush 12000, 3) := by decide +kernel
theorem hx_d_Teller_colonRecords_27 : decode hx_c_Teller_colonRecords 27 = .ok (.if_icmp .gt 71, 3) := by decide +kernel
theorem hx_d_Teller_colonRecords_30 : decode hx_c_Teller_colonRecords 30 = .ok (.aload_n 1, 1) := by decide +kernel
theorem hx_d_Teller_colonRecords_31 : decode hx_c_Teller_colonRecords 31 = .ok (.iload 6, 2) := by decide +kernel
theorem hx_d_Teller_colonRecords_33 : decode hx_c_Teller_colonRecords 33 = .ok (.invokevirtual 46, 3) := by decide +kernel
theorem hx_d_Teller_colonRecords_36 : decode hx_c_Teller_colonRecords 36 = .ok (.ldc2_w 50, 3) := by decide +kernel
theorem hx_d_Teller_colonRecords_39 : decode hx_c_Teller_colonRecords 39 = .ok (.land, 1) := by decide +kernel
theorem hx_d_Teller_colonRecords_40 : decode hx_c_Teller_colonRecords 40 = .ok (.lconst 0, 1) := by decide +kernel
theorem hx_d_Teller_colonRecords_41 : decode hx_c_Teller_colonRecords 41 = .ok (.lcmp, 1) := by decide +kernel
theorem hx_d_Teller_colonRecords_42 : decode hx_c_Teller_colonRecords 42 = .ok (.ifCond .ne 7, 3) := by decide +kernel
theorem hx_d_Teller_colonRecords_45 : decode hx_c_Teller_colonRecords 45 = .ok (.iconst 1, 1) := by decide +kernel
theorem hx_d_Teller_colonRecords_46 : decode hx_c_Teller_colonRecords 46 = .ok (.goto 4, 3) := by decide +kernel
theorem hx_d_Teller_colonRecords_49 : decode hx_c_Teller_colonRecords 49 = .ok (.iconst 0, 1) := by decide +kernel
theorem hx_d_Teller_colonRecords_50 : decode hx_c_Teller_colonRecords 50 = .ok (.istore 7, 2) := by decide +kernel
theorem hx_d_Teller_colonRecords_52 : decode hx_c_Teller_colonRecords 52 = .ok (.iload 6, 2) := by decide +kernel
theorem hx_d_Teller_colonRecords_54 : decode hx_c_Teller_colonRecords 54 = .ok (.iload 5, 2) := by decide +kernel
theorem hx_d_Teller_colonRecords_56 : decode hx_c_Teller_colonRecords 56 = .ok (.isub, 1) := by decide +kernel
theorem hx_d_Teller_colonRecords_57 : decode hx_c_Teller_colonRecords 57 = .ok (.iload 4, 2) := by decide +kernel
theorem hx_d_Teller_colonRecords_59 : decode hx_c_Teller_colonRecords 59 = .ok (.if_icmp .eq 17, 3) := by decide +kernel
theorem hx_d_Teller_colonRecords_62 : decode hx_c_Teller_colonRecords 62 = .ok (.aload_n 1, 1) := by decide +kernel
theorem hx_d_Teller_colonRecords_63 : decode hx_c_Teller_colonRecords 63 = .ok (.iload 6, 2) := by decide +kernel
theorem hx_d_Teller_colonRecords_65 : decode hx_c_Teller_colonRecords 65 = .ok (.invokevirtual 52, 3) := by decide +kernel
theorem hx_d_Teller_colonRecords_68 : decode hx_c_Teller_colonRecords 68 = .ok (.ifCond .eq 8, 3) := by decide +kernel
theorem hx_d_Teller_colonRecords_71 : decode hx_c_Teller_colonRecords 71 = .ok (.iload 7, 2) := by decide +kernel
theorem hx_d_Teller_colonRecords_73 : decode hx_c_Teller_colonRecords 73 = .ok (.ifCond .eq 19, 3) := by decide +kernel
theorem hx_d_Teller_colonRecords_76 : decode hx_c_Teller_colonRecords 76 = .ok (.aload_n 0, 1) := by decide +kernel
theorem hx_d_Teller_colonRecords_77 : decode hx_c_Teller_colonRecords 77 = .ok (.aload_n 1, 1) := by decide +kernel
theorem hx_d_Teller_colonRecords_78 : decode hx_c_Teller_colonRecords 78 = .ok (.iload 5, 2) := by decide +kernel
theorem hx_d_Teller_colonRecords_80 : decode hx_c_Teller_colonRecords 80 = .ok (.iload 6, 2) := by decide +kernel
theorem hx_d_Teller_colonRecords_82 : decode hx_c_Teller_colonRecords 82 = .ok (.iload 5, 2) := by decide +kernel
theorem hx_d_Teller_colonRecords_84 : decode hx_c_Teller_colonRecords 84 = .ok (.isub, 1) := by decide +kernel
theorem hx_d_Teller_colonRecords_85 : decode hx_c_Teller_colonRecords 85 = .ok (.invokevirtual 56, 3) := by decide +kernel
theorem hx_d_Teller_colonRecords_88 : decode hx_c_Teller_colonRecords 88 = .ok (.iload 6, 2) := by decide +kernel
theorem hx_d_Teller_colonRecords_90 : decode hx_c_Teller_colonRecords 90 = .ok (.istore 5, 2) := by decide +kernel
theorem hx_d_Teller_colonRecords_92 : decode hx_c_Teller_colonRecords 92 = .ok (.iinc 6 1, 3) := by decide +kernel
theorem hx_d_Teller_colonRecords_95 : decode hx_c_Teller_colonRecords 95 = .ok (.goto (-84), 3) := by decide +kernel
theorem hx_d_Teller_colonRecords_98 : decode hx_c_Teller_colonRecords 98 = .ok (.lload_n 2, 1) := by decide +kernel
theorem hx_d_Teller_colonRecords_99 : decode hx_c_Teller_colonRecords 99 = .ok (.ldc2_w 60, 3) := by decide +kernel
theorem hx_d_Teller_colonRecords_102 : decode hx_c_Teller_colonRecords 102 = .ok (.lcmp, 1) := by decide +kernel
theorem hx_d_Teller_colonRecords_103 : decode hx_c_Teller_colonRecords 103 = .ok (.ifCond .eq 20, 3) := by decide +kernel
theorem hx_d_Teller_colonRecords_106 : decode hx_c_Teller_colonRecords 106 = .ok (.aload_n 0, 1) := by decide +kernel
theorem hx_d_Teller_colonRecords_107 : decode hx_c_Teller_colonRecords 107 = .ok (.iconst 4, 1) := by decide +kernel
theorem hx_d_Teller_colonRecords_108 : decode hx_c_Teller_colonRecords 108 = .ok (.iconst 0, 1) := by decide +kernel
theorem hx_d_Teller_colonRecords_109 : decode hx_c_Teller_colonRecords 109 = .ok (.iconst 5, 1) := by decide +kernel
theorem hx_d_Teller_colonRecords_110 : decode hx_c_Teller_colonRecords 110 = .ok (.invokevirtual 62, 3) := by decide +kernel
theorem hx_d_Teller_colonRecords_113 : decode hx_c_Teller_colonRecords 113 = .ok (.aload_n 0, 1) := by decide +kernel
theorem hx_d_Teller_colonRecords_114 : decode hx_c_Teller_colonRecords 114 = .ok (.lload_n 2, 1) := by decide +kernel
theorem hx_d_Teller_colonRecords_115 : decode hx_c_Teller_colonRecords 115 = .ok (.iconst 4, 1) := by decide +kernel
theorem hx_d_Teller_colonRecords_116 : decode hx_c_Teller_colonRecords 116 = .ok (.invokevirtual 66, 3) := by decide +kernel
theorem hx_d_Teller_colonRecords_119 : decode hx_c_Teller_colonRecords 119 = .ok (.aload_n 0, 1) := by decide +kernel
theorem hx_d_Teller_colonRecords_120 : decode hx_c_Teller_colonRecords 120 = .ok (.invokevirtual 70, 3) := by decide +kernel
theorem hx_d_Teller_colonRecords_123 : decode hx_c_Teller_colonRecords 123 = .ok (.aload_n 0, 1) := by decide +kernel
theorem hx_d_Teller_colonRecords_124 : decode hx_c_Teller_colonRecords 124 = .ok (.iconst 0, 1) := by decide +kernel
theorem hx_d_Teller_colonRecords_125 : decode hx_c_Teller_colonRecords 125 = .ok (.iconst 0, 1) := by decide +kernel
theorem hx_d_Teller_colonRecords_126 : decode hx_c_Teller_colonRecords 126 = .ok (.iconst 1, 1) := by decide +kernel
theorem hx_d_Teller_colonRecords_127 : decode hx_c_Teller_colonRecords 127 = .ok (.invokevirtual 62, 3) := by decide +kernel
theorem hx_d_Teller_colonRecords_130 : decode hx_c_Teller_colonRecords 130 = .ok (.aload_n 0, 1) := by decide +kernel
theorem hx_d_Teller_colonRecords_131 : decode hx_c_Teller_colonRecords 131 = .ok (.invokevirtual 70, 3) := by decide +kernel
theorem hx_d_Teller_colonRecords_134 : decode hx_c_Teller_colonRecords 134 = .ok (.return_, 1) := by decide +kernel
theorem hx_d_Teller_colonCut_0 : decode hx_c_Teller_colonCut 0 = .ok (.aload_n 1, 1) := by decide +kernel
theorem hx_d_Teller_colonCut_1 : decode hx_c_Teller_colonCut 1 = .ok (.iload_n 2, 1) := by decide +kernel
theorem hx_d_Teller_colonCut_2 : decode hx_c_Teller_colonCut 2 = .ok (.invokevirtual 46, 3) := by decide +kernel
theorem hx_d_Teller_colonCut_5 : decode hx_c_Teller_colonCut 5 = .ok (.lstore 4, 2) := by decide +kernel
theorem hx_d_Teller_colonCut_7 : decode hx_c_Teller_colonCut 7 = .ok (.lload 4, 2) := by decide +kernel
theorem hx_d_Teller_colonCut_9 : decode hx_c_Teller_colonCut 9 = .ok (.bipush 16, 2) := by decide +kernel
theorem hx_d_Teller_colonCut_11 : decode hx_c_Teller_colonCut 11 = .ok (.lshr, 1) := by decide +kernel
theorem hx_d_Teller_colonCut_12 : decode hx_c_Teller_colonCut 12 = .ok (.aload_n 0, 1) := by decide +kernel
theorem hx_d_Teller_colonCut_13 : decode hx_c_Teller_colonCut 13 = .ok (.getfield 29, 3) := by decide +kernel
theorem hx_d_Teller_colonCut_16 : decode hx_c_Teller_colonCut 16 = .ok (.lcmp, 1) := by decide +kernel
