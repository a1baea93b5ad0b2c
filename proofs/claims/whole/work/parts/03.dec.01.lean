theorem hx_d_Typed_byteAt_10 : decode hx_c_Typed_byteAt 10 = .ok (.iload_n 2, 1) := by decide +kernel
theorem hx_d_Typed_byteAt_11 : decode hx_c_Typed_byteAt 11 = .ok (.invokevirtual 39, 3) := by decide +kernel
theorem hx_d_Typed_byteAt_14 : decode hx_c_Typed_byteAt 14 = .ok (.iconst 4, 1) := by decide +kernel
theorem hx_d_Typed_byteAt_15 : decode hx_c_Typed_byteAt 15 = .ok (.ishl, 1) := by decide +kernel
theorem hx_d_Typed_byteAt_16 : decode hx_c_Typed_byteAt 16 = .ok (.aload_n 0, 1) := by decide +kernel
theorem hx_d_Typed_byteAt_17 : decode hx_c_Typed_byteAt 17 = .ok (.iload_n 2, 1) := by decide +kernel
theorem hx_d_Typed_byteAt_18 : decode hx_c_Typed_byteAt 18 = .ok (.iconst 1, 1) := by decide +kernel
theorem hx_d_Typed_byteAt_19 : decode hx_c_Typed_byteAt 19 = .ok (.iadd, 1) := by decide +kernel
theorem hx_d_Typed_byteAt_20 : decode hx_c_Typed_byteAt 20 = .ok (.invokevirtual 39, 3) := by decide +kernel
theorem hx_d_Typed_byteAt_23 : decode hx_c_Typed_byteAt 23 = .ok (.ior, 1) := by decide +kernel
theorem hx_d_Typed_byteAt_24 : decode hx_c_Typed_byteAt 24 = .ok (.sipush 255, 3) := by decide +kernel
theorem hx_d_Typed_byteAt_27 : decode hx_c_Typed_byteAt 27 = .ok (.iand, 1) := by decide +kernel
theorem hx_d_Typed_byteAt_28 : decode hx_c_Typed_byteAt 28 = .ok (.ireturn, 1) := by decide +kernel
theorem hx_d_Colon_typeHas_0 : decode hx_c_Colon_typeHas 0 = .ok (.iload_n 0, 1) := by decide +kernel
theorem hx_d_Colon_typeHas_1 : decode hx_c_Colon_typeHas 1 = .ok (.ifCond .lt 11, 3) := by decide +kernel
theorem hx_d_Colon_typeHas_4 : decode hx_c_Colon_typeHas 4 = .ok (.iload_n 0, 1) := by decide +kernel
theorem hx_d_Colon_typeHas_5 : decode hx_c_Colon_typeHas 5 = .ok (.getstatic 69, 3) := by decide +kernel
theorem hx_d_Colon_typeHas_8 : decode hx_c_Colon_typeHas 8 = .ok (.arraylength, 1) := by decide +kernel
theorem hx_d_Colon_typeHas_9 : decode hx_c_Colon_typeHas 9 = .ok (.if_icmp .lt 5, 3) := by decide +kernel
theorem hx_d_Colon_typeHas_12 : decode hx_c_Colon_typeHas 12 = .ok (.iconst 0, 1) := by decide +kernel
theorem hx_d_Colon_typeHas_13 : decode hx_c_Colon_typeHas 13 = .ok (.ireturn, 1) := by decide +kernel
theorem hx_d_Colon_typeHas_14 : decode hx_c_Colon_typeHas 14 = .ok (.getstatic 69, 3) := by decide +kernel
theorem hx_d_Colon_typeHas_17 : decode hx_c_Colon_typeHas 17 = .ok (.iload_n 0, 1) := by decide +kernel
theorem hx_d_Colon_typeHas_18 : decode hx_c_Colon_typeHas 18 = .ok (.iaload, 1) := by decide +kernel
theorem hx_d_Colon_typeHas_19 : decode hx_c_Colon_typeHas 19 = .ok (.ifCond .lt 12, 3) := by decide +kernel
theorem hx_d_Colon_typeHas_22 : decode hx_c_Colon_typeHas 22 = .ok (.getstatic 69, 3) := by decide +kernel
theorem hx_d_Colon_typeHas_25 : decode hx_c_Colon_typeHas 25 = .ok (.iload_n 0, 1) := by decide +kernel
theorem hx_d_Colon_typeHas_26 : decode hx_c_Colon_typeHas 26 = .ok (.iaload, 1) := by decide +kernel
theorem hx_d_Colon_typeHas_27 : decode hx_c_Colon_typeHas 27 = .ok (.iload_n 1, 1) := by decide +kernel
theorem hx_d_Colon_typeHas_28 : decode hx_c_Colon_typeHas 28 = .ok (.if_icmp .ne 7, 3) := by decide +kernel
theorem hx_d_Colon_typeHas_31 : decode hx_c_Colon_typeHas 31 = .ok (.iconst 1, 1) := by decide +kernel
theorem hx_d_Colon_typeHas_32 : decode hx_c_Colon_typeHas 32 = .ok (.goto 4, 3) := by decide +kernel
theorem hx_d_Colon_typeHas_35 : decode hx_c_Colon_typeHas 35 = .ok (.iconst 0, 1) := by decide +kernel
theorem hx_d_Colon_typeHas_36 : decode hx_c_Colon_typeHas 36 = .ok (.ireturn, 1) := by decide +kernel
theorem hx_d_Typed_sumOfBytes_0 : decode hx_c_Typed_sumOfBytes 0 = .ok (.iconst 0, 1) := by decide +kernel
theorem hx_d_Typed_sumOfBytes_1 : decode hx_c_Typed_sumOfBytes 1 = .ok (.istore_n 1, 1) := by decide +kernel
theorem hx_d_Typed_sumOfBytes_2 : decode hx_c_Typed_sumOfBytes 2 = .ok (.iconst 0, 1) := by decide +kernel
theorem hx_d_Typed_sumOfBytes_3 : decode hx_c_Typed_sumOfBytes 3 = .ok (.istore_n 2, 1) := by decide +kernel
theorem hx_d_Typed_sumOfBytes_4 : decode hx_c_Typed_sumOfBytes 4 = .ok (.iload_n 2, 1) := by decide +kernel
theorem hx_d_Typed_sumOfBytes_5 : decode hx_c_Typed_sumOfBytes 5 = .ok (.aload_n 0, 1) := by decide +kernel
theorem hx_d_Typed_sumOfBytes_6 : decode hx_c_Typed_sumOfBytes 6 = .ok (.invokevirtual 46, 3) := by decide +kernel
theorem hx_d_Typed_sumOfBytes_9 : decode hx_c_Typed_sumOfBytes 9 = .ok (.if_icmp .ge 17, 3) := by decide +kernel
theorem hx_d_Typed_sumOfBytes_12 : decode hx_c_Typed_sumOfBytes 12 = .ok (.iload_n 1, 1) := by decide +kernel
theorem hx_d_Typed_sumOfBytes_13 : decode hx_c_Typed_sumOfBytes 13 = .ok (.aload_n 0, 1) := by decide +kernel
theorem hx_d_Typed_sumOfBytes_14 : decode hx_c_Typed_sumOfBytes 14 = .ok (.iload_n 2, 1) := by decide +kernel
theorem hx_d_Typed_sumOfBytes_15 : decode hx_c_Typed_sumOfBytes 15 = .ok (.invokevirtual 43, 3) := by decide +kernel
theorem hx_d_Typed_sumOfBytes_18 : decode hx_c_Typed_sumOfBytes 18 = .ok (.iadd, 1) := by decide +kernel
theorem hx_d_Typed_sumOfBytes_19 : decode hx_c_Typed_sumOfBytes 19 = .ok (.istore_n 1, 1) := by decide +kernel
theorem hx_d_Typed_sumOfBytes_20 : decode hx_c_Typed_sumOfBytes 20 = .ok (.iinc 2 1, 3) := by decide +kernel
theorem hx_d_Typed_sumOfBytes_23 : decode hx_c_Typed_sumOfBytes 23 = .ok (.goto (-19), 3) := by decide +kernel
theorem hx_d_Typed_sumOfBytes_26 : decode hx_c_Typed_sumOfBytes 26 = .ok (.iload_n 1, 1) := by decide +kernel
theorem hx_d_Typed_sumOfBytes_27 : decode hx_c_Typed_sumOfBytes 27 = .ok (.sipush 255, 3) := by decide +kernel
theorem hx_d_Typed_sumOfBytes_30 : decode hx_c_Typed_sumOfBytes 30 = .ok (.iand, 1) := by decide +kernel
theorem hx_d_Typed_sumOfBytes_31 : decode hx_c_Typed_sumOfBytes 31 = .ok (.ireturn, 1) := by decide +kernel
theorem hx_d_Typed_numberAt_0 : decode hx_c_Typed_numberAt 0 = .ok (.lconst 0, 1) := by decide +kernel
theorem hx_d_Typed_numberAt_1 : decode hx_c_Typed_numberAt 1 = .ok (.lstore_n 3, 1) := by decide +kernel
theorem hx_d_Typed_numberAt_2 : decode hx_c_Typed_numberAt 2 = .ok (.iconst 0, 1) := by decide +kernel
theorem hx_d_Typed_numberAt_3 : decode hx_c_Typed_numberAt 3 = .ok (.istore 5, 2) := by decide +kernel
theorem hx_d_Typed_numberAt_5 : decode hx_c_Typed_numberAt 5 = .ok (.iload 5, 2) := by decide +kernel
theorem hx_d_Typed_numberAt_7 : decode hx_c_Typed_numberAt 7 = .ok (.iload_n 2, 1) := by decide +kernel
theorem hx_d_Typed_numberAt_8 : decode hx_c_Typed_numberAt 8 = .ok (.if_icmp .ge 24, 3) := by decide +kernel
theorem hx_d_Typed_numberAt_11 : decode hx_c_Typed_numberAt 11 = .ok (.lload_n 3, 1) := by decide +kernel
theorem hx_d_Typed_numberAt_12 : decode hx_c_Typed_numberAt 12 = .ok (.bipush 8, 2) := by decide +kernel
theorem hx_d_Typed_numberAt_14 : decode hx_c_Typed_numberAt 14 = .ok (.lshl, 1) := by decide +kernel
theorem hx_d_Typed_numberAt_15 : decode hx_c_Typed_numberAt 15 = .ok (.aload_n 0, 1) := by decide +kernel
theorem hx_d_Typed_numberAt_16 : decode hx_c_Typed_numberAt 16 = .ok (.iload_n 1, 1) := by decide +kernel
theorem hx_d_Typed_numberAt_17 : decode hx_c_Typed_numberAt 17 = .ok (.iload 5, 2) := by decide +kernel
theorem hx_d_Typed_numberAt_19 : decode hx_c_Typed_numberAt 19 = .ok (.iadd, 1) := by decide +kernel
theorem hx_d_Typed_numberAt_20 : decode hx_c_Typed_numberAt 20 = .ok (.invokevirtual 43, 3) := by decide +kernel
theorem hx_d_Typed_numberAt_23 : decode hx_c_Typed_numberAt 23 = .ok (.i2l, 1) := by decide +kernel
theorem hx_d_Typed_numberAt_24 : decode hx_c_Typed_numberAt 24 = .ok (.lor, 1) := by decide +kernel
theorem hx_d_Typed_numberAt_25 : decode hx_c_Typed_numberAt 25 = .ok (.lstore_n 3, 1) := by decide +kernel
theorem hx_d_Typed_numberAt_26 : decode hx_c_Typed_numberAt 26 = .ok (.iinc 5 1, 3) := by decide +kernel
theorem hx_d_Typed_numberAt_29 : decode hx_c_Typed_numberAt 29 = .ok (.goto (-24), 3) := by decide +kernel
theorem hx_d_Typed_numberAt_32 : decode hx_c_Typed_numberAt 32 = .ok (.lload_n 3, 1) := by decide +kernel
theorem hx_d_Typed_numberAt_33 : decode hx_c_Typed_numberAt 33 = .ok (.lreturn, 1) := by decide +kernel
theorem hx_d_Reader_takeData_0 : decode hx_c_Reader_takeData 0 = .ok (.iconst 0, 1) := by decide +kernel
theorem hx_d_Reader_takeData_1 : decode hx_c_Reader_takeData 1 = .ok (.istore 8, 2) := by decide +kernel
theorem hx_d_Reader_takeData_3 : decode hx_c_Reader_takeData 3 = .ok (.iconst 0, 1) := by decide +kernel
theorem hx_d_Reader_takeData_4 : decode hx_c_Reader_takeData 4 = .ok (.istore 9, 2) := by decide +kernel
theorem hx_d_Reader_takeData_6 : decode hx_c_Reader_takeData 6 = .ok (.iload 9, 2) := by decide +kernel
theorem hx_d_Reader_takeData_8 : decode hx_c_Reader_takeData 8 = .ok (.iload_n 3, 1) := by decide +kernel
theorem hx_d_Reader_takeData_9 : decode hx_c_Reader_takeData 9 = .ok (.if_icmp .ge 57, 3) := by decide +kernel
theorem hx_d_Reader_takeData_12 : decode hx_c_Reader_takeData 12 = .ok (.aload_n 0, 1) := by decide +kernel
theorem hx_d_Reader_takeData_13 : decode hx_c_Reader_takeData 13 = .ok (.lload 4, 2) := by decide +kernel
theorem hx_d_Reader_takeData_15 : decode hx_c_Reader_takeData 15 = .ok (.iload 9, 2) := by decide +kernel
theorem hx_d_Reader_takeData_17 : decode hx_c_Reader_takeData 17 = .ok (.invokevirtual 9, 3) := by decide +kernel
theorem hx_d_Reader_takeData_20 : decode hx_c_Reader_takeData 20 = .ok (.lstore 10, 2) := by decide +kernel
theorem hx_d_Reader_takeData_22 : decode hx_c_Reader_takeData 22 = .ok (.lload 10, 2) := by decide +kernel
theorem hx_d_Reader_takeData_24 : decode hx_c_Reader_takeData 24 = .ok (.ldc2_w 15, 3) := by decide +kernel
theorem hx_d_Reader_takeData_27 : decode hx_c_Reader_takeData 27 = .ok (.lcmp, 1) := by decide +kernel
theorem hx_d_Reader_takeData_28 : decode hx_c_Reader_takeData 28 = .ok (.ifCond .eq 16, 3) := by decide +kernel
theorem hx_d_Reader_takeData_31 : decode hx_c_Reader_takeData 31 = .ok (.aload 6, 2) := by decide +kernel
theorem hx_d_Reader_takeData_33 : decode hx_c_Reader_takeData 33 = .ok (.getfield 17, 3) := by decide +kernel
theorem hx_d_Reader_takeData_36 : decode hx_c_Reader_takeData 36 = .ok (.lload 10, 2) := by decide +kernel
theorem hx_d_Reader_takeData_38 : decode hx_c_Reader_takeData 38 = .ok (.invokevirtual 23, 3) := by decide +kernel
theorem hx_d_Reader_takeData_41 : decode hx_c_Reader_takeData 41 = .ok (.ifCond .eq 6, 3) := by decide +kernel
theorem hx_d_Reader_takeData_44 : decode hx_c_Reader_takeData 44 = .ok (.bipush 8, 2) := by decide +kernel
theorem hx_d_Reader_takeData_46 : decode hx_c_Reader_takeData 46 = .ok (.ireturn, 1) := by decide +kernel
theorem hx_d_Reader_takeData_47 : decode hx_c_Reader_takeData 47 = .ok (.aload 7, 2) := by decide +kernel
theorem hx_d_Reader_takeData_49 : decode hx_c_Reader_takeData 49 = .ok (.lload 10, 2) := by decide +kernel
theorem hx_d_Reader_takeData_51 : decode hx_c_Reader_takeData 51 = .ok (.invokevirtual 23, 3) := by decide +kernel
theorem hx_d_Reader_takeData_54 : decode hx_c_Reader_takeData 54 = .ok (.ifCond .ne 6, 3) := by decide +kernel
theorem hx_d_Reader_takeData_57 : decode hx_c_Reader_takeData 57 = .ok (.iinc 8 1, 3) := by decide +kernel
theorem hx_d_Reader_takeData_60 : decode hx_c_Reader_takeData 60 = .ok (.iinc 9 1, 3) := by decide +kernel
theorem hx_d_Reader_takeData_63 : decode hx_c_Reader_takeData 63 = .ok (.goto (-57), 3) := by decide +kernel
theorem hx_d_Reader_takeData_66 : decode hx_c_Reader_takeData 66 = .ok (.aload 7, 2) := by decide +kernel
theorem hx_d_Reader_takeData_68 : decode hx_c_Reader_takeData 68 = .ok (.invokevirtual 29, 3) := by decide +kernel
theorem hx_d_Reader_takeData_71 : decode hx_c_Reader_takeData 71 = .ok (.aload 6, 2) := by decide +kernel
theorem hx_d_Reader_takeData_73 : decode hx_c_Reader_takeData 73 = .ok (.getfield 33, 3) := by decide +kernel
theorem hx_d_Reader_takeData_76 : decode hx_c_Reader_takeData 76 = .ok (.iadd, 1) := by decide +kernel
theorem hx_d_Reader_takeData_77 : decode hx_c_Reader_takeData 77 = .ok (.iload 8, 2) := by decide +kernel
theorem hx_d_Reader_takeData_79 : decode hx_c_Reader_takeData 79 = .ok (.iadd, 1) := by decide +kernel
theorem hx_d_Reader_takeData_80 : decode hx_c_Reader_takeData 80 = .ok (.sipush 3000, 3) := by decide +kernel
theorem hx_d_Reader_takeData_83 : decode hx_c_Reader_takeData 83 = .ok (.if_icmp .le 6, 3) := by decide +kernel
theorem hx_d_Reader_takeData_86 : decode hx_c_Reader_takeData 86 = .ok (.bipush 9, 2) := by decide +kernel
theorem hx_d_Reader_takeData_88 : decode hx_c_Reader_takeData 88 = .ok (.ireturn, 1) := by decide +kernel
theorem hx_d_Reader_takeData_89 : decode hx_c_Reader_takeData 89 = .ok (.aload 6, 2) := by decide +kernel
theorem hx_d_Reader_takeData_91 : decode hx_c_Reader_takeData 91 = .ok (.dup, 1) := by decide +kernel
theorem hx_d_Reader_takeData_92 : decode hx_c_Reader_takeData 92 = .ok (.getfield 33, 3) := by decide +kernel
theorem hx_d_Reader_takeData_95 : decode hx_c_Reader_takeData 95 = .ok (.iload 8, 2) := by decide +kernel
theorem hx_d_Reader_takeData_97 : decode hx_c_Reader_takeData 97 = .ok (.iadd, 1) := by decide +kernel
theorem hx_d_Reader_takeData_98 : decode hx_c_Reader_takeData 98 = .ok (.putfield 33, 3) := by decide +kernel
theorem hx_d_Reader_takeData_101 : decode hx_c_Reader_takeData 101 = .ok (.iconst 0, 1) := by decide +kernel
theorem hx_d_Reader_takeData_102 : decode hx_c_Reader_takeData 102 = .ok (.istore 9, 2) := by decide +kernel
theorem hx_d_Reader_takeData_104 : decode hx_c_Reader_takeData 104 = .ok (.iload 9, 2) := by decide +kernel
theorem hx_d_Reader_takeData_106 : decode hx_c_Reader_takeData 106 = .ok (.iload_n 3, 1) := by decide +kernel
theorem hx_d_Reader_takeData_107 : decode hx_c_Reader_takeData 107 = .ok (.if_icmp .ge 35, 3) := by decide +kernel
theorem hx_d_Reader_takeData_110 : decode hx_c_Reader_takeData 110 = .ok (.aload 6, 2) := by decide +kernel
theorem hx_d_Reader_takeData_112 : decode hx_c_Reader_takeData 112 = .ok (.getfield 17, 3) := by decide +kernel
theorem hx_d_Reader_takeData_115 : decode hx_c_Reader_takeData 115 = .ok (.aload_n 0, 1) := by decide +kernel
theorem hx_d_Reader_takeData_116 : decode hx_c_Reader_takeData 116 = .ok (.lload 4, 2) := by decide +kernel
theorem hx_d_Reader_takeData_118 : decode hx_c_Reader_takeData 118 = .ok (.iload 9, 2) := by decide +kernel
theorem hx_d_Reader_takeData_120 : decode hx_c_Reader_takeData 120 = .ok (.invokevirtual 9, 3) := by decide +kernel
theorem hx_d_Reader_takeData_123 : decode hx_c_Reader_takeData 123 = .ok (.iconst 1, 1) := by decide +kernel
theorem hx_d_Reader_takeData_124 : decode hx_c_Reader_takeData 124 = .ok (.aload_n 1, 1) := by decide +kernel
theorem hx_d_Reader_takeData_125 : decode hx_c_Reader_takeData 125 = .ok (.iload_n 2, 1) := by decide +kernel
theorem hx_d_Reader_takeData_126 : decode hx_c_Reader_takeData 126 = .ok (.iload 9, 2) := by decide +kernel
theorem hx_d_Reader_takeData_128 : decode hx_c_Reader_takeData 128 = .ok (.iadd, 1) := by decide +kernel
theorem hx_d_Reader_takeData_129 : decode hx_c_Reader_takeData 129 = .ok (.invokevirtual 37, 3) := by decide +kernel
theorem hx_d_Reader_takeData_132 : decode hx_c_Reader_takeData 132 = .ok (.invokevirtual 43, 3) := by decide +kernel
theorem hx_d_Reader_takeData_135 : decode hx_c_Reader_takeData 135 = .ok (.pop, 1) := by decide +kernel
theorem hx_d_Reader_takeData_136 : decode hx_c_Reader_takeData 136 = .ok (.iinc 9 1, 3) := by decide +kernel
theorem hx_d_Reader_takeData_139 : decode hx_c_Reader_takeData 139 = .ok (.goto (-35), 3) := by decide +kernel
theorem hx_d_Reader_takeData_142 : decode hx_c_Reader_takeData 142 = .ok (.iconst 0, 1) := by decide +kernel
theorem hx_d_Reader_takeData_143 : decode hx_c_Reader_takeData 143 = .ok (.ireturn, 1) := by decide +kernel
theorem hx_d_Colon_addressOfData_0 : decode hx_c_Colon_addressOfData 0 = .ok (.aload_n 0, 1) := by decide +kernel
theorem hx_d_Colon_addressOfData_1 : decode hx_c_Colon_addressOfData 1 = .ok (.getfield 15, 3) := by decide +kernel
theorem hx_d_Colon_addressOfData_4 : decode hx_c_Colon_addressOfData 4 = .ok (.ifCond .eq 14, 3) := by decide +kernel
theorem hx_d_Colon_addressOfData_7 : decode hx_c_Colon_addressOfData 7 = .ok (.lload_n 1, 1) := by decide +kernel
theorem hx_d_Colon_addressOfData_8 : decode hx_c_Colon_addressOfData 8 = .ok (.iload_n 3, 1) := by decide +kernel
theorem hx_d_Colon_addressOfData_9 : decode hx_c_Colon_addressOfData 9 = .ok (.i2l, 1) := by decide +kernel
theorem hx_d_Colon_addressOfData_10 : decode hx_c_Colon_addressOfData 10 = .ok (.ladd, 1) := by decide +kernel
theorem hx_d_Colon_addressOfData_11 : decode hx_c_Colon_addressOfData 11 = .ok (.ldc2_w 78, 3) := by decide +kernel
theorem hx_d_Colon_addressOfData_14 : decode hx_c_Colon_addressOfData 14 = .ok (.land, 1) := by decide +kernel
theorem hx_d_Colon_addressOfData_15 : decode hx_c_Colon_addressOfData 15 = .ok (.goto 7, 3) := by decide +kernel
theorem hx_d_Colon_addressOfData_18 : decode hx_c_Colon_addressOfData 18 = .ok (.lload_n 1, 1) := by decide +kernel
theorem hx_d_Colon_addressOfData_19 : decode hx_c_Colon_addressOfData 19 = .ok (.iload_n 3, 1) := by decide +kernel
theorem hx_d_Colon_addressOfData_20 : decode hx_c_Colon_addressOfData 20 = .ok (.i2l, 1) := by decide +kernel
theorem hx_d_Colon_addressOfData_21 : decode hx_c_Colon_addressOfData 21 = .ok (.ladd, 1) := by decide +kernel
theorem hx_d_Colon_addressOfData_22 : decode hx_c_Colon_addressOfData 22 = .ok (.lstore 4, 2) := by decide +kernel
theorem hx_d_Colon_addressOfData_24 : decode hx_c_Colon_addressOfData 24 = .ok (.aload_n 0, 1) := by decide +kernel
theorem hx_d_Colon_addressOfData_25 : decode hx_c_Colon_addressOfData 25 = .ok (.getfield 9, 3) := by decide +kernel
theorem hx_d_Colon_addressOfData_28 : decode hx_c_Colon_addressOfData 28 = .ok (.lload 4, 2) := by decide +kernel
theorem hx_d_Colon_addressOfData_30 : decode hx_c_Colon_addressOfData 30 = .ok (.ladd, 1) := by decide +kernel
theorem hx_d_Colon_addressOfData_31 : decode hx_c_Colon_addressOfData 31 = .ok (.ldc2_w 80, 3) := by decide +kernel
theorem hx_d_Colon_addressOfData_34 : decode hx_c_Colon_addressOfData 34 = .ok (.land, 1) := by decide +kernel
theorem hx_d_Colon_addressOfData_35 : decode hx_c_Colon_addressOfData 35 = .ok (.lreturn, 1) := by decide +kernel
theorem hx_d_SRead_addressOfData_0 : decode hx_c_SRead_addressOfData 0 = .ok (.lload_n 1, 1) := by decide +kernel
theorem hx_d_SRead_addressOfData_1 : decode hx_c_SRead_addressOfData 1 = .ok (.iload_n 3, 1) := by decide +kernel
theorem hx_d_SRead_addressOfData_2 : decode hx_c_SRead_addressOfData 2 = .ok (.i2l, 1) := by decide +kernel
theorem hx_d_SRead_addressOfData_3 : decode hx_c_SRead_addressOfData 3 = .ok (.ladd, 1) := by decide +kernel
theorem hx_d_SRead_addressOfData_4 : decode hx_c_SRead_addressOfData 4 = .ok (.ldc2_w 82, 3) := by decide +kernel
theorem hx_d_SRead_addressOfData_7 : decode hx_c_SRead_addressOfData 7 = .ok (.lcmp, 1) := by decide +kernel
theorem hx_d_SRead_addressOfData_8 : decode hx_c_SRead_addressOfData 8 = .ok (.ifCond .gt 10, 3) := by decide +kernel
theorem hx_d_SRead_addressOfData_11 : decode hx_c_SRead_addressOfData 11 = .ok (.lload_n 1, 1) := by decide +kernel
theorem hx_d_SRead_addressOfData_12 : decode hx_c_SRead_addressOfData 12 = .ok (.iload_n 3, 1) := by decide +kernel
theorem hx_d_SRead_addressOfData_13 : decode hx_c_SRead_addressOfData 13 = .ok (.i2l, 1) := by decide +kernel
theorem hx_d_SRead_addressOfData_14 : decode hx_c_SRead_addressOfData 14 = .ok (.ladd, 1) := by decide +kernel
theorem hx_d_SRead_addressOfData_15 : decode hx_c_SRead_addressOfData 15 = .ok (.goto 6, 3) := by decide +kernel
theorem hx_d_SRead_addressOfData_18 : decode hx_c_SRead_addressOfData 18 = .ok (.ldc2_w 84, 3) := by decide +kernel
theorem hx_d_SRead_addressOfData_21 : decode hx_c_SRead_addressOfData 21 = .ok (.lreturn, 1) := by decide +kernel
theorem hx_d_Image_holds_0 : decode hx_c_Image_holds 0 = .ok (.aload_n 0, 1) := by decide +kernel
theorem hx_d_Image_holds_1 : decode hx_c_Image_holds 1 = .ok (.aload_n 0, 1) := by decide +kernel
theorem hx_d_Image_holds_2 : decode hx_c_Image_holds 2 = .ok (.lload_n 1, 1) := by decide +kernel
theorem hx_d_Image_holds_3 : decode hx_c_Image_holds 3 = .ok (.invokevirtual 31, 3) := by decide +kernel
theorem hx_d_Image_holds_6 : decode hx_c_Image_holds 6 = .ok (.invokevirtual 35, 3) := by decide +kernel
theorem hx_d_Image_holds_9 : decode hx_c_Image_holds 9 = .ok (.lload_n 1, 1) := by decide +kernel
theorem hx_d_Image_holds_10 : decode hx_c_Image_holds 10 = .ok (.lcmp, 1) := by decide +kernel
theorem hx_d_Image_holds_11 : decode hx_c_Image_holds 11 = .ok (.ifCond .ne 7, 3) := by decide +kernel
theorem hx_d_Image_holds_14 : decode hx_c_Image_holds 14 = .ok (.iconst 1, 1) := by decide +kernel
theorem hx_d_Image_holds_15 : decode hx_c_Image_holds 15 = .ok (.goto 4, 3) := by decide +kernel
theorem hx_d_Image_holds_18 : decode hx_c_Image_holds 18 = .ok (.iconst 0, 1) := by decide +kernel
theorem hx_d_Image_holds_19 : decode hx_c_Image_holds 19 = .ok (.ireturn, 1) := by decide +kernel
theorem hx_d_Image_indexFrom_0 : decode hx_c_Image_indexFrom 0 = .ok (.iconst 0, 1) := by decide +kernel
theorem hx_d_Image_indexFrom_1 : decode hx_c_Image_indexFrom 1 = .ok (.istore_n 3, 1) := by decide +kernel
theorem hx_d_Image_indexFrom_2 : decode hx_c_Image_indexFrom 2 = .ok (.aload_n 0, 1) := by decide +kernel
theorem hx_d_Image_indexFrom_3 : decode hx_c_Image_indexFrom 3 = .ok (.getfield 25, 3) := by decide +kernel
theorem hx_d_Image_indexFrom_6 : decode hx_c_Image_indexFrom 6 = .ok (.istore 4, 2) := by decide +kernel
theorem hx_d_Image_indexFrom_8 : decode hx_c_Image_indexFrom 8 = .ok (.iload_n 3, 1) := by decide +kernel
theorem hx_d_Image_indexFrom_9 : decode hx_c_Image_indexFrom 9 = .ok (.iload 4, 2) := by decide +kernel
theorem hx_d_Image_indexFrom_11 : decode hx_c_Image_indexFrom 11 = .ok (.if_icmp .ge 38, 3) := by decide +kernel
theorem hx_d_Image_indexFrom_14 : decode hx_c_Image_indexFrom 14 = .ok (.iload_n 3, 1) := by decide +kernel
theorem hx_d_Image_indexFrom_15 : decode hx_c_Image_indexFrom 15 = .ok (.iload 4, 2) := by decide +kernel
theorem hx_d_Image_indexFrom_17 : decode hx_c_Image_indexFrom 17 = .ok (.iadd, 1) := by decide +kernel
theorem hx_d_Image_indexFrom_18 : decode hx_c_Image_indexFrom 18 = .ok (.iconst 2, 1) := by decide +kernel
theorem hx_d_Image_indexFrom_19 : decode hx_c_Image_indexFrom 19 = .ok (.idiv, 1) := by decide +kernel
theorem hx_d_Image_indexFrom_20 : decode hx_c_Image_indexFrom 20 = .ok (.istore 5, 2) := by decide +kernel
theorem hx_d_Image_indexFrom_22 : decode hx_c_Image_indexFrom 22 = .ok (.aload_n 0, 1) := by decide +kernel
theorem hx_d_Image_indexFrom_23 : decode hx_c_Image_indexFrom 23 = .ok (.getfield 9, 3) := by decide +kernel
theorem hx_d_Image_indexFrom_26 : decode hx_c_Image_indexFrom 26 = .ok (.iload 5, 2) := by decide +kernel
theorem hx_d_Image_indexFrom_28 : decode hx_c_Image_indexFrom 28 = .ok (.laload, 1) := by decide +kernel
theorem hx_d_Image_indexFrom_29 : decode hx_c_Image_indexFrom 29 = .ok (.lload_n 1, 1) := by decide +kernel
theorem hx_d_Image_indexFrom_30 : decode hx_c_Image_indexFrom 30 = .ok (.lcmp, 1) := by decide +kernel
theorem hx_d_Image_indexFrom_31 : decode hx_c_Image_indexFrom 31 = .ok (.ifCond .ge 11, 3) := by decide +kernel
theorem hx_d_Image_indexFrom_34 : decode hx_c_Image_indexFrom 34 = .ok (.iload 5, 2) := by decide +kernel
theorem hx_d_Image_indexFrom_36 : decode hx_c_Image_indexFrom 36 = .ok (.iconst 1, 1) := by decide +kernel
theorem hx_d_Image_indexFrom_37 : decode hx_c_Image_indexFrom 37 = .ok (.iadd, 1) := by decide +kernel
theorem hx_d_Image_indexFrom_38 : decode hx_c_Image_indexFrom 38 = .ok (.istore_n 3, 1) := by decide +kernel
theorem hx_d_Image_indexFrom_39 : decode hx_c_Image_indexFrom 39 = .ok (.goto 7, 3) := by decide +kernel
theorem hx_d_Image_indexFrom_42 : decode hx_c_Image_indexFrom 42 = .ok (.iload 5, 2) := by decide +kernel
theorem hx_d_Image_indexFrom_44 : decode hx_c_Image_indexFrom 44 = .ok (.istore 4, 2) := by decide +kernel
theorem hx_d_Image_indexFrom_46 : decode hx_c_Image_indexFrom 46 = .ok (.goto (-38), 3) := by decide +kernel
theorem hx_d_Image_indexFrom_49 : decode hx_c_Image_indexFrom 49 = .ok (.iload_n 3, 1) := by decide +kernel
theorem hx_d_Image_indexFrom_50 : decode hx_c_Image_indexFrom 50 = .ok (.ireturn, 1) := by decide +kernel
theorem hx_d_Image_addressOf_0 : decode hx_c_Image_addressOf 0 = .ok (.iload_n 1, 1) := by decide +kernel
theorem hx_d_Image_addressOf_1 : decode hx_c_Image_addressOf 1 = .ok (.ifCond .lt 20, 3) := by decide +kernel
theorem hx_d_Image_addressOf_4 : decode hx_c_Image_addressOf 4 = .ok (.iload_n 1, 1) := by decide +kernel
theorem hx_d_Image_addressOf_5 : decode hx_c_Image_addressOf 5 = .ok (.aload_n 0, 1) := by decide +kernel
theorem hx_d_Image_addressOf_6 : decode hx_c_Image_addressOf 6 = .ok (.getfield 25, 3) := by decide +kernel
theorem hx_d_Image_addressOf_9 : decode hx_c_Image_addressOf 9 = .ok (.if_icmp .ge 12, 3) := by decide +kernel
theorem hx_d_Image_addressOf_12 : decode hx_c_Image_addressOf 12 = .ok (.aload_n 0, 1) := by decide +kernel
theorem hx_d_Image_addressOf_13 : decode hx_c_Image_addressOf 13 = .ok (.getfield 9, 3) := by decide +kernel
theorem hx_d_Image_addressOf_16 : decode hx_c_Image_addressOf 16 = .ok (.iload_n 1, 1) := by decide +kernel
theorem hx_d_Image_addressOf_17 : decode hx_c_Image_addressOf 17 = .ok (.laload, 1) := by decide +kernel
theorem hx_d_Image_addressOf_18 : decode hx_c_Image_addressOf 18 = .ok (.goto 6, 3) := by decide +kernel
theorem hx_d_Image_addressOf_21 : decode hx_c_Image_addressOf 21 = .ok (.ldc2_w 29, 3) := by decide +kernel
theorem hx_d_Image_addressOf_24 : decode hx_c_Image_addressOf 24 = .ok (.lreturn, 1) := by decide +kernel
theorem hx_d_Image_size_0 : decode hx_c_Image_size 0 = .ok (.aload_n 0, 1) := by decide +kernel
theorem hx_d_Image_size_1 : decode hx_c_Image_size 1 = .ok (.getfield 25, 3) := by decide +kernel
theorem hx_d_Image_size_4 : decode hx_c_Image_size 4 = .ok (.ireturn, 1) := by decide +kernel
theorem hx_d_Image_spread_0 : decode hx_c_Image_spread 0 = .ok (.aload_n 0, 1) := by decide +kernel
theorem hx_d_Image_spread_1 : decode hx_c_Image_spread 1 = .ok (.lload_n 1, 1) := by decide +kernel
theorem hx_d_Image_spread_2 : decode hx_c_Image_spread 2 = .ok (.iload_n 3, 1) := by decide +kernel
theorem hx_d_Image_spread_3 : decode hx_c_Image_spread 3 = .ok (.iload_n 3, 1) := by decide +kernel
theorem hx_d_Image_spread_4 : decode hx_c_Image_spread 4 = .ok (.invokevirtual 42, 3) := by decide +kernel
theorem hx_d_Image_spread_7 : decode hx_c_Image_spread 7 = .ok (.istore 5, 2) := by decide +kernel
theorem hx_d_Image_spread_9 : decode hx_c_Image_spread 9 = .ok (.iload 5, 2) := by decide +kernel
theorem hx_d_Image_spread_11 : decode hx_c_Image_spread 11 = .ok (.iconst (-1), 1) := by decide +kernel
theorem hx_d_Image_spread_12 : decode hx_c_Image_spread 12 = .ok (.if_icmp .ne 5, 3) := by decide +kernel
theorem hx_d_Image_spread_15 : decode hx_c_Image_spread 15 = .ok (.iconst 0, 1) := by decide +kernel
theorem hx_d_Image_spread_16 : decode hx_c_Image_spread 16 = .ok (.ireturn, 1) := by decide +kernel
theorem hx_d_Image_spread_17 : decode hx_c_Image_spread 17 = .ok (.iconst 0, 1) := by decide +kernel
theorem hx_d_Image_spread_18 : decode hx_c_Image_spread 18 = .ok (.istore 6, 2) := by decide +kernel
theorem hx_d_Image_spread_20 : decode hx_c_Image_spread 20 = .ok (.iload 6, 2) := by decide +kernel
theorem hx_d_Image_spread_22 : decode hx_c_Image_spread 22 = .ok (.iload_n 3, 1) := by decide +kernel
theorem hx_d_Image_spread_23 : decode hx_c_Image_spread 23 = .ok (.if_icmp .ge 36, 3) := by decide +kernel
theorem hx_d_Image_spread_26 : decode hx_c_Image_spread 26 = .ok (.aload_n 0, 1) := by decide +kernel
theorem hx_d_Image_spread_27 : decode hx_c_Image_spread 27 = .ok (.getfield 9, 3) := by decide +kernel
theorem hx_d_Image_spread_30 : decode hx_c_Image_spread 30 = .ok (.iload 5, 2) := by decide +kernel
theorem hx_d_Image_spread_32 : decode hx_c_Image_spread 32 = .ok (.iload 6, 2) := by decide +kernel
theorem hx_d_Image_spread_34 : decode hx_c_Image_spread 34 = .ok (.iadd, 1) := by decide +kernel
theorem hx_d_Image_spread_35 : decode hx_c_Image_spread 35 = .ok (.lload_n 1, 1) := by decide +kernel
theorem hx_d_Image_spread_36 : decode hx_c_Image_spread 36 = .ok (.iload 6, 2) := by decide +kernel
theorem hx_d_Image_spread_38 : decode hx_c_Image_spread 38 = .ok (.i2l, 1) := by decide +kernel
theorem hx_d_Image_spread_39 : decode hx_c_Image_spread 39 = .ok (.ladd, 1) := by decide +kernel
theorem hx_d_Image_spread_40 : decode hx_c_Image_spread 40 = .ok (.lastore, 1) := by decide +kernel
theorem hx_d_Image_spread_41 : decode hx_c_Image_spread 41 = .ok (.aload_n 0, 1) := by decide +kernel
theorem hx_d_Image_spread_42 : decode hx_c_Image_spread 42 = .ok (.getfield 15, 3) := by decide +kernel
theorem hx_d_Image_spread_45 : decode hx_c_Image_spread 45 = .ok (.iload 5, 2) := by decide +kernel
theorem hx_d_Image_spread_47 : decode hx_c_Image_spread 47 = .ok (.iload 6, 2) := by decide +kernel
theorem hx_d_Image_spread_49 : decode hx_c_Image_spread 49 = .ok (.iadd, 1) := by decide +kernel
theorem hx_d_Image_spread_50 : decode hx_c_Image_spread 50 = .ok (.iload 4, 2) := by decide +kernel
theorem hx_d_Image_spread_52 : decode hx_c_Image_spread 52 = .ok (.iastore, 1) := by decide +kernel
theorem hx_d_Image_spread_53 : decode hx_c_Image_spread 53 = .ok (.iinc 6 1, 3) := by decide +kernel
theorem hx_d_Image_spread_56 : decode hx_c_Image_spread 56 = .ok (.goto (-36), 3) := by decide +kernel
theorem hx_d_Image_spread_59 : decode hx_c_Image_spread 59 = .ok (.iconst 1, 1) := by decide +kernel
theorem hx_d_Image_spread_60 : decode hx_c_Image_spread 60 = .ok (.ireturn, 1) := by decide +kernel
theorem hx_d_Image_openBlock_0 : decode hx_c_Image_openBlock 0 = .ok (.aload_n 0, 1) := by decide +kernel
theorem hx_d_Image_openBlock_1 : decode hx_c_Image_openBlock 1 = .ok (.lload_n 1, 1) := by decide +kernel
theorem hx_d_Image_openBlock_2 : decode hx_c_Image_openBlock 2 = .ok (.invokevirtual 31, 3) := by decide +kernel
theorem hx_d_Image_openBlock_5 : decode hx_c_Image_openBlock 5 = .ok (.istore 5, 2) := by decide +kernel
theorem hx_d_Image_openBlock_7 : decode hx_c_Image_openBlock 7 = .ok (.aload_n 0, 1) := by decide +kernel
theorem hx_d_Image_openBlock_8 : decode hx_c_Image_openBlock 8 = .ok (.lload_n 1, 1) := by decide +kernel
theorem hx_d_Image_openBlock_9 : decode hx_c_Image_openBlock 9 = .ok (.iload_n 3, 1) := by decide +kernel
theorem hx_d_Image_openBlock_10 : decode hx_c_Image_openBlock 10 = .ok (.i2l, 1) := by decide +kernel
theorem hx_d_Image_openBlock_11 : decode hx_c_Image_openBlock 11 = .ok (.ladd, 1) := by decide +kernel
theorem hx_d_Image_openBlock_12 : decode hx_c_Image_openBlock 12 = .ok (.invokevirtual 31, 3) := by decide +kernel
theorem hx_d_Image_openBlock_15 : decode hx_c_Image_openBlock 15 = .ok (.istore 6, 2) := by decide +kernel
theorem hx_d_Image_openBlock_17 : decode hx_c_Image_openBlock 17 = .ok (.aload_n 0, 1) := by decide +kernel
theorem hx_d_Image_openBlock_18 : decode hx_c_Image_openBlock 18 = .ok (.getfield 25, 3) := by decide +kernel
theorem hx_d_Image_openBlock_21 : decode hx_c_Image_openBlock 21 = .ok (.iload 6, 2) := by decide +kernel
theorem hx_d_Image_openBlock_23 : decode hx_c_Image_openBlock 23 = .ok (.iload 5, 2) := by decide +kernel
theorem hx_d_Image_openBlock_25 : decode hx_c_Image_openBlock 25 = .ok (.isub, 1) := by decide +kernel
theorem hx_d_Image_openBlock_26 : decode hx_c_Image_openBlock 26 = .ok (.isub, 1) := by decide +kernel
theorem hx_d_Image_openBlock_27 : decode hx_c_Image_openBlock 27 = .ok (.iload 4, 2) := by decide +kernel
theorem hx_d_Image_openBlock_29 : decode hx_c_Image_openBlock 29 = .ok (.iadd, 1) := by decide +kernel
theorem hx_d_Image_openBlock_30 : decode hx_c_Image_openBlock 30 = .ok (.istore 7, 2) := by decide +kernel
theorem hx_d_Image_openBlock_32 : decode hx_c_Image_openBlock 32 = .ok (.iload 7, 2) := by decide +kernel
theorem hx_d_Image_openBlock_34 : decode hx_c_Image_openBlock 34 = .ok (.sipush 3000, 3) := by decide +kernel
theorem hx_d_Image_openBlock_37 : decode hx_c_Image_openBlock 37 = .ok (.if_icmp .le 5, 3) := by decide +kernel
theorem hx_d_Image_openBlock_40 : decode hx_c_Image_openBlock 40 = .ok (.iconst (-1), 1) := by decide +kernel
theorem hx_d_Image_openBlock_41 : decode hx_c_Image_openBlock 41 = .ok (.ireturn, 1) := by decide +kernel
theorem hx_d_Image_openBlock_42 : decode hx_c_Image_openBlock 42 = .ok (.aload_n 0, 1) := by decide +kernel
theorem hx_d_Image_openBlock_43 : decode hx_c_Image_openBlock 43 = .ok (.getfield 9, 3) := by decide +kernel
theorem hx_d_Image_openBlock_46 : decode hx_c_Image_openBlock 46 = .ok (.iload 6, 2) := by decide +kernel
theorem hx_d_Image_openBlock_48 : decode hx_c_Image_openBlock 48 = .ok (.aload_n 0, 1) := by decide +kernel
theorem hx_d_Image_openBlock_49 : decode hx_c_Image_openBlock 49 = .ok (.getfield 9, 3) := by decide +kernel
theorem hx_d_Image_openBlock_52 : decode hx_c_Image_openBlock 52 = .ok (.iload 5, 2) := by decide +kernel
theorem hx_d_Image_openBlock_54 : decode hx_c_Image_openBlock 54 = .ok (.iload 4, 2) := by decide +kernel
theorem hx_d_Image_openBlock_56 : decode hx_c_Image_openBlock 56 = .ok (.iadd, 1) := by decide +kernel
theorem hx_d_Image_openBlock_57 : decode hx_c_Image_openBlock 57 = .ok (.aload_n 0, 1) := by decide +kernel
theorem hx_d_Image_openBlock_58 : decode hx_c_Image_openBlock 58 = .ok (.getfield 25, 3) := by decide +kernel
theorem hx_d_Image_openBlock_61 : decode hx_c_Image_openBlock 61 = .ok (.iload 6, 2) := by decide +kernel
theorem hx_d_Image_openBlock_63 : decode hx_c_Image_openBlock 63 = .ok (.isub, 1) := by decide +kernel
theorem hx_d_Image_openBlock_64 : decode hx_c_Image_openBlock 64 = .ok (.invokestatic 52, 3) := by decide +kernel
theorem hx_d_Image_openBlock_67 : decode hx_c_Image_openBlock 67 = .ok (.aload_n 0, 1) := by decide +kernel
theorem hx_d_Image_openBlock_68 : decode hx_c_Image_openBlock 68 = .ok (.getfield 15, 3) := by decide +kernel
theorem hx_d_Image_openBlock_71 : decode hx_c_Image_openBlock 71 = .ok (.iload 6, 2) := by decide +kernel
theorem hx_d_Image_openBlock_73 : decode hx_c_Image_openBlock 73 = .ok (.aload_n 0, 1) := by decide +kernel
theorem hx_d_Image_openBlock_74 : decode hx_c_Image_openBlock 74 = .ok (.getfield 15, 3) := by decide +kernel
theorem hx_d_Image_openBlock_77 : decode hx_c_Image_openBlock 77 = .ok (.iload 5, 2) := by decide +kernel
theorem hx_d_Image_openBlock_79 : decode hx_c_Image_openBlock 79 = .ok (.iload 4, 2) := by decide +kernel
theorem hx_d_Image_openBlock_81 : decode hx_c_Image_openBlock 81 = .ok (.iadd, 1) := by decide +kernel
theorem hx_d_Image_openBlock_82 : decode hx_c_Image_openBlock 82 = .ok (.aload_n 0, 1) := by decide +kernel
theorem hx_d_Image_openBlock_83 : decode hx_c_Image_openBlock 83 = .ok (.getfield 25, 3) := by decide +kernel
theorem hx_d_Image_openBlock_86 : decode hx_c_Image_openBlock 86 = .ok (.iload 6, 2) := by decide +kernel
theorem hx_d_Image_openBlock_88 : decode hx_c_Image_openBlock 88 = .ok (.isub, 1) := by decide +kernel
theorem hx_d_Image_openBlock_89 : decode hx_c_Image_openBlock 89 = .ok (.invokestatic 52, 3) := by decide +kernel
theorem hx_d_Image_openBlock_92 : decode hx_c_Image_openBlock 92 = .ok (.aload_n 0, 1) := by decide +kernel
theorem hx_d_Image_openBlock_93 : decode hx_c_Image_openBlock 93 = .ok (.iload 7, 2) := by decide +kernel
theorem hx_d_Image_openBlock_95 : decode hx_c_Image_openBlock 95 = .ok (.putfield 25, 3) := by decide +kernel
theorem hx_d_Image_openBlock_98 : decode hx_c_Image_openBlock 98 = .ok (.iload 5, 2) := by decide +kernel
theorem hx_d_Image_openBlock_100 : decode hx_c_Image_openBlock 100 = .ok (.ireturn, 1) := by decide +kernel
theorem hx_d_Colon_takeOther_0 : decode hx_c_Colon_takeOther 0 = .ok (.iload_n 1, 1) := by decide +kernel
theorem hx_d_Colon_takeOther_1 : decode hx_c_Colon_takeOther 1 = .ok (.tableswitch 124 1 5 #[35, 43, 65, 90, 111], 35) := by decide +kernel
theorem hx_d_Colon_takeOther_36 : decode hx_c_Colon_takeOther 36 = .ok (.aload_n 3, 1) := by decide +kernel
theorem hx_d_Colon_takeOther_37 : decode hx_c_Colon_takeOther 37 = .ok (.iconst 1, 1) := by decide +kernel
theorem hx_d_Colon_takeOther_38 : decode hx_c_Colon_takeOther 38 = .ok (.putfield 23, 3) := by decide +kernel
theorem hx_d_Colon_takeOther_41 : decode hx_c_Colon_takeOther 41 = .ok (.goto 84, 3) := by decide +kernel
theorem hx_d_Colon_takeOther_44 : decode hx_c_Colon_takeOther 44 = .ok (.aload_n 0, 1) := by decide +kernel
theorem hx_d_Colon_takeOther_45 : decode hx_c_Colon_takeOther 45 = .ok (.aload_n 2, 1) := by decide +kernel
theorem hx_d_Colon_takeOther_46 : decode hx_c_Colon_takeOther 46 = .ok (.iconst 4, 1) := by decide +kernel
theorem hx_d_Colon_takeOther_47 : decode hx_c_Colon_takeOther 47 = .ok (.iconst 2, 1) := by decide +kernel
theorem hx_d_Colon_takeOther_48 : decode hx_c_Colon_takeOther 48 = .ok (.invokevirtual 34, 3) := by decide +kernel
theorem hx_d_Colon_takeOther_51 : decode hx_c_Colon_takeOther 51 = .ok (.ldc2_w 73, 3) := by decide +kernel
theorem hx_d_Colon_takeOther_54 : decode hx_c_Colon_takeOther 54 = .ok (.lmul, 1) := by decide +kernel
theorem hx_d_Colon_takeOther_55 : decode hx_c_Colon_takeOther 55 = .ok (.putfield 9, 3) := by decide +kernel
theorem hx_d_Colon_takeOther_58 : decode hx_c_Colon_takeOther 58 = .ok (.aload_n 0, 1) := by decide +kernel
theorem hx_d_Colon_takeOther_59 : decode hx_c_Colon_takeOther 59 = .ok (.iconst 1, 1) := by decide +kernel
theorem hx_d_Colon_takeOther_60 : decode hx_c_Colon_takeOther 60 = .ok (.putfield 15, 3) := by decide +kernel
theorem hx_d_Colon_takeOther_63 : decode hx_c_Colon_takeOther 63 = .ok (.goto 62, 3) := by decide +kernel
theorem hx_d_Colon_takeOther_66 : decode hx_c_Colon_takeOther 66 = .ok (.aload_n 3, 1) := by decide +kernel
theorem hx_d_Colon_takeOther_67 : decode hx_c_Colon_takeOther 67 = .ok (.aload_n 2, 1) := by decide +kernel
theorem hx_d_Colon_takeOther_68 : decode hx_c_Colon_takeOther 68 = .ok (.iconst 4, 1) := by decide +kernel
theorem hx_d_Colon_takeOther_69 : decode hx_c_Colon_takeOther 69 = .ok (.iconst 2, 1) := by decide +kernel
theorem hx_d_Colon_takeOther_70 : decode hx_c_Colon_takeOther 70 = .ok (.invokevirtual 34, 3) := by decide +kernel
theorem hx_d_Colon_takeOther_73 : decode hx_c_Colon_takeOther 73 = .ok (.ldc2_w 73, 3) := by decide +kernel
theorem hx_d_Colon_takeOther_76 : decode hx_c_Colon_takeOther 76 = .ok (.lmul, 1) := by decide +kernel
theorem hx_d_Colon_takeOther_77 : decode hx_c_Colon_takeOther 77 = .ok (.aload_n 2, 1) := by decide +kernel
theorem hx_d_Colon_takeOther_78 : decode hx_c_Colon_takeOther 78 = .ok (.bipush 6, 2) := by decide +kernel
theorem hx_d_Colon_takeOther_80 : decode hx_c_Colon_takeOther 80 = .ok (.iconst 2, 1) := by decide +kernel
theorem hx_d_Colon_takeOther_81 : decode hx_c_Colon_takeOther 81 = .ok (.invokevirtual 34, 3) := by decide +kernel
theorem hx_d_Colon_takeOther_84 : decode hx_c_Colon_takeOther 84 = .ok (.ladd, 1) := by decide +kernel
theorem hx_d_Colon_takeOther_85 : decode hx_c_Colon_takeOther 85 = .ok (.putfield 75, 3) := by decide +kernel
theorem hx_d_Colon_takeOther_88 : decode hx_c_Colon_takeOther 88 = .ok (.goto 37, 3) := by decide +kernel
theorem hx_d_Colon_takeOther_91 : decode hx_c_Colon_takeOther 91 = .ok (.aload_n 0, 1) := by decide +kernel
theorem hx_d_Colon_takeOther_92 : decode hx_c_Colon_takeOther 92 = .ok (.aload_n 2, 1) := by decide +kernel
theorem hx_d_Colon_takeOther_93 : decode hx_c_Colon_takeOther 93 = .ok (.iconst 4, 1) := by decide +kernel
theorem hx_d_Colon_takeOther_94 : decode hx_c_Colon_takeOther 94 = .ok (.iconst 2, 1) := by decide +kernel
theorem hx_d_Colon_takeOther_95 : decode hx_c_Colon_takeOther 95 = .ok (.invokevirtual 34, 3) := by decide +kernel
theorem hx_d_Colon_takeOther_98 : decode hx_c_Colon_takeOther 98 = .ok (.bipush 16, 2) := by decide +kernel
theorem hx_d_Colon_takeOther_100 : decode hx_c_Colon_takeOther 100 = .ok (.lshl, 1) := by decide +kernel
theorem hx_d_Colon_takeOther_101 : decode hx_c_Colon_takeOther 101 = .ok (.putfield 9, 3) := by decide +kernel
theorem hx_d_Colon_takeOther_104 : decode hx_c_Colon_takeOther 104 = .ok (.aload_n 0, 1) := by decide +kernel
theorem hx_d_Colon_takeOther_105 : decode hx_c_Colon_takeOther 105 = .ok (.iconst 0, 1) := by decide +kernel
theorem hx_d_Colon_takeOther_106 : decode hx_c_Colon_takeOther 106 = .ok (.putfield 15, 3) := by decide +kernel
theorem hx_d_Colon_takeOther_109 : decode hx_c_Colon_takeOther 109 = .ok (.goto 16, 3) := by decide +kernel
theorem hx_d_Colon_takeOther_112 : decode hx_c_Colon_takeOther 112 = .ok (.aload_n 3, 1) := by decide +kernel
theorem hx_d_Colon_takeOther_113 : decode hx_c_Colon_takeOther 113 = .ok (.aload_n 2, 1) := by decide +kernel
theorem hx_d_Colon_takeOther_114 : decode hx_c_Colon_takeOther 114 = .ok (.iconst 4, 1) := by decide +kernel
theorem hx_d_Colon_takeOther_115 : decode hx_c_Colon_takeOther 115 = .ok (.iconst 4, 1) := by decide +kernel
theorem hx_d_Colon_takeOther_116 : decode hx_c_Colon_takeOther 116 = .ok (.invokevirtual 34, 3) := by decide +kernel
theorem hx_d_Colon_takeOther_119 : decode hx_c_Colon_takeOther 119 = .ok (.putfield 75, 3) := by decide +kernel
theorem hx_d_Colon_takeOther_122 : decode hx_c_Colon_takeOther 122 = .ok (.goto 3, 3) := by decide +kernel
theorem hx_d_Colon_takeOther_125 : decode hx_c_Colon_takeOther 125 = .ok (.return_, 1) := by decide +kernel
theorem hx_d_SRead_faultOf_0 : decode hx_c_SRead_faultOf 0 = .ok (.aload_n 1, 1) := by decide +kernel
theorem hx_d_SRead_faultOf_1 : decode hx_c_SRead_faultOf 1 = .ok (.invokestatic 15, 3) := by decide +kernel
theorem hx_d_SRead_faultOf_4 : decode hx_c_SRead_faultOf 4 = .ok (.istore 4, 2) := by decide +kernel
theorem hx_d_SRead_faultOf_6 : decode hx_c_SRead_faultOf 6 = .ok (.iload 4, 2) := by decide +kernel
theorem hx_d_SRead_faultOf_8 : decode hx_c_SRead_faultOf 8 = .ok (.ifCond .eq 6, 3) := by decide +kernel
theorem hx_d_SRead_faultOf_11 : decode hx_c_SRead_faultOf 11 = .ok (.iload 4, 2) := by decide +kernel
theorem hx_d_SRead_faultOf_13 : decode hx_c_SRead_faultOf 13 = .ok (.ireturn, 1) := by decide +kernel
theorem hx_d_SRead_faultOf_14 : decode hx_c_SRead_faultOf 14 = .ok (.aload_n 2, 1) := by decide +kernel
theorem hx_d_SRead_faultOf_15 : decode hx_c_SRead_faultOf 15 = .ok (.getfield 19, 3) := by decide +kernel
theorem hx_d_SRead_faultOf_18 : decode hx_c_SRead_faultOf 18 = .ok (.ifCond .eq 6, 3) := by decide +kernel
theorem hx_d_SRead_faultOf_21 : decode hx_c_SRead_faultOf 21 = .ok (.bipush 6, 2) := by decide +kernel
theorem hx_d_SRead_faultOf_23 : decode hx_c_SRead_faultOf 23 = .ok (.ireturn, 1) := by decide +kernel
theorem hx_d_SRead_faultOf_24 : decode hx_c_SRead_faultOf 24 = .ok (.aload_n 1, 1) := by decide +kernel
theorem hx_d_SRead_faultOf_25 : decode hx_c_SRead_faultOf 25 = .ok (.iconst 1, 1) := by decide +kernel
theorem hx_d_SRead_faultOf_26 : decode hx_c_SRead_faultOf 26 = .ok (.invokevirtual 25, 3) := by decide +kernel
theorem hx_d_SRead_faultOf_29 : decode hx_c_SRead_faultOf 29 = .ok (.istore 5, 2) := by decide +kernel
theorem hx_d_SRead_faultOf_31 : decode hx_c_SRead_faultOf 31 = .ok (.iload 5, 2) := by decide +kernel
theorem hx_d_SRead_faultOf_33 : decode hx_c_SRead_faultOf 33 = .ok (.ifCond .ne 5, 3) := by decide +kernel
theorem hx_d_SRead_faultOf_36 : decode hx_c_SRead_faultOf 36 = .ok (.iconst 0, 1) := by decide +kernel
theorem hx_d_SRead_faultOf_37 : decode hx_c_SRead_faultOf 37 = .ok (.ireturn, 1) := by decide +kernel
theorem hx_d_SRead_faultOf_38 : decode hx_c_SRead_faultOf 38 = .ok (.iload 5, 2) := by decide +kernel
theorem hx_d_SRead_faultOf_40 : decode hx_c_SRead_faultOf 40 = .ok (.invokestatic 31, 3) := by decide +kernel
theorem hx_d_SRead_faultOf_43 : decode hx_c_SRead_faultOf 43 = .ok (.istore 6, 2) := by decide +kernel
theorem hx_d_SRead_faultOf_45 : decode hx_c_SRead_faultOf 45 = .ok (.aload_n 1, 1) := by decide +kernel
theorem hx_d_SRead_faultOf_46 : decode hx_c_SRead_faultOf 46 = .ok (.iconst 1, 1) := by decide +kernel
theorem hx_d_SRead_faultOf_47 : decode hx_c_SRead_faultOf 47 = .ok (.iload 6, 2) := by decide +kernel
theorem hx_d_SRead_faultOf_49 : decode hx_c_SRead_faultOf 49 = .ok (.invokevirtual 34, 3) := by decide +kernel
theorem hx_d_SRead_faultOf_52 : decode hx_c_SRead_faultOf 52 = .ok (.lstore 7, 2) := by decide +kernel
theorem hx_d_SRead_faultOf_54 : decode hx_c_SRead_faultOf 54 = .ok (.iload 5, 2) := by decide +kernel
theorem hx_d_SRead_faultOf_56 : decode hx_c_SRead_faultOf 56 = .ok (.iconst 5, 1) := by decide +kernel
theorem hx_d_SRead_faultOf_57 : decode hx_c_SRead_faultOf 57 = .ok (.if_icmp .ne 21, 3) := by decide +kernel
theorem hx_d_SRead_faultOf_60 : decode hx_c_SRead_faultOf 60 = .ok (.lload 7, 2) := by decide +kernel
theorem hx_d_SRead_faultOf_62 : decode hx_c_SRead_faultOf 62 = .ok (.aload_n 0, 1) := by decide +kernel
theorem hx_d_SRead_faultOf_63 : decode hx_c_SRead_faultOf 63 = .ok (.getfield 9, 3) := by decide +kernel
theorem hx_d_SRead_faultOf_66 : decode hx_c_SRead_faultOf 66 = .ok (.i2l, 1) := by decide +kernel
theorem hx_d_SRead_faultOf_67 : decode hx_c_SRead_faultOf 67 = .ok (.lcmp, 1) := by decide +kernel
theorem hx_d_SRead_faultOf_68 : decode hx_c_SRead_faultOf 68 = .ok (.ifCond .ne 7, 3) := by decide +kernel
theorem hx_d_SRead_faultOf_71 : decode hx_c_SRead_faultOf 71 = .ok (.iconst 0, 1) := by decide +kernel
theorem hx_d_SRead_faultOf_72 : decode hx_c_SRead_faultOf 72 = .ok (.goto 5, 3) := by decide +kernel
theorem hx_d_SRead_faultOf_75 : decode hx_c_SRead_faultOf 75 = .ok (.bipush 7, 2) := by decide +kernel
theorem hx_d_SRead_faultOf_77 : decode hx_c_SRead_faultOf 77 = .ok (.ireturn, 1) := by decide +kernel
theorem hx_d_SRead_faultOf_78 : decode hx_c_SRead_faultOf 78 = .ok (.iload 5, 2) := by decide +kernel
theorem hx_d_SRead_faultOf_80 : decode hx_c_SRead_faultOf 80 = .ok (.bipush 7, 2) := by decide +kernel
theorem hx_d_SRead_faultOf_82 : decode hx_c_SRead_faultOf 82 = .ok (.if_icmp .lt 16, 3) := by decide +kernel
theorem hx_d_SRead_faultOf_85 : decode hx_c_SRead_faultOf 85 = .ok (.aload_n 2, 1) := by decide +kernel
theorem hx_d_SRead_faultOf_86 : decode hx_c_SRead_faultOf 86 = .ok (.iconst 1, 1) := by decide +kernel
theorem hx_d_SRead_faultOf_87 : decode hx_c_SRead_faultOf 87 = .ok (.putfield 19, 3) := by decide +kernel
theorem hx_d_SRead_faultOf_90 : decode hx_c_SRead_faultOf 90 = .ok (.aload_n 2, 1) := by decide +kernel
theorem hx_d_SRead_faultOf_91 : decode hx_c_SRead_faultOf 91 = .ok (.lload 7, 2) := by decide +kernel
theorem hx_d_SRead_faultOf_93 : decode hx_c_SRead_faultOf 93 = .ok (.putfield 38, 3) := by decide +kernel
theorem hx_d_SRead_faultOf_96 : decode hx_c_SRead_faultOf 96 = .ok (.iconst 0, 1) := by decide +kernel
theorem hx_d_SRead_faultOf_97 : decode hx_c_SRead_faultOf 97 = .ok (.ireturn, 1) := by decide +kernel
theorem hx_d_SRead_faultOf_98 : decode hx_c_SRead_faultOf 98 = .ok (.aload_n 0, 1) := by decide +kernel
theorem hx_d_SRead_faultOf_99 : decode hx_c_SRead_faultOf 99 = .ok (.dup, 1) := by decide +kernel
theorem hx_d_SRead_faultOf_100 : decode hx_c_SRead_faultOf 100 = .ok (.getfield 9, 3) := by decide +kernel
theorem hx_d_SRead_faultOf_103 : decode hx_c_SRead_faultOf 103 = .ok (.iconst 1, 1) := by decide +kernel
theorem hx_d_SRead_faultOf_104 : decode hx_c_SRead_faultOf 104 = .ok (.iadd, 1) := by decide +kernel
theorem hx_d_SRead_faultOf_105 : decode hx_c_SRead_faultOf 105 = .ok (.putfield 9, 3) := by decide +kernel
theorem hx_d_SRead_faultOf_108 : decode hx_c_SRead_faultOf 108 = .ok (.aload_n 0, 1) := by decide +kernel
theorem hx_d_SRead_faultOf_109 : decode hx_c_SRead_faultOf 109 = .ok (.aload_n 1, 1) := by decide +kernel
theorem hx_d_SRead_faultOf_110 : decode hx_c_SRead_faultOf 110 = .ok (.iconst 1, 1) := by decide +kernel
theorem hx_d_SRead_faultOf_111 : decode hx_c_SRead_faultOf 111 = .ok (.iload 6, 2) := by decide +kernel
theorem hx_d_SRead_faultOf_113 : decode hx_c_SRead_faultOf 113 = .ok (.iadd, 1) := by decide +kernel
theorem hx_d_SRead_faultOf_114 : decode hx_c_SRead_faultOf 114 = .ok (.aload_n 1, 1) := by decide +kernel
theorem hx_d_SRead_faultOf_115 : decode hx_c_SRead_faultOf 115 = .ok (.invokestatic 42, 3) := by decide +kernel
theorem hx_d_SRead_faultOf_118 : decode hx_c_SRead_faultOf 118 = .ok (.lload 7, 2) := by decide +kernel
theorem hx_d_SRead_faultOf_120 : decode hx_c_SRead_faultOf 120 = .ok (.aload_n 2, 1) := by decide +kernel
theorem hx_d_SRead_faultOf_121 : decode hx_c_SRead_faultOf 121 = .ok (.aload_n 3, 1) := by decide +kernel
theorem hx_d_SRead_faultOf_122 : decode hx_c_SRead_faultOf 122 = .ok (.invokevirtual 45, 3) := by decide +kernel
theorem hx_d_SRead_faultOf_125 : decode hx_c_SRead_faultOf 125 = .ok (.ireturn, 1) := by decide +kernel
theorem hx_d_SRead_faultOfForm_0 : decode hx_c_SRead_faultOfForm 0 = .ok (.aload_n 0, 1) := by decide +kernel
theorem hx_d_SRead_faultOfForm_1 : decode hx_c_SRead_faultOfForm 1 = .ok (.bipush 83, 2) := by decide +kernel
theorem hx_d_SRead_faultOfForm_3 : decode hx_c_SRead_faultOfForm 3 = .ok (.invokevirtual 49, 3) := by decide +kernel
theorem hx_d_SRead_faultOfForm_6 : decode hx_c_SRead_faultOfForm 6 = .ok (.ifCond .ne 5, 3) := by decide +kernel
theorem hx_d_SRead_faultOfForm_9 : decode hx_c_SRead_faultOfForm 9 = .ok (.iconst 1, 1) := by decide +kernel
theorem hx_d_SRead_faultOfForm_10 : decode hx_c_SRead_faultOfForm 10 = .ok (.ireturn, 1) := by decide +kernel
theorem hx_d_SRead_faultOfForm_11 : decode hx_c_SRead_faultOfForm 11 = .ok (.aload_n 0, 1) := by decide +kernel
theorem hx_d_SRead_faultOfForm_12 : decode hx_c_SRead_faultOfForm 12 = .ok (.invokevirtual 53, 3) := by decide +kernel
theorem hx_d_SRead_faultOfForm_15 : decode hx_c_SRead_faultOfForm 15 = .ok (.iconst 2, 1) := by decide +kernel
theorem hx_d_SRead_faultOfForm_16 : decode hx_c_SRead_faultOfForm 16 = .ok (.if_icmp .ge 5, 3) := by decide +kernel
theorem hx_d_SRead_faultOfForm_19 : decode hx_c_SRead_faultOfForm 19 = .ok (.iconst 3, 1) := by decide +kernel
theorem hx_d_SRead_faultOfForm_20 : decode hx_c_SRead_faultOfForm 20 = .ok (.ireturn, 1) := by decide +kernel
theorem hx_d_SRead_faultOfForm_21 : decode hx_c_SRead_faultOfForm 21 = .ok (.aload_n 0, 1) := by decide +kernel
theorem hx_d_SRead_faultOfForm_22 : decode hx_c_SRead_faultOfForm 22 = .ok (.iconst 1, 1) := by decide +kernel
theorem hx_d_SRead_faultOfForm_23 : decode hx_c_SRead_faultOfForm 23 = .ok (.invokevirtual 25, 3) := by decide +kernel
theorem hx_d_SRead_faultOfForm_26 : decode hx_c_SRead_faultOfForm 26 = .ok (.istore_n 1, 1) := by decide +kernel
theorem hx_d_SRead_faultOfForm_27 : decode hx_c_SRead_faultOfForm 27 = .ok (.iload_n 1, 1) := by decide +kernel
theorem hx_d_SRead_faultOfForm_28 : decode hx_c_SRead_faultOfForm 28 = .ok (.ifCond .lt 17, 3) := by decide +kernel
theorem hx_d_SRead_faultOfForm_31 : decode hx_c_SRead_faultOfForm 31 = .ok (.iload_n 1, 1) := by decide +kernel
theorem hx_d_SRead_faultOfForm_32 : decode hx_c_SRead_faultOfForm 32 = .ok (.bipush 10, 2) := by decide +kernel
theorem hx_d_SRead_faultOfForm_34 : decode hx_c_SRead_faultOfForm 34 = .ok (.if_icmp .ge 11, 3) := by decide +kernel
theorem hx_d_SRead_faultOfForm_37 : decode hx_c_SRead_faultOfForm 37 = .ok (.aload_n 0, 1) := by decide +kernel
theorem hx_d_SRead_faultOfForm_38 : decode hx_c_SRead_faultOfForm 38 = .ok (.iconst 2, 1) := by decide +kernel
theorem hx_d_SRead_faultOfForm_39 : decode hx_c_SRead_faultOfForm 39 = .ok (.invokevirtual 57, 3) := by decide +kernel
theorem hx_d_SRead_faultOfForm_42 : decode hx_c_SRead_faultOfForm 42 = .ok (.ifCond .ne 5, 3) := by decide +kernel
theorem hx_d_SRead_faultOfForm_45 : decode hx_c_SRead_faultOfForm 45 = .ok (.iconst 2, 1) := by decide +kernel
theorem hx_d_SRead_faultOfForm_46 : decode hx_c_SRead_faultOfForm 46 = .ok (.ireturn, 1) := by decide +kernel
theorem hx_d_SRead_faultOfForm_47 : decode hx_c_SRead_faultOfForm 47 = .ok (.aload_n 0, 1) := by decide +kernel
theorem hx_d_SRead_faultOfForm_48 : decode hx_c_SRead_faultOfForm 48 = .ok (.invokevirtual 61, 3) := by decide +kernel
theorem hx_d_SRead_faultOfForm_51 : decode hx_c_SRead_faultOfForm 51 = .ok (.istore_n 2, 1) := by decide +kernel
theorem hx_d_SRead_faultOfForm_52 : decode hx_c_SRead_faultOfForm 52 = .ok (.aload_n 0, 1) := by decide +kernel
theorem hx_d_SRead_faultOfForm_53 : decode hx_c_SRead_faultOfForm 53 = .ok (.invokevirtual 64, 3) := by decide +kernel
theorem hx_d_SRead_faultOfForm_56 : decode hx_c_SRead_faultOfForm 56 = .ok (.ifCond .ne 18, 3) := by decide +kernel
theorem hx_d_SRead_faultOfForm_59 : decode hx_c_SRead_faultOfForm 59 = .ok (.iload_n 2, 1) := by decide +kernel
theorem hx_d_SRead_faultOfForm_60 : decode hx_c_SRead_faultOfForm 60 = .ok (.ifCond .eq 14, 3) := by decide +kernel
theorem hx_d_SRead_faultOfForm_63 : decode hx_c_SRead_faultOfForm 63 = .ok (.iload_n 2, 1) := by decide +kernel
theorem hx_d_SRead_faultOfForm_64 : decode hx_c_SRead_faultOfForm 64 = .ok (.iconst 1, 1) := by decide +kernel
theorem hx_d_SRead_faultOfForm_65 : decode hx_c_SRead_faultOfForm 65 = .ok (.isub, 1) := by decide +kernel
theorem hx_d_SRead_faultOfForm_66 : decode hx_c_SRead_faultOfForm 66 = .ok (.aload_n 0, 1) := by decide +kernel
theorem hx_d_SRead_faultOfForm_67 : decode hx_c_SRead_faultOfForm 67 = .ok (.iconst 0, 1) := by decide +kernel
theorem hx_d_SRead_faultOfForm_68 : decode hx_c_SRead_faultOfForm 68 = .ok (.invokevirtual 68, 3) := by decide +kernel
theorem hx_d_SRead_faultOfForm_71 : decode hx_c_SRead_faultOfForm 71 = .ok (.if_icmp .eq 5, 3) := by decide +kernel
theorem hx_d_SRead_faultOfForm_74 : decode hx_c_SRead_faultOfForm 74 = .ok (.iconst 3, 1) := by decide +kernel
theorem hx_d_SRead_faultOfForm_75 : decode hx_c_SRead_faultOfForm 75 = .ok (.ireturn, 1) := by decide +kernel
theorem hx_d_SRead_faultOfForm_76 : decode hx_c_SRead_faultOfForm 76 = .ok (.aload_n 0, 1) := by decide +kernel
theorem hx_d_SRead_faultOfForm_77 : decode hx_c_SRead_faultOfForm 77 = .ok (.invokestatic 42, 3) := by decide +kernel
theorem hx_d_SRead_faultOfForm_80 : decode hx_c_SRead_faultOfForm 80 = .ok (.ifCond .ge 5, 3) := by decide +kernel
theorem hx_d_SRead_faultOfForm_83 : decode hx_c_SRead_faultOfForm 83 = .ok (.iconst 3, 1) := by decide +kernel
theorem hx_d_SRead_faultOfForm_84 : decode hx_c_SRead_faultOfForm 84 = .ok (.ireturn, 1) := by decide +kernel
theorem hx_d_SRead_faultOfForm_85 : decode hx_c_SRead_faultOfForm 85 = .ok (.iload_n 1, 1) := by decide +kernel
theorem hx_d_SRead_faultOfForm_86 : decode hx_c_SRead_faultOfForm 86 = .ok (.aload_n 0, 1) := by decide +kernel
theorem hx_d_SRead_faultOfForm_87 : decode hx_c_SRead_faultOfForm 87 = .ok (.invokestatic 42, 3) := by decide +kernel
theorem hx_d_SRead_faultOfForm_90 : decode hx_c_SRead_faultOfForm 90 = .ok (.invokestatic 71, 3) := by decide +kernel
theorem hx_d_SRead_faultOfForm_93 : decode hx_c_SRead_faultOfForm 93 = .ok (.ifCond .ne 5, 3) := by decide +kernel
theorem hx_d_SRead_faultOfForm_96 : decode hx_c_SRead_faultOfForm 96 = .ok (.iconst 4, 1) := by decide +kernel
theorem hx_d_SRead_faultOfForm_97 : decode hx_c_SRead_faultOfForm 97 = .ok (.ireturn, 1) := by decide +kernel
theorem hx_d_SRead_faultOfForm_98 : decode hx_c_SRead_faultOfForm 98 = .ok (.aload_n 0, 1) := by decide +kernel
theorem hx_d_SRead_faultOfForm_99 : decode hx_c_SRead_faultOfForm 99 = .ok (.invokevirtual 75, 3) := by decide +kernel
theorem hx_d_SRead_faultOfForm_102 : decode hx_c_SRead_faultOfForm 102 = .ok (.sipush 255, 3) := by decide +kernel
theorem hx_d_SRead_faultOfForm_105 : decode hx_c_SRead_faultOfForm 105 = .ok (.if_icmp .ne 7, 3) := by decide +kernel
theorem hx_d_SRead_faultOfForm_108 : decode hx_c_SRead_faultOfForm 108 = .ok (.iconst 0, 1) := by decide +kernel
theorem hx_d_SRead_faultOfForm_109 : decode hx_c_SRead_faultOfForm 109 = .ok (.goto 4, 3) := by decide +kernel
theorem hx_d_SRead_faultOfForm_112 : decode hx_c_SRead_faultOfForm 112 = .ok (.iconst 5, 1) := by decide +kernel
theorem hx_d_SRead_faultOfForm_113 : decode hx_c_SRead_faultOfForm 113 = .ok (.ireturn, 1) := by decide +kernel
theorem hx_d_SRead_dataBytes_0 : decode hx_c_SRead_dataBytes 0 = .ok (.aload_n 0, 1) := by decide +kernel
theorem hx_d_SRead_dataBytes_1 : decode hx_c_SRead_dataBytes 1 = .ok (.invokevirtual 61, 3) := by decide +kernel
theorem hx_d_SRead_dataBytes_4 : decode hx_c_SRead_dataBytes 4 = .ok (.iconst 1, 1) := by decide +kernel
theorem hx_d_SRead_dataBytes_5 : decode hx_c_SRead_dataBytes 5 = .ok (.isub, 1) := by decide +kernel
theorem hx_d_SRead_dataBytes_6 : decode hx_c_SRead_dataBytes 6 = .ok (.aload_n 0, 1) := by decide +kernel
theorem hx_d_SRead_dataBytes_7 : decode hx_c_SRead_dataBytes 7 = .ok (.iconst 1, 1) := by decide +kernel
theorem hx_d_SRead_dataBytes_8 : decode hx_c_SRead_dataBytes 8 = .ok (.invokevirtual 25, 3) := by decide +kernel
theorem hx_d_SRead_dataBytes_11 : decode hx_c_SRead_dataBytes 11 = .ok (.invokestatic 31, 3) := by decide +kernel
theorem hx_d_SRead_dataBytes_14 : decode hx_c_SRead_dataBytes 14 = .ok (.isub, 1) := by decide +kernel
theorem hx_d_SRead_dataBytes_15 : decode hx_c_SRead_dataBytes 15 = .ok (.iconst 1, 1) := by decide +kernel
theorem hx_d_SRead_dataBytes_16 : decode hx_c_SRead_dataBytes 16 = .ok (.isub, 1) := by decide +kernel
theorem hx_d_SRead_dataBytes_17 : decode hx_c_SRead_dataBytes 17 = .ok (.ireturn, 1) := by decide +kernel
theorem hx_d_SRead_addressBytes_0 : decode hx_c_SRead_addressBytes 0 = .ok (.iload_n 0, 1) := by decide +kernel
theorem hx_d_SRead_addressBytes_1 : decode hx_c_SRead_addressBytes 1 = .ok (.ifCond .lt 19, 3) := by decide +kernel
theorem hx_d_SRead_addressBytes_4 : decode hx_c_SRead_addressBytes 4 = .ok (.iload_n 0, 1) := by decide +kernel
theorem hx_d_SRead_addressBytes_5 : decode hx_c_SRead_addressBytes 5 = .ok (.getstatic 78, 3) := by decide +kernel
theorem hx_d_SRead_addressBytes_8 : decode hx_c_SRead_addressBytes 8 = .ok (.arraylength, 1) := by decide +kernel
theorem hx_d_SRead_addressBytes_9 : decode hx_c_SRead_addressBytes 9 = .ok (.if_icmp .ge 11, 3) := by decide +kernel
theorem hx_d_SRead_addressBytes_12 : decode hx_c_SRead_addressBytes 12 = .ok (.getstatic 78, 3) := by decide +kernel
theorem hx_d_SRead_addressBytes_15 : decode hx_c_SRead_addressBytes 15 = .ok (.iload_n 0, 1) := by decide +kernel
theorem hx_d_SRead_addressBytes_16 : decode hx_c_SRead_addressBytes 16 = .ok (.iaload, 1) := by decide +kernel
theorem hx_d_SRead_addressBytes_17 : decode hx_c_SRead_addressBytes 17 = .ok (.goto 4, 3) := by decide +kernel
theorem hx_d_SRead_addressBytes_20 : decode hx_c_SRead_addressBytes 20 = .ok (.iconst 2, 1) := by decide +kernel
theorem hx_d_SRead_addressBytes_21 : decode hx_c_SRead_addressBytes 21 = .ok (.ireturn, 1) := by decide +kernel
theorem hx_d_SRead_typeHas_0 : decode hx_c_SRead_typeHas 0 = .ok (.iload_n 0, 1) := by decide +kernel
theorem hx_d_SRead_typeHas_1 : decode hx_c_SRead_typeHas 1 = .ok (.iconst 4, 1) := by decide +kernel
theorem hx_d_SRead_typeHas_2 : decode hx_c_SRead_typeHas 2 = .ok (.if_icmp .eq 9, 3) := by decide +kernel
theorem hx_d_SRead_typeHas_5 : decode hx_c_SRead_typeHas 5 = .ok (.iload_n 0, 1) := by decide +kernel
theorem hx_d_SRead_typeHas_6 : decode hx_c_SRead_typeHas 6 = .ok (.bipush 6, 2) := by decide +kernel
theorem hx_d_SRead_typeHas_8 : decode hx_c_SRead_typeHas 8 = .ok (.if_icmp .ne 5, 3) := by decide +kernel
theorem hx_d_SRead_typeHas_11 : decode hx_c_SRead_typeHas 11 = .ok (.iconst 0, 1) := by decide +kernel
theorem hx_d_SRead_typeHas_12 : decode hx_c_SRead_typeHas 12 = .ok (.ireturn, 1) := by decide +kernel
theorem hx_d_SRead_typeHas_13 : decode hx_c_SRead_typeHas 13 = .ok (.iload_n 0, 1) := by decide +kernel
theorem hx_d_SRead_typeHas_14 : decode hx_c_SRead_typeHas 14 = .ok (.iconst 5, 1) := by decide +kernel
theorem hx_d_SRead_typeHas_15 : decode hx_c_SRead_typeHas 15 = .ok (.if_icmp .lt 7, 3) := by decide +kernel
theorem hx_d_SRead_typeHas_18 : decode hx_c_SRead_typeHas 18 = .ok (.iload_n 1, 1) := by decide +kernel
theorem hx_d_SRead_typeHas_19 : decode hx_c_SRead_typeHas 19 = .ok (.ifCond .ne 7, 3) := by decide +kernel
theorem hx_d_SRead_typeHas_22 : decode hx_c_SRead_typeHas 22 = .ok (.iconst 1, 1) := by decide +kernel
theorem hx_d_SRead_typeHas_23 : decode hx_c_SRead_typeHas 23 = .ok (.goto 4, 3) := by decide +kernel
theorem hx_d_SRead_typeHas_26 : decode hx_c_SRead_typeHas 26 = .ok (.iconst 0, 1) := by decide +kernel
theorem hx_d_SRead_typeHas_27 : decode hx_c_SRead_typeHas 27 = .ok (.ireturn, 1) := by decide +kernel
theorem hx_d_Image_overlay_0 : decode hx_c_Image_overlay 0 = .ok (.aload_n 0, 1) := by decide +kernel
theorem hx_d_Image_overlay_1 : decode hx_c_Image_overlay 1 = .ok (.getfield 25, 3) := by decide +kernel
theorem hx_d_Image_overlay_4 : decode hx_c_Image_overlay 4 = .ok (.iconst 1, 1) := by decide +kernel
theorem hx_d_Image_overlay_5 : decode hx_c_Image_overlay 5 = .ok (.isub, 1) := by decide +kernel
theorem hx_d_Image_overlay_6 : decode hx_c_Image_overlay 6 = .ok (.istore_n 3, 1) := by decide +kernel
theorem hx_d_Image_overlay_7 : decode hx_c_Image_overlay 7 = .ok (.aload_n 0, 1) := by decide +kernel
theorem hx_d_Image_overlay_8 : decode hx_c_Image_overlay 8 = .ok (.getfield 25, 3) := by decide +kernel
theorem hx_d_Image_overlay_11 : decode hx_c_Image_overlay 11 = .ok (.iload_n 2, 1) := by decide +kernel
theorem hx_d_Image_overlay_12 : decode hx_c_Image_overlay 12 = .ok (.iadd, 1) := by decide +kernel
theorem hx_d_Image_overlay_13 : decode hx_c_Image_overlay 13 = .ok (.iconst 1, 1) := by decide +kernel
theorem hx_d_Image_overlay_14 : decode hx_c_Image_overlay 14 = .ok (.isub, 1) := by decide +kernel
theorem hx_d_Image_overlay_15 : decode hx_c_Image_overlay 15 = .ok (.istore 4, 2) := by decide +kernel
theorem hx_d_Image_overlay_17 : decode hx_c_Image_overlay 17 = .ok (.iload 4, 2) := by decide +kernel
theorem hx_d_Image_overlay_19 : decode hx_c_Image_overlay 19 = .ok (.sipush 3000, 3) := by decide +kernel
theorem hx_d_Image_overlay_22 : decode hx_c_Image_overlay 22 = .ok (.if_icmp .lt 4, 3) := by decide +kernel
theorem hx_d_Image_overlay_25 : decode hx_c_Image_overlay 25 = .ok (.return_, 1) := by decide +kernel
theorem hx_d_Image_overlay_26 : decode hx_c_Image_overlay 26 = .ok (.aload_n 0, 1) := by decide +kernel
theorem hx_d_Image_overlay_27 : decode hx_c_Image_overlay 27 = .ok (.dup, 1) := by decide +kernel
theorem hx_d_Image_overlay_28 : decode hx_c_Image_overlay 28 = .ok (.getfield 25, 3) := by decide +kernel
theorem hx_d_Image_overlay_31 : decode hx_c_Image_overlay 31 = .ok (.iload_n 2, 1) := by decide +kernel
theorem hx_d_Image_overlay_32 : decode hx_c_Image_overlay 32 = .ok (.iadd, 1) := by decide +kernel
theorem hx_d_Image_overlay_33 : decode hx_c_Image_overlay 33 = .ok (.putfield 25, 3) := by decide +kernel
theorem hx_d_Image_overlay_36 : decode hx_c_Image_overlay 36 = .ok (.aload_n 1, 1) := by decide +kernel
theorem hx_d_Image_overlay_37 : decode hx_c_Image_overlay 37 = .ok (.getfield 25, 3) := by decide +kernel
theorem hx_d_Image_overlay_40 : decode hx_c_Image_overlay 40 = .ok (.iconst 1, 1) := by decide +kernel
theorem hx_d_Image_overlay_41 : decode hx_c_Image_overlay 41 = .ok (.isub, 1) := by decide +kernel
theorem hx_d_Image_overlay_42 : decode hx_c_Image_overlay 42 = .ok (.istore 5, 2) := by decide +kernel
theorem hx_d_Image_overlay_44 : decode hx_c_Image_overlay 44 = .ok (.iload 5, 2) := by decide +kernel
theorem hx_d_Image_overlay_46 : decode hx_c_Image_overlay 46 = .ok (.ifCond .lt 122, 3) := by decide +kernel
theorem hx_d_Image_overlay_49 : decode hx_c_Image_overlay 49 = .ok (.iload 4, 2) := by decide +kernel
theorem hx_d_Image_overlay_51 : decode hx_c_Image_overlay 51 = .ok (.ifCond .lt 117, 3) := by decide +kernel
theorem hx_d_Image_overlay_54 : decode hx_c_Image_overlay 54 = .ok (.iload_n 3, 1) := by decide +kernel
theorem hx_d_Image_overlay_55 : decode hx_c_Image_overlay 55 = .ok (.ifCond .lt 52, 3) := by decide +kernel
theorem hx_d_Image_overlay_58 : decode hx_c_Image_overlay 58 = .ok (.aload_n 0, 1) := by decide +kernel
theorem hx_d_Image_overlay_59 : decode hx_c_Image_overlay 59 = .ok (.getfield 9, 3) := by decide +kernel
theorem hx_d_Image_overlay_62 : decode hx_c_Image_overlay 62 = .ok (.iload_n 3, 1) := by decide +kernel
theorem hx_d_Image_overlay_63 : decode hx_c_Image_overlay 63 = .ok (.laload, 1) := by decide +kernel
theorem hx_d_Image_overlay_64 : decode hx_c_Image_overlay 64 = .ok (.aload_n 1, 1) := by decide +kernel
theorem hx_d_Image_overlay_65 : decode hx_c_Image_overlay 65 = .ok (.getfield 9, 3) := by decide +kernel
