theorem hx_d_Model_read_137 : decode hx_c_Model_read 137 = .ok (.invokevirtual 78, 3) := by decide +kernel
theorem hx_d_Model_read_140 : decode hx_c_Model_read 140 = .ok (.ifCond .ne 8, 3) := by decide +kernel
theorem hx_d_Model_read_143 : decode hx_c_Model_read 143 = .ok (.aload_n 0, 1) := by decide +kernel
theorem hx_d_Model_read_144 : decode hx_c_Model_read 144 = .ok (.getfield 68, 3) := by decide +kernel
theorem hx_d_Model_read_147 : decode hx_c_Model_read 147 = .ok (.ireturn, 1) := by decide +kernel
theorem hx_d_Model_read_148 : decode hx_c_Model_read 148 = .ok (.aload_n 0, 1) := by decide +kernel
theorem hx_d_Model_read_149 : decode hx_c_Model_read 149 = .ok (.iconst (-1), 1) := by decide +kernel
theorem hx_d_Model_read_150 : decode hx_c_Model_read 150 = .ok (.putfield 21, 3) := by decide +kernel
theorem hx_d_Model_read_153 : decode hx_c_Model_read 153 = .ok (.iconst 0, 1) := by decide +kernel
theorem hx_d_Model_read_154 : decode hx_c_Model_read 154 = .ok (.istore 4, 2) := by decide +kernel
theorem hx_d_Model_read_156 : decode hx_c_Model_read 156 = .ok (.iload 4, 2) := by decide +kernel
theorem hx_d_Model_read_158 : decode hx_c_Model_read 158 = .ok (.aload_n 0, 1) := by decide +kernel
theorem hx_d_Model_read_159 : decode hx_c_Model_read 159 = .ok (.getfield 84, 3) := by decide +kernel
theorem hx_d_Model_read_162 : decode hx_c_Model_read 162 = .ok (.if_icmp .ge 27, 3) := by decide +kernel
theorem hx_d_Model_read_165 : decode hx_c_Model_read 165 = .ok (.aload_n 0, 1) := by decide +kernel
theorem hx_d_Model_read_166 : decode hx_c_Model_read 166 = .ok (.aload_n 0, 1) := by decide +kernel
theorem hx_d_Model_read_167 : decode hx_c_Model_read 167 = .ok (.getfield 25, 3) := by decide +kernel
theorem hx_d_Model_read_170 : decode hx_c_Model_read 170 = .ok (.iload 4, 2) := by decide +kernel
theorem hx_d_Model_read_172 : decode hx_c_Model_read 172 = .ok (.laload, 1) := by decide +kernel
theorem hx_d_Model_read_173 : decode hx_c_Model_read 173 = .ok (.aload_n 0, 1) := by decide +kernel
theorem hx_d_Model_read_174 : decode hx_c_Model_read 174 = .ok (.getfield 28, 3) := by decide +kernel
theorem hx_d_Model_read_177 : decode hx_c_Model_read 177 = .ok (.iload 4, 2) := by decide +kernel
theorem hx_d_Model_read_179 : decode hx_c_Model_read 179 = .ok (.iaload, 1) := by decide +kernel
theorem hx_d_Model_read_180 : decode hx_c_Model_read 180 = .ok (.invokevirtual 142, 3) := by decide +kernel
theorem hx_d_Model_read_183 : decode hx_c_Model_read 183 = .ok (.iinc 4 1, 3) := by decide +kernel
theorem hx_d_Model_read_186 : decode hx_c_Model_read 186 = .ok (.goto (-30), 3) := by decide +kernel
theorem hx_d_Model_read_189 : decode hx_c_Model_read 189 = .ok (.aload_n 0, 1) := by decide +kernel
theorem hx_d_Model_read_190 : decode hx_c_Model_read 190 = .ok (.aload_n 0, 1) := by decide +kernel
theorem hx_d_Model_read_191 : decode hx_c_Model_read 191 = .ok (.getfield 145, 3) := by decide +kernel
theorem hx_d_Model_read_194 : decode hx_c_Model_read 194 = .ok (.ifCond .ne 10, 3) := by decide +kernel
theorem hx_d_Model_read_197 : decode hx_c_Model_read 197 = .ok (.aload_n 0, 1) := by decide +kernel
theorem hx_d_Model_read_198 : decode hx_c_Model_read 198 = .ok (.getfield 121, 3) := by decide +kernel
theorem hx_d_Model_read_201 : decode hx_c_Model_read 201 = .ok (.ifCond .eq 7, 3) := by decide +kernel
theorem hx_d_Model_read_204 : decode hx_c_Model_read 204 = .ok (.iconst 1, 1) := by decide +kernel
theorem hx_d_Model_read_205 : decode hx_c_Model_read 205 = .ok (.goto 4, 3) := by decide +kernel
theorem hx_d_Model_read_208 : decode hx_c_Model_read 208 = .ok (.iconst 0, 1) := by decide +kernel
theorem hx_d_Model_read_209 : decode hx_c_Model_read 209 = .ok (.putfield 145, 3) := by decide +kernel
theorem hx_d_Model_read_212 : decode hx_c_Model_read 212 = .ok (.aload_n 0, 1) := by decide +kernel
theorem hx_d_Model_read_213 : decode hx_c_Model_read 213 = .ok (.aload_n 0, 1) := by decide +kernel
theorem hx_d_Model_read_214 : decode hx_c_Model_read 214 = .ok (.getfield 121, 3) := by decide +kernel
theorem hx_d_Model_read_217 : decode hx_c_Model_read 217 = .ok (.ifCond .eq 10, 3) := by decide +kernel
theorem hx_d_Model_read_220 : decode hx_c_Model_read 220 = .ok (.aload_n 0, 1) := by decide +kernel
theorem hx_d_Model_read_221 : decode hx_c_Model_read 221 = .ok (.getfield 124, 3) := by decide +kernel
theorem hx_d_Model_read_224 : decode hx_c_Model_read 224 = .ok (.goto 7, 3) := by decide +kernel
theorem hx_d_Model_read_227 : decode hx_c_Model_read 227 = .ok (.aload_n 0, 1) := by decide +kernel
theorem hx_d_Model_read_228 : decode hx_c_Model_read 228 = .ok (.getfield 148, 3) := by decide +kernel
theorem hx_d_Model_read_231 : decode hx_c_Model_read 231 = .ok (.putfield 148, 3) := by decide +kernel
theorem hx_d_Model_read_234 : decode hx_c_Model_read 234 = .ok (.iconst 0, 1) := by decide +kernel
theorem hx_d_Model_read_235 : decode hx_c_Model_read 235 = .ok (.ireturn, 1) := by decide +kernel
theorem hx_d_Model_beginText_0 : decode hx_c_Model_beginText 0 = .ok (.aload_n 0, 1) := by decide +kernel
theorem hx_d_Model_beginText_1 : decode hx_c_Model_beginText 1 = .ok (.iconst 0, 1) := by decide +kernel
theorem hx_d_Model_beginText_2 : decode hx_c_Model_beginText 2 = .ok (.putfield 84, 3) := by decide +kernel
theorem hx_d_Model_beginText_5 : decode hx_c_Model_beginText 5 = .ok (.aload_n 0, 1) := by decide +kernel
theorem hx_d_Model_beginText_6 : decode hx_c_Model_beginText 6 = .ok (.iconst 0, 1) := by decide +kernel
theorem hx_d_Model_beginText_7 : decode hx_c_Model_beginText 7 = .ok (.putfield 87, 3) := by decide +kernel
theorem hx_d_Model_beginText_10 : decode hx_c_Model_beginText 10 = .ok (.aload_n 0, 1) := by decide +kernel
theorem hx_d_Model_beginText_11 : decode hx_c_Model_beginText 11 = .ok (.iconst 0, 1) := by decide +kernel
theorem hx_d_Model_beginText_12 : decode hx_c_Model_beginText 12 = .ok (.putfield 98, 3) := by decide +kernel
theorem hx_d_Model_beginText_15 : decode hx_c_Model_beginText 15 = .ok (.aload_n 0, 1) := by decide +kernel
theorem hx_d_Model_beginText_16 : decode hx_c_Model_beginText 16 = .ok (.iconst 0, 1) := by decide +kernel
theorem hx_d_Model_beginText_17 : decode hx_c_Model_beginText 17 = .ok (.putfield 121, 3) := by decide +kernel
theorem hx_d_Model_beginText_20 : decode hx_c_Model_beginText 20 = .ok (.aload_n 0, 1) := by decide +kernel
theorem hx_d_Model_beginText_21 : decode hx_c_Model_beginText 21 = .ok (.lconst 0, 1) := by decide +kernel
theorem hx_d_Model_beginText_22 : decode hx_c_Model_beginText 22 = .ok (.putfield 106, 3) := by decide +kernel
theorem hx_d_Model_beginText_25 : decode hx_c_Model_beginText 25 = .ok (.aload_n 0, 1) := by decide +kernel
theorem hx_d_Model_beginText_26 : decode hx_c_Model_beginText 26 = .ok (.iconst 0, 1) := by decide +kernel
theorem hx_d_Model_beginText_27 : decode hx_c_Model_beginText 27 = .ok (.putfield 110, 3) := by decide +kernel
theorem hx_d_Model_beginText_30 : decode hx_c_Model_beginText 30 = .ok (.aload_n 0, 1) := by decide +kernel
theorem hx_d_Model_beginText_31 : decode hx_c_Model_beginText 31 = .ok (.iconst 0, 1) := by decide +kernel
theorem hx_d_Model_beginText_32 : decode hx_c_Model_beginText 32 = .ok (.putfield 130, 3) := by decide +kernel
theorem hx_d_Model_beginText_35 : decode hx_c_Model_beginText 35 = .ok (.aload_n 0, 1) := by decide +kernel
theorem hx_d_Model_beginText_36 : decode hx_c_Model_beginText 36 = .ok (.iconst 0, 1) := by decide +kernel
theorem hx_d_Model_beginText_37 : decode hx_c_Model_beginText 37 = .ok (.putfield 68, 3) := by decide +kernel
theorem hx_d_Model_beginText_40 : decode hx_c_Model_beginText 40 = .ok (.aload_n 0, 1) := by decide +kernel
theorem hx_d_Model_beginText_41 : decode hx_c_Model_beginText 41 = .ok (.iconst 0, 1) := by decide +kernel
theorem hx_d_Model_beginText_42 : decode hx_c_Model_beginText 42 = .ok (.putfield 21, 3) := by decide +kernel
theorem hx_d_Model_beginText_45 : decode hx_c_Model_beginText 45 = .ok (.return_, 1) := by decide +kernel
theorem hx_d_Model_readColon_0 : decode hx_c_Model_readColon 0 = .ok (.aload_n 0, 1) := by decide +kernel
theorem hx_d_Model_readColon_1 : decode hx_c_Model_readColon 1 = .ok (.aload_n 0, 1) := by decide +kernel
theorem hx_d_Model_readColon_2 : decode hx_c_Model_readColon 2 = .ok (.getfield 17, 3) := by decide +kernel
theorem hx_d_Model_readColon_5 : decode hx_c_Model_readColon 5 = .ok (.iload_n 1, 1) := by decide +kernel
theorem hx_d_Model_readColon_6 : decode hx_c_Model_readColon 6 = .ok (.baload, 1) := by decide +kernel
theorem hx_d_Model_readColon_7 : decode hx_c_Model_readColon 7 = .ok (.bipush 58, 2) := by decide +kernel
theorem hx_d_Model_readColon_9 : decode hx_c_Model_readColon 9 = .ok (.if_icmp .ne 7, 3) := by decide +kernel
theorem hx_d_Model_readColon_12 : decode hx_c_Model_readColon 12 = .ok (.iconst 1, 1) := by decide +kernel
theorem hx_d_Model_readColon_13 : decode hx_c_Model_readColon 13 = .ok (.goto 4, 3) := by decide +kernel
theorem hx_d_Model_readColon_16 : decode hx_c_Model_readColon 16 = .ok (.iconst 0, 1) := by decide +kernel
theorem hx_d_Model_readColon_17 : decode hx_c_Model_readColon 17 = .ok (.iconst 1, 1) := by decide +kernel
theorem hx_d_Model_readColon_18 : decode hx_c_Model_readColon 18 = .ok (.invokevirtual 78, 3) := by decide +kernel
theorem hx_d_Model_readColon_21 : decode hx_c_Model_readColon 21 = .ok (.ifCond .ne 4, 3) := by decide +kernel
theorem hx_d_Model_readColon_24 : decode hx_c_Model_readColon 24 = .ok (.return_, 1) := by decide +kernel
theorem hx_d_Model_readColon_25 : decode hx_c_Model_readColon 25 = .ok (.aload_n 0, 1) := by decide +kernel
theorem hx_d_Model_readColon_26 : decode hx_c_Model_readColon 26 = .ok (.iload_n 1, 1) := by decide +kernel
theorem hx_d_Model_readColon_27 : decode hx_c_Model_readColon 27 = .ok (.iconst 1, 1) := by decide +kernel
theorem hx_d_Model_readColon_28 : decode hx_c_Model_readColon 28 = .ok (.iadd, 1) := by decide +kernel
theorem hx_d_Model_readColon_29 : decode hx_c_Model_readColon 29 = .ok (.iload_n 2, 1) := by decide +kernel
theorem hx_d_Model_readColon_30 : decode hx_c_Model_readColon 30 = .ok (.invokevirtual 90, 3) := by decide +kernel
theorem hx_d_Model_readColon_33 : decode hx_c_Model_readColon 33 = .ok (.iload_n 2, 1) := by decide +kernel
theorem hx_d_Model_readColon_34 : decode hx_c_Model_readColon 34 = .ok (.iload_n 1, 1) := by decide +kernel
theorem hx_d_Model_readColon_35 : decode hx_c_Model_readColon 35 = .ok (.isub, 1) := by decide +kernel
theorem hx_d_Model_readColon_36 : decode hx_c_Model_readColon 36 = .ok (.iconst 1, 1) := by decide +kernel
theorem hx_d_Model_readColon_37 : decode hx_c_Model_readColon 37 = .ok (.isub, 1) := by decide +kernel
theorem hx_d_Model_readColon_38 : decode hx_c_Model_readColon 38 = .ok (.istore_n 3, 1) := by decide +kernel
theorem hx_d_Model_readColon_39 : decode hx_c_Model_readColon 39 = .ok (.aload_n 0, 1) := by decide +kernel
theorem hx_d_Model_readColon_40 : decode hx_c_Model_readColon 40 = .ok (.iload_n 3, 1) := by decide +kernel
theorem hx_d_Model_readColon_41 : decode hx_c_Model_readColon 41 = .ok (.iconst 2, 1) := by decide +kernel
theorem hx_d_Model_readColon_42 : decode hx_c_Model_readColon 42 = .ok (.irem, 1) := by decide +kernel
theorem hx_d_Model_readColon_43 : decode hx_c_Model_readColon 43 = .ok (.ifCond .ne 28, 3) := by decide +kernel
theorem hx_d_Model_readColon_46 : decode hx_c_Model_readColon 46 = .ok (.iload_n 3, 1) := by decide +kernel
theorem hx_d_Model_readColon_47 : decode hx_c_Model_readColon 47 = .ok (.bipush 10, 2) := by decide +kernel
theorem hx_d_Model_readColon_49 : decode hx_c_Model_readColon 49 = .ok (.if_icmp .lt 22, 3) := by decide +kernel
theorem hx_d_Model_readColon_52 : decode hx_c_Model_readColon 52 = .ok (.aload_n 0, 1) := by decide +kernel
theorem hx_d_Model_readColon_53 : decode hx_c_Model_readColon 53 = .ok (.getfield 71, 3) := by decide +kernel
theorem hx_d_Model_readColon_56 : decode hx_c_Model_readColon 56 = .ok (.aload_n 0, 1) := by decide +kernel
theorem hx_d_Model_readColon_57 : decode hx_c_Model_readColon 57 = .ok (.getfield 31, 3) := by decide +kernel
theorem hx_d_Model_readColon_60 : decode hx_c_Model_readColon 60 = .ok (.iconst 0, 1) := by decide +kernel
theorem hx_d_Model_readColon_61 : decode hx_c_Model_readColon 61 = .ok (.iaload, 1) := by decide +kernel
theorem hx_d_Model_readColon_62 : decode hx_c_Model_readColon 62 = .ok (.iconst 5, 1) := by decide +kernel
theorem hx_d_Model_readColon_63 : decode hx_c_Model_readColon 63 = .ok (.iadd, 1) := by decide +kernel
theorem hx_d_Model_readColon_64 : decode hx_c_Model_readColon 64 = .ok (.if_icmp .ne 7, 3) := by decide +kernel
theorem hx_d_Model_readColon_67 : decode hx_c_Model_readColon 67 = .ok (.iconst 1, 1) := by decide +kernel
theorem hx_d_Model_readColon_68 : decode hx_c_Model_readColon 68 = .ok (.goto 4, 3) := by decide +kernel
theorem hx_d_Model_readColon_71 : decode hx_c_Model_readColon 71 = .ok (.iconst 0, 1) := by decide +kernel
theorem hx_d_Model_readColon_72 : decode hx_c_Model_readColon 72 = .ok (.iconst 3, 1) := by decide +kernel
theorem hx_d_Model_readColon_73 : decode hx_c_Model_readColon 73 = .ok (.invokevirtual 78, 3) := by decide +kernel
theorem hx_d_Model_readColon_76 : decode hx_c_Model_readColon 76 = .ok (.ifCond .ne 4, 3) := by decide +kernel
theorem hx_d_Model_readColon_79 : decode hx_c_Model_readColon 79 = .ok (.return_, 1) := by decide +kernel
theorem hx_d_Model_readColon_80 : decode hx_c_Model_readColon 80 = .ok (.aload_n 0, 1) := by decide +kernel
theorem hx_d_Model_readColon_81 : decode hx_c_Model_readColon 81 = .ok (.getfield 31, 3) := by decide +kernel
theorem hx_d_Model_readColon_84 : decode hx_c_Model_readColon 84 = .ok (.iconst 3, 1) := by decide +kernel
theorem hx_d_Model_readColon_85 : decode hx_c_Model_readColon 85 = .ok (.iaload, 1) := by decide +kernel
theorem hx_d_Model_readColon_86 : decode hx_c_Model_readColon 86 = .ok (.istore 4, 2) := by decide +kernel
theorem hx_d_Model_readColon_88 : decode hx_c_Model_readColon 88 = .ok (.iload 4, 2) := by decide +kernel
theorem hx_d_Model_readColon_90 : decode hx_c_Model_readColon 90 = .ok (.ifCond .eq 62, 3) := by decide +kernel
theorem hx_d_Model_readColon_93 : decode hx_c_Model_readColon 93 = .ok (.iload 4, 2) := by decide +kernel
theorem hx_d_Model_readColon_95 : decode hx_c_Model_readColon 95 = .ok (.iconst 1, 1) := by decide +kernel
theorem hx_d_Model_readColon_96 : decode hx_c_Model_readColon 96 = .ok (.if_icmp .ne 12, 3) := by decide +kernel
theorem hx_d_Model_readColon_99 : decode hx_c_Model_readColon 99 = .ok (.aload_n 0, 1) := by decide +kernel
theorem hx_d_Model_readColon_100 : decode hx_c_Model_readColon 100 = .ok (.getfield 31, 3) := by decide +kernel
theorem hx_d_Model_readColon_103 : decode hx_c_Model_readColon 103 = .ok (.iconst 0, 1) := by decide +kernel
theorem hx_d_Model_readColon_104 : decode hx_c_Model_readColon 104 = .ok (.iaload, 1) := by decide +kernel
theorem hx_d_Model_readColon_105 : decode hx_c_Model_readColon 105 = .ok (.ifCond .eq 47, 3) := by decide +kernel
theorem hx_d_Model_readColon_108 : decode hx_c_Model_readColon 108 = .ok (.iload 4, 2) := by decide +kernel
theorem hx_d_Model_readColon_110 : decode hx_c_Model_readColon 110 = .ok (.iconst 2, 1) := by decide +kernel
theorem hx_d_Model_readColon_111 : decode hx_c_Model_readColon 111 = .ok (.if_icmp .eq 9, 3) := by decide +kernel
theorem hx_d_Model_readColon_114 : decode hx_c_Model_readColon 114 = .ok (.iload 4, 2) := by decide +kernel
theorem hx_d_Model_readColon_116 : decode hx_c_Model_readColon 116 = .ok (.iconst 4, 1) := by decide +kernel
theorem hx_d_Model_readColon_117 : decode hx_c_Model_readColon 117 = .ok (.if_icmp .ne 13, 3) := by decide +kernel
theorem hx_d_Model_readColon_120 : decode hx_c_Model_readColon 120 = .ok (.aload_n 0, 1) := by decide +kernel
theorem hx_d_Model_readColon_121 : decode hx_c_Model_readColon 121 = .ok (.getfield 31, 3) := by decide +kernel
theorem hx_d_Model_readColon_124 : decode hx_c_Model_readColon 124 = .ok (.iconst 0, 1) := by decide +kernel
theorem hx_d_Model_readColon_125 : decode hx_c_Model_readColon 125 = .ok (.iaload, 1) := by decide +kernel
theorem hx_d_Model_readColon_126 : decode hx_c_Model_readColon 126 = .ok (.iconst 2, 1) := by decide +kernel
theorem hx_d_Model_readColon_127 : decode hx_c_Model_readColon 127 = .ok (.if_icmp .eq 25, 3) := by decide +kernel
theorem hx_d_Model_readColon_130 : decode hx_c_Model_readColon 130 = .ok (.iload 4, 2) := by decide +kernel
theorem hx_d_Model_readColon_132 : decode hx_c_Model_readColon 132 = .ok (.iconst 3, 1) := by decide +kernel
theorem hx_d_Model_readColon_133 : decode hx_c_Model_readColon 133 = .ok (.if_icmp .eq 9, 3) := by decide +kernel
theorem hx_d_Model_readColon_136 : decode hx_c_Model_readColon 136 = .ok (.iload 4, 2) := by decide +kernel
theorem hx_d_Model_readColon_138 : decode hx_c_Model_readColon 138 = .ok (.iconst 5, 1) := by decide +kernel
theorem hx_d_Model_readColon_139 : decode hx_c_Model_readColon 139 = .ok (.if_icmp .ne 17, 3) := by decide +kernel
theorem hx_d_Model_readColon_142 : decode hx_c_Model_readColon 142 = .ok (.aload_n 0, 1) := by decide +kernel
theorem hx_d_Model_readColon_143 : decode hx_c_Model_readColon 143 = .ok (.getfield 31, 3) := by decide +kernel
theorem hx_d_Model_readColon_146 : decode hx_c_Model_readColon 146 = .ok (.iconst 0, 1) := by decide +kernel
theorem hx_d_Model_readColon_147 : decode hx_c_Model_readColon 147 = .ok (.iaload, 1) := by decide +kernel
theorem hx_d_Model_readColon_148 : decode hx_c_Model_readColon 148 = .ok (.iconst 4, 1) := by decide +kernel
theorem hx_d_Model_readColon_149 : decode hx_c_Model_readColon 149 = .ok (.if_icmp .ne 7, 3) := by decide +kernel
theorem hx_d_Model_readColon_152 : decode hx_c_Model_readColon 152 = .ok (.iconst 1, 1) := by decide +kernel
theorem hx_d_Model_readColon_153 : decode hx_c_Model_readColon 153 = .ok (.goto 4, 3) := by decide +kernel
theorem hx_d_Model_readColon_156 : decode hx_c_Model_readColon 156 = .ok (.iconst 0, 1) := by decide +kernel
theorem hx_d_Model_readColon_157 : decode hx_c_Model_readColon 157 = .ok (.istore 5, 2) := by decide +kernel
theorem hx_d_Model_readColon_159 : decode hx_c_Model_readColon 159 = .ok (.aload_n 0, 1) := by decide +kernel
theorem hx_d_Model_readColon_160 : decode hx_c_Model_readColon 160 = .ok (.iload 5, 2) := by decide +kernel
theorem hx_d_Model_readColon_162 : decode hx_c_Model_readColon 162 = .ok (.iconst 4, 1) := by decide +kernel
theorem hx_d_Model_readColon_163 : decode hx_c_Model_readColon 163 = .ok (.invokevirtual 78, 3) := by decide +kernel
theorem hx_d_Model_readColon_166 : decode hx_c_Model_readColon 166 = .ok (.ifCond .eq 44, 3) := by decide +kernel
theorem hx_d_Model_readColon_169 : decode hx_c_Model_readColon 169 = .ok (.aload_n 0, 1) := by decide +kernel
theorem hx_d_Model_readColon_170 : decode hx_c_Model_readColon 170 = .ok (.aload_n 0, 1) := by decide +kernel
theorem hx_d_Model_readColon_171 : decode hx_c_Model_readColon 171 = .ok (.invokevirtual 94, 3) := by decide +kernel
theorem hx_d_Model_readColon_174 : decode hx_c_Model_readColon 174 = .ok (.ifCond .ne 7, 3) := by decide +kernel
theorem hx_d_Model_readColon_177 : decode hx_c_Model_readColon 177 = .ok (.iconst 1, 1) := by decide +kernel
theorem hx_d_Model_readColon_178 : decode hx_c_Model_readColon 178 = .ok (.goto 4, 3) := by decide +kernel
theorem hx_d_Model_readColon_181 : decode hx_c_Model_readColon 181 = .ok (.iconst 0, 1) := by decide +kernel
theorem hx_d_Model_readColon_182 : decode hx_c_Model_readColon 182 = .ok (.iconst 5, 1) := by decide +kernel
theorem hx_d_Model_readColon_183 : decode hx_c_Model_readColon 183 = .ok (.invokevirtual 78, 3) := by decide +kernel
theorem hx_d_Model_readColon_186 : decode hx_c_Model_readColon 186 = .ok (.ifCond .eq 24, 3) := by decide +kernel
theorem hx_d_Model_readColon_189 : decode hx_c_Model_readColon 189 = .ok (.aload_n 0, 1) := by decide +kernel
theorem hx_d_Model_readColon_190 : decode hx_c_Model_readColon 190 = .ok (.aload_n 0, 1) := by decide +kernel
theorem hx_d_Model_readColon_191 : decode hx_c_Model_readColon 191 = .ok (.getfield 98, 3) := by decide +kernel
theorem hx_d_Model_readColon_194 : decode hx_c_Model_readColon 194 = .ok (.ifCond .ne 7, 3) := by decide +kernel
theorem hx_d_Model_readColon_197 : decode hx_c_Model_readColon 197 = .ok (.iconst 1, 1) := by decide +kernel
theorem hx_d_Model_readColon_198 : decode hx_c_Model_readColon 198 = .ok (.goto 4, 3) := by decide +kernel
theorem hx_d_Model_readColon_201 : decode hx_c_Model_readColon 201 = .ok (.iconst 0, 1) := by decide +kernel
theorem hx_d_Model_readColon_202 : decode hx_c_Model_readColon 202 = .ok (.bipush 6, 2) := by decide +kernel
theorem hx_d_Model_readColon_204 : decode hx_c_Model_readColon 204 = .ok (.invokevirtual 78, 3) := by decide +kernel
theorem hx_d_Model_readColon_207 : decode hx_c_Model_readColon 207 = .ok (.ifCond .ne 4, 3) := by decide +kernel
theorem hx_d_Model_readColon_210 : decode hx_c_Model_readColon 210 = .ok (.return_, 1) := by decide +kernel
theorem hx_d_Model_readColon_211 : decode hx_c_Model_readColon 211 = .ok (.iload 4, 2) := by decide +kernel
theorem hx_d_Model_readColon_213 : decode hx_c_Model_readColon 213 = .ok (.ifCond .ne 121, 3) := by decide +kernel
theorem hx_d_Model_readColon_216 : decode hx_c_Model_readColon 216 = .ok (.aload_n 0, 1) := by decide +kernel
theorem hx_d_Model_readColon_217 : decode hx_c_Model_readColon 217 = .ok (.iconst 1, 1) := by decide +kernel
theorem hx_d_Model_readColon_218 : decode hx_c_Model_readColon 218 = .ok (.iconst 2, 1) := by decide +kernel
theorem hx_d_Model_readColon_219 : decode hx_c_Model_readColon 219 = .ok (.invokevirtual 102, 3) := by decide +kernel
theorem hx_d_Model_readColon_222 : decode hx_c_Model_readColon 222 = .ok (.lstore 6, 2) := by decide +kernel
theorem hx_d_Model_readColon_224 : decode hx_c_Model_readColon 224 = .ok (.iconst 0, 1) := by decide +kernel
theorem hx_d_Model_readColon_225 : decode hx_c_Model_readColon 225 = .ok (.istore 8, 2) := by decide +kernel
theorem hx_d_Model_readColon_227 : decode hx_c_Model_readColon 227 = .ok (.iload 8, 2) := by decide +kernel
theorem hx_d_Model_readColon_229 : decode hx_c_Model_readColon 229 = .ok (.aload_n 0, 1) := by decide +kernel
theorem hx_d_Model_readColon_230 : decode hx_c_Model_readColon 230 = .ok (.getfield 31, 3) := by decide +kernel
theorem hx_d_Model_readColon_233 : decode hx_c_Model_readColon 233 = .ok (.iconst 0, 1) := by decide +kernel
theorem hx_d_Model_readColon_234 : decode hx_c_Model_readColon 234 = .ok (.iaload, 1) := by decide +kernel
theorem hx_d_Model_readColon_235 : decode hx_c_Model_readColon 235 = .ok (.if_icmp .ge 68, 3) := by decide +kernel
theorem hx_d_Model_readColon_238 : decode hx_c_Model_readColon 238 = .ok (.aload_n 0, 1) := by decide +kernel
theorem hx_d_Model_readColon_239 : decode hx_c_Model_readColon 239 = .ok (.getfield 68, 3) := by decide +kernel
theorem hx_d_Model_readColon_242 : decode hx_c_Model_readColon 242 = .ok (.ifCond .ne 61, 3) := by decide +kernel
theorem hx_d_Model_readColon_245 : decode hx_c_Model_readColon 245 = .ok (.aload_n 0, 1) := by decide +kernel
theorem hx_d_Model_readColon_246 : decode hx_c_Model_readColon 246 = .ok (.getfield 106, 3) := by decide +kernel
theorem hx_d_Model_readColon_249 : decode hx_c_Model_readColon 249 = .ok (.aload_n 0, 1) := by decide +kernel
theorem hx_d_Model_readColon_250 : decode hx_c_Model_readColon 250 = .ok (.getfield 110, 3) := by decide +kernel
theorem hx_d_Model_readColon_253 : decode hx_c_Model_readColon 253 = .ok (.ifCond .eq 16, 3) := by decide +kernel
theorem hx_d_Model_readColon_256 : decode hx_c_Model_readColon 256 = .ok (.lload 6, 2) := by decide +kernel
theorem hx_d_Model_readColon_258 : decode hx_c_Model_readColon 258 = .ok (.iload 8, 2) := by decide +kernel
theorem hx_d_Model_readColon_260 : decode hx_c_Model_readColon 260 = .ok (.i2l, 1) := by decide +kernel
theorem hx_d_Model_readColon_261 : decode hx_c_Model_readColon 261 = .ok (.ladd, 1) := by decide +kernel
theorem hx_d_Model_readColon_262 : decode hx_c_Model_readColon 262 = .ok (.ldc2_w 113, 3) := by decide +kernel
theorem hx_d_Model_readColon_265 : decode hx_c_Model_readColon 265 = .ok (.lrem, 1) := by decide +kernel
theorem hx_d_Model_readColon_266 : decode hx_c_Model_readColon 266 = .ok (.goto 9, 3) := by decide +kernel
theorem hx_d_Model_readColon_269 : decode hx_c_Model_readColon 269 = .ok (.lload 6, 2) := by decide +kernel
theorem hx_d_Model_readColon_271 : decode hx_c_Model_readColon 271 = .ok (.iload 8, 2) := by decide +kernel
theorem hx_d_Model_readColon_273 : decode hx_c_Model_readColon 273 = .ok (.i2l, 1) := by decide +kernel
theorem hx_d_Model_readColon_274 : decode hx_c_Model_readColon 274 = .ok (.ladd, 1) := by decide +kernel
theorem hx_d_Model_readColon_275 : decode hx_c_Model_readColon 275 = .ok (.ladd, 1) := by decide +kernel
theorem hx_d_Model_readColon_276 : decode hx_c_Model_readColon 276 = .ok (.lstore 9, 2) := by decide +kernel
theorem hx_d_Model_readColon_278 : decode hx_c_Model_readColon 278 = .ok (.aload_n 0, 1) := by decide +kernel
theorem hx_d_Model_readColon_279 : decode hx_c_Model_readColon 279 = .ok (.lload 9, 2) := by decide +kernel
theorem hx_d_Model_readColon_281 : decode hx_c_Model_readColon 281 = .ok (.ldc2_w 46, 3) := by decide +kernel
theorem hx_d_Model_readColon_284 : decode hx_c_Model_readColon 284 = .ok (.lrem, 1) := by decide +kernel
theorem hx_d_Model_readColon_285 : decode hx_c_Model_readColon 285 = .ok (.aload_n 0, 1) := by decide +kernel
theorem hx_d_Model_readColon_286 : decode hx_c_Model_readColon 286 = .ok (.getfield 31, 3) := by decide +kernel
theorem hx_d_Model_readColon_289 : decode hx_c_Model_readColon 289 = .ok (.iconst 4, 1) := by decide +kernel
theorem hx_d_Model_readColon_290 : decode hx_c_Model_readColon 290 = .ok (.iload 8, 2) := by decide +kernel
theorem hx_d_Model_readColon_292 : decode hx_c_Model_readColon 292 = .ok (.iadd, 1) := by decide +kernel
theorem hx_d_Model_readColon_293 : decode hx_c_Model_readColon 293 = .ok (.iaload, 1) := by decide +kernel
theorem hx_d_Model_readColon_294 : decode hx_c_Model_readColon 294 = .ok (.invokevirtual 115, 3) := by decide +kernel
theorem hx_d_Model_readColon_297 : decode hx_c_Model_readColon 297 = .ok (.iinc 8 1, 3) := by decide +kernel
theorem hx_d_Model_readColon_300 : decode hx_c_Model_readColon 300 = .ok (.goto (-73), 3) := by decide +kernel
theorem hx_d_Model_readColon_303 : decode hx_c_Model_readColon 303 = .ok (.aload_n 0, 1) := by decide +kernel
theorem hx_d_Model_readColon_304 : decode hx_c_Model_readColon 304 = .ok (.aload_n 0, 1) := by decide +kernel
theorem hx_d_Model_readColon_305 : decode hx_c_Model_readColon 305 = .ok (.getfield 57, 3) := by decide +kernel
theorem hx_d_Model_readColon_308 : decode hx_c_Model_readColon 308 = .ok (.aload_n 0, 1) := by decide +kernel
theorem hx_d_Model_readColon_309 : decode hx_c_Model_readColon 309 = .ok (.getfield 87, 3) := by decide +kernel
theorem hx_d_Model_readColon_312 : decode hx_c_Model_readColon 312 = .ok (.iadd, 1) := by decide +kernel
theorem hx_d_Model_readColon_313 : decode hx_c_Model_readColon 313 = .ok (.sipush 3000, 3) := by decide +kernel
theorem hx_d_Model_readColon_316 : decode hx_c_Model_readColon 316 = .ok (.if_icmp .gt 7, 3) := by decide +kernel
theorem hx_d_Model_readColon_319 : decode hx_c_Model_readColon 319 = .ok (.iconst 1, 1) := by decide +kernel
theorem hx_d_Model_readColon_320 : decode hx_c_Model_readColon 320 = .ok (.goto 4, 3) := by decide +kernel
theorem hx_d_Model_readColon_323 : decode hx_c_Model_readColon 323 = .ok (.iconst 0, 1) := by decide +kernel
theorem hx_d_Model_readColon_324 : decode hx_c_Model_readColon 324 = .ok (.bipush 9, 2) := by decide +kernel
theorem hx_d_Model_readColon_326 : decode hx_c_Model_readColon 326 = .ok (.invokevirtual 78, 3) := by decide +kernel
theorem hx_d_Model_readColon_329 : decode hx_c_Model_readColon 329 = .ok (.istore 8, 2) := by decide +kernel
theorem hx_d_Model_readColon_331 : decode hx_c_Model_readColon 331 = .ok (.goto 116, 3) := by decide +kernel
theorem hx_d_Model_readColon_334 : decode hx_c_Model_readColon 334 = .ok (.iload 4, 2) := by decide +kernel
theorem hx_d_Model_readColon_336 : decode hx_c_Model_readColon 336 = .ok (.iconst 1, 1) := by decide +kernel
theorem hx_d_Model_readColon_337 : decode hx_c_Model_readColon 337 = .ok (.if_icmp .ne 11, 3) := by decide +kernel
theorem hx_d_Model_readColon_340 : decode hx_c_Model_readColon 340 = .ok (.aload_n 0, 1) := by decide +kernel
theorem hx_d_Model_readColon_341 : decode hx_c_Model_readColon 341 = .ok (.iconst 1, 1) := by decide +kernel
theorem hx_d_Model_readColon_342 : decode hx_c_Model_readColon 342 = .ok (.putfield 98, 3) := by decide +kernel
theorem hx_d_Model_readColon_345 : decode hx_c_Model_readColon 345 = .ok (.goto 102, 3) := by decide +kernel
theorem hx_d_Model_readColon_348 : decode hx_c_Model_readColon 348 = .ok (.iload 4, 2) := by decide +kernel
theorem hx_d_Model_readColon_350 : decode hx_c_Model_readColon 350 = .ok (.iconst 2, 1) := by decide +kernel
theorem hx_d_Model_readColon_351 : decode hx_c_Model_readColon 351 = .ok (.if_icmp .eq 9, 3) := by decide +kernel
theorem hx_d_Model_readColon_354 : decode hx_c_Model_readColon 354 = .ok (.iload 4, 2) := by decide +kernel
theorem hx_d_Model_readColon_356 : decode hx_c_Model_readColon 356 = .ok (.iconst 4, 1) := by decide +kernel
theorem hx_d_Model_readColon_357 : decode hx_c_Model_readColon 357 = .ok (.if_icmp .ne 48, 3) := by decide +kernel
theorem hx_d_Model_readColon_360 : decode hx_c_Model_readColon 360 = .ok (.aload_n 0, 1) := by decide +kernel
theorem hx_d_Model_readColon_361 : decode hx_c_Model_readColon 361 = .ok (.iload 4, 2) := by decide +kernel
theorem hx_d_Model_readColon_363 : decode hx_c_Model_readColon 363 = .ok (.iconst 2, 1) := by decide +kernel
theorem hx_d_Model_readColon_364 : decode hx_c_Model_readColon 364 = .ok (.if_icmp .ne 7, 3) := by decide +kernel
theorem hx_d_Model_readColon_367 : decode hx_c_Model_readColon 367 = .ok (.iconst 1, 1) := by decide +kernel
theorem hx_d_Model_readColon_368 : decode hx_c_Model_readColon 368 = .ok (.goto 4, 3) := by decide +kernel
theorem hx_d_Model_readColon_371 : decode hx_c_Model_readColon 371 = .ok (.iconst 0, 1) := by decide +kernel
theorem hx_d_Model_readColon_372 : decode hx_c_Model_readColon 372 = .ok (.putfield 110, 3) := by decide +kernel
theorem hx_d_Model_readColon_375 : decode hx_c_Model_readColon 375 = .ok (.aload_n 0, 1) := by decide +kernel
theorem hx_d_Model_readColon_376 : decode hx_c_Model_readColon 376 = .ok (.aload_n 0, 1) := by decide +kernel
theorem hx_d_Model_readColon_377 : decode hx_c_Model_readColon 377 = .ok (.iconst 4, 1) := by decide +kernel
theorem hx_d_Model_readColon_378 : decode hx_c_Model_readColon 378 = .ok (.iconst 2, 1) := by decide +kernel
theorem hx_d_Model_readColon_379 : decode hx_c_Model_readColon 379 = .ok (.invokevirtual 102, 3) := by decide +kernel
theorem hx_d_Model_readColon_382 : decode hx_c_Model_readColon 382 = .ok (.aload_n 0, 1) := by decide +kernel
theorem hx_d_Model_readColon_383 : decode hx_c_Model_readColon 383 = .ok (.getfield 110, 3) := by decide +kernel
theorem hx_d_Model_readColon_386 : decode hx_c_Model_readColon 386 = .ok (.ifCond .eq 9, 3) := by decide +kernel
theorem hx_d_Model_readColon_389 : decode hx_c_Model_readColon 389 = .ok (.ldc2_w 119, 3) := by decide +kernel
theorem hx_d_Model_readColon_392 : decode hx_c_Model_readColon 392 = .ok (.goto 6, 3) := by decide +kernel
theorem hx_d_Model_readColon_395 : decode hx_c_Model_readColon 395 = .ok (.ldc2_w 113, 3) := by decide +kernel
theorem hx_d_Model_readColon_398 : decode hx_c_Model_readColon 398 = .ok (.lmul, 1) := by decide +kernel
theorem hx_d_Model_readColon_399 : decode hx_c_Model_readColon 399 = .ok (.putfield 106, 3) := by decide +kernel
theorem hx_d_Model_readColon_402 : decode hx_c_Model_readColon 402 = .ok (.goto 45, 3) := by decide +kernel
theorem hx_d_Model_readColon_405 : decode hx_c_Model_readColon 405 = .ok (.aload_n 0, 1) := by decide +kernel
theorem hx_d_Model_readColon_406 : decode hx_c_Model_readColon 406 = .ok (.iconst 1, 1) := by decide +kernel
theorem hx_d_Model_readColon_407 : decode hx_c_Model_readColon 407 = .ok (.putfield 121, 3) := by decide +kernel
theorem hx_d_Model_readColon_410 : decode hx_c_Model_readColon 410 = .ok (.aload_n 0, 1) := by decide +kernel
theorem hx_d_Model_readColon_411 : decode hx_c_Model_readColon 411 = .ok (.iload 4, 2) := by decide +kernel
theorem hx_d_Model_readColon_413 : decode hx_c_Model_readColon 413 = .ok (.iconst 3, 1) := by decide +kernel
theorem hx_d_Model_readColon_414 : decode hx_c_Model_readColon 414 = .ok (.if_icmp .ne 24, 3) := by decide +kernel
theorem hx_d_Model_readColon_417 : decode hx_c_Model_readColon 417 = .ok (.ldc2_w 119, 3) := by decide +kernel
theorem hx_d_Model_readColon_420 : decode hx_c_Model_readColon 420 = .ok (.aload_n 0, 1) := by decide +kernel
theorem hx_d_Model_readColon_421 : decode hx_c_Model_readColon 421 = .ok (.iconst 4, 1) := by decide +kernel
theorem hx_d_Model_readColon_422 : decode hx_c_Model_readColon 422 = .ok (.iconst 2, 1) := by decide +kernel
theorem hx_d_Model_readColon_423 : decode hx_c_Model_readColon 423 = .ok (.invokevirtual 102, 3) := by decide +kernel
theorem hx_d_Model_readColon_426 : decode hx_c_Model_readColon 426 = .ok (.lmul, 1) := by decide +kernel
theorem hx_d_Model_readColon_427 : decode hx_c_Model_readColon 427 = .ok (.aload_n 0, 1) := by decide +kernel
theorem hx_d_Model_readColon_428 : decode hx_c_Model_readColon 428 = .ok (.bipush 6, 2) := by decide +kernel
theorem hx_d_Model_readColon_430 : decode hx_c_Model_readColon 430 = .ok (.iconst 2, 1) := by decide +kernel
theorem hx_d_Model_readColon_431 : decode hx_c_Model_readColon 431 = .ok (.invokevirtual 102, 3) := by decide +kernel
theorem hx_d_Model_readColon_434 : decode hx_c_Model_readColon 434 = .ok (.ladd, 1) := by decide +kernel
theorem hx_d_Model_readColon_435 : decode hx_c_Model_readColon 435 = .ok (.goto 9, 3) := by decide +kernel
theorem hx_d_Model_readColon_438 : decode hx_c_Model_readColon 438 = .ok (.aload_n 0, 1) := by decide +kernel
theorem hx_d_Model_readColon_439 : decode hx_c_Model_readColon 439 = .ok (.iconst 4, 1) := by decide +kernel
theorem hx_d_Model_readColon_440 : decode hx_c_Model_readColon 440 = .ok (.iconst 4, 1) := by decide +kernel
theorem hx_d_Model_readColon_441 : decode hx_c_Model_readColon 441 = .ok (.invokevirtual 102, 3) := by decide +kernel
theorem hx_d_Model_readColon_444 : decode hx_c_Model_readColon 444 = .ok (.putfield 124, 3) := by decide +kernel
theorem hx_d_Model_readColon_447 : decode hx_c_Model_readColon 447 = .ok (.return_, 1) := by decide +kernel
theorem hx_d_Model_isFine_0 : decode hx_c_Model_isFine 0 = .ok (.aload_n 0, 1) := by decide +kernel
theorem hx_d_Model_isFine_1 : decode hx_c_Model_isFine 1 = .ok (.aload_n 0, 1) := by decide +kernel
theorem hx_d_Model_isFine_2 : decode hx_c_Model_isFine 2 = .ok (.getfield 68, 3) := by decide +kernel
theorem hx_d_Model_isFine_5 : decode hx_c_Model_isFine 5 = .ok (.ifCond .ne 11, 3) := by decide +kernel
theorem hx_d_Model_isFine_8 : decode hx_c_Model_isFine 8 = .ok (.iload_n 1, 1) := by decide +kernel
theorem hx_d_Model_isFine_9 : decode hx_c_Model_isFine 9 = .ok (.ifCond .ne 7, 3) := by decide +kernel
theorem hx_d_Model_isFine_12 : decode hx_c_Model_isFine 12 = .ok (.iload_n 2, 1) := by decide +kernel
theorem hx_d_Model_isFine_13 : decode hx_c_Model_isFine 13 = .ok (.goto 7, 3) := by decide +kernel
theorem hx_d_Model_isFine_16 : decode hx_c_Model_isFine 16 = .ok (.aload_n 0, 1) := by decide +kernel
theorem hx_d_Model_isFine_17 : decode hx_c_Model_isFine 17 = .ok (.getfield 68, 3) := by decide +kernel
theorem hx_d_Model_isFine_20 : decode hx_c_Model_isFine 20 = .ok (.putfield 68, 3) := by decide +kernel
theorem hx_d_Model_isFine_23 : decode hx_c_Model_isFine 23 = .ok (.aload_n 0, 1) := by decide +kernel
theorem hx_d_Model_isFine_24 : decode hx_c_Model_isFine 24 = .ok (.getfield 68, 3) := by decide +kernel
theorem hx_d_Model_isFine_27 : decode hx_c_Model_isFine 27 = .ok (.ifCond .ne 7, 3) := by decide +kernel
theorem hx_d_Model_isFine_30 : decode hx_c_Model_isFine 30 = .ok (.iconst 1, 1) := by decide +kernel
theorem hx_d_Model_isFine_31 : decode hx_c_Model_isFine 31 = .ok (.goto 4, 3) := by decide +kernel
theorem hx_d_Model_isFine_34 : decode hx_c_Model_isFine 34 = .ok (.iconst 0, 1) := by decide +kernel
theorem hx_d_Model_isFine_35 : decode hx_c_Model_isFine 35 = .ok (.ireturn, 1) := by decide +kernel
theorem hx_d_Model_readDigits_0 : decode hx_c_Model_readDigits 0 = .ok (.iconst 1, 1) := by decide +kernel
theorem hx_d_Model_readDigits_1 : decode hx_c_Model_readDigits 1 = .ok (.istore_n 3, 1) := by decide +kernel
theorem hx_d_Model_readDigits_2 : decode hx_c_Model_readDigits 2 = .ok (.aload_n 0, 1) := by decide +kernel
theorem hx_d_Model_readDigits_3 : decode hx_c_Model_readDigits 3 = .ok (.iconst 0, 1) := by decide +kernel
theorem hx_d_Model_readDigits_4 : decode hx_c_Model_readDigits 4 = .ok (.putfield 71, 3) := by decide +kernel
theorem hx_d_Model_readDigits_7 : decode hx_c_Model_readDigits 7 = .ok (.iload_n 1, 1) := by decide +kernel
theorem hx_d_Model_readDigits_8 : decode hx_c_Model_readDigits 8 = .ok (.istore 4, 2) := by decide +kernel
theorem hx_d_Model_readDigits_10 : decode hx_c_Model_readDigits 10 = .ok (.iload 4, 2) := by decide +kernel
theorem hx_d_Model_readDigits_12 : decode hx_c_Model_readDigits 12 = .ok (.iload_n 2, 1) := by decide +kernel
theorem hx_d_Model_readDigits_13 : decode hx_c_Model_readDigits 13 = .ok (.if_icmp .ge 32, 3) := by decide +kernel
theorem hx_d_Model_readDigits_16 : decode hx_c_Model_readDigits 16 = .ok (.iload_n 3, 1) := by decide +kernel
theorem hx_d_Model_readDigits_17 : decode hx_c_Model_readDigits 17 = .ok (.ifCond .eq 20, 3) := by decide +kernel
theorem hx_d_Model_readDigits_20 : decode hx_c_Model_readDigits 20 = .ok (.aload_n 0, 1) := by decide +kernel
theorem hx_d_Model_readDigits_21 : decode hx_c_Model_readDigits 21 = .ok (.getfield 17, 3) := by decide +kernel
theorem hx_d_Model_readDigits_24 : decode hx_c_Model_readDigits 24 = .ok (.iload 4, 2) := by decide +kernel
theorem hx_d_Model_readDigits_26 : decode hx_c_Model_readDigits 26 = .ok (.baload, 1) := by decide +kernel
theorem hx_d_Model_readDigits_27 : decode hx_c_Model_readDigits 27 = .ok (.invokestatic 74, 3) := by decide +kernel
theorem hx_d_Model_readDigits_30 : decode hx_c_Model_readDigits 30 = .ok (.ifCond .lt 7, 3) := by decide +kernel
theorem hx_d_Model_readDigits_33 : decode hx_c_Model_readDigits 33 = .ok (.iconst 1, 1) := by decide +kernel
theorem hx_d_Model_readDigits_34 : decode hx_c_Model_readDigits 34 = .ok (.goto 4, 3) := by decide +kernel
theorem hx_d_Model_readDigits_37 : decode hx_c_Model_readDigits 37 = .ok (.iconst 0, 1) := by decide +kernel
theorem hx_d_Model_readDigits_38 : decode hx_c_Model_readDigits 38 = .ok (.istore_n 3, 1) := by decide +kernel
theorem hx_d_Model_readDigits_39 : decode hx_c_Model_readDigits 39 = .ok (.iinc 4 1, 3) := by decide +kernel
theorem hx_d_Model_readDigits_42 : decode hx_c_Model_readDigits 42 = .ok (.goto (-32), 3) := by decide +kernel
theorem hx_d_Model_readDigits_45 : decode hx_c_Model_readDigits 45 = .ok (.aload_n 0, 1) := by decide +kernel
theorem hx_d_Model_readDigits_46 : decode hx_c_Model_readDigits 46 = .ok (.iload_n 3, 1) := by decide +kernel
theorem hx_d_Model_readDigits_47 : decode hx_c_Model_readDigits 47 = .ok (.iconst 2, 1) := by decide +kernel
theorem hx_d_Model_readDigits_48 : decode hx_c_Model_readDigits 48 = .ok (.invokevirtual 78, 3) := by decide +kernel
theorem hx_d_Model_readDigits_51 : decode hx_c_Model_readDigits 51 = .ok (.istore 4, 2) := by decide +kernel
theorem hx_d_Model_readDigits_53 : decode hx_c_Model_readDigits 53 = .ok (.iload_n 1, 1) := by decide +kernel
theorem hx_d_Model_readDigits_54 : decode hx_c_Model_readDigits 54 = .ok (.istore 5, 2) := by decide +kernel
theorem hx_d_Model_readDigits_56 : decode hx_c_Model_readDigits 56 = .ok (.iload 5, 2) := by decide +kernel
theorem hx_d_Model_readDigits_58 : decode hx_c_Model_readDigits 58 = .ok (.iconst 1, 1) := by decide +kernel
theorem hx_d_Model_readDigits_59 : decode hx_c_Model_readDigits 59 = .ok (.iadd, 1) := by decide +kernel
theorem hx_d_Model_readDigits_60 : decode hx_c_Model_readDigits 60 = .ok (.iload_n 2, 1) := by decide +kernel
theorem hx_d_Model_readDigits_61 : decode hx_c_Model_readDigits 61 = .ok (.if_icmp .ge 61, 3) := by decide +kernel
theorem hx_d_Model_readDigits_64 : decode hx_c_Model_readDigits 64 = .ok (.iload_n 3, 1) := by decide +kernel
theorem hx_d_Model_readDigits_65 : decode hx_c_Model_readDigits 65 = .ok (.ifCond .eq 57, 3) := by decide +kernel
theorem hx_d_Model_readDigits_68 : decode hx_c_Model_readDigits 68 = .ok (.aload_n 0, 1) := by decide +kernel
theorem hx_d_Model_readDigits_69 : decode hx_c_Model_readDigits 69 = .ok (.getfield 31, 3) := by decide +kernel
theorem hx_d_Model_readDigits_72 : decode hx_c_Model_readDigits 72 = .ok (.aload_n 0, 1) := by decide +kernel
theorem hx_d_Model_readDigits_73 : decode hx_c_Model_readDigits 73 = .ok (.getfield 71, 3) := by decide +kernel
theorem hx_d_Model_readDigits_76 : decode hx_c_Model_readDigits 76 = .ok (.bipush 16, 2) := by decide +kernel
theorem hx_d_Model_readDigits_78 : decode hx_c_Model_readDigits 78 = .ok (.aload_n 0, 1) := by decide +kernel
theorem hx_d_Model_readDigits_79 : decode hx_c_Model_readDigits 79 = .ok (.getfield 17, 3) := by decide +kernel
theorem hx_d_Model_readDigits_82 : decode hx_c_Model_readDigits 82 = .ok (.iload 5, 2) := by decide +kernel
theorem hx_d_Model_readDigits_84 : decode hx_c_Model_readDigits 84 = .ok (.baload, 1) := by decide +kernel
theorem hx_d_Model_readDigits_85 : decode hx_c_Model_readDigits 85 = .ok (.invokestatic 74, 3) := by decide +kernel
theorem hx_d_Model_readDigits_88 : decode hx_c_Model_readDigits 88 = .ok (.imul, 1) := by decide +kernel
theorem hx_d_Model_readDigits_89 : decode hx_c_Model_readDigits 89 = .ok (.aload_n 0, 1) := by decide +kernel
theorem hx_d_Model_readDigits_90 : decode hx_c_Model_readDigits 90 = .ok (.getfield 17, 3) := by decide +kernel
theorem hx_d_Model_readDigits_93 : decode hx_c_Model_readDigits 93 = .ok (.iload 5, 2) := by decide +kernel
theorem hx_d_Model_readDigits_95 : decode hx_c_Model_readDigits 95 = .ok (.iconst 1, 1) := by decide +kernel
theorem hx_d_Model_readDigits_96 : decode hx_c_Model_readDigits 96 = .ok (.iadd, 1) := by decide +kernel
theorem hx_d_Model_readDigits_97 : decode hx_c_Model_readDigits 97 = .ok (.baload, 1) := by decide +kernel
theorem hx_d_Model_readDigits_98 : decode hx_c_Model_readDigits 98 = .ok (.invokestatic 74, 3) := by decide +kernel
theorem hx_d_Model_readDigits_101 : decode hx_c_Model_readDigits 101 = .ok (.iadd, 1) := by decide +kernel
theorem hx_d_Model_readDigits_102 : decode hx_c_Model_readDigits 102 = .ok (.iastore, 1) := by decide +kernel
theorem hx_d_Model_readDigits_103 : decode hx_c_Model_readDigits 103 = .ok (.aload_n 0, 1) := by decide +kernel
theorem hx_d_Model_readDigits_104 : decode hx_c_Model_readDigits 104 = .ok (.dup, 1) := by decide +kernel
theorem hx_d_Model_readDigits_105 : decode hx_c_Model_readDigits 105 = .ok (.getfield 71, 3) := by decide +kernel
theorem hx_d_Model_readDigits_108 : decode hx_c_Model_readDigits 108 = .ok (.iconst 1, 1) := by decide +kernel
theorem hx_d_Model_readDigits_109 : decode hx_c_Model_readDigits 109 = .ok (.iadd, 1) := by decide +kernel
theorem hx_d_Model_readDigits_110 : decode hx_c_Model_readDigits 110 = .ok (.putfield 71, 3) := by decide +kernel
theorem hx_d_Model_readDigits_113 : decode hx_c_Model_readDigits 113 = .ok (.iload 5, 2) := by decide +kernel
theorem hx_d_Model_readDigits_115 : decode hx_c_Model_readDigits 115 = .ok (.iconst 2, 1) := by decide +kernel
theorem hx_d_Model_readDigits_116 : decode hx_c_Model_readDigits 116 = .ok (.iadd, 1) := by decide +kernel
theorem hx_d_Model_readDigits_117 : decode hx_c_Model_readDigits 117 = .ok (.istore 5, 2) := by decide +kernel
theorem hx_d_Model_readDigits_119 : decode hx_c_Model_readDigits 119 = .ok (.goto (-63), 3) := by decide +kernel
theorem hx_d_Model_readDigits_122 : decode hx_c_Model_readDigits 122 = .ok (.return_, 1) := by decide +kernel
theorem hx_d_Model_digit_0 : decode hx_c_Model_digit 0 = .ok (.iload_n 0, 1) := by decide +kernel
theorem hx_d_Model_digit_1 : decode hx_c_Model_digit 1 = .ok (.bipush 48, 2) := by decide +kernel
theorem hx_d_Model_digit_3 : decode hx_c_Model_digit 3 = .ok (.if_icmp .lt 16, 3) := by decide +kernel
theorem hx_d_Model_digit_6 : decode hx_c_Model_digit 6 = .ok (.iload_n 0, 1) := by decide +kernel
theorem hx_d_Model_digit_7 : decode hx_c_Model_digit 7 = .ok (.bipush 57, 2) := by decide +kernel
theorem hx_d_Model_digit_9 : decode hx_c_Model_digit 9 = .ok (.if_icmp .gt 10, 3) := by decide +kernel
theorem hx_d_Model_digit_12 : decode hx_c_Model_digit 12 = .ok (.iload_n 0, 1) := by decide +kernel
theorem hx_d_Model_digit_13 : decode hx_c_Model_digit 13 = .ok (.bipush 48, 2) := by decide +kernel
theorem hx_d_Model_digit_15 : decode hx_c_Model_digit 15 = .ok (.isub, 1) := by decide +kernel
theorem hx_d_Model_digit_16 : decode hx_c_Model_digit 16 = .ok (.goto 48, 3) := by decide +kernel
theorem hx_d_Model_digit_19 : decode hx_c_Model_digit 19 = .ok (.iload_n 0, 1) := by decide +kernel
theorem hx_d_Model_digit_20 : decode hx_c_Model_digit 20 = .ok (.bipush 65, 2) := by decide +kernel
theorem hx_d_Model_digit_22 : decode hx_c_Model_digit 22 = .ok (.if_icmp .lt 19, 3) := by decide +kernel
theorem hx_d_Model_digit_25 : decode hx_c_Model_digit 25 = .ok (.iload_n 0, 1) := by decide +kernel
theorem hx_d_Model_digit_26 : decode hx_c_Model_digit 26 = .ok (.bipush 70, 2) := by decide +kernel
theorem hx_d_Model_digit_28 : decode hx_c_Model_digit 28 = .ok (.if_icmp .gt 13, 3) := by decide +kernel
theorem hx_d_Model_digit_31 : decode hx_c_Model_digit 31 = .ok (.iload_n 0, 1) := by decide +kernel
theorem hx_d_Model_digit_32 : decode hx_c_Model_digit 32 = .ok (.bipush 65, 2) := by decide +kernel
theorem hx_d_Model_digit_34 : decode hx_c_Model_digit 34 = .ok (.isub, 1) := by decide +kernel
theorem hx_d_Model_digit_35 : decode hx_c_Model_digit 35 = .ok (.bipush 10, 2) := by decide +kernel
theorem hx_d_Model_digit_37 : decode hx_c_Model_digit 37 = .ok (.iadd, 1) := by decide +kernel
theorem hx_d_Model_digit_38 : decode hx_c_Model_digit 38 = .ok (.goto 26, 3) := by decide +kernel
theorem hx_d_Model_digit_41 : decode hx_c_Model_digit 41 = .ok (.iload_n 0, 1) := by decide +kernel
theorem hx_d_Model_digit_42 : decode hx_c_Model_digit 42 = .ok (.bipush 97, 2) := by decide +kernel
theorem hx_d_Model_digit_44 : decode hx_c_Model_digit 44 = .ok (.if_icmp .lt 19, 3) := by decide +kernel
theorem hx_d_Model_digit_47 : decode hx_c_Model_digit 47 = .ok (.iload_n 0, 1) := by decide +kernel
theorem hx_d_Model_digit_48 : decode hx_c_Model_digit 48 = .ok (.bipush 102, 2) := by decide +kernel
theorem hx_d_Model_digit_50 : decode hx_c_Model_digit 50 = .ok (.if_icmp .gt 13, 3) := by decide +kernel
theorem hx_d_Model_digit_53 : decode hx_c_Model_digit 53 = .ok (.iload_n 0, 1) := by decide +kernel
theorem hx_d_Model_digit_54 : decode hx_c_Model_digit 54 = .ok (.bipush 97, 2) := by decide +kernel
theorem hx_d_Model_digit_56 : decode hx_c_Model_digit 56 = .ok (.isub, 1) := by decide +kernel
theorem hx_d_Model_digit_57 : decode hx_c_Model_digit 57 = .ok (.bipush 10, 2) := by decide +kernel
theorem hx_d_Model_digit_59 : decode hx_c_Model_digit 59 = .ok (.iadd, 1) := by decide +kernel
theorem hx_d_Model_digit_60 : decode hx_c_Model_digit 60 = .ok (.goto 4, 3) := by decide +kernel
theorem hx_d_Model_digit_63 : decode hx_c_Model_digit 63 = .ok (.iconst (-1), 1) := by decide +kernel
theorem hx_d_Model_digit_64 : decode hx_c_Model_digit 64 = .ok (.ireturn, 1) := by decide +kernel
theorem hx_d_Model_sum_0 : decode hx_c_Model_sum 0 = .ok (.iconst 0, 1) := by decide +kernel
theorem hx_d_Model_sum_1 : decode hx_c_Model_sum 1 = .ok (.istore_n 1, 1) := by decide +kernel
theorem hx_d_Model_sum_2 : decode hx_c_Model_sum 2 = .ok (.iconst 0, 1) := by decide +kernel
theorem hx_d_Model_sum_3 : decode hx_c_Model_sum 3 = .ok (.istore_n 2, 1) := by decide +kernel
theorem hx_d_Model_sum_4 : decode hx_c_Model_sum 4 = .ok (.iload_n 2, 1) := by decide +kernel
theorem hx_d_Model_sum_5 : decode hx_c_Model_sum 5 = .ok (.aload_n 0, 1) := by decide +kernel
theorem hx_d_Model_sum_6 : decode hx_c_Model_sum 6 = .ok (.getfield 71, 3) := by decide +kernel
theorem hx_d_Model_sum_9 : decode hx_c_Model_sum 9 = .ok (.if_icmp .ge 18, 3) := by decide +kernel
theorem hx_d_Model_sum_12 : decode hx_c_Model_sum 12 = .ok (.iload_n 1, 1) := by decide +kernel
theorem hx_d_Model_sum_13 : decode hx_c_Model_sum 13 = .ok (.aload_n 0, 1) := by decide +kernel
theorem hx_d_Model_sum_14 : decode hx_c_Model_sum 14 = .ok (.getfield 31, 3) := by decide +kernel
theorem hx_d_Model_sum_17 : decode hx_c_Model_sum 17 = .ok (.iload_n 2, 1) := by decide +kernel
theorem hx_d_Model_sum_18 : decode hx_c_Model_sum 18 = .ok (.iaload, 1) := by decide +kernel
theorem hx_d_Model_sum_19 : decode hx_c_Model_sum 19 = .ok (.iadd, 1) := by decide +kernel
theorem hx_d_Model_sum_20 : decode hx_c_Model_sum 20 = .ok (.istore_n 1, 1) := by decide +kernel
theorem hx_d_Model_sum_21 : decode hx_c_Model_sum 21 = .ok (.iinc 2 1, 3) := by decide +kernel
theorem hx_d_Model_sum_24 : decode hx_c_Model_sum 24 = .ok (.goto (-20), 3) := by decide +kernel
theorem hx_d_Model_sum_27 : decode hx_c_Model_sum 27 = .ok (.iload_n 1, 1) := by decide +kernel
theorem hx_d_Model_sum_28 : decode hx_c_Model_sum 28 = .ok (.sipush 256, 3) := by decide +kernel
theorem hx_d_Model_sum_31 : decode hx_c_Model_sum 31 = .ok (.irem, 1) := by decide +kernel
theorem hx_d_Model_sum_32 : decode hx_c_Model_sum 32 = .ok (.ireturn, 1) := by decide +kernel
theorem hx_d_Model_number_0 : decode hx_c_Model_number 0 = .ok (.lconst 0, 1) := by decide +kernel
theorem hx_d_Model_number_1 : decode hx_c_Model_number 1 = .ok (.lstore_n 3, 1) := by decide +kernel
theorem hx_d_Model_number_2 : decode hx_c_Model_number 2 = .ok (.iload_n 1, 1) := by decide +kernel
theorem hx_d_Model_number_3 : decode hx_c_Model_number 3 = .ok (.istore 5, 2) := by decide +kernel
theorem hx_d_Model_number_5 : decode hx_c_Model_number 5 = .ok (.iload 5, 2) := by decide +kernel
theorem hx_d_Model_number_7 : decode hx_c_Model_number 7 = .ok (.iload_n 1, 1) := by decide +kernel
theorem hx_d_Model_number_8 : decode hx_c_Model_number 8 = .ok (.iload_n 2, 1) := by decide +kernel
theorem hx_d_Model_number_9 : decode hx_c_Model_number 9 = .ok (.iadd, 1) := by decide +kernel
theorem hx_d_Model_number_10 : decode hx_c_Model_number 10 = .ok (.if_icmp .ge 24, 3) := by decide +kernel
theorem hx_d_Model_number_13 : decode hx_c_Model_number 13 = .ok (.ldc2_w 82, 3) := by decide +kernel
theorem hx_d_Model_number_16 : decode hx_c_Model_number 16 = .ok (.lload_n 3, 1) := by decide +kernel
theorem hx_d_Model_number_17 : decode hx_c_Model_number 17 = .ok (.lmul, 1) := by decide +kernel
theorem hx_d_Model_number_18 : decode hx_c_Model_number 18 = .ok (.aload_n 0, 1) := by decide +kernel
theorem hx_d_Model_number_19 : decode hx_c_Model_number 19 = .ok (.getfield 31, 3) := by decide +kernel
theorem hx_d_Model_number_22 : decode hx_c_Model_number 22 = .ok (.iload 5, 2) := by decide +kernel
theorem hx_d_Model_number_24 : decode hx_c_Model_number 24 = .ok (.iaload, 1) := by decide +kernel
theorem hx_d_Model_number_25 : decode hx_c_Model_number 25 = .ok (.i2l, 1) := by decide +kernel
theorem hx_d_Model_number_26 : decode hx_c_Model_number 26 = .ok (.ladd, 1) := by decide +kernel
theorem hx_d_Model_number_27 : decode hx_c_Model_number 27 = .ok (.lstore_n 3, 1) := by decide +kernel
theorem hx_d_Model_number_28 : decode hx_c_Model_number 28 = .ok (.iinc 5 1, 3) := by decide +kernel
theorem hx_d_Model_number_31 : decode hx_c_Model_number 31 = .ok (.goto (-26), 3) := by decide +kernel
theorem hx_d_Model_number_34 : decode hx_c_Model_number 34 = .ok (.lload_n 3, 1) := by decide +kernel
theorem hx_d_Model_number_35 : decode hx_c_Model_number 35 = .ok (.lreturn, 1) := by decide +kernel
theorem hx_d_Model_putNew_0 : decode hx_c_Model_putNew 0 = .ok (.lload_n 1, 1) := by decide +kernel
theorem hx_d_Model_putNew_1 : decode hx_c_Model_putNew 1 = .ok (.ldc2_w 46, 3) := by decide +kernel
theorem hx_d_Model_putNew_4 : decode hx_c_Model_putNew 4 = .ok (.lcmp, 1) := by decide +kernel
theorem hx_d_Model_putNew_5 : decode hx_c_Model_putNew 5 = .ok (.ifCond .lt 7, 3) := by decide +kernel
theorem hx_d_Model_putNew_8 : decode hx_c_Model_putNew 8 = .ok (.iconst 1, 1) := by decide +kernel
theorem hx_d_Model_putNew_9 : decode hx_c_Model_putNew 9 = .ok (.goto 4, 3) := by decide +kernel
theorem hx_d_Model_putNew_12 : decode hx_c_Model_putNew 12 = .ok (.iconst 0, 1) := by decide +kernel
theorem hx_d_Model_putNew_13 : decode hx_c_Model_putNew 13 = .ok (.istore 4, 2) := by decide +kernel
theorem hx_d_Model_putNew_15 : decode hx_c_Model_putNew 15 = .ok (.iconst 0, 1) := by decide +kernel
theorem hx_d_Model_putNew_16 : decode hx_c_Model_putNew 16 = .ok (.istore 5, 2) := by decide +kernel
theorem hx_d_Model_putNew_18 : decode hx_c_Model_putNew 18 = .ok (.iload 5, 2) := by decide +kernel
theorem hx_d_Model_putNew_20 : decode hx_c_Model_putNew 20 = .ok (.aload_n 0, 1) := by decide +kernel
theorem hx_d_Model_putNew_21 : decode hx_c_Model_putNew 21 = .ok (.getfield 84, 3) := by decide +kernel
theorem hx_d_Model_putNew_24 : decode hx_c_Model_putNew 24 = .ok (.if_icmp .ge 33, 3) := by decide +kernel
theorem hx_d_Model_putNew_27 : decode hx_c_Model_putNew 27 = .ok (.iload 4, 2) := by decide +kernel
theorem hx_d_Model_putNew_29 : decode hx_c_Model_putNew 29 = .ok (.ifCond .ne 15, 3) := by decide +kernel
theorem hx_d_Model_putNew_32 : decode hx_c_Model_putNew 32 = .ok (.aload_n 0, 1) := by decide +kernel
theorem hx_d_Model_putNew_33 : decode hx_c_Model_putNew 33 = .ok (.getfield 25, 3) := by decide +kernel
theorem hx_d_Model_putNew_36 : decode hx_c_Model_putNew 36 = .ok (.iload 5, 2) := by decide +kernel
theorem hx_d_Model_putNew_38 : decode hx_c_Model_putNew 38 = .ok (.laload, 1) := by decide +kernel
theorem hx_d_Model_putNew_39 : decode hx_c_Model_putNew 39 = .ok (.lload_n 1, 1) := by decide +kernel
theorem hx_d_Model_putNew_40 : decode hx_c_Model_putNew 40 = .ok (.lcmp, 1) := by decide +kernel
theorem hx_d_Model_putNew_41 : decode hx_c_Model_putNew 41 = .ok (.ifCond .ne 7, 3) := by decide +kernel
theorem hx_d_Model_putNew_44 : decode hx_c_Model_putNew 44 = .ok (.iconst 1, 1) := by decide +kernel
theorem hx_d_Model_putNew_45 : decode hx_c_Model_putNew 45 = .ok (.goto 4, 3) := by decide +kernel
theorem hx_d_Model_putNew_48 : decode hx_c_Model_putNew 48 = .ok (.iconst 0, 1) := by decide +kernel
theorem hx_d_Model_putNew_49 : decode hx_c_Model_putNew 49 = .ok (.istore 4, 2) := by decide +kernel
theorem hx_d_Model_putNew_51 : decode hx_c_Model_putNew 51 = .ok (.iinc 5 1, 3) := by decide +kernel
theorem hx_d_Model_putNew_54 : decode hx_c_Model_putNew 54 = .ok (.goto (-36), 3) := by decide +kernel
theorem hx_d_Model_putNew_57 : decode hx_c_Model_putNew 57 = .ok (.aload_n 0, 1) := by decide +kernel
theorem hx_d_Model_putNew_58 : decode hx_c_Model_putNew 58 = .ok (.iload 4, 2) := by decide +kernel
theorem hx_d_Model_putNew_60 : decode hx_c_Model_putNew 60 = .ok (.ifCond .ne 7, 3) := by decide +kernel
theorem hx_d_Model_putNew_63 : decode hx_c_Model_putNew 63 = .ok (.iconst 1, 1) := by decide +kernel
theorem hx_d_Model_putNew_64 : decode hx_c_Model_putNew 64 = .ok (.goto 4, 3) := by decide +kernel
theorem hx_d_Model_putNew_67 : decode hx_c_Model_putNew 67 = .ok (.iconst 0, 1) := by decide +kernel
theorem hx_d_Model_putNew_68 : decode hx_c_Model_putNew 68 = .ok (.bipush 8, 2) := by decide +kernel
theorem hx_d_Model_putNew_70 : decode hx_c_Model_putNew 70 = .ok (.invokevirtual 78, 3) := by decide +kernel
theorem hx_d_Model_putNew_73 : decode hx_c_Model_putNew 73 = .ok (.ifCond .eq 58, 3) := by decide +kernel
theorem hx_d_Model_putNew_76 : decode hx_c_Model_putNew 76 = .ok (.aload_n 0, 1) := by decide +kernel
theorem hx_d_Model_putNew_77 : decode hx_c_Model_putNew 77 = .ok (.getfield 25, 3) := by decide +kernel
theorem hx_d_Model_putNew_80 : decode hx_c_Model_putNew 80 = .ok (.aload_n 0, 1) := by decide +kernel
theorem hx_d_Model_putNew_81 : decode hx_c_Model_putNew 81 = .ok (.getfield 84, 3) := by decide +kernel
theorem hx_d_Model_putNew_84 : decode hx_c_Model_putNew 84 = .ok (.lload_n 1, 1) := by decide +kernel
theorem hx_d_Model_putNew_85 : decode hx_c_Model_putNew 85 = .ok (.lastore, 1) := by decide +kernel
theorem hx_d_Model_putNew_86 : decode hx_c_Model_putNew 86 = .ok (.aload_n 0, 1) := by decide +kernel
theorem hx_d_Model_putNew_87 : decode hx_c_Model_putNew 87 = .ok (.getfield 28, 3) := by decide +kernel
theorem hx_d_Model_putNew_90 : decode hx_c_Model_putNew 90 = .ok (.aload_n 0, 1) := by decide +kernel
theorem hx_d_Model_putNew_91 : decode hx_c_Model_putNew 91 = .ok (.getfield 84, 3) := by decide +kernel
theorem hx_d_Model_putNew_94 : decode hx_c_Model_putNew 94 = .ok (.iload_n 3, 1) := by decide +kernel
theorem hx_d_Model_putNew_95 : decode hx_c_Model_putNew 95 = .ok (.iastore, 1) := by decide +kernel
theorem hx_d_Model_putNew_96 : decode hx_c_Model_putNew 96 = .ok (.aload_n 0, 1) := by decide +kernel
theorem hx_d_Model_putNew_97 : decode hx_c_Model_putNew 97 = .ok (.dup, 1) := by decide +kernel
theorem hx_d_Model_putNew_98 : decode hx_c_Model_putNew 98 = .ok (.getfield 84, 3) := by decide +kernel
theorem hx_d_Model_putNew_101 : decode hx_c_Model_putNew 101 = .ok (.iconst 1, 1) := by decide +kernel
theorem hx_d_Model_putNew_102 : decode hx_c_Model_putNew 102 = .ok (.iadd, 1) := by decide +kernel
theorem hx_d_Model_putNew_103 : decode hx_c_Model_putNew 103 = .ok (.putfield 84, 3) := by decide +kernel
theorem hx_d_Model_putNew_106 : decode hx_c_Model_putNew 106 = .ok (.aload_n 0, 1) := by decide +kernel
theorem hx_d_Model_putNew_107 : decode hx_c_Model_putNew 107 = .ok (.aload_n 0, 1) := by decide +kernel
theorem hx_d_Model_putNew_108 : decode hx_c_Model_putNew 108 = .ok (.lload_n 1, 1) := by decide +kernel
theorem hx_d_Model_putNew_109 : decode hx_c_Model_putNew 109 = .ok (.invokevirtual 64, 3) := by decide +kernel
theorem hx_d_Model_putNew_112 : decode hx_c_Model_putNew 112 = .ok (.ifCond .eq 10, 3) := by decide +kernel
theorem hx_d_Model_putNew_115 : decode hx_c_Model_putNew 115 = .ok (.aload_n 0, 1) := by decide +kernel
theorem hx_d_Model_putNew_116 : decode hx_c_Model_putNew 116 = .ok (.getfield 87, 3) := by decide +kernel
theorem hx_d_Model_putNew_119 : decode hx_c_Model_putNew 119 = .ok (.goto 9, 3) := by decide +kernel
theorem hx_d_Model_putNew_122 : decode hx_c_Model_putNew 122 = .ok (.aload_n 0, 1) := by decide +kernel
theorem hx_d_Model_putNew_123 : decode hx_c_Model_putNew 123 = .ok (.getfield 87, 3) := by decide +kernel
theorem hx_d_Model_putNew_126 : decode hx_c_Model_putNew 126 = .ok (.iconst 1, 1) := by decide +kernel
theorem hx_d_Model_putNew_127 : decode hx_c_Model_putNew 127 = .ok (.iadd, 1) := by decide +kernel
theorem hx_d_Model_putNew_128 : decode hx_c_Model_putNew 128 = .ok (.putfield 87, 3) := by decide +kernel
theorem hx_d_Model_putNew_131 : decode hx_c_Model_putNew 131 = .ok (.return_, 1) := by decide +kernel
theorem hx_d_Model_has_0 : decode hx_c_Model_has 0 = .ok (.aload_n 0, 1) := by decide +kernel
theorem hx_d_Model_has_1 : decode hx_c_Model_has 1 = .ok (.lload_n 1, 1) := by decide +kernel
theorem hx_d_Model_has_2 : decode hx_c_Model_has 2 = .ok (.invokevirtual 60, 3) := by decide +kernel
theorem hx_d_Model_has_5 : decode hx_c_Model_has 5 = .ok (.istore_n 3, 1) := by decide +kernel
theorem hx_d_Model_has_6 : decode hx_c_Model_has 6 = .ok (.iload_n 3, 1) := by decide +kernel
theorem hx_d_Model_has_7 : decode hx_c_Model_has 7 = .ok (.aload_n 0, 1) := by decide +kernel
theorem hx_d_Model_has_8 : decode hx_c_Model_has 8 = .ok (.getfield 57, 3) := by decide +kernel
theorem hx_d_Model_has_11 : decode hx_c_Model_has 11 = .ok (.if_icmp .ge 18, 3) := by decide +kernel
theorem hx_d_Model_has_14 : decode hx_c_Model_has 14 = .ok (.aload_n 0, 1) := by decide +kernel
theorem hx_d_Model_has_15 : decode hx_c_Model_has 15 = .ok (.getfield 7, 3) := by decide +kernel
theorem hx_d_Model_has_18 : decode hx_c_Model_has 18 = .ok (.iload_n 3, 1) := by decide +kernel
theorem hx_d_Model_has_19 : decode hx_c_Model_has 19 = .ok (.laload, 1) := by decide +kernel
theorem hx_d_Model_has_20 : decode hx_c_Model_has 20 = .ok (.lload_n 1, 1) := by decide +kernel
theorem hx_d_Model_has_21 : decode hx_c_Model_has 21 = .ok (.lcmp, 1) := by decide +kernel
theorem hx_d_Model_has_22 : decode hx_c_Model_has 22 = .ok (.ifCond .ne 7, 3) := by decide +kernel
theorem hx_d_Model_has_25 : decode hx_c_Model_has 25 = .ok (.iconst 1, 1) := by decide +kernel
theorem hx_d_Model_has_26 : decode hx_c_Model_has 26 = .ok (.goto 4, 3) := by decide +kernel
theorem hx_d_Model_has_29 : decode hx_c_Model_has 29 = .ok (.iconst 0, 1) := by decide +kernel
theorem hx_d_Model_has_30 : decode hx_c_Model_has 30 = .ok (.ireturn, 1) := by decide +kernel
theorem hx_d_Model_placeOf_0 : decode hx_c_Model_placeOf 0 = .ok (.iconst 0, 1) := by decide +kernel
theorem hx_d_Model_placeOf_1 : decode hx_c_Model_placeOf 1 = .ok (.istore_n 3, 1) := by decide +kernel
theorem hx_d_Model_placeOf_2 : decode hx_c_Model_placeOf 2 = .ok (.iload_n 3, 1) := by decide +kernel
theorem hx_d_Model_placeOf_3 : decode hx_c_Model_placeOf 3 = .ok (.aload_n 0, 1) := by decide +kernel
theorem hx_d_Model_placeOf_4 : decode hx_c_Model_placeOf 4 = .ok (.getfield 57, 3) := by decide +kernel
theorem hx_d_Model_placeOf_7 : decode hx_c_Model_placeOf 7 = .ok (.if_icmp .ge 20, 3) := by decide +kernel
theorem hx_d_Model_placeOf_10 : decode hx_c_Model_placeOf 10 = .ok (.aload_n 0, 1) := by decide +kernel
theorem hx_d_Model_placeOf_11 : decode hx_c_Model_placeOf 11 = .ok (.getfield 7, 3) := by decide +kernel
theorem hx_d_Model_placeOf_14 : decode hx_c_Model_placeOf 14 = .ok (.iload_n 3, 1) := by decide +kernel
theorem hx_d_Model_placeOf_15 : decode hx_c_Model_placeOf 15 = .ok (.laload, 1) := by decide +kernel
theorem hx_d_Model_placeOf_16 : decode hx_c_Model_placeOf 16 = .ok (.lload_n 1, 1) := by decide +kernel
theorem hx_d_Model_placeOf_17 : decode hx_c_Model_placeOf 17 = .ok (.lcmp, 1) := by decide +kernel
theorem hx_d_Model_placeOf_18 : decode hx_c_Model_placeOf 18 = .ok (.ifCond .ge 9, 3) := by decide +kernel
theorem hx_d_Model_placeOf_21 : decode hx_c_Model_placeOf 21 = .ok (.iinc 3 1, 3) := by decide +kernel
theorem hx_d_Model_placeOf_24 : decode hx_c_Model_placeOf 24 = .ok (.goto (-22), 3) := by decide +kernel
theorem hx_d_Model_placeOf_27 : decode hx_c_Model_placeOf 27 = .ok (.iload_n 3, 1) := by decide +kernel
theorem hx_d_Model_placeOf_28 : decode hx_c_Model_placeOf 28 = .ok (.ireturn, 1) := by decide +kernel
theorem hx_d_Model_readLetter_0 : decode hx_c_Model_readLetter 0 = .ok (.aload_n 0, 1) := by decide +kernel
theorem hx_d_Model_readLetter_1 : decode hx_c_Model_readLetter 1 = .ok (.aload_n 0, 1) := by decide +kernel
theorem hx_d_Model_readLetter_2 : decode hx_c_Model_readLetter 2 = .ok (.getfield 17, 3) := by decide +kernel
theorem hx_d_Model_readLetter_5 : decode hx_c_Model_readLetter 5 = .ok (.iload_n 1, 1) := by decide +kernel
theorem hx_d_Model_readLetter_6 : decode hx_c_Model_readLetter 6 = .ok (.baload, 1) := by decide +kernel
theorem hx_d_Model_readLetter_7 : decode hx_c_Model_readLetter 7 = .ok (.bipush 83, 2) := by decide +kernel
