theorem hx_d_Model_colon_11 : decode hx_c_Model_colon 11 = .ok (.iload_n 1, 1) := by decide +kernel
theorem hx_d_Model_colon_12 : decode hx_c_Model_colon 12 = .ok (.i2l, 1) := by decide +kernel
theorem hx_d_Model_colon_13 : decode hx_c_Model_colon 13 = .ok (.iconst 1, 1) := by decide +kernel
theorem hx_d_Model_colon_14 : decode hx_c_Model_colon 14 = .ok (.invokevirtual 191, 3) := by decide +kernel
theorem hx_d_Model_colon_17 : decode hx_c_Model_colon 17 = .ok (.aload_n 0, 1) := by decide +kernel
theorem hx_d_Model_colon_18 : decode hx_c_Model_colon 18 = .ok (.lload_n 2, 1) := by decide +kernel
theorem hx_d_Model_colon_19 : decode hx_c_Model_colon 19 = .ok (.iconst 2, 1) := by decide +kernel
theorem hx_d_Model_colon_20 : decode hx_c_Model_colon 20 = .ok (.invokevirtual 191, 3) := by decide +kernel
theorem hx_d_Model_colon_23 : decode hx_c_Model_colon 23 = .ok (.aload_n 0, 1) := by decide +kernel
theorem hx_d_Model_colon_24 : decode hx_c_Model_colon 24 = .ok (.iload 4, 2) := by decide +kernel
theorem hx_d_Model_colon_26 : decode hx_c_Model_colon 26 = .ok (.i2l, 1) := by decide +kernel
theorem hx_d_Model_colon_27 : decode hx_c_Model_colon 27 = .ok (.iconst 1, 1) := by decide +kernel
theorem hx_d_Model_colon_28 : decode hx_c_Model_colon 28 = .ok (.invokevirtual 191, 3) := by decide +kernel
theorem hx_d_Model_colon_31 : decode hx_c_Model_colon 31 = .ok (.return_, 1) := by decide +kernel
theorem hx_d_Model_tellEnd_0 : decode hx_c_Model_tellEnd 0 = .ok (.aload_n 0, 1) := by decide +kernel
theorem hx_d_Model_tellEnd_1 : decode hx_c_Model_tellEnd 1 = .ok (.getfield 145, 3) := by decide +kernel
theorem hx_d_Model_tellEnd_4 : decode hx_c_Model_tellEnd 4 = .ok (.ifCond .eq 24, 3) := by decide +kernel
theorem hx_d_Model_tellEnd_7 : decode hx_c_Model_tellEnd 7 = .ok (.aload_n 0, 1) := by decide +kernel
theorem hx_d_Model_tellEnd_8 : decode hx_c_Model_tellEnd 8 = .ok (.iconst 4, 1) := by decide +kernel
theorem hx_d_Model_tellEnd_9 : decode hx_c_Model_tellEnd 9 = .ok (.lconst 0, 1) := by decide +kernel
theorem hx_d_Model_tellEnd_10 : decode hx_c_Model_tellEnd 10 = .ok (.iconst 5, 1) := by decide +kernel
theorem hx_d_Model_tellEnd_11 : decode hx_c_Model_tellEnd 11 = .ok (.invokevirtual 213, 3) := by decide +kernel
theorem hx_d_Model_tellEnd_14 : decode hx_c_Model_tellEnd 14 = .ok (.aload_n 0, 1) := by decide +kernel
theorem hx_d_Model_tellEnd_15 : decode hx_c_Model_tellEnd 15 = .ok (.aload_n 0, 1) := by decide +kernel
theorem hx_d_Model_tellEnd_16 : decode hx_c_Model_tellEnd 16 = .ok (.getfield 148, 3) := by decide +kernel
theorem hx_d_Model_tellEnd_19 : decode hx_c_Model_tellEnd 19 = .ok (.iconst 4, 1) := by decide +kernel
theorem hx_d_Model_tellEnd_20 : decode hx_c_Model_tellEnd 20 = .ok (.invokevirtual 191, 3) := by decide +kernel
theorem hx_d_Model_tellEnd_23 : decode hx_c_Model_tellEnd 23 = .ok (.aload_n 0, 1) := by decide +kernel
theorem hx_d_Model_tellEnd_24 : decode hx_c_Model_tellEnd 24 = .ok (.iconst 0, 1) := by decide +kernel
theorem hx_d_Model_tellEnd_25 : decode hx_c_Model_tellEnd 25 = .ok (.invokevirtual 200, 3) := by decide +kernel
theorem hx_d_Model_tellEnd_28 : decode hx_c_Model_tellEnd 28 = .ok (.aload_n 0, 1) := by decide +kernel
theorem hx_d_Model_tellEnd_29 : decode hx_c_Model_tellEnd 29 = .ok (.iconst 0, 1) := by decide +kernel
theorem hx_d_Model_tellEnd_30 : decode hx_c_Model_tellEnd 30 = .ok (.lconst 0, 1) := by decide +kernel
theorem hx_d_Model_tellEnd_31 : decode hx_c_Model_tellEnd 31 = .ok (.iconst 1, 1) := by decide +kernel
theorem hx_d_Model_tellEnd_32 : decode hx_c_Model_tellEnd 32 = .ok (.invokevirtual 213, 3) := by decide +kernel
theorem hx_d_Model_tellEnd_35 : decode hx_c_Model_tellEnd 35 = .ok (.aload_n 0, 1) := by decide +kernel
theorem hx_d_Model_tellEnd_36 : decode hx_c_Model_tellEnd 36 = .ok (.iconst 0, 1) := by decide +kernel
theorem hx_d_Model_tellEnd_37 : decode hx_c_Model_tellEnd 37 = .ok (.invokevirtual 200, 3) := by decide +kernel
theorem hx_d_Model_tellEnd_40 : decode hx_c_Model_tellEnd 40 = .ok (.return_, 1) := by decide +kernel
theorem hx_d_Model_give_0 : decode hx_c_Model_give 0 = .ok (.aload_n 0, 1) := by decide +kernel
theorem hx_d_Model_give_1 : decode hx_c_Model_give 1 = .ok (.getfield 179, 3) := by decide +kernel
theorem hx_d_Model_give_4 : decode hx_c_Model_give 4 = .ok (.sipush 12000, 3) := by decide +kernel
theorem hx_d_Model_give_7 : decode hx_c_Model_give 7 = .ok (.if_icmp .le 6, 3) := by decide +kernel
theorem hx_d_Model_give_10 : decode hx_c_Model_give 10 = .ok (.bipush (-2), 2) := by decide +kernel
theorem hx_d_Model_give_12 : decode hx_c_Model_give 12 = .ok (.ireturn, 1) := by decide +kernel
theorem hx_d_Model_give_13 : decode hx_c_Model_give 13 = .ok (.iconst 0, 1) := by decide +kernel
theorem hx_d_Model_give_14 : decode hx_c_Model_give 14 = .ok (.istore_n 1, 1) := by decide +kernel
theorem hx_d_Model_give_15 : decode hx_c_Model_give 15 = .ok (.iload_n 1, 1) := by decide +kernel
theorem hx_d_Model_give_16 : decode hx_c_Model_give 16 = .ok (.aload_n 0, 1) := by decide +kernel
theorem hx_d_Model_give_17 : decode hx_c_Model_give 17 = .ok (.getfield 179, 3) := by decide +kernel
theorem hx_d_Model_give_20 : decode hx_c_Model_give 20 = .ok (.if_icmp .ge 21, 3) := by decide +kernel
theorem hx_d_Model_give_23 : decode hx_c_Model_give 23 = .ok (.aload_n 0, 1) := by decide +kernel
theorem hx_d_Model_give_24 : decode hx_c_Model_give 24 = .ok (.getfield 37, 3) := by decide +kernel
theorem hx_d_Model_give_27 : decode hx_c_Model_give 27 = .ok (.iload_n 1, 1) := by decide +kernel
theorem hx_d_Model_give_28 : decode hx_c_Model_give 28 = .ok (.aload_n 0, 1) := by decide +kernel
theorem hx_d_Model_give_29 : decode hx_c_Model_give 29 = .ok (.getfield 40, 3) := by decide +kernel
theorem hx_d_Model_give_32 : decode hx_c_Model_give 32 = .ok (.iload_n 1, 1) := by decide +kernel
theorem hx_d_Model_give_33 : decode hx_c_Model_give 33 = .ok (.baload, 1) := by decide +kernel
theorem hx_d_Model_give_34 : decode hx_c_Model_give 34 = .ok (.bastore, 1) := by decide +kernel
theorem hx_d_Model_give_35 : decode hx_c_Model_give 35 = .ok (.iinc 1 1, 3) := by decide +kernel
theorem hx_d_Model_give_38 : decode hx_c_Model_give 38 = .ok (.goto (-23), 3) := by decide +kernel
theorem hx_d_Model_give_41 : decode hx_c_Model_give 41 = .ok (.aload_n 0, 1) := by decide +kernel
theorem hx_d_Model_give_42 : decode hx_c_Model_give 42 = .ok (.aload_n 0, 1) := by decide +kernel
theorem hx_d_Model_give_43 : decode hx_c_Model_give 43 = .ok (.getfield 179, 3) := by decide +kernel
theorem hx_d_Model_give_46 : decode hx_c_Model_give 46 = .ok (.putfield 176, 3) := by decide +kernel
theorem hx_d_Model_give_49 : decode hx_c_Model_give 49 = .ok (.aload_n 0, 1) := by decide +kernel
theorem hx_d_Model_give_50 : decode hx_c_Model_give 50 = .ok (.getfield 176, 3) := by decide +kernel
theorem hx_d_Model_give_53 : decode hx_c_Model_give 53 = .ok (.ireturn, 1) := by decide +kernel
theorem hx_d_Model_character_0 : decode hx_c_Model_character 0 = .ok (.aload_n 0, 1) := by decide +kernel
theorem hx_d_Model_character_1 : decode hx_c_Model_character 1 = .ok (.iconst 0, 1) := by decide +kernel
theorem hx_d_Model_character_2 : decode hx_c_Model_character 2 = .ok (.putfield 43, 3) := by decide +kernel
theorem hx_d_Model_character_5 : decode hx_c_Model_character 5 = .ok (.iload_n 1, 1) := by decide +kernel
theorem hx_d_Model_character_6 : decode hx_c_Model_character 6 = .ok (.ifCond .lt 20, 3) := by decide +kernel
theorem hx_d_Model_character_9 : decode hx_c_Model_character 9 = .ok (.iload_n 1, 1) := by decide +kernel
theorem hx_d_Model_character_10 : decode hx_c_Model_character 10 = .ok (.aload_n 0, 1) := by decide +kernel
theorem hx_d_Model_character_11 : decode hx_c_Model_character 11 = .ok (.getfield 176, 3) := by decide +kernel
theorem hx_d_Model_character_14 : decode hx_c_Model_character 14 = .ok (.if_icmp .ge 12, 3) := by decide +kernel
theorem hx_d_Model_character_17 : decode hx_c_Model_character 17 = .ok (.aload_n 0, 1) := by decide +kernel
theorem hx_d_Model_character_18 : decode hx_c_Model_character 18 = .ok (.getfield 37, 3) := by decide +kernel
theorem hx_d_Model_character_21 : decode hx_c_Model_character 21 = .ok (.iload_n 1, 1) := by decide +kernel
theorem hx_d_Model_character_22 : decode hx_c_Model_character 22 = .ok (.baload, 1) := by decide +kernel
theorem hx_d_Model_character_23 : decode hx_c_Model_character 23 = .ok (.goto 4, 3) := by decide +kernel
theorem hx_d_Model_character_26 : decode hx_c_Model_character 26 = .ok (.iconst (-1), 1) := by decide +kernel
theorem hx_d_Model_character_27 : decode hx_c_Model_character 27 = .ok (.ireturn, 1) := by decide +kernel
theorem hx_d_Model_check_0 : decode hx_c_Model_check 0 = .ok (.aload_n 0, 1) := by decide +kernel
theorem hx_d_Model_check_1 : decode hx_c_Model_check 1 = .ok (.iconst 0, 1) := by decide +kernel
theorem hx_d_Model_check_2 : decode hx_c_Model_check 2 = .ok (.putfield 43, 3) := by decide +kernel
theorem hx_d_Model_check_5 : decode hx_c_Model_check 5 = .ok (.iconst 1, 1) := by decide +kernel
theorem hx_d_Model_check_6 : decode hx_c_Model_check 6 = .ok (.ireturn, 1) := by decide +kernel
theorem hx_d_Law_law_0 : decode hx_c_Law_law 0 = .ok (.new 7, 3) := by decide +kernel
theorem hx_d_Law_law_3 : decode hx_c_Law_law 3 = .ok (.dup, 1) := by decide +kernel
theorem hx_d_Law_law_4 : decode hx_c_Law_law 4 = .ok (.invokespecial 9, 3) := by decide +kernel
theorem hx_d_Law_law_7 : decode hx_c_Law_law 7 = .ok (.astore_n 1, 1) := by decide +kernel
theorem hx_d_Law_law_8 : decode hx_c_Law_law 8 = .ok (.new 10, 3) := by decide +kernel
theorem hx_d_Law_law_11 : decode hx_c_Law_law 11 = .ok (.dup, 1) := by decide +kernel
theorem hx_d_Law_law_12 : decode hx_c_Law_law 12 = .ok (.invokespecial 12, 3) := by decide +kernel
theorem hx_d_Law_law_15 : decode hx_c_Law_law 15 = .ok (.astore_n 2, 1) := by decide +kernel
theorem hx_d_Law_law_16 : decode hx_c_Law_law 16 = .ok (.iconst 0, 1) := by decide +kernel
theorem hx_d_Law_law_17 : decode hx_c_Law_law 17 = .ok (.istore_n 3, 1) := by decide +kernel
theorem hx_d_Law_law_18 : decode hx_c_Law_law 18 = .ok (.iload_n 3, 1) := by decide +kernel
theorem hx_d_Law_law_19 : decode hx_c_Law_law 19 = .ok (.aload_n 0, 1) := by decide +kernel
theorem hx_d_Law_law_20 : decode hx_c_Law_law 20 = .ok (.arraylength, 1) := by decide +kernel
theorem hx_d_Law_law_21 : decode hx_c_Law_law 21 = .ok (.iconst 4, 1) := by decide +kernel
theorem hx_d_Law_law_22 : decode hx_c_Law_law 22 = .ok (.isub, 1) := by decide +kernel
theorem hx_d_Law_law_23 : decode hx_c_Law_law 23 = .ok (.if_icmp .gt 573, 3) := by decide +kernel
theorem hx_d_Law_law_26 : decode hx_c_Law_law 26 = .ok (.aload_n 0, 1) := by decide +kernel
theorem hx_d_Law_law_27 : decode hx_c_Law_law 27 = .ok (.iload_n 3, 1) := by decide +kernel
theorem hx_d_Law_law_28 : decode hx_c_Law_law 28 = .ok (.iaload, 1) := by decide +kernel
theorem hx_d_Law_law_29 : decode hx_c_Law_law 29 = .ok (.bipush 31, 2) := by decide +kernel
theorem hx_d_Law_law_31 : decode hx_c_Law_law 31 = .ok (.iand, 1) := by decide +kernel
theorem hx_d_Law_law_32 : decode hx_c_Law_law 32 = .ok (.tableswitch 558 0 16 #[84, 147, 170, 183, 216, 239, 262, 305, 348, 361, 394, 408, 431, 465, 489, 522, 545], 84) := by decide +kernel
theorem hx_d_Law_law_116 : decode hx_c_Law_law 116 = .ok (.aload_n 1, 1) := by decide +kernel
theorem hx_d_Law_law_117 : decode hx_c_Law_law 117 = .ok (.aload_n 0, 1) := by decide +kernel
theorem hx_d_Law_law_118 : decode hx_c_Law_law 118 = .ok (.iload_n 3, 1) := by decide +kernel
theorem hx_d_Law_law_119 : decode hx_c_Law_law 119 = .ok (.iconst 1, 1) := by decide +kernel
theorem hx_d_Law_law_120 : decode hx_c_Law_law 120 = .ok (.iadd, 1) := by decide +kernel
theorem hx_d_Law_law_121 : decode hx_c_Law_law 121 = .ok (.iaload, 1) := by decide +kernel
theorem hx_d_Law_law_122 : decode hx_c_Law_law 122 = .ok (.i2l, 1) := by decide +kernel
theorem hx_d_Law_law_123 : decode hx_c_Law_law 123 = .ok (.bipush 32, 2) := by decide +kernel
theorem hx_d_Law_law_125 : decode hx_c_Law_law 125 = .ok (.lshl, 1) := by decide +kernel
theorem hx_d_Law_law_126 : decode hx_c_Law_law 126 = .ok (.aload_n 0, 1) := by decide +kernel
theorem hx_d_Law_law_127 : decode hx_c_Law_law 127 = .ok (.iload_n 3, 1) := by decide +kernel
theorem hx_d_Law_law_128 : decode hx_c_Law_law 128 = .ok (.iconst 2, 1) := by decide +kernel
theorem hx_d_Law_law_129 : decode hx_c_Law_law 129 = .ok (.iadd, 1) := by decide +kernel
theorem hx_d_Law_law_130 : decode hx_c_Law_law 130 = .ok (.iaload, 1) := by decide +kernel
theorem hx_d_Law_law_131 : decode hx_c_Law_law 131 = .ok (.i2l, 1) := by decide +kernel
theorem hx_d_Law_law_132 : decode hx_c_Law_law 132 = .ok (.ldc2_w 13, 3) := by decide +kernel
theorem hx_d_Law_law_135 : decode hx_c_Law_law 135 = .ok (.land, 1) := by decide +kernel
theorem hx_d_Law_law_136 : decode hx_c_Law_law 136 = .ok (.lor, 1) := by decide +kernel
theorem hx_d_Law_law_137 : decode hx_c_Law_law 137 = .ok (.aload_n 0, 1) := by decide +kernel
theorem hx_d_Law_law_138 : decode hx_c_Law_law 138 = .ok (.iload_n 3, 1) := by decide +kernel
theorem hx_d_Law_law_139 : decode hx_c_Law_law 139 = .ok (.iconst 3, 1) := by decide +kernel
theorem hx_d_Law_law_140 : decode hx_c_Law_law 140 = .ok (.iadd, 1) := by decide +kernel
theorem hx_d_Law_law_141 : decode hx_c_Law_law 141 = .ok (.iaload, 1) := by decide +kernel
theorem hx_d_Law_law_142 : decode hx_c_Law_law 142 = .ok (.invokevirtual 15, 3) := by decide +kernel
theorem hx_d_Law_law_145 : decode hx_c_Law_law 145 = .ok (.aload_n 2, 1) := by decide +kernel
theorem hx_d_Law_law_146 : decode hx_c_Law_law 146 = .ok (.aload_n 0, 1) := by decide +kernel
theorem hx_d_Law_law_147 : decode hx_c_Law_law 147 = .ok (.iload_n 3, 1) := by decide +kernel
theorem hx_d_Law_law_148 : decode hx_c_Law_law 148 = .ok (.iconst 1, 1) := by decide +kernel
theorem hx_d_Law_law_149 : decode hx_c_Law_law 149 = .ok (.iadd, 1) := by decide +kernel
theorem hx_d_Law_law_150 : decode hx_c_Law_law 150 = .ok (.iaload, 1) := by decide +kernel
theorem hx_d_Law_law_151 : decode hx_c_Law_law 151 = .ok (.i2l, 1) := by decide +kernel
theorem hx_d_Law_law_152 : decode hx_c_Law_law 152 = .ok (.bipush 32, 2) := by decide +kernel
theorem hx_d_Law_law_154 : decode hx_c_Law_law 154 = .ok (.lshl, 1) := by decide +kernel
theorem hx_d_Law_law_155 : decode hx_c_Law_law 155 = .ok (.aload_n 0, 1) := by decide +kernel
theorem hx_d_Law_law_156 : decode hx_c_Law_law 156 = .ok (.iload_n 3, 1) := by decide +kernel
theorem hx_d_Law_law_157 : decode hx_c_Law_law 157 = .ok (.iconst 2, 1) := by decide +kernel
theorem hx_d_Law_law_158 : decode hx_c_Law_law 158 = .ok (.iadd, 1) := by decide +kernel
theorem hx_d_Law_law_159 : decode hx_c_Law_law 159 = .ok (.iaload, 1) := by decide +kernel
theorem hx_d_Law_law_160 : decode hx_c_Law_law 160 = .ok (.i2l, 1) := by decide +kernel
theorem hx_d_Law_law_161 : decode hx_c_Law_law 161 = .ok (.ldc2_w 13, 3) := by decide +kernel
theorem hx_d_Law_law_164 : decode hx_c_Law_law 164 = .ok (.land, 1) := by decide +kernel
theorem hx_d_Law_law_165 : decode hx_c_Law_law 165 = .ok (.lor, 1) := by decide +kernel
theorem hx_d_Law_law_166 : decode hx_c_Law_law 166 = .ok (.aload_n 0, 1) := by decide +kernel
theorem hx_d_Law_law_167 : decode hx_c_Law_law 167 = .ok (.iload_n 3, 1) := by decide +kernel
theorem hx_d_Law_law_168 : decode hx_c_Law_law 168 = .ok (.iconst 3, 1) := by decide +kernel
theorem hx_d_Law_law_169 : decode hx_c_Law_law 169 = .ok (.iadd, 1) := by decide +kernel
theorem hx_d_Law_law_170 : decode hx_c_Law_law 170 = .ok (.iaload, 1) := by decide +kernel
theorem hx_d_Law_law_171 : decode hx_c_Law_law 171 = .ok (.invokevirtual 19, 3) := by decide +kernel
theorem hx_d_Law_law_174 : decode hx_c_Law_law 174 = .ok (.if_icmp .eq 416, 3) := by decide +kernel
theorem hx_d_Law_law_177 : decode hx_c_Law_law 177 = .ok (.iconst 0, 1) := by decide +kernel
theorem hx_d_Law_law_178 : decode hx_c_Law_law 178 = .ok (.ireturn, 1) := by decide +kernel
theorem hx_d_Law_law_179 : decode hx_c_Law_law 179 = .ok (.aload_n 1, 1) := by decide +kernel
theorem hx_d_Law_law_180 : decode hx_c_Law_law 180 = .ok (.aload_n 0, 1) := by decide +kernel
theorem hx_d_Law_law_181 : decode hx_c_Law_law 181 = .ok (.iload_n 3, 1) := by decide +kernel
theorem hx_d_Law_law_182 : decode hx_c_Law_law 182 = .ok (.iconst 1, 1) := by decide +kernel
theorem hx_d_Law_law_183 : decode hx_c_Law_law 183 = .ok (.iadd, 1) := by decide +kernel
theorem hx_d_Law_law_184 : decode hx_c_Law_law 184 = .ok (.iaload, 1) := by decide +kernel
theorem hx_d_Law_law_185 : decode hx_c_Law_law 185 = .ok (.invokevirtual 20, 3) := by decide +kernel
theorem hx_d_Law_law_188 : decode hx_c_Law_law 188 = .ok (.aload_n 2, 1) := by decide +kernel
theorem hx_d_Law_law_189 : decode hx_c_Law_law 189 = .ok (.aload_n 0, 1) := by decide +kernel
theorem hx_d_Law_law_190 : decode hx_c_Law_law 190 = .ok (.iload_n 3, 1) := by decide +kernel
theorem hx_d_Law_law_191 : decode hx_c_Law_law 191 = .ok (.iconst 1, 1) := by decide +kernel
theorem hx_d_Law_law_192 : decode hx_c_Law_law 192 = .ok (.iadd, 1) := by decide +kernel
theorem hx_d_Law_law_193 : decode hx_c_Law_law 193 = .ok (.iaload, 1) := by decide +kernel
theorem hx_d_Law_law_194 : decode hx_c_Law_law 194 = .ok (.invokevirtual 24, 3) := by decide +kernel
theorem hx_d_Law_law_197 : decode hx_c_Law_law 197 = .ok (.if_icmp .eq 393, 3) := by decide +kernel
theorem hx_d_Law_law_200 : decode hx_c_Law_law 200 = .ok (.iconst 0, 1) := by decide +kernel
theorem hx_d_Law_law_201 : decode hx_c_Law_law 201 = .ok (.ireturn, 1) := by decide +kernel
theorem hx_d_Law_law_202 : decode hx_c_Law_law 202 = .ok (.aload_n 1, 1) := by decide +kernel
theorem hx_d_Law_law_203 : decode hx_c_Law_law 203 = .ok (.invokevirtual 25, 3) := by decide +kernel
theorem hx_d_Law_law_206 : decode hx_c_Law_law 206 = .ok (.aload_n 2, 1) := by decide +kernel
theorem hx_d_Law_law_207 : decode hx_c_Law_law 207 = .ok (.invokevirtual 29, 3) := by decide +kernel
theorem hx_d_Law_law_210 : decode hx_c_Law_law 210 = .ok (.if_icmp .eq 380, 3) := by decide +kernel
theorem hx_d_Law_law_213 : decode hx_c_Law_law 213 = .ok (.iconst 0, 1) := by decide +kernel
theorem hx_d_Law_law_214 : decode hx_c_Law_law 214 = .ok (.ireturn, 1) := by decide +kernel
theorem hx_d_Law_law_215 : decode hx_c_Law_law 215 = .ok (.aload_n 1, 1) := by decide +kernel
theorem hx_d_Law_law_216 : decode hx_c_Law_law 216 = .ok (.aload_n 0, 1) := by decide +kernel
theorem hx_d_Law_law_217 : decode hx_c_Law_law 217 = .ok (.iload_n 3, 1) := by decide +kernel
theorem hx_d_Law_law_218 : decode hx_c_Law_law 218 = .ok (.iconst 1, 1) := by decide +kernel
theorem hx_d_Law_law_219 : decode hx_c_Law_law 219 = .ok (.iadd, 1) := by decide +kernel
theorem hx_d_Law_law_220 : decode hx_c_Law_law 220 = .ok (.iaload, 1) := by decide +kernel
theorem hx_d_Law_law_221 : decode hx_c_Law_law 221 = .ok (.aload_n 0, 1) := by decide +kernel
theorem hx_d_Law_law_222 : decode hx_c_Law_law 222 = .ok (.iload_n 3, 1) := by decide +kernel
theorem hx_d_Law_law_223 : decode hx_c_Law_law 223 = .ok (.iconst 2, 1) := by decide +kernel
theorem hx_d_Law_law_224 : decode hx_c_Law_law 224 = .ok (.iadd, 1) := by decide +kernel
theorem hx_d_Law_law_225 : decode hx_c_Law_law 225 = .ok (.iaload, 1) := by decide +kernel
theorem hx_d_Law_law_226 : decode hx_c_Law_law 226 = .ok (.invokevirtual 30, 3) := by decide +kernel
theorem hx_d_Law_law_229 : decode hx_c_Law_law 229 = .ok (.aload_n 2, 1) := by decide +kernel
theorem hx_d_Law_law_230 : decode hx_c_Law_law 230 = .ok (.aload_n 0, 1) := by decide +kernel
theorem hx_d_Law_law_231 : decode hx_c_Law_law 231 = .ok (.iload_n 3, 1) := by decide +kernel
theorem hx_d_Law_law_232 : decode hx_c_Law_law 232 = .ok (.iconst 1, 1) := by decide +kernel
theorem hx_d_Law_law_233 : decode hx_c_Law_law 233 = .ok (.iadd, 1) := by decide +kernel
theorem hx_d_Law_law_234 : decode hx_c_Law_law 234 = .ok (.iaload, 1) := by decide +kernel
theorem hx_d_Law_law_235 : decode hx_c_Law_law 235 = .ok (.aload_n 0, 1) := by decide +kernel
theorem hx_d_Law_law_236 : decode hx_c_Law_law 236 = .ok (.iload_n 3, 1) := by decide +kernel
theorem hx_d_Law_law_237 : decode hx_c_Law_law 237 = .ok (.iconst 2, 1) := by decide +kernel
theorem hx_d_Law_law_238 : decode hx_c_Law_law 238 = .ok (.iadd, 1) := by decide +kernel
theorem hx_d_Law_law_239 : decode hx_c_Law_law 239 = .ok (.iaload, 1) := by decide +kernel
theorem hx_d_Law_law_240 : decode hx_c_Law_law 240 = .ok (.invokevirtual 34, 3) := by decide +kernel
theorem hx_d_Law_law_243 : decode hx_c_Law_law 243 = .ok (.if_icmp .eq 347, 3) := by decide +kernel
theorem hx_d_Law_law_246 : decode hx_c_Law_law 246 = .ok (.iconst 0, 1) := by decide +kernel
theorem hx_d_Law_law_247 : decode hx_c_Law_law 247 = .ok (.ireturn, 1) := by decide +kernel
theorem hx_d_Law_law_248 : decode hx_c_Law_law 248 = .ok (.aload_n 1, 1) := by decide +kernel
theorem hx_d_Law_law_249 : decode hx_c_Law_law 249 = .ok (.aload_n 0, 1) := by decide +kernel
theorem hx_d_Law_law_250 : decode hx_c_Law_law 250 = .ok (.iload_n 3, 1) := by decide +kernel
theorem hx_d_Law_law_251 : decode hx_c_Law_law 251 = .ok (.iconst 1, 1) := by decide +kernel
theorem hx_d_Law_law_252 : decode hx_c_Law_law 252 = .ok (.iadd, 1) := by decide +kernel
theorem hx_d_Law_law_253 : decode hx_c_Law_law 253 = .ok (.iaload, 1) := by decide +kernel
theorem hx_d_Law_law_254 : decode hx_c_Law_law 254 = .ok (.invokevirtual 35, 3) := by decide +kernel
theorem hx_d_Law_law_257 : decode hx_c_Law_law 257 = .ok (.aload_n 2, 1) := by decide +kernel
theorem hx_d_Law_law_258 : decode hx_c_Law_law 258 = .ok (.aload_n 0, 1) := by decide +kernel
theorem hx_d_Law_law_259 : decode hx_c_Law_law 259 = .ok (.iload_n 3, 1) := by decide +kernel
theorem hx_d_Law_law_260 : decode hx_c_Law_law 260 = .ok (.iconst 1, 1) := by decide +kernel
theorem hx_d_Law_law_261 : decode hx_c_Law_law 261 = .ok (.iadd, 1) := by decide +kernel
theorem hx_d_Law_law_262 : decode hx_c_Law_law 262 = .ok (.iaload, 1) := by decide +kernel
theorem hx_d_Law_law_263 : decode hx_c_Law_law 263 = .ok (.invokevirtual 38, 3) := by decide +kernel
theorem hx_d_Law_law_266 : decode hx_c_Law_law 266 = .ok (.if_icmp .eq 324, 3) := by decide +kernel
theorem hx_d_Law_law_269 : decode hx_c_Law_law 269 = .ok (.iconst 0, 1) := by decide +kernel
theorem hx_d_Law_law_270 : decode hx_c_Law_law 270 = .ok (.ireturn, 1) := by decide +kernel
theorem hx_d_Law_law_271 : decode hx_c_Law_law 271 = .ok (.aload_n 1, 1) := by decide +kernel
theorem hx_d_Law_law_272 : decode hx_c_Law_law 272 = .ok (.aload_n 0, 1) := by decide +kernel
theorem hx_d_Law_law_273 : decode hx_c_Law_law 273 = .ok (.iload_n 3, 1) := by decide +kernel
theorem hx_d_Law_law_274 : decode hx_c_Law_law 274 = .ok (.iconst 1, 1) := by decide +kernel
theorem hx_d_Law_law_275 : decode hx_c_Law_law 275 = .ok (.iadd, 1) := by decide +kernel
theorem hx_d_Law_law_276 : decode hx_c_Law_law 276 = .ok (.iaload, 1) := by decide +kernel
theorem hx_d_Law_law_277 : decode hx_c_Law_law 277 = .ok (.invokevirtual 39, 3) := by decide +kernel
theorem hx_d_Law_law_280 : decode hx_c_Law_law 280 = .ok (.aload_n 2, 1) := by decide +kernel
theorem hx_d_Law_law_281 : decode hx_c_Law_law 281 = .ok (.aload_n 0, 1) := by decide +kernel
theorem hx_d_Law_law_282 : decode hx_c_Law_law 282 = .ok (.iload_n 3, 1) := by decide +kernel
theorem hx_d_Law_law_283 : decode hx_c_Law_law 283 = .ok (.iconst 1, 1) := by decide +kernel
theorem hx_d_Law_law_284 : decode hx_c_Law_law 284 = .ok (.iadd, 1) := by decide +kernel
theorem hx_d_Law_law_285 : decode hx_c_Law_law 285 = .ok (.iaload, 1) := by decide +kernel
theorem hx_d_Law_law_286 : decode hx_c_Law_law 286 = .ok (.invokevirtual 42, 3) := by decide +kernel
theorem hx_d_Law_law_289 : decode hx_c_Law_law 289 = .ok (.if_icmp .eq 301, 3) := by decide +kernel
theorem hx_d_Law_law_292 : decode hx_c_Law_law 292 = .ok (.iconst 0, 1) := by decide +kernel
theorem hx_d_Law_law_293 : decode hx_c_Law_law 293 = .ok (.ireturn, 1) := by decide +kernel
theorem hx_d_Law_law_294 : decode hx_c_Law_law 294 = .ok (.aload_n 1, 1) := by decide +kernel
theorem hx_d_Law_law_295 : decode hx_c_Law_law 295 = .ok (.aload_n 0, 1) := by decide +kernel
theorem hx_d_Law_law_296 : decode hx_c_Law_law 296 = .ok (.iload_n 3, 1) := by decide +kernel
theorem hx_d_Law_law_297 : decode hx_c_Law_law 297 = .ok (.iconst 1, 1) := by decide +kernel
theorem hx_d_Law_law_298 : decode hx_c_Law_law 298 = .ok (.iadd, 1) := by decide +kernel
theorem hx_d_Law_law_299 : decode hx_c_Law_law 299 = .ok (.iaload, 1) := by decide +kernel
theorem hx_d_Law_law_300 : decode hx_c_Law_law 300 = .ok (.aload_n 0, 1) := by decide +kernel
theorem hx_d_Law_law_301 : decode hx_c_Law_law 301 = .ok (.iload_n 3, 1) := by decide +kernel
theorem hx_d_Law_law_302 : decode hx_c_Law_law 302 = .ok (.iconst 2, 1) := by decide +kernel
theorem hx_d_Law_law_303 : decode hx_c_Law_law 303 = .ok (.iadd, 1) := by decide +kernel
theorem hx_d_Law_law_304 : decode hx_c_Law_law 304 = .ok (.iaload, 1) := by decide +kernel
theorem hx_d_Law_law_305 : decode hx_c_Law_law 305 = .ok (.aload_n 0, 1) := by decide +kernel
theorem hx_d_Law_law_306 : decode hx_c_Law_law 306 = .ok (.iload_n 3, 1) := by decide +kernel
theorem hx_d_Law_law_307 : decode hx_c_Law_law 307 = .ok (.iconst 3, 1) := by decide +kernel
theorem hx_d_Law_law_308 : decode hx_c_Law_law 308 = .ok (.iadd, 1) := by decide +kernel
theorem hx_d_Law_law_309 : decode hx_c_Law_law 309 = .ok (.iaload, 1) := by decide +kernel
theorem hx_d_Law_law_310 : decode hx_c_Law_law 310 = .ok (.invokevirtual 43, 3) := by decide +kernel
theorem hx_d_Law_law_313 : decode hx_c_Law_law 313 = .ok (.aload_n 2, 1) := by decide +kernel
theorem hx_d_Law_law_314 : decode hx_c_Law_law 314 = .ok (.aload_n 0, 1) := by decide +kernel
theorem hx_d_Law_law_315 : decode hx_c_Law_law 315 = .ok (.iload_n 3, 1) := by decide +kernel
theorem hx_d_Law_law_316 : decode hx_c_Law_law 316 = .ok (.iconst 1, 1) := by decide +kernel
theorem hx_d_Law_law_317 : decode hx_c_Law_law 317 = .ok (.iadd, 1) := by decide +kernel
theorem hx_d_Law_law_318 : decode hx_c_Law_law 318 = .ok (.iaload, 1) := by decide +kernel
theorem hx_d_Law_law_319 : decode hx_c_Law_law 319 = .ok (.aload_n 0, 1) := by decide +kernel
theorem hx_d_Law_law_320 : decode hx_c_Law_law 320 = .ok (.iload_n 3, 1) := by decide +kernel
theorem hx_d_Law_law_321 : decode hx_c_Law_law 321 = .ok (.iconst 2, 1) := by decide +kernel
theorem hx_d_Law_law_322 : decode hx_c_Law_law 322 = .ok (.iadd, 1) := by decide +kernel
theorem hx_d_Law_law_323 : decode hx_c_Law_law 323 = .ok (.iaload, 1) := by decide +kernel
theorem hx_d_Law_law_324 : decode hx_c_Law_law 324 = .ok (.aload_n 0, 1) := by decide +kernel
theorem hx_d_Law_law_325 : decode hx_c_Law_law 325 = .ok (.iload_n 3, 1) := by decide +kernel
theorem hx_d_Law_law_326 : decode hx_c_Law_law 326 = .ok (.iconst 3, 1) := by decide +kernel
theorem hx_d_Law_law_327 : decode hx_c_Law_law 327 = .ok (.iadd, 1) := by decide +kernel
theorem hx_d_Law_law_328 : decode hx_c_Law_law 328 = .ok (.iaload, 1) := by decide +kernel
theorem hx_d_Law_law_329 : decode hx_c_Law_law 329 = .ok (.invokevirtual 47, 3) := by decide +kernel
theorem hx_d_Law_law_332 : decode hx_c_Law_law 332 = .ok (.if_icmp .eq 258, 3) := by decide +kernel
theorem hx_d_Law_law_335 : decode hx_c_Law_law 335 = .ok (.iconst 0, 1) := by decide +kernel
theorem hx_d_Law_law_336 : decode hx_c_Law_law 336 = .ok (.ireturn, 1) := by decide +kernel
theorem hx_d_Law_law_337 : decode hx_c_Law_law 337 = .ok (.aload_n 1, 1) := by decide +kernel
theorem hx_d_Law_law_338 : decode hx_c_Law_law 338 = .ok (.aload_n 0, 1) := by decide +kernel
theorem hx_d_Law_law_339 : decode hx_c_Law_law 339 = .ok (.iload_n 3, 1) := by decide +kernel
theorem hx_d_Law_law_340 : decode hx_c_Law_law 340 = .ok (.iconst 1, 1) := by decide +kernel
theorem hx_d_Law_law_341 : decode hx_c_Law_law 341 = .ok (.iadd, 1) := by decide +kernel
theorem hx_d_Law_law_342 : decode hx_c_Law_law 342 = .ok (.iaload, 1) := by decide +kernel
theorem hx_d_Law_law_343 : decode hx_c_Law_law 343 = .ok (.aload_n 0, 1) := by decide +kernel
theorem hx_d_Law_law_344 : decode hx_c_Law_law 344 = .ok (.iload_n 3, 1) := by decide +kernel
theorem hx_d_Law_law_345 : decode hx_c_Law_law 345 = .ok (.iconst 2, 1) := by decide +kernel
theorem hx_d_Law_law_346 : decode hx_c_Law_law 346 = .ok (.iadd, 1) := by decide +kernel
theorem hx_d_Law_law_347 : decode hx_c_Law_law 347 = .ok (.iaload, 1) := by decide +kernel
theorem hx_d_Law_law_348 : decode hx_c_Law_law 348 = .ok (.aload_n 0, 1) := by decide +kernel
theorem hx_d_Law_law_349 : decode hx_c_Law_law 349 = .ok (.iload_n 3, 1) := by decide +kernel
theorem hx_d_Law_law_350 : decode hx_c_Law_law 350 = .ok (.iconst 3, 1) := by decide +kernel
theorem hx_d_Law_law_351 : decode hx_c_Law_law 351 = .ok (.iadd, 1) := by decide +kernel
theorem hx_d_Law_law_352 : decode hx_c_Law_law 352 = .ok (.iaload, 1) := by decide +kernel
theorem hx_d_Law_law_353 : decode hx_c_Law_law 353 = .ok (.invokevirtual 48, 3) := by decide +kernel
theorem hx_d_Law_law_356 : decode hx_c_Law_law 356 = .ok (.aload_n 2, 1) := by decide +kernel
theorem hx_d_Law_law_357 : decode hx_c_Law_law 357 = .ok (.aload_n 0, 1) := by decide +kernel
theorem hx_d_Law_law_358 : decode hx_c_Law_law 358 = .ok (.iload_n 3, 1) := by decide +kernel
theorem hx_d_Law_law_359 : decode hx_c_Law_law 359 = .ok (.iconst 1, 1) := by decide +kernel
theorem hx_d_Law_law_360 : decode hx_c_Law_law 360 = .ok (.iadd, 1) := by decide +kernel
theorem hx_d_Law_law_361 : decode hx_c_Law_law 361 = .ok (.iaload, 1) := by decide +kernel
theorem hx_d_Law_law_362 : decode hx_c_Law_law 362 = .ok (.aload_n 0, 1) := by decide +kernel
theorem hx_d_Law_law_363 : decode hx_c_Law_law 363 = .ok (.iload_n 3, 1) := by decide +kernel
theorem hx_d_Law_law_364 : decode hx_c_Law_law 364 = .ok (.iconst 2, 1) := by decide +kernel
theorem hx_d_Law_law_365 : decode hx_c_Law_law 365 = .ok (.iadd, 1) := by decide +kernel
theorem hx_d_Law_law_366 : decode hx_c_Law_law 366 = .ok (.iaload, 1) := by decide +kernel
theorem hx_d_Law_law_367 : decode hx_c_Law_law 367 = .ok (.aload_n 0, 1) := by decide +kernel
theorem hx_d_Law_law_368 : decode hx_c_Law_law 368 = .ok (.iload_n 3, 1) := by decide +kernel
theorem hx_d_Law_law_369 : decode hx_c_Law_law 369 = .ok (.iconst 3, 1) := by decide +kernel
theorem hx_d_Law_law_370 : decode hx_c_Law_law 370 = .ok (.iadd, 1) := by decide +kernel
theorem hx_d_Law_law_371 : decode hx_c_Law_law 371 = .ok (.iaload, 1) := by decide +kernel
theorem hx_d_Law_law_372 : decode hx_c_Law_law 372 = .ok (.invokevirtual 51, 3) := by decide +kernel
theorem hx_d_Law_law_375 : decode hx_c_Law_law 375 = .ok (.if_icmp .eq 215, 3) := by decide +kernel
theorem hx_d_Law_law_378 : decode hx_c_Law_law 378 = .ok (.iconst 0, 1) := by decide +kernel
theorem hx_d_Law_law_379 : decode hx_c_Law_law 379 = .ok (.ireturn, 1) := by decide +kernel
theorem hx_d_Law_law_380 : decode hx_c_Law_law 380 = .ok (.aload_n 1, 1) := by decide +kernel
theorem hx_d_Law_law_381 : decode hx_c_Law_law 381 = .ok (.invokevirtual 52, 3) := by decide +kernel
theorem hx_d_Law_law_384 : decode hx_c_Law_law 384 = .ok (.aload_n 2, 1) := by decide +kernel
theorem hx_d_Law_law_385 : decode hx_c_Law_law 385 = .ok (.invokevirtual 55, 3) := by decide +kernel
theorem hx_d_Law_law_388 : decode hx_c_Law_law 388 = .ok (.if_icmp .eq 202, 3) := by decide +kernel
theorem hx_d_Law_law_391 : decode hx_c_Law_law 391 = .ok (.iconst 0, 1) := by decide +kernel
theorem hx_d_Law_law_392 : decode hx_c_Law_law 392 = .ok (.ireturn, 1) := by decide +kernel
theorem hx_d_Law_law_393 : decode hx_c_Law_law 393 = .ok (.aload_n 1, 1) := by decide +kernel
theorem hx_d_Law_law_394 : decode hx_c_Law_law 394 = .ok (.aload_n 0, 1) := by decide +kernel
theorem hx_d_Law_law_395 : decode hx_c_Law_law 395 = .ok (.iload_n 3, 1) := by decide +kernel
theorem hx_d_Law_law_396 : decode hx_c_Law_law 396 = .ok (.iconst 1, 1) := by decide +kernel
theorem hx_d_Law_law_397 : decode hx_c_Law_law 397 = .ok (.iadd, 1) := by decide +kernel
theorem hx_d_Law_law_398 : decode hx_c_Law_law 398 = .ok (.iaload, 1) := by decide +kernel
theorem hx_d_Law_law_399 : decode hx_c_Law_law 399 = .ok (.aload_n 0, 1) := by decide +kernel
theorem hx_d_Law_law_400 : decode hx_c_Law_law 400 = .ok (.iload_n 3, 1) := by decide +kernel
theorem hx_d_Law_law_401 : decode hx_c_Law_law 401 = .ok (.iconst 2, 1) := by decide +kernel
theorem hx_d_Law_law_402 : decode hx_c_Law_law 402 = .ok (.iadd, 1) := by decide +kernel
theorem hx_d_Law_law_403 : decode hx_c_Law_law 403 = .ok (.iaload, 1) := by decide +kernel
theorem hx_d_Law_law_404 : decode hx_c_Law_law 404 = .ok (.invokevirtual 56, 3) := by decide +kernel
theorem hx_d_Law_law_407 : decode hx_c_Law_law 407 = .ok (.aload_n 2, 1) := by decide +kernel
theorem hx_d_Law_law_408 : decode hx_c_Law_law 408 = .ok (.aload_n 0, 1) := by decide +kernel
theorem hx_d_Law_law_409 : decode hx_c_Law_law 409 = .ok (.iload_n 3, 1) := by decide +kernel
theorem hx_d_Law_law_410 : decode hx_c_Law_law 410 = .ok (.iconst 1, 1) := by decide +kernel
theorem hx_d_Law_law_411 : decode hx_c_Law_law 411 = .ok (.iadd, 1) := by decide +kernel
theorem hx_d_Law_law_412 : decode hx_c_Law_law 412 = .ok (.iaload, 1) := by decide +kernel
theorem hx_d_Law_law_413 : decode hx_c_Law_law 413 = .ok (.aload_n 0, 1) := by decide +kernel
theorem hx_d_Law_law_414 : decode hx_c_Law_law 414 = .ok (.iload_n 3, 1) := by decide +kernel
theorem hx_d_Law_law_415 : decode hx_c_Law_law 415 = .ok (.iconst 2, 1) := by decide +kernel
theorem hx_d_Law_law_416 : decode hx_c_Law_law 416 = .ok (.iadd, 1) := by decide +kernel
theorem hx_d_Law_law_417 : decode hx_c_Law_law 417 = .ok (.iaload, 1) := by decide +kernel
theorem hx_d_Law_law_418 : decode hx_c_Law_law 418 = .ok (.invokevirtual 59, 3) := by decide +kernel
theorem hx_d_Law_law_421 : decode hx_c_Law_law 421 = .ok (.if_icmp .eq 169, 3) := by decide +kernel
theorem hx_d_Law_law_424 : decode hx_c_Law_law 424 = .ok (.iconst 0, 1) := by decide +kernel
theorem hx_d_Law_law_425 : decode hx_c_Law_law 425 = .ok (.ireturn, 1) := by decide +kernel
theorem hx_d_Law_law_426 : decode hx_c_Law_law 426 = .ok (.aload_n 1, 1) := by decide +kernel
theorem hx_d_Law_law_427 : decode hx_c_Law_law 427 = .ok (.invokevirtual 60, 3) := by decide +kernel
theorem hx_d_Law_law_430 : decode hx_c_Law_law 430 = .ok (.aload_n 2, 1) := by decide +kernel
theorem hx_d_Law_law_431 : decode hx_c_Law_law 431 = .ok (.invokevirtual 64, 3) := by decide +kernel
theorem hx_d_Law_law_434 : decode hx_c_Law_law 434 = .ok (.lcmp, 1) := by decide +kernel
theorem hx_d_Law_law_435 : decode hx_c_Law_law 435 = .ok (.ifCond .eq 155, 3) := by decide +kernel
theorem hx_d_Law_law_438 : decode hx_c_Law_law 438 = .ok (.iconst 0, 1) := by decide +kernel
theorem hx_d_Law_law_439 : decode hx_c_Law_law 439 = .ok (.ireturn, 1) := by decide +kernel
theorem hx_d_Law_law_440 : decode hx_c_Law_law 440 = .ok (.aload_n 1, 1) := by decide +kernel
theorem hx_d_Law_law_441 : decode hx_c_Law_law 441 = .ok (.aload_n 0, 1) := by decide +kernel
theorem hx_d_Law_law_442 : decode hx_c_Law_law 442 = .ok (.iload_n 3, 1) := by decide +kernel
theorem hx_d_Law_law_443 : decode hx_c_Law_law 443 = .ok (.iconst 1, 1) := by decide +kernel
theorem hx_d_Law_law_444 : decode hx_c_Law_law 444 = .ok (.iadd, 1) := by decide +kernel
theorem hx_d_Law_law_445 : decode hx_c_Law_law 445 = .ok (.iaload, 1) := by decide +kernel
theorem hx_d_Law_law_446 : decode hx_c_Law_law 446 = .ok (.invokevirtual 65, 3) := by decide +kernel
theorem hx_d_Law_law_449 : decode hx_c_Law_law 449 = .ok (.aload_n 2, 1) := by decide +kernel
theorem hx_d_Law_law_450 : decode hx_c_Law_law 450 = .ok (.aload_n 0, 1) := by decide +kernel
theorem hx_d_Law_law_451 : decode hx_c_Law_law 451 = .ok (.iload_n 3, 1) := by decide +kernel
theorem hx_d_Law_law_452 : decode hx_c_Law_law 452 = .ok (.iconst 1, 1) := by decide +kernel
theorem hx_d_Law_law_453 : decode hx_c_Law_law 453 = .ok (.iadd, 1) := by decide +kernel
theorem hx_d_Law_law_454 : decode hx_c_Law_law 454 = .ok (.iaload, 1) := by decide +kernel
theorem hx_d_Law_law_455 : decode hx_c_Law_law 455 = .ok (.invokevirtual 68, 3) := by decide +kernel
theorem hx_d_Law_law_458 : decode hx_c_Law_law 458 = .ok (.if_icmp .eq 132, 3) := by decide +kernel
theorem hx_d_Law_law_461 : decode hx_c_Law_law 461 = .ok (.iconst 0, 1) := by decide +kernel
theorem hx_d_Law_law_462 : decode hx_c_Law_law 462 = .ok (.ireturn, 1) := by decide +kernel
theorem hx_d_Law_law_463 : decode hx_c_Law_law 463 = .ok (.aload_n 1, 1) := by decide +kernel
theorem hx_d_Law_law_464 : decode hx_c_Law_law 464 = .ok (.aload_n 0, 1) := by decide +kernel
theorem hx_d_Law_law_465 : decode hx_c_Law_law 465 = .ok (.iload_n 3, 1) := by decide +kernel
theorem hx_d_Law_law_466 : decode hx_c_Law_law 466 = .ok (.iconst 1, 1) := by decide +kernel
theorem hx_d_Law_law_467 : decode hx_c_Law_law 467 = .ok (.iadd, 1) := by decide +kernel
theorem hx_d_Law_law_468 : decode hx_c_Law_law 468 = .ok (.iaload, 1) := by decide +kernel
theorem hx_d_Law_law_469 : decode hx_c_Law_law 469 = .ok (.aload_n 0, 1) := by decide +kernel
theorem hx_d_Law_law_470 : decode hx_c_Law_law 470 = .ok (.iload_n 3, 1) := by decide +kernel
theorem hx_d_Law_law_471 : decode hx_c_Law_law 471 = .ok (.iconst 2, 1) := by decide +kernel
theorem hx_d_Law_law_472 : decode hx_c_Law_law 472 = .ok (.iadd, 1) := by decide +kernel
theorem hx_d_Law_law_473 : decode hx_c_Law_law 473 = .ok (.iaload, 1) := by decide +kernel
theorem hx_d_Law_law_474 : decode hx_c_Law_law 474 = .ok (.invokevirtual 69, 3) := by decide +kernel
theorem hx_d_Law_law_477 : decode hx_c_Law_law 477 = .ok (.aload_n 2, 1) := by decide +kernel
theorem hx_d_Law_law_478 : decode hx_c_Law_law 478 = .ok (.aload_n 0, 1) := by decide +kernel
theorem hx_d_Law_law_479 : decode hx_c_Law_law 479 = .ok (.iload_n 3, 1) := by decide +kernel
theorem hx_d_Law_law_480 : decode hx_c_Law_law 480 = .ok (.iconst 1, 1) := by decide +kernel
theorem hx_d_Law_law_481 : decode hx_c_Law_law 481 = .ok (.iadd, 1) := by decide +kernel
theorem hx_d_Law_law_482 : decode hx_c_Law_law 482 = .ok (.iaload, 1) := by decide +kernel
theorem hx_d_Law_law_483 : decode hx_c_Law_law 483 = .ok (.aload_n 0, 1) := by decide +kernel
theorem hx_d_Law_law_484 : decode hx_c_Law_law 484 = .ok (.iload_n 3, 1) := by decide +kernel
theorem hx_d_Law_law_485 : decode hx_c_Law_law 485 = .ok (.iconst 2, 1) := by decide +kernel
theorem hx_d_Law_law_486 : decode hx_c_Law_law 486 = .ok (.iadd, 1) := by decide +kernel
theorem hx_d_Law_law_487 : decode hx_c_Law_law 487 = .ok (.iaload, 1) := by decide +kernel
theorem hx_d_Law_law_488 : decode hx_c_Law_law 488 = .ok (.invokevirtual 73, 3) := by decide +kernel
theorem hx_d_Law_law_491 : decode hx_c_Law_law 491 = .ok (.lcmp, 1) := by decide +kernel
theorem hx_d_Law_law_492 : decode hx_c_Law_law 492 = .ok (.ifCond .eq 98, 3) := by decide +kernel
theorem hx_d_Law_law_495 : decode hx_c_Law_law 495 = .ok (.iconst 0, 1) := by decide +kernel
theorem hx_d_Law_law_496 : decode hx_c_Law_law 496 = .ok (.ireturn, 1) := by decide +kernel
theorem hx_d_Law_law_497 : decode hx_c_Law_law 497 = .ok (.aload_n 1, 1) := by decide +kernel
theorem hx_d_Law_law_498 : decode hx_c_Law_law 498 = .ok (.aload_n 0, 1) := by decide +kernel
theorem hx_d_Law_law_499 : decode hx_c_Law_law 499 = .ok (.iload_n 3, 1) := by decide +kernel
theorem hx_d_Law_law_500 : decode hx_c_Law_law 500 = .ok (.iconst 1, 1) := by decide +kernel
theorem hx_d_Law_law_501 : decode hx_c_Law_law 501 = .ok (.iadd, 1) := by decide +kernel
theorem hx_d_Law_law_502 : decode hx_c_Law_law 502 = .ok (.iaload, 1) := by decide +kernel
theorem hx_d_Law_law_503 : decode hx_c_Law_law 503 = .ok (.invokevirtual 74, 3) := by decide +kernel
theorem hx_d_Law_law_506 : decode hx_c_Law_law 506 = .ok (.aload_n 2, 1) := by decide +kernel
theorem hx_d_Law_law_507 : decode hx_c_Law_law 507 = .ok (.aload_n 0, 1) := by decide +kernel
theorem hx_d_Law_law_508 : decode hx_c_Law_law 508 = .ok (.iload_n 3, 1) := by decide +kernel
theorem hx_d_Law_law_509 : decode hx_c_Law_law 509 = .ok (.iconst 1, 1) := by decide +kernel
theorem hx_d_Law_law_510 : decode hx_c_Law_law 510 = .ok (.iadd, 1) := by decide +kernel
theorem hx_d_Law_law_511 : decode hx_c_Law_law 511 = .ok (.iaload, 1) := by decide +kernel
theorem hx_d_Law_law_512 : decode hx_c_Law_law 512 = .ok (.invokevirtual 78, 3) := by decide +kernel
theorem hx_d_Law_law_515 : decode hx_c_Law_law 515 = .ok (.lcmp, 1) := by decide +kernel
theorem hx_d_Law_law_516 : decode hx_c_Law_law 516 = .ok (.ifCond .eq 74, 3) := by decide +kernel
theorem hx_d_Law_law_519 : decode hx_c_Law_law 519 = .ok (.iconst 0, 1) := by decide +kernel
theorem hx_d_Law_law_520 : decode hx_c_Law_law 520 = .ok (.ireturn, 1) := by decide +kernel
theorem hx_d_Law_law_521 : decode hx_c_Law_law 521 = .ok (.aload_n 1, 1) := by decide +kernel
theorem hx_d_Law_law_522 : decode hx_c_Law_law 522 = .ok (.aload_n 0, 1) := by decide +kernel
theorem hx_d_Law_law_523 : decode hx_c_Law_law 523 = .ok (.iload_n 3, 1) := by decide +kernel
theorem hx_d_Law_law_524 : decode hx_c_Law_law 524 = .ok (.iconst 1, 1) := by decide +kernel
theorem hx_d_Law_law_525 : decode hx_c_Law_law 525 = .ok (.iadd, 1) := by decide +kernel
theorem hx_d_Law_law_526 : decode hx_c_Law_law 526 = .ok (.iaload, 1) := by decide +kernel
theorem hx_d_Law_law_527 : decode hx_c_Law_law 527 = .ok (.aload_n 0, 1) := by decide +kernel
theorem hx_d_Law_law_528 : decode hx_c_Law_law 528 = .ok (.iload_n 3, 1) := by decide +kernel
theorem hx_d_Law_law_529 : decode hx_c_Law_law 529 = .ok (.iconst 2, 1) := by decide +kernel
theorem hx_d_Law_law_530 : decode hx_c_Law_law 530 = .ok (.iadd, 1) := by decide +kernel
theorem hx_d_Law_law_531 : decode hx_c_Law_law 531 = .ok (.iaload, 1) := by decide +kernel
theorem hx_d_Law_law_532 : decode hx_c_Law_law 532 = .ok (.invokevirtual 79, 3) := by decide +kernel
theorem hx_d_Law_law_535 : decode hx_c_Law_law 535 = .ok (.aload_n 2, 1) := by decide +kernel
theorem hx_d_Law_law_536 : decode hx_c_Law_law 536 = .ok (.aload_n 0, 1) := by decide +kernel
theorem hx_d_Law_law_537 : decode hx_c_Law_law 537 = .ok (.iload_n 3, 1) := by decide +kernel
theorem hx_d_Law_law_538 : decode hx_c_Law_law 538 = .ok (.iconst 1, 1) := by decide +kernel
theorem hx_d_Law_law_539 : decode hx_c_Law_law 539 = .ok (.iadd, 1) := by decide +kernel
theorem hx_d_Law_law_540 : decode hx_c_Law_law 540 = .ok (.iaload, 1) := by decide +kernel
theorem hx_d_Law_law_541 : decode hx_c_Law_law 541 = .ok (.aload_n 0, 1) := by decide +kernel
theorem hx_d_Law_law_542 : decode hx_c_Law_law 542 = .ok (.iload_n 3, 1) := by decide +kernel
theorem hx_d_Law_law_543 : decode hx_c_Law_law 543 = .ok (.iconst 2, 1) := by decide +kernel
theorem hx_d_Law_law_544 : decode hx_c_Law_law 544 = .ok (.iadd, 1) := by decide +kernel
theorem hx_d_Law_law_545 : decode hx_c_Law_law 545 = .ok (.iaload, 1) := by decide +kernel
theorem hx_d_Law_law_546 : decode hx_c_Law_law 546 = .ok (.invokevirtual 82, 3) := by decide +kernel
theorem hx_d_Law_law_549 : decode hx_c_Law_law 549 = .ok (.if_icmp .eq 41, 3) := by decide +kernel
theorem hx_d_Law_law_552 : decode hx_c_Law_law 552 = .ok (.iconst 0, 1) := by decide +kernel
theorem hx_d_Law_law_553 : decode hx_c_Law_law 553 = .ok (.ireturn, 1) := by decide +kernel
theorem hx_d_Law_law_554 : decode hx_c_Law_law 554 = .ok (.aload_n 1, 1) := by decide +kernel
theorem hx_d_Law_law_555 : decode hx_c_Law_law 555 = .ok (.aload_n 0, 1) := by decide +kernel
theorem hx_d_Law_law_556 : decode hx_c_Law_law 556 = .ok (.iload_n 3, 1) := by decide +kernel
theorem hx_d_Law_law_557 : decode hx_c_Law_law 557 = .ok (.iconst 1, 1) := by decide +kernel
theorem hx_d_Law_law_558 : decode hx_c_Law_law 558 = .ok (.iadd, 1) := by decide +kernel
theorem hx_d_Law_law_559 : decode hx_c_Law_law 559 = .ok (.iaload, 1) := by decide +kernel
theorem hx_d_Law_law_560 : decode hx_c_Law_law 560 = .ok (.invokevirtual 83, 3) := by decide +kernel
theorem hx_d_Law_law_563 : decode hx_c_Law_law 563 = .ok (.aload_n 2, 1) := by decide +kernel
theorem hx_d_Law_law_564 : decode hx_c_Law_law 564 = .ok (.aload_n 0, 1) := by decide +kernel
theorem hx_d_Law_law_565 : decode hx_c_Law_law 565 = .ok (.iload_n 3, 1) := by decide +kernel
theorem hx_d_Law_law_566 : decode hx_c_Law_law 566 = .ok (.iconst 1, 1) := by decide +kernel
theorem hx_d_Law_law_567 : decode hx_c_Law_law 567 = .ok (.iadd, 1) := by decide +kernel
theorem hx_d_Law_law_568 : decode hx_c_Law_law 568 = .ok (.iaload, 1) := by decide +kernel
theorem hx_d_Law_law_569 : decode hx_c_Law_law 569 = .ok (.invokevirtual 86, 3) := by decide +kernel
theorem hx_d_Law_law_572 : decode hx_c_Law_law 572 = .ok (.if_icmp .eq 18, 3) := by decide +kernel
theorem hx_d_Law_law_575 : decode hx_c_Law_law 575 = .ok (.iconst 0, 1) := by decide +kernel
theorem hx_d_Law_law_576 : decode hx_c_Law_law 576 = .ok (.ireturn, 1) := by decide +kernel
theorem hx_d_Law_law_577 : decode hx_c_Law_law 577 = .ok (.aload_n 1, 1) := by decide +kernel
theorem hx_d_Law_law_578 : decode hx_c_Law_law 578 = .ok (.invokevirtual 87, 3) := by decide +kernel
theorem hx_d_Law_law_581 : decode hx_c_Law_law 581 = .ok (.aload_n 2, 1) := by decide +kernel
theorem hx_d_Law_law_582 : decode hx_c_Law_law 582 = .ok (.invokevirtual 90, 3) := by decide +kernel
theorem hx_d_Law_law_585 : decode hx_c_Law_law 585 = .ok (.if_icmp .eq 5, 3) := by decide +kernel
theorem hx_d_Law_law_588 : decode hx_c_Law_law 588 = .ok (.iconst 0, 1) := by decide +kernel
theorem hx_d_Law_law_589 : decode hx_c_Law_law 589 = .ok (.ireturn, 1) := by decide +kernel
theorem hx_d_Law_law_590 : decode hx_c_Law_law 590 = .ok (.iinc 3 4, 3) := by decide +kernel
theorem hx_d_Law_law_593 : decode hx_c_Law_law 593 = .ok (.goto (-575), 3) := by decide +kernel
theorem hx_d_Law_law_596 : decode hx_c_Law_law 596 = .ok (.iconst 1, 1) := by decide +kernel
theorem hx_d_Law_law_597 : decode hx_c_Law_law 597 = .ok (.ireturn, 1) := by decide +kernel
