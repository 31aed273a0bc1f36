theorem dX0_init_0 : decode cX0_init 0 = .ok (.aload_n 0, 1) := by decide +kernel
theorem dX0_init_1 : decode cX0_init 1 = .ok (.invokespecial 3, 3) := by decide +kernel
theorem dX0_init_4 : decode cX0_init 4 = .ok (.aload_n 0, 1) := by decide +kernel
theorem dX0_init_5 : decode cX0_init 5 = .ok (.bipush 20, 2) := by decide +kernel
theorem dX0_init_7 : decode cX0_init 7 = .ok (.newarray .int, 2) := by decide +kernel
theorem dX0_init_9 : decode cX0_init 9 = .ok (.putfield 9, 3) := by decide +kernel
theorem dX0_init_12 : decode cX0_init 12 = .ok (.aload_n 0, 1) := by decide +kernel
theorem dX0_init_13 : decode cX0_init 13 = .ok (.bipush 60, 2) := by decide +kernel
theorem dX0_init_15 : decode cX0_init 15 = .ok (.newarray .int, 2) := by decide +kernel
theorem dX0_init_17 : decode cX0_init 17 = .ok (.putfield 15, 3) := by decide +kernel
theorem dX0_init_20 : decode cX0_init 20 = .ok (.return_, 1) := by decide +kernel
theorem dX0_signOf_0 : decode cX0_signOf 0 = .ok (.iload_n 1, 1) := by decide +kernel
theorem dX0_signOf_1 : decode cX0_signOf 1 = .ok (.ifCond .lt 18, 3) := by decide +kernel
theorem dX0_signOf_4 : decode cX0_signOf 4 = .ok (.iload_n 1, 1) := by decide +kernel
theorem dX0_signOf_5 : decode cX0_signOf 5 = .ok (.bipush 20, 2) := by decide +kernel
theorem dX0_signOf_7 : decode cX0_signOf 7 = .ok (.if_icmp .ge 12, 3) := by decide +kernel
theorem dX0_signOf_10 : decode cX0_signOf 10 = .ok (.aload_n 0, 1) := by decide +kernel
theorem dX0_signOf_11 : decode cX0_signOf 11 = .ok (.getfield 9, 3) := by decide +kernel
theorem dX0_signOf_14 : decode cX0_signOf 14 = .ok (.iload_n 1, 1) := by decide +kernel
theorem dX0_signOf_15 : decode cX0_signOf 15 = .ok (.iaload, 1) := by decide +kernel
theorem dX0_signOf_16 : decode cX0_signOf 16 = .ok (.goto 5, 3) := by decide +kernel
theorem dX0_signOf_19 : decode cX0_signOf 19 = .ok (.bipush (-11), 2) := by decide +kernel
theorem dX0_signOf_21 : decode cX0_signOf 21 = .ok (.ireturn, 1) := by decide +kernel
theorem dX0_numberOf_0 : decode cX0_numberOf 0 = .ok (.iload_n 1, 1) := by decide +kernel
theorem dX0_numberOf_1 : decode cX0_numberOf 1 = .ok (.iconst 3, 1) := by decide +kernel
theorem dX0_numberOf_2 : decode cX0_numberOf 2 = .ok (.imul, 1) := by decide +kernel
theorem dX0_numberOf_3 : decode cX0_numberOf 3 = .ok (.iload_n 2, 1) := by decide +kernel
theorem dX0_numberOf_4 : decode cX0_numberOf 4 = .ok (.iadd, 1) := by decide +kernel
theorem dX0_numberOf_5 : decode cX0_numberOf 5 = .ok (.istore_n 3, 1) := by decide +kernel
theorem dX0_numberOf_6 : decode cX0_numberOf 6 = .ok (.iload_n 1, 1) := by decide +kernel
theorem dX0_numberOf_7 : decode cX0_numberOf 7 = .ok (.ifCond .lt 27, 3) := by decide +kernel
theorem dX0_numberOf_10 : decode cX0_numberOf 10 = .ok (.iload_n 1, 1) := by decide +kernel
theorem dX0_numberOf_11 : decode cX0_numberOf 11 = .ok (.bipush 20, 2) := by decide +kernel
theorem dX0_numberOf_13 : decode cX0_numberOf 13 = .ok (.if_icmp .ge 21, 3) := by decide +kernel
theorem dX0_numberOf_16 : decode cX0_numberOf 16 = .ok (.iload_n 2, 1) := by decide +kernel
theorem dX0_numberOf_17 : decode cX0_numberOf 17 = .ok (.ifCond .lt 17, 3) := by decide +kernel
theorem dX0_numberOf_20 : decode cX0_numberOf 20 = .ok (.iload_n 2, 1) := by decide +kernel
theorem dX0_numberOf_21 : decode cX0_numberOf 21 = .ok (.iconst 3, 1) := by decide +kernel
theorem dX0_numberOf_22 : decode cX0_numberOf 22 = .ok (.if_icmp .ge 12, 3) := by decide +kernel
theorem dX0_numberOf_25 : decode cX0_numberOf 25 = .ok (.aload_n 0, 1) := by decide +kernel
theorem dX0_numberOf_26 : decode cX0_numberOf 26 = .ok (.getfield 15, 3) := by decide +kernel
theorem dX0_numberOf_29 : decode cX0_numberOf 29 = .ok (.iload_n 3, 1) := by decide +kernel
theorem dX0_numberOf_30 : decode cX0_numberOf 30 = .ok (.iaload, 1) := by decide +kernel
theorem dX0_numberOf_31 : decode cX0_numberOf 31 = .ok (.goto 5, 3) := by decide +kernel
theorem dX0_numberOf_34 : decode cX0_numberOf 34 = .ok (.bipush (-11), 2) := by decide +kernel
theorem dX0_numberOf_36 : decode cX0_numberOf 36 = .ok (.ireturn, 1) := by decide +kernel
theorem dX0_read_0 : decode cX0_read 0 = .ok (.aload_n 0, 1) := by decide +kernel
theorem dX0_read_1 : decode cX0_read 1 = .ok (.iconst 0, 1) := by decide +kernel
theorem dX0_read_2 : decode cX0_read 2 = .ok (.putfield 18, 3) := by decide +kernel
theorem dX0_read_5 : decode cX0_read 5 = .ok (.aload_n 0, 1) := by decide +kernel
theorem dX0_read_6 : decode cX0_read 6 = .ok (.iconst 0, 1) := by decide +kernel
theorem dX0_read_7 : decode cX0_read 7 = .ok (.putfield 22, 3) := by decide +kernel
theorem dX0_read_10 : decode cX0_read 10 = .ok (.iconst 1, 1) := by decide +kernel
theorem dX0_read_11 : decode cX0_read 11 = .ok (.istore_n 2, 1) := by decide +kernel
theorem dX0_read_12 : decode cX0_read 12 = .ok (.iconst 0, 1) := by decide +kernel
theorem dX0_read_13 : decode cX0_read 13 = .ok (.istore_n 3, 1) := by decide +kernel
theorem dX0_read_14 : decode cX0_read 14 = .ok (.iload_n 3, 1) := by decide +kernel
theorem dX0_read_15 : decode cX0_read 15 = .ok (.bipush 20, 2) := by decide +kernel
theorem dX0_read_17 : decode cX0_read 17 = .ok (.if_icmp .gt 80, 3) := by decide +kernel
theorem dX0_read_20 : decode cX0_read 20 = .ok (.iload_n 2, 1) := by decide +kernel
theorem dX0_read_21 : decode cX0_read 21 = .ok (.ifCond .eq 76, 3) := by decide +kernel
theorem dX0_read_24 : decode cX0_read 24 = .ok (.aload_n 0, 1) := by decide +kernel
theorem dX0_read_25 : decode cX0_read 25 = .ok (.aload_n 1, 1) := by decide +kernel
theorem dX0_read_26 : decode cX0_read 26 = .ok (.invokevirtual 25, 3) := by decide +kernel
theorem dX0_read_29 : decode cX0_read 29 = .ok (.ifCond .ne 12, 3) := by decide +kernel
theorem dX0_read_32 : decode cX0_read 32 = .ok (.sipush (-1000), 3) := by decide +kernel
theorem dX0_read_35 : decode cX0_read 35 = .ok (.aload_n 0, 1) := by decide +kernel
theorem dX0_read_36 : decode cX0_read 36 = .ok (.getfield 22, 3) := by decide +kernel
theorem dX0_read_39 : decode cX0_read 39 = .ok (.isub, 1) := by decide +kernel
theorem dX0_read_40 : decode cX0_read 40 = .ok (.ireturn, 1) := by decide +kernel
theorem dX0_read_41 : decode cX0_read 41 = .ok (.aload_n 0, 1) := by decide +kernel
theorem dX0_read_42 : decode cX0_read 42 = .ok (.dup, 1) := by decide +kernel
theorem dX0_read_43 : decode cX0_read 43 = .ok (.getfield 18, 3) := by decide +kernel
theorem dX0_read_46 : decode cX0_read 46 = .ok (.iconst 1, 1) := by decide +kernel
theorem dX0_read_47 : decode cX0_read 47 = .ok (.iadd, 1) := by decide +kernel
theorem dX0_read_48 : decode cX0_read 48 = .ok (.putfield 18, 3) := by decide +kernel
theorem dX0_read_51 : decode cX0_read 51 = .ok (.aload_n 0, 1) := by decide +kernel
theorem dX0_read_52 : decode cX0_read 52 = .ok (.getfield 22, 3) := by decide +kernel
theorem dX0_read_55 : decode cX0_read 55 = .ok (.aload_n 1, 1) := by decide +kernel
theorem dX0_read_56 : decode cX0_read 56 = .ok (.getfield 29, 3) := by decide +kernel
theorem dX0_read_59 : decode cX0_read 59 = .ok (.if_icmp .ge 7, 3) := by decide +kernel
theorem dX0_read_62 : decode cX0_read 62 = .ok (.iconst 1, 1) := by decide +kernel
theorem dX0_read_63 : decode cX0_read 63 = .ok (.goto 4, 3) := by decide +kernel
theorem dX0_read_66 : decode cX0_read 66 = .ok (.iconst 0, 1) := by decide +kernel
theorem dX0_read_67 : decode cX0_read 67 = .ok (.istore_n 2, 1) := by decide +kernel
theorem dX0_read_68 : decode cX0_read 68 = .ok (.iload_n 2, 1) := by decide +kernel
theorem dX0_read_69 : decode cX0_read 69 = .ok (.ifCond .eq 22, 3) := by decide +kernel
theorem dX0_read_72 : decode cX0_read 72 = .ok (.aload_n 0, 1) := by decide +kernel
theorem dX0_read_73 : decode cX0_read 73 = .ok (.aload_n 1, 1) := by decide +kernel
theorem dX0_read_74 : decode cX0_read 74 = .ok (.bipush 59, 2) := by decide +kernel
theorem dX0_read_76 : decode cX0_read 76 = .ok (.invokevirtual 34, 3) := by decide +kernel
theorem dX0_read_79 : decode cX0_read 79 = .ok (.ifCond .ne 12, 3) := by decide +kernel
theorem dX0_read_82 : decode cX0_read 82 = .ok (.sipush (-1000), 3) := by decide +kernel
theorem dX0_read_85 : decode cX0_read 85 = .ok (.aload_n 0, 1) := by decide +kernel
theorem dX0_read_86 : decode cX0_read 86 = .ok (.getfield 22, 3) := by decide +kernel
theorem dX0_read_89 : decode cX0_read 89 = .ok (.isub, 1) := by decide +kernel
theorem dX0_read_90 : decode cX0_read 90 = .ok (.ireturn, 1) := by decide +kernel
theorem dX0_read_91 : decode cX0_read 91 = .ok (.iinc 3 1, 3) := by decide +kernel
theorem dX0_read_94 : decode cX0_read 94 = .ok (.goto (-80), 3) := by decide +kernel
theorem dX0_read_97 : decode cX0_read 97 = .ok (.aload_n 0, 1) := by decide +kernel
theorem dX0_read_98 : decode cX0_read 98 = .ok (.getfield 18, 3) := by decide +kernel
theorem dX0_read_101 : decode cX0_read 101 = .ok (.ireturn, 1) := by decide +kernel
theorem dX0_isOrder_0 : decode cX0_isOrder 0 = .ok (.aload_n 1, 1) := by decide +kernel
theorem dX0_isOrder_1 : decode cX0_isOrder 1 = .ok (.aload_n 0, 1) := by decide +kernel
theorem dX0_isOrder_2 : decode cX0_isOrder 2 = .ok (.getfield 22, 3) := by decide +kernel
theorem dX0_isOrder_5 : decode cX0_isOrder 5 = .ok (.invokevirtual 38, 3) := by decide +kernel
theorem dX0_isOrder_8 : decode cX0_isOrder 8 = .ok (.istore_n 2, 1) := by decide +kernel
theorem dX0_isOrder_9 : decode cX0_isOrder 9 = .ok (.aload_n 0, 1) := by decide +kernel
theorem dX0_isOrder_10 : decode cX0_isOrder 10 = .ok (.getfield 18, 3) := by decide +kernel
theorem dX0_isOrder_13 : decode cX0_isOrder 13 = .ok (.bipush 20, 2) := by decide +kernel
theorem dX0_isOrder_15 : decode cX0_isOrder 15 = .ok (.if_icmp .ge 20, 3) := by decide +kernel
theorem dX0_isOrder_18 : decode cX0_isOrder 18 = .ok (.aload_n 0, 1) := by decide +kernel
theorem dX0_isOrder_19 : decode cX0_isOrder 19 = .ok (.getfield 18, 3) := by decide +kernel
theorem dX0_isOrder_22 : decode cX0_isOrder 22 = .ok (.ifCond .lt 13, 3) := by decide +kernel
theorem dX0_isOrder_25 : decode cX0_isOrder 25 = .ok (.aload_n 0, 1) := by decide +kernel
theorem dX0_isOrder_26 : decode cX0_isOrder 26 = .ok (.getfield 9, 3) := by decide +kernel
theorem dX0_isOrder_29 : decode cX0_isOrder 29 = .ok (.aload_n 0, 1) := by decide +kernel
theorem dX0_isOrder_30 : decode cX0_isOrder 30 = .ok (.getfield 18, 3) := by decide +kernel
theorem dX0_isOrder_33 : decode cX0_isOrder 33 = .ok (.iload_n 2, 1) := by decide +kernel
theorem dX0_isOrder_34 : decode cX0_isOrder 34 = .ok (.iastore, 1) := by decide +kernel
theorem dX0_isOrder_35 : decode cX0_isOrder 35 = .ok (.iload_n 2, 1) := by decide +kernel
theorem dX0_isOrder_36 : decode cX0_isOrder 36 = .ok (.lookupswitch 247 #[(37, 222), (43, 52), (45, 117), (61, 162), (62, 187)], 52) := by decide +kernel
theorem dX0_isOrder_88 : decode cX0_isOrder 88 = .ok (.aload_n 0, 1) := by decide +kernel
theorem dX0_isOrder_89 : decode cX0_isOrder 89 = .ok (.aload_n 1, 1) := by decide +kernel
theorem dX0_isOrder_90 : decode cX0_isOrder 90 = .ok (.iload_n 2, 1) := by decide +kernel
theorem dX0_isOrder_91 : decode cX0_isOrder 91 = .ok (.invokevirtual 34, 3) := by decide +kernel
theorem dX0_isOrder_94 : decode cX0_isOrder 94 = .ok (.ifCond .eq 57, 3) := by decide +kernel
theorem dX0_isOrder_97 : decode cX0_isOrder 97 = .ok (.aload_n 0, 1) := by decide +kernel
theorem dX0_isOrder_98 : decode cX0_isOrder 98 = .ok (.aload_n 1, 1) := by decide +kernel
theorem dX0_isOrder_99 : decode cX0_isOrder 99 = .ok (.iconst 0, 1) := by decide +kernel
theorem dX0_isOrder_100 : decode cX0_isOrder 100 = .ok (.iconst 1, 1) := by decide +kernel
theorem dX0_isOrder_101 : decode cX0_isOrder 101 = .ok (.invokevirtual 42, 3) := by decide +kernel
theorem dX0_isOrder_104 : decode cX0_isOrder 104 = .ok (.ifCond .eq 47, 3) := by decide +kernel
theorem dX0_isOrder_107 : decode cX0_isOrder 107 = .ok (.aload_n 0, 1) := by decide +kernel
theorem dX0_isOrder_108 : decode cX0_isOrder 108 = .ok (.aload_n 1, 1) := by decide +kernel
theorem dX0_isOrder_109 : decode cX0_isOrder 109 = .ok (.bipush 58, 2) := by decide +kernel
theorem dX0_isOrder_111 : decode cX0_isOrder 111 = .ok (.invokevirtual 34, 3) := by decide +kernel
theorem dX0_isOrder_114 : decode cX0_isOrder 114 = .ok (.ifCond .eq 37, 3) := by decide +kernel
theorem dX0_isOrder_117 : decode cX0_isOrder 117 = .ok (.aload_n 0, 1) := by decide +kernel
theorem dX0_isOrder_118 : decode cX0_isOrder 118 = .ok (.aload_n 1, 1) := by decide +kernel
theorem dX0_isOrder_119 : decode cX0_isOrder 119 = .ok (.iconst 1, 1) := by decide +kernel
theorem dX0_isOrder_120 : decode cX0_isOrder 120 = .ok (.iconst 3, 1) := by decide +kernel
theorem dX0_isOrder_121 : decode cX0_isOrder 121 = .ok (.invokevirtual 42, 3) := by decide +kernel
theorem dX0_isOrder_124 : decode cX0_isOrder 124 = .ok (.ifCond .eq 27, 3) := by decide +kernel
theorem dX0_isOrder_127 : decode cX0_isOrder 127 = .ok (.aload_n 0, 1) := by decide +kernel
theorem dX0_isOrder_128 : decode cX0_isOrder 128 = .ok (.aload_n 1, 1) := by decide +kernel
theorem dX0_isOrder_129 : decode cX0_isOrder 129 = .ok (.bipush 42, 2) := by decide +kernel
theorem dX0_isOrder_131 : decode cX0_isOrder 131 = .ok (.invokevirtual 34, 3) := by decide +kernel
theorem dX0_isOrder_134 : decode cX0_isOrder 134 = .ok (.ifCond .eq 17, 3) := by decide +kernel
theorem dX0_isOrder_137 : decode cX0_isOrder 137 = .ok (.aload_n 0, 1) := by decide +kernel
theorem dX0_isOrder_138 : decode cX0_isOrder 138 = .ok (.aload_n 1, 1) := by decide +kernel
theorem dX0_isOrder_139 : decode cX0_isOrder 139 = .ok (.iconst 2, 1) := by decide +kernel
theorem dX0_isOrder_140 : decode cX0_isOrder 140 = .ok (.iconst 2, 1) := by decide +kernel
theorem dX0_isOrder_141 : decode cX0_isOrder 141 = .ok (.invokevirtual 42, 3) := by decide +kernel
theorem dX0_isOrder_144 : decode cX0_isOrder 144 = .ok (.ifCond .eq 7, 3) := by decide +kernel
theorem dX0_isOrder_147 : decode cX0_isOrder 147 = .ok (.iconst 1, 1) := by decide +kernel
theorem dX0_isOrder_148 : decode cX0_isOrder 148 = .ok (.goto 4, 3) := by decide +kernel
theorem dX0_isOrder_151 : decode cX0_isOrder 151 = .ok (.iconst 0, 1) := by decide +kernel
theorem dX0_isOrder_152 : decode cX0_isOrder 152 = .ok (.ireturn, 1) := by decide +kernel
theorem dX0_isOrder_153 : decode cX0_isOrder 153 = .ok (.aload_n 0, 1) := by decide +kernel
theorem dX0_isOrder_154 : decode cX0_isOrder 154 = .ok (.aload_n 1, 1) := by decide +kernel
theorem dX0_isOrder_155 : decode cX0_isOrder 155 = .ok (.iload_n 2, 1) := by decide +kernel
theorem dX0_isOrder_156 : decode cX0_isOrder 156 = .ok (.invokevirtual 34, 3) := by decide +kernel
theorem dX0_isOrder_159 : decode cX0_isOrder 159 = .ok (.ifCond .eq 37, 3) := by decide +kernel
theorem dX0_isOrder_162 : decode cX0_isOrder 162 = .ok (.aload_n 0, 1) := by decide +kernel
theorem dX0_isOrder_163 : decode cX0_isOrder 163 = .ok (.aload_n 1, 1) := by decide +kernel
theorem dX0_isOrder_164 : decode cX0_isOrder 164 = .ok (.iconst 0, 1) := by decide +kernel
theorem dX0_isOrder_165 : decode cX0_isOrder 165 = .ok (.iconst 1, 1) := by decide +kernel
theorem dX0_isOrder_166 : decode cX0_isOrder 166 = .ok (.invokevirtual 42, 3) := by decide +kernel
theorem dX0_isOrder_169 : decode cX0_isOrder 169 = .ok (.ifCond .eq 27, 3) := by decide +kernel
theorem dX0_isOrder_172 : decode cX0_isOrder 172 = .ok (.aload_n 0, 1) := by decide +kernel
theorem dX0_isOrder_173 : decode cX0_isOrder 173 = .ok (.aload_n 1, 1) := by decide +kernel
theorem dX0_isOrder_174 : decode cX0_isOrder 174 = .ok (.bipush 58, 2) := by decide +kernel
theorem dX0_isOrder_176 : decode cX0_isOrder 176 = .ok (.invokevirtual 34, 3) := by decide +kernel
theorem dX0_isOrder_179 : decode cX0_isOrder 179 = .ok (.ifCond .eq 17, 3) := by decide +kernel
theorem dX0_isOrder_182 : decode cX0_isOrder 182 = .ok (.aload_n 0, 1) := by decide +kernel
theorem dX0_isOrder_183 : decode cX0_isOrder 183 = .ok (.aload_n 1, 1) := by decide +kernel
theorem dX0_isOrder_184 : decode cX0_isOrder 184 = .ok (.iconst 1, 1) := by decide +kernel
theorem dX0_isOrder_185 : decode cX0_isOrder 185 = .ok (.iconst 3, 1) := by decide +kernel
theorem dX0_isOrder_186 : decode cX0_isOrder 186 = .ok (.invokevirtual 42, 3) := by decide +kernel
theorem dX0_isOrder_189 : decode cX0_isOrder 189 = .ok (.ifCond .eq 7, 3) := by decide +kernel
theorem dX0_isOrder_192 : decode cX0_isOrder 192 = .ok (.iconst 1, 1) := by decide +kernel
theorem dX0_isOrder_193 : decode cX0_isOrder 193 = .ok (.goto 4, 3) := by decide +kernel
theorem dX0_isOrder_196 : decode cX0_isOrder 196 = .ok (.iconst 0, 1) := by decide +kernel
theorem dX0_isOrder_197 : decode cX0_isOrder 197 = .ok (.ireturn, 1) := by decide +kernel
theorem dX0_isOrder_198 : decode cX0_isOrder 198 = .ok (.aload_n 0, 1) := by decide +kernel
theorem dX0_isOrder_199 : decode cX0_isOrder 199 = .ok (.aload_n 1, 1) := by decide +kernel
theorem dX0_isOrder_200 : decode cX0_isOrder 200 = .ok (.iload_n 2, 1) := by decide +kernel
theorem dX0_isOrder_201 : decode cX0_isOrder 201 = .ok (.invokevirtual 34, 3) := by decide +kernel
theorem dX0_isOrder_204 : decode cX0_isOrder 204 = .ok (.ifCond .eq 17, 3) := by decide +kernel
theorem dX0_isOrder_207 : decode cX0_isOrder 207 = .ok (.aload_n 0, 1) := by decide +kernel
theorem dX0_isOrder_208 : decode cX0_isOrder 208 = .ok (.aload_n 1, 1) := by decide +kernel
theorem dX0_isOrder_209 : decode cX0_isOrder 209 = .ok (.iconst 0, 1) := by decide +kernel
theorem dX0_isOrder_210 : decode cX0_isOrder 210 = .ok (.iconst 1, 1) := by decide +kernel
theorem dX0_isOrder_211 : decode cX0_isOrder 211 = .ok (.invokevirtual 42, 3) := by decide +kernel
theorem dX0_isOrder_214 : decode cX0_isOrder 214 = .ok (.ifCond .eq 7, 3) := by decide +kernel
theorem dX0_isOrder_217 : decode cX0_isOrder 217 = .ok (.iconst 1, 1) := by decide +kernel
theorem dX0_isOrder_218 : decode cX0_isOrder 218 = .ok (.goto 4, 3) := by decide +kernel
theorem dX0_isOrder_221 : decode cX0_isOrder 221 = .ok (.iconst 0, 1) := by decide +kernel
theorem dX0_isOrder_222 : decode cX0_isOrder 222 = .ok (.ireturn, 1) := by decide +kernel
theorem dX0_isOrder_223 : decode cX0_isOrder 223 = .ok (.aload_n 0, 1) := by decide +kernel
theorem dX0_isOrder_224 : decode cX0_isOrder 224 = .ok (.aload_n 1, 1) := by decide +kernel
theorem dX0_isOrder_225 : decode cX0_isOrder 225 = .ok (.iload_n 2, 1) := by decide +kernel
theorem dX0_isOrder_226 : decode cX0_isOrder 226 = .ok (.invokevirtual 34, 3) := by decide +kernel
theorem dX0_isOrder_229 : decode cX0_isOrder 229 = .ok (.ifCond .eq 27, 3) := by decide +kernel
theorem dX0_isOrder_232 : decode cX0_isOrder 232 = .ok (.aload_n 0, 1) := by decide +kernel
theorem dX0_isOrder_233 : decode cX0_isOrder 233 = .ok (.aload_n 1, 1) := by decide +kernel
theorem dX0_isOrder_234 : decode cX0_isOrder 234 = .ok (.iconst 0, 1) := by decide +kernel
theorem dX0_isOrder_235 : decode cX0_isOrder 235 = .ok (.iconst 1, 1) := by decide +kernel
theorem dX0_isOrder_236 : decode cX0_isOrder 236 = .ok (.invokevirtual 42, 3) := by decide +kernel
theorem dX0_isOrder_239 : decode cX0_isOrder 239 = .ok (.ifCond .eq 17, 3) := by decide +kernel
theorem dX0_isOrder_242 : decode cX0_isOrder 242 = .ok (.aload_n 0, 1) := by decide +kernel
theorem dX0_isOrder_243 : decode cX0_isOrder 243 = .ok (.aload_n 1, 1) := by decide +kernel
theorem dX0_isOrder_244 : decode cX0_isOrder 244 = .ok (.iconst 1, 1) := by decide +kernel
theorem dX0_isOrder_245 : decode cX0_isOrder 245 = .ok (.iconst 1, 1) := by decide +kernel
theorem dX0_isOrder_246 : decode cX0_isOrder 246 = .ok (.invokevirtual 42, 3) := by decide +kernel
theorem dX0_isOrder_249 : decode cX0_isOrder 249 = .ok (.ifCond .eq 7, 3) := by decide +kernel
theorem dX0_isOrder_252 : decode cX0_isOrder 252 = .ok (.iconst 1, 1) := by decide +kernel
theorem dX0_isOrder_253 : decode cX0_isOrder 253 = .ok (.goto 4, 3) := by decide +kernel
theorem dX0_isOrder_256 : decode cX0_isOrder 256 = .ok (.iconst 0, 1) := by decide +kernel
theorem dX0_isOrder_257 : decode cX0_isOrder 257 = .ok (.ireturn, 1) := by decide +kernel
theorem dX0_isOrder_258 : decode cX0_isOrder 258 = .ok (.aload_n 0, 1) := by decide +kernel
theorem dX0_isOrder_259 : decode cX0_isOrder 259 = .ok (.aload_n 1, 1) := by decide +kernel
theorem dX0_isOrder_260 : decode cX0_isOrder 260 = .ok (.iload_n 2, 1) := by decide +kernel
theorem dX0_isOrder_261 : decode cX0_isOrder 261 = .ok (.invokevirtual 34, 3) := by decide +kernel
theorem dX0_isOrder_264 : decode cX0_isOrder 264 = .ok (.ifCond .eq 17, 3) := by decide +kernel
theorem dX0_isOrder_267 : decode cX0_isOrder 267 = .ok (.aload_n 0, 1) := by decide +kernel
theorem dX0_isOrder_268 : decode cX0_isOrder 268 = .ok (.aload_n 1, 1) := by decide +kernel
theorem dX0_isOrder_269 : decode cX0_isOrder 269 = .ok (.iconst 0, 1) := by decide +kernel
theorem dX0_isOrder_270 : decode cX0_isOrder 270 = .ok (.iconst 2, 1) := by decide +kernel
theorem dX0_isOrder_271 : decode cX0_isOrder 271 = .ok (.invokevirtual 42, 3) := by decide +kernel
theorem dX0_isOrder_274 : decode cX0_isOrder 274 = .ok (.ifCond .eq 7, 3) := by decide +kernel
theorem dX0_isOrder_277 : decode cX0_isOrder 277 = .ok (.iconst 1, 1) := by decide +kernel
theorem dX0_isOrder_278 : decode cX0_isOrder 278 = .ok (.goto 4, 3) := by decide +kernel
theorem dX0_isOrder_281 : decode cX0_isOrder 281 = .ok (.iconst 0, 1) := by decide +kernel
theorem dX0_isOrder_282 : decode cX0_isOrder 282 = .ok (.ireturn, 1) := by decide +kernel
theorem dX0_isOrder_283 : decode cX0_isOrder 283 = .ok (.iconst 0, 1) := by decide +kernel
theorem dX0_isOrder_284 : decode cX0_isOrder 284 = .ok (.ireturn, 1) := by decide +kernel
theorem dX0_isCode_0 : decode cX0_isCode 0 = .ok (.aload_n 1, 1) := by decide +kernel
theorem dX0_isCode_1 : decode cX0_isCode 1 = .ok (.aload_n 0, 1) := by decide +kernel
theorem dX0_isCode_2 : decode cX0_isCode 2 = .ok (.getfield 22, 3) := by decide +kernel
theorem dX0_isCode_5 : decode cX0_isCode 5 = .ok (.invokevirtual 38, 3) := by decide +kernel
theorem dX0_isCode_8 : decode cX0_isCode 8 = .ok (.iload_n 2, 1) := by decide +kernel
theorem dX0_isCode_9 : decode cX0_isCode 9 = .ok (.if_icmp .eq 5, 3) := by decide +kernel
theorem dX0_isCode_12 : decode cX0_isCode 12 = .ok (.iconst 0, 1) := by decide +kernel
theorem dX0_isCode_13 : decode cX0_isCode 13 = .ok (.ireturn, 1) := by decide +kernel
theorem dX0_isCode_14 : decode cX0_isCode 14 = .ok (.aload_n 0, 1) := by decide +kernel
theorem dX0_isCode_15 : decode cX0_isCode 15 = .ok (.dup, 1) := by decide +kernel
theorem dX0_isCode_16 : decode cX0_isCode 16 = .ok (.getfield 22, 3) := by decide +kernel
theorem dX0_isCode_19 : decode cX0_isCode 19 = .ok (.iconst 1, 1) := by decide +kernel
theorem dX0_isCode_20 : decode cX0_isCode 20 = .ok (.iadd, 1) := by decide +kernel
theorem dX0_isCode_21 : decode cX0_isCode 21 = .ok (.putfield 22, 3) := by decide +kernel
theorem dX0_isCode_24 : decode cX0_isCode 24 = .ok (.iconst 1, 1) := by decide +kernel
theorem dX0_isCode_25 : decode cX0_isCode 25 = .ok (.ireturn, 1) := by decide +kernel
theorem dX0_isNumber_0 : decode cX0_isNumber 0 = .ok (.iconst 0, 1) := by decide +kernel
theorem dX0_isNumber_1 : decode cX0_isNumber 1 = .ok (.istore 4, 2) := by decide +kernel
theorem dX0_isNumber_3 : decode cX0_isNumber 3 = .ok (.iconst 0, 1) := by decide +kernel
theorem dX0_isNumber_4 : decode cX0_isNumber 4 = .ok (.istore 5, 2) := by decide +kernel
theorem dX0_isNumber_6 : decode cX0_isNumber 6 = .ok (.iload 5, 2) := by decide +kernel
theorem dX0_isNumber_8 : decode cX0_isNumber 8 = .ok (.iload_n 3, 1) := by decide +kernel
theorem dX0_isNumber_9 : decode cX0_isNumber 9 = .ok (.if_icmp .ge 52, 3) := by decide +kernel
theorem dX0_isNumber_12 : decode cX0_isNumber 12 = .ok (.aload_n 1, 1) := by decide +kernel
theorem dX0_isNumber_13 : decode cX0_isNumber 13 = .ok (.aload_n 0, 1) := by decide +kernel
theorem dX0_isNumber_14 : decode cX0_isNumber 14 = .ok (.getfield 22, 3) := by decide +kernel
theorem dX0_isNumber_17 : decode cX0_isNumber 17 = .ok (.invokevirtual 38, 3) := by decide +kernel
theorem dX0_isNumber_20 : decode cX0_isNumber 20 = .ok (.invokestatic 46, 3) := by decide +kernel
theorem dX0_isNumber_23 : decode cX0_isNumber 23 = .ok (.ifCond .eq 38, 3) := by decide +kernel
theorem dX0_isNumber_26 : decode cX0_isNumber 26 = .ok (.iload 4, 2) := by decide +kernel
theorem dX0_isNumber_28 : decode cX0_isNumber 28 = .ok (.bipush 10, 2) := by decide +kernel
theorem dX0_isNumber_30 : decode cX0_isNumber 30 = .ok (.imul, 1) := by decide +kernel
theorem dX0_isNumber_31 : decode cX0_isNumber 31 = .ok (.aload_n 1, 1) := by decide +kernel
theorem dX0_isNumber_32 : decode cX0_isNumber 32 = .ok (.aload_n 0, 1) := by decide +kernel
theorem dX0_isNumber_33 : decode cX0_isNumber 33 = .ok (.getfield 22, 3) := by decide +kernel
theorem dX0_isNumber_36 : decode cX0_isNumber 36 = .ok (.invokevirtual 38, 3) := by decide +kernel
theorem dX0_isNumber_39 : decode cX0_isNumber 39 = .ok (.iadd, 1) := by decide +kernel
theorem dX0_isNumber_40 : decode cX0_isNumber 40 = .ok (.bipush 48, 2) := by decide +kernel
theorem dX0_isNumber_42 : decode cX0_isNumber 42 = .ok (.isub, 1) := by decide +kernel
theorem dX0_isNumber_43 : decode cX0_isNumber 43 = .ok (.istore 4, 2) := by decide +kernel
theorem dX0_isNumber_45 : decode cX0_isNumber 45 = .ok (.aload_n 0, 1) := by decide +kernel
theorem dX0_isNumber_46 : decode cX0_isNumber 46 = .ok (.dup, 1) := by decide +kernel
theorem dX0_isNumber_47 : decode cX0_isNumber 47 = .ok (.getfield 22, 3) := by decide +kernel
theorem dX0_isNumber_50 : decode cX0_isNumber 50 = .ok (.iconst 1, 1) := by decide +kernel
theorem dX0_isNumber_51 : decode cX0_isNumber 51 = .ok (.iadd, 1) := by decide +kernel
theorem dX0_isNumber_52 : decode cX0_isNumber 52 = .ok (.putfield 22, 3) := by decide +kernel
theorem dX0_isNumber_55 : decode cX0_isNumber 55 = .ok (.iinc 5 1, 3) := by decide +kernel
theorem dX0_isNumber_58 : decode cX0_isNumber 58 = .ok (.goto (-52), 3) := by decide +kernel
theorem dX0_isNumber_61 : decode cX0_isNumber 61 = .ok (.iload 5, 2) := by decide +kernel
theorem dX0_isNumber_63 : decode cX0_isNumber 63 = .ok (.ifCond .le 43, 3) := by decide +kernel
theorem dX0_isNumber_66 : decode cX0_isNumber 66 = .ok (.aload_n 0, 1) := by decide +kernel
theorem dX0_isNumber_67 : decode cX0_isNumber 67 = .ok (.getfield 18, 3) := by decide +kernel
theorem dX0_isNumber_70 : decode cX0_isNumber 70 = .ok (.ifCond .lt 36, 3) := by decide +kernel
theorem dX0_isNumber_73 : decode cX0_isNumber 73 = .ok (.aload_n 0, 1) := by decide +kernel
theorem dX0_isNumber_74 : decode cX0_isNumber 74 = .ok (.getfield 18, 3) := by decide +kernel
theorem dX0_isNumber_77 : decode cX0_isNumber 77 = .ok (.bipush 20, 2) := by decide +kernel
theorem dX0_isNumber_79 : decode cX0_isNumber 79 = .ok (.if_icmp .ge 27, 3) := by decide +kernel
theorem dX0_isNumber_82 : decode cX0_isNumber 82 = .ok (.iload_n 2, 1) := by decide +kernel
theorem dX0_isNumber_83 : decode cX0_isNumber 83 = .ok (.ifCond .lt 23, 3) := by decide +kernel
theorem dX0_isNumber_86 : decode cX0_isNumber 86 = .ok (.iload_n 2, 1) := by decide +kernel
theorem dX0_isNumber_87 : decode cX0_isNumber 87 = .ok (.iconst 3, 1) := by decide +kernel
theorem dX0_isNumber_88 : decode cX0_isNumber 88 = .ok (.if_icmp .ge 18, 3) := by decide +kernel
theorem dX0_isNumber_91 : decode cX0_isNumber 91 = .ok (.aload_n 0, 1) := by decide +kernel
theorem dX0_isNumber_92 : decode cX0_isNumber 92 = .ok (.getfield 15, 3) := by decide +kernel
theorem dX0_isNumber_95 : decode cX0_isNumber 95 = .ok (.aload_n 0, 1) := by decide +kernel
theorem dX0_isNumber_96 : decode cX0_isNumber 96 = .ok (.getfield 18, 3) := by decide +kernel
theorem dX0_isNumber_99 : decode cX0_isNumber 99 = .ok (.iconst 3, 1) := by decide +kernel
theorem dX0_isNumber_100 : decode cX0_isNumber 100 = .ok (.imul, 1) := by decide +kernel
theorem dX0_isNumber_101 : decode cX0_isNumber 101 = .ok (.iload_n 2, 1) := by decide +kernel
theorem dX0_isNumber_102 : decode cX0_isNumber 102 = .ok (.iadd, 1) := by decide +kernel
theorem dX0_isNumber_103 : decode cX0_isNumber 103 = .ok (.iload 4, 2) := by decide +kernel
theorem dX0_isNumber_105 : decode cX0_isNumber 105 = .ok (.iastore, 1) := by decide +kernel
theorem dX0_isNumber_106 : decode cX0_isNumber 106 = .ok (.iload 5, 2) := by decide +kernel
theorem dX0_isNumber_108 : decode cX0_isNumber 108 = .ok (.ifCond .le 7, 3) := by decide +kernel
theorem dX0_isNumber_111 : decode cX0_isNumber 111 = .ok (.iconst 1, 1) := by decide +kernel
theorem dX0_isNumber_112 : decode cX0_isNumber 112 = .ok (.goto 4, 3) := by decide +kernel
theorem dX0_isNumber_115 : decode cX0_isNumber 115 = .ok (.iconst 0, 1) := by decide +kernel
theorem dX0_isNumber_116 : decode cX0_isNumber 116 = .ok (.ireturn, 1) := by decide +kernel
theorem dX0_isDigit_0 : decode cX0_isDigit 0 = .ok (.iload_n 0, 1) := by decide +kernel
theorem dX0_isDigit_1 : decode cX0_isDigit 1 = .ok (.bipush 48, 2) := by decide +kernel
theorem dX0_isDigit_3 : decode cX0_isDigit 3 = .ok (.if_icmp .lt 13, 3) := by decide +kernel
theorem dX0_isDigit_6 : decode cX0_isDigit 6 = .ok (.iload_n 0, 1) := by decide +kernel
theorem dX0_isDigit_7 : decode cX0_isDigit 7 = .ok (.bipush 57, 2) := by decide +kernel
theorem dX0_isDigit_9 : decode cX0_isDigit 9 = .ok (.if_icmp .gt 7, 3) := by decide +kernel
theorem dX0_isDigit_12 : decode cX0_isDigit 12 = .ok (.iconst 1, 1) := by decide +kernel
theorem dX0_isDigit_13 : decode cX0_isDigit 13 = .ok (.goto 4, 3) := by decide +kernel
theorem dX0_isDigit_16 : decode cX0_isDigit 16 = .ok (.iconst 0, 1) := by decide +kernel
theorem dX0_isDigit_17 : decode cX0_isDigit 17 = .ok (.ireturn, 1) := by decide +kernel
theorem dX1_init_0 : decode cX1_init 0 = .ok (.aload_n 0, 1) := by decide +kernel
theorem dX1_init_1 : decode cX1_init 1 = .ok (.invokespecial 3, 3) := by decide +kernel
theorem dX1_init_4 : decode cX1_init 4 = .ok (.aload_n 0, 1) := by decide +kernel
theorem dX1_init_5 : decode cX1_init 5 = .ok (.bipush 30, 2) := by decide +kernel
theorem dX1_init_7 : decode cX1_init 7 = .ok (.newarray .int, 2) := by decide +kernel
theorem dX1_init_9 : decode cX1_init 9 = .ok (.putfield 9, 3) := by decide +kernel
theorem dX1_init_12 : decode cX1_init 12 = .ok (.aload_n 0, 1) := by decide +kernel
theorem dX1_init_13 : decode cX1_init 13 = .ok (.bipush 30, 2) := by decide +kernel
theorem dX1_init_15 : decode cX1_init 15 = .ok (.newarray .int, 2) := by decide +kernel
theorem dX1_init_17 : decode cX1_init 17 = .ok (.putfield 15, 3) := by decide +kernel
theorem dX1_init_20 : decode cX1_init 20 = .ok (.aload_n 0, 1) := by decide +kernel
theorem dX1_init_21 : decode cX1_init 21 = .ok (.bipush 30, 2) := by decide +kernel
theorem dX1_init_23 : decode cX1_init 23 = .ok (.newarray .int, 2) := by decide +kernel
theorem dX1_init_25 : decode cX1_init 25 = .ok (.putfield 18, 3) := by decide +kernel
theorem dX1_init_28 : decode cX1_init 28 = .ok (.return_, 1) := by decide +kernel
theorem dX1_isPlace_0 : decode cX1_isPlace 0 = .ok (.iload_n 1, 1) := by decide +kernel
theorem dX1_isPlace_1 : decode cX1_isPlace 1 = .ok (.ifCond .lt 15, 3) := by decide +kernel
theorem dX1_isPlace_4 : decode cX1_isPlace 4 = .ok (.iload_n 1, 1) := by decide +kernel
theorem dX1_isPlace_5 : decode cX1_isPlace 5 = .ok (.aload_n 0, 1) := by decide +kernel
theorem dX1_isPlace_6 : decode cX1_isPlace 6 = .ok (.getfield 21, 3) := by decide +kernel
theorem dX1_isPlace_9 : decode cX1_isPlace 9 = .ok (.if_icmp .ge 7, 3) := by decide +kernel
theorem dX1_isPlace_12 : decode cX1_isPlace 12 = .ok (.iconst 1, 1) := by decide +kernel
theorem dX1_isPlace_13 : decode cX1_isPlace 13 = .ok (.goto 4, 3) := by decide +kernel
theorem dX1_isPlace_16 : decode cX1_isPlace 16 = .ok (.iconst 0, 1) := by decide +kernel
theorem dX1_isPlace_17 : decode cX1_isPlace 17 = .ok (.ireturn, 1) := by decide +kernel
theorem dX1_weightAt_0 : decode cX1_weightAt 0 = .ok (.iload_n 1, 1) := by decide +kernel
theorem dX1_weightAt_1 : decode cX1_weightAt 1 = .ok (.ifCond .lt 26, 3) := by decide +kernel
theorem dX1_weightAt_4 : decode cX1_weightAt 4 = .ok (.iload_n 1, 1) := by decide +kernel
theorem dX1_weightAt_5 : decode cX1_weightAt 5 = .ok (.aload_n 0, 1) := by decide +kernel
theorem dX1_weightAt_6 : decode cX1_weightAt 6 = .ok (.getfield 21, 3) := by decide +kernel
theorem dX1_weightAt_9 : decode cX1_weightAt 9 = .ok (.if_icmp .ge 18, 3) := by decide +kernel
theorem dX1_weightAt_12 : decode cX1_weightAt 12 = .ok (.iload_n 1, 1) := by decide +kernel
theorem dX1_weightAt_13 : decode cX1_weightAt 13 = .ok (.bipush 30, 2) := by decide +kernel
theorem dX1_weightAt_15 : decode cX1_weightAt 15 = .ok (.if_icmp .ge 12, 3) := by decide +kernel
theorem dX1_weightAt_18 : decode cX1_weightAt 18 = .ok (.aload_n 0, 1) := by decide +kernel
theorem dX1_weightAt_19 : decode cX1_weightAt 19 = .ok (.getfield 9, 3) := by decide +kernel
theorem dX1_weightAt_22 : decode cX1_weightAt 22 = .ok (.iload_n 1, 1) := by decide +kernel
theorem dX1_weightAt_23 : decode cX1_weightAt 23 = .ok (.iaload, 1) := by decide +kernel
theorem dX1_weightAt_24 : decode cX1_weightAt 24 = .ok (.goto 5, 3) := by decide +kernel
theorem dX1_weightAt_27 : decode cX1_weightAt 27 = .ok (.bipush (-15), 2) := by decide +kernel
theorem dX1_weightAt_29 : decode cX1_weightAt 29 = .ok (.ireturn, 1) := by decide +kernel
theorem dX1_loadAt_0 : decode cX1_loadAt 0 = .ok (.iload_n 1, 1) := by decide +kernel
theorem dX1_loadAt_1 : decode cX1_loadAt 1 = .ok (.ifCond .lt 26, 3) := by decide +kernel
theorem dX1_loadAt_4 : decode cX1_loadAt 4 = .ok (.iload_n 1, 1) := by decide +kernel
theorem dX1_loadAt_5 : decode cX1_loadAt 5 = .ok (.aload_n 0, 1) := by decide +kernel
theorem dX1_loadAt_6 : decode cX1_loadAt 6 = .ok (.getfield 21, 3) := by decide +kernel
theorem dX1_loadAt_9 : decode cX1_loadAt 9 = .ok (.if_icmp .ge 18, 3) := by decide +kernel
theorem dX1_loadAt_12 : decode cX1_loadAt 12 = .ok (.iload_n 1, 1) := by decide +kernel
theorem dX1_loadAt_13 : decode cX1_loadAt 13 = .ok (.bipush 30, 2) := by decide +kernel
theorem dX1_loadAt_15 : decode cX1_loadAt 15 = .ok (.if_icmp .ge 12, 3) := by decide +kernel
theorem dX1_loadAt_18 : decode cX1_loadAt 18 = .ok (.aload_n 0, 1) := by decide +kernel
theorem dX1_loadAt_19 : decode cX1_loadAt 19 = .ok (.getfield 15, 3) := by decide +kernel
theorem dX1_loadAt_22 : decode cX1_loadAt 22 = .ok (.iload_n 1, 1) := by decide +kernel
theorem dX1_loadAt_23 : decode cX1_loadAt 23 = .ok (.iaload, 1) := by decide +kernel
theorem dX1_loadAt_24 : decode cX1_loadAt 24 = .ok (.goto 4, 3) := by decide +kernel
theorem dX1_loadAt_27 : decode cX1_loadAt 27 = .ok (.iconst 0, 1) := by decide +kernel
theorem dX1_loadAt_28 : decode cX1_loadAt 28 = .ok (.ireturn, 1) := by decide +kernel
theorem dX1_depthAt_0 : decode cX1_depthAt 0 = .ok (.iload_n 1, 1) := by decide +kernel
theorem dX1_depthAt_1 : decode cX1_depthAt 1 = .ok (.ifCond .lt 26, 3) := by decide +kernel
theorem dX1_depthAt_4 : decode cX1_depthAt 4 = .ok (.iload_n 1, 1) := by decide +kernel
theorem dX1_depthAt_5 : decode cX1_depthAt 5 = .ok (.aload_n 0, 1) := by decide +kernel
theorem dX1_depthAt_6 : decode cX1_depthAt 6 = .ok (.getfield 21, 3) := by decide +kernel
theorem dX1_depthAt_9 : decode cX1_depthAt 9 = .ok (.if_icmp .ge 18, 3) := by decide +kernel
theorem dX1_depthAt_12 : decode cX1_depthAt 12 = .ok (.iload_n 1, 1) := by decide +kernel
theorem dX1_depthAt_13 : decode cX1_depthAt 13 = .ok (.bipush 30, 2) := by decide +kernel
theorem dX1_depthAt_15 : decode cX1_depthAt 15 = .ok (.if_icmp .ge 12, 3) := by decide +kernel
theorem dX1_depthAt_18 : decode cX1_depthAt 18 = .ok (.aload_n 0, 1) := by decide +kernel
theorem dX1_depthAt_19 : decode cX1_depthAt 19 = .ok (.getfield 18, 3) := by decide +kernel
theorem dX1_depthAt_22 : decode cX1_depthAt 22 = .ok (.iload_n 1, 1) := by decide +kernel
theorem dX1_depthAt_23 : decode cX1_depthAt 23 = .ok (.iaload, 1) := by decide +kernel
theorem dX1_depthAt_24 : decode cX1_depthAt 24 = .ok (.goto 4, 3) := by decide +kernel
theorem dX1_depthAt_27 : decode cX1_depthAt 27 = .ok (.iconst (-1), 1) := by decide +kernel
theorem dX1_depthAt_28 : decode cX1_depthAt 28 = .ok (.ireturn, 1) := by decide +kernel
theorem dX1_find_0 : decode cX1_find 0 = .ok (.iconst 0, 1) := by decide +kernel
theorem dX1_find_1 : decode cX1_find 1 = .ok (.istore_n 2, 1) := by decide +kernel
theorem dX1_find_2 : decode cX1_find 2 = .ok (.iload_n 2, 1) := by decide +kernel
theorem dX1_find_3 : decode cX1_find 3 = .ok (.aload_n 0, 1) := by decide +kernel
theorem dX1_find_4 : decode cX1_find 4 = .ok (.getfield 21, 3) := by decide +kernel
theorem dX1_find_7 : decode cX1_find 7 = .ok (.if_icmp .ge 20, 3) := by decide +kernel
theorem dX1_find_10 : decode cX1_find 10 = .ok (.aload_n 0, 1) := by decide +kernel
theorem dX1_find_11 : decode cX1_find 11 = .ok (.iload_n 2, 1) := by decide +kernel
theorem dX1_find_12 : decode cX1_find 12 = .ok (.invokevirtual 25, 3) := by decide +kernel
theorem dX1_find_15 : decode cX1_find 15 = .ok (.iload_n 1, 1) := by decide +kernel
theorem dX1_find_16 : decode cX1_find 16 = .ok (.if_icmp .ne 5, 3) := by decide +kernel
theorem dX1_find_19 : decode cX1_find 19 = .ok (.iload_n 2, 1) := by decide +kernel
theorem dX1_find_20 : decode cX1_find 20 = .ok (.ireturn, 1) := by decide +kernel
theorem dX1_find_21 : decode cX1_find 21 = .ok (.iinc 2 1, 3) := by decide +kernel
theorem dX1_find_24 : decode cX1_find 24 = .ok (.goto (-22), 3) := by decide +kernel
theorem dX1_find_27 : decode cX1_find 27 = .ok (.iconst (-1), 1) := by decide +kernel
theorem dX1_find_28 : decode cX1_find 28 = .ok (.ireturn, 1) := by decide +kernel
theorem dX1_firstOf_0 : decode cX1_firstOf 0 = .ok (.iload_n 1, 1) := by decide +kernel
theorem dX1_firstOf_1 : decode cX1_firstOf 1 = .ok (.istore_n 2, 1) := by decide +kernel
theorem dX1_firstOf_2 : decode cX1_firstOf 2 = .ok (.iload_n 2, 1) := by decide +kernel
theorem dX1_firstOf_3 : decode cX1_firstOf 3 = .ok (.ifCond .le 24, 3) := by decide +kernel
theorem dX1_firstOf_6 : decode cX1_firstOf 6 = .ok (.aload_n 0, 1) := by decide +kernel
theorem dX1_firstOf_7 : decode cX1_firstOf 7 = .ok (.iload_n 2, 1) := by decide +kernel
theorem dX1_firstOf_8 : decode cX1_firstOf 8 = .ok (.iconst 1, 1) := by decide +kernel
theorem dX1_firstOf_9 : decode cX1_firstOf 9 = .ok (.isub, 1) := by decide +kernel
theorem dX1_firstOf_10 : decode cX1_firstOf 10 = .ok (.invokevirtual 29, 3) := by decide +kernel
theorem dX1_firstOf_13 : decode cX1_firstOf 13 = .ok (.aload_n 0, 1) := by decide +kernel
theorem dX1_firstOf_14 : decode cX1_firstOf 14 = .ok (.iload_n 1, 1) := by decide +kernel
theorem dX1_firstOf_15 : decode cX1_firstOf 15 = .ok (.invokevirtual 29, 3) := by decide +kernel
theorem dX1_firstOf_18 : decode cX1_firstOf 18 = .ok (.if_icmp .le 9, 3) := by decide +kernel
theorem dX1_firstOf_21 : decode cX1_firstOf 21 = .ok (.iinc 2 (-1), 3) := by decide +kernel
theorem dX1_firstOf_24 : decode cX1_firstOf 24 = .ok (.goto (-22), 3) := by decide +kernel
theorem dX1_firstOf_27 : decode cX1_firstOf 27 = .ok (.iload_n 2, 1) := by decide +kernel
theorem dX1_firstOf_28 : decode cX1_firstOf 28 = .ok (.ireturn, 1) := by decide +kernel
theorem dX1_lastOf_0 : decode cX1_lastOf 0 = .ok (.iload_n 1, 1) := by decide +kernel
theorem dX1_lastOf_1 : decode cX1_lastOf 1 = .ok (.istore_n 2, 1) := by decide +kernel
theorem dX1_lastOf_2 : decode cX1_lastOf 2 = .ok (.iload_n 2, 1) := by decide +kernel
theorem dX1_lastOf_3 : decode cX1_lastOf 3 = .ok (.aload_n 0, 1) := by decide +kernel
theorem dX1_lastOf_4 : decode cX1_lastOf 4 = .ok (.getfield 21, 3) := by decide +kernel
theorem dX1_lastOf_7 : decode cX1_lastOf 7 = .ok (.iconst 1, 1) := by decide +kernel
theorem dX1_lastOf_8 : decode cX1_lastOf 8 = .ok (.isub, 1) := by decide +kernel
theorem dX1_lastOf_9 : decode cX1_lastOf 9 = .ok (.if_icmp .ge 24, 3) := by decide +kernel
theorem dX1_lastOf_12 : decode cX1_lastOf 12 = .ok (.aload_n 0, 1) := by decide +kernel
theorem dX1_lastOf_13 : decode cX1_lastOf 13 = .ok (.iload_n 2, 1) := by decide +kernel
theorem dX1_lastOf_14 : decode cX1_lastOf 14 = .ok (.iconst 1, 1) := by decide +kernel
theorem dX1_lastOf_15 : decode cX1_lastOf 15 = .ok (.iadd, 1) := by decide +kernel
theorem dX1_lastOf_16 : decode cX1_lastOf 16 = .ok (.invokevirtual 29, 3) := by decide +kernel
theorem dX1_lastOf_19 : decode cX1_lastOf 19 = .ok (.aload_n 0, 1) := by decide +kernel
theorem dX1_lastOf_20 : decode cX1_lastOf 20 = .ok (.iload_n 1, 1) := by decide +kernel
theorem dX1_lastOf_21 : decode cX1_lastOf 21 = .ok (.invokevirtual 29, 3) := by decide +kernel
theorem dX1_lastOf_24 : decode cX1_lastOf 24 = .ok (.if_icmp .le 9, 3) := by decide +kernel
theorem dX1_lastOf_27 : decode cX1_lastOf 27 = .ok (.iinc 2 1, 3) := by decide +kernel
theorem dX1_lastOf_30 : decode cX1_lastOf 30 = .ok (.goto (-28), 3) := by decide +kernel
theorem dX1_lastOf_33 : decode cX1_lastOf 33 = .ok (.iload_n 2, 1) := by decide +kernel
theorem dX1_lastOf_34 : decode cX1_lastOf 34 = .ok (.ireturn, 1) := by decide +kernel
theorem dX1_topOf_0 : decode cX1_topOf 0 = .ok (.iconst (-1), 1) := by decide +kernel
theorem dX1_topOf_1 : decode cX1_topOf 1 = .ok (.istore_n 3, 1) := by decide +kernel
theorem dX1_topOf_2 : decode cX1_topOf 2 = .ok (.iload_n 1, 1) := by decide +kernel
theorem dX1_topOf_3 : decode cX1_topOf 3 = .ok (.iconst 0, 1) := by decide +kernel
theorem dX1_topOf_4 : decode cX1_topOf 4 = .ok (.invokestatic 32, 3) := by decide +kernel
theorem dX1_topOf_7 : decode cX1_topOf 7 = .ok (.istore 4, 2) := by decide +kernel
theorem dX1_topOf_9 : decode cX1_topOf 9 = .ok (.iload 4, 2) := by decide +kernel
theorem dX1_topOf_11 : decode cX1_topOf 11 = .ok (.iload_n 2, 1) := by decide +kernel
theorem dX1_topOf_12 : decode cX1_topOf 12 = .ok (.if_icmp .gt 40, 3) := by decide +kernel
theorem dX1_topOf_15 : decode cX1_topOf 15 = .ok (.iload 4, 2) := by decide +kernel
theorem dX1_topOf_17 : decode cX1_topOf 17 = .ok (.aload_n 0, 1) := by decide +kernel
theorem dX1_topOf_18 : decode cX1_topOf 18 = .ok (.getfield 21, 3) := by decide +kernel
theorem dX1_topOf_21 : decode cX1_topOf 21 = .ok (.if_icmp .ge 31, 3) := by decide +kernel
theorem dX1_topOf_24 : decode cX1_topOf 24 = .ok (.iload_n 3, 1) := by decide +kernel
theorem dX1_topOf_25 : decode cX1_topOf 25 = .ok (.iconst (-1), 1) := by decide +kernel
theorem dX1_topOf_26 : decode cX1_topOf 26 = .ok (.if_icmp .eq 17, 3) := by decide +kernel
theorem dX1_topOf_29 : decode cX1_topOf 29 = .ok (.aload_n 0, 1) := by decide +kernel
theorem dX1_topOf_30 : decode cX1_topOf 30 = .ok (.iload 4, 2) := by decide +kernel
theorem dX1_topOf_32 : decode cX1_topOf 32 = .ok (.invokevirtual 29, 3) := by decide +kernel
theorem dX1_topOf_35 : decode cX1_topOf 35 = .ok (.aload_n 0, 1) := by decide +kernel
theorem dX1_topOf_36 : decode cX1_topOf 36 = .ok (.iload_n 3, 1) := by decide +kernel
theorem dX1_topOf_37 : decode cX1_topOf 37 = .ok (.invokevirtual 29, 3) := by decide +kernel
theorem dX1_topOf_40 : decode cX1_topOf 40 = .ok (.if_icmp .ge 6, 3) := by decide +kernel
theorem dX1_topOf_43 : decode cX1_topOf 43 = .ok (.iload 4, 2) := by decide +kernel
theorem dX1_topOf_45 : decode cX1_topOf 45 = .ok (.istore_n 3, 1) := by decide +kernel
theorem dX1_topOf_46 : decode cX1_topOf 46 = .ok (.iinc 4 1, 3) := by decide +kernel
theorem dX1_topOf_49 : decode cX1_topOf 49 = .ok (.goto (-40), 3) := by decide +kernel
theorem dX1_topOf_52 : decode cX1_topOf 52 = .ok (.iload_n 3, 1) := by decide +kernel
theorem dX1_topOf_53 : decode cX1_topOf 53 = .ok (.ireturn, 1) := by decide +kernel
theorem dX1_above_0 : decode cX1_above 0 = .ok (.aload_n 0, 1) := by decide +kernel
theorem dX1_above_1 : decode cX1_above 1 = .ok (.iload_n 1, 1) := by decide +kernel
theorem dX1_above_2 : decode cX1_above 2 = .ok (.invokevirtual 38, 3) := by decide +kernel
theorem dX1_above_5 : decode cX1_above 5 = .ok (.iconst 1, 1) := by decide +kernel
theorem dX1_above_6 : decode cX1_above 6 = .ok (.isub, 1) := by decide +kernel
theorem dX1_above_7 : decode cX1_above 7 = .ok (.istore_n 2, 1) := by decide +kernel
theorem dX1_above_8 : decode cX1_above 8 = .ok (.aload_n 0, 1) := by decide +kernel
theorem dX1_above_9 : decode cX1_above 9 = .ok (.iload_n 1, 1) := by decide +kernel
theorem dX1_above_10 : decode cX1_above 10 = .ok (.invokevirtual 41, 3) := by decide +kernel
theorem dX1_above_13 : decode cX1_above 13 = .ok (.iconst 1, 1) := by decide +kernel
theorem dX1_above_14 : decode cX1_above 14 = .ok (.iadd, 1) := by decide +kernel
theorem dX1_above_15 : decode cX1_above 15 = .ok (.istore_n 3, 1) := by decide +kernel
theorem dX1_above_16 : decode cX1_above 16 = .ok (.aload_n 0, 1) := by decide +kernel
theorem dX1_above_17 : decode cX1_above 17 = .ok (.iload_n 2, 1) := by decide +kernel
theorem dX1_above_18 : decode cX1_above 18 = .ok (.invokevirtual 29, 3) := by decide +kernel
theorem dX1_above_21 : decode cX1_above 21 = .ok (.aload_n 0, 1) := by decide +kernel
theorem dX1_above_22 : decode cX1_above 22 = .ok (.iload_n 3, 1) := by decide +kernel
theorem dX1_above_23 : decode cX1_above 23 = .ok (.invokevirtual 29, 3) := by decide +kernel
theorem dX1_above_26 : decode cX1_above 26 = .ok (.if_icmp .le 7, 3) := by decide +kernel
theorem dX1_above_29 : decode cX1_above 29 = .ok (.iload_n 2, 1) := by decide +kernel
theorem dX1_above_30 : decode cX1_above 30 = .ok (.goto 4, 3) := by decide +kernel
theorem dX1_above_33 : decode cX1_above 33 = .ok (.iload_n 3, 1) := by decide +kernel
theorem dX1_above_34 : decode cX1_above 34 = .ok (.istore 4, 2) := by decide +kernel
theorem dX1_above_36 : decode cX1_above 36 = .ok (.aload_n 0, 1) := by decide +kernel
theorem dX1_above_37 : decode cX1_above 37 = .ok (.iload 4, 2) := by decide +kernel
theorem dX1_above_39 : decode cX1_above 39 = .ok (.invokevirtual 44, 3) := by decide +kernel
theorem dX1_above_42 : decode cX1_above 42 = .ok (.ifCond .eq 8, 3) := by decide +kernel
theorem dX1_above_45 : decode cX1_above 45 = .ok (.iload 4, 2) := by decide +kernel
theorem dX1_above_47 : decode cX1_above 47 = .ok (.goto 4, 3) := by decide +kernel
theorem dX1_above_50 : decode cX1_above 50 = .ok (.iconst (-1), 1) := by decide +kernel
theorem dX1_above_51 : decode cX1_above 51 = .ok (.ireturn, 1) := by decide +kernel
theorem dX1_leans_0 : decode cX1_leans 0 = .ok (.aload_n 0, 1) := by decide +kernel
theorem dX1_leans_1 : decode cX1_leans 1 = .ok (.iload_n 1, 1) := by decide +kernel
theorem dX1_leans_2 : decode cX1_leans 2 = .ok (.invokevirtual 38, 3) := by decide +kernel
theorem dX1_leans_5 : decode cX1_leans 5 = .ok (.istore_n 3, 1) := by decide +kernel
theorem dX1_leans_6 : decode cX1_leans 6 = .ok (.aload_n 0, 1) := by decide +kernel
theorem dX1_leans_7 : decode cX1_leans 7 = .ok (.iload_n 1, 1) := by decide +kernel
theorem dX1_leans_8 : decode cX1_leans 8 = .ok (.invokevirtual 41, 3) := by decide +kernel
theorem dX1_leans_11 : decode cX1_leans 11 = .ok (.istore 4, 2) := by decide +kernel
theorem dX1_leans_13 : decode cX1_leans 13 = .ok (.iload_n 1, 1) := by decide +kernel
theorem dX1_leans_14 : decode cX1_leans 14 = .ok (.iload_n 3, 1) := by decide +kernel
theorem dX1_leans_15 : decode cX1_leans 15 = .ok (.isub, 1) := by decide +kernel
theorem dX1_leans_16 : decode cX1_leans 16 = .ok (.iload 4, 2) := by decide +kernel
theorem dX1_leans_18 : decode cX1_leans 18 = .ok (.iload_n 1, 1) := by decide +kernel
theorem dX1_leans_19 : decode cX1_leans 19 = .ok (.isub, 1) := by decide +kernel
theorem dX1_leans_20 : decode cX1_leans 20 = .ok (.invokestatic 32, 3) := by decide +kernel
theorem dX1_leans_23 : decode cX1_leans 23 = .ok (.istore 5, 2) := by decide +kernel
theorem dX1_leans_25 : decode cX1_leans 25 = .ok (.bipush 100, 2) := by decide +kernel
theorem dX1_leans_27 : decode cX1_leans 27 = .ok (.iload 5, 2) := by decide +kernel
theorem dX1_leans_29 : decode cX1_leans 29 = .ok (.imul, 1) := by decide +kernel
theorem dX1_leans_30 : decode cX1_leans 30 = .ok (.iload_n 2, 1) := by decide +kernel
theorem dX1_leans_31 : decode cX1_leans 31 = .ok (.iload 4, 2) := by decide +kernel
theorem dX1_leans_33 : decode cX1_leans 33 = .ok (.iload_n 3, 1) := by decide +kernel
theorem dX1_leans_34 : decode cX1_leans 34 = .ok (.isub, 1) := by decide +kernel
theorem dX1_leans_35 : decode cX1_leans 35 = .ok (.iconst 1, 1) := by decide +kernel
theorem dX1_leans_36 : decode cX1_leans 36 = .ok (.iadd, 1) := by decide +kernel
theorem dX1_leans_37 : decode cX1_leans 37 = .ok (.imul, 1) := by decide +kernel
theorem dX1_leans_38 : decode cX1_leans 38 = .ok (.if_icmp .le 7, 3) := by decide +kernel
theorem dX1_leans_41 : decode cX1_leans 41 = .ok (.iconst 1, 1) := by decide +kernel
theorem dX1_leans_42 : decode cX1_leans 42 = .ok (.goto 4, 3) := by decide +kernel
theorem dX1_leans_45 : decode cX1_leans 45 = .ok (.iconst 0, 1) := by decide +kernel
theorem dX1_leans_46 : decode cX1_leans 46 = .ok (.ireturn, 1) := by decide +kernel
theorem dX1_loadsFrom_0 : decode cX1_loadsFrom 0 = .ok (.iconst 0, 1) := by decide +kernel
theorem dX1_loadsFrom_1 : decode cX1_loadsFrom 1 = .ok (.istore_n 3, 1) := by decide +kernel
theorem dX1_loadsFrom_2 : decode cX1_loadsFrom 2 = .ok (.iload_n 1, 1) := by decide +kernel
theorem dX1_loadsFrom_3 : decode cX1_loadsFrom 3 = .ok (.iconst 0, 1) := by decide +kernel
theorem dX1_loadsFrom_4 : decode cX1_loadsFrom 4 = .ok (.invokestatic 32, 3) := by decide +kernel
theorem dX1_loadsFrom_7 : decode cX1_loadsFrom 7 = .ok (.istore 4, 2) := by decide +kernel
theorem dX1_loadsFrom_9 : decode cX1_loadsFrom 9 = .ok (.iload 4, 2) := by decide +kernel
theorem dX1_loadsFrom_11 : decode cX1_loadsFrom 11 = .ok (.iload_n 2, 1) := by decide +kernel
theorem dX1_loadsFrom_12 : decode cX1_loadsFrom 12 = .ok (.if_icmp .gt 27, 3) := by decide +kernel
theorem dX1_loadsFrom_15 : decode cX1_loadsFrom 15 = .ok (.iload 4, 2) := by decide +kernel
theorem dX1_loadsFrom_17 : decode cX1_loadsFrom 17 = .ok (.aload_n 0, 1) := by decide +kernel
theorem dX1_loadsFrom_18 : decode cX1_loadsFrom 18 = .ok (.getfield 21, 3) := by decide +kernel
theorem dX1_loadsFrom_21 : decode cX1_loadsFrom 21 = .ok (.if_icmp .ge 18, 3) := by decide +kernel
theorem dX1_loadsFrom_24 : decode cX1_loadsFrom 24 = .ok (.iload_n 3, 1) := by decide +kernel
theorem dX1_loadsFrom_25 : decode cX1_loadsFrom 25 = .ok (.aload_n 0, 1) := by decide +kernel
theorem dX1_loadsFrom_26 : decode cX1_loadsFrom 26 = .ok (.iload 4, 2) := by decide +kernel
theorem dX1_loadsFrom_28 : decode cX1_loadsFrom 28 = .ok (.invokevirtual 48, 3) := by decide +kernel
theorem dX1_loadsFrom_31 : decode cX1_loadsFrom 31 = .ok (.iadd, 1) := by decide +kernel
theorem dX1_loadsFrom_32 : decode cX1_loadsFrom 32 = .ok (.istore_n 3, 1) := by decide +kernel
theorem dX1_loadsFrom_33 : decode cX1_loadsFrom 33 = .ok (.iinc 4 1, 3) := by decide +kernel
theorem dX1_loadsFrom_36 : decode cX1_loadsFrom 36 = .ok (.goto (-27), 3) := by decide +kernel
theorem dX1_loadsFrom_39 : decode cX1_loadsFrom 39 = .ok (.iload_n 3, 1) := by decide +kernel
theorem dX1_loadsFrom_40 : decode cX1_loadsFrom 40 = .ok (.ireturn, 1) := by decide +kernel
theorem dX1_depths_0 : decode cX1_depths 0 = .ok (.iconst 0, 1) := by decide +kernel
theorem dX1_depths_1 : decode cX1_depths 1 = .ok (.istore_n 1, 1) := by decide +kernel
theorem dX1_depths_2 : decode cX1_depths 2 = .ok (.iconst 0, 1) := by decide +kernel
theorem dX1_depths_3 : decode cX1_depths 3 = .ok (.istore_n 2, 1) := by decide +kernel
theorem dX1_depths_4 : decode cX1_depths 4 = .ok (.iload_n 2, 1) := by decide +kernel
theorem dX1_depths_5 : decode cX1_depths 5 = .ok (.aload_n 0, 1) := by decide +kernel
theorem dX1_depths_6 : decode cX1_depths 6 = .ok (.getfield 21, 3) := by decide +kernel
theorem dX1_depths_9 : decode cX1_depths 9 = .ok (.if_icmp .ge 17, 3) := by decide +kernel
theorem dX1_depths_12 : decode cX1_depths 12 = .ok (.iload_n 1, 1) := by decide +kernel
theorem dX1_depths_13 : decode cX1_depths 13 = .ok (.aload_n 0, 1) := by decide +kernel
theorem dX1_depths_14 : decode cX1_depths 14 = .ok (.iload_n 2, 1) := by decide +kernel
theorem dX1_depths_15 : decode cX1_depths 15 = .ok (.invokevirtual 29, 3) := by decide +kernel
theorem dX1_depths_18 : decode cX1_depths 18 = .ok (.iadd, 1) := by decide +kernel
theorem dX1_depths_19 : decode cX1_depths 19 = .ok (.istore_n 1, 1) := by decide +kernel
theorem dX1_depths_20 : decode cX1_depths 20 = .ok (.iinc 2 1, 3) := by decide +kernel
theorem dX1_depths_23 : decode cX1_depths 23 = .ok (.goto (-19), 3) := by decide +kernel
theorem dX1_depths_26 : decode cX1_depths 26 = .ok (.iload_n 1, 1) := by decide +kernel
theorem dX1_depths_27 : decode cX1_depths 27 = .ok (.ireturn, 1) := by decide +kernel
theorem dX1_greatestDepth_0 : decode cX1_greatestDepth 0 = .ok (.iconst (-1), 1) := by decide +kernel
theorem dX1_greatestDepth_1 : decode cX1_greatestDepth 1 = .ok (.istore_n 1, 1) := by decide +kernel
theorem dX1_greatestDepth_2 : decode cX1_greatestDepth 2 = .ok (.iconst 0, 1) := by decide +kernel
theorem dX1_greatestDepth_3 : decode cX1_greatestDepth 3 = .ok (.istore_n 2, 1) := by decide +kernel
theorem dX1_greatestDepth_4 : decode cX1_greatestDepth 4 = .ok (.iload_n 2, 1) := by decide +kernel
theorem dX1_greatestDepth_5 : decode cX1_greatestDepth 5 = .ok (.aload_n 0, 1) := by decide +kernel
theorem dX1_greatestDepth_6 : decode cX1_greatestDepth 6 = .ok (.getfield 21, 3) := by decide +kernel
theorem dX1_greatestDepth_9 : decode cX1_greatestDepth 9 = .ok (.if_icmp .ge 19, 3) := by decide +kernel
theorem dX1_greatestDepth_12 : decode cX1_greatestDepth 12 = .ok (.iload_n 1, 1) := by decide +kernel
theorem dX1_greatestDepth_13 : decode cX1_greatestDepth 13 = .ok (.aload_n 0, 1) := by decide +kernel
theorem dX1_greatestDepth_14 : decode cX1_greatestDepth 14 = .ok (.iload_n 2, 1) := by decide +kernel
theorem dX1_greatestDepth_15 : decode cX1_greatestDepth 15 = .ok (.invokevirtual 29, 3) := by decide +kernel
theorem dX1_greatestDepth_18 : decode cX1_greatestDepth 18 = .ok (.invokestatic 32, 3) := by decide +kernel
theorem dX1_greatestDepth_21 : decode cX1_greatestDepth 21 = .ok (.istore_n 1, 1) := by decide +kernel
theorem dX1_greatestDepth_22 : decode cX1_greatestDepth 22 = .ok (.iinc 2 1, 3) := by decide +kernel
theorem dX1_greatestDepth_25 : decode cX1_greatestDepth 25 = .ok (.goto (-21), 3) := by decide +kernel
theorem dX1_greatestDepth_28 : decode cX1_greatestDepth 28 = .ok (.iload_n 1, 1) := by decide +kernel
theorem dX1_greatestDepth_29 : decode cX1_greatestDepth 29 = .ok (.ireturn, 1) := by decide +kernel
theorem dX1_leaning_0 : decode cX1_leaning 0 = .ok (.iconst 0, 1) := by decide +kernel
theorem dX1_leaning_1 : decode cX1_leaning 1 = .ok (.istore_n 2, 1) := by decide +kernel
theorem dX1_leaning_2 : decode cX1_leaning 2 = .ok (.iconst 0, 1) := by decide +kernel
theorem dX1_leaning_3 : decode cX1_leaning 3 = .ok (.istore_n 3, 1) := by decide +kernel
theorem dX1_leaning_4 : decode cX1_leaning 4 = .ok (.iload_n 3, 1) := by decide +kernel
theorem dX1_leaning_5 : decode cX1_leaning 5 = .ok (.aload_n 0, 1) := by decide +kernel
theorem dX1_leaning_6 : decode cX1_leaning 6 = .ok (.getfield 21, 3) := by decide +kernel
theorem dX1_leaning_9 : decode cX1_leaning 9 = .ok (.if_icmp .ge 21, 3) := by decide +kernel
theorem dX1_leaning_12 : decode cX1_leaning 12 = .ok (.aload_n 0, 1) := by decide +kernel
theorem dX1_leaning_13 : decode cX1_leaning 13 = .ok (.iload_n 3, 1) := by decide +kernel
theorem dX1_leaning_14 : decode cX1_leaning 14 = .ok (.iload_n 1, 1) := by decide +kernel
theorem dX1_leaning_15 : decode cX1_leaning 15 = .ok (.invokevirtual 51, 3) := by decide +kernel
theorem dX1_leaning_18 : decode cX1_leaning 18 = .ok (.ifCond .eq 6, 3) := by decide +kernel
theorem dX1_leaning_21 : decode cX1_leaning 21 = .ok (.iinc 2 1, 3) := by decide +kernel
theorem dX1_leaning_24 : decode cX1_leaning 24 = .ok (.iinc 3 1, 3) := by decide +kernel
theorem dX1_leaning_27 : decode cX1_leaning 27 = .ok (.goto (-23), 3) := by decide +kernel
theorem dX1_leaning_30 : decode cX1_leaning 30 = .ok (.iload_n 2, 1) := by decide +kernel
theorem dX1_leaning_31 : decode cX1_leaning 31 = .ok (.ireturn, 1) := by decide +kernel
theorem dX1_lowest_0 : decode cX1_lowest 0 = .ok (.iconst 0, 1) := by decide +kernel
theorem dX1_lowest_1 : decode cX1_lowest 1 = .ok (.istore_n 1, 1) := by decide +kernel
theorem dX1_lowest_2 : decode cX1_lowest 2 = .ok (.iconst 0, 1) := by decide +kernel
theorem dX1_lowest_3 : decode cX1_lowest 3 = .ok (.istore_n 2, 1) := by decide +kernel
theorem dX1_lowest_4 : decode cX1_lowest 4 = .ok (.iload_n 2, 1) := by decide +kernel
theorem dX1_lowest_5 : decode cX1_lowest 5 = .ok (.aload_n 0, 1) := by decide +kernel
theorem dX1_lowest_6 : decode cX1_lowest 6 = .ok (.getfield 21, 3) := by decide +kernel
theorem dX1_lowest_9 : decode cX1_lowest 9 = .ok (.if_icmp .ge 42, 3) := by decide +kernel
theorem dX1_lowest_12 : decode cX1_lowest 12 = .ok (.aload_n 0, 1) := by decide +kernel
theorem dX1_lowest_13 : decode cX1_lowest 13 = .ok (.iload_n 2, 1) := by decide +kernel
theorem dX1_lowest_14 : decode cX1_lowest 14 = .ok (.iconst 1, 1) := by decide +kernel
theorem dX1_lowest_15 : decode cX1_lowest 15 = .ok (.isub, 1) := by decide +kernel
theorem dX1_lowest_16 : decode cX1_lowest 16 = .ok (.invokevirtual 29, 3) := by decide +kernel
theorem dX1_lowest_19 : decode cX1_lowest 19 = .ok (.aload_n 0, 1) := by decide +kernel
theorem dX1_lowest_20 : decode cX1_lowest 20 = .ok (.iload_n 2, 1) := by decide +kernel
theorem dX1_lowest_21 : decode cX1_lowest 21 = .ok (.invokevirtual 29, 3) := by decide +kernel
theorem dX1_lowest_24 : decode cX1_lowest 24 = .ok (.if_icmp .gt 21, 3) := by decide +kernel
theorem dX1_lowest_27 : decode cX1_lowest 27 = .ok (.aload_n 0, 1) := by decide +kernel
theorem dX1_lowest_28 : decode cX1_lowest 28 = .ok (.iload_n 2, 1) := by decide +kernel
theorem dX1_lowest_29 : decode cX1_lowest 29 = .ok (.iconst 1, 1) := by decide +kernel
theorem dX1_lowest_30 : decode cX1_lowest 30 = .ok (.iadd, 1) := by decide +kernel
theorem dX1_lowest_31 : decode cX1_lowest 31 = .ok (.invokevirtual 29, 3) := by decide +kernel
theorem dX1_lowest_34 : decode cX1_lowest 34 = .ok (.aload_n 0, 1) := by decide +kernel
theorem dX1_lowest_35 : decode cX1_lowest 35 = .ok (.iload_n 2, 1) := by decide +kernel
theorem dX1_lowest_36 : decode cX1_lowest 36 = .ok (.invokevirtual 29, 3) := by decide +kernel
theorem dX1_lowest_39 : decode cX1_lowest 39 = .ok (.if_icmp .gt 6, 3) := by decide +kernel
theorem dX1_lowest_42 : decode cX1_lowest 42 = .ok (.iinc 1 1, 3) := by decide +kernel
theorem dX1_lowest_45 : decode cX1_lowest 45 = .ok (.iinc 2 1, 3) := by decide +kernel
theorem dX1_lowest_48 : decode cX1_lowest 48 = .ok (.goto (-44), 3) := by decide +kernel
theorem dX1_lowest_51 : decode cX1_lowest 51 = .ok (.iload_n 1, 1) := by decide +kernel
theorem dX1_lowest_52 : decode cX1_lowest 52 = .ok (.ireturn, 1) := by decide +kernel
theorem dX1_cartsUpTo_0 : decode cX1_cartsUpTo 0 = .ok (.iconst 0, 1) := by decide +kernel
theorem dX1_cartsUpTo_1 : decode cX1_cartsUpTo 1 = .ok (.istore_n 3, 1) := by decide +kernel
theorem dX1_cartsUpTo_2 : decode cX1_cartsUpTo 2 = .ok (.iconst 0, 1) := by decide +kernel
theorem dX1_cartsUpTo_3 : decode cX1_cartsUpTo 3 = .ok (.istore 4, 2) := by decide +kernel
theorem dX1_cartsUpTo_5 : decode cX1_cartsUpTo 5 = .ok (.iconst 0, 1) := by decide +kernel
theorem dX1_cartsUpTo_6 : decode cX1_cartsUpTo 6 = .ok (.istore 5, 2) := by decide +kernel
theorem dX1_cartsUpTo_8 : decode cX1_cartsUpTo 8 = .ok (.iload 5, 2) := by decide +kernel
theorem dX1_cartsUpTo_10 : decode cX1_cartsUpTo 10 = .ok (.iload_n 1, 1) := by decide +kernel
theorem dX1_cartsUpTo_11 : decode cX1_cartsUpTo 11 = .ok (.if_icmp .gt 52, 3) := by decide +kernel
theorem dX1_cartsUpTo_14 : decode cX1_cartsUpTo 14 = .ok (.iload 5, 2) := by decide +kernel
theorem dX1_cartsUpTo_16 : decode cX1_cartsUpTo 16 = .ok (.aload_n 0, 1) := by decide +kernel
theorem dX1_cartsUpTo_17 : decode cX1_cartsUpTo 17 = .ok (.getfield 21, 3) := by decide +kernel
theorem dX1_cartsUpTo_20 : decode cX1_cartsUpTo 20 = .ok (.if_icmp .ge 43, 3) := by decide +kernel
theorem dX1_cartsUpTo_23 : decode cX1_cartsUpTo 23 = .ok (.iload_n 3, 1) := by decide +kernel
theorem dX1_cartsUpTo_24 : decode cX1_cartsUpTo 24 = .ok (.ifCond .eq 16, 3) := by decide +kernel
theorem dX1_cartsUpTo_27 : decode cX1_cartsUpTo 27 = .ok (.iload 4, 2) := by decide +kernel
theorem dX1_cartsUpTo_29 : decode cX1_cartsUpTo 29 = .ok (.aload_n 0, 1) := by decide +kernel
theorem dX1_cartsUpTo_30 : decode cX1_cartsUpTo 30 = .ok (.iload 5, 2) := by decide +kernel
theorem dX1_cartsUpTo_32 : decode cX1_cartsUpTo 32 = .ok (.invokevirtual 48, 3) := by decide +kernel
theorem dX1_cartsUpTo_35 : decode cX1_cartsUpTo 35 = .ok (.iadd, 1) := by decide +kernel
theorem dX1_cartsUpTo_36 : decode cX1_cartsUpTo 36 = .ok (.iload_n 2, 1) := by decide +kernel
theorem dX1_cartsUpTo_37 : decode cX1_cartsUpTo 37 = .ok (.if_icmp .le 9, 3) := by decide +kernel
theorem dX1_cartsUpTo_40 : decode cX1_cartsUpTo 40 = .ok (.iinc 3 1, 3) := by decide +kernel
theorem dX1_cartsUpTo_43 : decode cX1_cartsUpTo 43 = .ok (.iconst 0, 1) := by decide +kernel
theorem dX1_cartsUpTo_44 : decode cX1_cartsUpTo 44 = .ok (.istore 4, 2) := by decide +kernel
theorem dX1_cartsUpTo_46 : decode cX1_cartsUpTo 46 = .ok (.iload 4, 2) := by decide +kernel
theorem dX1_cartsUpTo_48 : decode cX1_cartsUpTo 48 = .ok (.aload_n 0, 1) := by decide +kernel
theorem dX1_cartsUpTo_49 : decode cX1_cartsUpTo 49 = .ok (.iload 5, 2) := by decide +kernel
theorem dX1_cartsUpTo_51 : decode cX1_cartsUpTo 51 = .ok (.invokevirtual 48, 3) := by decide +kernel
theorem dX1_cartsUpTo_54 : decode cX1_cartsUpTo 54 = .ok (.iadd, 1) := by decide +kernel
theorem dX1_cartsUpTo_55 : decode cX1_cartsUpTo 55 = .ok (.istore 4, 2) := by decide +kernel
theorem dX1_cartsUpTo_57 : decode cX1_cartsUpTo 57 = .ok (.iinc 5 1, 3) := by decide +kernel
theorem dX1_cartsUpTo_60 : decode cX1_cartsUpTo 60 = .ok (.goto (-52), 3) := by decide +kernel
theorem dX1_cartsUpTo_63 : decode cX1_cartsUpTo 63 = .ok (.iload_n 3, 1) := by decide +kernel
theorem dX1_cartsUpTo_64 : decode cX1_cartsUpTo 64 = .ok (.ireturn, 1) := by decide +kernel
theorem dX1_lighterByParts_0 : decode cX1_lighterByParts 0 = .ok (.iconst 0, 1) := by decide +kernel
theorem dX1_lighterByParts_1 : decode cX1_lighterByParts 1 = .ok (.istore_n 2, 1) := by decide +kernel
theorem dX1_lighterByParts_2 : decode cX1_lighterByParts 2 = .ok (.iconst 0, 1) := by decide +kernel
theorem dX1_lighterByParts_3 : decode cX1_lighterByParts 3 = .ok (.istore_n 3, 1) := by decide +kernel
theorem dX1_lighterByParts_4 : decode cX1_lighterByParts 4 = .ok (.aload_n 0, 1) := by decide +kernel
theorem dX1_lighterByParts_5 : decode cX1_lighterByParts 5 = .ok (.getfield 21, 3) := by decide +kernel
theorem dX1_lighterByParts_8 : decode cX1_lighterByParts 8 = .ok (.iconst 1, 1) := by decide +kernel
theorem dX1_lighterByParts_9 : decode cX1_lighterByParts 9 = .ok (.isub, 1) := by decide +kernel
theorem dX1_lighterByParts_10 : decode cX1_lighterByParts 10 = .ok (.istore 4, 2) := by decide +kernel
theorem dX1_lighterByParts_12 : decode cX1_lighterByParts 12 = .ok (.iconst 0, 1) := by decide +kernel
theorem dX1_lighterByParts_13 : decode cX1_lighterByParts 13 = .ok (.istore 5, 2) := by decide +kernel
theorem dX1_lighterByParts_15 : decode cX1_lighterByParts 15 = .ok (.iload 5, 2) := by decide +kernel
theorem dX1_lighterByParts_17 : decode cX1_lighterByParts 17 = .ok (.bipush 30, 2) := by decide +kernel
theorem dX1_lighterByParts_19 : decode cX1_lighterByParts 19 = .ok (.if_icmp .ge 57, 3) := by decide +kernel
theorem dX1_lighterByParts_22 : decode cX1_lighterByParts 22 = .ok (.iload_n 3, 1) := by decide +kernel
theorem dX1_lighterByParts_23 : decode cX1_lighterByParts 23 = .ok (.iload 4, 2) := by decide +kernel
theorem dX1_lighterByParts_25 : decode cX1_lighterByParts 25 = .ok (.if_icmp .gt 51, 3) := by decide +kernel
theorem dX1_lighterByParts_28 : decode cX1_lighterByParts 28 = .ok (.aload_n 0, 1) := by decide +kernel
theorem dX1_lighterByParts_29 : decode cX1_lighterByParts 29 = .ok (.iload_n 3, 1) := by decide +kernel
theorem dX1_lighterByParts_30 : decode cX1_lighterByParts 30 = .ok (.iload 4, 2) := by decide +kernel
theorem dX1_lighterByParts_32 : decode cX1_lighterByParts 32 = .ok (.invokevirtual 55, 3) := by decide +kernel
theorem dX1_lighterByParts_35 : decode cX1_lighterByParts 35 = .ok (.istore 6, 2) := by decide +kernel
theorem dX1_lighterByParts_37 : decode cX1_lighterByParts 37 = .ok (.aload_n 0, 1) := by decide +kernel
theorem dX1_lighterByParts_38 : decode cX1_lighterByParts 38 = .ok (.iload 6, 2) := by decide +kernel
theorem dX1_lighterByParts_40 : decode cX1_lighterByParts 40 = .ok (.invokevirtual 25, 3) := by decide +kernel
theorem dX1_lighterByParts_43 : decode cX1_lighterByParts 43 = .ok (.iload_n 1, 1) := by decide +kernel
theorem dX1_lighterByParts_44 : decode cX1_lighterByParts 44 = .ok (.if_icmp .ge 20, 3) := by decide +kernel
theorem dX1_lighterByParts_47 : decode cX1_lighterByParts 47 = .ok (.iload_n 2, 1) := by decide +kernel
theorem dX1_lighterByParts_48 : decode cX1_lighterByParts 48 = .ok (.iload 6, 2) := by decide +kernel
theorem dX1_lighterByParts_50 : decode cX1_lighterByParts 50 = .ok (.iload_n 3, 1) := by decide +kernel
theorem dX1_lighterByParts_51 : decode cX1_lighterByParts 51 = .ok (.isub, 1) := by decide +kernel
theorem dX1_lighterByParts_52 : decode cX1_lighterByParts 52 = .ok (.iconst 1, 1) := by decide +kernel
theorem dX1_lighterByParts_53 : decode cX1_lighterByParts 53 = .ok (.iadd, 1) := by decide +kernel
theorem dX1_lighterByParts_54 : decode cX1_lighterByParts 54 = .ok (.iadd, 1) := by decide +kernel
theorem dX1_lighterByParts_55 : decode cX1_lighterByParts 55 = .ok (.istore_n 2, 1) := by decide +kernel
theorem dX1_lighterByParts_56 : decode cX1_lighterByParts 56 = .ok (.iload 6, 2) := by decide +kernel
theorem dX1_lighterByParts_58 : decode cX1_lighterByParts 58 = .ok (.iconst 1, 1) := by decide +kernel
theorem dX1_lighterByParts_59 : decode cX1_lighterByParts 59 = .ok (.iadd, 1) := by decide +kernel
theorem dX1_lighterByParts_60 : decode cX1_lighterByParts 60 = .ok (.istore_n 3, 1) := by decide +kernel
theorem dX1_lighterByParts_61 : decode cX1_lighterByParts 61 = .ok (.goto 9, 3) := by decide +kernel
theorem dX1_lighterByParts_64 : decode cX1_lighterByParts 64 = .ok (.iload 6, 2) := by decide +kernel
theorem dX1_lighterByParts_66 : decode cX1_lighterByParts 66 = .ok (.iconst 1, 1) := by decide +kernel
theorem dX1_lighterByParts_67 : decode cX1_lighterByParts 67 = .ok (.isub, 1) := by decide +kernel
theorem dX1_lighterByParts_68 : decode cX1_lighterByParts 68 = .ok (.istore 4, 2) := by decide +kernel
theorem dX1_lighterByParts_70 : decode cX1_lighterByParts 70 = .ok (.iinc 5 1, 3) := by decide +kernel
theorem dX1_lighterByParts_73 : decode cX1_lighterByParts 73 = .ok (.goto (-58), 3) := by decide +kernel
theorem dX1_lighterByParts_76 : decode cX1_lighterByParts 76 = .ok (.iload_n 2, 1) := by decide +kernel
theorem dX1_lighterByParts_77 : decode cX1_lighterByParts 77 = .ok (.ireturn, 1) := by decide +kernel
theorem dX1_lighterOneByOne_0 : decode cX1_lighterOneByOne 0 = .ok (.iconst 0, 1) := by decide +kernel
theorem dX1_lighterOneByOne_1 : decode cX1_lighterOneByOne 1 = .ok (.istore_n 2, 1) := by decide +kernel
theorem dX1_lighterOneByOne_2 : decode cX1_lighterOneByOne 2 = .ok (.iconst 0, 1) := by decide +kernel
theorem dX1_lighterOneByOne_3 : decode cX1_lighterOneByOne 3 = .ok (.istore_n 3, 1) := by decide +kernel
theorem dX1_lighterOneByOne_4 : decode cX1_lighterOneByOne 4 = .ok (.iload_n 3, 1) := by decide +kernel
theorem dX1_lighterOneByOne_5 : decode cX1_lighterOneByOne 5 = .ok (.aload_n 0, 1) := by decide +kernel
theorem dX1_lighterOneByOne_6 : decode cX1_lighterOneByOne 6 = .ok (.getfield 21, 3) := by decide +kernel
theorem dX1_lighterOneByOne_9 : decode cX1_lighterOneByOne 9 = .ok (.if_icmp .ge 21, 3) := by decide +kernel
theorem dX1_lighterOneByOne_12 : decode cX1_lighterOneByOne 12 = .ok (.aload_n 0, 1) := by decide +kernel
theorem dX1_lighterOneByOne_13 : decode cX1_lighterOneByOne 13 = .ok (.iload_n 3, 1) := by decide +kernel
theorem dX1_lighterOneByOne_14 : decode cX1_lighterOneByOne 14 = .ok (.invokevirtual 25, 3) := by decide +kernel
theorem dX1_lighterOneByOne_17 : decode cX1_lighterOneByOne 17 = .ok (.iload_n 1, 1) := by decide +kernel
theorem dX1_lighterOneByOne_18 : decode cX1_lighterOneByOne 18 = .ok (.if_icmp .ge 6, 3) := by decide +kernel
theorem dX1_lighterOneByOne_21 : decode cX1_lighterOneByOne 21 = .ok (.iinc 2 1, 3) := by decide +kernel
theorem dX1_lighterOneByOne_24 : decode cX1_lighterOneByOne 24 = .ok (.iinc 3 1, 3) := by decide +kernel
theorem dX1_lighterOneByOne_27 : decode cX1_lighterOneByOne 27 = .ok (.goto (-23), 3) := by decide +kernel
theorem dX1_lighterOneByOne_30 : decode cX1_lighterOneByOne 30 = .ok (.iload_n 2, 1) := by decide +kernel
theorem dX1_lighterOneByOne_31 : decode cX1_lighterOneByOne 31 = .ok (.ireturn, 1) := by decide +kernel
theorem dX1_loadsByParts_0 : decode cX1_loadsByParts 0 = .ok (.iload_n 1, 1) := by decide +kernel
theorem dX1_loadsByParts_1 : decode cX1_loadsByParts 1 = .ok (.iload_n 2, 1) := by decide +kernel
theorem dX1_loadsByParts_2 : decode cX1_loadsByParts 2 = .ok (.if_icmp .le 7, 3) := by decide +kernel
theorem dX1_loadsByParts_5 : decode cX1_loadsByParts 5 = .ok (.iconst 0, 1) := by decide +kernel
theorem dX1_loadsByParts_6 : decode cX1_loadsByParts 6 = .ok (.goto 18, 3) := by decide +kernel
theorem dX1_loadsByParts_9 : decode cX1_loadsByParts 9 = .ok (.aload_n 0, 1) := by decide +kernel
theorem dX1_loadsByParts_10 : decode cX1_loadsByParts 10 = .ok (.iload_n 2, 1) := by decide +kernel
theorem dX1_loadsByParts_11 : decode cX1_loadsByParts 11 = .ok (.i2l, 1) := by decide +kernel
theorem dX1_loadsByParts_12 : decode cX1_loadsByParts 12 = .ok (.lconst 1, 1) := by decide +kernel
theorem dX1_loadsByParts_13 : decode cX1_loadsByParts 13 = .ok (.ladd, 1) := by decide +kernel
theorem dX1_loadsByParts_14 : decode cX1_loadsByParts 14 = .ok (.invokevirtual 58, 3) := by decide +kernel
theorem dX1_loadsByParts_17 : decode cX1_loadsByParts 17 = .ok (.aload_n 0, 1) := by decide +kernel
theorem dX1_loadsByParts_18 : decode cX1_loadsByParts 18 = .ok (.iload_n 1, 1) := by decide +kernel
theorem dX1_loadsByParts_19 : decode cX1_loadsByParts 19 = .ok (.i2l, 1) := by decide +kernel
theorem dX1_loadsByParts_20 : decode cX1_loadsByParts 20 = .ok (.invokevirtual 58, 3) := by decide +kernel
theorem dX1_loadsByParts_23 : decode cX1_loadsByParts 23 = .ok (.isub, 1) := by decide +kernel
theorem dX1_loadsByParts_24 : decode cX1_loadsByParts 24 = .ok (.ireturn, 1) := by decide +kernel
theorem dX1_loadsOfLighter_0 : decode cX1_loadsOfLighter 0 = .ok (.iconst 0, 1) := by decide +kernel
theorem dX1_loadsOfLighter_1 : decode cX1_loadsOfLighter 1 = .ok (.istore_n 3, 1) := by decide +kernel
theorem dX1_loadsOfLighter_2 : decode cX1_loadsOfLighter 2 = .ok (.iconst 0, 1) := by decide +kernel
theorem dX1_loadsOfLighter_3 : decode cX1_loadsOfLighter 3 = .ok (.istore 4, 2) := by decide +kernel
theorem dX1_loadsOfLighter_5 : decode cX1_loadsOfLighter 5 = .ok (.aload_n 0, 1) := by decide +kernel
theorem dX1_loadsOfLighter_6 : decode cX1_loadsOfLighter 6 = .ok (.getfield 21, 3) := by decide +kernel
theorem dX1_loadsOfLighter_9 : decode cX1_loadsOfLighter 9 = .ok (.iconst 1, 1) := by decide +kernel
theorem dX1_loadsOfLighter_10 : decode cX1_loadsOfLighter 10 = .ok (.isub, 1) := by decide +kernel
theorem dX1_loadsOfLighter_11 : decode cX1_loadsOfLighter 11 = .ok (.istore 5, 2) := by decide +kernel
theorem dX1_loadsOfLighter_13 : decode cX1_loadsOfLighter 13 = .ok (.iconst 0, 1) := by decide +kernel
theorem dX1_loadsOfLighter_14 : decode cX1_loadsOfLighter 14 = .ok (.istore 6, 2) := by decide +kernel
theorem dX1_loadsOfLighter_16 : decode cX1_loadsOfLighter 16 = .ok (.iload 6, 2) := by decide +kernel
theorem dX1_loadsOfLighter_18 : decode cX1_loadsOfLighter 18 = .ok (.bipush 30, 2) := by decide +kernel
theorem dX1_loadsOfLighter_20 : decode cX1_loadsOfLighter 20 = .ok (.if_icmp .ge 64, 3) := by decide +kernel
theorem dX1_loadsOfLighter_23 : decode cX1_loadsOfLighter 23 = .ok (.iload 4, 2) := by decide +kernel
theorem dX1_loadsOfLighter_25 : decode cX1_loadsOfLighter 25 = .ok (.iload 5, 2) := by decide +kernel
theorem dX1_loadsOfLighter_27 : decode cX1_loadsOfLighter 27 = .ok (.if_icmp .gt 57, 3) := by decide +kernel
theorem dX1_loadsOfLighter_30 : decode cX1_loadsOfLighter 30 = .ok (.aload_n 0, 1) := by decide +kernel
theorem dX1_loadsOfLighter_31 : decode cX1_loadsOfLighter 31 = .ok (.iload 4, 2) := by decide +kernel
theorem dX1_loadsOfLighter_33 : decode cX1_loadsOfLighter 33 = .ok (.iload 5, 2) := by decide +kernel
theorem dX1_loadsOfLighter_35 : decode cX1_loadsOfLighter 35 = .ok (.invokevirtual 55, 3) := by decide +kernel
theorem dX1_loadsOfLighter_38 : decode cX1_loadsOfLighter 38 = .ok (.istore 7, 2) := by decide +kernel
theorem dX1_loadsOfLighter_40 : decode cX1_loadsOfLighter 40 = .ok (.aload_n 0, 1) := by decide +kernel
theorem dX1_loadsOfLighter_41 : decode cX1_loadsOfLighter 41 = .ok (.iload 7, 2) := by decide +kernel
theorem dX1_loadsOfLighter_43 : decode cX1_loadsOfLighter 43 = .ok (.invokevirtual 25, 3) := by decide +kernel
theorem dX1_loadsOfLighter_46 : decode cX1_loadsOfLighter 46 = .ok (.i2l, 1) := by decide +kernel
theorem dX1_loadsOfLighter_47 : decode cX1_loadsOfLighter 47 = .ok (.lload_n 1, 1) := by decide +kernel
theorem dX1_loadsOfLighter_48 : decode cX1_loadsOfLighter 48 = .ok (.lcmp, 1) := by decide +kernel
theorem dX1_loadsOfLighter_49 : decode cX1_loadsOfLighter 49 = .ok (.ifCond .ge 23, 3) := by decide +kernel
theorem dX1_loadsOfLighter_52 : decode cX1_loadsOfLighter 52 = .ok (.iload_n 3, 1) := by decide +kernel
theorem dX1_loadsOfLighter_53 : decode cX1_loadsOfLighter 53 = .ok (.aload_n 0, 1) := by decide +kernel
theorem dX1_loadsOfLighter_54 : decode cX1_loadsOfLighter 54 = .ok (.iload 4, 2) := by decide +kernel
theorem dX1_loadsOfLighter_56 : decode cX1_loadsOfLighter 56 = .ok (.iload 7, 2) := by decide +kernel
theorem dX1_loadsOfLighter_58 : decode cX1_loadsOfLighter 58 = .ok (.invokevirtual 62, 3) := by decide +kernel
theorem dX1_loadsOfLighter_61 : decode cX1_loadsOfLighter 61 = .ok (.iadd, 1) := by decide +kernel
theorem dX1_loadsOfLighter_62 : decode cX1_loadsOfLighter 62 = .ok (.istore_n 3, 1) := by decide +kernel
theorem dX1_loadsOfLighter_63 : decode cX1_loadsOfLighter 63 = .ok (.iload 7, 2) := by decide +kernel
theorem dX1_loadsOfLighter_65 : decode cX1_loadsOfLighter 65 = .ok (.iconst 1, 1) := by decide +kernel
theorem dX1_loadsOfLighter_66 : decode cX1_loadsOfLighter 66 = .ok (.iadd, 1) := by decide +kernel
theorem dX1_loadsOfLighter_67 : decode cX1_loadsOfLighter 67 = .ok (.istore 4, 2) := by decide +kernel
theorem dX1_loadsOfLighter_69 : decode cX1_loadsOfLighter 69 = .ok (.goto 9, 3) := by decide +kernel
theorem dX1_loadsOfLighter_72 : decode cX1_loadsOfLighter 72 = .ok (.iload 7, 2) := by decide +kernel
theorem dX1_loadsOfLighter_74 : decode cX1_loadsOfLighter 74 = .ok (.iconst 1, 1) := by decide +kernel
theorem dX1_loadsOfLighter_75 : decode cX1_loadsOfLighter 75 = .ok (.isub, 1) := by decide +kernel
theorem dX1_loadsOfLighter_76 : decode cX1_loadsOfLighter 76 = .ok (.istore 5, 2) := by decide +kernel
theorem dX1_loadsOfLighter_78 : decode cX1_loadsOfLighter 78 = .ok (.iinc 6 1, 3) := by decide +kernel
theorem dX1_loadsOfLighter_81 : decode cX1_loadsOfLighter 81 = .ok (.goto (-65), 3) := by decide +kernel
theorem dX1_loadsOfLighter_84 : decode cX1_loadsOfLighter 84 = .ok (.iload_n 3, 1) := by decide +kernel
theorem dX1_loadsOfLighter_85 : decode cX1_loadsOfLighter 85 = .ok (.ireturn, 1) := by decide +kernel
theorem dX1_loadsOneByOne_0 : decode cX1_loadsOneByOne 0 = .ok (.iconst 0, 1) := by decide +kernel
theorem dX1_loadsOneByOne_1 : decode cX1_loadsOneByOne 1 = .ok (.istore_n 3, 1) := by decide +kernel
theorem dX1_loadsOneByOne_2 : decode cX1_loadsOneByOne 2 = .ok (.iconst 0, 1) := by decide +kernel
theorem dX1_loadsOneByOne_3 : decode cX1_loadsOneByOne 3 = .ok (.istore 4, 2) := by decide +kernel
theorem dX1_loadsOneByOne_5 : decode cX1_loadsOneByOne 5 = .ok (.iload 4, 2) := by decide +kernel
theorem dX1_loadsOneByOne_7 : decode cX1_loadsOneByOne 7 = .ok (.aload_n 0, 1) := by decide +kernel
theorem dX1_loadsOneByOne_8 : decode cX1_loadsOneByOne 8 = .ok (.getfield 21, 3) := by decide +kernel
theorem dX1_loadsOneByOne_11 : decode cX1_loadsOneByOne 11 = .ok (.if_icmp .ge 38, 3) := by decide +kernel
theorem dX1_loadsOneByOne_14 : decode cX1_loadsOneByOne 14 = .ok (.aload_n 0, 1) := by decide +kernel
theorem dX1_loadsOneByOne_15 : decode cX1_loadsOneByOne 15 = .ok (.iload 4, 2) := by decide +kernel
theorem dX1_loadsOneByOne_17 : decode cX1_loadsOneByOne 17 = .ok (.invokevirtual 25, 3) := by decide +kernel
theorem dX1_loadsOneByOne_20 : decode cX1_loadsOneByOne 20 = .ok (.iload_n 1, 1) := by decide +kernel
theorem dX1_loadsOneByOne_21 : decode cX1_loadsOneByOne 21 = .ok (.if_icmp .lt 22, 3) := by decide +kernel
theorem dX1_loadsOneByOne_24 : decode cX1_loadsOneByOne 24 = .ok (.aload_n 0, 1) := by decide +kernel
theorem dX1_loadsOneByOne_25 : decode cX1_loadsOneByOne 25 = .ok (.iload 4, 2) := by decide +kernel
theorem dX1_loadsOneByOne_27 : decode cX1_loadsOneByOne 27 = .ok (.invokevirtual 25, 3) := by decide +kernel
theorem dX1_loadsOneByOne_30 : decode cX1_loadsOneByOne 30 = .ok (.iload_n 2, 1) := by decide +kernel
theorem dX1_loadsOneByOne_31 : decode cX1_loadsOneByOne 31 = .ok (.if_icmp .gt 12, 3) := by decide +kernel
theorem dX1_loadsOneByOne_34 : decode cX1_loadsOneByOne 34 = .ok (.iload_n 3, 1) := by decide +kernel
theorem dX1_loadsOneByOne_35 : decode cX1_loadsOneByOne 35 = .ok (.aload_n 0, 1) := by decide +kernel
theorem dX1_loadsOneByOne_36 : decode cX1_loadsOneByOne 36 = .ok (.iload 4, 2) := by decide +kernel
theorem dX1_loadsOneByOne_38 : decode cX1_loadsOneByOne 38 = .ok (.invokevirtual 48, 3) := by decide +kernel
theorem dX1_loadsOneByOne_41 : decode cX1_loadsOneByOne 41 = .ok (.iadd, 1) := by decide +kernel
theorem dX1_loadsOneByOne_42 : decode cX1_loadsOneByOne 42 = .ok (.istore_n 3, 1) := by decide +kernel
theorem dX1_loadsOneByOne_43 : decode cX1_loadsOneByOne 43 = .ok (.iinc 4 1, 3) := by decide +kernel
theorem dX1_loadsOneByOne_46 : decode cX1_loadsOneByOne 46 = .ok (.goto (-41), 3) := by decide +kernel
theorem dX1_loadsOneByOne_49 : decode cX1_loadsOneByOne 49 = .ok (.iload_n 3, 1) := by decide +kernel
theorem dX1_loadsOneByOne_50 : decode cX1_loadsOneByOne 50 = .ok (.ireturn, 1) := by decide +kernel
theorem dX1_isInOrder_0 : decode cX1_isInOrder 0 = .ok (.iconst 1, 1) := by decide +kernel
theorem dX1_isInOrder_1 : decode cX1_isInOrder 1 = .ok (.istore_n 1, 1) := by decide +kernel
theorem dX1_isInOrder_2 : decode cX1_isInOrder 2 = .ok (.iload_n 1, 1) := by decide +kernel
theorem dX1_isInOrder_3 : decode cX1_isInOrder 3 = .ok (.aload_n 0, 1) := by decide +kernel
theorem dX1_isInOrder_4 : decode cX1_isInOrder 4 = .ok (.getfield 21, 3) := by decide +kernel
theorem dX1_isInOrder_7 : decode cX1_isInOrder 7 = .ok (.if_icmp .ge 26, 3) := by decide +kernel
theorem dX1_isInOrder_10 : decode cX1_isInOrder 10 = .ok (.aload_n 0, 1) := by decide +kernel
theorem dX1_isInOrder_11 : decode cX1_isInOrder 11 = .ok (.iload_n 1, 1) := by decide +kernel
theorem dX1_isInOrder_12 : decode cX1_isInOrder 12 = .ok (.iconst 1, 1) := by decide +kernel
theorem dX1_isInOrder_13 : decode cX1_isInOrder 13 = .ok (.isub, 1) := by decide +kernel
theorem dX1_isInOrder_14 : decode cX1_isInOrder 14 = .ok (.invokevirtual 25, 3) := by decide +kernel
theorem dX1_isInOrder_17 : decode cX1_isInOrder 17 = .ok (.aload_n 0, 1) := by decide +kernel
theorem dX1_isInOrder_18 : decode cX1_isInOrder 18 = .ok (.iload_n 1, 1) := by decide +kernel
theorem dX1_isInOrder_19 : decode cX1_isInOrder 19 = .ok (.invokevirtual 25, 3) := by decide +kernel
theorem dX1_isInOrder_22 : decode cX1_isInOrder 22 = .ok (.if_icmp .lt 5, 3) := by decide +kernel
theorem dX1_isInOrder_25 : decode cX1_isInOrder 25 = .ok (.iconst 0, 1) := by decide +kernel
theorem dX1_isInOrder_26 : decode cX1_isInOrder 26 = .ok (.ireturn, 1) := by decide +kernel
theorem dX1_isInOrder_27 : decode cX1_isInOrder 27 = .ok (.iinc 1 1, 3) := by decide +kernel
theorem dX1_isInOrder_30 : decode cX1_isInOrder 30 = .ok (.goto (-28), 3) := by decide +kernel
theorem dX1_isInOrder_33 : decode cX1_isInOrder 33 = .ok (.iconst 1, 1) := by decide +kernel
theorem dX1_isInOrder_34 : decode cX1_isInOrder 34 = .ok (.ireturn, 1) := by decide +kernel
theorem dX1_lay_0 : decode cX1_lay 0 = .ok (.aload_n 0, 1) := by decide +kernel
theorem dX1_lay_1 : decode cX1_lay 1 = .ok (.getfield 21, 3) := by decide +kernel
theorem dX1_lay_4 : decode cX1_lay 4 = .ok (.ifCond .lt 12, 3) := by decide +kernel
theorem dX1_lay_7 : decode cX1_lay 7 = .ok (.aload_n 0, 1) := by decide +kernel
theorem dX1_lay_8 : decode cX1_lay 8 = .ok (.getfield 21, 3) := by decide +kernel
theorem dX1_lay_11 : decode cX1_lay 11 = .ok (.bipush 30, 2) := by decide +kernel
theorem dX1_lay_13 : decode cX1_lay 13 = .ok (.if_icmp .lt 5, 3) := by decide +kernel
theorem dX1_lay_16 : decode cX1_lay 16 = .ok (.iconst (-1), 1) := by decide +kernel
theorem dX1_lay_17 : decode cX1_lay 17 = .ok (.ireturn, 1) := by decide +kernel
theorem dX1_lay_18 : decode cX1_lay 18 = .ok (.aload_n 0, 1) := by decide +kernel
theorem dX1_lay_19 : decode cX1_lay 19 = .ok (.iload_n 1, 1) := by decide +kernel
theorem dX1_lay_20 : decode cX1_lay 20 = .ok (.invokevirtual 65, 3) := by decide +kernel
theorem dX1_lay_23 : decode cX1_lay 23 = .ok (.istore_n 3, 1) := by decide +kernel
theorem dX1_lay_24 : decode cX1_lay 24 = .ok (.aload_n 0, 1) := by decide +kernel
theorem dX1_lay_25 : decode cX1_lay 25 = .ok (.iload_n 3, 1) := by decide +kernel
theorem dX1_lay_26 : decode cX1_lay 26 = .ok (.iconst 1, 1) := by decide +kernel
theorem dX1_lay_27 : decode cX1_lay 27 = .ok (.isub, 1) := by decide +kernel
theorem dX1_lay_28 : decode cX1_lay 28 = .ok (.invokevirtual 29, 3) := by decide +kernel
theorem dX1_lay_31 : decode cX1_lay 31 = .ok (.aload_n 0, 1) := by decide +kernel
theorem dX1_lay_32 : decode cX1_lay 32 = .ok (.iload_n 3, 1) := by decide +kernel
theorem dX1_lay_33 : decode cX1_lay 33 = .ok (.invokevirtual 29, 3) := by decide +kernel
theorem dX1_lay_36 : decode cX1_lay 36 = .ok (.invokestatic 32, 3) := by decide +kernel
theorem dX1_lay_39 : decode cX1_lay 39 = .ok (.iconst 1, 1) := by decide +kernel
theorem dX1_lay_40 : decode cX1_lay 40 = .ok (.iadd, 1) := by decide +kernel
theorem dX1_lay_41 : decode cX1_lay 41 = .ok (.istore 4, 2) := by decide +kernel
theorem dX1_lay_43 : decode cX1_lay 43 = .ok (.aload_n 0, 1) := by decide +kernel
theorem dX1_lay_44 : decode cX1_lay 44 = .ok (.getfield 21, 3) := by decide +kernel
theorem dX1_lay_47 : decode cX1_lay 47 = .ok (.istore 5, 2) := by decide +kernel
theorem dX1_lay_49 : decode cX1_lay 49 = .ok (.iload 5, 2) := by decide +kernel
theorem dX1_lay_51 : decode cX1_lay 51 = .ok (.iload_n 3, 1) := by decide +kernel
theorem dX1_lay_52 : decode cX1_lay 52 = .ok (.if_icmp .le 39, 3) := by decide +kernel
theorem dX1_lay_55 : decode cX1_lay 55 = .ok (.aload_n 0, 1) := by decide +kernel
theorem dX1_lay_56 : decode cX1_lay 56 = .ok (.iload 5, 2) := by decide +kernel
theorem dX1_lay_58 : decode cX1_lay 58 = .ok (.aload_n 0, 1) := by decide +kernel
theorem dX1_lay_59 : decode cX1_lay 59 = .ok (.iload 5, 2) := by decide +kernel
theorem dX1_lay_61 : decode cX1_lay 61 = .ok (.iconst 1, 1) := by decide +kernel
theorem dX1_lay_62 : decode cX1_lay 62 = .ok (.isub, 1) := by decide +kernel
theorem dX1_lay_63 : decode cX1_lay 63 = .ok (.invokevirtual 25, 3) := by decide +kernel
theorem dX1_lay_66 : decode cX1_lay 66 = .ok (.aload_n 0, 1) := by decide +kernel
theorem dX1_lay_67 : decode cX1_lay 67 = .ok (.iload 5, 2) := by decide +kernel
theorem dX1_lay_69 : decode cX1_lay 69 = .ok (.iconst 1, 1) := by decide +kernel
theorem dX1_lay_70 : decode cX1_lay 70 = .ok (.isub, 1) := by decide +kernel
theorem dX1_lay_71 : decode cX1_lay 71 = .ok (.invokevirtual 48, 3) := by decide +kernel
theorem dX1_lay_74 : decode cX1_lay 74 = .ok (.aload_n 0, 1) := by decide +kernel
theorem dX1_lay_75 : decode cX1_lay 75 = .ok (.iload 5, 2) := by decide +kernel
theorem dX1_lay_77 : decode cX1_lay 77 = .ok (.iconst 1, 1) := by decide +kernel
theorem dX1_lay_78 : decode cX1_lay 78 = .ok (.isub, 1) := by decide +kernel
theorem dX1_lay_79 : decode cX1_lay 79 = .ok (.invokevirtual 29, 3) := by decide +kernel
theorem dX1_lay_82 : decode cX1_lay 82 = .ok (.invokevirtual 68, 3) := by decide +kernel
theorem dX1_lay_85 : decode cX1_lay 85 = .ok (.iinc 5 (-1), 3) := by decide +kernel
theorem dX1_lay_88 : decode cX1_lay 88 = .ok (.goto (-39), 3) := by decide +kernel
theorem dX1_lay_91 : decode cX1_lay 91 = .ok (.aload_n 0, 1) := by decide +kernel
theorem dX1_lay_92 : decode cX1_lay 92 = .ok (.iload_n 3, 1) := by decide +kernel
theorem dX1_lay_93 : decode cX1_lay 93 = .ok (.iload_n 1, 1) := by decide +kernel
theorem dX1_lay_94 : decode cX1_lay 94 = .ok (.iload_n 2, 1) := by decide +kernel
theorem dX1_lay_95 : decode cX1_lay 95 = .ok (.iload 4, 2) := by decide +kernel
theorem dX1_lay_97 : decode cX1_lay 97 = .ok (.invokevirtual 68, 3) := by decide +kernel
theorem dX1_lay_100 : decode cX1_lay 100 = .ok (.aload_n 0, 1) := by decide +kernel
theorem dX1_lay_101 : decode cX1_lay 101 = .ok (.dup, 1) := by decide +kernel
theorem dX1_lay_102 : decode cX1_lay 102 = .ok (.getfield 21, 3) := by decide +kernel
theorem dX1_lay_105 : decode cX1_lay 105 = .ok (.iconst 1, 1) := by decide +kernel
theorem dX1_lay_106 : decode cX1_lay 106 = .ok (.iadd, 1) := by decide +kernel
theorem dX1_lay_107 : decode cX1_lay 107 = .ok (.putfield 21, 3) := by decide +kernel
theorem dX1_lay_110 : decode cX1_lay 110 = .ok (.iload_n 3, 1) := by decide +kernel
theorem dX1_lay_111 : decode cX1_lay 111 = .ok (.ireturn, 1) := by decide +kernel
theorem dX1_lift_0 : decode cX1_lift 0 = .ok (.aload_n 0, 1) := by decide +kernel
theorem dX1_lift_1 : decode cX1_lift 1 = .ok (.iload_n 1, 1) := by decide +kernel
theorem dX1_lift_2 : decode cX1_lift 2 = .ok (.invokevirtual 44, 3) := by decide +kernel
theorem dX1_lift_5 : decode cX1_lift 5 = .ok (.ifCond .ne 4, 3) := by decide +kernel
theorem dX1_lift_8 : decode cX1_lift 8 = .ok (.return_, 1) := by decide +kernel
theorem dX1_lift_9 : decode cX1_lift 9 = .ok (.aload_n 0, 1) := by decide +kernel
theorem dX1_lift_10 : decode cX1_lift 10 = .ok (.iload_n 1, 1) := by decide +kernel
theorem dX1_lift_11 : decode cX1_lift 11 = .ok (.invokevirtual 38, 3) := by decide +kernel
theorem dX1_lift_14 : decode cX1_lift 14 = .ok (.istore_n 2, 1) := by decide +kernel
theorem dX1_lift_15 : decode cX1_lift 15 = .ok (.aload_n 0, 1) := by decide +kernel
theorem dX1_lift_16 : decode cX1_lift 16 = .ok (.iload_n 1, 1) := by decide +kernel
theorem dX1_lift_17 : decode cX1_lift 17 = .ok (.invokevirtual 41, 3) := by decide +kernel
theorem dX1_lift_20 : decode cX1_lift 20 = .ok (.istore_n 3, 1) := by decide +kernel
theorem dX1_lift_21 : decode cX1_lift 21 = .ok (.iload_n 2, 1) := by decide +kernel
theorem dX1_lift_22 : decode cX1_lift 22 = .ok (.iload_n 1, 1) := by decide +kernel
theorem dX1_lift_23 : decode cX1_lift 23 = .ok (.if_icmp .ge 41, 3) := by decide +kernel
theorem dX1_lift_26 : decode cX1_lift 26 = .ok (.iload_n 1, 1) := by decide +kernel
theorem dX1_lift_27 : decode cX1_lift 27 = .ok (.iload_n 3, 1) := by decide +kernel
theorem dX1_lift_28 : decode cX1_lift 28 = .ok (.if_icmp .ge 36, 3) := by decide +kernel
theorem dX1_lift_31 : decode cX1_lift 31 = .ok (.iload_n 1, 1) := by decide +kernel
theorem dX1_lift_32 : decode cX1_lift 32 = .ok (.iconst 1, 1) := by decide +kernel
theorem dX1_lift_33 : decode cX1_lift 33 = .ok (.iadd, 1) := by decide +kernel
theorem dX1_lift_34 : decode cX1_lift 34 = .ok (.istore 4, 2) := by decide +kernel
theorem dX1_lift_36 : decode cX1_lift 36 = .ok (.aload_n 0, 1) := by decide +kernel
theorem dX1_lift_37 : decode cX1_lift 37 = .ok (.iload 4, 2) := by decide +kernel
theorem dX1_lift_39 : decode cX1_lift 39 = .ok (.iconst 1, 1) := by decide +kernel
theorem dX1_lift_40 : decode cX1_lift 40 = .ok (.iadd, 1) := by decide +kernel
theorem dX1_lift_41 : decode cX1_lift 41 = .ok (.aload_n 0, 1) := by decide +kernel
theorem dX1_lift_42 : decode cX1_lift 42 = .ok (.iload 4, 2) := by decide +kernel
theorem dX1_lift_44 : decode cX1_lift 44 = .ok (.invokevirtual 41, 3) := by decide +kernel
theorem dX1_lift_47 : decode cX1_lift 47 = .ok (.invokevirtual 72, 3) := by decide +kernel
theorem dX1_lift_50 : decode cX1_lift 50 = .ok (.aload_n 0, 1) := by decide +kernel
theorem dX1_lift_51 : decode cX1_lift 51 = .ok (.iload 4, 2) := by decide +kernel
theorem dX1_lift_53 : decode cX1_lift 53 = .ok (.aload_n 0, 1) := by decide +kernel
theorem dX1_lift_54 : decode cX1_lift 54 = .ok (.iload_n 1, 1) := by decide +kernel
theorem dX1_lift_55 : decode cX1_lift 55 = .ok (.invokevirtual 29, 3) := by decide +kernel
theorem dX1_lift_58 : decode cX1_lift 58 = .ok (.invokevirtual 76, 3) := by decide +kernel
theorem dX1_lift_61 : decode cX1_lift 61 = .ok (.goto 9, 3) := by decide +kernel
theorem dX1_lift_64 : decode cX1_lift 64 = .ok (.aload_n 0, 1) := by decide +kernel
theorem dX1_lift_65 : decode cX1_lift 65 = .ok (.iload_n 2, 1) := by decide +kernel
theorem dX1_lift_66 : decode cX1_lift 66 = .ok (.iload_n 3, 1) := by decide +kernel
theorem dX1_lift_67 : decode cX1_lift 67 = .ok (.invokevirtual 72, 3) := by decide +kernel
theorem dX1_lift_70 : decode cX1_lift 70 = .ok (.iload_n 1, 1) := by decide +kernel
theorem dX1_lift_71 : decode cX1_lift 71 = .ok (.istore 4, 2) := by decide +kernel
theorem dX1_lift_73 : decode cX1_lift 73 = .ok (.iload 4, 2) := by decide +kernel
theorem dX1_lift_75 : decode cX1_lift 75 = .ok (.aload_n 0, 1) := by decide +kernel
theorem dX1_lift_76 : decode cX1_lift 76 = .ok (.getfield 21, 3) := by decide +kernel
theorem dX1_lift_79 : decode cX1_lift 79 = .ok (.iconst 1, 1) := by decide +kernel
theorem dX1_lift_80 : decode cX1_lift 80 = .ok (.isub, 1) := by decide +kernel
theorem dX1_lift_81 : decode cX1_lift 81 = .ok (.if_icmp .ge 39, 3) := by decide +kernel
theorem dX1_lift_84 : decode cX1_lift 84 = .ok (.aload_n 0, 1) := by decide +kernel
theorem dX1_lift_85 : decode cX1_lift 85 = .ok (.iload 4, 2) := by decide +kernel
theorem dX1_lift_87 : decode cX1_lift 87 = .ok (.aload_n 0, 1) := by decide +kernel
theorem dX1_lift_88 : decode cX1_lift 88 = .ok (.iload 4, 2) := by decide +kernel
theorem dX1_lift_90 : decode cX1_lift 90 = .ok (.iconst 1, 1) := by decide +kernel
theorem dX1_lift_91 : decode cX1_lift 91 = .ok (.iadd, 1) := by decide +kernel
theorem dX1_lift_92 : decode cX1_lift 92 = .ok (.invokevirtual 25, 3) := by decide +kernel
theorem dX1_lift_95 : decode cX1_lift 95 = .ok (.aload_n 0, 1) := by decide +kernel
theorem dX1_lift_96 : decode cX1_lift 96 = .ok (.iload 4, 2) := by decide +kernel
theorem dX1_lift_98 : decode cX1_lift 98 = .ok (.iconst 1, 1) := by decide +kernel
theorem dX1_lift_99 : decode cX1_lift 99 = .ok (.iadd, 1) := by decide +kernel
theorem dX1_lift_100 : decode cX1_lift 100 = .ok (.invokevirtual 48, 3) := by decide +kernel
theorem dX1_lift_103 : decode cX1_lift 103 = .ok (.aload_n 0, 1) := by decide +kernel
theorem dX1_lift_104 : decode cX1_lift 104 = .ok (.iload 4, 2) := by decide +kernel
theorem dX1_lift_106 : decode cX1_lift 106 = .ok (.iconst 1, 1) := by decide +kernel
theorem dX1_lift_107 : decode cX1_lift 107 = .ok (.iadd, 1) := by decide +kernel
theorem dX1_lift_108 : decode cX1_lift 108 = .ok (.invokevirtual 29, 3) := by decide +kernel
theorem dX1_lift_111 : decode cX1_lift 111 = .ok (.invokevirtual 68, 3) := by decide +kernel
theorem dX1_lift_114 : decode cX1_lift 114 = .ok (.iinc 4 1, 3) := by decide +kernel
theorem dX1_lift_117 : decode cX1_lift 117 = .ok (.goto (-44), 3) := by decide +kernel
theorem dX1_lift_120 : decode cX1_lift 120 = .ok (.aload_n 0, 1) := by decide +kernel
theorem dX1_lift_121 : decode cX1_lift 121 = .ok (.dup, 1) := by decide +kernel
theorem dX1_lift_122 : decode cX1_lift 122 = .ok (.getfield 21, 3) := by decide +kernel
theorem dX1_lift_125 : decode cX1_lift 125 = .ok (.iconst 1, 1) := by decide +kernel
theorem dX1_lift_126 : decode cX1_lift 126 = .ok (.isub, 1) := by decide +kernel
theorem dX1_lift_127 : decode cX1_lift 127 = .ok (.putfield 21, 3) := by decide +kernel
theorem dX1_lift_130 : decode cX1_lift 130 = .ok (.return_, 1) := by decide +kernel
theorem dX1_buildPartAbove_0 : decode cX1_buildPartAbove 0 = .ok (.aload_n 0, 1) := by decide +kernel
theorem dX1_buildPartAbove_1 : decode cX1_buildPartAbove 1 = .ok (.iload_n 1, 1) := by decide +kernel
theorem dX1_buildPartAbove_2 : decode cX1_buildPartAbove 2 = .ok (.invokevirtual 79, 3) := by decide +kernel
theorem dX1_buildPartAbove_5 : decode cX1_buildPartAbove 5 = .ok (.istore_n 3, 1) := by decide +kernel
theorem dX1_buildPartAbove_6 : decode cX1_buildPartAbove 6 = .ok (.iconst 0, 1) := by decide +kernel
theorem dX1_buildPartAbove_7 : decode cX1_buildPartAbove 7 = .ok (.istore 4, 2) := by decide +kernel
theorem dX1_buildPartAbove_9 : decode cX1_buildPartAbove 9 = .ok (.iload 4, 2) := by decide +kernel
theorem dX1_buildPartAbove_11 : decode cX1_buildPartAbove 11 = .ok (.bipush 30, 2) := by decide +kernel
theorem dX1_buildPartAbove_13 : decode cX1_buildPartAbove 13 = .ok (.if_icmp .ge 68, 3) := by decide +kernel
theorem dX1_buildPartAbove_16 : decode cX1_buildPartAbove 16 = .ok (.aload_n 0, 1) := by decide +kernel
theorem dX1_buildPartAbove_17 : decode cX1_buildPartAbove 17 = .ok (.iload_n 3, 1) := by decide +kernel
theorem dX1_buildPartAbove_18 : decode cX1_buildPartAbove 18 = .ok (.invokevirtual 44, 3) := by decide +kernel
theorem dX1_buildPartAbove_21 : decode cX1_buildPartAbove 21 = .ok (.ifCond .eq 60, 3) := by decide +kernel
theorem dX1_buildPartAbove_24 : decode cX1_buildPartAbove 24 = .ok (.aload_n 0, 1) := by decide +kernel
theorem dX1_buildPartAbove_25 : decode cX1_buildPartAbove 25 = .ok (.iload_n 3, 1) := by decide +kernel
theorem dX1_buildPartAbove_26 : decode cX1_buildPartAbove 26 = .ok (.iload_n 2, 1) := by decide +kernel
theorem dX1_buildPartAbove_27 : decode cX1_buildPartAbove 27 = .ok (.invokevirtual 51, 3) := by decide +kernel
theorem dX1_buildPartAbove_30 : decode cX1_buildPartAbove 30 = .ok (.ifCond .eq 39, 3) := by decide +kernel
theorem dX1_buildPartAbove_33 : decode cX1_buildPartAbove 33 = .ok (.aload_n 0, 1) := by decide +kernel
theorem dX1_buildPartAbove_34 : decode cX1_buildPartAbove 34 = .ok (.iload_n 3, 1) := by decide +kernel
theorem dX1_buildPartAbove_35 : decode cX1_buildPartAbove 35 = .ok (.invokevirtual 38, 3) := by decide +kernel
theorem dX1_buildPartAbove_38 : decode cX1_buildPartAbove 38 = .ok (.istore 5, 2) := by decide +kernel
theorem dX1_buildPartAbove_40 : decode cX1_buildPartAbove 40 = .ok (.aload_n 0, 1) := by decide +kernel
theorem dX1_buildPartAbove_41 : decode cX1_buildPartAbove 41 = .ok (.iload_n 3, 1) := by decide +kernel
theorem dX1_buildPartAbove_42 : decode cX1_buildPartAbove 42 = .ok (.invokevirtual 41, 3) := by decide +kernel
theorem dX1_buildPartAbove_45 : decode cX1_buildPartAbove 45 = .ok (.istore 6, 2) := by decide +kernel
theorem dX1_buildPartAbove_47 : decode cX1_buildPartAbove 47 = .ok (.aload_n 0, 1) := by decide +kernel
theorem dX1_buildPartAbove_48 : decode cX1_buildPartAbove 48 = .ok (.iload 5, 2) := by decide +kernel
theorem dX1_buildPartAbove_50 : decode cX1_buildPartAbove 50 = .ok (.iload 6, 2) := by decide +kernel
theorem dX1_buildPartAbove_52 : decode cX1_buildPartAbove 52 = .ok (.aload_n 0, 1) := by decide +kernel
theorem dX1_buildPartAbove_53 : decode cX1_buildPartAbove 53 = .ok (.iload_n 3, 1) := by decide +kernel
theorem dX1_buildPartAbove_54 : decode cX1_buildPartAbove 54 = .ok (.invokevirtual 29, 3) := by decide +kernel
theorem dX1_buildPartAbove_57 : decode cX1_buildPartAbove 57 = .ok (.invokestatic 82, 3) := by decide +kernel
theorem dX1_buildPartAbove_60 : decode cX1_buildPartAbove 60 = .ok (.pop, 1) := by decide +kernel
theorem dX1_buildPartAbove_61 : decode cX1_buildPartAbove 61 = .ok (.iload 6, 2) := by decide +kernel
theorem dX1_buildPartAbove_63 : decode cX1_buildPartAbove 63 = .ok (.iload 5, 2) := by decide +kernel
theorem dX1_buildPartAbove_65 : decode cX1_buildPartAbove 65 = .ok (.isub, 1) := by decide +kernel
theorem dX1_buildPartAbove_66 : decode cX1_buildPartAbove 66 = .ok (.iconst 1, 1) := by decide +kernel
theorem dX1_buildPartAbove_67 : decode cX1_buildPartAbove 67 = .ok (.iadd, 1) := by decide +kernel
theorem dX1_buildPartAbove_68 : decode cX1_buildPartAbove 68 = .ok (.ireturn, 1) := by decide +kernel
theorem dX1_buildPartAbove_69 : decode cX1_buildPartAbove 69 = .ok (.aload_n 0, 1) := by decide +kernel
theorem dX1_buildPartAbove_70 : decode cX1_buildPartAbove 70 = .ok (.iload_n 3, 1) := by decide +kernel
theorem dX1_buildPartAbove_71 : decode cX1_buildPartAbove 71 = .ok (.invokevirtual 79, 3) := by decide +kernel
theorem dX1_buildPartAbove_74 : decode cX1_buildPartAbove 74 = .ok (.istore_n 3, 1) := by decide +kernel
theorem dX1_buildPartAbove_75 : decode cX1_buildPartAbove 75 = .ok (.iinc 4 1, 3) := by decide +kernel
theorem dX1_buildPartAbove_78 : decode cX1_buildPartAbove 78 = .ok (.goto (-69), 3) := by decide +kernel
theorem dX1_buildPartAbove_81 : decode cX1_buildPartAbove 81 = .ok (.iconst 0, 1) := by decide +kernel
theorem dX1_buildPartAbove_82 : decode cX1_buildPartAbove 82 = .ok (.ireturn, 1) := by decide +kernel
theorem dX1_buildWhole_0 : decode cX1_buildWhole 0 = .ok (.aload_n 0, 1) := by decide +kernel
theorem dX1_buildWhole_1 : decode cX1_buildWhole 1 = .ok (.aload_n 0, 1) := by decide +kernel
theorem dX1_buildWhole_2 : decode cX1_buildWhole 2 = .ok (.getfield 21, 3) := by decide +kernel
theorem dX1_buildWhole_5 : decode cX1_buildWhole 5 = .ok (.putfield 86, 3) := by decide +kernel
theorem dX1_buildWhole_8 : decode cX1_buildWhole 8 = .ok (.aload_n 0, 1) := by decide +kernel
theorem dX1_buildWhole_9 : decode cX1_buildWhole 9 = .ok (.iconst 0, 1) := by decide +kernel
theorem dX1_buildWhole_10 : decode cX1_buildWhole 10 = .ok (.aload_n 0, 1) := by decide +kernel
theorem dX1_buildWhole_11 : decode cX1_buildWhole 11 = .ok (.getfield 21, 3) := by decide +kernel
theorem dX1_buildWhole_14 : decode cX1_buildWhole 14 = .ok (.iconst 1, 1) := by decide +kernel
theorem dX1_buildWhole_15 : decode cX1_buildWhole 15 = .ok (.isub, 1) := by decide +kernel
theorem dX1_buildWhole_16 : decode cX1_buildWhole 16 = .ok (.iconst 0, 1) := by decide +kernel
theorem dX1_buildWhole_17 : decode cX1_buildWhole 17 = .ok (.invokestatic 82, 3) := by decide +kernel
theorem dX1_buildWhole_20 : decode cX1_buildWhole 20 = .ok (.ireturn, 1) := by decide +kernel
theorem dX1_spread_0 : decode cX1_spread 0 = .ok (.iload_n 1, 1) := by decide +kernel
theorem dX1_spread_1 : decode cX1_spread 1 = .ok (.iload_n 2, 1) := by decide +kernel
theorem dX1_spread_2 : decode cX1_spread 2 = .ok (.if_icmp .gt 9, 3) := by decide +kernel
theorem dX1_spread_5 : decode cX1_spread 5 = .ok (.iload_n 3, 1) := by decide +kernel
theorem dX1_spread_6 : decode cX1_spread 6 = .ok (.bipush 30, 2) := by decide +kernel
theorem dX1_spread_8 : decode cX1_spread 8 = .ok (.if_icmp .le 5, 3) := by decide +kernel
theorem dX1_spread_11 : decode cX1_spread 11 = .ok (.iconst 0, 1) := by decide +kernel
theorem dX1_spread_12 : decode cX1_spread 12 = .ok (.ireturn, 1) := by decide +kernel
theorem dX1_spread_13 : decode cX1_spread 13 = .ok (.iload_n 1, 1) := by decide +kernel
theorem dX1_spread_14 : decode cX1_spread 14 = .ok (.iload_n 2, 1) := by decide +kernel
theorem dX1_spread_15 : decode cX1_spread 15 = .ok (.iadd, 1) := by decide +kernel
theorem dX1_spread_16 : decode cX1_spread 16 = .ok (.iconst 2, 1) := by decide +kernel
theorem dX1_spread_17 : decode cX1_spread 17 = .ok (.idiv, 1) := by decide +kernel
theorem dX1_spread_18 : decode cX1_spread 18 = .ok (.istore 4, 2) := by decide +kernel
theorem dX1_spread_20 : decode cX1_spread 20 = .ok (.aload_n 0, 1) := by decide +kernel
theorem dX1_spread_21 : decode cX1_spread 21 = .ok (.iload 4, 2) := by decide +kernel
theorem dX1_spread_23 : decode cX1_spread 23 = .ok (.invokevirtual 29, 3) := by decide +kernel
theorem dX1_spread_26 : decode cX1_spread 26 = .ok (.iload_n 3, 1) := by decide +kernel
theorem dX1_spread_27 : decode cX1_spread 27 = .ok (.if_icmp .ne 7, 3) := by decide +kernel
theorem dX1_spread_30 : decode cX1_spread 30 = .ok (.iconst 0, 1) := by decide +kernel
theorem dX1_spread_31 : decode cX1_spread 31 = .ok (.goto 4, 3) := by decide +kernel
theorem dX1_spread_34 : decode cX1_spread 34 = .ok (.iconst 1, 1) := by decide +kernel
theorem dX1_spread_35 : decode cX1_spread 35 = .ok (.istore 5, 2) := by decide +kernel
theorem dX1_spread_37 : decode cX1_spread 37 = .ok (.aload_n 0, 1) := by decide +kernel
theorem dX1_spread_38 : decode cX1_spread 38 = .ok (.iload 4, 2) := by decide +kernel
theorem dX1_spread_40 : decode cX1_spread 40 = .ok (.iload_n 3, 1) := by decide +kernel
theorem dX1_spread_41 : decode cX1_spread 41 = .ok (.invokevirtual 76, 3) := by decide +kernel
theorem dX1_spread_44 : decode cX1_spread 44 = .ok (.iload 5, 2) := by decide +kernel
theorem dX1_spread_46 : decode cX1_spread 46 = .ok (.aload_n 0, 1) := by decide +kernel
theorem dX1_spread_47 : decode cX1_spread 47 = .ok (.iload_n 1, 1) := by decide +kernel
theorem dX1_spread_48 : decode cX1_spread 48 = .ok (.iload 4, 2) := by decide +kernel
theorem dX1_spread_50 : decode cX1_spread 50 = .ok (.iconst 1, 1) := by decide +kernel
theorem dX1_spread_51 : decode cX1_spread 51 = .ok (.isub, 1) := by decide +kernel
theorem dX1_spread_52 : decode cX1_spread 52 = .ok (.iload_n 3, 1) := by decide +kernel
theorem dX1_spread_53 : decode cX1_spread 53 = .ok (.iconst 1, 1) := by decide +kernel
theorem dX1_spread_54 : decode cX1_spread 54 = .ok (.iadd, 1) := by decide +kernel
theorem dX1_spread_55 : decode cX1_spread 55 = .ok (.invokestatic 82, 3) := by decide +kernel
theorem dX1_spread_58 : decode cX1_spread 58 = .ok (.iadd, 1) := by decide +kernel
theorem dX1_spread_59 : decode cX1_spread 59 = .ok (.aload_n 0, 1) := by decide +kernel
theorem dX1_spread_60 : decode cX1_spread 60 = .ok (.iload 4, 2) := by decide +kernel
theorem dX1_spread_62 : decode cX1_spread 62 = .ok (.iconst 1, 1) := by decide +kernel
theorem dX1_spread_63 : decode cX1_spread 63 = .ok (.iadd, 1) := by decide +kernel
theorem dX1_spread_64 : decode cX1_spread 64 = .ok (.iload_n 2, 1) := by decide +kernel
theorem dX1_spread_65 : decode cX1_spread 65 = .ok (.iload_n 3, 1) := by decide +kernel
theorem dX1_spread_66 : decode cX1_spread 66 = .ok (.iconst 1, 1) := by decide +kernel
theorem dX1_spread_67 : decode cX1_spread 67 = .ok (.iadd, 1) := by decide +kernel
theorem dX1_spread_68 : decode cX1_spread 68 = .ok (.invokestatic 82, 3) := by decide +kernel
theorem dX1_spread_71 : decode cX1_spread 71 = .ok (.iadd, 1) := by decide +kernel
theorem dX1_spread_72 : decode cX1_spread 72 = .ok (.ireturn, 1) := by decide +kernel
theorem dX1_raise_0 : decode cX1_raise 0 = .ok (.iload_n 1, 1) := by decide +kernel
theorem dX1_raise_1 : decode cX1_raise 1 = .ok (.istore_n 3, 1) := by decide +kernel
theorem dX1_raise_2 : decode cX1_raise 2 = .ok (.iload_n 3, 1) := by decide +kernel
theorem dX1_raise_3 : decode cX1_raise 3 = .ok (.iload_n 2, 1) := by decide +kernel
theorem dX1_raise_4 : decode cX1_raise 4 = .ok (.if_icmp .gt 29, 3) := by decide +kernel
theorem dX1_raise_7 : decode cX1_raise 7 = .ok (.iload_n 3, 1) := by decide +kernel
theorem dX1_raise_8 : decode cX1_raise 8 = .ok (.aload_n 0, 1) := by decide +kernel
theorem dX1_raise_9 : decode cX1_raise 9 = .ok (.getfield 21, 3) := by decide +kernel
theorem dX1_raise_12 : decode cX1_raise 12 = .ok (.if_icmp .ge 21, 3) := by decide +kernel
theorem dX1_raise_15 : decode cX1_raise 15 = .ok (.aload_n 0, 1) := by decide +kernel
theorem dX1_raise_16 : decode cX1_raise 16 = .ok (.iload_n 3, 1) := by decide +kernel
theorem dX1_raise_17 : decode cX1_raise 17 = .ok (.aload_n 0, 1) := by decide +kernel
theorem dX1_raise_18 : decode cX1_raise 18 = .ok (.iload_n 3, 1) := by decide +kernel
theorem dX1_raise_19 : decode cX1_raise 19 = .ok (.invokevirtual 29, 3) := by decide +kernel
theorem dX1_raise_22 : decode cX1_raise 22 = .ok (.iconst 1, 1) := by decide +kernel
theorem dX1_raise_23 : decode cX1_raise 23 = .ok (.isub, 1) := by decide +kernel
theorem dX1_raise_24 : decode cX1_raise 24 = .ok (.invokevirtual 76, 3) := by decide +kernel
theorem dX1_raise_27 : decode cX1_raise 27 = .ok (.iinc 3 1, 3) := by decide +kernel
theorem dX1_raise_30 : decode cX1_raise 30 = .ok (.goto (-28), 3) := by decide +kernel
theorem dX1_raise_33 : decode cX1_raise 33 = .ok (.return_, 1) := by decide +kernel
theorem dX1_set_0 : decode cX1_set 0 = .ok (.iload_n 1, 1) := by decide +kernel
theorem dX1_set_1 : decode cX1_set 1 = .ok (.ifCond .lt 31, 3) := by decide +kernel
theorem dX1_set_4 : decode cX1_set 4 = .ok (.iload_n 1, 1) := by decide +kernel
theorem dX1_set_5 : decode cX1_set 5 = .ok (.bipush 30, 2) := by decide +kernel
theorem dX1_set_7 : decode cX1_set 7 = .ok (.if_icmp .ge 25, 3) := by decide +kernel
theorem dX1_set_10 : decode cX1_set 10 = .ok (.aload_n 0, 1) := by decide +kernel
theorem dX1_set_11 : decode cX1_set 11 = .ok (.getfield 9, 3) := by decide +kernel
theorem dX1_set_14 : decode cX1_set 14 = .ok (.iload_n 1, 1) := by decide +kernel
theorem dX1_set_15 : decode cX1_set 15 = .ok (.iload_n 2, 1) := by decide +kernel
theorem dX1_set_16 : decode cX1_set 16 = .ok (.iastore, 1) := by decide +kernel
theorem dX1_set_17 : decode cX1_set 17 = .ok (.aload_n 0, 1) := by decide +kernel
theorem dX1_set_18 : decode cX1_set 18 = .ok (.getfield 15, 3) := by decide +kernel
theorem dX1_set_21 : decode cX1_set 21 = .ok (.iload_n 1, 1) := by decide +kernel
theorem dX1_set_22 : decode cX1_set 22 = .ok (.iload_n 3, 1) := by decide +kernel
theorem dX1_set_23 : decode cX1_set 23 = .ok (.iastore, 1) := by decide +kernel
theorem dX1_set_24 : decode cX1_set 24 = .ok (.aload_n 0, 1) := by decide +kernel
theorem dX1_set_25 : decode cX1_set 25 = .ok (.getfield 18, 3) := by decide +kernel
theorem dX1_set_28 : decode cX1_set 28 = .ok (.iload_n 1, 1) := by decide +kernel
theorem dX1_set_29 : decode cX1_set 29 = .ok (.iload 4, 2) := by decide +kernel
theorem dX1_set_31 : decode cX1_set 31 = .ok (.iastore, 1) := by decide +kernel
theorem dX1_set_32 : decode cX1_set 32 = .ok (.return_, 1) := by decide +kernel
theorem dX1_setDepth_0 : decode cX1_setDepth 0 = .ok (.iload_n 1, 1) := by decide +kernel
theorem dX1_setDepth_1 : decode cX1_setDepth 1 = .ok (.ifCond .lt 16, 3) := by decide +kernel
theorem dX1_setDepth_4 : decode cX1_setDepth 4 = .ok (.iload_n 1, 1) := by decide +kernel
theorem dX1_setDepth_5 : decode cX1_setDepth 5 = .ok (.bipush 30, 2) := by decide +kernel
theorem dX1_setDepth_7 : decode cX1_setDepth 7 = .ok (.if_icmp .ge 10, 3) := by decide +kernel
theorem dX1_setDepth_10 : decode cX1_setDepth 10 = .ok (.aload_n 0, 1) := by decide +kernel
theorem dX1_setDepth_11 : decode cX1_setDepth 11 = .ok (.getfield 18, 3) := by decide +kernel
theorem dX1_setDepth_14 : decode cX1_setDepth 14 = .ok (.iload_n 1, 1) := by decide +kernel
theorem dX1_setDepth_15 : decode cX1_setDepth 15 = .ok (.iload_n 2, 1) := by decide +kernel
theorem dX1_setDepth_16 : decode cX1_setDepth 16 = .ok (.iastore, 1) := by decide +kernel
theorem dX1_setDepth_17 : decode cX1_setDepth 17 = .ok (.return_, 1) := by decide +kernel
theorem dX1_copyFrom_0 : decode cX1_copyFrom 0 = .ok (.aload_n 1, 1) := by decide +kernel
theorem dX1_copyFrom_1 : decode cX1_copyFrom 1 = .ok (.getfield 9, 3) := by decide +kernel
theorem dX1_copyFrom_4 : decode cX1_copyFrom 4 = .ok (.iconst 0, 1) := by decide +kernel
theorem dX1_copyFrom_5 : decode cX1_copyFrom 5 = .ok (.aload_n 0, 1) := by decide +kernel
theorem dX1_copyFrom_6 : decode cX1_copyFrom 6 = .ok (.getfield 9, 3) := by decide +kernel
theorem dX1_copyFrom_9 : decode cX1_copyFrom 9 = .ok (.iconst 0, 1) := by decide +kernel
theorem dX1_copyFrom_10 : decode cX1_copyFrom 10 = .ok (.bipush 30, 2) := by decide +kernel
theorem dX1_copyFrom_12 : decode cX1_copyFrom 12 = .ok (.invokestatic 89, 3) := by decide +kernel
theorem dX1_copyFrom_15 : decode cX1_copyFrom 15 = .ok (.aload_n 1, 1) := by decide +kernel
theorem dX1_copyFrom_16 : decode cX1_copyFrom 16 = .ok (.getfield 15, 3) := by decide +kernel
theorem dX1_copyFrom_19 : decode cX1_copyFrom 19 = .ok (.iconst 0, 1) := by decide +kernel
theorem dX1_copyFrom_20 : decode cX1_copyFrom 20 = .ok (.aload_n 0, 1) := by decide +kernel
theorem dX1_copyFrom_21 : decode cX1_copyFrom 21 = .ok (.getfield 15, 3) := by decide +kernel
theorem dX1_copyFrom_24 : decode cX1_copyFrom 24 = .ok (.iconst 0, 1) := by decide +kernel
theorem dX1_copyFrom_25 : decode cX1_copyFrom 25 = .ok (.bipush 30, 2) := by decide +kernel
theorem dX1_copyFrom_27 : decode cX1_copyFrom 27 = .ok (.invokestatic 89, 3) := by decide +kernel
theorem dX1_copyFrom_30 : decode cX1_copyFrom 30 = .ok (.aload_n 1, 1) := by decide +kernel
theorem dX1_copyFrom_31 : decode cX1_copyFrom 31 = .ok (.getfield 18, 3) := by decide +kernel
theorem dX1_copyFrom_34 : decode cX1_copyFrom 34 = .ok (.iconst 0, 1) := by decide +kernel
theorem dX1_copyFrom_35 : decode cX1_copyFrom 35 = .ok (.aload_n 0, 1) := by decide +kernel
theorem dX1_copyFrom_36 : decode cX1_copyFrom 36 = .ok (.getfield 18, 3) := by decide +kernel
theorem dX1_copyFrom_39 : decode cX1_copyFrom 39 = .ok (.iconst 0, 1) := by decide +kernel
theorem dX1_copyFrom_40 : decode cX1_copyFrom 40 = .ok (.bipush 30, 2) := by decide +kernel
theorem dX1_copyFrom_42 : decode cX1_copyFrom 42 = .ok (.invokestatic 89, 3) := by decide +kernel
theorem dX1_copyFrom_45 : decode cX1_copyFrom 45 = .ok (.aload_n 0, 1) := by decide +kernel
theorem dX1_copyFrom_46 : decode cX1_copyFrom 46 = .ok (.aload_n 1, 1) := by decide +kernel
theorem dX1_copyFrom_47 : decode cX1_copyFrom 47 = .ok (.getfield 21, 3) := by decide +kernel
theorem dX1_copyFrom_50 : decode cX1_copyFrom 50 = .ok (.putfield 21, 3) := by decide +kernel
theorem dX1_copyFrom_53 : decode cX1_copyFrom 53 = .ok (.aload_n 0, 1) := by decide +kernel
theorem dX1_copyFrom_54 : decode cX1_copyFrom 54 = .ok (.aload_n 1, 1) := by decide +kernel
theorem dX1_copyFrom_55 : decode cX1_copyFrom 55 = .ok (.getfield 86, 3) := by decide +kernel
theorem dX1_copyFrom_58 : decode cX1_copyFrom 58 = .ok (.putfield 86, 3) := by decide +kernel
theorem dX1_copyFrom_61 : decode cX1_copyFrom 61 = .ok (.return_, 1) := by decide +kernel
theorem dX2_init_0 : decode cX2_init 0 = .ok (.aload_n 0, 1) := by decide +kernel
theorem dX2_init_1 : decode cX2_init 1 = .ok (.invokespecial 3, 3) := by decide +kernel
theorem dX2_init_4 : decode cX2_init 4 = .ok (.aload_n 0, 1) := by decide +kernel
theorem dX2_init_5 : decode cX2_init 5 = .ok (.bipush 60, 2) := by decide +kernel
theorem dX2_init_7 : decode cX2_init 7 = .ok (.newarray .int, 2) := by decide +kernel
theorem dX2_init_9 : decode cX2_init 9 = .ok (.putfield 9, 3) := by decide +kernel
theorem dX2_init_12 : decode cX2_init 12 = .ok (.return_, 1) := by decide +kernel
theorem dX2_clear_0 : decode cX2_clear 0 = .ok (.aload_n 0, 1) := by decide +kernel
theorem dX2_clear_1 : decode cX2_clear 1 = .ok (.iconst 0, 1) := by decide +kernel
theorem dX2_clear_2 : decode cX2_clear 2 = .ok (.putfield 15, 3) := by decide +kernel
theorem dX2_clear_5 : decode cX2_clear 5 = .ok (.return_, 1) := by decide +kernel
theorem dX2_add_0 : decode cX2_add 0 = .ok (.aload_n 0, 1) := by decide +kernel
theorem dX2_add_1 : decode cX2_add 1 = .ok (.getfield 15, 3) := by decide +kernel
theorem dX2_add_4 : decode cX2_add 4 = .ok (.ifCond .lt 12, 3) := by decide +kernel
theorem dX2_add_7 : decode cX2_add 7 = .ok (.aload_n 0, 1) := by decide +kernel
theorem dX2_add_8 : decode cX2_add 8 = .ok (.getfield 15, 3) := by decide +kernel
theorem dX2_add_11 : decode cX2_add 11 = .ok (.bipush 60, 2) := by decide +kernel
theorem dX2_add_13 : decode cX2_add 13 = .ok (.if_icmp .lt 5, 3) := by decide +kernel
theorem dX2_add_16 : decode cX2_add 16 = .ok (.iconst 0, 1) := by decide +kernel
theorem dX2_add_17 : decode cX2_add 17 = .ok (.ireturn, 1) := by decide +kernel
theorem dX2_add_18 : decode cX2_add 18 = .ok (.aload_n 0, 1) := by decide +kernel
theorem dX2_add_19 : decode cX2_add 19 = .ok (.getfield 9, 3) := by decide +kernel
theorem dX2_add_22 : decode cX2_add 22 = .ok (.aload_n 0, 1) := by decide +kernel
theorem dX2_add_23 : decode cX2_add 23 = .ok (.getfield 15, 3) := by decide +kernel
theorem dX2_add_26 : decode cX2_add 26 = .ok (.iload_n 1, 1) := by decide +kernel
theorem dX2_add_27 : decode cX2_add 27 = .ok (.iastore, 1) := by decide +kernel
theorem dX2_add_28 : decode cX2_add 28 = .ok (.aload_n 0, 1) := by decide +kernel
theorem dX2_add_29 : decode cX2_add 29 = .ok (.dup, 1) := by decide +kernel
theorem dX2_add_30 : decode cX2_add 30 = .ok (.getfield 15, 3) := by decide +kernel
theorem dX2_add_33 : decode cX2_add 33 = .ok (.iconst 1, 1) := by decide +kernel
theorem dX2_add_34 : decode cX2_add 34 = .ok (.iadd, 1) := by decide +kernel
theorem dX2_add_35 : decode cX2_add 35 = .ok (.putfield 15, 3) := by decide +kernel
theorem dX2_add_38 : decode cX2_add 38 = .ok (.iconst 1, 1) := by decide +kernel
theorem dX2_add_39 : decode cX2_add 39 = .ok (.ireturn, 1) := by decide +kernel
theorem dX2_addNumber_0 : decode cX2_addNumber 0 = .ok (.iload_n 1, 1) := by decide +kernel
theorem dX2_addNumber_1 : decode cX2_addNumber 1 = .ok (.bipush 100, 2) := by decide +kernel
theorem dX2_addNumber_3 : decode cX2_addNumber 3 = .ok (.if_icmp .lt 18, 3) := by decide +kernel
theorem dX2_addNumber_6 : decode cX2_addNumber 6 = .ok (.aload_n 0, 1) := by decide +kernel
theorem dX2_addNumber_7 : decode cX2_addNumber 7 = .ok (.bipush 48, 2) := by decide +kernel
theorem dX2_addNumber_9 : decode cX2_addNumber 9 = .ok (.iload_n 1, 1) := by decide +kernel
theorem dX2_addNumber_10 : decode cX2_addNumber 10 = .ok (.bipush 100, 2) := by decide +kernel
theorem dX2_addNumber_12 : decode cX2_addNumber 12 = .ok (.idiv, 1) := by decide +kernel
theorem dX2_addNumber_13 : decode cX2_addNumber 13 = .ok (.bipush 10, 2) := by decide +kernel
theorem dX2_addNumber_15 : decode cX2_addNumber 15 = .ok (.irem, 1) := by decide +kernel
theorem dX2_addNumber_16 : decode cX2_addNumber 16 = .ok (.iadd, 1) := by decide +kernel
theorem dX2_addNumber_17 : decode cX2_addNumber 17 = .ok (.invokevirtual 19, 3) := by decide +kernel
theorem dX2_addNumber_20 : decode cX2_addNumber 20 = .ok (.pop, 1) := by decide +kernel
theorem dX2_addNumber_21 : decode cX2_addNumber 21 = .ok (.iload_n 1, 1) := by decide +kernel
theorem dX2_addNumber_22 : decode cX2_addNumber 22 = .ok (.bipush 10, 2) := by decide +kernel
theorem dX2_addNumber_24 : decode cX2_addNumber 24 = .ok (.if_icmp .lt 18, 3) := by decide +kernel
theorem dX2_addNumber_27 : decode cX2_addNumber 27 = .ok (.aload_n 0, 1) := by decide +kernel
theorem dX2_addNumber_28 : decode cX2_addNumber 28 = .ok (.bipush 48, 2) := by decide +kernel
theorem dX2_addNumber_30 : decode cX2_addNumber 30 = .ok (.iload_n 1, 1) := by decide +kernel
theorem dX2_addNumber_31 : decode cX2_addNumber 31 = .ok (.bipush 10, 2) := by decide +kernel
theorem dX2_addNumber_33 : decode cX2_addNumber 33 = .ok (.idiv, 1) := by decide +kernel
theorem dX2_addNumber_34 : decode cX2_addNumber 34 = .ok (.bipush 10, 2) := by decide +kernel
theorem dX2_addNumber_36 : decode cX2_addNumber 36 = .ok (.irem, 1) := by decide +kernel
theorem dX2_addNumber_37 : decode cX2_addNumber 37 = .ok (.iadd, 1) := by decide +kernel
theorem dX2_addNumber_38 : decode cX2_addNumber 38 = .ok (.invokevirtual 19, 3) := by decide +kernel
theorem dX2_addNumber_41 : decode cX2_addNumber 41 = .ok (.pop, 1) := by decide +kernel
theorem dX2_addNumber_42 : decode cX2_addNumber 42 = .ok (.aload_n 0, 1) := by decide +kernel
theorem dX2_addNumber_43 : decode cX2_addNumber 43 = .ok (.bipush 48, 2) := by decide +kernel
theorem dX2_addNumber_45 : decode cX2_addNumber 45 = .ok (.iload_n 1, 1) := by decide +kernel
theorem dX2_addNumber_46 : decode cX2_addNumber 46 = .ok (.bipush 10, 2) := by decide +kernel
theorem dX2_addNumber_48 : decode cX2_addNumber 48 = .ok (.irem, 1) := by decide +kernel
theorem dX2_addNumber_49 : decode cX2_addNumber 49 = .ok (.iadd, 1) := by decide +kernel
theorem dX2_addNumber_50 : decode cX2_addNumber 50 = .ok (.invokevirtual 19, 3) := by decide +kernel
theorem dX2_addNumber_53 : decode cX2_addNumber 53 = .ok (.pop, 1) := by decide +kernel
theorem dX2_addNumber_54 : decode cX2_addNumber 54 = .ok (.return_, 1) := by decide +kernel
theorem dX2_codeAt_0 : decode cX2_codeAt 0 = .ok (.iload_n 1, 1) := by decide +kernel
theorem dX2_codeAt_1 : decode cX2_codeAt 1 = .ok (.ifCond .lt 26, 3) := by decide +kernel
theorem dX2_codeAt_4 : decode cX2_codeAt 4 = .ok (.iload_n 1, 1) := by decide +kernel
theorem dX2_codeAt_5 : decode cX2_codeAt 5 = .ok (.aload_n 0, 1) := by decide +kernel
theorem dX2_codeAt_6 : decode cX2_codeAt 6 = .ok (.getfield 15, 3) := by decide +kernel
theorem dX2_codeAt_9 : decode cX2_codeAt 9 = .ok (.if_icmp .ge 18, 3) := by decide +kernel
theorem dX2_codeAt_12 : decode cX2_codeAt 12 = .ok (.iload_n 1, 1) := by decide +kernel
theorem dX2_codeAt_13 : decode cX2_codeAt 13 = .ok (.bipush 60, 2) := by decide +kernel
theorem dX2_codeAt_15 : decode cX2_codeAt 15 = .ok (.if_icmp .ge 12, 3) := by decide +kernel
theorem dX2_codeAt_18 : decode cX2_codeAt 18 = .ok (.aload_n 0, 1) := by decide +kernel
theorem dX2_codeAt_19 : decode cX2_codeAt 19 = .ok (.getfield 9, 3) := by decide +kernel
theorem dX2_codeAt_22 : decode cX2_codeAt 22 = .ok (.iload_n 1, 1) := by decide +kernel
theorem dX2_codeAt_23 : decode cX2_codeAt 23 = .ok (.iaload, 1) := by decide +kernel
theorem dX2_codeAt_24 : decode cX2_codeAt 24 = .ok (.goto 5, 3) := by decide +kernel
theorem dX2_codeAt_27 : decode cX2_codeAt 27 = .ok (.bipush (-11), 2) := by decide +kernel
theorem dX2_codeAt_29 : decode cX2_codeAt 29 = .ok (.ireturn, 1) := by decide +kernel
theorem dX3_init_0 : decode cX3_init 0 = .ok (.aload_n 0, 1) := by decide +kernel
theorem dX3_init_1 : decode cX3_init 1 = .ok (.invokespecial 3, 3) := by decide +kernel
theorem dX3_init_4 : decode cX3_init 4 = .ok (.aload_n 0, 1) := by decide +kernel
theorem dX3_init_5 : decode cX3_init 5 = .ok (.iconst 3, 1) := by decide +kernel
theorem dX3_init_6 : decode cX3_init 6 = .ok (.anewarray 9, 3) := by decide +kernel
theorem dX3_init_9 : decode cX3_init 9 = .ok (.putfield 11, 3) := by decide +kernel
theorem dX3_init_12 : decode cX3_init 12 = .ok (.aload_n 0, 1) := by decide +kernel
theorem dX3_init_13 : decode cX3_init 13 = .ok (.bipush 70, 2) := by decide +kernel
theorem dX3_init_15 : decode cX3_init 15 = .ok (.putfield 17, 3) := by decide +kernel
theorem dX3_init_18 : decode cX3_init 18 = .ok (.iconst 0, 1) := by decide +kernel
theorem dX3_init_19 : decode cX3_init 19 = .ok (.istore_n 1, 1) := by decide +kernel
theorem dX3_init_20 : decode cX3_init 20 = .ok (.iload_n 1, 1) := by decide +kernel
theorem dX3_init_21 : decode cX3_init 21 = .ok (.aload_n 0, 1) := by decide +kernel
theorem dX3_init_22 : decode cX3_init 22 = .ok (.getfield 11, 3) := by decide +kernel
theorem dX3_init_25 : decode cX3_init 25 = .ok (.arraylength, 1) := by decide +kernel
theorem dX3_init_26 : decode cX3_init 26 = .ok (.if_icmp .ge 22, 3) := by decide +kernel
theorem dX3_init_29 : decode cX3_init 29 = .ok (.aload_n 0, 1) := by decide +kernel
theorem dX3_init_30 : decode cX3_init 30 = .ok (.getfield 11, 3) := by decide +kernel
theorem dX3_init_33 : decode cX3_init 33 = .ok (.iload_n 1, 1) := by decide +kernel
theorem dX3_init_34 : decode cX3_init 34 = .ok (.new 9, 3) := by decide +kernel
theorem dX3_init_37 : decode cX3_init 37 = .ok (.dup, 1) := by decide +kernel
theorem dX3_init_38 : decode cX3_init 38 = .ok (.invokespecial 21, 3) := by decide +kernel
theorem dX3_init_41 : decode cX3_init 41 = .ok (.aastore, 1) := by decide +kernel
theorem dX3_init_42 : decode cX3_init 42 = .ok (.iinc 1 1, 3) := by decide +kernel
theorem dX3_init_45 : decode cX3_init 45 = .ok (.goto (-25), 3) := by decide +kernel
theorem dX3_init_48 : decode cX3_init 48 = .ok (.return_, 1) := by decide +kernel
theorem dX3_rickAt_0 : decode cX3_rickAt 0 = .ok (.iload_n 1, 1) := by decide +kernel
theorem dX3_rickAt_1 : decode cX3_rickAt 1 = .ok (.ifCond .lt 21, 3) := by decide +kernel
theorem dX3_rickAt_4 : decode cX3_rickAt 4 = .ok (.iload_n 1, 1) := by decide +kernel
theorem dX3_rickAt_5 : decode cX3_rickAt 5 = .ok (.aload_n 0, 1) := by decide +kernel
theorem dX3_rickAt_6 : decode cX3_rickAt 6 = .ok (.getfield 11, 3) := by decide +kernel
theorem dX3_rickAt_9 : decode cX3_rickAt 9 = .ok (.arraylength, 1) := by decide +kernel
theorem dX3_rickAt_10 : decode cX3_rickAt 10 = .ok (.if_icmp .ge 12, 3) := by decide +kernel
theorem dX3_rickAt_13 : decode cX3_rickAt 13 = .ok (.aload_n 0, 1) := by decide +kernel
theorem dX3_rickAt_14 : decode cX3_rickAt 14 = .ok (.getfield 11, 3) := by decide +kernel
theorem dX3_rickAt_17 : decode cX3_rickAt 17 = .ok (.iload_n 1, 1) := by decide +kernel
theorem dX3_rickAt_18 : decode cX3_rickAt 18 = .ok (.aaload, 1) := by decide +kernel
theorem dX3_rickAt_19 : decode cX3_rickAt 19 = .ok (.goto 4, 3) := by decide +kernel
theorem dX3_rickAt_22 : decode cX3_rickAt 22 = .ok (.aconst_null, 1) := by decide +kernel
theorem dX3_rickAt_23 : decode cX3_rickAt 23 = .ok (.areturn, 1) := by decide +kernel
theorem dX3_sheaves_0 : decode cX3_sheaves 0 = .ok (.iconst 0, 1) := by decide +kernel
theorem dX3_sheaves_1 : decode cX3_sheaves 1 = .ok (.istore_n 1, 1) := by decide +kernel
theorem dX3_sheaves_2 : decode cX3_sheaves 2 = .ok (.iconst 0, 1) := by decide +kernel
theorem dX3_sheaves_3 : decode cX3_sheaves 3 = .ok (.istore_n 2, 1) := by decide +kernel
theorem dX3_sheaves_4 : decode cX3_sheaves 4 = .ok (.iload_n 2, 1) := by decide +kernel
theorem dX3_sheaves_5 : decode cX3_sheaves 5 = .ok (.iconst 3, 1) := by decide +kernel
theorem dX3_sheaves_6 : decode cX3_sheaves 6 = .ok (.if_icmp .ge 26, 3) := by decide +kernel
theorem dX3_sheaves_9 : decode cX3_sheaves 9 = .ok (.aload_n 0, 1) := by decide +kernel
theorem dX3_sheaves_10 : decode cX3_sheaves 10 = .ok (.iload_n 2, 1) := by decide +kernel
theorem dX3_sheaves_11 : decode cX3_sheaves 11 = .ok (.invokevirtual 22, 3) := by decide +kernel
theorem dX3_sheaves_14 : decode cX3_sheaves 14 = .ok (.astore_n 3, 1) := by decide +kernel
theorem dX3_sheaves_15 : decode cX3_sheaves 15 = .ok (.aload_n 3, 1) := by decide +kernel
theorem dX3_sheaves_16 : decode cX3_sheaves 16 = .ok (.ifnull 10, 3) := by decide +kernel
theorem dX3_sheaves_19 : decode cX3_sheaves 19 = .ok (.iload_n 1, 1) := by decide +kernel
theorem dX3_sheaves_20 : decode cX3_sheaves 20 = .ok (.aload_n 3, 1) := by decide +kernel
theorem dX3_sheaves_21 : decode cX3_sheaves 21 = .ok (.getfield 26, 3) := by decide +kernel
theorem dX3_sheaves_24 : decode cX3_sheaves 24 = .ok (.iadd, 1) := by decide +kernel
theorem dX3_sheaves_25 : decode cX3_sheaves 25 = .ok (.istore_n 1, 1) := by decide +kernel
theorem dX3_sheaves_26 : decode cX3_sheaves 26 = .ok (.iinc 2 1, 3) := by decide +kernel
theorem dX3_sheaves_29 : decode cX3_sheaves 29 = .ok (.goto (-25), 3) := by decide +kernel
theorem dX3_sheaves_32 : decode cX3_sheaves 32 = .ok (.iload_n 1, 1) := by decide +kernel
theorem dX3_sheaves_33 : decode cX3_sheaves 33 = .ok (.ireturn, 1) := by decide +kernel
theorem dX3_loads_0 : decode cX3_loads 0 = .ok (.iconst 0, 1) := by decide +kernel
theorem dX3_loads_1 : decode cX3_loads 1 = .ok (.istore_n 1, 1) := by decide +kernel
theorem dX3_loads_2 : decode cX3_loads 2 = .ok (.iconst 0, 1) := by decide +kernel
theorem dX3_loads_3 : decode cX3_loads 3 = .ok (.istore_n 2, 1) := by decide +kernel
theorem dX3_loads_4 : decode cX3_loads 4 = .ok (.iload_n 2, 1) := by decide +kernel
theorem dX3_loads_5 : decode cX3_loads 5 = .ok (.iconst 3, 1) := by decide +kernel
theorem dX3_loads_6 : decode cX3_loads 6 = .ok (.if_icmp .ge 33, 3) := by decide +kernel
theorem dX3_loads_9 : decode cX3_loads 9 = .ok (.aload_n 0, 1) := by decide +kernel
theorem dX3_loads_10 : decode cX3_loads 10 = .ok (.iload_n 2, 1) := by decide +kernel
theorem dX3_loads_11 : decode cX3_loads 11 = .ok (.invokevirtual 22, 3) := by decide +kernel
theorem dX3_loads_14 : decode cX3_loads 14 = .ok (.astore_n 3, 1) := by decide +kernel
theorem dX3_loads_15 : decode cX3_loads 15 = .ok (.aload_n 3, 1) := by decide +kernel
theorem dX3_loads_16 : decode cX3_loads 16 = .ok (.ifnull 17, 3) := by decide +kernel
theorem dX3_loads_19 : decode cX3_loads 19 = .ok (.iload_n 1, 1) := by decide +kernel
theorem dX3_loads_20 : decode cX3_loads 20 = .ok (.aload_n 3, 1) := by decide +kernel
theorem dX3_loads_21 : decode cX3_loads 21 = .ok (.iconst 0, 1) := by decide +kernel
theorem dX3_loads_22 : decode cX3_loads 22 = .ok (.aload_n 3, 1) := by decide +kernel
theorem dX3_loads_23 : decode cX3_loads 23 = .ok (.getfield 26, 3) := by decide +kernel
theorem dX3_loads_26 : decode cX3_loads 26 = .ok (.iconst 1, 1) := by decide +kernel
theorem dX3_loads_27 : decode cX3_loads 27 = .ok (.isub, 1) := by decide +kernel
theorem dX3_loads_28 : decode cX3_loads 28 = .ok (.invokevirtual 29, 3) := by decide +kernel
theorem dX3_loads_31 : decode cX3_loads 31 = .ok (.iadd, 1) := by decide +kernel
theorem dX3_loads_32 : decode cX3_loads 32 = .ok (.istore_n 1, 1) := by decide +kernel
theorem dX3_loads_33 : decode cX3_loads 33 = .ok (.iinc 2 1, 3) := by decide +kernel
theorem dX3_loads_36 : decode cX3_loads 36 = .ok (.goto (-32), 3) := by decide +kernel
theorem dX3_loads_39 : decode cX3_loads 39 = .ok (.iload_n 1, 1) := by decide +kernel
theorem dX3_loads_40 : decode cX3_loads 40 = .ok (.ireturn, 1) := by decide +kernel
theorem dX3_keyAfter_0 : decode cX3_keyAfter 0 = .ok (.ldc 35, 2) := by decide +kernel
theorem dX3_keyAfter_2 : decode cX3_keyAfter 2 = .ok (.istore_n 2, 1) := by decide +kernel
theorem dX3_keyAfter_3 : decode cX3_keyAfter 3 = .ok (.iconst 0, 1) := by decide +kernel
theorem dX3_keyAfter_4 : decode cX3_keyAfter 4 = .ok (.istore_n 3, 1) := by decide +kernel
theorem dX3_keyAfter_5 : decode cX3_keyAfter 5 = .ok (.iload_n 3, 1) := by decide +kernel
theorem dX3_keyAfter_6 : decode cX3_keyAfter 6 = .ok (.iconst 3, 1) := by decide +kernel
theorem dX3_keyAfter_7 : decode cX3_keyAfter 7 = .ok (.if_icmp .ge 87, 3) := by decide +kernel
theorem dX3_keyAfter_10 : decode cX3_keyAfter 10 = .ok (.aload_n 0, 1) := by decide +kernel
theorem dX3_keyAfter_11 : decode cX3_keyAfter 11 = .ok (.iload_n 3, 1) := by decide +kernel
theorem dX3_keyAfter_12 : decode cX3_keyAfter 12 = .ok (.invokevirtual 22, 3) := by decide +kernel
theorem dX3_keyAfter_15 : decode cX3_keyAfter 15 = .ok (.astore 4, 2) := by decide +kernel
theorem dX3_keyAfter_17 : decode cX3_keyAfter 17 = .ok (.iconst 0, 1) := by decide +kernel
theorem dX3_keyAfter_18 : decode cX3_keyAfter 18 = .ok (.istore 5, 2) := by decide +kernel
theorem dX3_keyAfter_20 : decode cX3_keyAfter 20 = .ok (.aload 4, 2) := by decide +kernel
theorem dX3_keyAfter_22 : decode cX3_keyAfter 22 = .ok (.ifnull 66, 3) := by decide +kernel
theorem dX3_keyAfter_25 : decode cX3_keyAfter 25 = .ok (.iload 5, 2) := by decide +kernel
theorem dX3_keyAfter_27 : decode cX3_keyAfter 27 = .ok (.aload 4, 2) := by decide +kernel
theorem dX3_keyAfter_29 : decode cX3_keyAfter 29 = .ok (.getfield 26, 3) := by decide +kernel
theorem dX3_keyAfter_32 : decode cX3_keyAfter 32 = .ok (.if_icmp .ge 56, 3) := by decide +kernel
theorem dX3_keyAfter_35 : decode cX3_keyAfter 35 = .ok (.bipush 99, 2) := by decide +kernel
theorem dX3_keyAfter_37 : decode cX3_keyAfter 37 = .ok (.aload 4, 2) := by decide +kernel
theorem dX3_keyAfter_39 : decode cX3_keyAfter 39 = .ok (.iload 5, 2) := by decide +kernel
theorem dX3_keyAfter_41 : decode cX3_keyAfter 41 = .ok (.invokevirtual 36, 3) := by decide +kernel
theorem dX3_keyAfter_44 : decode cX3_keyAfter 44 = .ok (.isub, 1) := by decide +kernel
theorem dX3_keyAfter_45 : decode cX3_keyAfter 45 = .ok (.istore 6, 2) := by decide +kernel
theorem dX3_keyAfter_47 : decode cX3_keyAfter 47 = .ok (.iload 6, 2) := by decide +kernel
theorem dX3_keyAfter_49 : decode cX3_keyAfter 49 = .ok (.sipush 1000, 3) := by decide +kernel
theorem dX3_keyAfter_52 : decode cX3_keyAfter 52 = .ok (.imul, 1) := by decide +kernel
theorem dX3_keyAfter_53 : decode cX3_keyAfter 53 = .ok (.aload 4, 2) := by decide +kernel
theorem dX3_keyAfter_55 : decode cX3_keyAfter 55 = .ok (.iload 5, 2) := by decide +kernel
theorem dX3_keyAfter_57 : decode cX3_keyAfter 57 = .ok (.invokevirtual 40, 3) := by decide +kernel
theorem dX3_keyAfter_60 : decode cX3_keyAfter 60 = .ok (.iadd, 1) := by decide +kernel
theorem dX3_keyAfter_61 : decode cX3_keyAfter 61 = .ok (.iconst 3, 1) := by decide +kernel
theorem dX3_keyAfter_62 : decode cX3_keyAfter 62 = .ok (.imul, 1) := by decide +kernel
theorem dX3_keyAfter_63 : decode cX3_keyAfter 63 = .ok (.iload_n 3, 1) := by decide +kernel
theorem dX3_keyAfter_64 : decode cX3_keyAfter 64 = .ok (.iadd, 1) := by decide +kernel
theorem dX3_keyAfter_65 : decode cX3_keyAfter 65 = .ok (.istore 7, 2) := by decide +kernel
theorem dX3_keyAfter_67 : decode cX3_keyAfter 67 = .ok (.iload 7, 2) := by decide +kernel
theorem dX3_keyAfter_69 : decode cX3_keyAfter 69 = .ok (.iload_n 1, 1) := by decide +kernel
theorem dX3_keyAfter_70 : decode cX3_keyAfter 70 = .ok (.if_icmp .le 12, 3) := by decide +kernel
theorem dX3_keyAfter_73 : decode cX3_keyAfter 73 = .ok (.iload 7, 2) := by decide +kernel
theorem dX3_keyAfter_75 : decode cX3_keyAfter 75 = .ok (.iload_n 2, 1) := by decide +kernel
theorem dX3_keyAfter_76 : decode cX3_keyAfter 76 = .ok (.if_icmp .ge 6, 3) := by decide +kernel
theorem dX3_keyAfter_79 : decode cX3_keyAfter 79 = .ok (.iload 7, 2) := by decide +kernel
theorem dX3_keyAfter_81 : decode cX3_keyAfter 81 = .ok (.istore_n 2, 1) := by decide +kernel
theorem dX3_keyAfter_82 : decode cX3_keyAfter 82 = .ok (.iinc 5 1, 3) := by decide +kernel
theorem dX3_keyAfter_85 : decode cX3_keyAfter 85 = .ok (.goto (-65), 3) := by decide +kernel
theorem dX3_keyAfter_88 : decode cX3_keyAfter 88 = .ok (.iinc 3 1, 3) := by decide +kernel
theorem dX3_keyAfter_91 : decode cX3_keyAfter 91 = .ok (.goto (-86), 3) := by decide +kernel
theorem dX3_keyAfter_94 : decode cX3_keyAfter 94 = .ok (.iload_n 2, 1) := by decide +kernel
theorem dX3_keyAfter_95 : decode cX3_keyAfter 95 = .ok (.ireturn, 1) := by decide +kernel
theorem dX3_copyFrom_0 : decode cX3_copyFrom 0 = .ok (.iconst 0, 1) := by decide +kernel
theorem dX3_copyFrom_1 : decode cX3_copyFrom 1 = .ok (.istore_n 2, 1) := by decide +kernel
theorem dX3_copyFrom_2 : decode cX3_copyFrom 2 = .ok (.iload_n 2, 1) := by decide +kernel
theorem dX3_copyFrom_3 : decode cX3_copyFrom 3 = .ok (.iconst 3, 1) := by decide +kernel
theorem dX3_copyFrom_4 : decode cX3_copyFrom 4 = .ok (.if_icmp .ge 37, 3) := by decide +kernel
theorem dX3_copyFrom_7 : decode cX3_copyFrom 7 = .ok (.aload_n 0, 1) := by decide +kernel
theorem dX3_copyFrom_8 : decode cX3_copyFrom 8 = .ok (.iload_n 2, 1) := by decide +kernel
theorem dX3_copyFrom_9 : decode cX3_copyFrom 9 = .ok (.invokevirtual 22, 3) := by decide +kernel
theorem dX3_copyFrom_12 : decode cX3_copyFrom 12 = .ok (.astore_n 3, 1) := by decide +kernel
theorem dX3_copyFrom_13 : decode cX3_copyFrom 13 = .ok (.aload_n 1, 1) := by decide +kernel
theorem dX3_copyFrom_14 : decode cX3_copyFrom 14 = .ok (.iload_n 2, 1) := by decide +kernel
theorem dX3_copyFrom_15 : decode cX3_copyFrom 15 = .ok (.invokevirtual 22, 3) := by decide +kernel
theorem dX3_copyFrom_18 : decode cX3_copyFrom 18 = .ok (.astore 4, 2) := by decide +kernel
theorem dX3_copyFrom_20 : decode cX3_copyFrom 20 = .ok (.aload_n 3, 1) := by decide +kernel
theorem dX3_copyFrom_21 : decode cX3_copyFrom 21 = .ok (.ifnull 14, 3) := by decide +kernel
theorem dX3_copyFrom_24 : decode cX3_copyFrom 24 = .ok (.aload 4, 2) := by decide +kernel
theorem dX3_copyFrom_26 : decode cX3_copyFrom 26 = .ok (.ifnull 9, 3) := by decide +kernel
theorem dX3_copyFrom_29 : decode cX3_copyFrom 29 = .ok (.aload_n 3, 1) := by decide +kernel
theorem dX3_copyFrom_30 : decode cX3_copyFrom 30 = .ok (.aload 4, 2) := by decide +kernel
theorem dX3_copyFrom_32 : decode cX3_copyFrom 32 = .ok (.invokevirtual 43, 3) := by decide +kernel
theorem dX3_copyFrom_35 : decode cX3_copyFrom 35 = .ok (.iinc 2 1, 3) := by decide +kernel
theorem dX3_copyFrom_38 : decode cX3_copyFrom 38 = .ok (.goto (-36), 3) := by decide +kernel
theorem dX3_copyFrom_41 : decode cX3_copyFrom 41 = .ok (.aload_n 0, 1) := by decide +kernel
theorem dX3_copyFrom_42 : decode cX3_copyFrom 42 = .ok (.aload_n 1, 1) := by decide +kernel
theorem dX3_copyFrom_43 : decode cX3_copyFrom 43 = .ok (.getfield 17, 3) := by decide +kernel
theorem dX3_copyFrom_46 : decode cX3_copyFrom 46 = .ok (.putfield 17, 3) := by decide +kernel
theorem dX3_copyFrom_49 : decode cX3_copyFrom 49 = .ok (.aload_n 0, 1) := by decide +kernel
theorem dX3_copyFrom_50 : decode cX3_copyFrom 50 = .ok (.aload_n 1, 1) := by decide +kernel
theorem dX3_copyFrom_51 : decode cX3_copyFrom 51 = .ok (.getfield 47, 3) := by decide +kernel
theorem dX3_copyFrom_54 : decode cX3_copyFrom 54 = .ok (.putfield 47, 3) := by decide +kernel
theorem dX3_copyFrom_57 : decode cX3_copyFrom 57 = .ok (.aload_n 0, 1) := by decide +kernel
theorem dX3_copyFrom_58 : decode cX3_copyFrom 58 = .ok (.aload_n 1, 1) := by decide +kernel
theorem dX3_copyFrom_59 : decode cX3_copyFrom 59 = .ok (.getfield 50, 3) := by decide +kernel
theorem dX3_copyFrom_62 : decode cX3_copyFrom 62 = .ok (.putfield 50, 3) := by decide +kernel
theorem dX3_copyFrom_65 : decode cX3_copyFrom 65 = .ok (.aload_n 0, 1) := by decide +kernel
theorem dX3_copyFrom_66 : decode cX3_copyFrom 66 = .ok (.aload_n 1, 1) := by decide +kernel
theorem dX3_copyFrom_67 : decode cX3_copyFrom 67 = .ok (.getfield 53, 3) := by decide +kernel
theorem dX3_copyFrom_70 : decode cX3_copyFrom 70 = .ok (.putfield 53, 3) := by decide +kernel
theorem dX3_copyFrom_73 : decode cX3_copyFrom 73 = .ok (.aload_n 0, 1) := by decide +kernel
theorem dX3_copyFrom_74 : decode cX3_copyFrom 74 = .ok (.aload_n 1, 1) := by decide +kernel
theorem dX3_copyFrom_75 : decode cX3_copyFrom 75 = .ok (.getfield 56, 3) := by decide +kernel
theorem dX3_copyFrom_78 : decode cX3_copyFrom 78 = .ok (.putfield 56, 3) := by decide +kernel
theorem dX3_copyFrom_81 : decode cX3_copyFrom 81 = .ok (.aload_n 0, 1) := by decide +kernel
theorem dX3_copyFrom_82 : decode cX3_copyFrom 82 = .ok (.aload_n 1, 1) := by decide +kernel
theorem dX3_copyFrom_83 : decode cX3_copyFrom 83 = .ok (.getfield 59, 3) := by decide +kernel
theorem dX3_copyFrom_86 : decode cX3_copyFrom 86 = .ok (.putfield 59, 3) := by decide +kernel
theorem dX3_copyFrom_89 : decode cX3_copyFrom 89 = .ok (.aload_n 0, 1) := by decide +kernel
theorem dX3_copyFrom_90 : decode cX3_copyFrom 90 = .ok (.aload_n 1, 1) := by decide +kernel
theorem dX3_copyFrom_91 : decode cX3_copyFrom 91 = .ok (.getfield 62, 3) := by decide +kernel
theorem dX3_copyFrom_94 : decode cX3_copyFrom 94 = .ok (.putfield 62, 3) := by decide +kernel
theorem dX3_copyFrom_97 : decode cX3_copyFrom 97 = .ok (.return_, 1) := by decide +kernel
theorem dX4_init_0 : decode cX4_init 0 = .ok (.aload_n 0, 1) := by decide +kernel
theorem dX4_init_1 : decode cX4_init 1 = .ok (.invokespecial 1, 3) := by decide +kernel
theorem dX4_init_4 : decode cX4_init 4 = .ok (.aload_n 0, 1) := by decide +kernel
theorem dX4_init_5 : decode cX4_init 5 = .ok (.new 7, 3) := by decide +kernel
theorem dX4_init_8 : decode cX4_init 8 = .ok (.dup, 1) := by decide +kernel
theorem dX4_init_9 : decode cX4_init 9 = .ok (.invokespecial 9, 3) := by decide +kernel
theorem dX4_init_12 : decode cX4_init 12 = .ok (.putfield 10, 3) := by decide +kernel
theorem dX4_init_15 : decode cX4_init 15 = .ok (.aload_n 0, 1) := by decide +kernel
theorem dX4_init_16 : decode cX4_init 16 = .ok (.new 7, 3) := by decide +kernel
theorem dX4_init_19 : decode cX4_init 19 = .ok (.dup, 1) := by decide +kernel
theorem dX4_init_20 : decode cX4_init 20 = .ok (.invokespecial 9, 3) := by decide +kernel
theorem dX4_init_23 : decode cX4_init 23 = .ok (.putfield 16, 3) := by decide +kernel
theorem dX4_init_26 : decode cX4_init 26 = .ok (.aload_n 0, 1) := by decide +kernel
theorem dX4_init_27 : decode cX4_init 27 = .ok (.bipush 9, 2) := by decide +kernel
theorem dX4_init_29 : decode cX4_init 29 = .ok (.anewarray 7, 3) := by decide +kernel
theorem dX4_init_32 : decode cX4_init 32 = .ok (.putfield 19, 3) := by decide +kernel
theorem dX4_init_35 : decode cX4_init 35 = .ok (.aload_n 0, 1) := by decide +kernel
theorem dX4_init_36 : decode cX4_init 36 = .ok (.new 23, 3) := by decide +kernel
