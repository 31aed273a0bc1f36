theorem dX4_init_39 : decode cX4_init 39 = .ok (.dup, 1) := by decide +kernel
theorem dX4_init_40 : decode cX4_init 40 = .ok (.invokespecial 25, 3) := by decide +kernel
theorem dX4_init_43 : decode cX4_init 43 = .ok (.putfield 26, 3) := by decide +kernel
theorem dX4_init_46 : decode cX4_init 46 = .ok (.aload_n 0, 1) := by decide +kernel
theorem dX4_init_47 : decode cX4_init 47 = .ok (.new 23, 3) := by decide +kernel
theorem dX4_init_50 : decode cX4_init 50 = .ok (.dup, 1) := by decide +kernel
theorem dX4_init_51 : decode cX4_init 51 = .ok (.invokespecial 25, 3) := by decide +kernel
theorem dX4_init_54 : decode cX4_init 54 = .ok (.putfield 30, 3) := by decide +kernel
theorem dX4_init_57 : decode cX4_init 57 = .ok (.aload_n 0, 1) := by decide +kernel
theorem dX4_init_58 : decode cX4_init 58 = .ok (.new 33, 3) := by decide +kernel
theorem dX4_init_61 : decode cX4_init 61 = .ok (.dup, 1) := by decide +kernel
theorem dX4_init_62 : decode cX4_init 62 = .ok (.invokespecial 35, 3) := by decide +kernel
theorem dX4_init_65 : decode cX4_init 65 = .ok (.putfield 36, 3) := by decide +kernel
theorem dX4_init_68 : decode cX4_init 68 = .ok (.aload_n 0, 1) := by decide +kernel
theorem dX4_init_69 : decode cX4_init 69 = .ok (.bipush (-15), 2) := by decide +kernel
theorem dX4_init_71 : decode cX4_init 71 = .ok (.putfield 40, 3) := by decide +kernel
theorem dX4_init_74 : decode cX4_init 74 = .ok (.aload_n 0, 1) := by decide +kernel
theorem dX4_init_75 : decode cX4_init 75 = .ok (.bipush (-15), 2) := by decide +kernel
theorem dX4_init_77 : decode cX4_init 77 = .ok (.putfield 44, 3) := by decide +kernel
theorem dX4_init_80 : decode cX4_init 80 = .ok (.iconst 0, 1) := by decide +kernel
theorem dX4_init_81 : decode cX4_init 81 = .ok (.istore_n 1, 1) := by decide +kernel
theorem dX4_init_82 : decode cX4_init 82 = .ok (.iload_n 1, 1) := by decide +kernel
theorem dX4_init_83 : decode cX4_init 83 = .ok (.aload_n 0, 1) := by decide +kernel
theorem dX4_init_84 : decode cX4_init 84 = .ok (.getfield 19, 3) := by decide +kernel
theorem dX4_init_87 : decode cX4_init 87 = .ok (.arraylength, 1) := by decide +kernel
theorem dX4_init_88 : decode cX4_init 88 = .ok (.if_icmp .ge 22, 3) := by decide +kernel
theorem dX4_init_91 : decode cX4_init 91 = .ok (.aload_n 0, 1) := by decide +kernel
theorem dX4_init_92 : decode cX4_init 92 = .ok (.getfield 19, 3) := by decide +kernel
theorem dX4_init_95 : decode cX4_init 95 = .ok (.iload_n 1, 1) := by decide +kernel
theorem dX4_init_96 : decode cX4_init 96 = .ok (.new 7, 3) := by decide +kernel
theorem dX4_init_99 : decode cX4_init 99 = .ok (.dup, 1) := by decide +kernel
theorem dX4_init_100 : decode cX4_init 100 = .ok (.invokespecial 9, 3) := by decide +kernel
theorem dX4_init_103 : decode cX4_init 103 = .ok (.aastore, 1) := by decide +kernel
theorem dX4_init_104 : decode cX4_init 104 = .ok (.iinc 1 1, 3) := by decide +kernel
theorem dX4_init_107 : decode cX4_init 107 = .ok (.goto (-25), 3) := by decide +kernel
theorem dX4_init_110 : decode cX4_init 110 = .ok (.return_, 1) := by decide +kernel
theorem dX4_put_0 : decode cX4_put 0 = .ok (.aload_n 0, 1) := by decide +kernel
theorem dX4_put_1 : decode cX4_put 1 = .ok (.invokevirtual 47, 3) := by decide +kernel
theorem dX4_put_4 : decode cX4_put 4 = .ok (.aload_n 0, 1) := by decide +kernel
theorem dX4_put_5 : decode cX4_put 5 = .ok (.aload_n 0, 1) := by decide +kernel
theorem dX4_put_6 : decode cX4_put 6 = .ok (.iload_n 1, 1) := by decide +kernel
theorem dX4_put_7 : decode cX4_put 7 = .ok (.iload_n 2, 1) := by decide +kernel
theorem dX4_put_8 : decode cX4_put 8 = .ok (.iload_n 3, 1) := by decide +kernel
theorem dX4_put_9 : decode cX4_put 9 = .ok (.invokevirtual 50, 3) := by decide +kernel
theorem dX4_put_12 : decode cX4_put 12 = .ok (.invokevirtual 54, 3) := by decide +kernel
theorem dX4_put_15 : decode cX4_put 15 = .ok (.ireturn, 1) := by decide +kernel
theorem dX4_take_0 : decode cX4_take 0 = .ok (.aload_n 0, 1) := by decide +kernel
theorem dX4_take_1 : decode cX4_take 1 = .ok (.invokevirtual 47, 3) := by decide +kernel
theorem dX4_take_4 : decode cX4_take 4 = .ok (.aload_n 0, 1) := by decide +kernel
theorem dX4_take_5 : decode cX4_take 5 = .ok (.aload_n 0, 1) := by decide +kernel
theorem dX4_take_6 : decode cX4_take 6 = .ok (.iload_n 1, 1) := by decide +kernel
theorem dX4_take_7 : decode cX4_take 7 = .ok (.iload_n 2, 1) := by decide +kernel
theorem dX4_take_8 : decode cX4_take 8 = .ok (.invokevirtual 58, 3) := by decide +kernel
theorem dX4_take_11 : decode cX4_take 11 = .ok (.invokevirtual 54, 3) := by decide +kernel
theorem dX4_take_14 : decode cX4_take 14 = .ok (.ireturn, 1) := by decide +kernel
theorem dX4_build_0 : decode cX4_build 0 = .ok (.aload_n 0, 1) := by decide +kernel
theorem dX4_build_1 : decode cX4_build 1 = .ok (.invokevirtual 47, 3) := by decide +kernel
theorem dX4_build_4 : decode cX4_build 4 = .ok (.aload_n 0, 1) := by decide +kernel
theorem dX4_build_5 : decode cX4_build 5 = .ok (.aload_n 0, 1) := by decide +kernel
theorem dX4_build_6 : decode cX4_build 6 = .ok (.iload_n 1, 1) := by decide +kernel
theorem dX4_build_7 : decode cX4_build 7 = .ok (.invokevirtual 62, 3) := by decide +kernel
theorem dX4_build_10 : decode cX4_build 10 = .ok (.invokevirtual 54, 3) := by decide +kernel
theorem dX4_build_13 : decode cX4_build 13 = .ok (.ireturn, 1) := by decide +kernel
theorem dX4_pour_0 : decode cX4_pour 0 = .ok (.aload_n 0, 1) := by decide +kernel
theorem dX4_pour_1 : decode cX4_pour 1 = .ok (.invokevirtual 47, 3) := by decide +kernel
theorem dX4_pour_4 : decode cX4_pour 4 = .ok (.aload_n 0, 1) := by decide +kernel
theorem dX4_pour_5 : decode cX4_pour 5 = .ok (.aload_n 0, 1) := by decide +kernel
theorem dX4_pour_6 : decode cX4_pour 6 = .ok (.iload_n 1, 1) := by decide +kernel
theorem dX4_pour_7 : decode cX4_pour 7 = .ok (.iload_n 2, 1) := by decide +kernel
theorem dX4_pour_8 : decode cX4_pour 8 = .ok (.invokevirtual 65, 3) := by decide +kernel
theorem dX4_pour_11 : decode cX4_pour 11 = .ok (.invokevirtual 54, 3) := by decide +kernel
theorem dX4_pour_14 : decode cX4_pour 14 = .ok (.ireturn, 1) := by decide +kernel
theorem dX4_limit_0 : decode cX4_limit 0 = .ok (.aload_n 0, 1) := by decide +kernel
theorem dX4_limit_1 : decode cX4_limit 1 = .ok (.invokevirtual 47, 3) := by decide +kernel
theorem dX4_limit_4 : decode cX4_limit 4 = .ok (.aload_n 0, 1) := by decide +kernel
theorem dX4_limit_5 : decode cX4_limit 5 = .ok (.aload_n 0, 1) := by decide +kernel
theorem dX4_limit_6 : decode cX4_limit 6 = .ok (.iload_n 1, 1) := by decide +kernel
theorem dX4_limit_7 : decode cX4_limit 7 = .ok (.invokevirtual 68, 3) := by decide +kernel
theorem dX4_limit_10 : decode cX4_limit 10 = .ok (.invokevirtual 54, 3) := by decide +kernel
theorem dX4_limit_13 : decode cX4_limit 13 = .ok (.ireturn, 1) := by decide +kernel
theorem dX4_sheafOf_0 : decode cX4_sheafOf 0 = .ok (.aload_n 0, 1) := by decide +kernel
theorem dX4_sheafOf_1 : decode cX4_sheafOf 1 = .ok (.getfield 10, 3) := by decide +kernel
theorem dX4_sheafOf_4 : decode cX4_sheafOf 4 = .ok (.iload_n 1, 1) := by decide +kernel
theorem dX4_sheafOf_5 : decode cX4_sheafOf 5 = .ok (.invokevirtual 71, 3) := by decide +kernel
theorem dX4_sheafOf_8 : decode cX4_sheafOf 8 = .ok (.astore 4, 2) := by decide +kernel
theorem dX4_sheafOf_10 : decode cX4_sheafOf 10 = .ok (.aload 4, 2) := by decide +kernel
theorem dX4_sheafOf_12 : decode cX4_sheafOf 12 = .ok (.ifnonnull 6, 3) := by decide +kernel
theorem dX4_sheafOf_15 : decode cX4_sheafOf 15 = .ok (.bipush (-11), 2) := by decide +kernel
theorem dX4_sheafOf_17 : decode cX4_sheafOf 17 = .ok (.ireturn, 1) := by decide +kernel
theorem dX4_sheafOf_18 : decode cX4_sheafOf 18 = .ok (.aload 4, 2) := by decide +kernel
theorem dX4_sheafOf_20 : decode cX4_sheafOf 20 = .ok (.iload_n 2, 1) := by decide +kernel
theorem dX4_sheafOf_21 : decode cX4_sheafOf 21 = .ok (.invokevirtual 75, 3) := by decide +kernel
theorem dX4_sheafOf_24 : decode cX4_sheafOf 24 = .ok (.istore 5, 2) := by decide +kernel
theorem dX4_sheafOf_26 : decode cX4_sheafOf 26 = .ok (.iload 5, 2) := by decide +kernel
theorem dX4_sheafOf_28 : decode cX4_sheafOf 28 = .ok (.iconst (-1), 1) := by decide +kernel
theorem dX4_sheafOf_29 : decode cX4_sheafOf 29 = .ok (.if_icmp .ne 6, 3) := by decide +kernel
theorem dX4_sheafOf_32 : decode cX4_sheafOf 32 = .ok (.bipush (-11), 2) := by decide +kernel
theorem dX4_sheafOf_34 : decode cX4_sheafOf 34 = .ok (.ireturn, 1) := by decide +kernel
theorem dX4_sheafOf_35 : decode cX4_sheafOf 35 = .ok (.aload 4, 2) := by decide +kernel
theorem dX4_sheafOf_37 : decode cX4_sheafOf 37 = .ok (.iload 5, 2) := by decide +kernel
theorem dX4_sheafOf_39 : decode cX4_sheafOf 39 = .ok (.invokevirtual 80, 3) := by decide +kernel
theorem dX4_sheafOf_42 : decode cX4_sheafOf 42 = .ok (.istore 6, 2) := by decide +kernel
theorem dX4_sheafOf_44 : decode cX4_sheafOf 44 = .ok (.aload 4, 2) := by decide +kernel
theorem dX4_sheafOf_46 : decode cX4_sheafOf 46 = .ok (.iload 5, 2) := by decide +kernel
theorem dX4_sheafOf_48 : decode cX4_sheafOf 48 = .ok (.invokevirtual 83, 3) := by decide +kernel
theorem dX4_sheafOf_51 : decode cX4_sheafOf 51 = .ok (.istore 7, 2) := by decide +kernel
theorem dX4_sheafOf_53 : decode cX4_sheafOf 53 = .ok (.iload_n 3, 1) := by decide +kernel
theorem dX4_sheafOf_54 : decode cX4_sheafOf 54 = .ok (.tableswitch 150 0 7 #[46, 54, 62, 70, 80, 103, 116, 133], 46) := by decide +kernel
theorem dX4_sheafOf_100 : decode cX4_sheafOf 100 = .ok (.aload 4, 2) := by decide +kernel
theorem dX4_sheafOf_102 : decode cX4_sheafOf 102 = .ok (.iload 5, 2) := by decide +kernel
theorem dX4_sheafOf_104 : decode cX4_sheafOf 104 = .ok (.invokevirtual 86, 3) := by decide +kernel
theorem dX4_sheafOf_107 : decode cX4_sheafOf 107 = .ok (.ireturn, 1) := by decide +kernel
theorem dX4_sheafOf_108 : decode cX4_sheafOf 108 = .ok (.aload 4, 2) := by decide +kernel
theorem dX4_sheafOf_110 : decode cX4_sheafOf 110 = .ok (.iload 5, 2) := by decide +kernel
theorem dX4_sheafOf_112 : decode cX4_sheafOf 112 = .ok (.invokevirtual 89, 3) := by decide +kernel
theorem dX4_sheafOf_115 : decode cX4_sheafOf 115 = .ok (.ireturn, 1) := by decide +kernel
theorem dX4_sheafOf_116 : decode cX4_sheafOf 116 = .ok (.iload 7, 2) := by decide +kernel
theorem dX4_sheafOf_118 : decode cX4_sheafOf 118 = .ok (.iload 6, 2) := by decide +kernel
theorem dX4_sheafOf_120 : decode cX4_sheafOf 120 = .ok (.isub, 1) := by decide +kernel
theorem dX4_sheafOf_121 : decode cX4_sheafOf 121 = .ok (.iconst 1, 1) := by decide +kernel
theorem dX4_sheafOf_122 : decode cX4_sheafOf 122 = .ok (.iadd, 1) := by decide +kernel
theorem dX4_sheafOf_123 : decode cX4_sheafOf 123 = .ok (.ireturn, 1) := by decide +kernel
theorem dX4_sheafOf_124 : decode cX4_sheafOf 124 = .ok (.aload 4, 2) := by decide +kernel
theorem dX4_sheafOf_126 : decode cX4_sheafOf 126 = .ok (.iload 6, 2) := by decide +kernel
theorem dX4_sheafOf_128 : decode cX4_sheafOf 128 = .ok (.iload 7, 2) := by decide +kernel
theorem dX4_sheafOf_130 : decode cX4_sheafOf 130 = .ok (.invokevirtual 92, 3) := by decide +kernel
theorem dX4_sheafOf_133 : decode cX4_sheafOf 133 = .ok (.ireturn, 1) := by decide +kernel
theorem dX4_sheafOf_134 : decode cX4_sheafOf 134 = .ok (.aload 4, 2) := by decide +kernel
theorem dX4_sheafOf_136 : decode cX4_sheafOf 136 = .ok (.iload 5, 2) := by decide +kernel
theorem dX4_sheafOf_138 : decode cX4_sheafOf 138 = .ok (.aload_n 0, 1) := by decide +kernel
theorem dX4_sheafOf_139 : decode cX4_sheafOf 139 = .ok (.getfield 10, 3) := by decide +kernel
theorem dX4_sheafOf_142 : decode cX4_sheafOf 142 = .ok (.getfield 95, 3) := by decide +kernel
theorem dX4_sheafOf_145 : decode cX4_sheafOf 145 = .ok (.invokevirtual 98, 3) := by decide +kernel
theorem dX4_sheafOf_148 : decode cX4_sheafOf 148 = .ok (.ifCond .eq 7, 3) := by decide +kernel
theorem dX4_sheafOf_151 : decode cX4_sheafOf 151 = .ok (.iconst 1, 1) := by decide +kernel
theorem dX4_sheafOf_152 : decode cX4_sheafOf 152 = .ok (.goto 4, 3) := by decide +kernel
theorem dX4_sheafOf_155 : decode cX4_sheafOf 155 = .ok (.iconst 0, 1) := by decide +kernel
theorem dX4_sheafOf_156 : decode cX4_sheafOf 156 = .ok (.ireturn, 1) := by decide +kernel
theorem dX4_sheafOf_157 : decode cX4_sheafOf 157 = .ok (.aload 4, 2) := by decide +kernel
theorem dX4_sheafOf_159 : decode cX4_sheafOf 159 = .ok (.aload 4, 2) := by decide +kernel
theorem dX4_sheafOf_161 : decode cX4_sheafOf 161 = .ok (.iload 5, 2) := by decide +kernel
theorem dX4_sheafOf_163 : decode cX4_sheafOf 163 = .ok (.invokevirtual 102, 3) := by decide +kernel
theorem dX4_sheafOf_166 : decode cX4_sheafOf 166 = .ok (.invokevirtual 105, 3) := by decide +kernel
theorem dX4_sheafOf_169 : decode cX4_sheafOf 169 = .ok (.ireturn, 1) := by decide +kernel
theorem dX4_sheafOf_170 : decode cX4_sheafOf 170 = .ok (.aload 4, 2) := by decide +kernel
theorem dX4_sheafOf_172 : decode cX4_sheafOf 172 = .ok (.aload 4, 2) := by decide +kernel
theorem dX4_sheafOf_174 : decode cX4_sheafOf 174 = .ok (.iload 6, 2) := by decide +kernel
theorem dX4_sheafOf_176 : decode cX4_sheafOf 176 = .ok (.iload 5, 2) := by decide +kernel
theorem dX4_sheafOf_178 : decode cX4_sheafOf 178 = .ok (.iconst 1, 1) := by decide +kernel
theorem dX4_sheafOf_179 : decode cX4_sheafOf 179 = .ok (.isub, 1) := by decide +kernel
theorem dX4_sheafOf_180 : decode cX4_sheafOf 180 = .ok (.invokevirtual 108, 3) := by decide +kernel
theorem dX4_sheafOf_183 : decode cX4_sheafOf 183 = .ok (.invokevirtual 105, 3) := by decide +kernel
theorem dX4_sheafOf_186 : decode cX4_sheafOf 186 = .ok (.ireturn, 1) := by decide +kernel
theorem dX4_sheafOf_187 : decode cX4_sheafOf 187 = .ok (.aload 4, 2) := by decide +kernel
theorem dX4_sheafOf_189 : decode cX4_sheafOf 189 = .ok (.aload 4, 2) := by decide +kernel
theorem dX4_sheafOf_191 : decode cX4_sheafOf 191 = .ok (.iload 5, 2) := by decide +kernel
theorem dX4_sheafOf_193 : decode cX4_sheafOf 193 = .ok (.iconst 1, 1) := by decide +kernel
theorem dX4_sheafOf_194 : decode cX4_sheafOf 194 = .ok (.iadd, 1) := by decide +kernel
theorem dX4_sheafOf_195 : decode cX4_sheafOf 195 = .ok (.iload 7, 2) := by decide +kernel
theorem dX4_sheafOf_197 : decode cX4_sheafOf 197 = .ok (.invokevirtual 108, 3) := by decide +kernel
theorem dX4_sheafOf_200 : decode cX4_sheafOf 200 = .ok (.invokevirtual 105, 3) := by decide +kernel
theorem dX4_sheafOf_203 : decode cX4_sheafOf 203 = .ok (.ireturn, 1) := by decide +kernel
theorem dX4_sheafOf_204 : decode cX4_sheafOf 204 = .ok (.bipush (-12), 2) := by decide +kernel
theorem dX4_sheafOf_206 : decode cX4_sheafOf 206 = .ok (.ireturn, 1) := by decide +kernel
theorem dX4_rickOf_0 : decode cX4_rickOf 0 = .ok (.aload_n 0, 1) := by decide +kernel
theorem dX4_rickOf_1 : decode cX4_rickOf 1 = .ok (.getfield 10, 3) := by decide +kernel
theorem dX4_rickOf_4 : decode cX4_rickOf 4 = .ok (.iload_n 1, 1) := by decide +kernel
theorem dX4_rickOf_5 : decode cX4_rickOf 5 = .ok (.invokevirtual 71, 3) := by decide +kernel
theorem dX4_rickOf_8 : decode cX4_rickOf 8 = .ok (.astore_n 3, 1) := by decide +kernel
theorem dX4_rickOf_9 : decode cX4_rickOf 9 = .ok (.aload_n 3, 1) := by decide +kernel
theorem dX4_rickOf_10 : decode cX4_rickOf 10 = .ok (.ifnonnull 6, 3) := by decide +kernel
theorem dX4_rickOf_13 : decode cX4_rickOf 13 = .ok (.bipush (-11), 2) := by decide +kernel
theorem dX4_rickOf_15 : decode cX4_rickOf 15 = .ok (.ireturn, 1) := by decide +kernel
theorem dX4_rickOf_16 : decode cX4_rickOf 16 = .ok (.iload_n 2, 1) := by decide +kernel
theorem dX4_rickOf_17 : decode cX4_rickOf 17 = .ok (.tableswitch 131 0 8 #[51, 56, 68, 84, 89, 104, 109, 121, 126], 51) := by decide +kernel
theorem dX4_rickOf_68 : decode cX4_rickOf 68 = .ok (.aload_n 3, 1) := by decide +kernel
theorem dX4_rickOf_69 : decode cX4_rickOf 69 = .ok (.getfield 111, 3) := by decide +kernel
theorem dX4_rickOf_72 : decode cX4_rickOf 72 = .ok (.ireturn, 1) := by decide +kernel
theorem dX4_rickOf_73 : decode cX4_rickOf 73 = .ok (.aload_n 3, 1) := by decide +kernel
theorem dX4_rickOf_74 : decode cX4_rickOf 74 = .ok (.iconst 0, 1) := by decide +kernel
theorem dX4_rickOf_75 : decode cX4_rickOf 75 = .ok (.aload_n 3, 1) := by decide +kernel
theorem dX4_rickOf_76 : decode cX4_rickOf 76 = .ok (.getfield 111, 3) := by decide +kernel
theorem dX4_rickOf_79 : decode cX4_rickOf 79 = .ok (.iconst 1, 1) := by decide +kernel
theorem dX4_rickOf_80 : decode cX4_rickOf 80 = .ok (.isub, 1) := by decide +kernel
theorem dX4_rickOf_81 : decode cX4_rickOf 81 = .ok (.invokevirtual 92, 3) := by decide +kernel
theorem dX4_rickOf_84 : decode cX4_rickOf 84 = .ok (.ireturn, 1) := by decide +kernel
theorem dX4_rickOf_85 : decode cX4_rickOf 85 = .ok (.aload_n 3, 1) := by decide +kernel
theorem dX4_rickOf_86 : decode cX4_rickOf 86 = .ok (.aload_n 3, 1) := by decide +kernel
theorem dX4_rickOf_87 : decode cX4_rickOf 87 = .ok (.iconst 0, 1) := by decide +kernel
theorem dX4_rickOf_88 : decode cX4_rickOf 88 = .ok (.aload_n 3, 1) := by decide +kernel
theorem dX4_rickOf_89 : decode cX4_rickOf 89 = .ok (.getfield 111, 3) := by decide +kernel
theorem dX4_rickOf_92 : decode cX4_rickOf 92 = .ok (.iconst 1, 1) := by decide +kernel
theorem dX4_rickOf_93 : decode cX4_rickOf 93 = .ok (.isub, 1) := by decide +kernel
theorem dX4_rickOf_94 : decode cX4_rickOf 94 = .ok (.invokevirtual 108, 3) := by decide +kernel
theorem dX4_rickOf_97 : decode cX4_rickOf 97 = .ok (.invokevirtual 105, 3) := by decide +kernel
theorem dX4_rickOf_100 : decode cX4_rickOf 100 = .ok (.ireturn, 1) := by decide +kernel
theorem dX4_rickOf_101 : decode cX4_rickOf 101 = .ok (.aload_n 3, 1) := by decide +kernel
theorem dX4_rickOf_102 : decode cX4_rickOf 102 = .ok (.invokevirtual 114, 3) := by decide +kernel
theorem dX4_rickOf_105 : decode cX4_rickOf 105 = .ok (.ireturn, 1) := by decide +kernel
theorem dX4_rickOf_106 : decode cX4_rickOf 106 = .ok (.aload_n 3, 1) := by decide +kernel
theorem dX4_rickOf_107 : decode cX4_rickOf 107 = .ok (.getfield 111, 3) := by decide +kernel
theorem dX4_rickOf_110 : decode cX4_rickOf 110 = .ok (.aload_n 0, 1) := by decide +kernel
theorem dX4_rickOf_111 : decode cX4_rickOf 111 = .ok (.getfield 10, 3) := by decide +kernel
theorem dX4_rickOf_114 : decode cX4_rickOf 114 = .ok (.getfield 95, 3) := by decide +kernel
theorem dX4_rickOf_117 : decode cX4_rickOf 117 = .ok (.invokestatic 118, 3) := by decide +kernel
theorem dX4_rickOf_120 : decode cX4_rickOf 120 = .ok (.ireturn, 1) := by decide +kernel
theorem dX4_rickOf_121 : decode cX4_rickOf 121 = .ok (.aload_n 3, 1) := by decide +kernel
theorem dX4_rickOf_122 : decode cX4_rickOf 122 = .ok (.getfield 121, 3) := by decide +kernel
theorem dX4_rickOf_125 : decode cX4_rickOf 125 = .ok (.ireturn, 1) := by decide +kernel
theorem dX4_rickOf_126 : decode cX4_rickOf 126 = .ok (.aload_n 3, 1) := by decide +kernel
theorem dX4_rickOf_127 : decode cX4_rickOf 127 = .ok (.aload_n 0, 1) := by decide +kernel
theorem dX4_rickOf_128 : decode cX4_rickOf 128 = .ok (.getfield 10, 3) := by decide +kernel
theorem dX4_rickOf_131 : decode cX4_rickOf 131 = .ok (.getfield 95, 3) := by decide +kernel
theorem dX4_rickOf_134 : decode cX4_rickOf 134 = .ok (.invokevirtual 124, 3) := by decide +kernel
theorem dX4_rickOf_137 : decode cX4_rickOf 137 = .ok (.ireturn, 1) := by decide +kernel
theorem dX4_rickOf_138 : decode cX4_rickOf 138 = .ok (.aload_n 3, 1) := by decide +kernel
theorem dX4_rickOf_139 : decode cX4_rickOf 139 = .ok (.invokevirtual 127, 3) := by decide +kernel
theorem dX4_rickOf_142 : decode cX4_rickOf 142 = .ok (.ireturn, 1) := by decide +kernel
theorem dX4_rickOf_143 : decode cX4_rickOf 143 = .ok (.aload_n 3, 1) := by decide +kernel
theorem dX4_rickOf_144 : decode cX4_rickOf 144 = .ok (.invokevirtual 130, 3) := by decide +kernel
theorem dX4_rickOf_147 : decode cX4_rickOf 147 = .ok (.ireturn, 1) := by decide +kernel
theorem dX4_rickOf_148 : decode cX4_rickOf 148 = .ok (.bipush (-12), 2) := by decide +kernel
theorem dX4_rickOf_150 : decode cX4_rickOf 150 = .ok (.ireturn, 1) := by decide +kernel
theorem dX4_rank_0 : decode cX4_rank 0 = .ok (.aload_n 0, 1) := by decide +kernel
theorem dX4_rank_1 : decode cX4_rank 1 = .ok (.getfield 10, 3) := by decide +kernel
theorem dX4_rank_4 : decode cX4_rank 4 = .ok (.iload_n 1, 1) := by decide +kernel
theorem dX4_rank_5 : decode cX4_rank 5 = .ok (.invokevirtual 71, 3) := by decide +kernel
theorem dX4_rank_8 : decode cX4_rank 8 = .ok (.astore_n 3, 1) := by decide +kernel
theorem dX4_rank_9 : decode cX4_rank 9 = .ok (.aload_n 3, 1) := by decide +kernel
theorem dX4_rank_10 : decode cX4_rank 10 = .ok (.ifnonnull 8, 3) := by decide +kernel
theorem dX4_rank_13 : decode cX4_rank 13 = .ok (.bipush (-11), 2) := by decide +kernel
theorem dX4_rank_15 : decode cX4_rank 15 = .ok (.goto 8, 3) := by decide +kernel
theorem dX4_rank_18 : decode cX4_rank 18 = .ok (.aload_n 3, 1) := by decide +kernel
theorem dX4_rank_19 : decode cX4_rank 19 = .ok (.iload_n 2, 1) := by decide +kernel
theorem dX4_rank_20 : decode cX4_rank 20 = .ok (.invokevirtual 133, 3) := by decide +kernel
theorem dX4_rank_23 : decode cX4_rank 23 = .ok (.ireturn, 1) := by decide +kernel
theorem dX4_rankAgain_0 : decode cX4_rankAgain 0 = .ok (.aload_n 0, 1) := by decide +kernel
theorem dX4_rankAgain_1 : decode cX4_rankAgain 1 = .ok (.getfield 10, 3) := by decide +kernel
theorem dX4_rankAgain_4 : decode cX4_rankAgain 4 = .ok (.iload_n 1, 1) := by decide +kernel
theorem dX4_rankAgain_5 : decode cX4_rankAgain 5 = .ok (.invokevirtual 71, 3) := by decide +kernel
theorem dX4_rankAgain_8 : decode cX4_rankAgain 8 = .ok (.astore_n 3, 1) := by decide +kernel
theorem dX4_rankAgain_9 : decode cX4_rankAgain 9 = .ok (.aload_n 3, 1) := by decide +kernel
theorem dX4_rankAgain_10 : decode cX4_rankAgain 10 = .ok (.ifnonnull 8, 3) := by decide +kernel
theorem dX4_rankAgain_13 : decode cX4_rankAgain 13 = .ok (.bipush (-11), 2) := by decide +kernel
theorem dX4_rankAgain_15 : decode cX4_rankAgain 15 = .ok (.goto 8, 3) := by decide +kernel
theorem dX4_rankAgain_18 : decode cX4_rankAgain 18 = .ok (.aload_n 3, 1) := by decide +kernel
theorem dX4_rankAgain_19 : decode cX4_rankAgain 19 = .ok (.iload_n 2, 1) := by decide +kernel
theorem dX4_rankAgain_20 : decode cX4_rankAgain 20 = .ok (.invokevirtual 136, 3) := by decide +kernel
theorem dX4_rankAgain_23 : decode cX4_rankAgain 23 = .ok (.ireturn, 1) := by decide +kernel
theorem dX4_at_0 : decode cX4_at 0 = .ok (.aload_n 0, 1) := by decide +kernel
theorem dX4_at_1 : decode cX4_at 1 = .ok (.getfield 10, 3) := by decide +kernel
theorem dX4_at_4 : decode cX4_at 4 = .ok (.iload_n 1, 1) := by decide +kernel
theorem dX4_at_5 : decode cX4_at 5 = .ok (.invokevirtual 71, 3) := by decide +kernel
theorem dX4_at_8 : decode cX4_at 8 = .ok (.astore_n 3, 1) := by decide +kernel
theorem dX4_at_9 : decode cX4_at 9 = .ok (.aload_n 3, 1) := by decide +kernel
theorem dX4_at_10 : decode cX4_at 10 = .ok (.ifnull 11, 3) := by decide +kernel
theorem dX4_at_13 : decode cX4_at 13 = .ok (.aload_n 3, 1) := by decide +kernel
theorem dX4_at_14 : decode cX4_at 14 = .ok (.iload_n 2, 1) := by decide +kernel
theorem dX4_at_15 : decode cX4_at 15 = .ok (.invokevirtual 139, 3) := by decide +kernel
theorem dX4_at_18 : decode cX4_at 18 = .ok (.ifCond .ne 8, 3) := by decide +kernel
theorem dX4_at_21 : decode cX4_at 21 = .ok (.bipush (-11), 2) := by decide +kernel
theorem dX4_at_23 : decode cX4_at 23 = .ok (.goto 8, 3) := by decide +kernel
theorem dX4_at_26 : decode cX4_at 26 = .ok (.aload_n 3, 1) := by decide +kernel
theorem dX4_at_27 : decode cX4_at 27 = .ok (.iload_n 2, 1) := by decide +kernel
theorem dX4_at_28 : decode cX4_at 28 = .ok (.invokevirtual 105, 3) := by decide +kernel
theorem dX4_at_31 : decode cX4_at 31 = .ok (.ireturn, 1) := by decide +kernel
theorem dX4_between_0 : decode cX4_between 0 = .ok (.aload_n 0, 1) := by decide +kernel
theorem dX4_between_1 : decode cX4_between 1 = .ok (.getfield 10, 3) := by decide +kernel
theorem dX4_between_4 : decode cX4_between 4 = .ok (.iload_n 1, 1) := by decide +kernel
theorem dX4_between_5 : decode cX4_between 5 = .ok (.invokevirtual 71, 3) := by decide +kernel
theorem dX4_between_8 : decode cX4_between 8 = .ok (.astore 4, 2) := by decide +kernel
theorem dX4_between_10 : decode cX4_between 10 = .ok (.aload 4, 2) := by decide +kernel
theorem dX4_between_12 : decode cX4_between 12 = .ok (.ifnonnull 8, 3) := by decide +kernel
theorem dX4_between_15 : decode cX4_between 15 = .ok (.bipush (-11), 2) := by decide +kernel
theorem dX4_between_17 : decode cX4_between 17 = .ok (.goto 10, 3) := by decide +kernel
theorem dX4_between_20 : decode cX4_between 20 = .ok (.aload 4, 2) := by decide +kernel
theorem dX4_between_22 : decode cX4_between 22 = .ok (.iload_n 2, 1) := by decide +kernel
theorem dX4_between_23 : decode cX4_between 23 = .ok (.iload_n 3, 1) := by decide +kernel
theorem dX4_between_24 : decode cX4_between 24 = .ok (.invokevirtual 143, 3) := by decide +kernel
theorem dX4_between_27 : decode cX4_between 27 = .ok (.ireturn, 1) := by decide +kernel
theorem dX4_betweenAgain_0 : decode cX4_betweenAgain 0 = .ok (.aload_n 0, 1) := by decide +kernel
theorem dX4_betweenAgain_1 : decode cX4_betweenAgain 1 = .ok (.getfield 10, 3) := by decide +kernel
theorem dX4_betweenAgain_4 : decode cX4_betweenAgain 4 = .ok (.iload_n 1, 1) := by decide +kernel
theorem dX4_betweenAgain_5 : decode cX4_betweenAgain 5 = .ok (.invokevirtual 71, 3) := by decide +kernel
theorem dX4_betweenAgain_8 : decode cX4_betweenAgain 8 = .ok (.astore 4, 2) := by decide +kernel
theorem dX4_betweenAgain_10 : decode cX4_betweenAgain 10 = .ok (.aload 4, 2) := by decide +kernel
theorem dX4_betweenAgain_12 : decode cX4_betweenAgain 12 = .ok (.ifnonnull 8, 3) := by decide +kernel
theorem dX4_betweenAgain_15 : decode cX4_betweenAgain 15 = .ok (.bipush (-11), 2) := by decide +kernel
theorem dX4_betweenAgain_17 : decode cX4_betweenAgain 17 = .ok (.goto 10, 3) := by decide +kernel
theorem dX4_betweenAgain_20 : decode cX4_betweenAgain 20 = .ok (.aload 4, 2) := by decide +kernel
theorem dX4_betweenAgain_22 : decode cX4_betweenAgain 22 = .ok (.iload_n 2, 1) := by decide +kernel
theorem dX4_betweenAgain_23 : decode cX4_betweenAgain 23 = .ok (.iload_n 3, 1) := by decide +kernel
theorem dX4_betweenAgain_24 : decode cX4_betweenAgain 24 = .ok (.invokevirtual 146, 3) := by decide +kernel
theorem dX4_betweenAgain_27 : decode cX4_betweenAgain 27 = .ok (.ireturn, 1) := by decide +kernel
theorem dX4_heaviest_0 : decode cX4_heaviest 0 = .ok (.iload_n 1, 1) := by decide +kernel
theorem dX4_heaviest_1 : decode cX4_heaviest 1 = .ok (.ifCond .lt 14, 3) := by decide +kernel
theorem dX4_heaviest_4 : decode cX4_heaviest 4 = .ok (.iload_n 1, 1) := by decide +kernel
theorem dX4_heaviest_5 : decode cX4_heaviest 5 = .ok (.aload_n 0, 1) := by decide +kernel
theorem dX4_heaviest_6 : decode cX4_heaviest 6 = .ok (.getfield 10, 3) := by decide +kernel
theorem dX4_heaviest_9 : decode cX4_heaviest 9 = .ok (.invokevirtual 149, 3) := by decide +kernel
theorem dX4_heaviest_12 : decode cX4_heaviest 12 = .ok (.if_icmp .lt 6, 3) := by decide +kernel
theorem dX4_heaviest_15 : decode cX4_heaviest 15 = .ok (.bipush (-11), 2) := by decide +kernel
theorem dX4_heaviest_17 : decode cX4_heaviest 17 = .ok (.ireturn, 1) := by decide +kernel
theorem dX4_heaviest_18 : decode cX4_heaviest 18 = .ok (.iconst (-1), 1) := by decide +kernel
theorem dX4_heaviest_19 : decode cX4_heaviest 19 = .ok (.istore_n 2, 1) := by decide +kernel
theorem dX4_heaviest_20 : decode cX4_heaviest 20 = .ok (.iconst 0, 1) := by decide +kernel
theorem dX4_heaviest_21 : decode cX4_heaviest 21 = .ok (.istore_n 3, 1) := by decide +kernel
theorem dX4_heaviest_22 : decode cX4_heaviest 22 = .ok (.iload_n 3, 1) := by decide +kernel
theorem dX4_heaviest_23 : decode cX4_heaviest 23 = .ok (.iload_n 1, 1) := by decide +kernel
theorem dX4_heaviest_24 : decode cX4_heaviest 24 = .ok (.if_icmp .gt 18, 3) := by decide +kernel
theorem dX4_heaviest_27 : decode cX4_heaviest 27 = .ok (.aload_n 0, 1) := by decide +kernel
theorem dX4_heaviest_28 : decode cX4_heaviest 28 = .ok (.getfield 10, 3) := by decide +kernel
theorem dX4_heaviest_31 : decode cX4_heaviest 31 = .ok (.iload_n 2, 1) := by decide +kernel
theorem dX4_heaviest_32 : decode cX4_heaviest 32 = .ok (.invokevirtual 152, 3) := by decide +kernel
theorem dX4_heaviest_35 : decode cX4_heaviest 35 = .ok (.istore_n 2, 1) := by decide +kernel
theorem dX4_heaviest_36 : decode cX4_heaviest 36 = .ok (.iinc 3 1, 3) := by decide +kernel
theorem dX4_heaviest_39 : decode cX4_heaviest 39 = .ok (.goto (-17), 3) := by decide +kernel
theorem dX4_heaviest_42 : decode cX4_heaviest 42 = .ok (.iload_n 2, 1) := by decide +kernel
theorem dX4_heaviest_43 : decode cX4_heaviest 43 = .ok (.iconst 3, 1) := by decide +kernel
theorem dX4_heaviest_44 : decode cX4_heaviest 44 = .ok (.irem, 1) := by decide +kernel
theorem dX4_heaviest_45 : decode cX4_heaviest 45 = .ok (.sipush 1000, 3) := by decide +kernel
theorem dX4_heaviest_48 : decode cX4_heaviest 48 = .ok (.imul, 1) := by decide +kernel
theorem dX4_heaviest_49 : decode cX4_heaviest 49 = .ok (.iload_n 2, 1) := by decide +kernel
theorem dX4_heaviest_50 : decode cX4_heaviest 50 = .ok (.iconst 3, 1) := by decide +kernel
theorem dX4_heaviest_51 : decode cX4_heaviest 51 = .ok (.idiv, 1) := by decide +kernel
theorem dX4_heaviest_52 : decode cX4_heaviest 52 = .ok (.sipush 1000, 3) := by decide +kernel
theorem dX4_heaviest_55 : decode cX4_heaviest 55 = .ok (.irem, 1) := by decide +kernel
theorem dX4_heaviest_56 : decode cX4_heaviest 56 = .ok (.iadd, 1) := by decide +kernel
theorem dX4_heaviest_57 : decode cX4_heaviest 57 = .ok (.ireturn, 1) := by decide +kernel
theorem dX4_carts_0 : decode cX4_carts 0 = .ok (.aload_n 0, 1) := by decide +kernel
theorem dX4_carts_1 : decode cX4_carts 1 = .ok (.getfield 10, 3) := by decide +kernel
theorem dX4_carts_4 : decode cX4_carts 4 = .ok (.iload_n 1, 1) := by decide +kernel
theorem dX4_carts_5 : decode cX4_carts 5 = .ok (.invokevirtual 71, 3) := by decide +kernel
theorem dX4_carts_8 : decode cX4_carts 8 = .ok (.astore_n 3, 1) := by decide +kernel
theorem dX4_carts_9 : decode cX4_carts 9 = .ok (.aload_n 3, 1) := by decide +kernel
theorem dX4_carts_10 : decode cX4_carts 10 = .ok (.ifnonnull 6, 3) := by decide +kernel
theorem dX4_carts_13 : decode cX4_carts 13 = .ok (.bipush (-11), 2) := by decide +kernel
theorem dX4_carts_15 : decode cX4_carts 15 = .ok (.ireturn, 1) := by decide +kernel
theorem dX4_carts_16 : decode cX4_carts 16 = .ok (.iload_n 2, 1) := by decide +kernel
theorem dX4_carts_17 : decode cX4_carts 17 = .ok (.invokestatic 155, 3) := by decide +kernel
theorem dX4_carts_20 : decode cX4_carts 20 = .ok (.ifCond .eq 17, 3) := by decide +kernel
theorem dX4_carts_23 : decode cX4_carts 23 = .ok (.aload_n 3, 1) := by decide +kernel
theorem dX4_carts_24 : decode cX4_carts 24 = .ok (.aload_n 3, 1) := by decide +kernel
theorem dX4_carts_25 : decode cX4_carts 25 = .ok (.getfield 111, 3) := by decide +kernel
theorem dX4_carts_28 : decode cX4_carts 28 = .ok (.iconst 1, 1) := by decide +kernel
theorem dX4_carts_29 : decode cX4_carts 29 = .ok (.isub, 1) := by decide +kernel
theorem dX4_carts_30 : decode cX4_carts 30 = .ok (.iload_n 2, 1) := by decide +kernel
theorem dX4_carts_31 : decode cX4_carts 31 = .ok (.invokevirtual 158, 3) := by decide +kernel
theorem dX4_carts_34 : decode cX4_carts 34 = .ok (.goto 5, 3) := by decide +kernel
theorem dX4_carts_37 : decode cX4_carts 37 = .ok (.bipush (-12), 2) := by decide +kernel
theorem dX4_carts_39 : decode cX4_carts 39 = .ok (.ireturn, 1) := by decide +kernel
theorem dX4_cartOf_0 : decode cX4_cartOf 0 = .ok (.aload_n 0, 1) := by decide +kernel
theorem dX4_cartOf_1 : decode cX4_cartOf 1 = .ok (.getfield 10, 3) := by decide +kernel
theorem dX4_cartOf_4 : decode cX4_cartOf 4 = .ok (.iload_n 1, 1) := by decide +kernel
theorem dX4_cartOf_5 : decode cX4_cartOf 5 = .ok (.invokevirtual 71, 3) := by decide +kernel
theorem dX4_cartOf_8 : decode cX4_cartOf 8 = .ok (.astore 4, 2) := by decide +kernel
theorem dX4_cartOf_10 : decode cX4_cartOf 10 = .ok (.aload 4, 2) := by decide +kernel
theorem dX4_cartOf_12 : decode cX4_cartOf 12 = .ok (.ifnonnull 6, 3) := by decide +kernel
theorem dX4_cartOf_15 : decode cX4_cartOf 15 = .ok (.bipush (-11), 2) := by decide +kernel
theorem dX4_cartOf_17 : decode cX4_cartOf 17 = .ok (.ireturn, 1) := by decide +kernel
theorem dX4_cartOf_18 : decode cX4_cartOf 18 = .ok (.aload 4, 2) := by decide +kernel
theorem dX4_cartOf_20 : decode cX4_cartOf 20 = .ok (.iload_n 2, 1) := by decide +kernel
theorem dX4_cartOf_21 : decode cX4_cartOf 21 = .ok (.invokevirtual 75, 3) := by decide +kernel
theorem dX4_cartOf_24 : decode cX4_cartOf 24 = .ok (.istore 5, 2) := by decide +kernel
theorem dX4_cartOf_26 : decode cX4_cartOf 26 = .ok (.iload 5, 2) := by decide +kernel
theorem dX4_cartOf_28 : decode cX4_cartOf 28 = .ok (.iconst (-1), 1) := by decide +kernel
theorem dX4_cartOf_29 : decode cX4_cartOf 29 = .ok (.if_icmp .ne 6, 3) := by decide +kernel
theorem dX4_cartOf_32 : decode cX4_cartOf 32 = .ok (.bipush (-11), 2) := by decide +kernel
theorem dX4_cartOf_34 : decode cX4_cartOf 34 = .ok (.ireturn, 1) := by decide +kernel
theorem dX4_cartOf_35 : decode cX4_cartOf 35 = .ok (.iload_n 3, 1) := by decide +kernel
theorem dX4_cartOf_36 : decode cX4_cartOf 36 = .ok (.invokestatic 155, 3) := by decide +kernel
theorem dX4_cartOf_39 : decode cX4_cartOf 39 = .ok (.ifCond .eq 16, 3) := by decide +kernel
theorem dX4_cartOf_42 : decode cX4_cartOf 42 = .ok (.aload 4, 2) := by decide +kernel
theorem dX4_cartOf_44 : decode cX4_cartOf 44 = .ok (.iload 5, 2) := by decide +kernel
theorem dX4_cartOf_46 : decode cX4_cartOf 46 = .ok (.iload_n 3, 1) := by decide +kernel
theorem dX4_cartOf_47 : decode cX4_cartOf 47 = .ok (.invokevirtual 158, 3) := by decide +kernel
theorem dX4_cartOf_50 : decode cX4_cartOf 50 = .ok (.iconst 1, 1) := by decide +kernel
theorem dX4_cartOf_51 : decode cX4_cartOf 51 = .ok (.isub, 1) := by decide +kernel
theorem dX4_cartOf_52 : decode cX4_cartOf 52 = .ok (.goto 5, 3) := by decide +kernel
theorem dX4_cartOf_55 : decode cX4_cartOf 55 = .ok (.bipush (-12), 2) := by decide +kernel
theorem dX4_cartOf_57 : decode cX4_cartOf 57 = .ok (.ireturn, 1) := by decide +kernel
theorem dX4_shape_0 : decode cX4_shape 0 = .ok (.aload_n 0, 1) := by decide +kernel
theorem dX4_shape_1 : decode cX4_shape 1 = .ok (.getfield 10, 3) := by decide +kernel
theorem dX4_shape_4 : decode cX4_shape 4 = .ok (.iload_n 1, 1) := by decide +kernel
theorem dX4_shape_5 : decode cX4_shape 5 = .ok (.invokevirtual 71, 3) := by decide +kernel
theorem dX4_shape_8 : decode cX4_shape 8 = .ok (.astore_n 2, 1) := by decide +kernel
theorem dX4_shape_9 : decode cX4_shape 9 = .ok (.aload_n 2, 1) := by decide +kernel
theorem dX4_shape_10 : decode cX4_shape 10 = .ok (.ifnonnull 9, 3) := by decide +kernel
theorem dX4_shape_13 : decode cX4_shape 13 = .ok (.ldc2_w 161, 3) := by decide +kernel
theorem dX4_shape_16 : decode cX4_shape 16 = .ok (.goto 16, 3) := by decide +kernel
theorem dX4_shape_19 : decode cX4_shape 19 = .ok (.aload_n 2, 1) := by decide +kernel
theorem dX4_shape_20 : decode cX4_shape 20 = .ok (.iconst 0, 1) := by decide +kernel
theorem dX4_shape_21 : decode cX4_shape 21 = .ok (.aload_n 2, 1) := by decide +kernel
theorem dX4_shape_22 : decode cX4_shape 22 = .ok (.getfield 111, 3) := by decide +kernel
theorem dX4_shape_25 : decode cX4_shape 25 = .ok (.iconst 1, 1) := by decide +kernel
theorem dX4_shape_26 : decode cX4_shape 26 = .ok (.isub, 1) := by decide +kernel
theorem dX4_shape_27 : decode cX4_shape 27 = .ok (.lconst 0, 1) := by decide +kernel
theorem dX4_shape_28 : decode cX4_shape 28 = .ok (.iconst 0, 1) := by decide +kernel
theorem dX4_shape_29 : decode cX4_shape 29 = .ok (.invokestatic 163, 3) := by decide +kernel
theorem dX4_shape_32 : decode cX4_shape 32 = .ok (.lreturn, 1) := by decide +kernel
theorem dX4_weights_0 : decode cX4_weights 0 = .ok (.aload_n 0, 1) := by decide +kernel
theorem dX4_weights_1 : decode cX4_weights 1 = .ok (.getfield 10, 3) := by decide +kernel
theorem dX4_weights_4 : decode cX4_weights 4 = .ok (.iload_n 1, 1) := by decide +kernel
theorem dX4_weights_5 : decode cX4_weights 5 = .ok (.invokevirtual 71, 3) := by decide +kernel
theorem dX4_weights_8 : decode cX4_weights 8 = .ok (.astore_n 3, 1) := by decide +kernel
theorem dX4_weights_9 : decode cX4_weights 9 = .ok (.aload_n 3, 1) := by decide +kernel
theorem dX4_weights_10 : decode cX4_weights 10 = .ok (.ifnull 14, 3) := by decide +kernel
theorem dX4_weights_13 : decode cX4_weights 13 = .ok (.iload_n 2, 1) := by decide +kernel
theorem dX4_weights_14 : decode cX4_weights 14 = .ok (.ifCond .lt 10, 3) := by decide +kernel
theorem dX4_weights_17 : decode cX4_weights 17 = .ok (.iload_n 2, 1) := by decide +kernel
theorem dX4_weights_18 : decode cX4_weights 18 = .ok (.sipush 936, 3) := by decide +kernel
theorem dX4_weights_21 : decode cX4_weights 21 = .ok (.if_icmp .le 5, 3) := by decide +kernel
theorem dX4_weights_24 : decode cX4_weights 24 = .ok (.lconst 0, 1) := by decide +kernel
theorem dX4_weights_25 : decode cX4_weights 25 = .ok (.lreturn, 1) := by decide +kernel
theorem dX4_weights_26 : decode cX4_weights 26 = .ok (.lconst 0, 1) := by decide +kernel
theorem dX4_weights_27 : decode cX4_weights 27 = .ok (.lstore 4, 2) := by decide +kernel
theorem dX4_weights_29 : decode cX4_weights 29 = .ok (.iconst 0, 1) := by decide +kernel
theorem dX4_weights_30 : decode cX4_weights 30 = .ok (.istore 6, 2) := by decide +kernel
theorem dX4_weights_32 : decode cX4_weights 32 = .ok (.iload 6, 2) := by decide +kernel
theorem dX4_weights_34 : decode cX4_weights 34 = .ok (.aload_n 3, 1) := by decide +kernel
theorem dX4_weights_35 : decode cX4_weights 35 = .ok (.getfield 111, 3) := by decide +kernel
theorem dX4_weights_38 : decode cX4_weights 38 = .ok (.if_icmp .ge 40, 3) := by decide +kernel
theorem dX4_weights_41 : decode cX4_weights 41 = .ok (.aload_n 3, 1) := by decide +kernel
theorem dX4_weights_42 : decode cX4_weights 42 = .ok (.iload 6, 2) := by decide +kernel
theorem dX4_weights_44 : decode cX4_weights 44 = .ok (.invokevirtual 105, 3) := by decide +kernel
theorem dX4_weights_47 : decode cX4_weights 47 = .ok (.iload_n 2, 1) := by decide +kernel
theorem dX4_weights_48 : decode cX4_weights 48 = .ok (.isub, 1) := by decide +kernel
theorem dX4_weights_49 : decode cX4_weights 49 = .ok (.istore 7, 2) := by decide +kernel
theorem dX4_weights_51 : decode cX4_weights 51 = .ok (.iload 7, 2) := by decide +kernel
theorem dX4_weights_53 : decode cX4_weights 53 = .ok (.ifCond .lt 19, 3) := by decide +kernel
theorem dX4_weights_56 : decode cX4_weights 56 = .ok (.iload 7, 2) := by decide +kernel
theorem dX4_weights_58 : decode cX4_weights 58 = .ok (.bipush 64, 2) := by decide +kernel
theorem dX4_weights_60 : decode cX4_weights 60 = .ok (.if_icmp .ge 12, 3) := by decide +kernel
theorem dX4_weights_63 : decode cX4_weights 63 = .ok (.lload 4, 2) := by decide +kernel
theorem dX4_weights_65 : decode cX4_weights 65 = .ok (.lconst 1, 1) := by decide +kernel
theorem dX4_weights_66 : decode cX4_weights 66 = .ok (.iload 7, 2) := by decide +kernel
theorem dX4_weights_68 : decode cX4_weights 68 = .ok (.lshl, 1) := by decide +kernel
theorem dX4_weights_69 : decode cX4_weights 69 = .ok (.lor, 1) := by decide +kernel
theorem dX4_weights_70 : decode cX4_weights 70 = .ok (.lstore 4, 2) := by decide +kernel
theorem dX4_weights_72 : decode cX4_weights 72 = .ok (.iinc 6 1, 3) := by decide +kernel
theorem dX4_weights_75 : decode cX4_weights 75 = .ok (.goto (-43), 3) := by decide +kernel
theorem dX4_weights_78 : decode cX4_weights 78 = .ok (.lload 4, 2) := by decide +kernel
theorem dX4_weights_80 : decode cX4_weights 80 = .ok (.lreturn, 1) := by decide +kernel
theorem dX4_leaningShare_0 : decode cX4_leaningShare 0 = .ok (.aload_n 0, 1) := by decide +kernel
theorem dX4_leaningShare_1 : decode cX4_leaningShare 1 = .ok (.getfield 10, 3) := by decide +kernel
theorem dX4_leaningShare_4 : decode cX4_leaningShare 4 = .ok (.iload_n 1, 1) := by decide +kernel
theorem dX4_leaningShare_5 : decode cX4_leaningShare 5 = .ok (.invokevirtual 71, 3) := by decide +kernel
theorem dX4_leaningShare_8 : decode cX4_leaningShare 8 = .ok (.astore_n 2, 1) := by decide +kernel
theorem dX4_leaningShare_9 : decode cX4_leaningShare 9 = .ok (.aload_n 2, 1) := by decide +kernel
theorem dX4_leaningShare_10 : decode cX4_leaningShare 10 = .ok (.ifnonnull 6, 3) := by decide +kernel
theorem dX4_leaningShare_13 : decode cX4_leaningShare 13 = .ok (.bipush (-11), 2) := by decide +kernel
theorem dX4_leaningShare_15 : decode cX4_leaningShare 15 = .ok (.ireturn, 1) := by decide +kernel
theorem dX4_leaningShare_16 : decode cX4_leaningShare 16 = .ok (.aload_n 2, 1) := by decide +kernel
theorem dX4_leaningShare_17 : decode cX4_leaningShare 17 = .ok (.getfield 111, 3) := by decide +kernel
theorem dX4_leaningShare_20 : decode cX4_leaningShare 20 = .ok (.ifCond .gt 6, 3) := by decide +kernel
theorem dX4_leaningShare_23 : decode cX4_leaningShare 23 = .ok (.bipush (-15), 2) := by decide +kernel
theorem dX4_leaningShare_25 : decode cX4_leaningShare 25 = .ok (.ireturn, 1) := by decide +kernel
theorem dX4_leaningShare_26 : decode cX4_leaningShare 26 = .ok (.aload_n 2, 1) := by decide +kernel
theorem dX4_leaningShare_27 : decode cX4_leaningShare 27 = .ok (.aload_n 0, 1) := by decide +kernel
theorem dX4_leaningShare_28 : decode cX4_leaningShare 28 = .ok (.getfield 10, 3) := by decide +kernel
theorem dX4_leaningShare_31 : decode cX4_leaningShare 31 = .ok (.getfield 95, 3) := by decide +kernel
theorem dX4_leaningShare_34 : decode cX4_leaningShare 34 = .ok (.invokevirtual 124, 3) := by decide +kernel
theorem dX4_leaningShare_37 : decode cX4_leaningShare 37 = .ok (.i2f, 1) := by decide +kernel
theorem dX4_leaningShare_38 : decode cX4_leaningShare 38 = .ok (.aload_n 2, 1) := by decide +kernel
theorem dX4_leaningShare_39 : decode cX4_leaningShare 39 = .ok (.getfield 111, 3) := by decide +kernel
theorem dX4_leaningShare_42 : decode cX4_leaningShare 42 = .ok (.i2f, 1) := by decide +kernel
theorem dX4_leaningShare_43 : decode cX4_leaningShare 43 = .ok (.fdiv, 1) := by decide +kernel
theorem dX4_leaningShare_44 : decode cX4_leaningShare 44 = .ok (.invokestatic 167, 3) := by decide +kernel
theorem dX4_leaningShare_47 : decode cX4_leaningShare 47 = .ok (.ireturn, 1) := by decide +kernel
theorem dX4_meanDepth_0 : decode cX4_meanDepth 0 = .ok (.aload_n 0, 1) := by decide +kernel
theorem dX4_meanDepth_1 : decode cX4_meanDepth 1 = .ok (.getfield 10, 3) := by decide +kernel
theorem dX4_meanDepth_4 : decode cX4_meanDepth 4 = .ok (.iload_n 1, 1) := by decide +kernel
theorem dX4_meanDepth_5 : decode cX4_meanDepth 5 = .ok (.invokevirtual 71, 3) := by decide +kernel
theorem dX4_meanDepth_8 : decode cX4_meanDepth 8 = .ok (.astore_n 2, 1) := by decide +kernel
theorem dX4_meanDepth_9 : decode cX4_meanDepth 9 = .ok (.aload_n 2, 1) := by decide +kernel
theorem dX4_meanDepth_10 : decode cX4_meanDepth 10 = .ok (.ifnonnull 7, 3) := by decide +kernel
theorem dX4_meanDepth_13 : decode cX4_meanDepth 13 = .ok (.ldc2_w 161, 3) := by decide +kernel
theorem dX4_meanDepth_16 : decode cX4_meanDepth 16 = .ok (.lreturn, 1) := by decide +kernel
theorem dX4_meanDepth_17 : decode cX4_meanDepth 17 = .ok (.aload_n 2, 1) := by decide +kernel
theorem dX4_meanDepth_18 : decode cX4_meanDepth 18 = .ok (.getfield 111, 3) := by decide +kernel
theorem dX4_meanDepth_21 : decode cX4_meanDepth 21 = .ok (.ifCond .gt 7, 3) := by decide +kernel
theorem dX4_meanDepth_24 : decode cX4_meanDepth 24 = .ok (.ldc2_w 171, 3) := by decide +kernel
theorem dX4_meanDepth_27 : decode cX4_meanDepth 27 = .ok (.lreturn, 1) := by decide +kernel
theorem dX4_meanDepth_28 : decode cX4_meanDepth 28 = .ok (.aload_n 2, 1) := by decide +kernel
theorem dX4_meanDepth_29 : decode cX4_meanDepth 29 = .ok (.invokevirtual 127, 3) := by decide +kernel
theorem dX4_meanDepth_32 : decode cX4_meanDepth 32 = .ok (.i2d, 1) := by decide +kernel
theorem dX4_meanDepth_33 : decode cX4_meanDepth 33 = .ok (.aload_n 2, 1) := by decide +kernel
theorem dX4_meanDepth_34 : decode cX4_meanDepth 34 = .ok (.getfield 111, 3) := by decide +kernel
theorem dX4_meanDepth_37 : decode cX4_meanDepth 37 = .ok (.i2d, 1) := by decide +kernel
theorem dX4_meanDepth_38 : decode cX4_meanDepth 38 = .ok (.ddiv, 1) := by decide +kernel
theorem dX4_meanDepth_39 : decode cX4_meanDepth 39 = .ok (.invokestatic 173, 3) := by decide +kernel
theorem dX4_meanDepth_42 : decode cX4_meanDepth 42 = .ok (.lreturn, 1) := by decide +kernel
theorem dX4_append_0 : decode cX4_append 0 = .ok (.iload_n 1, 1) := by decide +kernel
theorem dX4_append_1 : decode cX4_append 1 = .ok (.bipush 32, 2) := by decide +kernel
theorem dX4_append_3 : decode cX4_append 3 = .ok (.if_icmp .lt 9, 3) := by decide +kernel
theorem dX4_append_6 : decode cX4_append 6 = .ok (.iload_n 1, 1) := by decide +kernel
theorem dX4_append_7 : decode cX4_append 7 = .ok (.bipush 126, 2) := by decide +kernel
theorem dX4_append_9 : decode cX4_append 9 = .ok (.if_icmp .le 6, 3) := by decide +kernel
theorem dX4_append_12 : decode cX4_append 12 = .ok (.bipush (-12), 2) := by decide +kernel
theorem dX4_append_14 : decode cX4_append 14 = .ok (.ireturn, 1) := by decide +kernel
theorem dX4_append_15 : decode cX4_append 15 = .ok (.aload_n 0, 1) := by decide +kernel
theorem dX4_append_16 : decode cX4_append 16 = .ok (.getfield 26, 3) := by decide +kernel
theorem dX4_append_19 : decode cX4_append 19 = .ok (.iload_n 1, 1) := by decide +kernel
theorem dX4_append_20 : decode cX4_append 20 = .ok (.invokevirtual 177, 3) := by decide +kernel
theorem dX4_append_23 : decode cX4_append 23 = .ok (.ifCond .eq 13, 3) := by decide +kernel
theorem dX4_append_26 : decode cX4_append 26 = .ok (.aload_n 0, 1) := by decide +kernel
theorem dX4_append_27 : decode cX4_append 27 = .ok (.getfield 26, 3) := by decide +kernel
theorem dX4_append_30 : decode cX4_append 30 = .ok (.getfield 180, 3) := by decide +kernel
theorem dX4_append_33 : decode cX4_append 33 = .ok (.goto 5, 3) := by decide +kernel
theorem dX4_append_36 : decode cX4_append 36 = .ok (.bipush (-13), 2) := by decide +kernel
theorem dX4_append_38 : decode cX4_append 38 = .ok (.ireturn, 1) := by decide +kernel
theorem dX4_run_0 : decode cX4_run 0 = .ok (.aload_n 0, 1) := by decide +kernel
theorem dX4_run_1 : decode cX4_run 1 = .ok (.getfield 36, 3) := by decide +kernel
theorem dX4_run_4 : decode cX4_run 4 = .ok (.aload_n 0, 1) := by decide +kernel
theorem dX4_run_5 : decode cX4_run 5 = .ok (.getfield 26, 3) := by decide +kernel
theorem dX4_run_8 : decode cX4_run 8 = .ok (.invokevirtual 183, 3) := by decide +kernel
theorem dX4_run_11 : decode cX4_run 11 = .ok (.istore_n 1, 1) := by decide +kernel
theorem dX4_run_12 : decode cX4_run 12 = .ok (.aload_n 0, 1) := by decide +kernel
theorem dX4_run_13 : decode cX4_run 13 = .ok (.getfield 26, 3) := by decide +kernel
theorem dX4_run_16 : decode cX4_run 16 = .ok (.invokevirtual 187, 3) := by decide +kernel
theorem dX4_run_19 : decode cX4_run 19 = .ok (.iload_n 1, 1) := by decide +kernel
theorem dX4_run_20 : decode cX4_run 20 = .ok (.ifCond .ge 5, 3) := by decide +kernel
theorem dX4_run_23 : decode cX4_run 23 = .ok (.iload_n 1, 1) := by decide +kernel
theorem dX4_run_24 : decode cX4_run 24 = .ok (.ireturn, 1) := by decide +kernel
theorem dX4_run_25 : decode cX4_run 25 = .ok (.aload_n 0, 1) := by decide +kernel
theorem dX4_run_26 : decode cX4_run 26 = .ok (.invokevirtual 47, 3) := by decide +kernel
theorem dX4_run_29 : decode cX4_run 29 = .ok (.iconst 0, 1) := by decide +kernel
theorem dX4_run_30 : decode cX4_run 30 = .ok (.istore_n 2, 1) := by decide +kernel
theorem dX4_run_31 : decode cX4_run 31 = .ok (.iload_n 2, 1) := by decide +kernel
theorem dX4_run_32 : decode cX4_run 32 = .ok (.iload_n 1, 1) := by decide +kernel
theorem dX4_run_33 : decode cX4_run 33 = .ok (.if_icmp .ge 35, 3) := by decide +kernel
theorem dX4_run_36 : decode cX4_run 36 = .ok (.iload_n 2, 1) := by decide +kernel
theorem dX4_run_37 : decode cX4_run 37 = .ok (.bipush 20, 2) := by decide +kernel
theorem dX4_run_39 : decode cX4_run 39 = .ok (.if_icmp .ge 29, 3) := by decide +kernel
theorem dX4_run_42 : decode cX4_run 42 = .ok (.aload_n 0, 1) := by decide +kernel
theorem dX4_run_43 : decode cX4_run 43 = .ok (.iload_n 2, 1) := by decide +kernel
theorem dX4_run_44 : decode cX4_run 44 = .ok (.invokevirtual 190, 3) := by decide +kernel
theorem dX4_run_47 : decode cX4_run 47 = .ok (.ifCond .ge 15, 3) := by decide +kernel
theorem dX4_run_50 : decode cX4_run 50 = .ok (.aload_n 0, 1) := by decide +kernel
theorem dX4_run_51 : decode cX4_run 51 = .ok (.invokevirtual 193, 3) := by decide +kernel
theorem dX4_run_54 : decode cX4_run 54 = .ok (.aload_n 0, 1) := by decide +kernel
theorem dX4_run_55 : decode cX4_run 55 = .ok (.bipush 6, 2) := by decide +kernel
theorem dX4_run_57 : decode cX4_run 57 = .ok (.iload_n 2, 1) := by decide +kernel
theorem dX4_run_58 : decode cX4_run 58 = .ok (.invokevirtual 196, 3) := by decide +kernel
theorem dX4_run_61 : decode cX4_run 61 = .ok (.ireturn, 1) := by decide +kernel
theorem dX4_run_62 : decode cX4_run 62 = .ok (.iinc 2 1, 3) := by decide +kernel
theorem dX4_run_65 : decode cX4_run 65 = .ok (.goto (-34), 3) := by decide +kernel
theorem dX4_run_68 : decode cX4_run 68 = .ok (.aload_n 0, 1) := by decide +kernel
theorem dX4_run_69 : decode cX4_run 69 = .ok (.iload_n 1, 1) := by decide +kernel
theorem dX4_run_70 : decode cX4_run 70 = .ok (.invokevirtual 54, 3) := by decide +kernel
theorem dX4_run_73 : decode cX4_run 73 = .ok (.ireturn, 1) := by decide +kernel
theorem dX4_tell_0 : decode cX4_tell 0 = .ok (.aload_n 0, 1) := by decide +kernel
theorem dX4_tell_1 : decode cX4_tell 1 = .ok (.getfield 10, 3) := by decide +kernel
theorem dX4_tell_4 : decode cX4_tell 4 = .ok (.iload_n 1, 1) := by decide +kernel
theorem dX4_tell_5 : decode cX4_tell 5 = .ok (.invokevirtual 71, 3) := by decide +kernel
theorem dX4_tell_8 : decode cX4_tell 8 = .ok (.astore_n 2, 1) := by decide +kernel
theorem dX4_tell_9 : decode cX4_tell 9 = .ok (.aload_n 2, 1) := by decide +kernel
theorem dX4_tell_10 : decode cX4_tell 10 = .ok (.ifnonnull 6, 3) := by decide +kernel
theorem dX4_tell_13 : decode cX4_tell 13 = .ok (.bipush (-11), 2) := by decide +kernel
theorem dX4_tell_15 : decode cX4_tell 15 = .ok (.ireturn, 1) := by decide +kernel
theorem dX4_tell_16 : decode cX4_tell 16 = .ok (.aload_n 0, 1) := by decide +kernel
theorem dX4_tell_17 : decode cX4_tell 17 = .ok (.getfield 30, 3) := by decide +kernel
theorem dX4_tell_20 : decode cX4_tell 20 = .ok (.invokevirtual 187, 3) := by decide +kernel
theorem dX4_tell_23 : decode cX4_tell 23 = .ok (.aload_n 0, 1) := by decide +kernel
theorem dX4_tell_24 : decode cX4_tell 24 = .ok (.getfield 30, 3) := by decide +kernel
theorem dX4_tell_27 : decode cX4_tell 27 = .ok (.aload_n 2, 1) := by decide +kernel
theorem dX4_tell_28 : decode cX4_tell 28 = .ok (.iconst 0, 1) := by decide +kernel
theorem dX4_tell_29 : decode cX4_tell 29 = .ok (.aload_n 2, 1) := by decide +kernel
theorem dX4_tell_30 : decode cX4_tell 30 = .ok (.getfield 111, 3) := by decide +kernel
theorem dX4_tell_33 : decode cX4_tell 33 = .ok (.iconst 1, 1) := by decide +kernel
theorem dX4_tell_34 : decode cX4_tell 34 = .ok (.isub, 1) := by decide +kernel
theorem dX4_tell_35 : decode cX4_tell 35 = .ok (.aload_n 0, 1) := by decide +kernel
theorem dX4_tell_36 : decode cX4_tell 36 = .ok (.getfield 10, 3) := by decide +kernel
theorem dX4_tell_39 : decode cX4_tell 39 = .ok (.getfield 95, 3) := by decide +kernel
theorem dX4_tell_42 : decode cX4_tell 42 = .ok (.iconst 0, 1) := by decide +kernel
theorem dX4_tell_43 : decode cX4_tell 43 = .ok (.invokestatic 199, 3) := by decide +kernel
theorem dX4_tell_46 : decode cX4_tell 46 = .ok (.aload_n 0, 1) := by decide +kernel
theorem dX4_tell_47 : decode cX4_tell 47 = .ok (.getfield 30, 3) := by decide +kernel
theorem dX4_tell_50 : decode cX4_tell 50 = .ok (.getfield 180, 3) := by decide +kernel
theorem dX4_tell_53 : decode cX4_tell 53 = .ok (.ireturn, 1) := by decide +kernel
theorem dX4_reason_0 : decode cX4_reason 0 = .ok (.iload_n 1, 1) := by decide +kernel
theorem dX4_reason_1 : decode cX4_reason 1 = .ok (.ifCond .eq 10, 3) := by decide +kernel
theorem dX4_reason_4 : decode cX4_reason 4 = .ok (.aload_n 0, 1) := by decide +kernel
theorem dX4_reason_5 : decode cX4_reason 5 = .ok (.getfield 44, 3) := by decide +kernel
theorem dX4_reason_8 : decode cX4_reason 8 = .ok (.goto 7, 3) := by decide +kernel
theorem dX4_reason_11 : decode cX4_reason 11 = .ok (.aload_n 0, 1) := by decide +kernel
theorem dX4_reason_12 : decode cX4_reason 12 = .ok (.getfield 40, 3) := by decide +kernel
theorem dX4_reason_15 : decode cX4_reason 15 = .ok (.ireturn, 1) := by decide +kernel
theorem dX4_account_0 : decode cX4_account 0 = .ok (.iload_n 1, 1) := by decide +kernel
theorem dX4_account_1 : decode cX4_account 1 = .ok (.tableswitch 144 0 10 #[59, 67, 75, 83, 91, 99, 107, 115, 123, 131, 139], 59) := by decide +kernel
theorem dX4_account_60 : decode cX4_account 60 = .ok (.aload_n 0, 1) := by decide +kernel
theorem dX4_account_61 : decode cX4_account 61 = .ok (.getfield 10, 3) := by decide +kernel
theorem dX4_account_64 : decode cX4_account 64 = .ok (.invokevirtual 149, 3) := by decide +kernel
theorem dX4_account_67 : decode cX4_account 67 = .ok (.ireturn, 1) := by decide +kernel
theorem dX4_account_68 : decode cX4_account 68 = .ok (.aload_n 0, 1) := by decide +kernel
theorem dX4_account_69 : decode cX4_account 69 = .ok (.getfield 10, 3) := by decide +kernel
theorem dX4_account_72 : decode cX4_account 72 = .ok (.invokevirtual 206, 3) := by decide +kernel
theorem dX4_account_75 : decode cX4_account 75 = .ok (.ireturn, 1) := by decide +kernel
theorem dX4_account_76 : decode cX4_account 76 = .ok (.aload_n 0, 1) := by decide +kernel
theorem dX4_account_77 : decode cX4_account 77 = .ok (.getfield 10, 3) := by decide +kernel
theorem dX4_account_80 : decode cX4_account 80 = .ok (.getfield 209, 3) := by decide +kernel
theorem dX4_account_83 : decode cX4_account 83 = .ok (.ireturn, 1) := by decide +kernel
theorem dX4_account_84 : decode cX4_account 84 = .ok (.aload_n 0, 1) := by decide +kernel
theorem dX4_account_85 : decode cX4_account 85 = .ok (.getfield 10, 3) := by decide +kernel
theorem dX4_account_88 : decode cX4_account 88 = .ok (.getfield 212, 3) := by decide +kernel
theorem dX4_account_91 : decode cX4_account 91 = .ok (.ireturn, 1) := by decide +kernel
theorem dX4_account_92 : decode cX4_account 92 = .ok (.aload_n 0, 1) := by decide +kernel
theorem dX4_account_93 : decode cX4_account 93 = .ok (.getfield 10, 3) := by decide +kernel
theorem dX4_account_96 : decode cX4_account 96 = .ok (.getfield 215, 3) := by decide +kernel
theorem dX4_account_99 : decode cX4_account 99 = .ok (.ireturn, 1) := by decide +kernel
theorem dX4_account_100 : decode cX4_account 100 = .ok (.aload_n 0, 1) := by decide +kernel
theorem dX4_account_101 : decode cX4_account 101 = .ok (.getfield 10, 3) := by decide +kernel
theorem dX4_account_104 : decode cX4_account 104 = .ok (.getfield 218, 3) := by decide +kernel
theorem dX4_account_107 : decode cX4_account 107 = .ok (.ireturn, 1) := by decide +kernel
theorem dX4_account_108 : decode cX4_account 108 = .ok (.aload_n 0, 1) := by decide +kernel
theorem dX4_account_109 : decode cX4_account 109 = .ok (.getfield 10, 3) := by decide +kernel
theorem dX4_account_112 : decode cX4_account 112 = .ok (.getfield 221, 3) := by decide +kernel
theorem dX4_account_115 : decode cX4_account 115 = .ok (.ireturn, 1) := by decide +kernel
theorem dX4_account_116 : decode cX4_account 116 = .ok (.aload_n 0, 1) := by decide +kernel
theorem dX4_account_117 : decode cX4_account 117 = .ok (.getfield 10, 3) := by decide +kernel
theorem dX4_account_120 : decode cX4_account 120 = .ok (.getfield 224, 3) := by decide +kernel
theorem dX4_account_123 : decode cX4_account 123 = .ok (.ireturn, 1) := by decide +kernel
theorem dX4_account_124 : decode cX4_account 124 = .ok (.aload_n 0, 1) := by decide +kernel
theorem dX4_account_125 : decode cX4_account 125 = .ok (.getfield 10, 3) := by decide +kernel
theorem dX4_account_128 : decode cX4_account 128 = .ok (.getfield 95, 3) := by decide +kernel
theorem dX4_account_131 : decode cX4_account 131 = .ok (.ireturn, 1) := by decide +kernel
theorem dX4_account_132 : decode cX4_account 132 = .ok (.aload_n 0, 1) := by decide +kernel
theorem dX4_account_133 : decode cX4_account 133 = .ok (.getfield 26, 3) := by decide +kernel
theorem dX4_account_136 : decode cX4_account 136 = .ok (.getfield 180, 3) := by decide +kernel
theorem dX4_account_139 : decode cX4_account 139 = .ok (.ireturn, 1) := by decide +kernel
theorem dX4_account_140 : decode cX4_account 140 = .ok (.aload_n 0, 1) := by decide +kernel
theorem dX4_account_141 : decode cX4_account 141 = .ok (.getfield 227, 3) := by decide +kernel
theorem dX4_account_144 : decode cX4_account 144 = .ok (.ireturn, 1) := by decide +kernel
theorem dX4_account_145 : decode cX4_account 145 = .ok (.bipush (-12), 2) := by decide +kernel
theorem dX4_account_147 : decode cX4_account 147 = .ok (.ireturn, 1) := by decide +kernel
theorem dX4_isBalanced_0 : decode cX4_isBalanced 0 = .ok (.aload_n 0, 1) := by decide +kernel
theorem dX4_isBalanced_1 : decode cX4_isBalanced 1 = .ok (.getfield 10, 3) := by decide +kernel
theorem dX4_isBalanced_4 : decode cX4_isBalanced 4 = .ok (.invokevirtual 149, 3) := by decide +kernel
theorem dX4_isBalanced_7 : decode cX4_isBalanced 7 = .ok (.aload_n 0, 1) := by decide +kernel
theorem dX4_isBalanced_8 : decode cX4_isBalanced 8 = .ok (.getfield 10, 3) := by decide +kernel
theorem dX4_isBalanced_11 : decode cX4_isBalanced 11 = .ok (.getfield 209, 3) := by decide +kernel
theorem dX4_isBalanced_14 : decode cX4_isBalanced 14 = .ok (.aload_n 0, 1) := by decide +kernel
theorem dX4_isBalanced_15 : decode cX4_isBalanced 15 = .ok (.getfield 10, 3) := by decide +kernel
theorem dX4_isBalanced_18 : decode cX4_isBalanced 18 = .ok (.getfield 212, 3) := by decide +kernel
theorem dX4_isBalanced_21 : decode cX4_isBalanced 21 = .ok (.isub, 1) := by decide +kernel
theorem dX4_isBalanced_22 : decode cX4_isBalanced 22 = .ok (.if_icmp .eq 5, 3) := by decide +kernel
theorem dX4_isBalanced_25 : decode cX4_isBalanced 25 = .ok (.iconst 0, 1) := by decide +kernel
theorem dX4_isBalanced_26 : decode cX4_isBalanced 26 = .ok (.ireturn, 1) := by decide +kernel
theorem dX4_isBalanced_27 : decode cX4_isBalanced 27 = .ok (.iconst 0, 1) := by decide +kernel
theorem dX4_isBalanced_28 : decode cX4_isBalanced 28 = .ok (.istore_n 1, 1) := by decide +kernel
theorem dX4_isBalanced_29 : decode cX4_isBalanced 29 = .ok (.iload_n 1, 1) := by decide +kernel
theorem dX4_isBalanced_30 : decode cX4_isBalanced 30 = .ok (.iconst 3, 1) := by decide +kernel
theorem dX4_isBalanced_31 : decode cX4_isBalanced 31 = .ok (.if_icmp .ge 31, 3) := by decide +kernel
theorem dX4_isBalanced_34 : decode cX4_isBalanced 34 = .ok (.aload_n 0, 1) := by decide +kernel
theorem dX4_isBalanced_35 : decode cX4_isBalanced 35 = .ok (.getfield 10, 3) := by decide +kernel
theorem dX4_isBalanced_38 : decode cX4_isBalanced 38 = .ok (.iload_n 1, 1) := by decide +kernel
theorem dX4_isBalanced_39 : decode cX4_isBalanced 39 = .ok (.invokevirtual 71, 3) := by decide +kernel
theorem dX4_isBalanced_42 : decode cX4_isBalanced 42 = .ok (.astore_n 2, 1) := by decide +kernel
theorem dX4_isBalanced_43 : decode cX4_isBalanced 43 = .ok (.aload_n 2, 1) := by decide +kernel
theorem dX4_isBalanced_44 : decode cX4_isBalanced 44 = .ok (.ifnull 10, 3) := by decide +kernel
theorem dX4_isBalanced_47 : decode cX4_isBalanced 47 = .ok (.aload_n 2, 1) := by decide +kernel
theorem dX4_isBalanced_48 : decode cX4_isBalanced 48 = .ok (.invokestatic 230, 3) := by decide +kernel
theorem dX4_isBalanced_51 : decode cX4_isBalanced 51 = .ok (.ifCond .ne 5, 3) := by decide +kernel
theorem dX4_isBalanced_54 : decode cX4_isBalanced 54 = .ok (.iconst 0, 1) := by decide +kernel
theorem dX4_isBalanced_55 : decode cX4_isBalanced 55 = .ok (.ireturn, 1) := by decide +kernel
theorem dX4_isBalanced_56 : decode cX4_isBalanced 56 = .ok (.iinc 1 1, 3) := by decide +kernel
theorem dX4_isBalanced_59 : decode cX4_isBalanced 59 = .ok (.goto (-30), 3) := by decide +kernel
theorem dX4_isBalanced_62 : decode cX4_isBalanced 62 = .ok (.iconst 1, 1) := by decide +kernel
theorem dX4_isBalanced_63 : decode cX4_isBalanced 63 = .ok (.ireturn, 1) := by decide +kernel
theorem dX4_undo_0 : decode cX4_undo 0 = .ok (.aload_n 0, 1) := by decide +kernel
theorem dX4_undo_1 : decode cX4_undo 1 = .ok (.getfield 227, 3) := by decide +kernel
theorem dX4_undo_4 : decode cX4_undo 4 = .ok (.ifCond .gt 6, 3) := by decide +kernel
theorem dX4_undo_7 : decode cX4_undo 7 = .ok (.bipush (-15), 2) := by decide +kernel
theorem dX4_undo_9 : decode cX4_undo 9 = .ok (.ireturn, 1) := by decide +kernel
theorem dX4_undo_10 : decode cX4_undo 10 = .ok (.aload_n 0, 1) := by decide +kernel
theorem dX4_undo_11 : decode cX4_undo 11 = .ok (.aload_n 0, 1) := by decide +kernel
theorem dX4_undo_12 : decode cX4_undo 12 = .ok (.getfield 234, 3) := by decide +kernel
theorem dX4_undo_15 : decode cX4_undo 15 = .ok (.bipush 8, 2) := by decide +kernel
theorem dX4_undo_17 : decode cX4_undo 17 = .ok (.iadd, 1) := by decide +kernel
theorem dX4_undo_18 : decode cX4_undo 18 = .ok (.bipush 9, 2) := by decide +kernel
theorem dX4_undo_20 : decode cX4_undo 20 = .ok (.irem, 1) := by decide +kernel
theorem dX4_undo_21 : decode cX4_undo 21 = .ok (.putfield 234, 3) := by decide +kernel
theorem dX4_undo_24 : decode cX4_undo 24 = .ok (.aload_n 0, 1) := by decide +kernel
theorem dX4_undo_25 : decode cX4_undo 25 = .ok (.dup, 1) := by decide +kernel
theorem dX4_undo_26 : decode cX4_undo 26 = .ok (.getfield 227, 3) := by decide +kernel
theorem dX4_undo_29 : decode cX4_undo 29 = .ok (.iconst 1, 1) := by decide +kernel
theorem dX4_undo_30 : decode cX4_undo 30 = .ok (.isub, 1) := by decide +kernel
theorem dX4_undo_31 : decode cX4_undo 31 = .ok (.putfield 227, 3) := by decide +kernel
theorem dX4_undo_34 : decode cX4_undo 34 = .ok (.aload_n 0, 1) := by decide +kernel
theorem dX4_undo_35 : decode cX4_undo 35 = .ok (.invokevirtual 193, 3) := by decide +kernel
theorem dX4_undo_38 : decode cX4_undo 38 = .ok (.aload_n 0, 1) := by decide +kernel
theorem dX4_undo_39 : decode cX4_undo 39 = .ok (.getfield 227, 3) := by decide +kernel
theorem dX4_undo_42 : decode cX4_undo 42 = .ok (.ireturn, 1) := by decide +kernel
theorem dX4_save_0 : decode cX4_save 0 = .ok (.aload_n 0, 1) := by decide +kernel
theorem dX4_save_1 : decode cX4_save 1 = .ok (.getfield 16, 3) := by decide +kernel
theorem dX4_save_4 : decode cX4_save 4 = .ok (.aload_n 0, 1) := by decide +kernel
theorem dX4_save_5 : decode cX4_save 5 = .ok (.getfield 10, 3) := by decide +kernel
theorem dX4_save_8 : decode cX4_save 8 = .ok (.invokevirtual 237, 3) := by decide +kernel
theorem dX4_save_11 : decode cX4_save 11 = .ok (.aload_n 0, 1) := by decide +kernel
theorem dX4_save_12 : decode cX4_save 12 = .ok (.iconst 1, 1) := by decide +kernel
theorem dX4_save_13 : decode cX4_save 13 = .ok (.putfield 241, 3) := by decide +kernel
theorem dX4_save_16 : decode cX4_save 16 = .ok (.aload_n 0, 1) := by decide +kernel
theorem dX4_save_17 : decode cX4_save 17 = .ok (.getfield 10, 3) := by decide +kernel
theorem dX4_save_20 : decode cX4_save 20 = .ok (.invokevirtual 149, 3) := by decide +kernel
theorem dX4_save_23 : decode cX4_save 23 = .ok (.ireturn, 1) := by decide +kernel
theorem dX4_restore_0 : decode cX4_restore 0 = .ok (.aload_n 0, 1) := by decide +kernel
theorem dX4_restore_1 : decode cX4_restore 1 = .ok (.getfield 241, 3) := by decide +kernel
theorem dX4_restore_4 : decode cX4_restore 4 = .ok (.ifCond .ne 6, 3) := by decide +kernel
theorem dX4_restore_7 : decode cX4_restore 7 = .ok (.bipush (-15), 2) := by decide +kernel
theorem dX4_restore_9 : decode cX4_restore 9 = .ok (.ireturn, 1) := by decide +kernel
theorem dX4_restore_10 : decode cX4_restore 10 = .ok (.aload_n 0, 1) := by decide +kernel
theorem dX4_restore_11 : decode cX4_restore 11 = .ok (.getfield 10, 3) := by decide +kernel
theorem dX4_restore_14 : decode cX4_restore 14 = .ok (.aload_n 0, 1) := by decide +kernel
theorem dX4_restore_15 : decode cX4_restore 15 = .ok (.getfield 16, 3) := by decide +kernel
theorem dX4_restore_18 : decode cX4_restore 18 = .ok (.invokevirtual 237, 3) := by decide +kernel
theorem dX4_restore_21 : decode cX4_restore 21 = .ok (.aload_n 0, 1) := by decide +kernel
theorem dX4_restore_22 : decode cX4_restore 22 = .ok (.iconst 0, 1) := by decide +kernel
theorem dX4_restore_23 : decode cX4_restore 23 = .ok (.putfield 227, 3) := by decide +kernel
theorem dX4_restore_26 : decode cX4_restore 26 = .ok (.aload_n 0, 1) := by decide +kernel
theorem dX4_restore_27 : decode cX4_restore 27 = .ok (.getfield 10, 3) := by decide +kernel
theorem dX4_restore_30 : decode cX4_restore 30 = .ok (.invokevirtual 149, 3) := by decide +kernel
theorem dX4_restore_33 : decode cX4_restore 33 = .ok (.ireturn, 1) := by decide +kernel
theorem dX4_putNow_0 : decode cX4_putNow 0 = .ok (.aload_n 0, 1) := by decide +kernel
theorem dX4_putNow_1 : decode cX4_putNow 1 = .ok (.getfield 10, 3) := by decide +kernel
theorem dX4_putNow_4 : decode cX4_putNow 4 = .ok (.iload_n 1, 1) := by decide +kernel
theorem dX4_putNow_5 : decode cX4_putNow 5 = .ok (.invokevirtual 71, 3) := by decide +kernel
theorem dX4_putNow_8 : decode cX4_putNow 8 = .ok (.astore 4, 2) := by decide +kernel
theorem dX4_putNow_10 : decode cX4_putNow 10 = .ok (.aload 4, 2) := by decide +kernel
theorem dX4_putNow_12 : decode cX4_putNow 12 = .ok (.ifnonnull 6, 3) := by decide +kernel
theorem dX4_putNow_15 : decode cX4_putNow 15 = .ok (.bipush (-11), 2) := by decide +kernel
theorem dX4_putNow_17 : decode cX4_putNow 17 = .ok (.ireturn, 1) := by decide +kernel
theorem dX4_putNow_18 : decode cX4_putNow 18 = .ok (.iload_n 2, 1) := by decide +kernel
theorem dX4_putNow_19 : decode cX4_putNow 19 = .ok (.ifCond .lt 21, 3) := by decide +kernel
theorem dX4_putNow_22 : decode cX4_putNow 22 = .ok (.iload_n 2, 1) := by decide +kernel
theorem dX4_putNow_23 : decode cX4_putNow 23 = .ok (.sipush 1000, 3) := by decide +kernel
theorem dX4_putNow_26 : decode cX4_putNow 26 = .ok (.if_icmp .ge 14, 3) := by decide +kernel
theorem dX4_putNow_29 : decode cX4_putNow 29 = .ok (.iload_n 3, 1) := by decide +kernel
theorem dX4_putNow_30 : decode cX4_putNow 30 = .ok (.iconst 1, 1) := by decide +kernel
theorem dX4_putNow_31 : decode cX4_putNow 31 = .ok (.if_icmp .lt 9, 3) := by decide +kernel
theorem dX4_putNow_34 : decode cX4_putNow 34 = .ok (.iload_n 3, 1) := by decide +kernel
theorem dX4_putNow_35 : decode cX4_putNow 35 = .ok (.bipush 99, 2) := by decide +kernel
theorem dX4_putNow_37 : decode cX4_putNow 37 = .ok (.if_icmp .le 6, 3) := by decide +kernel
theorem dX4_putNow_40 : decode cX4_putNow 40 = .ok (.bipush (-12), 2) := by decide +kernel
theorem dX4_putNow_42 : decode cX4_putNow 42 = .ok (.ireturn, 1) := by decide +kernel
theorem dX4_putNow_43 : decode cX4_putNow 43 = .ok (.aload 4, 2) := by decide +kernel
theorem dX4_putNow_45 : decode cX4_putNow 45 = .ok (.iload_n 2, 1) := by decide +kernel
theorem dX4_putNow_46 : decode cX4_putNow 46 = .ok (.invokevirtual 75, 3) := by decide +kernel
theorem dX4_putNow_49 : decode cX4_putNow 49 = .ok (.iconst (-1), 1) := by decide +kernel
theorem dX4_putNow_50 : decode cX4_putNow 50 = .ok (.if_icmp .eq 10, 3) := by decide +kernel
theorem dX4_putNow_53 : decode cX4_putNow 53 = .ok (.aload_n 0, 1) := by decide +kernel
theorem dX4_putNow_54 : decode cX4_putNow 54 = .ok (.iconst 2, 1) := by decide +kernel
theorem dX4_putNow_55 : decode cX4_putNow 55 = .ok (.iload_n 2, 1) := by decide +kernel
theorem dX4_putNow_56 : decode cX4_putNow 56 = .ok (.invokevirtual 196, 3) := by decide +kernel
theorem dX4_putNow_59 : decode cX4_putNow 59 = .ok (.ireturn, 1) := by decide +kernel
theorem dX4_putNow_60 : decode cX4_putNow 60 = .ok (.aload 4, 2) := by decide +kernel
theorem dX4_putNow_62 : decode cX4_putNow 62 = .ok (.getfield 111, 3) := by decide +kernel
theorem dX4_putNow_65 : decode cX4_putNow 65 = .ok (.bipush 30, 2) := by decide +kernel
theorem dX4_putNow_67 : decode cX4_putNow 67 = .ok (.if_icmp .lt 14, 3) := by decide +kernel
theorem dX4_putNow_70 : decode cX4_putNow 70 = .ok (.aload_n 0, 1) := by decide +kernel
theorem dX4_putNow_71 : decode cX4_putNow 71 = .ok (.iconst 1, 1) := by decide +kernel
theorem dX4_putNow_72 : decode cX4_putNow 72 = .ok (.aload 4, 2) := by decide +kernel
theorem dX4_putNow_74 : decode cX4_putNow 74 = .ok (.getfield 111, 3) := by decide +kernel
theorem dX4_putNow_77 : decode cX4_putNow 77 = .ok (.invokevirtual 196, 3) := by decide +kernel
theorem dX4_putNow_80 : decode cX4_putNow 80 = .ok (.ireturn, 1) := by decide +kernel
theorem dX4_putNow_81 : decode cX4_putNow 81 = .ok (.aload 4, 2) := by decide +kernel
theorem dX4_putNow_83 : decode cX4_putNow 83 = .ok (.iload_n 2, 1) := by decide +kernel
theorem dX4_putNow_84 : decode cX4_putNow 84 = .ok (.iload_n 3, 1) := by decide +kernel
theorem dX4_putNow_85 : decode cX4_putNow 85 = .ok (.invokevirtual 245, 3) := by decide +kernel
theorem dX4_putNow_88 : decode cX4_putNow 88 = .ok (.istore 5, 2) := by decide +kernel
theorem dX4_putNow_90 : decode cX4_putNow 90 = .ok (.aload 4, 2) := by decide +kernel
theorem dX4_putNow_92 : decode cX4_putNow 92 = .ok (.aload 4, 2) := by decide +kernel
theorem dX4_putNow_94 : decode cX4_putNow 94 = .ok (.getfield 121, 3) := by decide +kernel
theorem dX4_putNow_97 : decode cX4_putNow 97 = .ok (.aload 4, 2) := by decide +kernel
theorem dX4_putNow_99 : decode cX4_putNow 99 = .ok (.getfield 111, 3) := by decide +kernel
theorem dX4_putNow_102 : decode cX4_putNow 102 = .ok (.invokestatic 248, 3) := by decide +kernel
theorem dX4_putNow_105 : decode cX4_putNow 105 = .ok (.putfield 121, 3) := by decide +kernel
theorem dX4_putNow_108 : decode cX4_putNow 108 = .ok (.aload_n 0, 1) := by decide +kernel
theorem dX4_putNow_109 : decode cX4_putNow 109 = .ok (.getfield 10, 3) := by decide +kernel
theorem dX4_putNow_112 : decode cX4_putNow 112 = .ok (.dup, 1) := by decide +kernel
theorem dX4_putNow_113 : decode cX4_putNow 113 = .ok (.getfield 209, 3) := by decide +kernel
theorem dX4_putNow_116 : decode cX4_putNow 116 = .ok (.iconst 1, 1) := by decide +kernel
theorem dX4_putNow_117 : decode cX4_putNow 117 = .ok (.iadd, 1) := by decide +kernel
theorem dX4_putNow_118 : decode cX4_putNow 118 = .ok (.putfield 209, 3) := by decide +kernel
theorem dX4_putNow_121 : decode cX4_putNow 121 = .ok (.aload 4, 2) := by decide +kernel
theorem dX4_putNow_123 : decode cX4_putNow 123 = .ok (.iload 5, 2) := by decide +kernel
theorem dX4_putNow_125 : decode cX4_putNow 125 = .ok (.invokevirtual 89, 3) := by decide +kernel
theorem dX4_putNow_128 : decode cX4_putNow 128 = .ok (.aload 4, 2) := by decide +kernel
theorem dX4_putNow_130 : decode cX4_putNow 130 = .ok (.getfield 111, 3) := by decide +kernel
theorem dX4_putNow_133 : decode cX4_putNow 133 = .ok (.aload_n 0, 1) := by decide +kernel
theorem dX4_putNow_134 : decode cX4_putNow 134 = .ok (.getfield 10, 3) := by decide +kernel
theorem dX4_putNow_137 : decode cX4_putNow 137 = .ok (.getfield 95, 3) := by decide +kernel
theorem dX4_putNow_140 : decode cX4_putNow 140 = .ok (.invokestatic 118, 3) := by decide +kernel
theorem dX4_putNow_143 : decode cX4_putNow 143 = .ok (.if_icmp .gt 5, 3) := by decide +kernel
theorem dX4_putNow_146 : decode cX4_putNow 146 = .ok (.iconst 0, 1) := by decide +kernel
theorem dX4_putNow_147 : decode cX4_putNow 147 = .ok (.ireturn, 1) := by decide +kernel
theorem dX4_putNow_148 : decode cX4_putNow 148 = .ok (.aload 4, 2) := by decide +kernel
theorem dX4_putNow_150 : decode cX4_putNow 150 = .ok (.iload 5, 2) := by decide +kernel
theorem dX4_putNow_152 : decode cX4_putNow 152 = .ok (.aload_n 0, 1) := by decide +kernel
theorem dX4_putNow_153 : decode cX4_putNow 153 = .ok (.getfield 10, 3) := by decide +kernel
theorem dX4_putNow_156 : decode cX4_putNow 156 = .ok (.getfield 95, 3) := by decide +kernel
theorem dX4_putNow_159 : decode cX4_putNow 159 = .ok (.invokevirtual 253, 3) := by decide +kernel
theorem dX4_putNow_162 : decode cX4_putNow 162 = .ok (.istore 6, 2) := by decide +kernel
theorem dX4_putNow_164 : decode cX4_putNow 164 = .ok (.iload 6, 2) := by decide +kernel
theorem dX4_putNow_166 : decode cX4_putNow 166 = .ok (.ifCond .le 30, 3) := by decide +kernel
theorem dX4_putNow_169 : decode cX4_putNow 169 = .ok (.aload_n 0, 1) := by decide +kernel
theorem dX4_putNow_170 : decode cX4_putNow 170 = .ok (.getfield 10, 3) := by decide +kernel
theorem dX4_putNow_173 : decode cX4_putNow 173 = .ok (.dup, 1) := by decide +kernel
theorem dX4_putNow_174 : decode cX4_putNow 174 = .ok (.getfield 215, 3) := by decide +kernel
theorem dX4_putNow_177 : decode cX4_putNow 177 = .ok (.iconst 1, 1) := by decide +kernel
theorem dX4_putNow_178 : decode cX4_putNow 178 = .ok (.iadd, 1) := by decide +kernel
theorem dX4_putNow_179 : decode cX4_putNow 179 = .ok (.putfield 215, 3) := by decide +kernel
theorem dX4_putNow_182 : decode cX4_putNow 182 = .ok (.aload_n 0, 1) := by decide +kernel
theorem dX4_putNow_183 : decode cX4_putNow 183 = .ok (.getfield 10, 3) := by decide +kernel
theorem dX4_putNow_186 : decode cX4_putNow 186 = .ok (.dup, 1) := by decide +kernel
theorem dX4_putNow_187 : decode cX4_putNow 187 = .ok (.getfield 221, 3) := by decide +kernel
theorem dX4_putNow_190 : decode cX4_putNow 190 = .ok (.iload 6, 2) := by decide +kernel
theorem dX4_putNow_192 : decode cX4_putNow 192 = .ok (.iadd, 1) := by decide +kernel
theorem dX4_putNow_193 : decode cX4_putNow 193 = .ok (.putfield 221, 3) := by decide +kernel
theorem dX4_putNow_196 : decode cX4_putNow 196 = .ok (.iload 6, 2) := by decide +kernel
theorem dX4_putNow_198 : decode cX4_putNow 198 = .ok (.ireturn, 1) := by decide +kernel
theorem dX4_takeNow_0 : decode cX4_takeNow 0 = .ok (.aload_n 0, 1) := by decide +kernel
theorem dX4_takeNow_1 : decode cX4_takeNow 1 = .ok (.getfield 10, 3) := by decide +kernel
theorem dX4_takeNow_4 : decode cX4_takeNow 4 = .ok (.iload_n 1, 1) := by decide +kernel
theorem dX4_takeNow_5 : decode cX4_takeNow 5 = .ok (.invokevirtual 71, 3) := by decide +kernel
theorem dX4_takeNow_8 : decode cX4_takeNow 8 = .ok (.astore_n 3, 1) := by decide +kernel
theorem dX4_takeNow_9 : decode cX4_takeNow 9 = .ok (.aload_n 3, 1) := by decide +kernel
theorem dX4_takeNow_10 : decode cX4_takeNow 10 = .ok (.ifnonnull 6, 3) := by decide +kernel
theorem dX4_takeNow_13 : decode cX4_takeNow 13 = .ok (.bipush (-11), 2) := by decide +kernel
theorem dX4_takeNow_15 : decode cX4_takeNow 15 = .ok (.ireturn, 1) := by decide +kernel
theorem dX4_takeNow_16 : decode cX4_takeNow 16 = .ok (.aload_n 3, 1) := by decide +kernel
theorem dX4_takeNow_17 : decode cX4_takeNow 17 = .ok (.iload_n 2, 1) := by decide +kernel
theorem dX4_takeNow_18 : decode cX4_takeNow 18 = .ok (.invokevirtual 75, 3) := by decide +kernel
theorem dX4_takeNow_21 : decode cX4_takeNow 21 = .ok (.istore 4, 2) := by decide +kernel
theorem dX4_takeNow_23 : decode cX4_takeNow 23 = .ok (.iload 4, 2) := by decide +kernel
theorem dX4_takeNow_25 : decode cX4_takeNow 25 = .ok (.iconst (-1), 1) := by decide +kernel
theorem dX4_takeNow_26 : decode cX4_takeNow 26 = .ok (.if_icmp .ne 6, 3) := by decide +kernel
theorem dX4_takeNow_29 : decode cX4_takeNow 29 = .ok (.bipush (-11), 2) := by decide +kernel
theorem dX4_takeNow_31 : decode cX4_takeNow 31 = .ok (.ireturn, 1) := by decide +kernel
theorem dX4_takeNow_32 : decode cX4_takeNow 32 = .ok (.aload_n 3, 1) := by decide +kernel
theorem dX4_takeNow_33 : decode cX4_takeNow 33 = .ok (.iload 4, 2) := by decide +kernel
theorem dX4_takeNow_35 : decode cX4_takeNow 35 = .ok (.invokevirtual 86, 3) := by decide +kernel
theorem dX4_takeNow_38 : decode cX4_takeNow 38 = .ok (.istore 5, 2) := by decide +kernel
theorem dX4_takeNow_40 : decode cX4_takeNow 40 = .ok (.aload_n 3, 1) := by decide +kernel
theorem dX4_takeNow_41 : decode cX4_takeNow 41 = .ok (.iload 4, 2) := by decide +kernel
theorem dX4_takeNow_43 : decode cX4_takeNow 43 = .ok (.invokevirtual 256, 3) := by decide +kernel
theorem dX4_takeNow_46 : decode cX4_takeNow 46 = .ok (.aload_n 0, 1) := by decide +kernel
theorem dX4_takeNow_47 : decode cX4_takeNow 47 = .ok (.getfield 10, 3) := by decide +kernel
theorem dX4_takeNow_50 : decode cX4_takeNow 50 = .ok (.dup, 1) := by decide +kernel
theorem dX4_takeNow_51 : decode cX4_takeNow 51 = .ok (.getfield 212, 3) := by decide +kernel
theorem dX4_takeNow_54 : decode cX4_takeNow 54 = .ok (.iconst 1, 1) := by decide +kernel
theorem dX4_takeNow_55 : decode cX4_takeNow 55 = .ok (.iadd, 1) := by decide +kernel
theorem dX4_takeNow_56 : decode cX4_takeNow 56 = .ok (.putfield 212, 3) := by decide +kernel
theorem dX4_takeNow_59 : decode cX4_takeNow 59 = .ok (.bipush 100, 2) := by decide +kernel
theorem dX4_takeNow_61 : decode cX4_takeNow 61 = .ok (.aload_n 3, 1) := by decide +kernel
theorem dX4_takeNow_62 : decode cX4_takeNow 62 = .ok (.getfield 111, 3) := by decide +kernel
theorem dX4_takeNow_65 : decode cX4_takeNow 65 = .ok (.imul, 1) := by decide +kernel
theorem dX4_takeNow_66 : decode cX4_takeNow 66 = .ok (.aload_n 0, 1) := by decide +kernel
theorem dX4_takeNow_67 : decode cX4_takeNow 67 = .ok (.getfield 10, 3) := by decide +kernel
theorem dX4_takeNow_70 : decode cX4_takeNow 70 = .ok (.getfield 95, 3) := by decide +kernel
theorem dX4_takeNow_73 : decode cX4_takeNow 73 = .ok (.aload_n 3, 1) := by decide +kernel
theorem dX4_takeNow_74 : decode cX4_takeNow 74 = .ok (.getfield 121, 3) := by decide +kernel
theorem dX4_takeNow_77 : decode cX4_takeNow 77 = .ok (.imul, 1) := by decide +kernel
theorem dX4_takeNow_78 : decode cX4_takeNow 78 = .ok (.if_icmp .ge 9, 3) := by decide +kernel
theorem dX4_takeNow_81 : decode cX4_takeNow 81 = .ok (.aload_n 0, 1) := by decide +kernel
theorem dX4_takeNow_82 : decode cX4_takeNow 82 = .ok (.aload_n 3, 1) := by decide +kernel
theorem dX4_takeNow_83 : decode cX4_takeNow 83 = .ok (.invokevirtual 260, 3) := by decide +kernel
theorem dX4_takeNow_86 : decode cX4_takeNow 86 = .ok (.pop, 1) := by decide +kernel
theorem dX4_takeNow_87 : decode cX4_takeNow 87 = .ok (.iload 5, 2) := by decide +kernel
theorem dX4_takeNow_89 : decode cX4_takeNow 89 = .ok (.ireturn, 1) := by decide +kernel
theorem dX4_buildNow_0 : decode cX4_buildNow 0 = .ok (.aload_n 0, 1) := by decide +kernel
theorem dX4_buildNow_1 : decode cX4_buildNow 1 = .ok (.getfield 10, 3) := by decide +kernel
theorem dX4_buildNow_4 : decode cX4_buildNow 4 = .ok (.iload_n 1, 1) := by decide +kernel
theorem dX4_buildNow_5 : decode cX4_buildNow 5 = .ok (.invokevirtual 71, 3) := by decide +kernel
theorem dX4_buildNow_8 : decode cX4_buildNow 8 = .ok (.astore_n 2, 1) := by decide +kernel
theorem dX4_buildNow_9 : decode cX4_buildNow 9 = .ok (.aload_n 2, 1) := by decide +kernel
theorem dX4_buildNow_10 : decode cX4_buildNow 10 = .ok (.ifnonnull 6, 3) := by decide +kernel
theorem dX4_buildNow_13 : decode cX4_buildNow 13 = .ok (.bipush (-11), 2) := by decide +kernel
theorem dX4_buildNow_15 : decode cX4_buildNow 15 = .ok (.ireturn, 1) := by decide +kernel
theorem dX4_buildNow_16 : decode cX4_buildNow 16 = .ok (.aload_n 2, 1) := by decide +kernel
theorem dX4_buildNow_17 : decode cX4_buildNow 17 = .ok (.getfield 111, 3) := by decide +kernel
theorem dX4_buildNow_20 : decode cX4_buildNow 20 = .ok (.ifCond .gt 10, 3) := by decide +kernel
theorem dX4_buildNow_23 : decode cX4_buildNow 23 = .ok (.aload_n 0, 1) := by decide +kernel
theorem dX4_buildNow_24 : decode cX4_buildNow 24 = .ok (.iconst 5, 1) := by decide +kernel
theorem dX4_buildNow_25 : decode cX4_buildNow 25 = .ok (.iload_n 1, 1) := by decide +kernel
theorem dX4_buildNow_26 : decode cX4_buildNow 26 = .ok (.invokevirtual 196, 3) := by decide +kernel
theorem dX4_buildNow_29 : decode cX4_buildNow 29 = .ok (.ireturn, 1) := by decide +kernel
theorem dX4_buildNow_30 : decode cX4_buildNow 30 = .ok (.aload_n 0, 1) := by decide +kernel
theorem dX4_buildNow_31 : decode cX4_buildNow 31 = .ok (.aload_n 2, 1) := by decide +kernel
theorem dX4_buildNow_32 : decode cX4_buildNow 32 = .ok (.invokevirtual 260, 3) := by decide +kernel
theorem dX4_buildNow_35 : decode cX4_buildNow 35 = .ok (.ireturn, 1) := by decide +kernel
theorem dX4_pourNow_0 : decode cX4_pourNow 0 = .ok (.aload_n 0, 1) := by decide +kernel
theorem dX4_pourNow_1 : decode cX4_pourNow 1 = .ok (.getfield 10, 3) := by decide +kernel
theorem dX4_pourNow_4 : decode cX4_pourNow 4 = .ok (.iload_n 1, 1) := by decide +kernel
theorem dX4_pourNow_5 : decode cX4_pourNow 5 = .ok (.invokevirtual 71, 3) := by decide +kernel
theorem dX4_pourNow_8 : decode cX4_pourNow 8 = .ok (.astore_n 3, 1) := by decide +kernel
theorem dX4_pourNow_9 : decode cX4_pourNow 9 = .ok (.aload_n 0, 1) := by decide +kernel
theorem dX4_pourNow_10 : decode cX4_pourNow 10 = .ok (.getfield 10, 3) := by decide +kernel
theorem dX4_pourNow_13 : decode cX4_pourNow 13 = .ok (.iload_n 2, 1) := by decide +kernel
theorem dX4_pourNow_14 : decode cX4_pourNow 14 = .ok (.invokevirtual 71, 3) := by decide +kernel
theorem dX4_pourNow_17 : decode cX4_pourNow 17 = .ok (.astore 4, 2) := by decide +kernel
theorem dX4_pourNow_19 : decode cX4_pourNow 19 = .ok (.aload_n 3, 1) := by decide +kernel
theorem dX4_pourNow_20 : decode cX4_pourNow 20 = .ok (.ifnull 8, 3) := by decide +kernel
theorem dX4_pourNow_23 : decode cX4_pourNow 23 = .ok (.aload 4, 2) := by decide +kernel
theorem dX4_pourNow_25 : decode cX4_pourNow 25 = .ok (.ifnonnull 6, 3) := by decide +kernel
theorem dX4_pourNow_28 : decode cX4_pourNow 28 = .ok (.bipush (-11), 2) := by decide +kernel
theorem dX4_pourNow_30 : decode cX4_pourNow 30 = .ok (.ireturn, 1) := by decide +kernel
theorem dX4_pourNow_31 : decode cX4_pourNow 31 = .ok (.iload_n 1, 1) := by decide +kernel
theorem dX4_pourNow_32 : decode cX4_pourNow 32 = .ok (.iload_n 2, 1) := by decide +kernel
theorem dX4_pourNow_33 : decode cX4_pourNow 33 = .ok (.if_icmp .ne 10, 3) := by decide +kernel
theorem dX4_pourNow_36 : decode cX4_pourNow 36 = .ok (.aload_n 0, 1) := by decide +kernel
theorem dX4_pourNow_37 : decode cX4_pourNow 37 = .ok (.iconst 3, 1) := by decide +kernel
theorem dX4_pourNow_38 : decode cX4_pourNow 38 = .ok (.iload_n 1, 1) := by decide +kernel
theorem dX4_pourNow_39 : decode cX4_pourNow 39 = .ok (.invokevirtual 196, 3) := by decide +kernel
theorem dX4_pourNow_42 : decode cX4_pourNow 42 = .ok (.ireturn, 1) := by decide +kernel
theorem dX4_pourNow_43 : decode cX4_pourNow 43 = .ok (.aload_n 3, 1) := by decide +kernel
theorem dX4_pourNow_44 : decode cX4_pourNow 44 = .ok (.getfield 111, 3) := by decide +kernel
theorem dX4_pourNow_47 : decode cX4_pourNow 47 = .ok (.ifCond .gt 10, 3) := by decide +kernel
theorem dX4_pourNow_50 : decode cX4_pourNow 50 = .ok (.aload_n 0, 1) := by decide +kernel
theorem dX4_pourNow_51 : decode cX4_pourNow 51 = .ok (.iconst 5, 1) := by decide +kernel
theorem dX4_pourNow_52 : decode cX4_pourNow 52 = .ok (.iload_n 1, 1) := by decide +kernel
theorem dX4_pourNow_53 : decode cX4_pourNow 53 = .ok (.invokevirtual 196, 3) := by decide +kernel
theorem dX4_pourNow_56 : decode cX4_pourNow 56 = .ok (.ireturn, 1) := by decide +kernel
theorem dX4_pourNow_57 : decode cX4_pourNow 57 = .ok (.aload_n 3, 1) := by decide +kernel
theorem dX4_pourNow_58 : decode cX4_pourNow 58 = .ok (.getfield 111, 3) := by decide +kernel
theorem dX4_pourNow_61 : decode cX4_pourNow 61 = .ok (.aload 4, 2) := by decide +kernel
theorem dX4_pourNow_63 : decode cX4_pourNow 63 = .ok (.getfield 111, 3) := by decide +kernel
theorem dX4_pourNow_66 : decode cX4_pourNow 66 = .ok (.iadd, 1) := by decide +kernel
theorem dX4_pourNow_67 : decode cX4_pourNow 67 = .ok (.bipush 30, 2) := by decide +kernel
theorem dX4_pourNow_69 : decode cX4_pourNow 69 = .ok (.if_icmp .le 19, 3) := by decide +kernel
theorem dX4_pourNow_72 : decode cX4_pourNow 72 = .ok (.aload_n 0, 1) := by decide +kernel
theorem dX4_pourNow_73 : decode cX4_pourNow 73 = .ok (.iconst 1, 1) := by decide +kernel
theorem dX4_pourNow_74 : decode cX4_pourNow 74 = .ok (.aload_n 3, 1) := by decide +kernel
theorem dX4_pourNow_75 : decode cX4_pourNow 75 = .ok (.getfield 111, 3) := by decide +kernel
theorem dX4_pourNow_78 : decode cX4_pourNow 78 = .ok (.aload 4, 2) := by decide +kernel
theorem dX4_pourNow_80 : decode cX4_pourNow 80 = .ok (.getfield 111, 3) := by decide +kernel
theorem dX4_pourNow_83 : decode cX4_pourNow 83 = .ok (.iadd, 1) := by decide +kernel
theorem dX4_pourNow_84 : decode cX4_pourNow 84 = .ok (.invokevirtual 196, 3) := by decide +kernel
theorem dX4_pourNow_87 : decode cX4_pourNow 87 = .ok (.ireturn, 1) := by decide +kernel
theorem dX4_pourNow_88 : decode cX4_pourNow 88 = .ok (.iconst 0, 1) := by decide +kernel
theorem dX4_pourNow_89 : decode cX4_pourNow 89 = .ok (.istore 5, 2) := by decide +kernel
theorem dX4_pourNow_91 : decode cX4_pourNow 91 = .ok (.iload 5, 2) := by decide +kernel
theorem dX4_pourNow_93 : decode cX4_pourNow 93 = .ok (.aload_n 3, 1) := by decide +kernel
theorem dX4_pourNow_94 : decode cX4_pourNow 94 = .ok (.getfield 111, 3) := by decide +kernel
theorem dX4_pourNow_97 : decode cX4_pourNow 97 = .ok (.if_icmp .ge 36, 3) := by decide +kernel
theorem dX4_pourNow_100 : decode cX4_pourNow 100 = .ok (.aload 4, 2) := by decide +kernel
theorem dX4_pourNow_102 : decode cX4_pourNow 102 = .ok (.aload_n 3, 1) := by decide +kernel
theorem dX4_pourNow_103 : decode cX4_pourNow 103 = .ok (.iload 5, 2) := by decide +kernel
theorem dX4_pourNow_105 : decode cX4_pourNow 105 = .ok (.invokevirtual 105, 3) := by decide +kernel
theorem dX4_pourNow_108 : decode cX4_pourNow 108 = .ok (.invokevirtual 75, 3) := by decide +kernel
theorem dX4_pourNow_111 : decode cX4_pourNow 111 = .ok (.iconst (-1), 1) := by decide +kernel
theorem dX4_pourNow_112 : decode cX4_pourNow 112 = .ok (.if_icmp .eq 15, 3) := by decide +kernel
theorem dX4_pourNow_115 : decode cX4_pourNow 115 = .ok (.aload_n 0, 1) := by decide +kernel
theorem dX4_pourNow_116 : decode cX4_pourNow 116 = .ok (.iconst 2, 1) := by decide +kernel
theorem dX4_pourNow_117 : decode cX4_pourNow 117 = .ok (.aload_n 3, 1) := by decide +kernel
theorem dX4_pourNow_118 : decode cX4_pourNow 118 = .ok (.iload 5, 2) := by decide +kernel
theorem dX4_pourNow_120 : decode cX4_pourNow 120 = .ok (.invokevirtual 105, 3) := by decide +kernel
theorem dX4_pourNow_123 : decode cX4_pourNow 123 = .ok (.invokevirtual 196, 3) := by decide +kernel
theorem dX4_pourNow_126 : decode cX4_pourNow 126 = .ok (.ireturn, 1) := by decide +kernel
theorem dX4_pourNow_127 : decode cX4_pourNow 127 = .ok (.iinc 5 1, 3) := by decide +kernel
theorem dX4_pourNow_130 : decode cX4_pourNow 130 = .ok (.goto (-39), 3) := by decide +kernel
theorem dX4_pourNow_133 : decode cX4_pourNow 133 = .ok (.iconst 0, 1) := by decide +kernel
theorem dX4_pourNow_134 : decode cX4_pourNow 134 = .ok (.istore 5, 2) := by decide +kernel
theorem dX4_pourNow_136 : decode cX4_pourNow 136 = .ok (.iload 5, 2) := by decide +kernel
theorem dX4_pourNow_138 : decode cX4_pourNow 138 = .ok (.aload_n 3, 1) := by decide +kernel
theorem dX4_pourNow_139 : decode cX4_pourNow 139 = .ok (.getfield 111, 3) := by decide +kernel
theorem dX4_pourNow_142 : decode cX4_pourNow 142 = .ok (.if_icmp .ge 27, 3) := by decide +kernel
theorem dX4_pourNow_145 : decode cX4_pourNow 145 = .ok (.aload 4, 2) := by decide +kernel
theorem dX4_pourNow_147 : decode cX4_pourNow 147 = .ok (.aload_n 3, 1) := by decide +kernel
theorem dX4_pourNow_148 : decode cX4_pourNow 148 = .ok (.iload 5, 2) := by decide +kernel
theorem dX4_pourNow_150 : decode cX4_pourNow 150 = .ok (.invokevirtual 105, 3) := by decide +kernel
theorem dX4_pourNow_153 : decode cX4_pourNow 153 = .ok (.aload_n 3, 1) := by decide +kernel
theorem dX4_pourNow_154 : decode cX4_pourNow 154 = .ok (.iload 5, 2) := by decide +kernel
theorem dX4_pourNow_156 : decode cX4_pourNow 156 = .ok (.invokevirtual 86, 3) := by decide +kernel
theorem dX4_pourNow_159 : decode cX4_pourNow 159 = .ok (.invokevirtual 245, 3) := by decide +kernel
theorem dX4_pourNow_162 : decode cX4_pourNow 162 = .ok (.pop, 1) := by decide +kernel
theorem dX4_pourNow_163 : decode cX4_pourNow 163 = .ok (.iinc 5 1, 3) := by decide +kernel
theorem dX4_pourNow_166 : decode cX4_pourNow 166 = .ok (.goto (-30), 3) := by decide +kernel
theorem dX4_pourNow_169 : decode cX4_pourNow 169 = .ok (.aload_n 3, 1) := by decide +kernel
theorem dX4_pourNow_170 : decode cX4_pourNow 170 = .ok (.iconst 0, 1) := by decide +kernel
theorem dX4_pourNow_171 : decode cX4_pourNow 171 = .ok (.putfield 111, 3) := by decide +kernel
theorem dX4_pourNow_174 : decode cX4_pourNow 174 = .ok (.aload_n 3, 1) := by decide +kernel
theorem dX4_pourNow_175 : decode cX4_pourNow 175 = .ok (.iconst 0, 1) := by decide +kernel
theorem dX4_pourNow_176 : decode cX4_pourNow 176 = .ok (.putfield 121, 3) := by decide +kernel
theorem dX4_pourNow_179 : decode cX4_pourNow 179 = .ok (.aload_n 0, 1) := by decide +kernel
theorem dX4_pourNow_180 : decode cX4_pourNow 180 = .ok (.aload 4, 2) := by decide +kernel
theorem dX4_pourNow_182 : decode cX4_pourNow 182 = .ok (.invokevirtual 260, 3) := by decide +kernel
theorem dX4_pourNow_185 : decode cX4_pourNow 185 = .ok (.pop, 1) := by decide +kernel
theorem dX4_pourNow_186 : decode cX4_pourNow 186 = .ok (.aload_n 0, 1) := by decide +kernel
theorem dX4_pourNow_187 : decode cX4_pourNow 187 = .ok (.getfield 10, 3) := by decide +kernel
theorem dX4_pourNow_190 : decode cX4_pourNow 190 = .ok (.dup, 1) := by decide +kernel
theorem dX4_pourNow_191 : decode cX4_pourNow 191 = .ok (.getfield 224, 3) := by decide +kernel
theorem dX4_pourNow_194 : decode cX4_pourNow 194 = .ok (.iconst 1, 1) := by decide +kernel
theorem dX4_pourNow_195 : decode cX4_pourNow 195 = .ok (.iadd, 1) := by decide +kernel
theorem dX4_pourNow_196 : decode cX4_pourNow 196 = .ok (.putfield 224, 3) := by decide +kernel
theorem dX4_pourNow_199 : decode cX4_pourNow 199 = .ok (.aload 4, 2) := by decide +kernel
theorem dX4_pourNow_201 : decode cX4_pourNow 201 = .ok (.getfield 111, 3) := by decide +kernel
theorem dX4_pourNow_204 : decode cX4_pourNow 204 = .ok (.ireturn, 1) := by decide +kernel
theorem dX4_limitNow_0 : decode cX4_limitNow 0 = .ok (.iload_n 1, 1) := by decide +kernel
theorem dX4_limitNow_1 : decode cX4_limitNow 1 = .ok (.bipush 55, 2) := by decide +kernel
theorem dX4_limitNow_3 : decode cX4_limitNow 3 = .ok (.if_icmp .lt 9, 3) := by decide +kernel
theorem dX4_limitNow_6 : decode cX4_limitNow 6 = .ok (.iload_n 1, 1) := by decide +kernel
theorem dX4_limitNow_7 : decode cX4_limitNow 7 = .ok (.bipush 90, 2) := by decide +kernel
theorem dX4_limitNow_9 : decode cX4_limitNow 9 = .ok (.if_icmp .le 6, 3) := by decide +kernel
theorem dX4_limitNow_12 : decode cX4_limitNow 12 = .ok (.bipush (-12), 2) := by decide +kernel
theorem dX4_limitNow_14 : decode cX4_limitNow 14 = .ok (.ireturn, 1) := by decide +kernel
theorem dX4_limitNow_15 : decode cX4_limitNow 15 = .ok (.iload_n 1, 1) := by decide +kernel
theorem dX4_limitNow_16 : decode cX4_limitNow 16 = .ok (.aload_n 0, 1) := by decide +kernel
theorem dX4_limitNow_17 : decode cX4_limitNow 17 = .ok (.getfield 10, 3) := by decide +kernel
theorem dX4_limitNow_20 : decode cX4_limitNow 20 = .ok (.getfield 95, 3) := by decide +kernel
theorem dX4_limitNow_23 : decode cX4_limitNow 23 = .ok (.if_icmp .ne 10, 3) := by decide +kernel
theorem dX4_limitNow_26 : decode cX4_limitNow 26 = .ok (.aload_n 0, 1) := by decide +kernel
theorem dX4_limitNow_27 : decode cX4_limitNow 27 = .ok (.iconst 4, 1) := by decide +kernel
theorem dX4_limitNow_28 : decode cX4_limitNow 28 = .ok (.iload_n 1, 1) := by decide +kernel
theorem dX4_limitNow_29 : decode cX4_limitNow 29 = .ok (.invokevirtual 196, 3) := by decide +kernel
theorem dX4_limitNow_32 : decode cX4_limitNow 32 = .ok (.ireturn, 1) := by decide +kernel
theorem dX4_limitNow_33 : decode cX4_limitNow 33 = .ok (.aload_n 0, 1) := by decide +kernel
theorem dX4_limitNow_34 : decode cX4_limitNow 34 = .ok (.getfield 10, 3) := by decide +kernel
theorem dX4_limitNow_37 : decode cX4_limitNow 37 = .ok (.getfield 95, 3) := by decide +kernel
theorem dX4_limitNow_40 : decode cX4_limitNow 40 = .ok (.istore_n 2, 1) := by decide +kernel
theorem dX4_limitNow_41 : decode cX4_limitNow 41 = .ok (.aload_n 0, 1) := by decide +kernel
theorem dX4_limitNow_42 : decode cX4_limitNow 42 = .ok (.getfield 10, 3) := by decide +kernel
theorem dX4_limitNow_45 : decode cX4_limitNow 45 = .ok (.iload_n 1, 1) := by decide +kernel
theorem dX4_limitNow_46 : decode cX4_limitNow 46 = .ok (.putfield 95, 3) := by decide +kernel
theorem dX4_limitNow_49 : decode cX4_limitNow 49 = .ok (.iload_n 2, 1) := by decide +kernel
theorem dX4_limitNow_50 : decode cX4_limitNow 50 = .ok (.ireturn, 1) := by decide +kernel
theorem dX4_buildWhole_0 : decode cX4_buildWhole 0 = .ok (.aload_n 1, 1) := by decide +kernel
theorem dX4_buildWhole_1 : decode cX4_buildWhole 1 = .ok (.invokevirtual 264, 3) := by decide +kernel
theorem dX4_buildWhole_4 : decode cX4_buildWhole 4 = .ok (.istore_n 2, 1) := by decide +kernel
theorem dX4_buildWhole_5 : decode cX4_buildWhole 5 = .ok (.aload_n 0, 1) := by decide +kernel
theorem dX4_buildWhole_6 : decode cX4_buildWhole 6 = .ok (.getfield 10, 3) := by decide +kernel
theorem dX4_buildWhole_9 : decode cX4_buildWhole 9 = .ok (.dup, 1) := by decide +kernel
theorem dX4_buildWhole_10 : decode cX4_buildWhole 10 = .ok (.getfield 218, 3) := by decide +kernel
theorem dX4_buildWhole_13 : decode cX4_buildWhole 13 = .ok (.iconst 1, 1) := by decide +kernel
theorem dX4_buildWhole_14 : decode cX4_buildWhole 14 = .ok (.iadd, 1) := by decide +kernel
theorem dX4_buildWhole_15 : decode cX4_buildWhole 15 = .ok (.putfield 218, 3) := by decide +kernel
theorem dX4_buildWhole_18 : decode cX4_buildWhole 18 = .ok (.aload_n 0, 1) := by decide +kernel
theorem dX4_buildWhole_19 : decode cX4_buildWhole 19 = .ok (.getfield 10, 3) := by decide +kernel
theorem dX4_buildWhole_22 : decode cX4_buildWhole 22 = .ok (.dup, 1) := by decide +kernel
theorem dX4_buildWhole_23 : decode cX4_buildWhole 23 = .ok (.getfield 221, 3) := by decide +kernel
theorem dX4_buildWhole_26 : decode cX4_buildWhole 26 = .ok (.aload_n 1, 1) := by decide +kernel
theorem dX4_buildWhole_27 : decode cX4_buildWhole 27 = .ok (.getfield 111, 3) := by decide +kernel
theorem dX4_buildWhole_30 : decode cX4_buildWhole 30 = .ok (.iadd, 1) := by decide +kernel
theorem dX4_buildWhole_31 : decode cX4_buildWhole 31 = .ok (.putfield 221, 3) := by decide +kernel
theorem dX4_buildWhole_34 : decode cX4_buildWhole 34 = .ok (.iload_n 2, 1) := by decide +kernel
theorem dX4_buildWhole_35 : decode cX4_buildWhole 35 = .ok (.ireturn, 1) := by decide +kernel
theorem dX4_carryOut_0 : decode cX4_carryOut 0 = .ok (.aload_n 0, 1) := by decide +kernel
theorem dX4_carryOut_1 : decode cX4_carryOut 1 = .ok (.getfield 36, 3) := by decide +kernel
theorem dX4_carryOut_4 : decode cX4_carryOut 4 = .ok (.iload_n 1, 1) := by decide +kernel
theorem dX4_carryOut_5 : decode cX4_carryOut 5 = .ok (.iconst 0, 1) := by decide +kernel
theorem dX4_carryOut_6 : decode cX4_carryOut 6 = .ok (.invokevirtual 266, 3) := by decide +kernel
theorem dX4_carryOut_9 : decode cX4_carryOut 9 = .ok (.istore_n 2, 1) := by decide +kernel
theorem dX4_carryOut_10 : decode cX4_carryOut 10 = .ok (.aload_n 0, 1) := by decide +kernel
theorem dX4_carryOut_11 : decode cX4_carryOut 11 = .ok (.getfield 36, 3) := by decide +kernel
theorem dX4_carryOut_14 : decode cX4_carryOut 14 = .ok (.iload_n 1, 1) := by decide +kernel
theorem dX4_carryOut_15 : decode cX4_carryOut 15 = .ok (.iconst 1, 1) := by decide +kernel
theorem dX4_carryOut_16 : decode cX4_carryOut 16 = .ok (.invokevirtual 266, 3) := by decide +kernel
theorem dX4_carryOut_19 : decode cX4_carryOut 19 = .ok (.istore_n 3, 1) := by decide +kernel
theorem dX4_carryOut_20 : decode cX4_carryOut 20 = .ok (.aload_n 0, 1) := by decide +kernel
theorem dX4_carryOut_21 : decode cX4_carryOut 21 = .ok (.getfield 36, 3) := by decide +kernel
theorem dX4_carryOut_24 : decode cX4_carryOut 24 = .ok (.iload_n 1, 1) := by decide +kernel
theorem dX4_carryOut_25 : decode cX4_carryOut 25 = .ok (.invokevirtual 269, 3) := by decide +kernel
theorem dX4_carryOut_28 : decode cX4_carryOut 28 = .ok (.lookupswitch 80 #[(43, 44), (45, 60), (61, 67), (62, 73)], 44) := by decide +kernel
theorem dX4_carryOut_72 : decode cX4_carryOut 72 = .ok (.aload_n 0, 1) := by decide +kernel
theorem dX4_carryOut_73 : decode cX4_carryOut 73 = .ok (.iload_n 2, 1) := by decide +kernel
theorem dX4_carryOut_74 : decode cX4_carryOut 74 = .ok (.iload_n 3, 1) := by decide +kernel
theorem dX4_carryOut_75 : decode cX4_carryOut 75 = .ok (.aload_n 0, 1) := by decide +kernel
theorem dX4_carryOut_76 : decode cX4_carryOut 76 = .ok (.getfield 36, 3) := by decide +kernel
theorem dX4_carryOut_79 : decode cX4_carryOut 79 = .ok (.iload_n 1, 1) := by decide +kernel
theorem dX4_carryOut_80 : decode cX4_carryOut 80 = .ok (.iconst 2, 1) := by decide +kernel
theorem dX4_carryOut_81 : decode cX4_carryOut 81 = .ok (.invokevirtual 266, 3) := by decide +kernel
theorem dX4_carryOut_84 : decode cX4_carryOut 84 = .ok (.invokevirtual 50, 3) := by decide +kernel
theorem dX4_carryOut_87 : decode cX4_carryOut 87 = .ok (.ireturn, 1) := by decide +kernel
theorem dX4_carryOut_88 : decode cX4_carryOut 88 = .ok (.aload_n 0, 1) := by decide +kernel
theorem dX4_carryOut_89 : decode cX4_carryOut 89 = .ok (.iload_n 2, 1) := by decide +kernel
theorem dX4_carryOut_90 : decode cX4_carryOut 90 = .ok (.iload_n 3, 1) := by decide +kernel
theorem dX4_carryOut_91 : decode cX4_carryOut 91 = .ok (.invokevirtual 58, 3) := by decide +kernel
theorem dX4_carryOut_94 : decode cX4_carryOut 94 = .ok (.ireturn, 1) := by decide +kernel
theorem dX4_carryOut_95 : decode cX4_carryOut 95 = .ok (.aload_n 0, 1) := by decide +kernel
theorem dX4_carryOut_96 : decode cX4_carryOut 96 = .ok (.iload_n 2, 1) := by decide +kernel
theorem dX4_carryOut_97 : decode cX4_carryOut 97 = .ok (.invokevirtual 62, 3) := by decide +kernel
theorem dX4_carryOut_100 : decode cX4_carryOut 100 = .ok (.ireturn, 1) := by decide +kernel
theorem dX4_carryOut_101 : decode cX4_carryOut 101 = .ok (.aload_n 0, 1) := by decide +kernel
theorem dX4_carryOut_102 : decode cX4_carryOut 102 = .ok (.iload_n 2, 1) := by decide +kernel
theorem dX4_carryOut_103 : decode cX4_carryOut 103 = .ok (.iload_n 3, 1) := by decide +kernel
theorem dX4_carryOut_104 : decode cX4_carryOut 104 = .ok (.invokevirtual 65, 3) := by decide +kernel
theorem dX4_carryOut_107 : decode cX4_carryOut 107 = .ok (.ireturn, 1) := by decide +kernel
theorem dX4_carryOut_108 : decode cX4_carryOut 108 = .ok (.aload_n 0, 1) := by decide +kernel
theorem dX4_carryOut_109 : decode cX4_carryOut 109 = .ok (.iload_n 2, 1) := by decide +kernel
theorem dX4_carryOut_110 : decode cX4_carryOut 110 = .ok (.invokevirtual 68, 3) := by decide +kernel
theorem dX4_carryOut_113 : decode cX4_carryOut 113 = .ok (.ireturn, 1) := by decide +kernel
theorem dX4_refuse_0 : decode cX4_refuse 0 = .ok (.aload_n 0, 1) := by decide +kernel
theorem dX4_refuse_1 : decode cX4_refuse 1 = .ok (.iload_n 1, 1) := by decide +kernel
theorem dX4_refuse_2 : decode cX4_refuse 2 = .ok (.putfield 40, 3) := by decide +kernel
theorem dX4_refuse_5 : decode cX4_refuse 5 = .ok (.aload_n 0, 1) := by decide +kernel
theorem dX4_refuse_6 : decode cX4_refuse 6 = .ok (.iload_n 2, 1) := by decide +kernel
theorem dX4_refuse_7 : decode cX4_refuse 7 = .ok (.putfield 44, 3) := by decide +kernel
theorem dX4_refuse_10 : decode cX4_refuse 10 = .ok (.bipush (-14), 2) := by decide +kernel
theorem dX4_refuse_12 : decode cX4_refuse 12 = .ok (.ireturn, 1) := by decide +kernel
theorem dX4_hold_0 : decode cX4_hold 0 = .ok (.aload_n 0, 1) := by decide +kernel
theorem dX4_hold_1 : decode cX4_hold 1 = .ok (.invokevirtual 272, 3) := by decide +kernel
theorem dX4_hold_4 : decode cX4_hold 4 = .ok (.astore_n 1, 1) := by decide +kernel
theorem dX4_hold_5 : decode cX4_hold 5 = .ok (.aload_n 1, 1) := by decide +kernel
theorem dX4_hold_6 : decode cX4_hold 6 = .ok (.ifnull 11, 3) := by decide +kernel
theorem dX4_hold_9 : decode cX4_hold 9 = .ok (.aload_n 1, 1) := by decide +kernel
theorem dX4_hold_10 : decode cX4_hold 10 = .ok (.aload_n 0, 1) := by decide +kernel
theorem dX4_hold_11 : decode cX4_hold 11 = .ok (.getfield 10, 3) := by decide +kernel
theorem dX4_hold_14 : decode cX4_hold 14 = .ok (.invokevirtual 237, 3) := by decide +kernel
theorem dX4_hold_17 : decode cX4_hold 17 = .ok (.return_, 1) := by decide +kernel
theorem dX4_keep_0 : decode cX4_keep 0 = .ok (.iload_n 1, 1) := by decide +kernel
theorem dX4_keep_1 : decode cX4_keep 1 = .ok (.ifCond .lt 31, 3) := by decide +kernel
theorem dX4_keep_4 : decode cX4_keep 4 = .ok (.aload_n 0, 1) := by decide +kernel
theorem dX4_keep_5 : decode cX4_keep 5 = .ok (.aload_n 0, 1) := by decide +kernel
theorem dX4_keep_6 : decode cX4_keep 6 = .ok (.getfield 234, 3) := by decide +kernel
theorem dX4_keep_9 : decode cX4_keep 9 = .ok (.iconst 1, 1) := by decide +kernel
theorem dX4_keep_10 : decode cX4_keep 10 = .ok (.iadd, 1) := by decide +kernel
theorem dX4_keep_11 : decode cX4_keep 11 = .ok (.bipush 9, 2) := by decide +kernel
theorem dX4_keep_13 : decode cX4_keep 13 = .ok (.irem, 1) := by decide +kernel
theorem dX4_keep_14 : decode cX4_keep 14 = .ok (.putfield 234, 3) := by decide +kernel
theorem dX4_keep_17 : decode cX4_keep 17 = .ok (.aload_n 0, 1) := by decide +kernel
theorem dX4_keep_18 : decode cX4_keep 18 = .ok (.aload_n 0, 1) := by decide +kernel
theorem dX4_keep_19 : decode cX4_keep 19 = .ok (.getfield 227, 3) := by decide +kernel
theorem dX4_keep_22 : decode cX4_keep 22 = .ok (.iconst 1, 1) := by decide +kernel
theorem dX4_keep_23 : decode cX4_keep 23 = .ok (.iadd, 1) := by decide +kernel
theorem dX4_keep_24 : decode cX4_keep 24 = .ok (.bipush 8, 2) := by decide +kernel
theorem dX4_keep_26 : decode cX4_keep 26 = .ok (.invokestatic 276, 3) := by decide +kernel
theorem dX4_keep_29 : decode cX4_keep 29 = .ok (.putfield 227, 3) := by decide +kernel
theorem dX4_keep_32 : decode cX4_keep 32 = .ok (.iload_n 1, 1) := by decide +kernel
theorem dX4_keep_33 : decode cX4_keep 33 = .ok (.ireturn, 1) := by decide +kernel
theorem dX4_giveBack_0 : decode cX4_giveBack 0 = .ok (.aload_n 0, 1) := by decide +kernel
theorem dX4_giveBack_1 : decode cX4_giveBack 1 = .ok (.invokevirtual 272, 3) := by decide +kernel
theorem dX4_giveBack_4 : decode cX4_giveBack 4 = .ok (.astore_n 1, 1) := by decide +kernel
theorem dX4_giveBack_5 : decode cX4_giveBack 5 = .ok (.aload_n 1, 1) := by decide +kernel
theorem dX4_giveBack_6 : decode cX4_giveBack 6 = .ok (.ifnull 11, 3) := by decide +kernel
theorem dX4_giveBack_9 : decode cX4_giveBack 9 = .ok (.aload_n 0, 1) := by decide +kernel
theorem dX4_giveBack_10 : decode cX4_giveBack 10 = .ok (.getfield 10, 3) := by decide +kernel
theorem dX4_giveBack_13 : decode cX4_giveBack 13 = .ok (.aload_n 1, 1) := by decide +kernel
theorem dX4_giveBack_14 : decode cX4_giveBack 14 = .ok (.invokevirtual 237, 3) := by decide +kernel
theorem dX4_giveBack_17 : decode cX4_giveBack 17 = .ok (.return_, 1) := by decide +kernel
theorem dX4_beforeNow_0 : decode cX4_beforeNow 0 = .ok (.aload_n 0, 1) := by decide +kernel
theorem dX4_beforeNow_1 : decode cX4_beforeNow 1 = .ok (.getfield 234, 3) := by decide +kernel
theorem dX4_beforeNow_4 : decode cX4_beforeNow 4 = .ok (.ifCond .lt 27, 3) := by decide +kernel
theorem dX4_beforeNow_7 : decode cX4_beforeNow 7 = .ok (.aload_n 0, 1) := by decide +kernel
theorem dX4_beforeNow_8 : decode cX4_beforeNow 8 = .ok (.getfield 234, 3) := by decide +kernel
theorem dX4_beforeNow_11 : decode cX4_beforeNow 11 = .ok (.aload_n 0, 1) := by decide +kernel
theorem dX4_beforeNow_12 : decode cX4_beforeNow 12 = .ok (.getfield 19, 3) := by decide +kernel
theorem dX4_beforeNow_15 : decode cX4_beforeNow 15 = .ok (.arraylength, 1) := by decide +kernel
theorem dX4_beforeNow_16 : decode cX4_beforeNow 16 = .ok (.if_icmp .ge 15, 3) := by decide +kernel
theorem dX4_beforeNow_19 : decode cX4_beforeNow 19 = .ok (.aload_n 0, 1) := by decide +kernel
theorem dX4_beforeNow_20 : decode cX4_beforeNow 20 = .ok (.getfield 19, 3) := by decide +kernel
theorem dX4_beforeNow_23 : decode cX4_beforeNow 23 = .ok (.aload_n 0, 1) := by decide +kernel
theorem dX4_beforeNow_24 : decode cX4_beforeNow 24 = .ok (.getfield 234, 3) := by decide +kernel
theorem dX4_beforeNow_27 : decode cX4_beforeNow 27 = .ok (.aaload, 1) := by decide +kernel
theorem dX4_beforeNow_28 : decode cX4_beforeNow 28 = .ok (.goto 4, 3) := by decide +kernel
theorem dX4_beforeNow_31 : decode cX4_beforeNow 31 = .ok (.aconst_null, 1) := by decide +kernel
theorem dX4_beforeNow_32 : decode cX4_beforeNow 32 = .ok (.areturn, 1) := by decide +kernel
theorem dX4_isBears_0 : decode cX4_isBears 0 = .ok (.iload_n 0, 1) := by decide +kernel
theorem dX4_isBears_1 : decode cX4_isBears 1 = .ok (.bipush 99, 2) := by decide +kernel
theorem dX4_isBears_3 : decode cX4_isBears 3 = .ok (.if_icmp .lt 14, 3) := by decide +kernel
theorem dX4_isBears_6 : decode cX4_isBears 6 = .ok (.iload_n 0, 1) := by decide +kernel
theorem dX4_isBears_7 : decode cX4_isBears 7 = .ok (.sipush 999, 3) := by decide +kernel
theorem dX4_isBears_10 : decode cX4_isBears 10 = .ok (.if_icmp .gt 7, 3) := by decide +kernel
theorem dX4_isBears_13 : decode cX4_isBears 13 = .ok (.iconst 1, 1) := by decide +kernel
theorem dX4_isBears_14 : decode cX4_isBears 14 = .ok (.goto 4, 3) := by decide +kernel
theorem dX4_isBears_17 : decode cX4_isBears 17 = .ok (.iconst 0, 1) := by decide +kernel
theorem dX4_isBears_18 : decode cX4_isBears 18 = .ok (.ireturn, 1) := by decide +kernel
theorem dX4_depthFor_0 : decode cX4_depthFor 0 = .ok (.iconst (-1), 1) := by decide +kernel
theorem dX4_depthFor_1 : decode cX4_depthFor 1 = .ok (.istore_n 2, 1) := by decide +kernel
theorem dX4_depthFor_2 : decode cX4_depthFor 2 = .ok (.iload_n 0, 1) := by decide +kernel
theorem dX4_depthFor_3 : decode cX4_depthFor 3 = .ok (.istore_n 3, 1) := by decide +kernel
theorem dX4_depthFor_4 : decode cX4_depthFor 4 = .ok (.iconst 0, 1) := by decide +kernel
theorem dX4_depthFor_5 : decode cX4_depthFor 5 = .ok (.istore 4, 2) := by decide +kernel
theorem dX4_depthFor_7 : decode cX4_depthFor 7 = .ok (.iload 4, 2) := by decide +kernel
theorem dX4_depthFor_9 : decode cX4_depthFor 9 = .ok (.bipush 30, 2) := by decide +kernel
theorem dX4_depthFor_11 : decode cX4_depthFor 11 = .ok (.if_icmp .ge 23, 3) := by decide +kernel
theorem dX4_depthFor_14 : decode cX4_depthFor 14 = .ok (.iload_n 3, 1) := by decide +kernel
theorem dX4_depthFor_15 : decode cX4_depthFor 15 = .ok (.ifCond .le 19, 3) := by decide +kernel
theorem dX4_depthFor_18 : decode cX4_depthFor 18 = .ok (.iload_n 3, 1) := by decide +kernel
theorem dX4_depthFor_19 : decode cX4_depthFor 19 = .ok (.iload_n 1, 1) := by decide +kernel
theorem dX4_depthFor_20 : decode cX4_depthFor 20 = .ok (.imul, 1) := by decide +kernel
theorem dX4_depthFor_21 : decode cX4_depthFor 21 = .ok (.bipush 100, 2) := by decide +kernel
theorem dX4_depthFor_23 : decode cX4_depthFor 23 = .ok (.idiv, 1) := by decide +kernel
theorem dX4_depthFor_24 : decode cX4_depthFor 24 = .ok (.istore_n 3, 1) := by decide +kernel
theorem dX4_depthFor_25 : decode cX4_depthFor 25 = .ok (.iinc 2 1, 3) := by decide +kernel
theorem dX4_depthFor_28 : decode cX4_depthFor 28 = .ok (.iinc 4 1, 3) := by decide +kernel
theorem dX4_depthFor_31 : decode cX4_depthFor 31 = .ok (.goto (-24), 3) := by decide +kernel
theorem dX4_depthFor_34 : decode cX4_depthFor 34 = .ok (.iload_n 2, 1) := by decide +kernel
theorem dX4_depthFor_35 : decode cX4_depthFor 35 = .ok (.iconst 0, 1) := by decide +kernel
theorem dX4_depthFor_36 : decode cX4_depthFor 36 = .ok (.invokestatic 248, 3) := by decide +kernel
theorem dX4_depthFor_39 : decode cX4_depthFor 39 = .ok (.ireturn, 1) := by decide +kernel
theorem dX4_shapeOf_0 : decode cX4_shapeOf 0 = .ok (.aload_n 0, 1) := by decide +kernel
theorem dX4_shapeOf_1 : decode cX4_shapeOf 1 = .ok (.iload_n 1, 1) := by decide +kernel
theorem dX4_shapeOf_2 : decode cX4_shapeOf 2 = .ok (.iload_n 2, 1) := by decide +kernel
theorem dX4_shapeOf_3 : decode cX4_shapeOf 3 = .ok (.invokevirtual 108, 3) := by decide +kernel
theorem dX4_shapeOf_6 : decode cX4_shapeOf 6 = .ok (.istore 6, 2) := by decide +kernel
theorem dX4_shapeOf_8 : decode cX4_shapeOf 8 = .ok (.iload 6, 2) := by decide +kernel
theorem dX4_shapeOf_10 : decode cX4_shapeOf 10 = .ok (.iconst (-1), 1) := by decide +kernel
theorem dX4_shapeOf_11 : decode cX4_shapeOf 11 = .ok (.if_icmp .eq 10, 3) := by decide +kernel
theorem dX4_shapeOf_14 : decode cX4_shapeOf 14 = .ok (.iload 5, 2) := by decide +kernel
theorem dX4_shapeOf_16 : decode cX4_shapeOf 16 = .ok (.bipush 30, 2) := by decide +kernel
theorem dX4_shapeOf_18 : decode cX4_shapeOf 18 = .ok (.if_icmp .le 7, 3) := by decide +kernel
theorem dX4_shapeOf_21 : decode cX4_shapeOf 21 = .ok (.lload_n 3, 1) := by decide +kernel
theorem dX4_shapeOf_22 : decode cX4_shapeOf 22 = .ok (.iconst 1, 1) := by decide +kernel
theorem dX4_shapeOf_23 : decode cX4_shapeOf 23 = .ok (.lshl, 1) := by decide +kernel
theorem dX4_shapeOf_24 : decode cX4_shapeOf 24 = .ok (.lreturn, 1) := by decide +kernel
theorem dX4_shapeOf_25 : decode cX4_shapeOf 25 = .ok (.aload_n 0, 1) := by decide +kernel
theorem dX4_shapeOf_26 : decode cX4_shapeOf 26 = .ok (.iload_n 1, 1) := by decide +kernel
theorem dX4_shapeOf_27 : decode cX4_shapeOf 27 = .ok (.iload 6, 2) := by decide +kernel
theorem dX4_shapeOf_29 : decode cX4_shapeOf 29 = .ok (.iconst 1, 1) := by decide +kernel
theorem dX4_shapeOf_30 : decode cX4_shapeOf 30 = .ok (.isub, 1) := by decide +kernel
theorem dX4_shapeOf_31 : decode cX4_shapeOf 31 = .ok (.lload_n 3, 1) := by decide +kernel
theorem dX4_shapeOf_32 : decode cX4_shapeOf 32 = .ok (.iconst 1, 1) := by decide +kernel
theorem dX4_shapeOf_33 : decode cX4_shapeOf 33 = .ok (.lshl, 1) := by decide +kernel
theorem dX4_shapeOf_34 : decode cX4_shapeOf 34 = .ok (.lconst 1, 1) := by decide +kernel
theorem dX4_shapeOf_35 : decode cX4_shapeOf 35 = .ok (.lor, 1) := by decide +kernel
theorem dX4_shapeOf_36 : decode cX4_shapeOf 36 = .ok (.iload 5, 2) := by decide +kernel
theorem dX4_shapeOf_38 : decode cX4_shapeOf 38 = .ok (.iconst 1, 1) := by decide +kernel
theorem dX4_shapeOf_39 : decode cX4_shapeOf 39 = .ok (.iadd, 1) := by decide +kernel
theorem dX4_shapeOf_40 : decode cX4_shapeOf 40 = .ok (.invokestatic 163, 3) := by decide +kernel
theorem dX4_shapeOf_43 : decode cX4_shapeOf 43 = .ok (.lstore 7, 2) := by decide +kernel
theorem dX4_shapeOf_45 : decode cX4_shapeOf 45 = .ok (.aload_n 0, 1) := by decide +kernel
theorem dX4_shapeOf_46 : decode cX4_shapeOf 46 = .ok (.iload 6, 2) := by decide +kernel
theorem dX4_shapeOf_48 : decode cX4_shapeOf 48 = .ok (.iconst 1, 1) := by decide +kernel
theorem dX4_shapeOf_49 : decode cX4_shapeOf 49 = .ok (.iadd, 1) := by decide +kernel
theorem dX4_shapeOf_50 : decode cX4_shapeOf 50 = .ok (.iload_n 2, 1) := by decide +kernel
theorem dX4_shapeOf_51 : decode cX4_shapeOf 51 = .ok (.lload 7, 2) := by decide +kernel
theorem dX4_shapeOf_53 : decode cX4_shapeOf 53 = .ok (.iload 5, 2) := by decide +kernel
theorem dX4_shapeOf_55 : decode cX4_shapeOf 55 = .ok (.iconst 1, 1) := by decide +kernel
theorem dX4_shapeOf_56 : decode cX4_shapeOf 56 = .ok (.iadd, 1) := by decide +kernel
theorem dX4_shapeOf_57 : decode cX4_shapeOf 57 = .ok (.invokestatic 163, 3) := by decide +kernel
theorem dX4_shapeOf_60 : decode cX4_shapeOf 60 = .ok (.lreturn, 1) := by decide +kernel
theorem dX4_write_0 : decode cX4_write 0 = .ok (.aload_n 1, 1) := by decide +kernel
theorem dX4_write_1 : decode cX4_write 1 = .ok (.iload_n 2, 1) := by decide +kernel
theorem dX4_write_2 : decode cX4_write 2 = .ok (.iload_n 3, 1) := by decide +kernel
theorem dX4_write_3 : decode cX4_write 3 = .ok (.invokevirtual 108, 3) := by decide +kernel
theorem dX4_write_6 : decode cX4_write 6 = .ok (.istore 6, 2) := by decide +kernel
theorem dX4_write_8 : decode cX4_write 8 = .ok (.iload 6, 2) := by decide +kernel
theorem dX4_write_10 : decode cX4_write 10 = .ok (.iconst (-1), 1) := by decide +kernel
theorem dX4_write_11 : decode cX4_write 11 = .ok (.if_icmp .eq 10, 3) := by decide +kernel
theorem dX4_write_14 : decode cX4_write 14 = .ok (.iload 5, 2) := by decide +kernel
theorem dX4_write_16 : decode cX4_write 16 = .ok (.bipush 30, 2) := by decide +kernel
theorem dX4_write_18 : decode cX4_write 18 = .ok (.if_icmp .le 4, 3) := by decide +kernel
theorem dX4_write_21 : decode cX4_write 21 = .ok (.return_, 1) := by decide +kernel
theorem dX4_write_22 : decode cX4_write 22 = .ok (.aload_n 0, 1) := by decide +kernel
theorem dX4_write_23 : decode cX4_write 23 = .ok (.bipush 40, 2) := by decide +kernel
theorem dX4_write_25 : decode cX4_write 25 = .ok (.invokevirtual 177, 3) := by decide +kernel
theorem dX4_write_28 : decode cX4_write 28 = .ok (.pop, 1) := by decide +kernel
theorem dX4_write_29 : decode cX4_write 29 = .ok (.aload_n 0, 1) := by decide +kernel
theorem dX4_write_30 : decode cX4_write 30 = .ok (.aload_n 1, 1) := by decide +kernel
theorem dX4_write_31 : decode cX4_write 31 = .ok (.iload_n 2, 1) := by decide +kernel
theorem dX4_write_32 : decode cX4_write 32 = .ok (.iload 6, 2) := by decide +kernel
theorem dX4_write_34 : decode cX4_write 34 = .ok (.iconst 1, 1) := by decide +kernel
theorem dX4_write_35 : decode cX4_write 35 = .ok (.isub, 1) := by decide +kernel
theorem dX4_write_36 : decode cX4_write 36 = .ok (.iload 4, 2) := by decide +kernel
theorem dX4_write_38 : decode cX4_write 38 = .ok (.iload 5, 2) := by decide +kernel
theorem dX4_write_40 : decode cX4_write 40 = .ok (.iconst 1, 1) := by decide +kernel
theorem dX4_write_41 : decode cX4_write 41 = .ok (.iadd, 1) := by decide +kernel
theorem dX4_write_42 : decode cX4_write 42 = .ok (.invokestatic 199, 3) := by decide +kernel
theorem dX4_write_45 : decode cX4_write 45 = .ok (.aload_n 0, 1) := by decide +kernel
theorem dX4_write_46 : decode cX4_write 46 = .ok (.aload_n 1, 1) := by decide +kernel
theorem dX4_write_47 : decode cX4_write 47 = .ok (.iload 6, 2) := by decide +kernel
theorem dX4_write_49 : decode cX4_write 49 = .ok (.invokevirtual 105, 3) := by decide +kernel
theorem dX4_write_52 : decode cX4_write 52 = .ok (.invokevirtual 279, 3) := by decide +kernel
theorem dX4_write_55 : decode cX4_write 55 = .ok (.aload_n 1, 1) := by decide +kernel
theorem dX4_write_56 : decode cX4_write 56 = .ok (.iload 6, 2) := by decide +kernel
theorem dX4_write_58 : decode cX4_write 58 = .ok (.iload 4, 2) := by decide +kernel
theorem dX4_write_60 : decode cX4_write 60 = .ok (.invokevirtual 98, 3) := by decide +kernel
theorem dX4_write_63 : decode cX4_write 63 = .ok (.ifCond .eq 10, 3) := by decide +kernel
theorem dX4_write_66 : decode cX4_write 66 = .ok (.aload_n 0, 1) := by decide +kernel
theorem dX4_write_67 : decode cX4_write 67 = .ok (.bipush 33, 2) := by decide +kernel
theorem dX4_write_69 : decode cX4_write 69 = .ok (.invokevirtual 177, 3) := by decide +kernel
theorem dX4_write_72 : decode cX4_write 72 = .ok (.pop, 1) := by decide +kernel
theorem dX4_write_73 : decode cX4_write 73 = .ok (.aload_n 0, 1) := by decide +kernel
theorem dX4_write_74 : decode cX4_write 74 = .ok (.aload_n 1, 1) := by decide +kernel
theorem dX4_write_75 : decode cX4_write 75 = .ok (.iload 6, 2) := by decide +kernel
theorem dX4_write_77 : decode cX4_write 77 = .ok (.iconst 1, 1) := by decide +kernel
theorem dX4_write_78 : decode cX4_write 78 = .ok (.iadd, 1) := by decide +kernel
theorem dX4_write_79 : decode cX4_write 79 = .ok (.iload_n 3, 1) := by decide +kernel
theorem dX4_write_80 : decode cX4_write 80 = .ok (.iload 4, 2) := by decide +kernel
theorem dX4_write_82 : decode cX4_write 82 = .ok (.iload 5, 2) := by decide +kernel
theorem dX4_write_84 : decode cX4_write 84 = .ok (.iconst 1, 1) := by decide +kernel
theorem dX4_write_85 : decode cX4_write 85 = .ok (.iadd, 1) := by decide +kernel
theorem dX4_write_86 : decode cX4_write 86 = .ok (.invokestatic 199, 3) := by decide +kernel
theorem dX4_write_89 : decode cX4_write 89 = .ok (.aload_n 0, 1) := by decide +kernel
theorem dX4_write_90 : decode cX4_write 90 = .ok (.bipush 41, 2) := by decide +kernel
theorem dX4_write_92 : decode cX4_write 92 = .ok (.invokevirtual 177, 3) := by decide +kernel
theorem dX4_write_95 : decode cX4_write 95 = .ok (.pop, 1) := by decide +kernel
theorem dX4_write_96 : decode cX4_write 96 = .ok (.return_, 1) := by decide +kernel
theorem dX4_isSound_0 : decode cX4_isSound 0 = .ok (.aload_n 0, 1) := by decide +kernel
theorem dX4_isSound_1 : decode cX4_isSound 1 = .ok (.invokevirtual 282, 3) := by decide +kernel
theorem dX4_isSound_4 : decode cX4_isSound 4 = .ok (.ifCond .eq 18, 3) := by decide +kernel
theorem dX4_isSound_7 : decode cX4_isSound 7 = .ok (.aload_n 0, 1) := by decide +kernel
theorem dX4_isSound_8 : decode cX4_isSound 8 = .ok (.iconst 0, 1) := by decide +kernel
theorem dX4_isSound_9 : decode cX4_isSound 9 = .ok (.aload_n 0, 1) := by decide +kernel
theorem dX4_isSound_10 : decode cX4_isSound 10 = .ok (.getfield 111, 3) := by decide +kernel
theorem dX4_isSound_13 : decode cX4_isSound 13 = .ok (.iconst 1, 1) := by decide +kernel
theorem dX4_isSound_14 : decode cX4_isSound 14 = .ok (.isub, 1) := by decide +kernel
theorem dX4_isSound_15 : decode cX4_isSound 15 = .ok (.iconst 0, 1) := by decide +kernel
theorem dX4_isSound_16 : decode cX4_isSound 16 = .ok (.invokestatic 286, 3) := by decide +kernel
theorem dX4_isSound_19 : decode cX4_isSound 19 = .ok (.ifCond .ne 5, 3) := by decide +kernel
theorem dX4_isSound_22 : decode cX4_isSound 22 = .ok (.iconst 0, 1) := by decide +kernel
theorem dX4_isSound_23 : decode cX4_isSound 23 = .ok (.ireturn, 1) := by decide +kernel
theorem dX4_isSound_24 : decode cX4_isSound 24 = .ok (.iconst 0, 1) := by decide +kernel
theorem dX4_isSound_25 : decode cX4_isSound 25 = .ok (.istore_n 1, 1) := by decide +kernel
theorem dX4_isSound_26 : decode cX4_isSound 26 = .ok (.iload_n 1, 1) := by decide +kernel
theorem dX4_isSound_27 : decode cX4_isSound 27 = .ok (.aload_n 0, 1) := by decide +kernel
theorem dX4_isSound_28 : decode cX4_isSound 28 = .ok (.getfield 111, 3) := by decide +kernel
theorem dX4_isSound_31 : decode cX4_isSound 31 = .ok (.if_icmp .ge 45, 3) := by decide +kernel
theorem dX4_isSound_34 : decode cX4_isSound 34 = .ok (.aload_n 0, 1) := by decide +kernel
theorem dX4_isSound_35 : decode cX4_isSound 35 = .ok (.iload_n 1, 1) := by decide +kernel
theorem dX4_isSound_36 : decode cX4_isSound 36 = .ok (.invokevirtual 105, 3) := by decide +kernel
theorem dX4_isSound_39 : decode cX4_isSound 39 = .ok (.istore_n 2, 1) := by decide +kernel
theorem dX4_isSound_40 : decode cX4_isSound 40 = .ok (.aload_n 0, 1) := by decide +kernel
theorem dX4_isSound_41 : decode cX4_isSound 41 = .ok (.iload_n 2, 1) := by decide +kernel
theorem dX4_isSound_42 : decode cX4_isSound 42 = .ok (.invokevirtual 133, 3) := by decide +kernel
theorem dX4_isSound_45 : decode cX4_isSound 45 = .ok (.aload_n 0, 1) := by decide +kernel
theorem dX4_isSound_46 : decode cX4_isSound 46 = .ok (.iload_n 2, 1) := by decide +kernel
theorem dX4_isSound_47 : decode cX4_isSound 47 = .ok (.invokevirtual 136, 3) := by decide +kernel
theorem dX4_isSound_50 : decode cX4_isSound 50 = .ok (.if_icmp .ne 18, 3) := by decide +kernel
theorem dX4_isSound_53 : decode cX4_isSound 53 = .ok (.aload_n 0, 1) := by decide +kernel
theorem dX4_isSound_54 : decode cX4_isSound 54 = .ok (.iconst 0, 1) := by decide +kernel
theorem dX4_isSound_55 : decode cX4_isSound 55 = .ok (.iload_n 2, 1) := by decide +kernel
theorem dX4_isSound_56 : decode cX4_isSound 56 = .ok (.invokevirtual 143, 3) := by decide +kernel
theorem dX4_isSound_59 : decode cX4_isSound 59 = .ok (.aload_n 0, 1) := by decide +kernel
theorem dX4_isSound_60 : decode cX4_isSound 60 = .ok (.iconst 0, 1) := by decide +kernel
theorem dX4_isSound_61 : decode cX4_isSound 61 = .ok (.iload_n 2, 1) := by decide +kernel
theorem dX4_isSound_62 : decode cX4_isSound 62 = .ok (.invokevirtual 146, 3) := by decide +kernel
theorem dX4_isSound_65 : decode cX4_isSound 65 = .ok (.if_icmp .eq 5, 3) := by decide +kernel
theorem dX4_isSound_68 : decode cX4_isSound 68 = .ok (.iconst 0, 1) := by decide +kernel
theorem dX4_isSound_69 : decode cX4_isSound 69 = .ok (.ireturn, 1) := by decide +kernel
theorem dX4_isSound_70 : decode cX4_isSound 70 = .ok (.iinc 1 1, 3) := by decide +kernel
theorem dX4_isSound_73 : decode cX4_isSound 73 = .ok (.goto (-47), 3) := by decide +kernel
theorem dX4_isSound_76 : decode cX4_isSound 76 = .ok (.iconst 1, 1) := by decide +kernel
theorem dX4_isSound_77 : decode cX4_isSound 77 = .ok (.ireturn, 1) := by decide +kernel
theorem dX4_isTree_0 : decode cX4_isTree 0 = .ok (.iload_n 1, 1) := by decide +kernel
theorem dX4_isTree_1 : decode cX4_isTree 1 = .ok (.iload_n 2, 1) := by decide +kernel
theorem dX4_isTree_2 : decode cX4_isTree 2 = .ok (.if_icmp .le 5, 3) := by decide +kernel
theorem dX4_isTree_5 : decode cX4_isTree 5 = .ok (.iconst 1, 1) := by decide +kernel
theorem dX4_isTree_6 : decode cX4_isTree 6 = .ok (.ireturn, 1) := by decide +kernel
theorem dX4_isTree_7 : decode cX4_isTree 7 = .ok (.aload_n 0, 1) := by decide +kernel
theorem dX4_isTree_8 : decode cX4_isTree 8 = .ok (.iload_n 1, 1) := by decide +kernel
theorem dX4_isTree_9 : decode cX4_isTree 9 = .ok (.iload_n 2, 1) := by decide +kernel
theorem dX4_isTree_10 : decode cX4_isTree 10 = .ok (.invokevirtual 108, 3) := by decide +kernel
theorem dX4_isTree_13 : decode cX4_isTree 13 = .ok (.istore 4, 2) := by decide +kernel
theorem dX4_isTree_15 : decode cX4_isTree 15 = .ok (.iload_n 3, 1) := by decide +kernel
theorem dX4_isTree_16 : decode cX4_isTree 16 = .ok (.bipush 30, 2) := by decide +kernel
theorem dX4_isTree_18 : decode cX4_isTree 18 = .ok (.if_icmp .gt 47, 3) := by decide +kernel
theorem dX4_isTree_21 : decode cX4_isTree 21 = .ok (.aload_n 0, 1) := by decide +kernel
theorem dX4_isTree_22 : decode cX4_isTree 22 = .ok (.iload 4, 2) := by decide +kernel
theorem dX4_isTree_24 : decode cX4_isTree 24 = .ok (.invokevirtual 89, 3) := by decide +kernel
theorem dX4_isTree_27 : decode cX4_isTree 27 = .ok (.iload_n 3, 1) := by decide +kernel
theorem dX4_isTree_28 : decode cX4_isTree 28 = .ok (.if_icmp .ne 37, 3) := by decide +kernel
theorem dX4_isTree_31 : decode cX4_isTree 31 = .ok (.aload_n 0, 1) := by decide +kernel
theorem dX4_isTree_32 : decode cX4_isTree 32 = .ok (.iload_n 1, 1) := by decide +kernel
theorem dX4_isTree_33 : decode cX4_isTree 33 = .ok (.iload 4, 2) := by decide +kernel
theorem dX4_isTree_35 : decode cX4_isTree 35 = .ok (.iconst 1, 1) := by decide +kernel
theorem dX4_isTree_36 : decode cX4_isTree 36 = .ok (.isub, 1) := by decide +kernel
theorem dX4_isTree_37 : decode cX4_isTree 37 = .ok (.iload_n 3, 1) := by decide +kernel
theorem dX4_isTree_38 : decode cX4_isTree 38 = .ok (.iconst 1, 1) := by decide +kernel
theorem dX4_isTree_39 : decode cX4_isTree 39 = .ok (.iadd, 1) := by decide +kernel
theorem dX4_isTree_40 : decode cX4_isTree 40 = .ok (.invokestatic 286, 3) := by decide +kernel
theorem dX4_isTree_43 : decode cX4_isTree 43 = .ok (.ifCond .eq 22, 3) := by decide +kernel
theorem dX4_isTree_46 : decode cX4_isTree 46 = .ok (.aload_n 0, 1) := by decide +kernel
theorem dX4_isTree_47 : decode cX4_isTree 47 = .ok (.iload 4, 2) := by decide +kernel
theorem dX4_isTree_49 : decode cX4_isTree 49 = .ok (.iconst 1, 1) := by decide +kernel
theorem dX4_isTree_50 : decode cX4_isTree 50 = .ok (.iadd, 1) := by decide +kernel
theorem dX4_isTree_51 : decode cX4_isTree 51 = .ok (.iload_n 2, 1) := by decide +kernel
theorem dX4_isTree_52 : decode cX4_isTree 52 = .ok (.iload_n 3, 1) := by decide +kernel
theorem dX4_isTree_53 : decode cX4_isTree 53 = .ok (.iconst 1, 1) := by decide +kernel
theorem dX4_isTree_54 : decode cX4_isTree 54 = .ok (.iadd, 1) := by decide +kernel
theorem dX4_isTree_55 : decode cX4_isTree 55 = .ok (.invokestatic 286, 3) := by decide +kernel
theorem dX4_isTree_58 : decode cX4_isTree 58 = .ok (.ifCond .eq 7, 3) := by decide +kernel
theorem dX4_isTree_61 : decode cX4_isTree 61 = .ok (.iconst 1, 1) := by decide +kernel
theorem dX4_isTree_62 : decode cX4_isTree 62 = .ok (.goto 4, 3) := by decide +kernel
theorem dX4_isTree_65 : decode cX4_isTree 65 = .ok (.iconst 0, 1) := by decide +kernel
theorem dX4_isTree_66 : decode cX4_isTree 66 = .ok (.ireturn, 1) := by decide +kernel
theorem dX4_shareBits_0 : decode cX4_shareBits 0 = .ok (.fload_n 0, 1) := by decide +kernel
theorem dX4_shareBits_1 : decode cX4_shareBits 1 = .ok (.fconst 0, 1) := by decide +kernel
theorem dX4_shareBits_2 : decode cX4_shareBits 2 = .ok (.fcmp .l, 1) := by decide +kernel
theorem dX4_shareBits_3 : decode cX4_shareBits 3 = .ok (.ifCond .gt 5, 3) := by decide +kernel
theorem dX4_shareBits_6 : decode cX4_shareBits 6 = .ok (.iconst 0, 1) := by decide +kernel
theorem dX4_shareBits_7 : decode cX4_shareBits 7 = .ok (.ireturn, 1) := by decide +kernel
theorem dX4_shareBits_8 : decode cX4_shareBits 8 = .ok (.fload_n 0, 1) := by decide +kernel
theorem dX4_shareBits_9 : decode cX4_shareBits 9 = .ok (.fstore_n 1, 1) := by decide +kernel
theorem dX4_shareBits_10 : decode cX4_shareBits 10 = .ok (.bipush 127, 2) := by decide +kernel
theorem dX4_shareBits_12 : decode cX4_shareBits 12 = .ok (.istore_n 2, 1) := by decide +kernel
theorem dX4_shareBits_13 : decode cX4_shareBits 13 = .ok (.iconst 0, 1) := by decide +kernel
theorem dX4_shareBits_14 : decode cX4_shareBits 14 = .ok (.istore_n 3, 1) := by decide +kernel
theorem dX4_shareBits_15 : decode cX4_shareBits 15 = .ok (.iload_n 3, 1) := by decide +kernel
theorem dX4_shareBits_16 : decode cX4_shareBits 16 = .ok (.bipush 64, 2) := by decide +kernel
theorem dX4_shareBits_18 : decode cX4_shareBits 18 = .ok (.if_icmp .ge 22, 3) := by decide +kernel
theorem dX4_shareBits_21 : decode cX4_shareBits 21 = .ok (.fload_n 1, 1) := by decide +kernel
theorem dX4_shareBits_22 : decode cX4_shareBits 22 = .ok (.fconst 1, 1) := by decide +kernel
theorem dX4_shareBits_23 : decode cX4_shareBits 23 = .ok (.fcmp .g, 1) := by decide +kernel
theorem dX4_shareBits_24 : decode cX4_shareBits 24 = .ok (.ifCond .ge 16, 3) := by decide +kernel
theorem dX4_shareBits_27 : decode cX4_shareBits 27 = .ok (.fload_n 1, 1) := by decide +kernel
theorem dX4_shareBits_28 : decode cX4_shareBits 28 = .ok (.fconst 2, 1) := by decide +kernel
theorem dX4_shareBits_29 : decode cX4_shareBits 29 = .ok (.fmul, 1) := by decide +kernel
theorem dX4_shareBits_30 : decode cX4_shareBits 30 = .ok (.fstore_n 1, 1) := by decide +kernel
theorem dX4_shareBits_31 : decode cX4_shareBits 31 = .ok (.iinc 2 (-1), 3) := by decide +kernel
theorem dX4_shareBits_34 : decode cX4_shareBits 34 = .ok (.iinc 3 1, 3) := by decide +kernel
theorem dX4_shareBits_37 : decode cX4_shareBits 37 = .ok (.goto (-22), 3) := by decide +kernel
theorem dX4_shareBits_40 : decode cX4_shareBits 40 = .ok (.iload_n 2, 1) := by decide +kernel
theorem dX4_shareBits_41 : decode cX4_shareBits 41 = .ok (.bipush 23, 2) := by decide +kernel
theorem dX4_shareBits_43 : decode cX4_shareBits 43 = .ok (.ishl, 1) := by decide +kernel
theorem dX4_shareBits_44 : decode cX4_shareBits 44 = .ok (.fload_n 1, 1) := by decide +kernel
theorem dX4_shareBits_45 : decode cX4_shareBits 45 = .ok (.fconst 1, 1) := by decide +kernel
theorem dX4_shareBits_46 : decode cX4_shareBits 46 = .ok (.fsub, 1) := by decide +kernel
theorem dX4_shareBits_47 : decode cX4_shareBits 47 = .ok (.ldc_w 290, 3) := by decide +kernel
theorem dX4_shareBits_50 : decode cX4_shareBits 50 = .ok (.fmul, 1) := by decide +kernel
theorem dX4_shareBits_51 : decode cX4_shareBits 51 = .ok (.f2i, 1) := by decide +kernel
theorem dX4_shareBits_52 : decode cX4_shareBits 52 = .ok (.iadd, 1) := by decide +kernel
theorem dX4_shareBits_53 : decode cX4_shareBits 53 = .ok (.ireturn, 1) := by decide +kernel
theorem dX4_meanBits_0 : decode cX4_meanBits 0 = .ok (.dload_n 0, 1) := by decide +kernel
theorem dX4_meanBits_1 : decode cX4_meanBits 1 = .ok (.dconst 0, 1) := by decide +kernel
theorem dX4_meanBits_2 : decode cX4_meanBits 2 = .ok (.dcmp .l, 1) := by decide +kernel
theorem dX4_meanBits_3 : decode cX4_meanBits 3 = .ok (.ifCond .gt 5, 3) := by decide +kernel
theorem dX4_meanBits_6 : decode cX4_meanBits 6 = .ok (.lconst 0, 1) := by decide +kernel
theorem dX4_meanBits_7 : decode cX4_meanBits 7 = .ok (.lreturn, 1) := by decide +kernel
theorem dX4_meanBits_8 : decode cX4_meanBits 8 = .ok (.dload_n 0, 1) := by decide +kernel
theorem dX4_meanBits_9 : decode cX4_meanBits 9 = .ok (.dstore_n 2, 1) := by decide +kernel
theorem dX4_meanBits_10 : decode cX4_meanBits 10 = .ok (.ldc2_w 291, 3) := by decide +kernel
theorem dX4_meanBits_13 : decode cX4_meanBits 13 = .ok (.lstore 4, 2) := by decide +kernel
theorem dX4_meanBits_15 : decode cX4_meanBits 15 = .ok (.iconst 0, 1) := by decide +kernel
theorem dX4_meanBits_16 : decode cX4_meanBits 16 = .ok (.istore 6, 2) := by decide +kernel
theorem dX4_meanBits_18 : decode cX4_meanBits 18 = .ok (.iload 6, 2) := by decide +kernel
theorem dX4_meanBits_20 : decode cX4_meanBits 20 = .ok (.bipush 64, 2) := by decide +kernel
theorem dX4_meanBits_22 : decode cX4_meanBits 22 = .ok (.if_icmp .ge 27, 3) := by decide +kernel
theorem dX4_meanBits_25 : decode cX4_meanBits 25 = .ok (.dload_n 2, 1) := by decide +kernel
theorem dX4_meanBits_26 : decode cX4_meanBits 26 = .ok (.dconst 1, 1) := by decide +kernel
theorem dX4_meanBits_27 : decode cX4_meanBits 27 = .ok (.dcmp .g, 1) := by decide +kernel
theorem dX4_meanBits_28 : decode cX4_meanBits 28 = .ok (.ifCond .ge 21, 3) := by decide +kernel
theorem dX4_meanBits_31 : decode cX4_meanBits 31 = .ok (.dload_n 2, 1) := by decide +kernel
theorem dX4_meanBits_32 : decode cX4_meanBits 32 = .ok (.ldc2_w 293, 3) := by decide +kernel
theorem dX4_meanBits_35 : decode cX4_meanBits 35 = .ok (.dmul, 1) := by decide +kernel
theorem dX4_meanBits_36 : decode cX4_meanBits 36 = .ok (.dstore_n 2, 1) := by decide +kernel
theorem dX4_meanBits_37 : decode cX4_meanBits 37 = .ok (.lload 4, 2) := by decide +kernel
theorem dX4_meanBits_39 : decode cX4_meanBits 39 = .ok (.lconst 1, 1) := by decide +kernel
theorem dX4_meanBits_40 : decode cX4_meanBits 40 = .ok (.lsub, 1) := by decide +kernel
theorem dX4_meanBits_41 : decode cX4_meanBits 41 = .ok (.lstore 4, 2) := by decide +kernel
theorem dX4_meanBits_43 : decode cX4_meanBits 43 = .ok (.iinc 6 1, 3) := by decide +kernel
theorem dX4_meanBits_46 : decode cX4_meanBits 46 = .ok (.goto (-28), 3) := by decide +kernel
theorem dX4_meanBits_49 : decode cX4_meanBits 49 = .ok (.iconst 0, 1) := by decide +kernel
theorem dX4_meanBits_50 : decode cX4_meanBits 50 = .ok (.istore 6, 2) := by decide +kernel
theorem dX4_meanBits_52 : decode cX4_meanBits 52 = .ok (.iload 6, 2) := by decide +kernel
theorem dX4_meanBits_54 : decode cX4_meanBits 54 = .ok (.bipush 64, 2) := by decide +kernel
theorem dX4_meanBits_56 : decode cX4_meanBits 56 = .ok (.if_icmp .ge 29, 3) := by decide +kernel
theorem dX4_meanBits_59 : decode cX4_meanBits 59 = .ok (.dload_n 2, 1) := by decide +kernel
theorem dX4_meanBits_60 : decode cX4_meanBits 60 = .ok (.ldc2_w 293, 3) := by decide +kernel
theorem dX4_meanBits_63 : decode cX4_meanBits 63 = .ok (.dcmp .l, 1) := by decide +kernel
theorem dX4_meanBits_64 : decode cX4_meanBits 64 = .ok (.ifCond .lt 21, 3) := by decide +kernel
theorem dX4_meanBits_67 : decode cX4_meanBits 67 = .ok (.dload_n 2, 1) := by decide +kernel
theorem dX4_meanBits_68 : decode cX4_meanBits 68 = .ok (.ldc2_w 293, 3) := by decide +kernel
theorem dX4_meanBits_71 : decode cX4_meanBits 71 = .ok (.ddiv, 1) := by decide +kernel
theorem dX4_meanBits_72 : decode cX4_meanBits 72 = .ok (.dstore_n 2, 1) := by decide +kernel
theorem dX4_meanBits_73 : decode cX4_meanBits 73 = .ok (.lload 4, 2) := by decide +kernel
theorem dX4_meanBits_75 : decode cX4_meanBits 75 = .ok (.lconst 1, 1) := by decide +kernel
theorem dX4_meanBits_76 : decode cX4_meanBits 76 = .ok (.ladd, 1) := by decide +kernel
theorem dX4_meanBits_77 : decode cX4_meanBits 77 = .ok (.lstore 4, 2) := by decide +kernel
theorem dX4_meanBits_79 : decode cX4_meanBits 79 = .ok (.iinc 6 1, 3) := by decide +kernel
theorem dX4_meanBits_82 : decode cX4_meanBits 82 = .ok (.goto (-30), 3) := by decide +kernel
theorem dX4_meanBits_85 : decode cX4_meanBits 85 = .ok (.lload 4, 2) := by decide +kernel
theorem dX4_meanBits_87 : decode cX4_meanBits 87 = .ok (.bipush 52, 2) := by decide +kernel
theorem dX4_meanBits_89 : decode cX4_meanBits 89 = .ok (.lshl, 1) := by decide +kernel
theorem dX4_meanBits_90 : decode cX4_meanBits 90 = .ok (.dload_n 2, 1) := by decide +kernel
theorem dX4_meanBits_91 : decode cX4_meanBits 91 = .ok (.dconst 1, 1) := by decide +kernel
theorem dX4_meanBits_92 : decode cX4_meanBits 92 = .ok (.dsub, 1) := by decide +kernel
theorem dX4_meanBits_93 : decode cX4_meanBits 93 = .ok (.ldc2_w 295, 3) := by decide +kernel
theorem dX4_meanBits_96 : decode cX4_meanBits 96 = .ok (.dmul, 1) := by decide +kernel
theorem dX4_meanBits_97 : decode cX4_meanBits 97 = .ok (.d2l, 1) := by decide +kernel
theorem dX4_meanBits_98 : decode cX4_meanBits 98 = .ok (.ladd, 1) := by decide +kernel
theorem dX4_meanBits_99 : decode cX4_meanBits 99 = .ok (.lreturn, 1) := by decide +kernel
theorem dJxe99ae_isNaN_b9ae7_0 : decode cJxe99ae_isNaN_b9ae7 0 = .ok (.dload_n 0, 1) := by decide +kernel
theorem dJxe99ae_isNaN_b9ae7_1 : decode cJxe99ae_isNaN_b9ae7 1 = .ok (.dload_n 0, 1) := by decide +kernel
theorem dJxe99ae_isNaN_b9ae7_2 : decode cJxe99ae_isNaN_b9ae7 2 = .ok (.dcmp .l, 1) := by decide +kernel
theorem dJxe99ae_isNaN_b9ae7_3 : decode cJxe99ae_isNaN_b9ae7 3 = .ok (.ifCond .eq 7, 3) := by decide +kernel
theorem dJxe99ae_isNaN_b9ae7_6 : decode cJxe99ae_isNaN_b9ae7 6 = .ok (.iconst 1, 1) := by decide +kernel
theorem dJxe99ae_isNaN_b9ae7_7 : decode cJxe99ae_isNaN_b9ae7 7 = .ok (.goto 4, 3) := by decide +kernel
theorem dJxe99ae_isNaN_b9ae7_10 : decode cJxe99ae_isNaN_b9ae7 10 = .ok (.iconst 0, 1) := by decide +kernel
theorem dJxe99ae_isNaN_b9ae7_11 : decode cJxe99ae_isNaN_b9ae7 11 = .ok (.ireturn, 1) := by decide +kernel
theorem dJxe99ae_doubleToLongBits_ccdee_0 : decode cJxe99ae_doubleToLongBits_ccdee 0 = .ok (.dload_n 0, 1) := by decide +kernel
theorem dJxe99ae_doubleToLongBits_ccdee_1 : decode cJxe99ae_doubleToLongBits_ccdee 1 = .ok (.invokestatic 122, 3) := by decide +kernel
theorem dJxe99ae_doubleToLongBits_ccdee_4 : decode cJxe99ae_doubleToLongBits_ccdee 4 = .ok (.ifCond .ne 8, 3) := by decide +kernel
theorem dJxe99ae_doubleToLongBits_ccdee_7 : decode cJxe99ae_doubleToLongBits_ccdee 7 = .ok (.dload_n 0, 1) := by decide +kernel
theorem dJxe99ae_doubleToLongBits_ccdee_8 : decode cJxe99ae_doubleToLongBits_ccdee 8 = .ok (.invokestatic 134, 3) := by decide +kernel
theorem dJxe99ae_doubleToLongBits_ccdee_11 : decode cJxe99ae_doubleToLongBits_ccdee 11 = .ok (.lreturn, 1) := by decide +kernel
theorem dJxe99ae_doubleToLongBits_ccdee_12 : decode cJxe99ae_doubleToLongBits_ccdee 12 = .ok (.ldc2_w 137, 3) := by decide +kernel
theorem dJxe99ae_doubleToLongBits_ccdee_15 : decode cJxe99ae_doubleToLongBits_ccdee 15 = .ok (.lreturn, 1) := by decide +kernel
theorem dJxf58ca_isNaN_12338_0 : decode cJxf58ca_isNaN_12338 0 = .ok (.fload_n 0, 1) := by decide +kernel
theorem dJxf58ca_isNaN_12338_1 : decode cJxf58ca_isNaN_12338 1 = .ok (.fload_n 0, 1) := by decide +kernel
theorem dJxf58ca_isNaN_12338_2 : decode cJxf58ca_isNaN_12338 2 = .ok (.fcmp .l, 1) := by decide +kernel
theorem dJxf58ca_isNaN_12338_3 : decode cJxf58ca_isNaN_12338 3 = .ok (.ifCond .eq 7, 3) := by decide +kernel
theorem dJxf58ca_isNaN_12338_6 : decode cJxf58ca_isNaN_12338 6 = .ok (.iconst 1, 1) := by decide +kernel
theorem dJxf58ca_isNaN_12338_7 : decode cJxf58ca_isNaN_12338 7 = .ok (.goto 4, 3) := by decide +kernel
theorem dJxf58ca_isNaN_12338_10 : decode cJxf58ca_isNaN_12338 10 = .ok (.iconst 0, 1) := by decide +kernel
theorem dJxf58ca_isNaN_12338_11 : decode cJxf58ca_isNaN_12338 11 = .ok (.ireturn, 1) := by decide +kernel
theorem dJxf58ca_floatToIntBits_5c35a_0 : decode cJxf58ca_floatToIntBits_5c35a 0 = .ok (.fload_n 0, 1) := by decide +kernel
theorem dJxf58ca_floatToIntBits_5c35a_1 : decode cJxf58ca_floatToIntBits_5c35a 1 = .ok (.invokestatic 59, 3) := by decide +kernel
theorem dJxf58ca_floatToIntBits_5c35a_4 : decode cJxf58ca_floatToIntBits_5c35a 4 = .ok (.ifCond .ne 8, 3) := by decide +kernel
theorem dJxf58ca_floatToIntBits_5c35a_7 : decode cJxf58ca_floatToIntBits_5c35a 7 = .ok (.fload_n 0, 1) := by decide +kernel
theorem dJxf58ca_floatToIntBits_5c35a_8 : decode cJxf58ca_floatToIntBits_5c35a 8 = .ok (.invokestatic 74, 3) := by decide +kernel
