theorem dX0_init_0 : decode cX0_init 0 = .ok (.aload_n 0, 1) := by decide +kernel
theorem dX0_init_1 : decode cX0_init 1 = .ok (.invokespecial 3, 3) := by decide +kernel
theorem dX0_init_4 : decode cX0_init 4 = .ok (.aload_n 0, 1) := by decide +kernel
theorem dX0_init_5 : decode cX0_init 5 = .ok (.bipush 12, 2) := by decide +kernel
theorem dX0_init_7 : decode cX0_init 7 = .ok (.anewarray 9, 3) := by decide +kernel
theorem dX0_init_10 : decode cX0_init 10 = .ok (.putfield 11, 3) := by decide +kernel
theorem dX0_init_13 : decode cX0_init 13 = .ok (.aload_n 0, 1) := by decide +kernel
theorem dX0_init_14 : decode cX0_init 14 = .ok (.bipush 24, 2) := by decide +kernel
theorem dX0_init_16 : decode cX0_init 16 = .ok (.anewarray 17, 3) := by decide +kernel
theorem dX0_init_19 : decode cX0_init 19 = .ok (.putfield 19, 3) := by decide +kernel
theorem dX0_init_22 : decode cX0_init 22 = .ok (.aload_n 0, 1) := by decide +kernel
theorem dX0_init_23 : decode cX0_init 23 = .ok (.bipush 6, 2) := by decide +kernel
theorem dX0_init_25 : decode cX0_init 25 = .ok (.anewarray 23, 3) := by decide +kernel
theorem dX0_init_28 : decode cX0_init 28 = .ok (.putfield 25, 3) := by decide +kernel
theorem dX0_init_31 : decode cX0_init 31 = .ok (.aload_n 0, 1) := by decide +kernel
theorem dX0_init_32 : decode cX0_init 32 = .ok (.bipush 8, 2) := by decide +kernel
theorem dX0_init_34 : decode cX0_init 34 = .ok (.anewarray 29, 3) := by decide +kernel
theorem dX0_init_37 : decode cX0_init 37 = .ok (.putfield 31, 3) := by decide +kernel
theorem dX0_init_40 : decode cX0_init 40 = .ok (.aload_n 0, 1) := by decide +kernel
theorem dX0_init_41 : decode cX0_init 41 = .ok (.bipush 8, 2) := by decide +kernel
theorem dX0_init_43 : decode cX0_init 43 = .ok (.newarray .int, 2) := by decide +kernel
theorem dX0_init_45 : decode cX0_init 45 = .ok (.putfield 35, 3) := by decide +kernel
theorem dX0_init_48 : decode cX0_init 48 = .ok (.aload_n 0, 1) := by decide +kernel
theorem dX0_init_49 : decode cX0_init 49 = .ok (.new 39, 3) := by decide +kernel
theorem dX0_init_52 : decode cX0_init 52 = .ok (.dup, 1) := by decide +kernel
theorem dX0_init_53 : decode cX0_init 53 = .ok (.invokespecial 41, 3) := by decide +kernel
theorem dX0_init_56 : decode cX0_init 56 = .ok (.putfield 42, 3) := by decide +kernel
theorem dX0_init_59 : decode cX0_init 59 = .ok (.aload_n 0, 1) := by decide +kernel
theorem dX0_init_60 : decode cX0_init 60 = .ok (.new 46, 3) := by decide +kernel
theorem dX0_init_63 : decode cX0_init 63 = .ok (.dup, 1) := by decide +kernel
theorem dX0_init_64 : decode cX0_init 64 = .ok (.invokespecial 48, 3) := by decide +kernel
theorem dX0_init_67 : decode cX0_init 67 = .ok (.putfield 49, 3) := by decide +kernel
theorem dX0_init_70 : decode cX0_init 70 = .ok (.aload_n 0, 1) := by decide +kernel
theorem dX0_init_71 : decode cX0_init 71 = .ok (.new 53, 3) := by decide +kernel
theorem dX0_init_74 : decode cX0_init 74 = .ok (.dup, 1) := by decide +kernel
theorem dX0_init_75 : decode cX0_init 75 = .ok (.invokespecial 55, 3) := by decide +kernel
theorem dX0_init_78 : decode cX0_init 78 = .ok (.putfield 56, 3) := by decide +kernel
theorem dX0_init_81 : decode cX0_init 81 = .ok (.aload_n 0, 1) := by decide +kernel
theorem dX0_init_82 : decode cX0_init 82 = .ok (.new 60, 3) := by decide +kernel
theorem dX0_init_85 : decode cX0_init 85 = .ok (.dup, 1) := by decide +kernel
theorem dX0_init_86 : decode cX0_init 86 = .ok (.invokespecial 62, 3) := by decide +kernel
theorem dX0_init_89 : decode cX0_init 89 = .ok (.putfield 63, 3) := by decide +kernel
theorem dX0_init_92 : decode cX0_init 92 = .ok (.aload_n 0, 1) := by decide +kernel
theorem dX0_init_93 : decode cX0_init 93 = .ok (.bipush 10, 2) := by decide +kernel
theorem dX0_init_95 : decode cX0_init 95 = .ok (.putfield 67, 3) := by decide +kernel
theorem dX0_init_98 : decode cX0_init 98 = .ok (.iconst 0, 1) := by decide +kernel
theorem dX0_init_99 : decode cX0_init 99 = .ok (.istore_n 1, 1) := by decide +kernel
theorem dX0_init_100 : decode cX0_init 100 = .ok (.iload_n 1, 1) := by decide +kernel
theorem dX0_init_101 : decode cX0_init 101 = .ok (.bipush 12, 2) := by decide +kernel
theorem dX0_init_103 : decode cX0_init 103 = .ok (.if_icmp .ge 22, 3) := by decide +kernel
theorem dX0_init_106 : decode cX0_init 106 = .ok (.aload_n 0, 1) := by decide +kernel
theorem dX0_init_107 : decode cX0_init 107 = .ok (.getfield 11, 3) := by decide +kernel
theorem dX0_init_110 : decode cX0_init 110 = .ok (.iload_n 1, 1) := by decide +kernel
theorem dX0_init_111 : decode cX0_init 111 = .ok (.new 9, 3) := by decide +kernel
theorem dX0_init_114 : decode cX0_init 114 = .ok (.dup, 1) := by decide +kernel
theorem dX0_init_115 : decode cX0_init 115 = .ok (.invokespecial 71, 3) := by decide +kernel
theorem dX0_init_118 : decode cX0_init 118 = .ok (.aastore, 1) := by decide +kernel
theorem dX0_init_119 : decode cX0_init 119 = .ok (.iinc 1 1, 3) := by decide +kernel
theorem dX0_init_122 : decode cX0_init 122 = .ok (.goto (-22), 3) := by decide +kernel
theorem dX0_init_125 : decode cX0_init 125 = .ok (.iconst 0, 1) := by decide +kernel
theorem dX0_init_126 : decode cX0_init 126 = .ok (.istore_n 1, 1) := by decide +kernel
theorem dX0_init_127 : decode cX0_init 127 = .ok (.iload_n 1, 1) := by decide +kernel
theorem dX0_init_128 : decode cX0_init 128 = .ok (.bipush 24, 2) := by decide +kernel
theorem dX0_init_130 : decode cX0_init 130 = .ok (.if_icmp .ge 22, 3) := by decide +kernel
theorem dX0_init_133 : decode cX0_init 133 = .ok (.aload_n 0, 1) := by decide +kernel
theorem dX0_init_134 : decode cX0_init 134 = .ok (.getfield 19, 3) := by decide +kernel
theorem dX0_init_137 : decode cX0_init 137 = .ok (.iload_n 1, 1) := by decide +kernel
theorem dX0_init_138 : decode cX0_init 138 = .ok (.new 17, 3) := by decide +kernel
theorem dX0_init_141 : decode cX0_init 141 = .ok (.dup, 1) := by decide +kernel
theorem dX0_init_142 : decode cX0_init 142 = .ok (.invokespecial 72, 3) := by decide +kernel
theorem dX0_init_145 : decode cX0_init 145 = .ok (.aastore, 1) := by decide +kernel
theorem dX0_init_146 : decode cX0_init 146 = .ok (.iinc 1 1, 3) := by decide +kernel
theorem dX0_init_149 : decode cX0_init 149 = .ok (.goto (-22), 3) := by decide +kernel
theorem dX0_init_152 : decode cX0_init 152 = .ok (.iconst 0, 1) := by decide +kernel
theorem dX0_init_153 : decode cX0_init 153 = .ok (.istore_n 1, 1) := by decide +kernel
theorem dX0_init_154 : decode cX0_init 154 = .ok (.iload_n 1, 1) := by decide +kernel
theorem dX0_init_155 : decode cX0_init 155 = .ok (.bipush 6, 2) := by decide +kernel
theorem dX0_init_157 : decode cX0_init 157 = .ok (.if_icmp .ge 22, 3) := by decide +kernel
theorem dX0_init_160 : decode cX0_init 160 = .ok (.aload_n 0, 1) := by decide +kernel
theorem dX0_init_161 : decode cX0_init 161 = .ok (.getfield 25, 3) := by decide +kernel
theorem dX0_init_164 : decode cX0_init 164 = .ok (.iload_n 1, 1) := by decide +kernel
theorem dX0_init_165 : decode cX0_init 165 = .ok (.new 23, 3) := by decide +kernel
theorem dX0_init_168 : decode cX0_init 168 = .ok (.dup, 1) := by decide +kernel
theorem dX0_init_169 : decode cX0_init 169 = .ok (.invokespecial 73, 3) := by decide +kernel
theorem dX0_init_172 : decode cX0_init 172 = .ok (.aastore, 1) := by decide +kernel
theorem dX0_init_173 : decode cX0_init 173 = .ok (.iinc 1 1, 3) := by decide +kernel
theorem dX0_init_176 : decode cX0_init 176 = .ok (.goto (-22), 3) := by decide +kernel
theorem dX0_init_179 : decode cX0_init 179 = .ok (.iconst 0, 1) := by decide +kernel
theorem dX0_init_180 : decode cX0_init 180 = .ok (.istore_n 1, 1) := by decide +kernel
theorem dX0_init_181 : decode cX0_init 181 = .ok (.iload_n 1, 1) := by decide +kernel
theorem dX0_init_182 : decode cX0_init 182 = .ok (.bipush 8, 2) := by decide +kernel
theorem dX0_init_184 : decode cX0_init 184 = .ok (.if_icmp .ge 22, 3) := by decide +kernel
theorem dX0_init_187 : decode cX0_init 187 = .ok (.aload_n 0, 1) := by decide +kernel
theorem dX0_init_188 : decode cX0_init 188 = .ok (.getfield 31, 3) := by decide +kernel
theorem dX0_init_191 : decode cX0_init 191 = .ok (.iload_n 1, 1) := by decide +kernel
theorem dX0_init_192 : decode cX0_init 192 = .ok (.new 29, 3) := by decide +kernel
theorem dX0_init_195 : decode cX0_init 195 = .ok (.dup, 1) := by decide +kernel
theorem dX0_init_196 : decode cX0_init 196 = .ok (.invokespecial 74, 3) := by decide +kernel
theorem dX0_init_199 : decode cX0_init 199 = .ok (.aastore, 1) := by decide +kernel
theorem dX0_init_200 : decode cX0_init 200 = .ok (.iinc 1 1, 3) := by decide +kernel
theorem dX0_init_203 : decode cX0_init 203 = .ok (.goto (-22), 3) := by decide +kernel
theorem dX0_init_206 : decode cX0_init 206 = .ok (.return_, 1) := by decide +kernel
theorem dX0_copyFrom_0 : decode cX0_copyFrom 0 = .ok (.aload_n 0, 1) := by decide +kernel
theorem dX0_copyFrom_1 : decode cX0_copyFrom 1 = .ok (.aload_n 1, 1) := by decide +kernel
theorem dX0_copyFrom_2 : decode cX0_copyFrom 2 = .ok (.getfield 75, 3) := by decide +kernel
theorem dX0_copyFrom_5 : decode cX0_copyFrom 5 = .ok (.putfield 75, 3) := by decide +kernel
theorem dX0_copyFrom_8 : decode cX0_copyFrom 8 = .ok (.iconst 0, 1) := by decide +kernel
theorem dX0_copyFrom_9 : decode cX0_copyFrom 9 = .ok (.istore_n 2, 1) := by decide +kernel
theorem dX0_copyFrom_10 : decode cX0_copyFrom 10 = .ok (.iload_n 2, 1) := by decide +kernel
theorem dX0_copyFrom_11 : decode cX0_copyFrom 11 = .ok (.aload_n 0, 1) := by decide +kernel
theorem dX0_copyFrom_12 : decode cX0_copyFrom 12 = .ok (.getfield 75, 3) := by decide +kernel
theorem dX0_copyFrom_15 : decode cX0_copyFrom 15 = .ok (.if_icmp .ge 24, 3) := by decide +kernel
theorem dX0_copyFrom_18 : decode cX0_copyFrom 18 = .ok (.aload_n 0, 1) := by decide +kernel
theorem dX0_copyFrom_19 : decode cX0_copyFrom 19 = .ok (.getfield 11, 3) := by decide +kernel
theorem dX0_copyFrom_22 : decode cX0_copyFrom 22 = .ok (.iload_n 2, 1) := by decide +kernel
theorem dX0_copyFrom_23 : decode cX0_copyFrom 23 = .ok (.aaload, 1) := by decide +kernel
theorem dX0_copyFrom_24 : decode cX0_copyFrom 24 = .ok (.aload_n 1, 1) := by decide +kernel
theorem dX0_copyFrom_25 : decode cX0_copyFrom 25 = .ok (.getfield 11, 3) := by decide +kernel
theorem dX0_copyFrom_28 : decode cX0_copyFrom 28 = .ok (.iload_n 2, 1) := by decide +kernel
theorem dX0_copyFrom_29 : decode cX0_copyFrom 29 = .ok (.aaload, 1) := by decide +kernel
theorem dX0_copyFrom_30 : decode cX0_copyFrom 30 = .ok (.invokevirtual 78, 3) := by decide +kernel
theorem dX0_copyFrom_33 : decode cX0_copyFrom 33 = .ok (.iinc 2 1, 3) := by decide +kernel
theorem dX0_copyFrom_36 : decode cX0_copyFrom 36 = .ok (.goto (-26), 3) := by decide +kernel
theorem dX0_copyFrom_39 : decode cX0_copyFrom 39 = .ok (.aload_n 0, 1) := by decide +kernel
theorem dX0_copyFrom_40 : decode cX0_copyFrom 40 = .ok (.aload_n 1, 1) := by decide +kernel
theorem dX0_copyFrom_41 : decode cX0_copyFrom 41 = .ok (.getfield 82, 3) := by decide +kernel
theorem dX0_copyFrom_44 : decode cX0_copyFrom 44 = .ok (.putfield 82, 3) := by decide +kernel
theorem dX0_copyFrom_47 : decode cX0_copyFrom 47 = .ok (.iconst 0, 1) := by decide +kernel
theorem dX0_copyFrom_48 : decode cX0_copyFrom 48 = .ok (.istore_n 2, 1) := by decide +kernel
theorem dX0_copyFrom_49 : decode cX0_copyFrom 49 = .ok (.iload_n 2, 1) := by decide +kernel
theorem dX0_copyFrom_50 : decode cX0_copyFrom 50 = .ok (.aload_n 0, 1) := by decide +kernel
theorem dX0_copyFrom_51 : decode cX0_copyFrom 51 = .ok (.getfield 82, 3) := by decide +kernel
theorem dX0_copyFrom_54 : decode cX0_copyFrom 54 = .ok (.if_icmp .ge 24, 3) := by decide +kernel
theorem dX0_copyFrom_57 : decode cX0_copyFrom 57 = .ok (.aload_n 0, 1) := by decide +kernel
theorem dX0_copyFrom_58 : decode cX0_copyFrom 58 = .ok (.getfield 19, 3) := by decide +kernel
theorem dX0_copyFrom_61 : decode cX0_copyFrom 61 = .ok (.iload_n 2, 1) := by decide +kernel
theorem dX0_copyFrom_62 : decode cX0_copyFrom 62 = .ok (.aaload, 1) := by decide +kernel
theorem dX0_copyFrom_63 : decode cX0_copyFrom 63 = .ok (.aload_n 1, 1) := by decide +kernel
theorem dX0_copyFrom_64 : decode cX0_copyFrom 64 = .ok (.getfield 19, 3) := by decide +kernel
theorem dX0_copyFrom_67 : decode cX0_copyFrom 67 = .ok (.iload_n 2, 1) := by decide +kernel
theorem dX0_copyFrom_68 : decode cX0_copyFrom 68 = .ok (.aaload, 1) := by decide +kernel
theorem dX0_copyFrom_69 : decode cX0_copyFrom 69 = .ok (.invokevirtual 85, 3) := by decide +kernel
theorem dX0_copyFrom_72 : decode cX0_copyFrom 72 = .ok (.iinc 2 1, 3) := by decide +kernel
theorem dX0_copyFrom_75 : decode cX0_copyFrom 75 = .ok (.goto (-26), 3) := by decide +kernel
theorem dX0_copyFrom_78 : decode cX0_copyFrom 78 = .ok (.aload_n 0, 1) := by decide +kernel
theorem dX0_copyFrom_79 : decode cX0_copyFrom 79 = .ok (.aload_n 1, 1) := by decide +kernel
theorem dX0_copyFrom_80 : decode cX0_copyFrom 80 = .ok (.getfield 88, 3) := by decide +kernel
theorem dX0_copyFrom_83 : decode cX0_copyFrom 83 = .ok (.putfield 88, 3) := by decide +kernel
theorem dX0_copyFrom_86 : decode cX0_copyFrom 86 = .ok (.iconst 0, 1) := by decide +kernel
theorem dX0_copyFrom_87 : decode cX0_copyFrom 87 = .ok (.istore_n 2, 1) := by decide +kernel
theorem dX0_copyFrom_88 : decode cX0_copyFrom 88 = .ok (.iload_n 2, 1) := by decide +kernel
theorem dX0_copyFrom_89 : decode cX0_copyFrom 89 = .ok (.aload_n 0, 1) := by decide +kernel
theorem dX0_copyFrom_90 : decode cX0_copyFrom 90 = .ok (.getfield 88, 3) := by decide +kernel
theorem dX0_copyFrom_93 : decode cX0_copyFrom 93 = .ok (.if_icmp .ge 24, 3) := by decide +kernel
theorem dX0_copyFrom_96 : decode cX0_copyFrom 96 = .ok (.aload_n 0, 1) := by decide +kernel
theorem dX0_copyFrom_97 : decode cX0_copyFrom 97 = .ok (.getfield 25, 3) := by decide +kernel
theorem dX0_copyFrom_100 : decode cX0_copyFrom 100 = .ok (.iload_n 2, 1) := by decide +kernel
theorem dX0_copyFrom_101 : decode cX0_copyFrom 101 = .ok (.aaload, 1) := by decide +kernel
theorem dX0_copyFrom_102 : decode cX0_copyFrom 102 = .ok (.aload_n 1, 1) := by decide +kernel
theorem dX0_copyFrom_103 : decode cX0_copyFrom 103 = .ok (.getfield 25, 3) := by decide +kernel
theorem dX0_copyFrom_106 : decode cX0_copyFrom 106 = .ok (.iload_n 2, 1) := by decide +kernel
theorem dX0_copyFrom_107 : decode cX0_copyFrom 107 = .ok (.aaload, 1) := by decide +kernel
theorem dX0_copyFrom_108 : decode cX0_copyFrom 108 = .ok (.invokevirtual 91, 3) := by decide +kernel
theorem dX0_copyFrom_111 : decode cX0_copyFrom 111 = .ok (.iinc 2 1, 3) := by decide +kernel
theorem dX0_copyFrom_114 : decode cX0_copyFrom 114 = .ok (.goto (-26), 3) := by decide +kernel
theorem dX0_copyFrom_117 : decode cX0_copyFrom 117 = .ok (.aload_n 0, 1) := by decide +kernel
theorem dX0_copyFrom_118 : decode cX0_copyFrom 118 = .ok (.aload_n 1, 1) := by decide +kernel
theorem dX0_copyFrom_119 : decode cX0_copyFrom 119 = .ok (.getfield 94, 3) := by decide +kernel
theorem dX0_copyFrom_122 : decode cX0_copyFrom 122 = .ok (.putfield 94, 3) := by decide +kernel
theorem dX0_copyFrom_125 : decode cX0_copyFrom 125 = .ok (.iconst 0, 1) := by decide +kernel
theorem dX0_copyFrom_126 : decode cX0_copyFrom 126 = .ok (.istore_n 2, 1) := by decide +kernel
theorem dX0_copyFrom_127 : decode cX0_copyFrom 127 = .ok (.iload_n 2, 1) := by decide +kernel
theorem dX0_copyFrom_128 : decode cX0_copyFrom 128 = .ok (.aload_n 0, 1) := by decide +kernel
theorem dX0_copyFrom_129 : decode cX0_copyFrom 129 = .ok (.getfield 94, 3) := by decide +kernel
theorem dX0_copyFrom_132 : decode cX0_copyFrom 132 = .ok (.if_icmp .ge 36, 3) := by decide +kernel
theorem dX0_copyFrom_135 : decode cX0_copyFrom 135 = .ok (.aload_n 0, 1) := by decide +kernel
theorem dX0_copyFrom_136 : decode cX0_copyFrom 136 = .ok (.getfield 31, 3) := by decide +kernel
theorem dX0_copyFrom_139 : decode cX0_copyFrom 139 = .ok (.iload_n 2, 1) := by decide +kernel
theorem dX0_copyFrom_140 : decode cX0_copyFrom 140 = .ok (.aaload, 1) := by decide +kernel
theorem dX0_copyFrom_141 : decode cX0_copyFrom 141 = .ok (.aload_n 1, 1) := by decide +kernel
theorem dX0_copyFrom_142 : decode cX0_copyFrom 142 = .ok (.getfield 31, 3) := by decide +kernel
theorem dX0_copyFrom_145 : decode cX0_copyFrom 145 = .ok (.iload_n 2, 1) := by decide +kernel
theorem dX0_copyFrom_146 : decode cX0_copyFrom 146 = .ok (.aaload, 1) := by decide +kernel
theorem dX0_copyFrom_147 : decode cX0_copyFrom 147 = .ok (.invokevirtual 97, 3) := by decide +kernel
theorem dX0_copyFrom_150 : decode cX0_copyFrom 150 = .ok (.aload_n 0, 1) := by decide +kernel
theorem dX0_copyFrom_151 : decode cX0_copyFrom 151 = .ok (.getfield 35, 3) := by decide +kernel
theorem dX0_copyFrom_154 : decode cX0_copyFrom 154 = .ok (.iload_n 2, 1) := by decide +kernel
theorem dX0_copyFrom_155 : decode cX0_copyFrom 155 = .ok (.aload_n 1, 1) := by decide +kernel
theorem dX0_copyFrom_156 : decode cX0_copyFrom 156 = .ok (.getfield 35, 3) := by decide +kernel
theorem dX0_copyFrom_159 : decode cX0_copyFrom 159 = .ok (.iload_n 2, 1) := by decide +kernel
theorem dX0_copyFrom_160 : decode cX0_copyFrom 160 = .ok (.iaload, 1) := by decide +kernel
theorem dX0_copyFrom_161 : decode cX0_copyFrom 161 = .ok (.iastore, 1) := by decide +kernel
theorem dX0_copyFrom_162 : decode cX0_copyFrom 162 = .ok (.iinc 2 1, 3) := by decide +kernel
theorem dX0_copyFrom_165 : decode cX0_copyFrom 165 = .ok (.goto (-38), 3) := by decide +kernel
theorem dX0_copyFrom_168 : decode cX0_copyFrom 168 = .ok (.aload_n 0, 1) := by decide +kernel
theorem dX0_copyFrom_169 : decode cX0_copyFrom 169 = .ok (.getfield 42, 3) := by decide +kernel
theorem dX0_copyFrom_172 : decode cX0_copyFrom 172 = .ok (.aload_n 1, 1) := by decide +kernel
theorem dX0_copyFrom_173 : decode cX0_copyFrom 173 = .ok (.getfield 42, 3) := by decide +kernel
theorem dX0_copyFrom_176 : decode cX0_copyFrom 176 = .ok (.invokevirtual 100, 3) := by decide +kernel
theorem dX0_copyFrom_179 : decode cX0_copyFrom 179 = .ok (.aload_n 0, 1) := by decide +kernel
theorem dX0_copyFrom_180 : decode cX0_copyFrom 180 = .ok (.getfield 49, 3) := by decide +kernel
theorem dX0_copyFrom_183 : decode cX0_copyFrom 183 = .ok (.aload_n 1, 1) := by decide +kernel
theorem dX0_copyFrom_184 : decode cX0_copyFrom 184 = .ok (.getfield 49, 3) := by decide +kernel
theorem dX0_copyFrom_187 : decode cX0_copyFrom 187 = .ok (.invokevirtual 103, 3) := by decide +kernel
theorem dX0_copyFrom_190 : decode cX0_copyFrom 190 = .ok (.aload_n 0, 1) := by decide +kernel
theorem dX0_copyFrom_191 : decode cX0_copyFrom 191 = .ok (.getfield 56, 3) := by decide +kernel
theorem dX0_copyFrom_194 : decode cX0_copyFrom 194 = .ok (.aload_n 1, 1) := by decide +kernel
theorem dX0_copyFrom_195 : decode cX0_copyFrom 195 = .ok (.getfield 56, 3) := by decide +kernel
theorem dX0_copyFrom_198 : decode cX0_copyFrom 198 = .ok (.invokevirtual 106, 3) := by decide +kernel
theorem dX0_copyFrom_201 : decode cX0_copyFrom 201 = .ok (.aload_n 0, 1) := by decide +kernel
theorem dX0_copyFrom_202 : decode cX0_copyFrom 202 = .ok (.getfield 63, 3) := by decide +kernel
theorem dX0_copyFrom_205 : decode cX0_copyFrom 205 = .ok (.aload_n 1, 1) := by decide +kernel
theorem dX0_copyFrom_206 : decode cX0_copyFrom 206 = .ok (.getfield 63, 3) := by decide +kernel
theorem dX0_copyFrom_209 : decode cX0_copyFrom 209 = .ok (.invokevirtual 109, 3) := by decide +kernel
theorem dX0_copyFrom_212 : decode cX0_copyFrom 212 = .ok (.aload_n 0, 1) := by decide +kernel
theorem dX0_copyFrom_213 : decode cX0_copyFrom 213 = .ok (.aload_n 1, 1) := by decide +kernel
theorem dX0_copyFrom_214 : decode cX0_copyFrom 214 = .ok (.getfield 67, 3) := by decide +kernel
theorem dX0_copyFrom_217 : decode cX0_copyFrom 217 = .ok (.putfield 67, 3) := by decide +kernel
theorem dX0_copyFrom_220 : decode cX0_copyFrom 220 = .ok (.aload_n 0, 1) := by decide +kernel
theorem dX0_copyFrom_221 : decode cX0_copyFrom 221 = .ok (.aload_n 1, 1) := by decide +kernel
theorem dX0_copyFrom_222 : decode cX0_copyFrom 222 = .ok (.getfield 112, 3) := by decide +kernel
theorem dX0_copyFrom_225 : decode cX0_copyFrom 225 = .ok (.putfield 112, 3) := by decide +kernel
theorem dX0_copyFrom_228 : decode cX0_copyFrom 228 = .ok (.return_, 1) := by decide +kernel
theorem dX0_hasNode_0 : decode cX0_hasNode 0 = .ok (.iload_n 1, 1) := by decide +kernel
theorem dX0_hasNode_1 : decode cX0_hasNode 1 = .ok (.ifCond .lt 15, 3) := by decide +kernel
theorem dX0_hasNode_4 : decode cX0_hasNode 4 = .ok (.iload_n 1, 1) := by decide +kernel
theorem dX0_hasNode_5 : decode cX0_hasNode 5 = .ok (.aload_n 0, 1) := by decide +kernel
theorem dX0_hasNode_6 : decode cX0_hasNode 6 = .ok (.getfield 75, 3) := by decide +kernel
theorem dX0_hasNode_9 : decode cX0_hasNode 9 = .ok (.if_icmp .ge 7, 3) := by decide +kernel
theorem dX0_hasNode_12 : decode cX0_hasNode 12 = .ok (.iconst 1, 1) := by decide +kernel
theorem dX0_hasNode_13 : decode cX0_hasNode 13 = .ok (.goto 4, 3) := by decide +kernel
theorem dX0_hasNode_16 : decode cX0_hasNode 16 = .ok (.iconst 0, 1) := by decide +kernel
theorem dX0_hasNode_17 : decode cX0_hasNode 17 = .ok (.ireturn, 1) := by decide +kernel
theorem dX0_hasLouvre_0 : decode cX0_hasLouvre 0 = .ok (.iload_n 1, 1) := by decide +kernel
theorem dX0_hasLouvre_1 : decode cX0_hasLouvre 1 = .ok (.ifCond .lt 15, 3) := by decide +kernel
theorem dX0_hasLouvre_4 : decode cX0_hasLouvre 4 = .ok (.iload_n 1, 1) := by decide +kernel
theorem dX0_hasLouvre_5 : decode cX0_hasLouvre 5 = .ok (.aload_n 0, 1) := by decide +kernel
theorem dX0_hasLouvre_6 : decode cX0_hasLouvre 6 = .ok (.getfield 88, 3) := by decide +kernel
theorem dX0_hasLouvre_9 : decode cX0_hasLouvre 9 = .ok (.if_icmp .ge 7, 3) := by decide +kernel
theorem dX0_hasLouvre_12 : decode cX0_hasLouvre 12 = .ok (.iconst 1, 1) := by decide +kernel
theorem dX0_hasLouvre_13 : decode cX0_hasLouvre 13 = .ok (.goto 4, 3) := by decide +kernel
theorem dX0_hasLouvre_16 : decode cX0_hasLouvre 16 = .ok (.iconst 0, 1) := by decide +kernel
theorem dX0_hasLouvre_17 : decode cX0_hasLouvre 17 = .ok (.ireturn, 1) := by decide +kernel
theorem dX0_hasHeater_0 : decode cX0_hasHeater 0 = .ok (.iload_n 1, 1) := by decide +kernel
theorem dX0_hasHeater_1 : decode cX0_hasHeater 1 = .ok (.ifCond .lt 15, 3) := by decide +kernel
theorem dX0_hasHeater_4 : decode cX0_hasHeater 4 = .ok (.iload_n 1, 1) := by decide +kernel
theorem dX0_hasHeater_5 : decode cX0_hasHeater 5 = .ok (.aload_n 0, 1) := by decide +kernel
theorem dX0_hasHeater_6 : decode cX0_hasHeater 6 = .ok (.getfield 94, 3) := by decide +kernel
theorem dX0_hasHeater_9 : decode cX0_hasHeater 9 = .ok (.if_icmp .ge 7, 3) := by decide +kernel
theorem dX0_hasHeater_12 : decode cX0_hasHeater 12 = .ok (.iconst 1, 1) := by decide +kernel
theorem dX0_hasHeater_13 : decode cX0_hasHeater 13 = .ok (.goto 4, 3) := by decide +kernel
theorem dX0_hasHeater_16 : decode cX0_hasHeater 16 = .ok (.iconst 0, 1) := by decide +kernel
theorem dX0_hasHeater_17 : decode cX0_hasHeater 17 = .ok (.ireturn, 1) := by decide +kernel
theorem dX0_placeOfLink_0 : decode cX0_placeOfLink 0 = .ok (.iconst 0, 1) := by decide +kernel
theorem dX0_placeOfLink_1 : decode cX0_placeOfLink 1 = .ok (.istore_n 3, 1) := by decide +kernel
theorem dX0_placeOfLink_2 : decode cX0_placeOfLink 2 = .ok (.iload_n 3, 1) := by decide +kernel
theorem dX0_placeOfLink_3 : decode cX0_placeOfLink 3 = .ok (.aload_n 0, 1) := by decide +kernel
theorem dX0_placeOfLink_4 : decode cX0_placeOfLink 4 = .ok (.getfield 82, 3) := by decide +kernel
theorem dX0_placeOfLink_7 : decode cX0_placeOfLink 7 = .ok (.if_icmp .ge 55, 3) := by decide +kernel
theorem dX0_placeOfLink_10 : decode cX0_placeOfLink 10 = .ok (.aload_n 0, 1) := by decide +kernel
theorem dX0_placeOfLink_11 : decode cX0_placeOfLink 11 = .ok (.getfield 19, 3) := by decide +kernel
theorem dX0_placeOfLink_14 : decode cX0_placeOfLink 14 = .ok (.iload_n 3, 1) := by decide +kernel
theorem dX0_placeOfLink_15 : decode cX0_placeOfLink 15 = .ok (.aaload, 1) := by decide +kernel
theorem dX0_placeOfLink_16 : decode cX0_placeOfLink 16 = .ok (.astore 4, 2) := by decide +kernel
theorem dX0_placeOfLink_18 : decode cX0_placeOfLink 18 = .ok (.aload 4, 2) := by decide +kernel
theorem dX0_placeOfLink_20 : decode cX0_placeOfLink 20 = .ok (.getfield 115, 3) := by decide +kernel
theorem dX0_placeOfLink_23 : decode cX0_placeOfLink 23 = .ok (.iload_n 1, 1) := by decide +kernel
theorem dX0_placeOfLink_24 : decode cX0_placeOfLink 24 = .ok (.if_icmp .ne 12, 3) := by decide +kernel
theorem dX0_placeOfLink_27 : decode cX0_placeOfLink 27 = .ok (.aload 4, 2) := by decide +kernel
theorem dX0_placeOfLink_29 : decode cX0_placeOfLink 29 = .ok (.getfield 118, 3) := by decide +kernel
theorem dX0_placeOfLink_32 : decode cX0_placeOfLink 32 = .ok (.iload_n 2, 1) := by decide +kernel
theorem dX0_placeOfLink_33 : decode cX0_placeOfLink 33 = .ok (.if_icmp .eq 21, 3) := by decide +kernel
theorem dX0_placeOfLink_36 : decode cX0_placeOfLink 36 = .ok (.aload 4, 2) := by decide +kernel
theorem dX0_placeOfLink_38 : decode cX0_placeOfLink 38 = .ok (.getfield 115, 3) := by decide +kernel
theorem dX0_placeOfLink_41 : decode cX0_placeOfLink 41 = .ok (.iload_n 2, 1) := by decide +kernel
theorem dX0_placeOfLink_42 : decode cX0_placeOfLink 42 = .ok (.if_icmp .ne 14, 3) := by decide +kernel
theorem dX0_placeOfLink_45 : decode cX0_placeOfLink 45 = .ok (.aload 4, 2) := by decide +kernel
theorem dX0_placeOfLink_47 : decode cX0_placeOfLink 47 = .ok (.getfield 118, 3) := by decide +kernel
theorem dX0_placeOfLink_50 : decode cX0_placeOfLink 50 = .ok (.iload_n 1, 1) := by decide +kernel
theorem dX0_placeOfLink_51 : decode cX0_placeOfLink 51 = .ok (.if_icmp .ne 5, 3) := by decide +kernel
theorem dX0_placeOfLink_54 : decode cX0_placeOfLink 54 = .ok (.iload_n 3, 1) := by decide +kernel
theorem dX0_placeOfLink_55 : decode cX0_placeOfLink 55 = .ok (.ireturn, 1) := by decide +kernel
theorem dX0_placeOfLink_56 : decode cX0_placeOfLink 56 = .ok (.iinc 3 1, 3) := by decide +kernel
theorem dX0_placeOfLink_59 : decode cX0_placeOfLink 59 = .ok (.goto (-57), 3) := by decide +kernel
theorem dX0_placeOfLink_62 : decode cX0_placeOfLink 62 = .ok (.iconst (-1), 1) := by decide +kernel
theorem dX0_placeOfLink_63 : decode cX0_placeOfLink 63 = .ok (.ireturn, 1) := by decide +kernel
theorem dX0_makeLink_0 : decode cX0_makeLink 0 = .ok (.iload_n 3, 1) := by decide +kernel
theorem dX0_makeLink_1 : decode cX0_makeLink 1 = .ok (.ifCond .ne 5, 3) := by decide +kernel
theorem dX0_makeLink_4 : decode cX0_makeLink 4 = .ok (.iconst 0, 1) := by decide +kernel
theorem dX0_makeLink_5 : decode cX0_makeLink 5 = .ok (.ireturn, 1) := by decide +kernel
theorem dX0_makeLink_6 : decode cX0_makeLink 6 = .ok (.aload_n 0, 1) := by decide +kernel
theorem dX0_makeLink_7 : decode cX0_makeLink 7 = .ok (.getfield 82, 3) := by decide +kernel
theorem dX0_makeLink_10 : decode cX0_makeLink 10 = .ok (.bipush 24, 2) := by decide +kernel
theorem dX0_makeLink_12 : decode cX0_makeLink 12 = .ok (.if_icmp .lt 6, 3) := by decide +kernel
theorem dX0_makeLink_15 : decode cX0_makeLink 15 = .ok (.ldc 121, 2) := by decide +kernel
theorem dX0_makeLink_17 : decode cX0_makeLink 17 = .ok (.ireturn, 1) := by decide +kernel
theorem dX0_makeLink_18 : decode cX0_makeLink 18 = .ok (.aload_n 0, 1) := by decide +kernel
theorem dX0_makeLink_19 : decode cX0_makeLink 19 = .ok (.getfield 19, 3) := by decide +kernel
theorem dX0_makeLink_22 : decode cX0_makeLink 22 = .ok (.aload_n 0, 1) := by decide +kernel
theorem dX0_makeLink_23 : decode cX0_makeLink 23 = .ok (.getfield 82, 3) := by decide +kernel
theorem dX0_makeLink_26 : decode cX0_makeLink 26 = .ok (.aaload, 1) := by decide +kernel
theorem dX0_makeLink_27 : decode cX0_makeLink 27 = .ok (.iload_n 1, 1) := by decide +kernel
theorem dX0_makeLink_28 : decode cX0_makeLink 28 = .ok (.iload_n 2, 1) := by decide +kernel
theorem dX0_makeLink_29 : decode cX0_makeLink 29 = .ok (.iload_n 3, 1) := by decide +kernel
theorem dX0_makeLink_30 : decode cX0_makeLink 30 = .ok (.invokevirtual 122, 3) := by decide +kernel
theorem dX0_makeLink_33 : decode cX0_makeLink 33 = .ok (.aload_n 0, 1) := by decide +kernel
theorem dX0_makeLink_34 : decode cX0_makeLink 34 = .ok (.dup, 1) := by decide +kernel
theorem dX0_makeLink_35 : decode cX0_makeLink 35 = .ok (.getfield 82, 3) := by decide +kernel
theorem dX0_makeLink_38 : decode cX0_makeLink 38 = .ok (.iconst 1, 1) := by decide +kernel
theorem dX0_makeLink_39 : decode cX0_makeLink 39 = .ok (.iadd, 1) := by decide +kernel
theorem dX0_makeLink_40 : decode cX0_makeLink 40 = .ok (.putfield 82, 3) := by decide +kernel
theorem dX0_makeLink_43 : decode cX0_makeLink 43 = .ok (.iconst 0, 1) := by decide +kernel
theorem dX0_makeLink_44 : decode cX0_makeLink 44 = .ok (.ireturn, 1) := by decide +kernel
theorem dX0_dropLink_0 : decode cX0_dropLink 0 = .ok (.iload_n 1, 1) := by decide +kernel
theorem dX0_dropLink_1 : decode cX0_dropLink 1 = .ok (.ifCond .lt 39, 3) := by decide +kernel
theorem dX0_dropLink_4 : decode cX0_dropLink 4 = .ok (.iload_n 1, 1) := by decide +kernel
theorem dX0_dropLink_5 : decode cX0_dropLink 5 = .ok (.aload_n 0, 1) := by decide +kernel
theorem dX0_dropLink_6 : decode cX0_dropLink 6 = .ok (.getfield 82, 3) := by decide +kernel
theorem dX0_dropLink_9 : decode cX0_dropLink 9 = .ok (.if_icmp .ge 31, 3) := by decide +kernel
theorem dX0_dropLink_12 : decode cX0_dropLink 12 = .ok (.aload_n 0, 1) := by decide +kernel
theorem dX0_dropLink_13 : decode cX0_dropLink 13 = .ok (.dup, 1) := by decide +kernel
theorem dX0_dropLink_14 : decode cX0_dropLink 14 = .ok (.getfield 82, 3) := by decide +kernel
theorem dX0_dropLink_17 : decode cX0_dropLink 17 = .ok (.iconst 1, 1) := by decide +kernel
theorem dX0_dropLink_18 : decode cX0_dropLink 18 = .ok (.isub, 1) := by decide +kernel
theorem dX0_dropLink_19 : decode cX0_dropLink 19 = .ok (.putfield 82, 3) := by decide +kernel
theorem dX0_dropLink_22 : decode cX0_dropLink 22 = .ok (.aload_n 0, 1) := by decide +kernel
theorem dX0_dropLink_23 : decode cX0_dropLink 23 = .ok (.getfield 19, 3) := by decide +kernel
theorem dX0_dropLink_26 : decode cX0_dropLink 26 = .ok (.iload_n 1, 1) := by decide +kernel
theorem dX0_dropLink_27 : decode cX0_dropLink 27 = .ok (.aaload, 1) := by decide +kernel
theorem dX0_dropLink_28 : decode cX0_dropLink 28 = .ok (.aload_n 0, 1) := by decide +kernel
theorem dX0_dropLink_29 : decode cX0_dropLink 29 = .ok (.getfield 19, 3) := by decide +kernel
theorem dX0_dropLink_32 : decode cX0_dropLink 32 = .ok (.aload_n 0, 1) := by decide +kernel
theorem dX0_dropLink_33 : decode cX0_dropLink 33 = .ok (.getfield 82, 3) := by decide +kernel
theorem dX0_dropLink_36 : decode cX0_dropLink 36 = .ok (.aaload, 1) := by decide +kernel
theorem dX0_dropLink_37 : decode cX0_dropLink 37 = .ok (.invokevirtual 85, 3) := by decide +kernel
theorem dX0_dropLink_40 : decode cX0_dropLink 40 = .ok (.return_, 1) := by decide +kernel
theorem dX0_rankHeater_0 : decode cX0_rankHeater 0 = .ok (.iconst 0, 1) := by decide +kernel
theorem dX0_rankHeater_1 : decode cX0_rankHeater 1 = .ok (.istore_n 2, 1) := by decide +kernel
theorem dX0_rankHeater_2 : decode cX0_rankHeater 2 = .ok (.iconst 0, 1) := by decide +kernel
theorem dX0_rankHeater_3 : decode cX0_rankHeater 3 = .ok (.istore_n 3, 1) := by decide +kernel
theorem dX0_rankHeater_4 : decode cX0_rankHeater 4 = .ok (.iload_n 3, 1) := by decide +kernel
theorem dX0_rankHeater_5 : decode cX0_rankHeater 5 = .ok (.iload_n 1, 1) := by decide +kernel
theorem dX0_rankHeater_6 : decode cX0_rankHeater 6 = .ok (.if_icmp .ge 33, 3) := by decide +kernel
theorem dX0_rankHeater_9 : decode cX0_rankHeater 9 = .ok (.aload_n 0, 1) := by decide +kernel
theorem dX0_rankHeater_10 : decode cX0_rankHeater 10 = .ok (.getfield 31, 3) := by decide +kernel
theorem dX0_rankHeater_13 : decode cX0_rankHeater 13 = .ok (.iload_n 3, 1) := by decide +kernel
theorem dX0_rankHeater_14 : decode cX0_rankHeater 14 = .ok (.aaload, 1) := by decide +kernel
theorem dX0_rankHeater_15 : decode cX0_rankHeater 15 = .ok (.getfield 126, 3) := by decide +kernel
theorem dX0_rankHeater_18 : decode cX0_rankHeater 18 = .ok (.aload_n 0, 1) := by decide +kernel
theorem dX0_rankHeater_19 : decode cX0_rankHeater 19 = .ok (.getfield 31, 3) := by decide +kernel
theorem dX0_rankHeater_22 : decode cX0_rankHeater 22 = .ok (.iload_n 1, 1) := by decide +kernel
theorem dX0_rankHeater_23 : decode cX0_rankHeater 23 = .ok (.aaload, 1) := by decide +kernel
theorem dX0_rankHeater_24 : decode cX0_rankHeater 24 = .ok (.getfield 126, 3) := by decide +kernel
theorem dX0_rankHeater_27 : decode cX0_rankHeater 27 = .ok (.if_icmp .lt 6, 3) := by decide +kernel
theorem dX0_rankHeater_30 : decode cX0_rankHeater 30 = .ok (.iinc 2 1, 3) := by decide +kernel
theorem dX0_rankHeater_33 : decode cX0_rankHeater 33 = .ok (.iinc 3 1, 3) := by decide +kernel
theorem dX0_rankHeater_36 : decode cX0_rankHeater 36 = .ok (.goto (-32), 3) := by decide +kernel
theorem dX0_rankHeater_39 : decode cX0_rankHeater 39 = .ok (.aload_n 0, 1) := by decide +kernel
theorem dX0_rankHeater_40 : decode cX0_rankHeater 40 = .ok (.getfield 35, 3) := by decide +kernel
theorem dX0_rankHeater_43 : decode cX0_rankHeater 43 = .ok (.iload_n 2, 1) := by decide +kernel
theorem dX0_rankHeater_44 : decode cX0_rankHeater 44 = .ok (.aload_n 0, 1) := by decide +kernel
theorem dX0_rankHeater_45 : decode cX0_rankHeater 45 = .ok (.getfield 35, 3) := by decide +kernel
theorem dX0_rankHeater_48 : decode cX0_rankHeater 48 = .ok (.iload_n 2, 1) := by decide +kernel
theorem dX0_rankHeater_49 : decode cX0_rankHeater 49 = .ok (.iconst 1, 1) := by decide +kernel
theorem dX0_rankHeater_50 : decode cX0_rankHeater 50 = .ok (.iadd, 1) := by decide +kernel
theorem dX0_rankHeater_51 : decode cX0_rankHeater 51 = .ok (.iload_n 1, 1) := by decide +kernel
theorem dX0_rankHeater_52 : decode cX0_rankHeater 52 = .ok (.iload_n 2, 1) := by decide +kernel
theorem dX0_rankHeater_53 : decode cX0_rankHeater 53 = .ok (.isub, 1) := by decide +kernel
theorem dX0_rankHeater_54 : decode cX0_rankHeater 54 = .ok (.invokestatic 129, 3) := by decide +kernel
theorem dX0_rankHeater_57 : decode cX0_rankHeater 57 = .ok (.aload_n 0, 1) := by decide +kernel
theorem dX0_rankHeater_58 : decode cX0_rankHeater 58 = .ok (.getfield 35, 3) := by decide +kernel
theorem dX0_rankHeater_61 : decode cX0_rankHeater 61 = .ok (.iload_n 2, 1) := by decide +kernel
theorem dX0_rankHeater_62 : decode cX0_rankHeater 62 = .ok (.iload_n 1, 1) := by decide +kernel
theorem dX0_rankHeater_63 : decode cX0_rankHeater 63 = .ok (.iastore, 1) := by decide +kernel
theorem dX0_rankHeater_64 : decode cX0_rankHeater 64 = .ok (.return_, 1) := by decide +kernel
theorem dX0_phaseNow_0 : decode cX0_phaseNow 0 = .ok (.aload_n 0, 1) := by decide +kernel
theorem dX0_phaseNow_1 : decode cX0_phaseNow 1 = .ok (.getfield 42, 3) := by decide +kernel
theorem dX0_phaseNow_4 : decode cX0_phaseNow 4 = .ok (.getfield 135, 3) := by decide +kernel
theorem dX0_phaseNow_7 : decode cX0_phaseNow 7 = .ok (.ifCond .le 18, 3) := by decide +kernel
theorem dX0_phaseNow_10 : decode cX0_phaseNow 10 = .ok (.aload_n 0, 1) := by decide +kernel
theorem dX0_phaseNow_11 : decode cX0_phaseNow 11 = .ok (.getfield 112, 3) := by decide +kernel
theorem dX0_phaseNow_14 : decode cX0_phaseNow 14 = .ok (.aload_n 0, 1) := by decide +kernel
theorem dX0_phaseNow_15 : decode cX0_phaseNow 15 = .ok (.getfield 42, 3) := by decide +kernel
theorem dX0_phaseNow_18 : decode cX0_phaseNow 18 = .ok (.getfield 135, 3) := by decide +kernel
theorem dX0_phaseNow_21 : decode cX0_phaseNow 21 = .ok (.irem, 1) := by decide +kernel
theorem dX0_phaseNow_22 : decode cX0_phaseNow 22 = .ok (.goto 4, 3) := by decide +kernel
theorem dX0_phaseNow_25 : decode cX0_phaseNow 25 = .ok (.iconst 0, 1) := by decide +kernel
theorem dX0_phaseNow_26 : decode cX0_phaseNow 26 = .ok (.ireturn, 1) := by decide +kernel
theorem dX0_hasSun_0 : decode cX0_hasSun 0 = .ok (.aload_n 0, 1) := by decide +kernel
theorem dX0_hasSun_1 : decode cX0_hasSun 1 = .ok (.invokevirtual 138, 3) := by decide +kernel
theorem dX0_hasSun_4 : decode cX0_hasSun 4 = .ok (.istore_n 1, 1) := by decide +kernel
theorem dX0_hasSun_5 : decode cX0_hasSun 5 = .ok (.iload_n 1, 1) := by decide +kernel
theorem dX0_hasSun_6 : decode cX0_hasSun 6 = .ok (.aload_n 0, 1) := by decide +kernel
theorem dX0_hasSun_7 : decode cX0_hasSun 7 = .ok (.getfield 42, 3) := by decide +kernel
theorem dX0_hasSun_10 : decode cX0_hasSun 10 = .ok (.getfield 142, 3) := by decide +kernel
theorem dX0_hasSun_13 : decode cX0_hasSun 13 = .ok (.if_icmp .lt 14, 3) := by decide +kernel
theorem dX0_hasSun_16 : decode cX0_hasSun 16 = .ok (.iload_n 1, 1) := by decide +kernel
theorem dX0_hasSun_17 : decode cX0_hasSun 17 = .ok (.aload_n 0, 1) := by decide +kernel
theorem dX0_hasSun_18 : decode cX0_hasSun 18 = .ok (.getfield 42, 3) := by decide +kernel
theorem dX0_hasSun_21 : decode cX0_hasSun 21 = .ok (.getfield 145, 3) := by decide +kernel
theorem dX0_hasSun_24 : decode cX0_hasSun 24 = .ok (.if_icmp .lt 7, 3) := by decide +kernel
theorem dX0_hasSun_27 : decode cX0_hasSun 27 = .ok (.iconst 1, 1) := by decide +kernel
theorem dX0_hasSun_28 : decode cX0_hasSun 28 = .ok (.goto 4, 3) := by decide +kernel
theorem dX0_hasSun_31 : decode cX0_hasSun 31 = .ok (.iconst 0, 1) := by decide +kernel
theorem dX0_hasSun_32 : decode cX0_hasSun 32 = .ok (.ireturn, 1) := by decide +kernel
theorem dX0_temperatureAt_0 : decode cX0_temperatureAt 0 = .ok (.aload_n 0, 1) := by decide +kernel
theorem dX0_temperatureAt_1 : decode cX0_temperatureAt 1 = .ok (.iload_n 1, 1) := by decide +kernel
theorem dX0_temperatureAt_2 : decode cX0_temperatureAt 2 = .ok (.invokevirtual 152, 3) := by decide +kernel
theorem dX0_temperatureAt_5 : decode cX0_temperatureAt 5 = .ok (.ifCond .eq 15, 3) := by decide +kernel
theorem dX0_temperatureAt_8 : decode cX0_temperatureAt 8 = .ok (.aload_n 0, 1) := by decide +kernel
theorem dX0_temperatureAt_9 : decode cX0_temperatureAt 9 = .ok (.getfield 11, 3) := by decide +kernel
theorem dX0_temperatureAt_12 : decode cX0_temperatureAt 12 = .ok (.iload_n 1, 1) := by decide +kernel
theorem dX0_temperatureAt_13 : decode cX0_temperatureAt 13 = .ok (.aaload, 1) := by decide +kernel
theorem dX0_temperatureAt_14 : decode cX0_temperatureAt 14 = .ok (.getfield 156, 3) := by decide +kernel
theorem dX0_temperatureAt_17 : decode cX0_temperatureAt 17 = .ok (.goto 4, 3) := by decide +kernel
theorem dX0_temperatureAt_20 : decode cX0_temperatureAt 20 = .ok (.iconst 0, 1) := by decide +kernel
theorem dX0_temperatureAt_21 : decode cX0_temperatureAt 21 = .ok (.ireturn, 1) := by decide +kernel
theorem dX0_targetOf_0 : decode cX0_targetOf 0 = .ok (.aload_n 0, 1) := by decide +kernel
theorem dX0_targetOf_1 : decode cX0_targetOf 1 = .ok (.aload_n 1, 1) := by decide +kernel
theorem dX0_targetOf_2 : decode cX0_targetOf 2 = .ok (.getfield 159, 3) := by decide +kernel
theorem dX0_targetOf_5 : decode cX0_targetOf 5 = .ok (.invokevirtual 162, 3) := by decide +kernel
theorem dX0_targetOf_8 : decode cX0_targetOf 8 = .ok (.aload_n 1, 1) := by decide +kernel
theorem dX0_targetOf_9 : decode cX0_targetOf 9 = .ok (.getfield 166, 3) := by decide +kernel
theorem dX0_targetOf_12 : decode cX0_targetOf 12 = .ok (.isub, 1) := by decide +kernel
theorem dX0_targetOf_13 : decode cX0_targetOf 13 = .ok (.i2l, 1) := by decide +kernel
theorem dX0_targetOf_14 : decode cX0_targetOf 14 = .ok (.lstore_n 2, 1) := by decide +kernel
theorem dX0_targetOf_15 : decode cX0_targetOf 15 = .ok (.lload_n 2, 1) := by decide +kernel
theorem dX0_targetOf_16 : decode cX0_targetOf 16 = .ok (.ldc2_w 169, 3) := by decide +kernel
theorem dX0_targetOf_19 : decode cX0_targetOf 19 = .ok (.lmul, 1) := by decide +kernel
theorem dX0_targetOf_20 : decode cX0_targetOf 20 = .ok (.aload_n 1, 1) := by decide +kernel
theorem dX0_targetOf_21 : decode cX0_targetOf 21 = .ok (.getfield 171, 3) := by decide +kernel
theorem dX0_targetOf_24 : decode cX0_targetOf 24 = .ok (.aload_n 1, 1) := by decide +kernel
theorem dX0_targetOf_25 : decode cX0_targetOf 25 = .ok (.getfield 166, 3) := by decide +kernel
theorem dX0_targetOf_28 : decode cX0_targetOf 28 = .ok (.isub, 1) := by decide +kernel
theorem dX0_targetOf_29 : decode cX0_targetOf 29 = .ok (.i2l, 1) := by decide +kernel
theorem dX0_targetOf_30 : decode cX0_targetOf 30 = .ok (.invokestatic 148, 3) := by decide +kernel
theorem dX0_targetOf_33 : decode cX0_targetOf 33 = .ok (.lconst 0, 1) := by decide +kernel
theorem dX0_targetOf_34 : decode cX0_targetOf 34 = .ok (.ldc2_w 169, 3) := by decide +kernel
theorem dX0_targetOf_37 : decode cX0_targetOf 37 = .ok (.invokestatic 174, 3) := by decide +kernel
theorem dX0_targetOf_40 : decode cX0_targetOf 40 = .ok (.l2i, 1) := by decide +kernel
theorem dX0_targetOf_41 : decode cX0_targetOf 41 = .ok (.ireturn, 1) := by decide +kernel
theorem dX0_powerInUse_0 : decode cX0_powerInUse 0 = .ok (.iconst 0, 1) := by decide +kernel
theorem dX0_powerInUse_1 : decode cX0_powerInUse 1 = .ok (.istore_n 1, 1) := by decide +kernel
theorem dX0_powerInUse_2 : decode cX0_powerInUse 2 = .ok (.iconst 0, 1) := by decide +kernel
theorem dX0_powerInUse_3 : decode cX0_powerInUse 3 = .ok (.istore_n 2, 1) := by decide +kernel
theorem dX0_powerInUse_4 : decode cX0_powerInUse 4 = .ok (.iload_n 2, 1) := by decide +kernel
theorem dX0_powerInUse_5 : decode cX0_powerInUse 5 = .ok (.aload_n 0, 1) := by decide +kernel
theorem dX0_powerInUse_6 : decode cX0_powerInUse 6 = .ok (.getfield 94, 3) := by decide +kernel
theorem dX0_powerInUse_9 : decode cX0_powerInUse 9 = .ok (.if_icmp .ge 34, 3) := by decide +kernel
theorem dX0_powerInUse_12 : decode cX0_powerInUse 12 = .ok (.aload_n 0, 1) := by decide +kernel
theorem dX0_powerInUse_13 : decode cX0_powerInUse 13 = .ok (.getfield 31, 3) := by decide +kernel
theorem dX0_powerInUse_16 : decode cX0_powerInUse 16 = .ok (.iload_n 2, 1) := by decide +kernel
theorem dX0_powerInUse_17 : decode cX0_powerInUse 17 = .ok (.aaload, 1) := by decide +kernel
theorem dX0_powerInUse_18 : decode cX0_powerInUse 18 = .ok (.getfield 178, 3) := by decide +kernel
theorem dX0_powerInUse_21 : decode cX0_powerInUse 21 = .ok (.iconst 1, 1) := by decide +kernel
theorem dX0_powerInUse_22 : decode cX0_powerInUse 22 = .ok (.if_icmp .ne 15, 3) := by decide +kernel
theorem dX0_powerInUse_25 : decode cX0_powerInUse 25 = .ok (.iload_n 1, 1) := by decide +kernel
theorem dX0_powerInUse_26 : decode cX0_powerInUse 26 = .ok (.aload_n 0, 1) := by decide +kernel
theorem dX0_powerInUse_27 : decode cX0_powerInUse 27 = .ok (.getfield 31, 3) := by decide +kernel
theorem dX0_powerInUse_30 : decode cX0_powerInUse 30 = .ok (.iload_n 2, 1) := by decide +kernel
theorem dX0_powerInUse_31 : decode cX0_powerInUse 31 = .ok (.aaload, 1) := by decide +kernel
theorem dX0_powerInUse_32 : decode cX0_powerInUse 32 = .ok (.getfield 181, 3) := by decide +kernel
theorem dX0_powerInUse_35 : decode cX0_powerInUse 35 = .ok (.iadd, 1) := by decide +kernel
theorem dX0_powerInUse_36 : decode cX0_powerInUse 36 = .ok (.istore_n 1, 1) := by decide +kernel
theorem dX0_powerInUse_37 : decode cX0_powerInUse 37 = .ok (.iinc 2 1, 3) := by decide +kernel
theorem dX0_powerInUse_40 : decode cX0_powerInUse 40 = .ok (.goto (-36), 3) := by decide +kernel
theorem dX0_powerInUse_43 : decode cX0_powerInUse 43 = .ok (.iload_n 1, 1) := by decide +kernel
theorem dX0_powerInUse_44 : decode cX0_powerInUse 44 = .ok (.ireturn, 1) := by decide +kernel
theorem dX0_step_0 : decode cX0_step 0 = .ok (.iconst 0, 1) := by decide +kernel
theorem dX0_step_1 : decode cX0_step 1 = .ok (.istore_n 1, 1) := by decide +kernel
theorem dX0_step_2 : decode cX0_step 2 = .ok (.iload_n 1, 1) := by decide +kernel
theorem dX0_step_3 : decode cX0_step 3 = .ok (.aload_n 0, 1) := by decide +kernel
theorem dX0_step_4 : decode cX0_step 4 = .ok (.getfield 63, 3) := by decide +kernel
theorem dX0_step_7 : decode cX0_step 7 = .ok (.getfield 184, 3) := by decide +kernel
theorem dX0_step_10 : decode cX0_step 10 = .ok (.if_icmp .ge 30, 3) := by decide +kernel
theorem dX0_step_13 : decode cX0_step 13 = .ok (.aload_n 0, 1) := by decide +kernel
theorem dX0_step_14 : decode cX0_step 14 = .ok (.getfield 63, 3) := by decide +kernel
theorem dX0_step_17 : decode cX0_step 17 = .ok (.iload_n 1, 1) := by decide +kernel
theorem dX0_step_18 : decode cX0_step 18 = .ok (.aload_n 0, 1) := by decide +kernel
theorem dX0_step_19 : decode cX0_step 19 = .ok (.invokevirtual 187, 3) := by decide +kernel
theorem dX0_step_22 : decode cX0_step 22 = .ok (.ifCond .eq 12, 3) := by decide +kernel
theorem dX0_step_25 : decode cX0_step 25 = .ok (.aload_n 0, 1) := by decide +kernel
theorem dX0_step_26 : decode cX0_step 26 = .ok (.getfield 63, 3) := by decide +kernel
theorem dX0_step_29 : decode cX0_step 29 = .ok (.iload_n 1, 1) := by decide +kernel
theorem dX0_step_30 : decode cX0_step 30 = .ok (.aload_n 0, 1) := by decide +kernel
theorem dX0_step_31 : decode cX0_step 31 = .ok (.invokevirtual 191, 3) := by decide +kernel
theorem dX0_step_34 : decode cX0_step 34 = .ok (.iinc 1 1, 3) := by decide +kernel
theorem dX0_step_37 : decode cX0_step 37 = .ok (.goto (-35), 3) := by decide +kernel
theorem dX0_step_40 : decode cX0_step 40 = .ok (.aload_n 0, 1) := by decide +kernel
theorem dX0_step_41 : decode cX0_step 41 = .ok (.invokevirtual 195, 3) := by decide +kernel
theorem dX0_step_44 : decode cX0_step 44 = .ok (.aload_n 0, 1) := by decide +kernel
theorem dX0_step_45 : decode cX0_step 45 = .ok (.invokevirtual 198, 3) := by decide +kernel
theorem dX0_step_48 : decode cX0_step 48 = .ok (.aload_n 0, 1) := by decide +kernel
theorem dX0_step_49 : decode cX0_step 49 = .ok (.invokevirtual 201, 3) := by decide +kernel
theorem dX0_step_52 : decode cX0_step 52 = .ok (.aload_n 0, 1) := by decide +kernel
theorem dX0_step_53 : decode cX0_step 53 = .ok (.invokevirtual 204, 3) := by decide +kernel
theorem dX0_step_56 : decode cX0_step 56 = .ok (.aload_n 0, 1) := by decide +kernel
theorem dX0_step_57 : decode cX0_step 57 = .ok (.invokevirtual 207, 3) := by decide +kernel
theorem dX0_step_60 : decode cX0_step 60 = .ok (.aload_n 0, 1) := by decide +kernel
theorem dX0_step_61 : decode cX0_step 61 = .ok (.dup, 1) := by decide +kernel
theorem dX0_step_62 : decode cX0_step 62 = .ok (.getfield 112, 3) := by decide +kernel
theorem dX0_step_65 : decode cX0_step 65 = .ok (.aload_n 0, 1) := by decide +kernel
theorem dX0_step_66 : decode cX0_step 66 = .ok (.getfield 67, 3) := by decide +kernel
theorem dX0_step_69 : decode cX0_step 69 = .ok (.iadd, 1) := by decide +kernel
theorem dX0_step_70 : decode cX0_step 70 = .ok (.putfield 112, 3) := by decide +kernel
theorem dX0_step_73 : decode cX0_step 73 = .ok (.aload_n 0, 1) := by decide +kernel
theorem dX0_step_74 : decode cX0_step 74 = .ok (.invokevirtual 210, 3) := by decide +kernel
theorem dX0_step_77 : decode cX0_step 77 = .ok (.ireturn, 1) := by decide +kernel
theorem dX0_moveLouvres_0 : decode cX0_moveLouvres 0 = .ok (.iconst 0, 1) := by decide +kernel
theorem dX0_moveLouvres_1 : decode cX0_moveLouvres 1 = .ok (.istore_n 1, 1) := by decide +kernel
theorem dX0_moveLouvres_2 : decode cX0_moveLouvres 2 = .ok (.iload_n 1, 1) := by decide +kernel
theorem dX0_moveLouvres_3 : decode cX0_moveLouvres 3 = .ok (.aload_n 0, 1) := by decide +kernel
theorem dX0_moveLouvres_4 : decode cX0_moveLouvres 4 = .ok (.getfield 88, 3) := by decide +kernel
theorem dX0_moveLouvres_7 : decode cX0_moveLouvres 7 = .ok (.if_icmp .ge 40, 3) := by decide +kernel
theorem dX0_moveLouvres_10 : decode cX0_moveLouvres 10 = .ok (.aload_n 0, 1) := by decide +kernel
theorem dX0_moveLouvres_11 : decode cX0_moveLouvres 11 = .ok (.getfield 25, 3) := by decide +kernel
theorem dX0_moveLouvres_14 : decode cX0_moveLouvres 14 = .ok (.iload_n 1, 1) := by decide +kernel
theorem dX0_moveLouvres_15 : decode cX0_moveLouvres 15 = .ok (.aaload, 1) := by decide +kernel
theorem dX0_moveLouvres_16 : decode cX0_moveLouvres 16 = .ok (.getfield 214, 3) := by decide +kernel
theorem dX0_moveLouvres_19 : decode cX0_moveLouvres 19 = .ok (.ifCond .ne 22, 3) := by decide +kernel
theorem dX0_moveLouvres_22 : decode cX0_moveLouvres 22 = .ok (.aload_n 0, 1) := by decide +kernel
theorem dX0_moveLouvres_23 : decode cX0_moveLouvres 23 = .ok (.getfield 25, 3) := by decide +kernel
theorem dX0_moveLouvres_26 : decode cX0_moveLouvres 26 = .ok (.iload_n 1, 1) := by decide +kernel
theorem dX0_moveLouvres_27 : decode cX0_moveLouvres 27 = .ok (.aaload, 1) := by decide +kernel
theorem dX0_moveLouvres_28 : decode cX0_moveLouvres 28 = .ok (.aload_n 0, 1) := by decide +kernel
theorem dX0_moveLouvres_29 : decode cX0_moveLouvres 29 = .ok (.aload_n 0, 1) := by decide +kernel
theorem dX0_moveLouvres_30 : decode cX0_moveLouvres 30 = .ok (.getfield 25, 3) := by decide +kernel
theorem dX0_moveLouvres_33 : decode cX0_moveLouvres 33 = .ok (.iload_n 1, 1) := by decide +kernel
theorem dX0_moveLouvres_34 : decode cX0_moveLouvres 34 = .ok (.aaload, 1) := by decide +kernel
theorem dX0_moveLouvres_35 : decode cX0_moveLouvres 35 = .ok (.invokevirtual 218, 3) := by decide +kernel
theorem dX0_moveLouvres_38 : decode cX0_moveLouvres 38 = .ok (.invokevirtual 222, 3) := by decide +kernel
theorem dX0_moveLouvres_41 : decode cX0_moveLouvres 41 = .ok (.iinc 1 1, 3) := by decide +kernel
theorem dX0_moveLouvres_44 : decode cX0_moveLouvres 44 = .ok (.goto (-42), 3) := by decide +kernel
theorem dX0_moveLouvres_47 : decode cX0_moveLouvres 47 = .ok (.return_, 1) := by decide +kernel
theorem dX0_decideWishes_0 : decode cX0_decideWishes 0 = .ok (.iconst 0, 1) := by decide +kernel
theorem dX0_decideWishes_1 : decode cX0_decideWishes 1 = .ok (.istore_n 1, 1) := by decide +kernel
theorem dX0_decideWishes_2 : decode cX0_decideWishes 2 = .ok (.iload_n 1, 1) := by decide +kernel
theorem dX0_decideWishes_3 : decode cX0_decideWishes 3 = .ok (.aload_n 0, 1) := by decide +kernel
theorem dX0_decideWishes_4 : decode cX0_decideWishes 4 = .ok (.getfield 94, 3) := by decide +kernel
theorem dX0_decideWishes_7 : decode cX0_decideWishes 7 = .ok (.if_icmp .ge 31, 3) := by decide +kernel
theorem dX0_decideWishes_10 : decode cX0_decideWishes 10 = .ok (.aload_n 0, 1) := by decide +kernel
theorem dX0_decideWishes_11 : decode cX0_decideWishes 11 = .ok (.getfield 31, 3) := by decide +kernel
theorem dX0_decideWishes_14 : decode cX0_decideWishes 14 = .ok (.iload_n 1, 1) := by decide +kernel
theorem dX0_decideWishes_15 : decode cX0_decideWishes 15 = .ok (.aaload, 1) := by decide +kernel
theorem dX0_decideWishes_16 : decode cX0_decideWishes 16 = .ok (.aload_n 0, 1) := by decide +kernel
theorem dX0_decideWishes_17 : decode cX0_decideWishes 17 = .ok (.aload_n 0, 1) := by decide +kernel
theorem dX0_decideWishes_18 : decode cX0_decideWishes 18 = .ok (.getfield 31, 3) := by decide +kernel
theorem dX0_decideWishes_21 : decode cX0_decideWishes 21 = .ok (.iload_n 1, 1) := by decide +kernel
theorem dX0_decideWishes_22 : decode cX0_decideWishes 22 = .ok (.aaload, 1) := by decide +kernel
theorem dX0_decideWishes_23 : decode cX0_decideWishes 23 = .ok (.getfield 226, 3) := by decide +kernel
theorem dX0_decideWishes_26 : decode cX0_decideWishes 26 = .ok (.invokevirtual 162, 3) := by decide +kernel
theorem dX0_decideWishes_29 : decode cX0_decideWishes 29 = .ok (.invokevirtual 227, 3) := by decide +kernel
theorem dX0_decideWishes_32 : decode cX0_decideWishes 32 = .ok (.iinc 1 1, 3) := by decide +kernel
theorem dX0_decideWishes_35 : decode cX0_decideWishes 35 = .ok (.goto (-33), 3) := by decide +kernel
theorem dX0_decideWishes_38 : decode cX0_decideWishes 38 = .ok (.return_, 1) := by decide +kernel
theorem dX0_sharePower_0 : decode cX0_sharePower 0 = .ok (.aload_n 0, 1) := by decide +kernel
theorem dX0_sharePower_1 : decode cX0_sharePower 1 = .ok (.invokevirtual 230, 3) := by decide +kernel
theorem dX0_sharePower_4 : decode cX0_sharePower 4 = .ok (.ifCond .eq 13, 3) := by decide +kernel
theorem dX0_sharePower_7 : decode cX0_sharePower 7 = .ok (.aload_n 0, 1) := by decide +kernel
theorem dX0_sharePower_8 : decode cX0_sharePower 8 = .ok (.getfield 49, 3) := by decide +kernel
theorem dX0_sharePower_11 : decode cX0_sharePower 11 = .ok (.getfield 233, 3) := by decide +kernel
theorem dX0_sharePower_14 : decode cX0_sharePower 14 = .ok (.goto 4, 3) := by decide +kernel
theorem dX0_sharePower_17 : decode cX0_sharePower 17 = .ok (.iconst 0, 1) := by decide +kernel
theorem dX0_sharePower_18 : decode cX0_sharePower 18 = .ok (.aload_n 0, 1) := by decide +kernel
theorem dX0_sharePower_19 : decode cX0_sharePower 19 = .ok (.getfield 49, 3) := by decide +kernel
theorem dX0_sharePower_22 : decode cX0_sharePower 22 = .ok (.getfield 236, 3) := by decide +kernel
theorem dX0_sharePower_25 : decode cX0_sharePower 25 = .ok (.isub, 1) := by decide +kernel
theorem dX0_sharePower_26 : decode cX0_sharePower 26 = .ok (.i2l, 1) := by decide +kernel
theorem dX0_sharePower_27 : decode cX0_sharePower 27 = .ok (.lstore_n 1, 1) := by decide +kernel
theorem dX0_sharePower_28 : decode cX0_sharePower 28 = .ok (.lconst 0, 1) := by decide +kernel
theorem dX0_sharePower_29 : decode cX0_sharePower 29 = .ok (.aload_n 0, 1) := by decide +kernel
theorem dX0_sharePower_30 : decode cX0_sharePower 30 = .ok (.getfield 49, 3) := by decide +kernel
theorem dX0_sharePower_33 : decode cX0_sharePower 33 = .ok (.getfield 239, 3) := by decide +kernel
theorem dX0_sharePower_36 : decode cX0_sharePower 36 = .ok (.i2l, 1) := by decide +kernel
theorem dX0_sharePower_37 : decode cX0_sharePower 37 = .ok (.aload_n 0, 1) := by decide +kernel
theorem dX0_sharePower_38 : decode cX0_sharePower 38 = .ok (.getfield 67, 3) := by decide +kernel
theorem dX0_sharePower_41 : decode cX0_sharePower 41 = .ok (.i2l, 1) := by decide +kernel
theorem dX0_sharePower_42 : decode cX0_sharePower 42 = .ok (.invokestatic 148, 3) := by decide +kernel
theorem dX0_sharePower_45 : decode cX0_sharePower 45 = .ok (.lload_n 1, 1) := by decide +kernel
theorem dX0_sharePower_46 : decode cX0_sharePower 46 = .ok (.ladd, 1) := by decide +kernel
theorem dX0_sharePower_47 : decode cX0_sharePower 47 = .ok (.invokestatic 242, 3) := by decide +kernel
theorem dX0_sharePower_50 : decode cX0_sharePower 50 = .ok (.lstore_n 3, 1) := by decide +kernel
theorem dX0_sharePower_51 : decode cX0_sharePower 51 = .ok (.lconst 0, 1) := by decide +kernel
theorem dX0_sharePower_52 : decode cX0_sharePower 52 = .ok (.lstore 5, 2) := by decide +kernel
theorem dX0_sharePower_54 : decode cX0_sharePower 54 = .ok (.iconst 0, 1) := by decide +kernel
theorem dX0_sharePower_55 : decode cX0_sharePower 55 = .ok (.istore 7, 2) := by decide +kernel
theorem dX0_sharePower_57 : decode cX0_sharePower 57 = .ok (.iload 7, 2) := by decide +kernel
theorem dX0_sharePower_59 : decode cX0_sharePower 59 = .ok (.aload_n 0, 1) := by decide +kernel
theorem dX0_sharePower_60 : decode cX0_sharePower 60 = .ok (.getfield 94, 3) := by decide +kernel
theorem dX0_sharePower_63 : decode cX0_sharePower 63 = .ok (.if_icmp .ge 48, 3) := by decide +kernel
theorem dX0_sharePower_66 : decode cX0_sharePower 66 = .ok (.aload_n 0, 1) := by decide +kernel
theorem dX0_sharePower_67 : decode cX0_sharePower 67 = .ok (.getfield 35, 3) := by decide +kernel
theorem dX0_sharePower_70 : decode cX0_sharePower 70 = .ok (.iload 7, 2) := by decide +kernel
theorem dX0_sharePower_72 : decode cX0_sharePower 72 = .ok (.iaload, 1) := by decide +kernel
theorem dX0_sharePower_73 : decode cX0_sharePower 73 = .ok (.istore 8, 2) := by decide +kernel
theorem dX0_sharePower_75 : decode cX0_sharePower 75 = .ok (.aload_n 0, 1) := by decide +kernel
theorem dX0_sharePower_76 : decode cX0_sharePower 76 = .ok (.iload 8, 2) := by decide +kernel
theorem dX0_sharePower_78 : decode cX0_sharePower 78 = .ok (.invokevirtual 247, 3) := by decide +kernel
theorem dX0_sharePower_81 : decode cX0_sharePower 81 = .ok (.ifCond .eq 24, 3) := by decide +kernel
theorem dX0_sharePower_84 : decode cX0_sharePower 84 = .ok (.lload 5, 2) := by decide +kernel
theorem dX0_sharePower_86 : decode cX0_sharePower 86 = .ok (.aload_n 0, 1) := by decide +kernel
theorem dX0_sharePower_87 : decode cX0_sharePower 87 = .ok (.aload_n 0, 1) := by decide +kernel
theorem dX0_sharePower_88 : decode cX0_sharePower 88 = .ok (.getfield 31, 3) := by decide +kernel
theorem dX0_sharePower_91 : decode cX0_sharePower 91 = .ok (.iload 8, 2) := by decide +kernel
theorem dX0_sharePower_93 : decode cX0_sharePower 93 = .ok (.aaload, 1) := by decide +kernel
theorem dX0_sharePower_94 : decode cX0_sharePower 94 = .ok (.lload_n 3, 1) := by decide +kernel
theorem dX0_sharePower_95 : decode cX0_sharePower 95 = .ok (.lload 5, 2) := by decide +kernel
theorem dX0_sharePower_97 : decode cX0_sharePower 97 = .ok (.lsub, 1) := by decide +kernel
theorem dX0_sharePower_98 : decode cX0_sharePower 98 = .ok (.invokevirtual 250, 3) := by decide +kernel
theorem dX0_sharePower_101 : decode cX0_sharePower 101 = .ok (.i2l, 1) := by decide +kernel
theorem dX0_sharePower_102 : decode cX0_sharePower 102 = .ok (.ladd, 1) := by decide +kernel
theorem dX0_sharePower_103 : decode cX0_sharePower 103 = .ok (.lstore 5, 2) := by decide +kernel
theorem dX0_sharePower_105 : decode cX0_sharePower 105 = .ok (.iinc 7 1, 3) := by decide +kernel
theorem dX0_sharePower_108 : decode cX0_sharePower 108 = .ok (.goto (-51), 3) := by decide +kernel
theorem dX0_sharePower_111 : decode cX0_sharePower 111 = .ok (.aload_n 0, 1) := by decide +kernel
theorem dX0_sharePower_112 : decode cX0_sharePower 112 = .ok (.getfield 56, 3) := by decide +kernel
theorem dX0_sharePower_115 : decode cX0_sharePower 115 = .ok (.dup, 1) := by decide +kernel
theorem dX0_sharePower_116 : decode cX0_sharePower 116 = .ok (.getfield 254, 3) := by decide +kernel
theorem dX0_sharePower_119 : decode cX0_sharePower 119 = .ok (.aload_n 0, 1) := by decide +kernel
theorem dX0_sharePower_120 : decode cX0_sharePower 120 = .ok (.getfield 67, 3) := by decide +kernel
theorem dX0_sharePower_123 : decode cX0_sharePower 123 = .ok (.i2l, 1) := by decide +kernel
theorem dX0_sharePower_124 : decode cX0_sharePower 124 = .ok (.lload 5, 2) := by decide +kernel
theorem dX0_sharePower_126 : decode cX0_sharePower 126 = .ok (.lmul, 1) := by decide +kernel
theorem dX0_sharePower_127 : decode cX0_sharePower 127 = .ok (.ladd, 1) := by decide +kernel
theorem dX0_sharePower_128 : decode cX0_sharePower 128 = .ok (.putfield 254, 3) := by decide +kernel
theorem dX0_sharePower_131 : decode cX0_sharePower 131 = .ok (.aload_n 0, 1) := by decide +kernel
theorem dX0_sharePower_132 : decode cX0_sharePower 132 = .ok (.getfield 49, 3) := by decide +kernel
theorem dX0_sharePower_135 : decode cX0_sharePower 135 = .ok (.getfield 239, 3) := by decide +kernel
theorem dX0_sharePower_138 : decode cX0_sharePower 138 = .ok (.i2l, 1) := by decide +kernel
theorem dX0_sharePower_139 : decode cX0_sharePower 139 = .ok (.aload_n 0, 1) := by decide +kernel
theorem dX0_sharePower_140 : decode cX0_sharePower 140 = .ok (.getfield 67, 3) := by decide +kernel
theorem dX0_sharePower_143 : decode cX0_sharePower 143 = .ok (.i2l, 1) := by decide +kernel
theorem dX0_sharePower_144 : decode cX0_sharePower 144 = .ok (.lload_n 1, 1) := by decide +kernel
theorem dX0_sharePower_145 : decode cX0_sharePower 145 = .ok (.lload 5, 2) := by decide +kernel
theorem dX0_sharePower_147 : decode cX0_sharePower 147 = .ok (.lsub, 1) := by decide +kernel
theorem dX0_sharePower_148 : decode cX0_sharePower 148 = .ok (.lmul, 1) := by decide +kernel
theorem dX0_sharePower_149 : decode cX0_sharePower 149 = .ok (.ladd, 1) := by decide +kernel
theorem dX0_sharePower_150 : decode cX0_sharePower 150 = .ok (.lstore 7, 2) := by decide +kernel
theorem dX0_sharePower_152 : decode cX0_sharePower 152 = .ok (.aload_n 0, 1) := by decide +kernel
theorem dX0_sharePower_153 : decode cX0_sharePower 153 = .ok (.getfield 49, 3) := by decide +kernel
theorem dX0_sharePower_156 : decode cX0_sharePower 156 = .ok (.lload 7, 2) := by decide +kernel
theorem dX0_sharePower_158 : decode cX0_sharePower 158 = .ok (.lconst 0, 1) := by decide +kernel
theorem dX0_sharePower_159 : decode cX0_sharePower 159 = .ok (.aload_n 0, 1) := by decide +kernel
theorem dX0_sharePower_160 : decode cX0_sharePower 160 = .ok (.getfield 49, 3) := by decide +kernel
theorem dX0_sharePower_163 : decode cX0_sharePower 163 = .ok (.getfield 258, 3) := by decide +kernel
theorem dX0_sharePower_166 : decode cX0_sharePower 166 = .ok (.i2l, 1) := by decide +kernel
theorem dX0_sharePower_167 : decode cX0_sharePower 167 = .ok (.invokestatic 174, 3) := by decide +kernel
theorem dX0_sharePower_170 : decode cX0_sharePower 170 = .ok (.l2i, 1) := by decide +kernel
theorem dX0_sharePower_171 : decode cX0_sharePower 171 = .ok (.putfield 239, 3) := by decide +kernel
theorem dX0_sharePower_174 : decode cX0_sharePower 174 = .ok (.return_, 1) := by decide +kernel
theorem dX0_switchHeater_0 : decode cX0_switchHeater 0 = .ok (.aload_n 1, 1) := by decide +kernel
theorem dX0_switchHeater_1 : decode cX0_switchHeater 1 = .ok (.getfield 261, 3) := by decide +kernel
theorem dX0_switchHeater_4 : decode cX0_switchHeater 4 = .ok (.ifCond .ne 10, 3) := by decide +kernel
theorem dX0_switchHeater_7 : decode cX0_switchHeater 7 = .ok (.aload_n 1, 1) := by decide +kernel
theorem dX0_switchHeater_8 : decode cX0_switchHeater 8 = .ok (.iconst 0, 1) := by decide +kernel
theorem dX0_switchHeater_9 : decode cX0_switchHeater 9 = .ok (.putfield 178, 3) := by decide +kernel
theorem dX0_switchHeater_12 : decode cX0_switchHeater 12 = .ok (.iconst 0, 1) := by decide +kernel
theorem dX0_switchHeater_13 : decode cX0_switchHeater 13 = .ok (.ireturn, 1) := by decide +kernel
theorem dX0_switchHeater_14 : decode cX0_switchHeater 14 = .ok (.aload_n 1, 1) := by decide +kernel
theorem dX0_switchHeater_15 : decode cX0_switchHeater 15 = .ok (.getfield 181, 3) := by decide +kernel
theorem dX0_switchHeater_18 : decode cX0_switchHeater 18 = .ok (.i2l, 1) := by decide +kernel
theorem dX0_switchHeater_19 : decode cX0_switchHeater 19 = .ok (.lload_n 2, 1) := by decide +kernel
theorem dX0_switchHeater_20 : decode cX0_switchHeater 20 = .ok (.lcmp, 1) := by decide +kernel
theorem dX0_switchHeater_21 : decode cX0_switchHeater 21 = .ok (.ifCond .le 23, 3) := by decide +kernel
theorem dX0_switchHeater_24 : decode cX0_switchHeater 24 = .ok (.aload_n 1, 1) := by decide +kernel
theorem dX0_switchHeater_25 : decode cX0_switchHeater 25 = .ok (.iconst 2, 1) := by decide +kernel
theorem dX0_switchHeater_26 : decode cX0_switchHeater 26 = .ok (.putfield 178, 3) := by decide +kernel
theorem dX0_switchHeater_29 : decode cX0_switchHeater 29 = .ok (.aload_n 0, 1) := by decide +kernel
theorem dX0_switchHeater_30 : decode cX0_switchHeater 30 = .ok (.getfield 56, 3) := by decide +kernel
theorem dX0_switchHeater_33 : decode cX0_switchHeater 33 = .ok (.dup, 1) := by decide +kernel
theorem dX0_switchHeater_34 : decode cX0_switchHeater 34 = .ok (.getfield 264, 3) := by decide +kernel
theorem dX0_switchHeater_37 : decode cX0_switchHeater 37 = .ok (.iconst 1, 1) := by decide +kernel
theorem dX0_switchHeater_38 : decode cX0_switchHeater 38 = .ok (.iadd, 1) := by decide +kernel
theorem dX0_switchHeater_39 : decode cX0_switchHeater 39 = .ok (.putfield 264, 3) := by decide +kernel
theorem dX0_switchHeater_42 : decode cX0_switchHeater 42 = .ok (.iconst 0, 1) := by decide +kernel
theorem dX0_switchHeater_43 : decode cX0_switchHeater 43 = .ok (.ireturn, 1) := by decide +kernel
theorem dX0_switchHeater_44 : decode cX0_switchHeater 44 = .ok (.aload_n 1, 1) := by decide +kernel
theorem dX0_switchHeater_45 : decode cX0_switchHeater 45 = .ok (.iconst 1, 1) := by decide +kernel
theorem dX0_switchHeater_46 : decode cX0_switchHeater 46 = .ok (.putfield 178, 3) := by decide +kernel
theorem dX0_switchHeater_49 : decode cX0_switchHeater 49 = .ok (.aload_n 1, 1) := by decide +kernel
theorem dX0_switchHeater_50 : decode cX0_switchHeater 50 = .ok (.getfield 181, 3) := by decide +kernel
theorem dX0_switchHeater_53 : decode cX0_switchHeater 53 = .ok (.ireturn, 1) := by decide +kernel
theorem dX0_balanceHeat_0 : decode cX0_balanceHeat 0 = .ok (.aload_n 0, 1) := by decide +kernel
theorem dX0_balanceHeat_1 : decode cX0_balanceHeat 1 = .ok (.invokevirtual 230, 3) := by decide +kernel
theorem dX0_balanceHeat_4 : decode cX0_balanceHeat 4 = .ok (.istore_n 1, 1) := by decide +kernel
theorem dX0_balanceHeat_5 : decode cX0_balanceHeat 5 = .ok (.iconst 0, 1) := by decide +kernel
theorem dX0_balanceHeat_6 : decode cX0_balanceHeat 6 = .ok (.istore_n 2, 1) := by decide +kernel
theorem dX0_balanceHeat_7 : decode cX0_balanceHeat 7 = .ok (.iload_n 2, 1) := by decide +kernel
theorem dX0_balanceHeat_8 : decode cX0_balanceHeat 8 = .ok (.aload_n 0, 1) := by decide +kernel
theorem dX0_balanceHeat_9 : decode cX0_balanceHeat 9 = .ok (.getfield 75, 3) := by decide +kernel
theorem dX0_balanceHeat_12 : decode cX0_balanceHeat 12 = .ok (.if_icmp .ge 48, 3) := by decide +kernel
theorem dX0_balanceHeat_15 : decode cX0_balanceHeat 15 = .ok (.aload_n 0, 1) := by decide +kernel
theorem dX0_balanceHeat_16 : decode cX0_balanceHeat 16 = .ok (.getfield 11, 3) := by decide +kernel
theorem dX0_balanceHeat_19 : decode cX0_balanceHeat 19 = .ok (.iload_n 2, 1) := by decide +kernel
theorem dX0_balanceHeat_20 : decode cX0_balanceHeat 20 = .ok (.aaload, 1) := by decide +kernel
theorem dX0_balanceHeat_21 : decode cX0_balanceHeat 21 = .ok (.astore_n 3, 1) := by decide +kernel
theorem dX0_balanceHeat_22 : decode cX0_balanceHeat 22 = .ok (.aload_n 3, 1) := by decide +kernel
theorem dX0_balanceHeat_23 : decode cX0_balanceHeat 23 = .ok (.aload_n 3, 1) := by decide +kernel
theorem dX0_balanceHeat_24 : decode cX0_balanceHeat 24 = .ok (.getfield 267, 3) := by decide +kernel
theorem dX0_balanceHeat_27 : decode cX0_balanceHeat 27 = .ok (.i2l, 1) := by decide +kernel
theorem dX0_balanceHeat_28 : decode cX0_balanceHeat 28 = .ok (.putfield 270, 3) := by decide +kernel
theorem dX0_balanceHeat_31 : decode cX0_balanceHeat 31 = .ok (.aload_n 3, 1) := by decide +kernel
theorem dX0_balanceHeat_32 : decode cX0_balanceHeat 32 = .ok (.aload_n 0, 1) := by decide +kernel
theorem dX0_balanceHeat_33 : decode cX0_balanceHeat 33 = .ok (.getfield 42, 3) := by decide +kernel
theorem dX0_balanceHeat_36 : decode cX0_balanceHeat 36 = .ok (.aload_n 3, 1) := by decide +kernel
theorem dX0_balanceHeat_37 : decode cX0_balanceHeat 37 = .ok (.iload_n 1, 1) := by decide +kernel
theorem dX0_balanceHeat_38 : decode cX0_balanceHeat 38 = .ok (.invokevirtual 273, 3) := by decide +kernel
theorem dX0_balanceHeat_41 : decode cX0_balanceHeat 41 = .ok (.putfield 277, 3) := by decide +kernel
theorem dX0_balanceHeat_44 : decode cX0_balanceHeat 44 = .ok (.aload_n 3, 1) := by decide +kernel
theorem dX0_balanceHeat_45 : decode cX0_balanceHeat 45 = .ok (.lconst 0, 1) := by decide +kernel
theorem dX0_balanceHeat_46 : decode cX0_balanceHeat 46 = .ok (.putfield 280, 3) := by decide +kernel
theorem dX0_balanceHeat_49 : decode cX0_balanceHeat 49 = .ok (.aload_n 3, 1) := by decide +kernel
theorem dX0_balanceHeat_50 : decode cX0_balanceHeat 50 = .ok (.lconst 0, 1) := by decide +kernel
theorem dX0_balanceHeat_51 : decode cX0_balanceHeat 51 = .ok (.putfield 283, 3) := by decide +kernel
theorem dX0_balanceHeat_54 : decode cX0_balanceHeat 54 = .ok (.iinc 2 1, 3) := by decide +kernel
theorem dX0_balanceHeat_57 : decode cX0_balanceHeat 57 = .ok (.goto (-50), 3) := by decide +kernel
theorem dX0_balanceHeat_60 : decode cX0_balanceHeat 60 = .ok (.iconst 0, 1) := by decide +kernel
theorem dX0_balanceHeat_61 : decode cX0_balanceHeat 61 = .ok (.istore_n 2, 1) := by decide +kernel
theorem dX0_balanceHeat_62 : decode cX0_balanceHeat 62 = .ok (.iload_n 2, 1) := by decide +kernel
theorem dX0_balanceHeat_63 : decode cX0_balanceHeat 63 = .ok (.aload_n 0, 1) := by decide +kernel
theorem dX0_balanceHeat_64 : decode cX0_balanceHeat 64 = .ok (.getfield 88, 3) := by decide +kernel
theorem dX0_balanceHeat_67 : decode cX0_balanceHeat 67 = .ok (.if_icmp .ge 58, 3) := by decide +kernel
theorem dX0_balanceHeat_70 : decode cX0_balanceHeat 70 = .ok (.aload_n 0, 1) := by decide +kernel
theorem dX0_balanceHeat_71 : decode cX0_balanceHeat 71 = .ok (.getfield 25, 3) := by decide +kernel
theorem dX0_balanceHeat_74 : decode cX0_balanceHeat 74 = .ok (.iload_n 2, 1) := by decide +kernel
theorem dX0_balanceHeat_75 : decode cX0_balanceHeat 75 = .ok (.aaload, 1) := by decide +kernel
theorem dX0_balanceHeat_76 : decode cX0_balanceHeat 76 = .ok (.astore_n 3, 1) := by decide +kernel
theorem dX0_balanceHeat_77 : decode cX0_balanceHeat 77 = .ok (.aload_n 0, 1) := by decide +kernel
theorem dX0_balanceHeat_78 : decode cX0_balanceHeat 78 = .ok (.aload_n 3, 1) := by decide +kernel
theorem dX0_balanceHeat_79 : decode cX0_balanceHeat 79 = .ok (.getfield 159, 3) := by decide +kernel
theorem dX0_balanceHeat_82 : decode cX0_balanceHeat 82 = .ok (.invokevirtual 152, 3) := by decide +kernel
theorem dX0_balanceHeat_85 : decode cX0_balanceHeat 85 = .ok (.ifCond .eq 34, 3) := by decide +kernel
theorem dX0_balanceHeat_88 : decode cX0_balanceHeat 88 = .ok (.aload_n 0, 1) := by decide +kernel
theorem dX0_balanceHeat_89 : decode cX0_balanceHeat 89 = .ok (.getfield 11, 3) := by decide +kernel
theorem dX0_balanceHeat_92 : decode cX0_balanceHeat 92 = .ok (.aload_n 3, 1) := by decide +kernel
theorem dX0_balanceHeat_93 : decode cX0_balanceHeat 93 = .ok (.getfield 159, 3) := by decide +kernel
theorem dX0_balanceHeat_96 : decode cX0_balanceHeat 96 = .ok (.aaload, 1) := by decide +kernel
theorem dX0_balanceHeat_97 : decode cX0_balanceHeat 97 = .ok (.dup, 1) := by decide +kernel
theorem dX0_balanceHeat_98 : decode cX0_balanceHeat 98 = .ok (.getfield 270, 3) := by decide +kernel
theorem dX0_balanceHeat_101 : decode cX0_balanceHeat 101 = .ok (.aload_n 3, 1) := by decide +kernel
theorem dX0_balanceHeat_102 : decode cX0_balanceHeat 102 = .ok (.getfield 284, 3) := by decide +kernel
theorem dX0_balanceHeat_105 : decode cX0_balanceHeat 105 = .ok (.aload_n 3, 1) := by decide +kernel
theorem dX0_balanceHeat_106 : decode cX0_balanceHeat 106 = .ok (.getfield 286, 3) := by decide +kernel
theorem dX0_balanceHeat_109 : decode cX0_balanceHeat 109 = .ok (.imul, 1) := by decide +kernel
theorem dX0_balanceHeat_110 : decode cX0_balanceHeat 110 = .ok (.sipush 1000, 3) := by decide +kernel
theorem dX0_balanceHeat_113 : decode cX0_balanceHeat 113 = .ok (.idiv, 1) := by decide +kernel
theorem dX0_balanceHeat_114 : decode cX0_balanceHeat 114 = .ok (.i2l, 1) := by decide +kernel
theorem dX0_balanceHeat_115 : decode cX0_balanceHeat 115 = .ok (.ladd, 1) := by decide +kernel
theorem dX0_balanceHeat_116 : decode cX0_balanceHeat 116 = .ok (.putfield 270, 3) := by decide +kernel
theorem dX0_balanceHeat_119 : decode cX0_balanceHeat 119 = .ok (.iinc 2 1, 3) := by decide +kernel
theorem dX0_balanceHeat_122 : decode cX0_balanceHeat 122 = .ok (.goto (-60), 3) := by decide +kernel
theorem dX0_balanceHeat_125 : decode cX0_balanceHeat 125 = .ok (.iconst 0, 1) := by decide +kernel
theorem dX0_balanceHeat_126 : decode cX0_balanceHeat 126 = .ok (.istore_n 2, 1) := by decide +kernel
theorem dX0_balanceHeat_127 : decode cX0_balanceHeat 127 = .ok (.iload_n 2, 1) := by decide +kernel
theorem dX0_balanceHeat_128 : decode cX0_balanceHeat 128 = .ok (.aload_n 0, 1) := by decide +kernel
theorem dX0_balanceHeat_129 : decode cX0_balanceHeat 129 = .ok (.getfield 94, 3) := by decide +kernel
theorem dX0_balanceHeat_132 : decode cX0_balanceHeat 132 = .ok (.if_icmp .ge 57, 3) := by decide +kernel
theorem dX0_balanceHeat_135 : decode cX0_balanceHeat 135 = .ok (.aload_n 0, 1) := by decide +kernel
theorem dX0_balanceHeat_136 : decode cX0_balanceHeat 136 = .ok (.getfield 31, 3) := by decide +kernel
theorem dX0_balanceHeat_139 : decode cX0_balanceHeat 139 = .ok (.iload_n 2, 1) := by decide +kernel
theorem dX0_balanceHeat_140 : decode cX0_balanceHeat 140 = .ok (.aaload, 1) := by decide +kernel
theorem dX0_balanceHeat_141 : decode cX0_balanceHeat 141 = .ok (.astore_n 3, 1) := by decide +kernel
theorem dX0_balanceHeat_142 : decode cX0_balanceHeat 142 = .ok (.aload_n 3, 1) := by decide +kernel
theorem dX0_balanceHeat_143 : decode cX0_balanceHeat 143 = .ok (.getfield 178, 3) := by decide +kernel
theorem dX0_balanceHeat_146 : decode cX0_balanceHeat 146 = .ok (.iconst 1, 1) := by decide +kernel
theorem dX0_balanceHeat_147 : decode cX0_balanceHeat 147 = .ok (.if_icmp .ne 36, 3) := by decide +kernel
theorem dX0_balanceHeat_150 : decode cX0_balanceHeat 150 = .ok (.aload_n 0, 1) := by decide +kernel
theorem dX0_balanceHeat_151 : decode cX0_balanceHeat 151 = .ok (.aload_n 3, 1) := by decide +kernel
theorem dX0_balanceHeat_152 : decode cX0_balanceHeat 152 = .ok (.getfield 226, 3) := by decide +kernel
theorem dX0_balanceHeat_155 : decode cX0_balanceHeat 155 = .ok (.invokevirtual 152, 3) := by decide +kernel
theorem dX0_balanceHeat_158 : decode cX0_balanceHeat 158 = .ok (.ifCond .eq 25, 3) := by decide +kernel
theorem dX0_balanceHeat_161 : decode cX0_balanceHeat 161 = .ok (.aload_n 0, 1) := by decide +kernel
theorem dX0_balanceHeat_162 : decode cX0_balanceHeat 162 = .ok (.getfield 11, 3) := by decide +kernel
theorem dX0_balanceHeat_165 : decode cX0_balanceHeat 165 = .ok (.aload_n 3, 1) := by decide +kernel
theorem dX0_balanceHeat_166 : decode cX0_balanceHeat 166 = .ok (.getfield 226, 3) := by decide +kernel
theorem dX0_balanceHeat_169 : decode cX0_balanceHeat 169 = .ok (.aaload, 1) := by decide +kernel
theorem dX0_balanceHeat_170 : decode cX0_balanceHeat 170 = .ok (.dup, 1) := by decide +kernel
theorem dX0_balanceHeat_171 : decode cX0_balanceHeat 171 = .ok (.getfield 283, 3) := by decide +kernel
theorem dX0_balanceHeat_174 : decode cX0_balanceHeat 174 = .ok (.aload_n 3, 1) := by decide +kernel
theorem dX0_balanceHeat_175 : decode cX0_balanceHeat 175 = .ok (.getfield 181, 3) := by decide +kernel
theorem dX0_balanceHeat_178 : decode cX0_balanceHeat 178 = .ok (.i2l, 1) := by decide +kernel
theorem dX0_balanceHeat_179 : decode cX0_balanceHeat 179 = .ok (.ladd, 1) := by decide +kernel
theorem dX0_balanceHeat_180 : decode cX0_balanceHeat 180 = .ok (.putfield 283, 3) := by decide +kernel
theorem dX0_balanceHeat_183 : decode cX0_balanceHeat 183 = .ok (.iinc 2 1, 3) := by decide +kernel
theorem dX0_balanceHeat_186 : decode cX0_balanceHeat 186 = .ok (.goto (-59), 3) := by decide +kernel
theorem dX0_balanceHeat_189 : decode cX0_balanceHeat 189 = .ok (.iconst 0, 1) := by decide +kernel
theorem dX0_balanceHeat_190 : decode cX0_balanceHeat 190 = .ok (.istore_n 2, 1) := by decide +kernel
theorem dX0_balanceHeat_191 : decode cX0_balanceHeat 191 = .ok (.iload_n 2, 1) := by decide +kernel
theorem dX0_balanceHeat_192 : decode cX0_balanceHeat 192 = .ok (.aload_n 0, 1) := by decide +kernel
theorem dX0_balanceHeat_193 : decode cX0_balanceHeat 193 = .ok (.getfield 82, 3) := by decide +kernel
theorem dX0_balanceHeat_196 : decode cX0_balanceHeat 196 = .ok (.if_icmp .ge 19, 3) := by decide +kernel
theorem dX0_balanceHeat_199 : decode cX0_balanceHeat 199 = .ok (.aload_n 0, 1) := by decide +kernel
theorem dX0_balanceHeat_200 : decode cX0_balanceHeat 200 = .ok (.aload_n 0, 1) := by decide +kernel
theorem dX0_balanceHeat_201 : decode cX0_balanceHeat 201 = .ok (.getfield 19, 3) := by decide +kernel
theorem dX0_balanceHeat_204 : decode cX0_balanceHeat 204 = .ok (.iload_n 2, 1) := by decide +kernel
theorem dX0_balanceHeat_205 : decode cX0_balanceHeat 205 = .ok (.aaload, 1) := by decide +kernel
theorem dX0_balanceHeat_206 : decode cX0_balanceHeat 206 = .ok (.invokevirtual 289, 3) := by decide +kernel
theorem dX0_balanceHeat_209 : decode cX0_balanceHeat 209 = .ok (.iinc 2 1, 3) := by decide +kernel
theorem dX0_balanceHeat_212 : decode cX0_balanceHeat 212 = .ok (.goto (-21), 3) := by decide +kernel
theorem dX0_balanceHeat_215 : decode cX0_balanceHeat 215 = .ok (.iconst 0, 1) := by decide +kernel
theorem dX0_balanceHeat_216 : decode cX0_balanceHeat 216 = .ok (.istore_n 2, 1) := by decide +kernel
theorem dX0_balanceHeat_217 : decode cX0_balanceHeat 217 = .ok (.iload_n 2, 1) := by decide +kernel
theorem dX0_balanceHeat_218 : decode cX0_balanceHeat 218 = .ok (.aload_n 0, 1) := by decide +kernel
theorem dX0_balanceHeat_219 : decode cX0_balanceHeat 219 = .ok (.getfield 75, 3) := by decide +kernel
theorem dX0_balanceHeat_222 : decode cX0_balanceHeat 222 = .ok (.if_icmp .ge 18, 3) := by decide +kernel
theorem dX0_balanceHeat_225 : decode cX0_balanceHeat 225 = .ok (.aload_n 0, 1) := by decide +kernel
theorem dX0_balanceHeat_226 : decode cX0_balanceHeat 226 = .ok (.getfield 11, 3) := by decide +kernel
theorem dX0_balanceHeat_229 : decode cX0_balanceHeat 229 = .ok (.iload_n 2, 1) := by decide +kernel
theorem dX0_balanceHeat_230 : decode cX0_balanceHeat 230 = .ok (.aaload, 1) := by decide +kernel
theorem dX0_balanceHeat_231 : decode cX0_balanceHeat 231 = .ok (.invokevirtual 292, 3) := by decide +kernel
theorem dX0_balanceHeat_234 : decode cX0_balanceHeat 234 = .ok (.iinc 2 1, 3) := by decide +kernel
theorem dX0_balanceHeat_237 : decode cX0_balanceHeat 237 = .ok (.goto (-20), 3) := by decide +kernel
theorem dX0_balanceHeat_240 : decode cX0_balanceHeat 240 = .ok (.return_, 1) := by decide +kernel
theorem dX0_conductThrough_0 : decode cX0_conductThrough 0 = .ok (.aload_n 0, 1) := by decide +kernel
theorem dX0_conductThrough_1 : decode cX0_conductThrough 1 = .ok (.aload_n 1, 1) := by decide +kernel
theorem dX0_conductThrough_2 : decode cX0_conductThrough 2 = .ok (.getfield 115, 3) := by decide +kernel
theorem dX0_conductThrough_5 : decode cX0_conductThrough 5 = .ok (.invokevirtual 152, 3) := by decide +kernel
theorem dX0_conductThrough_8 : decode cX0_conductThrough 8 = .ok (.ifCond .eq 78, 3) := by decide +kernel
theorem dX0_conductThrough_11 : decode cX0_conductThrough 11 = .ok (.aload_n 0, 1) := by decide +kernel
theorem dX0_conductThrough_12 : decode cX0_conductThrough 12 = .ok (.aload_n 1, 1) := by decide +kernel
theorem dX0_conductThrough_13 : decode cX0_conductThrough 13 = .ok (.getfield 118, 3) := by decide +kernel
theorem dX0_conductThrough_16 : decode cX0_conductThrough 16 = .ok (.invokevirtual 152, 3) := by decide +kernel
theorem dX0_conductThrough_19 : decode cX0_conductThrough 19 = .ok (.ifCond .eq 67, 3) := by decide +kernel
theorem dX0_conductThrough_22 : decode cX0_conductThrough 22 = .ok (.aload_n 0, 1) := by decide +kernel
theorem dX0_conductThrough_23 : decode cX0_conductThrough 23 = .ok (.getfield 11, 3) := by decide +kernel
theorem dX0_conductThrough_26 : decode cX0_conductThrough 26 = .ok (.aload_n 1, 1) := by decide +kernel
theorem dX0_conductThrough_27 : decode cX0_conductThrough 27 = .ok (.getfield 115, 3) := by decide +kernel
theorem dX0_conductThrough_30 : decode cX0_conductThrough 30 = .ok (.aaload, 1) := by decide +kernel
theorem dX0_conductThrough_31 : decode cX0_conductThrough 31 = .ok (.astore_n 2, 1) := by decide +kernel
theorem dX0_conductThrough_32 : decode cX0_conductThrough 32 = .ok (.aload_n 0, 1) := by decide +kernel
theorem dX0_conductThrough_33 : decode cX0_conductThrough 33 = .ok (.getfield 11, 3) := by decide +kernel
theorem dX0_conductThrough_36 : decode cX0_conductThrough 36 = .ok (.aload_n 1, 1) := by decide +kernel
theorem dX0_conductThrough_37 : decode cX0_conductThrough 37 = .ok (.getfield 118, 3) := by decide +kernel
theorem dX0_conductThrough_40 : decode cX0_conductThrough 40 = .ok (.aaload, 1) := by decide +kernel
theorem dX0_conductThrough_41 : decode cX0_conductThrough 41 = .ok (.astore_n 3, 1) := by decide +kernel
theorem dX0_conductThrough_42 : decode cX0_conductThrough 42 = .ok (.aload_n 1, 1) := by decide +kernel
theorem dX0_conductThrough_43 : decode cX0_conductThrough 43 = .ok (.getfield 295, 3) := by decide +kernel
theorem dX0_conductThrough_46 : decode cX0_conductThrough 46 = .ok (.i2l, 1) := by decide +kernel
theorem dX0_conductThrough_47 : decode cX0_conductThrough 47 = .ok (.aload_n 3, 1) := by decide +kernel
theorem dX0_conductThrough_48 : decode cX0_conductThrough 48 = .ok (.getfield 156, 3) := by decide +kernel
theorem dX0_conductThrough_51 : decode cX0_conductThrough 51 = .ok (.aload_n 2, 1) := by decide +kernel
theorem dX0_conductThrough_52 : decode cX0_conductThrough 52 = .ok (.getfield 156, 3) := by decide +kernel
theorem dX0_conductThrough_55 : decode cX0_conductThrough 55 = .ok (.isub, 1) := by decide +kernel
theorem dX0_conductThrough_56 : decode cX0_conductThrough 56 = .ok (.i2l, 1) := by decide +kernel
theorem dX0_conductThrough_57 : decode cX0_conductThrough 57 = .ok (.lmul, 1) := by decide +kernel
theorem dX0_conductThrough_58 : decode cX0_conductThrough 58 = .ok (.ldc2_w 169, 3) := by decide +kernel
theorem dX0_conductThrough_61 : decode cX0_conductThrough 61 = .ok (.ldiv, 1) := by decide +kernel
theorem dX0_conductThrough_62 : decode cX0_conductThrough 62 = .ok (.lstore 4, 2) := by decide +kernel
theorem dX0_conductThrough_64 : decode cX0_conductThrough 64 = .ok (.aload_n 2, 1) := by decide +kernel
theorem dX0_conductThrough_65 : decode cX0_conductThrough 65 = .ok (.dup, 1) := by decide +kernel
theorem dX0_conductThrough_66 : decode cX0_conductThrough 66 = .ok (.getfield 280, 3) := by decide +kernel
theorem dX0_conductThrough_69 : decode cX0_conductThrough 69 = .ok (.lload 4, 2) := by decide +kernel
theorem dX0_conductThrough_71 : decode cX0_conductThrough 71 = .ok (.ladd, 1) := by decide +kernel
theorem dX0_conductThrough_72 : decode cX0_conductThrough 72 = .ok (.putfield 280, 3) := by decide +kernel
theorem dX0_conductThrough_75 : decode cX0_conductThrough 75 = .ok (.aload_n 3, 1) := by decide +kernel
theorem dX0_conductThrough_76 : decode cX0_conductThrough 76 = .ok (.dup, 1) := by decide +kernel
theorem dX0_conductThrough_77 : decode cX0_conductThrough 77 = .ok (.getfield 280, 3) := by decide +kernel
theorem dX0_conductThrough_80 : decode cX0_conductThrough 80 = .ok (.lload 4, 2) := by decide +kernel
theorem dX0_conductThrough_82 : decode cX0_conductThrough 82 = .ok (.lsub, 1) := by decide +kernel
theorem dX0_conductThrough_83 : decode cX0_conductThrough 83 = .ok (.putfield 280, 3) := by decide +kernel
theorem dX0_conductThrough_86 : decode cX0_conductThrough 86 = .ok (.return_, 1) := by decide +kernel
theorem dX0_warmNodes_0 : decode cX0_warmNodes 0 = .ok (.iconst 0, 1) := by decide +kernel
theorem dX0_warmNodes_1 : decode cX0_warmNodes 1 = .ok (.istore_n 1, 1) := by decide +kernel
theorem dX0_warmNodes_2 : decode cX0_warmNodes 2 = .ok (.iload_n 1, 1) := by decide +kernel
theorem dX0_warmNodes_3 : decode cX0_warmNodes 3 = .ok (.aload_n 0, 1) := by decide +kernel
theorem dX0_warmNodes_4 : decode cX0_warmNodes 4 = .ok (.getfield 75, 3) := by decide +kernel
theorem dX0_warmNodes_7 : decode cX0_warmNodes 7 = .ok (.if_icmp .ge 68, 3) := by decide +kernel
theorem dX0_warmNodes_10 : decode cX0_warmNodes 10 = .ok (.aload_n 0, 1) := by decide +kernel
theorem dX0_warmNodes_11 : decode cX0_warmNodes 11 = .ok (.getfield 11, 3) := by decide +kernel
theorem dX0_warmNodes_14 : decode cX0_warmNodes 14 = .ok (.iload_n 1, 1) := by decide +kernel
theorem dX0_warmNodes_15 : decode cX0_warmNodes 15 = .ok (.aaload, 1) := by decide +kernel
theorem dX0_warmNodes_16 : decode cX0_warmNodes 16 = .ok (.astore_n 2, 1) := by decide +kernel
theorem dX0_warmNodes_17 : decode cX0_warmNodes 17 = .ok (.aload_n 0, 1) := by decide +kernel
theorem dX0_warmNodes_18 : decode cX0_warmNodes 18 = .ok (.getfield 56, 3) := by decide +kernel
theorem dX0_warmNodes_21 : decode cX0_warmNodes 21 = .ok (.dup, 1) := by decide +kernel
theorem dX0_warmNodes_22 : decode cX0_warmNodes 22 = .ok (.getfield 298, 3) := by decide +kernel
theorem dX0_warmNodes_25 : decode cX0_warmNodes 25 = .ok (.aload_n 0, 1) := by decide +kernel
theorem dX0_warmNodes_26 : decode cX0_warmNodes 26 = .ok (.getfield 67, 3) := by decide +kernel
theorem dX0_warmNodes_29 : decode cX0_warmNodes 29 = .ok (.i2l, 1) := by decide +kernel
theorem dX0_warmNodes_30 : decode cX0_warmNodes 30 = .ok (.aload_n 2, 1) := by decide +kernel
theorem dX0_warmNodes_31 : decode cX0_warmNodes 31 = .ok (.getfield 301, 3) := by decide +kernel
theorem dX0_warmNodes_34 : decode cX0_warmNodes 34 = .ok (.lmul, 1) := by decide +kernel
theorem dX0_warmNodes_35 : decode cX0_warmNodes 35 = .ok (.ladd, 1) := by decide +kernel
theorem dX0_warmNodes_36 : decode cX0_warmNodes 36 = .ok (.putfield 298, 3) := by decide +kernel
theorem dX0_warmNodes_39 : decode cX0_warmNodes 39 = .ok (.aload_n 0, 1) := by decide +kernel
theorem dX0_warmNodes_40 : decode cX0_warmNodes 40 = .ok (.getfield 56, 3) := by decide +kernel
theorem dX0_warmNodes_43 : decode cX0_warmNodes 43 = .ok (.dup, 1) := by decide +kernel
theorem dX0_warmNodes_44 : decode cX0_warmNodes 44 = .ok (.getfield 302, 3) := by decide +kernel
theorem dX0_warmNodes_47 : decode cX0_warmNodes 47 = .ok (.aload_n 0, 1) := by decide +kernel
theorem dX0_warmNodes_48 : decode cX0_warmNodes 48 = .ok (.getfield 67, 3) := by decide +kernel
theorem dX0_warmNodes_51 : decode cX0_warmNodes 51 = .ok (.i2l, 1) := by decide +kernel
theorem dX0_warmNodes_52 : decode cX0_warmNodes 52 = .ok (.aload_n 2, 1) := by decide +kernel
theorem dX0_warmNodes_53 : decode cX0_warmNodes 53 = .ok (.getfield 277, 3) := by decide +kernel
theorem dX0_warmNodes_56 : decode cX0_warmNodes 56 = .ok (.lmul, 1) := by decide +kernel
theorem dX0_warmNodes_57 : decode cX0_warmNodes 57 = .ok (.ladd, 1) := by decide +kernel
theorem dX0_warmNodes_58 : decode cX0_warmNodes 58 = .ok (.putfield 302, 3) := by decide +kernel
theorem dX0_warmNodes_61 : decode cX0_warmNodes 61 = .ok (.aload_n 2, 1) := by decide +kernel
theorem dX0_warmNodes_62 : decode cX0_warmNodes 62 = .ok (.aload_n 0, 1) := by decide +kernel
theorem dX0_warmNodes_63 : decode cX0_warmNodes 63 = .ok (.getfield 67, 3) := by decide +kernel
theorem dX0_warmNodes_66 : decode cX0_warmNodes 66 = .ok (.invokevirtual 303, 3) := by decide +kernel
theorem dX0_warmNodes_69 : decode cX0_warmNodes 69 = .ok (.iinc 1 1, 3) := by decide +kernel
theorem dX0_warmNodes_72 : decode cX0_warmNodes 72 = .ok (.goto (-70), 3) := by decide +kernel
theorem dX0_warmNodes_75 : decode cX0_warmNodes 75 = .ok (.return_, 1) := by decide +kernel
theorem dX0_recordTemperatures_0 : decode cX0_recordTemperatures 0 = .ok (.iconst 0, 1) := by decide +kernel
theorem dX0_recordTemperatures_1 : decode cX0_recordTemperatures 1 = .ok (.istore_n 1, 1) := by decide +kernel
theorem dX0_recordTemperatures_2 : decode cX0_recordTemperatures 2 = .ok (.iconst 0, 1) := by decide +kernel
theorem dX0_recordTemperatures_3 : decode cX0_recordTemperatures 3 = .ok (.istore_n 2, 1) := by decide +kernel
theorem dX0_recordTemperatures_4 : decode cX0_recordTemperatures 4 = .ok (.iload_n 2, 1) := by decide +kernel
theorem dX0_recordTemperatures_5 : decode cX0_recordTemperatures 5 = .ok (.aload_n 0, 1) := by decide +kernel
theorem dX0_recordTemperatures_6 : decode cX0_recordTemperatures 6 = .ok (.getfield 75, 3) := by decide +kernel
theorem dX0_recordTemperatures_9 : decode cX0_recordTemperatures 9 = .ok (.if_icmp .ge 88, 3) := by decide +kernel
theorem dX0_recordTemperatures_12 : decode cX0_recordTemperatures 12 = .ok (.aload_n 0, 1) := by decide +kernel
theorem dX0_recordTemperatures_13 : decode cX0_recordTemperatures 13 = .ok (.getfield 11, 3) := by decide +kernel
theorem dX0_recordTemperatures_16 : decode cX0_recordTemperatures 16 = .ok (.iload_n 2, 1) := by decide +kernel
theorem dX0_recordTemperatures_17 : decode cX0_recordTemperatures 17 = .ok (.aaload, 1) := by decide +kernel
theorem dX0_recordTemperatures_18 : decode cX0_recordTemperatures 18 = .ok (.astore_n 3, 1) := by decide +kernel
theorem dX0_recordTemperatures_19 : decode cX0_recordTemperatures 19 = .ok (.aload_n 3, 1) := by decide +kernel
theorem dX0_recordTemperatures_20 : decode cX0_recordTemperatures 20 = .ok (.aload_n 3, 1) := by decide +kernel
theorem dX0_recordTemperatures_21 : decode cX0_recordTemperatures 21 = .ok (.getfield 306, 3) := by decide +kernel
theorem dX0_recordTemperatures_24 : decode cX0_recordTemperatures 24 = .ok (.aload_n 3, 1) := by decide +kernel
theorem dX0_recordTemperatures_25 : decode cX0_recordTemperatures 25 = .ok (.getfield 156, 3) := by decide +kernel
theorem dX0_recordTemperatures_28 : decode cX0_recordTemperatures 28 = .ok (.invokestatic 309, 3) := by decide +kernel
theorem dX0_recordTemperatures_31 : decode cX0_recordTemperatures 31 = .ok (.putfield 306, 3) := by decide +kernel
theorem dX0_recordTemperatures_34 : decode cX0_recordTemperatures 34 = .ok (.aload_n 3, 1) := by decide +kernel
theorem dX0_recordTemperatures_35 : decode cX0_recordTemperatures 35 = .ok (.aload_n 3, 1) := by decide +kernel
theorem dX0_recordTemperatures_36 : decode cX0_recordTemperatures 36 = .ok (.getfield 313, 3) := by decide +kernel
theorem dX0_recordTemperatures_39 : decode cX0_recordTemperatures 39 = .ok (.aload_n 3, 1) := by decide +kernel
theorem dX0_recordTemperatures_40 : decode cX0_recordTemperatures 40 = .ok (.getfield 156, 3) := by decide +kernel
theorem dX0_recordTemperatures_43 : decode cX0_recordTemperatures 43 = .ok (.invokestatic 316, 3) := by decide +kernel
theorem dX0_recordTemperatures_46 : decode cX0_recordTemperatures 46 = .ok (.putfield 313, 3) := by decide +kernel
theorem dX0_recordTemperatures_49 : decode cX0_recordTemperatures 49 = .ok (.aload_n 3, 1) := by decide +kernel
theorem dX0_recordTemperatures_50 : decode cX0_recordTemperatures 50 = .ok (.invokevirtual 318, 3) := by decide +kernel
theorem dX0_recordTemperatures_53 : decode cX0_recordTemperatures 53 = .ok (.ifCond .eq 38, 3) := by decide +kernel
theorem dX0_recordTemperatures_56 : decode cX0_recordTemperatures 56 = .ok (.iconst 1, 1) := by decide +kernel
theorem dX0_recordTemperatures_57 : decode cX0_recordTemperatures 57 = .ok (.istore_n 1, 1) := by decide +kernel
theorem dX0_recordTemperatures_58 : decode cX0_recordTemperatures 58 = .ok (.aload_n 3, 1) := by decide +kernel
theorem dX0_recordTemperatures_59 : decode cX0_recordTemperatures 59 = .ok (.getfield 321, 3) := by decide +kernel
theorem dX0_recordTemperatures_62 : decode cX0_recordTemperatures 62 = .ok (.ifCond .ne 19, 3) := by decide +kernel
theorem dX0_recordTemperatures_65 : decode cX0_recordTemperatures 65 = .ok (.aload_n 3, 1) := by decide +kernel
theorem dX0_recordTemperatures_66 : decode cX0_recordTemperatures 66 = .ok (.aload_n 0, 1) := by decide +kernel
theorem dX0_recordTemperatures_67 : decode cX0_recordTemperatures 67 = .ok (.getfield 112, 3) := by decide +kernel
theorem dX0_recordTemperatures_70 : decode cX0_recordTemperatures 70 = .ok (.putfield 324, 3) := by decide +kernel
theorem dX0_recordTemperatures_73 : decode cX0_recordTemperatures 73 = .ok (.aload_n 0, 1) := by decide +kernel
theorem dX0_recordTemperatures_74 : decode cX0_recordTemperatures 74 = .ok (.getfield 56, 3) := by decide +kernel
theorem dX0_recordTemperatures_77 : decode cX0_recordTemperatures 77 = .ok (.iload_n 2, 1) := by decide +kernel
theorem dX0_recordTemperatures_78 : decode cX0_recordTemperatures 78 = .ok (.invokevirtual 327, 3) := by decide +kernel
theorem dX0_recordTemperatures_81 : decode cX0_recordTemperatures 81 = .ok (.aload_n 3, 1) := by decide +kernel
theorem dX0_recordTemperatures_82 : decode cX0_recordTemperatures 82 = .ok (.dup, 1) := by decide +kernel
theorem dX0_recordTemperatures_83 : decode cX0_recordTemperatures 83 = .ok (.getfield 321, 3) := by decide +kernel
theorem dX0_recordTemperatures_86 : decode cX0_recordTemperatures 86 = .ok (.iconst 1, 1) := by decide +kernel
theorem dX0_recordTemperatures_87 : decode cX0_recordTemperatures 87 = .ok (.iadd, 1) := by decide +kernel
theorem dX0_recordTemperatures_88 : decode cX0_recordTemperatures 88 = .ok (.putfield 321, 3) := by decide +kernel
theorem dX0_recordTemperatures_91 : decode cX0_recordTemperatures 91 = .ok (.iinc 2 1, 3) := by decide +kernel
theorem dX0_recordTemperatures_94 : decode cX0_recordTemperatures 94 = .ok (.goto (-90), 3) := by decide +kernel
theorem dX0_recordTemperatures_97 : decode cX0_recordTemperatures 97 = .ok (.iload_n 1, 1) := by decide +kernel
theorem dX0_recordTemperatures_98 : decode cX0_recordTemperatures 98 = .ok (.ireturn, 1) := by decide +kernel
theorem dX1_init_0 : decode cX1_init 0 = .ok (.aload_n 0, 1) := by decide +kernel
theorem dX1_init_1 : decode cX1_init 1 = .ok (.invokespecial 3, 3) := by decide +kernel
theorem dX1_init_4 : decode cX1_init 4 = .ok (.return_, 1) := by decide +kernel
theorem dX1_begin_0 : decode cX1_begin 0 = .ok (.aload_n 0, 1) := by decide +kernel
theorem dX1_begin_1 : decode cX1_begin 1 = .ok (.iload_n 1, 1) := by decide +kernel
theorem dX1_begin_2 : decode cX1_begin 2 = .ok (.putfield 9, 3) := by decide +kernel
theorem dX1_begin_5 : decode cX1_begin 5 = .ok (.aload_n 0, 1) := by decide +kernel
theorem dX1_begin_6 : decode cX1_begin 6 = .ok (.iload_n 2, 1) := by decide +kernel
theorem dX1_begin_7 : decode cX1_begin 7 = .ok (.putfield 15, 3) := by decide +kernel
theorem dX1_begin_10 : decode cX1_begin 10 = .ok (.aload_n 0, 1) := by decide +kernel
theorem dX1_begin_11 : decode cX1_begin 11 = .ok (.iload_n 3, 1) := by decide +kernel
theorem dX1_begin_12 : decode cX1_begin 12 = .ok (.putfield 18, 3) := by decide +kernel
theorem dX1_begin_15 : decode cX1_begin 15 = .ok (.aload_n 0, 1) := by decide +kernel
theorem dX1_begin_16 : decode cX1_begin 16 = .ok (.iload 4, 2) := by decide +kernel
theorem dX1_begin_18 : decode cX1_begin 18 = .ok (.putfield 21, 3) := by decide +kernel
theorem dX1_begin_21 : decode cX1_begin 21 = .ok (.aload_n 0, 1) := by decide +kernel
theorem dX1_begin_22 : decode cX1_begin 22 = .ok (.iload 5, 2) := by decide +kernel
theorem dX1_begin_24 : decode cX1_begin 24 = .ok (.putfield 24, 3) := by decide +kernel
theorem dX1_begin_27 : decode cX1_begin 27 = .ok (.aload_n 0, 1) := by decide +kernel
theorem dX1_begin_28 : decode cX1_begin 28 = .ok (.iconst 0, 1) := by decide +kernel
theorem dX1_begin_29 : decode cX1_begin 29 = .ok (.putfield 27, 3) := by decide +kernel
theorem dX1_begin_32 : decode cX1_begin 32 = .ok (.aload_n 0, 1) := by decide +kernel
theorem dX1_begin_33 : decode cX1_begin 33 = .ok (.iconst 0, 1) := by decide +kernel
theorem dX1_begin_34 : decode cX1_begin 34 = .ok (.putfield 30, 3) := by decide +kernel
theorem dX1_begin_37 : decode cX1_begin 37 = .ok (.aload_n 0, 1) := by decide +kernel
theorem dX1_begin_38 : decode cX1_begin 38 = .ok (.iconst 0, 1) := by decide +kernel
theorem dX1_begin_39 : decode cX1_begin 39 = .ok (.putfield 34, 3) := by decide +kernel
theorem dX1_begin_42 : decode cX1_begin 42 = .ok (.return_, 1) := by decide +kernel
theorem dX1_copyFrom_0 : decode cX1_copyFrom 0 = .ok (.aload_n 0, 1) := by decide +kernel
theorem dX1_copyFrom_1 : decode cX1_copyFrom 1 = .ok (.aload_n 1, 1) := by decide +kernel
theorem dX1_copyFrom_2 : decode cX1_copyFrom 2 = .ok (.getfield 9, 3) := by decide +kernel
theorem dX1_copyFrom_5 : decode cX1_copyFrom 5 = .ok (.aload_n 1, 1) := by decide +kernel
theorem dX1_copyFrom_6 : decode cX1_copyFrom 6 = .ok (.getfield 15, 3) := by decide +kernel
theorem dX1_copyFrom_9 : decode cX1_copyFrom 9 = .ok (.aload_n 1, 1) := by decide +kernel
theorem dX1_copyFrom_10 : decode cX1_copyFrom 10 = .ok (.getfield 18, 3) := by decide +kernel
theorem dX1_copyFrom_13 : decode cX1_copyFrom 13 = .ok (.aload_n 1, 1) := by decide +kernel
theorem dX1_copyFrom_14 : decode cX1_copyFrom 14 = .ok (.getfield 21, 3) := by decide +kernel
theorem dX1_copyFrom_17 : decode cX1_copyFrom 17 = .ok (.aload_n 1, 1) := by decide +kernel
theorem dX1_copyFrom_18 : decode cX1_copyFrom 18 = .ok (.getfield 24, 3) := by decide +kernel
theorem dX1_copyFrom_21 : decode cX1_copyFrom 21 = .ok (.invokevirtual 37, 3) := by decide +kernel
theorem dX1_copyFrom_24 : decode cX1_copyFrom 24 = .ok (.aload_n 0, 1) := by decide +kernel
theorem dX1_copyFrom_25 : decode cX1_copyFrom 25 = .ok (.aload_n 1, 1) := by decide +kernel
theorem dX1_copyFrom_26 : decode cX1_copyFrom 26 = .ok (.getfield 27, 3) := by decide +kernel
theorem dX1_copyFrom_29 : decode cX1_copyFrom 29 = .ok (.putfield 27, 3) := by decide +kernel
theorem dX1_copyFrom_32 : decode cX1_copyFrom 32 = .ok (.aload_n 0, 1) := by decide +kernel
theorem dX1_copyFrom_33 : decode cX1_copyFrom 33 = .ok (.aload_n 1, 1) := by decide +kernel
theorem dX1_copyFrom_34 : decode cX1_copyFrom 34 = .ok (.getfield 30, 3) := by decide +kernel
theorem dX1_copyFrom_37 : decode cX1_copyFrom 37 = .ok (.putfield 30, 3) := by decide +kernel
theorem dX1_copyFrom_40 : decode cX1_copyFrom 40 = .ok (.aload_n 0, 1) := by decide +kernel
theorem dX1_copyFrom_41 : decode cX1_copyFrom 41 = .ok (.aload_n 1, 1) := by decide +kernel
theorem dX1_copyFrom_42 : decode cX1_copyFrom 42 = .ok (.getfield 34, 3) := by decide +kernel
theorem dX1_copyFrom_45 : decode cX1_copyFrom 45 = .ok (.putfield 34, 3) := by decide +kernel
theorem dX1_copyFrom_48 : decode cX1_copyFrom 48 = .ok (.return_, 1) := by decide +kernel
theorem dX1_decideWish_0 : decode cX1_decideWish 0 = .ok (.aload_n 0, 1) := by decide +kernel
theorem dX1_decideWish_1 : decode cX1_decideWish 1 = .ok (.getfield 27, 3) := by decide +kernel
theorem dX1_decideWish_4 : decode cX1_decideWish 4 = .ok (.iconst 1, 1) := by decide +kernel
theorem dX1_decideWish_5 : decode cX1_decideWish 5 = .ok (.if_icmp .ne 11, 3) := by decide +kernel
theorem dX1_decideWish_8 : decode cX1_decideWish 8 = .ok (.aload_n 0, 1) := by decide +kernel
theorem dX1_decideWish_9 : decode cX1_decideWish 9 = .ok (.iconst 1, 1) := by decide +kernel
theorem dX1_decideWish_10 : decode cX1_decideWish 10 = .ok (.putfield 30, 3) := by decide +kernel
theorem dX1_decideWish_13 : decode cX1_decideWish 13 = .ok (.goto 48, 3) := by decide +kernel
theorem dX1_decideWish_16 : decode cX1_decideWish 16 = .ok (.aload_n 0, 1) := by decide +kernel
theorem dX1_decideWish_17 : decode cX1_decideWish 17 = .ok (.getfield 27, 3) := by decide +kernel
theorem dX1_decideWish_20 : decode cX1_decideWish 20 = .ok (.iconst 2, 1) := by decide +kernel
theorem dX1_decideWish_21 : decode cX1_decideWish 21 = .ok (.if_icmp .ne 11, 3) := by decide +kernel
theorem dX1_decideWish_24 : decode cX1_decideWish 24 = .ok (.aload_n 0, 1) := by decide +kernel
theorem dX1_decideWish_25 : decode cX1_decideWish 25 = .ok (.iconst 0, 1) := by decide +kernel
theorem dX1_decideWish_26 : decode cX1_decideWish 26 = .ok (.putfield 30, 3) := by decide +kernel
theorem dX1_decideWish_29 : decode cX1_decideWish 29 = .ok (.goto 32, 3) := by decide +kernel
theorem dX1_decideWish_32 : decode cX1_decideWish 32 = .ok (.iload_n 1, 1) := by decide +kernel
theorem dX1_decideWish_33 : decode cX1_decideWish 33 = .ok (.aload_n 0, 1) := by decide +kernel
theorem dX1_decideWish_34 : decode cX1_decideWish 34 = .ok (.getfield 18, 3) := by decide +kernel
theorem dX1_decideWish_37 : decode cX1_decideWish 37 = .ok (.if_icmp .ge 11, 3) := by decide +kernel
theorem dX1_decideWish_40 : decode cX1_decideWish 40 = .ok (.aload_n 0, 1) := by decide +kernel
theorem dX1_decideWish_41 : decode cX1_decideWish 41 = .ok (.iconst 1, 1) := by decide +kernel
theorem dX1_decideWish_42 : decode cX1_decideWish 42 = .ok (.putfield 30, 3) := by decide +kernel
theorem dX1_decideWish_45 : decode cX1_decideWish 45 = .ok (.goto 16, 3) := by decide +kernel
theorem dX1_decideWish_48 : decode cX1_decideWish 48 = .ok (.iload_n 1, 1) := by decide +kernel
theorem dX1_decideWish_49 : decode cX1_decideWish 49 = .ok (.aload_n 0, 1) := by decide +kernel
theorem dX1_decideWish_50 : decode cX1_decideWish 50 = .ok (.getfield 21, 3) := by decide +kernel
theorem dX1_decideWish_53 : decode cX1_decideWish 53 = .ok (.if_icmp .le 8, 3) := by decide +kernel
theorem dX1_decideWish_56 : decode cX1_decideWish 56 = .ok (.aload_n 0, 1) := by decide +kernel
theorem dX1_decideWish_57 : decode cX1_decideWish 57 = .ok (.iconst 0, 1) := by decide +kernel
theorem dX1_decideWish_58 : decode cX1_decideWish 58 = .ok (.putfield 30, 3) := by decide +kernel
theorem dX1_decideWish_61 : decode cX1_decideWish 61 = .ok (.return_, 1) := by decide +kernel
theorem dX2_init_0 : decode cX2_init 0 = .ok (.aload_n 0, 1) := by decide +kernel
theorem dX2_init_1 : decode cX2_init 1 = .ok (.invokespecial 1, 3) := by decide +kernel
theorem dX2_init_4 : decode cX2_init 4 = .ok (.return_, 1) := by decide +kernel
theorem dX2_begin_0 : decode cX2_begin 0 = .ok (.aload_n 0, 1) := by decide +kernel
theorem dX2_begin_1 : decode cX2_begin 1 = .ok (.iload_n 1, 1) := by decide +kernel
theorem dX2_begin_2 : decode cX2_begin 2 = .ok (.putfield 7, 3) := by decide +kernel
theorem dX2_begin_5 : decode cX2_begin 5 = .ok (.aload_n 0, 1) := by decide +kernel
theorem dX2_begin_6 : decode cX2_begin 6 = .ok (.iload_n 2, 1) := by decide +kernel
theorem dX2_begin_7 : decode cX2_begin 7 = .ok (.putfield 13, 3) := by decide +kernel
theorem dX2_begin_10 : decode cX2_begin 10 = .ok (.aload_n 0, 1) := by decide +kernel
theorem dX2_begin_11 : decode cX2_begin 11 = .ok (.iload_n 3, 1) := by decide +kernel
theorem dX2_begin_12 : decode cX2_begin 12 = .ok (.putfield 16, 3) := by decide +kernel
theorem dX2_begin_15 : decode cX2_begin 15 = .ok (.return_, 1) := by decide +kernel
theorem dX2_copyFrom_0 : decode cX2_copyFrom 0 = .ok (.aload_n 0, 1) := by decide +kernel
theorem dX2_copyFrom_1 : decode cX2_copyFrom 1 = .ok (.aload_n 1, 1) := by decide +kernel
theorem dX2_copyFrom_2 : decode cX2_copyFrom 2 = .ok (.getfield 7, 3) := by decide +kernel
theorem dX2_copyFrom_5 : decode cX2_copyFrom 5 = .ok (.aload_n 1, 1) := by decide +kernel
theorem dX2_copyFrom_6 : decode cX2_copyFrom 6 = .ok (.getfield 13, 3) := by decide +kernel
theorem dX2_copyFrom_9 : decode cX2_copyFrom 9 = .ok (.aload_n 1, 1) := by decide +kernel
theorem dX2_copyFrom_10 : decode cX2_copyFrom 10 = .ok (.getfield 16, 3) := by decide +kernel
theorem dX2_copyFrom_13 : decode cX2_copyFrom 13 = .ok (.invokevirtual 19, 3) := by decide +kernel
theorem dX2_copyFrom_16 : decode cX2_copyFrom 16 = .ok (.return_, 1) := by decide +kernel
theorem dX3_init_0 : decode cX3_init 0 = .ok (.aload_n 0, 1) := by decide +kernel
theorem dX3_init_1 : decode cX3_init 1 = .ok (.invokespecial 1, 3) := by decide +kernel
theorem dX3_init_4 : decode cX3_init 4 = .ok (.return_, 1) := by decide +kernel
theorem dX3_begin_0 : decode cX3_begin 0 = .ok (.aload_n 0, 1) := by decide +kernel
theorem dX3_begin_1 : decode cX3_begin 1 = .ok (.iload_n 1, 1) := by decide +kernel
theorem dX3_begin_2 : decode cX3_begin 2 = .ok (.putfield 7, 3) := by decide +kernel
theorem dX3_begin_5 : decode cX3_begin 5 = .ok (.aload_n 0, 1) := by decide +kernel
theorem dX3_begin_6 : decode cX3_begin 6 = .ok (.iload_n 2, 1) := by decide +kernel
theorem dX3_begin_7 : decode cX3_begin 7 = .ok (.putfield 13, 3) := by decide +kernel
theorem dX3_begin_10 : decode cX3_begin 10 = .ok (.aload_n 0, 1) := by decide +kernel
theorem dX3_begin_11 : decode cX3_begin 11 = .ok (.iload_n 3, 1) := by decide +kernel
theorem dX3_begin_12 : decode cX3_begin 12 = .ok (.putfield 16, 3) := by decide +kernel
theorem dX3_begin_15 : decode cX3_begin 15 = .ok (.aload_n 0, 1) := by decide +kernel
theorem dX3_begin_16 : decode cX3_begin 16 = .ok (.iload 4, 2) := by decide +kernel
theorem dX3_begin_18 : decode cX3_begin 18 = .ok (.putfield 19, 3) := by decide +kernel
theorem dX3_begin_21 : decode cX3_begin 21 = .ok (.aload_n 0, 1) := by decide +kernel
theorem dX3_begin_22 : decode cX3_begin 22 = .ok (.iload 5, 2) := by decide +kernel
theorem dX3_begin_24 : decode cX3_begin 24 = .ok (.putfield 22, 3) := by decide +kernel
theorem dX3_begin_27 : decode cX3_begin 27 = .ok (.aload_n 0, 1) := by decide +kernel
theorem dX3_begin_28 : decode cX3_begin 28 = .ok (.iconst 0, 1) := by decide +kernel
theorem dX3_begin_29 : decode cX3_begin 29 = .ok (.putfield 25, 3) := by decide +kernel
theorem dX3_begin_32 : decode cX3_begin 32 = .ok (.aload_n 0, 1) := by decide +kernel
theorem dX3_begin_33 : decode cX3_begin 33 = .ok (.iconst 0, 1) := by decide +kernel
theorem dX3_begin_34 : decode cX3_begin 34 = .ok (.putfield 28, 3) := by decide +kernel
theorem dX3_begin_37 : decode cX3_begin 37 = .ok (.return_, 1) := by decide +kernel
theorem dX3_copyFrom_0 : decode cX3_copyFrom 0 = .ok (.aload_n 0, 1) := by decide +kernel
theorem dX3_copyFrom_1 : decode cX3_copyFrom 1 = .ok (.aload_n 1, 1) := by decide +kernel
theorem dX3_copyFrom_2 : decode cX3_copyFrom 2 = .ok (.getfield 7, 3) := by decide +kernel
theorem dX3_copyFrom_5 : decode cX3_copyFrom 5 = .ok (.aload_n 1, 1) := by decide +kernel
theorem dX3_copyFrom_6 : decode cX3_copyFrom 6 = .ok (.getfield 13, 3) := by decide +kernel
theorem dX3_copyFrom_9 : decode cX3_copyFrom 9 = .ok (.aload_n 1, 1) := by decide +kernel
theorem dX3_copyFrom_10 : decode cX3_copyFrom 10 = .ok (.getfield 16, 3) := by decide +kernel
theorem dX3_copyFrom_13 : decode cX3_copyFrom 13 = .ok (.aload_n 1, 1) := by decide +kernel
theorem dX3_copyFrom_14 : decode cX3_copyFrom 14 = .ok (.getfield 19, 3) := by decide +kernel
theorem dX3_copyFrom_17 : decode cX3_copyFrom 17 = .ok (.aload_n 1, 1) := by decide +kernel
theorem dX3_copyFrom_18 : decode cX3_copyFrom 18 = .ok (.getfield 22, 3) := by decide +kernel
theorem dX3_copyFrom_21 : decode cX3_copyFrom 21 = .ok (.invokevirtual 32, 3) := by decide +kernel
theorem dX3_copyFrom_24 : decode cX3_copyFrom 24 = .ok (.aload_n 0, 1) := by decide +kernel
theorem dX3_copyFrom_25 : decode cX3_copyFrom 25 = .ok (.aload_n 1, 1) := by decide +kernel
theorem dX3_copyFrom_26 : decode cX3_copyFrom 26 = .ok (.getfield 25, 3) := by decide +kernel
theorem dX3_copyFrom_29 : decode cX3_copyFrom 29 = .ok (.putfield 25, 3) := by decide +kernel
theorem dX3_copyFrom_32 : decode cX3_copyFrom 32 = .ok (.aload_n 0, 1) := by decide +kernel
theorem dX3_copyFrom_33 : decode cX3_copyFrom 33 = .ok (.aload_n 1, 1) := by decide +kernel
theorem dX3_copyFrom_34 : decode cX3_copyFrom 34 = .ok (.getfield 28, 3) := by decide +kernel
theorem dX3_copyFrom_37 : decode cX3_copyFrom 37 = .ok (.putfield 28, 3) := by decide +kernel
theorem dX3_copyFrom_40 : decode cX3_copyFrom 40 = .ok (.return_, 1) := by decide +kernel
theorem dX3_moveTowards_0 : decode cX3_moveTowards 0 = .ok (.aload_n 0, 1) := by decide +kernel
theorem dX3_moveTowards_1 : decode cX3_moveTowards 1 = .ok (.dup, 1) := by decide +kernel
theorem dX3_moveTowards_2 : decode cX3_moveTowards 2 = .ok (.getfield 25, 3) := by decide +kernel
theorem dX3_moveTowards_5 : decode cX3_moveTowards 5 = .ok (.iload_n 1, 1) := by decide +kernel
theorem dX3_moveTowards_6 : decode cX3_moveTowards 6 = .ok (.aload_n 0, 1) := by decide +kernel
theorem dX3_moveTowards_7 : decode cX3_moveTowards 7 = .ok (.getfield 25, 3) := by decide +kernel
theorem dX3_moveTowards_10 : decode cX3_moveTowards 10 = .ok (.isub, 1) := by decide +kernel
theorem dX3_moveTowards_11 : decode cX3_moveTowards 11 = .ok (.i2l, 1) := by decide +kernel
theorem dX3_moveTowards_12 : decode cX3_moveTowards 12 = .ok (.aload_n 0, 1) := by decide +kernel
theorem dX3_moveTowards_13 : decode cX3_moveTowards 13 = .ok (.getfield 22, 3) := by decide +kernel
theorem dX3_moveTowards_16 : decode cX3_moveTowards 16 = .ok (.ineg, 1) := by decide +kernel
theorem dX3_moveTowards_17 : decode cX3_moveTowards 17 = .ok (.i2l, 1) := by decide +kernel
theorem dX3_moveTowards_18 : decode cX3_moveTowards 18 = .ok (.aload_n 0, 1) := by decide +kernel
theorem dX3_moveTowards_19 : decode cX3_moveTowards 19 = .ok (.getfield 22, 3) := by decide +kernel
theorem dX3_moveTowards_22 : decode cX3_moveTowards 22 = .ok (.i2l, 1) := by decide +kernel
theorem dX3_moveTowards_23 : decode cX3_moveTowards 23 = .ok (.invokestatic 36, 3) := by decide +kernel
theorem dX3_moveTowards_26 : decode cX3_moveTowards 26 = .ok (.l2i, 1) := by decide +kernel
theorem dX3_moveTowards_27 : decode cX3_moveTowards 27 = .ok (.iadd, 1) := by decide +kernel
theorem dX3_moveTowards_28 : decode cX3_moveTowards 28 = .ok (.putfield 25, 3) := by decide +kernel
theorem dX3_moveTowards_31 : decode cX3_moveTowards 31 = .ok (.return_, 1) := by decide +kernel
theorem dX4_init_0 : decode cX4_init 0 = .ok (.aload_n 0, 1) := by decide +kernel
theorem dX4_init_1 : decode cX4_init 1 = .ok (.invokespecial 3, 3) := by decide +kernel
theorem dX4_init_4 : decode cX4_init 4 = .ok (.return_, 1) := by decide +kernel
theorem dX4_begin_0 : decode cX4_begin 0 = .ok (.aload_n 0, 1) := by decide +kernel
theorem dX4_begin_1 : decode cX4_begin 1 = .ok (.iload_n 1, 1) := by decide +kernel
theorem dX4_begin_2 : decode cX4_begin 2 = .ok (.putfield 9, 3) := by decide +kernel
theorem dX4_begin_5 : decode cX4_begin 5 = .ok (.aload_n 0, 1) := by decide +kernel
theorem dX4_begin_6 : decode cX4_begin 6 = .ok (.iload_n 2, 1) := by decide +kernel
theorem dX4_begin_7 : decode cX4_begin 7 = .ok (.putfield 15, 3) := by decide +kernel
theorem dX4_begin_10 : decode cX4_begin 10 = .ok (.aload_n 0, 1) := by decide +kernel
theorem dX4_begin_11 : decode cX4_begin 11 = .ok (.iload_n 3, 1) := by decide +kernel
theorem dX4_begin_12 : decode cX4_begin 12 = .ok (.putfield 18, 3) := by decide +kernel
theorem dX4_begin_15 : decode cX4_begin 15 = .ok (.aload_n 0, 1) := by decide +kernel
theorem dX4_begin_16 : decode cX4_begin 16 = .ok (.iload 4, 2) := by decide +kernel
theorem dX4_begin_18 : decode cX4_begin 18 = .ok (.putfield 21, 3) := by decide +kernel
theorem dX4_begin_21 : decode cX4_begin 21 = .ok (.aload_n 0, 1) := by decide +kernel
theorem dX4_begin_22 : decode cX4_begin 22 = .ok (.iload 5, 2) := by decide +kernel
theorem dX4_begin_24 : decode cX4_begin 24 = .ok (.putfield 24, 3) := by decide +kernel
theorem dX4_begin_27 : decode cX4_begin 27 = .ok (.aload_n 0, 1) := by decide +kernel
theorem dX4_begin_28 : decode cX4_begin 28 = .ok (.ldc 27, 2) := by decide +kernel
theorem dX4_begin_30 : decode cX4_begin 30 = .ok (.putfield 28, 3) := by decide +kernel
theorem dX4_begin_33 : decode cX4_begin 33 = .ok (.aload_n 0, 1) := by decide +kernel
theorem dX4_begin_34 : decode cX4_begin 34 = .ok (.ldc 31, 2) := by decide +kernel
theorem dX4_begin_36 : decode cX4_begin 36 = .ok (.putfield 32, 3) := by decide +kernel
theorem dX4_begin_39 : decode cX4_begin 39 = .ok (.aload_n 0, 1) := by decide +kernel
theorem dX4_begin_40 : decode cX4_begin 40 = .ok (.invokevirtual 35, 3) := by decide +kernel
theorem dX4_begin_43 : decode cX4_begin 43 = .ok (.return_, 1) := by decide +kernel
theorem dX4_beginRecords_0 : decode cX4_beginRecords 0 = .ok (.aload_n 0, 1) := by decide +kernel
theorem dX4_beginRecords_1 : decode cX4_beginRecords 1 = .ok (.aload_n 0, 1) := by decide +kernel
theorem dX4_beginRecords_2 : decode cX4_beginRecords 2 = .ok (.getfield 15, 3) := by decide +kernel
theorem dX4_beginRecords_5 : decode cX4_beginRecords 5 = .ok (.putfield 38, 3) := by decide +kernel
theorem dX4_beginRecords_8 : decode cX4_beginRecords 8 = .ok (.aload_n 0, 1) := by decide +kernel
theorem dX4_beginRecords_9 : decode cX4_beginRecords 9 = .ok (.aload_n 0, 1) := by decide +kernel
theorem dX4_beginRecords_10 : decode cX4_beginRecords 10 = .ok (.getfield 15, 3) := by decide +kernel
theorem dX4_beginRecords_13 : decode cX4_beginRecords 13 = .ok (.putfield 41, 3) := by decide +kernel
theorem dX4_beginRecords_16 : decode cX4_beginRecords 16 = .ok (.aload_n 0, 1) := by decide +kernel
theorem dX4_beginRecords_17 : decode cX4_beginRecords 17 = .ok (.iconst 0, 1) := by decide +kernel
theorem dX4_beginRecords_18 : decode cX4_beginRecords 18 = .ok (.putfield 44, 3) := by decide +kernel
theorem dX4_beginRecords_21 : decode cX4_beginRecords 21 = .ok (.aload_n 0, 1) := by decide +kernel
theorem dX4_beginRecords_22 : decode cX4_beginRecords 22 = .ok (.iconst (-1), 1) := by decide +kernel
theorem dX4_beginRecords_23 : decode cX4_beginRecords 23 = .ok (.putfield 47, 3) := by decide +kernel
theorem dX4_beginRecords_26 : decode cX4_beginRecords 26 = .ok (.return_, 1) := by decide +kernel
theorem dX4_copyFrom_0 : decode cX4_copyFrom 0 = .ok (.aload_n 0, 1) := by decide +kernel
theorem dX4_copyFrom_1 : decode cX4_copyFrom 1 = .ok (.aload_n 1, 1) := by decide +kernel
theorem dX4_copyFrom_2 : decode cX4_copyFrom 2 = .ok (.getfield 9, 3) := by decide +kernel
theorem dX4_copyFrom_5 : decode cX4_copyFrom 5 = .ok (.putfield 9, 3) := by decide +kernel
theorem dX4_copyFrom_8 : decode cX4_copyFrom 8 = .ok (.aload_n 0, 1) := by decide +kernel
theorem dX4_copyFrom_9 : decode cX4_copyFrom 9 = .ok (.aload_n 1, 1) := by decide +kernel
theorem dX4_copyFrom_10 : decode cX4_copyFrom 10 = .ok (.getfield 15, 3) := by decide +kernel
theorem dX4_copyFrom_13 : decode cX4_copyFrom 13 = .ok (.putfield 15, 3) := by decide +kernel
theorem dX4_copyFrom_16 : decode cX4_copyFrom 16 = .ok (.aload_n 0, 1) := by decide +kernel
theorem dX4_copyFrom_17 : decode cX4_copyFrom 17 = .ok (.aload_n 1, 1) := by decide +kernel
theorem dX4_copyFrom_18 : decode cX4_copyFrom 18 = .ok (.getfield 18, 3) := by decide +kernel
theorem dX4_copyFrom_21 : decode cX4_copyFrom 21 = .ok (.putfield 18, 3) := by decide +kernel
theorem dX4_copyFrom_24 : decode cX4_copyFrom 24 = .ok (.aload_n 0, 1) := by decide +kernel
theorem dX4_copyFrom_25 : decode cX4_copyFrom 25 = .ok (.aload_n 1, 1) := by decide +kernel
theorem dX4_copyFrom_26 : decode cX4_copyFrom 26 = .ok (.getfield 21, 3) := by decide +kernel
theorem dX4_copyFrom_29 : decode cX4_copyFrom 29 = .ok (.putfield 21, 3) := by decide +kernel
theorem dX4_copyFrom_32 : decode cX4_copyFrom 32 = .ok (.aload_n 0, 1) := by decide +kernel
theorem dX4_copyFrom_33 : decode cX4_copyFrom 33 = .ok (.aload_n 1, 1) := by decide +kernel
theorem dX4_copyFrom_34 : decode cX4_copyFrom 34 = .ok (.getfield 24, 3) := by decide +kernel
theorem dX4_copyFrom_37 : decode cX4_copyFrom 37 = .ok (.putfield 24, 3) := by decide +kernel
theorem dX4_copyFrom_40 : decode cX4_copyFrom 40 = .ok (.aload_n 0, 1) := by decide +kernel
theorem dX4_copyFrom_41 : decode cX4_copyFrom 41 = .ok (.aload_n 1, 1) := by decide +kernel
theorem dX4_copyFrom_42 : decode cX4_copyFrom 42 = .ok (.getfield 28, 3) := by decide +kernel
theorem dX4_copyFrom_45 : decode cX4_copyFrom 45 = .ok (.putfield 28, 3) := by decide +kernel
theorem dX4_copyFrom_48 : decode cX4_copyFrom 48 = .ok (.aload_n 0, 1) := by decide +kernel
theorem dX4_copyFrom_49 : decode cX4_copyFrom 49 = .ok (.aload_n 1, 1) := by decide +kernel
theorem dX4_copyFrom_50 : decode cX4_copyFrom 50 = .ok (.getfield 32, 3) := by decide +kernel
theorem dX4_copyFrom_53 : decode cX4_copyFrom 53 = .ok (.putfield 32, 3) := by decide +kernel
theorem dX4_copyFrom_56 : decode cX4_copyFrom 56 = .ok (.aload_n 0, 1) := by decide +kernel
theorem dX4_copyFrom_57 : decode cX4_copyFrom 57 = .ok (.aload_n 1, 1) := by decide +kernel
theorem dX4_copyFrom_58 : decode cX4_copyFrom 58 = .ok (.getfield 38, 3) := by decide +kernel
theorem dX4_copyFrom_61 : decode cX4_copyFrom 61 = .ok (.putfield 38, 3) := by decide +kernel
theorem dX4_copyFrom_64 : decode cX4_copyFrom 64 = .ok (.aload_n 0, 1) := by decide +kernel
theorem dX4_copyFrom_65 : decode cX4_copyFrom 65 = .ok (.aload_n 1, 1) := by decide +kernel
theorem dX4_copyFrom_66 : decode cX4_copyFrom 66 = .ok (.getfield 41, 3) := by decide +kernel
theorem dX4_copyFrom_69 : decode cX4_copyFrom 69 = .ok (.putfield 41, 3) := by decide +kernel
theorem dX4_copyFrom_72 : decode cX4_copyFrom 72 = .ok (.aload_n 0, 1) := by decide +kernel
theorem dX4_copyFrom_73 : decode cX4_copyFrom 73 = .ok (.aload_n 1, 1) := by decide +kernel
theorem dX4_copyFrom_74 : decode cX4_copyFrom 74 = .ok (.getfield 44, 3) := by decide +kernel
theorem dX4_copyFrom_77 : decode cX4_copyFrom 77 = .ok (.putfield 44, 3) := by decide +kernel
theorem dX4_copyFrom_80 : decode cX4_copyFrom 80 = .ok (.aload_n 0, 1) := by decide +kernel
theorem dX4_copyFrom_81 : decode cX4_copyFrom 81 = .ok (.aload_n 1, 1) := by decide +kernel
theorem dX4_copyFrom_82 : decode cX4_copyFrom 82 = .ok (.getfield 47, 3) := by decide +kernel
theorem dX4_copyFrom_85 : decode cX4_copyFrom 85 = .ok (.putfield 47, 3) := by decide +kernel
theorem dX4_copyFrom_88 : decode cX4_copyFrom 88 = .ok (.return_, 1) := by decide +kernel
theorem dX4_emit_0 : decode cX4_emit 0 = .ok (.aload_n 0, 1) := by decide +kernel
theorem dX4_emit_1 : decode cX4_emit 1 = .ok (.getfield 15, 3) := by decide +kernel
theorem dX4_emit_4 : decode cX4_emit 4 = .ok (.ldc 50, 2) := by decide +kernel
theorem dX4_emit_6 : decode cX4_emit 6 = .ok (.iadd, 1) := by decide +kernel
theorem dX4_emit_7 : decode cX4_emit 7 = .ok (.sipush 1000, 3) := by decide +kernel
theorem dX4_emit_10 : decode cX4_emit 10 = .ok (.idiv, 1) := by decide +kernel
theorem dX4_emit_11 : decode cX4_emit 11 = .ok (.i2l, 1) := by decide +kernel
theorem dX4_emit_12 : decode cX4_emit 12 = .ok (.lstore_n 1, 1) := by decide +kernel
theorem dX4_emit_13 : decode cX4_emit 13 = .ok (.aload_n 0, 1) := by decide +kernel
theorem dX4_emit_14 : decode cX4_emit 14 = .ok (.aload_n 0, 1) := by decide +kernel
theorem dX4_emit_15 : decode cX4_emit 15 = .ok (.getfield 51, 3) := by decide +kernel
theorem dX4_emit_18 : decode cX4_emit 18 = .ok (.lload_n 1, 1) := by decide +kernel
theorem dX4_emit_19 : decode cX4_emit 19 = .ok (.lmul, 1) := by decide +kernel
theorem dX4_emit_20 : decode cX4_emit 20 = .ok (.lload_n 1, 1) := by decide +kernel
theorem dX4_emit_21 : decode cX4_emit 21 = .ok (.lmul, 1) := by decide +kernel
theorem dX4_emit_22 : decode cX4_emit 22 = .ok (.lload_n 1, 1) := by decide +kernel
theorem dX4_emit_23 : decode cX4_emit 23 = .ok (.lmul, 1) := by decide +kernel
theorem dX4_emit_24 : decode cX4_emit 24 = .ok (.lload_n 1, 1) := by decide +kernel
theorem dX4_emit_25 : decode cX4_emit 25 = .ok (.lmul, 1) := by decide +kernel
theorem dX4_emit_26 : decode cX4_emit 26 = .ok (.ldc2_w 55, 3) := by decide +kernel
theorem dX4_emit_29 : decode cX4_emit 29 = .ok (.lmul, 1) := by decide +kernel
theorem dX4_emit_30 : decode cX4_emit 30 = .ok (.ldc2_w 57, 3) := by decide +kernel
theorem dX4_emit_33 : decode cX4_emit 33 = .ok (.ldiv, 1) := by decide +kernel
theorem dX4_emit_34 : decode cX4_emit 34 = .ok (.putfield 59, 3) := by decide +kernel
theorem dX4_emit_37 : decode cX4_emit 37 = .ok (.return_, 1) := by decide +kernel
theorem dX4_gain_0 : decode cX4_gain 0 = .ok (.aload_n 0, 1) := by decide +kernel
theorem dX4_gain_1 : decode cX4_gain 1 = .ok (.getfield 24, 3) := by decide +kernel
theorem dX4_gain_4 : decode cX4_gain 4 = .ok (.i2l, 1) := by decide +kernel
theorem dX4_gain_5 : decode cX4_gain 5 = .ok (.aload_n 0, 1) := by decide +kernel
theorem dX4_gain_6 : decode cX4_gain 6 = .ok (.getfield 62, 3) := by decide +kernel
theorem dX4_gain_9 : decode cX4_gain 9 = .ok (.ladd, 1) := by decide +kernel
theorem dX4_gain_10 : decode cX4_gain 10 = .ok (.aload_n 0, 1) := by decide +kernel
theorem dX4_gain_11 : decode cX4_gain 11 = .ok (.getfield 65, 3) := by decide +kernel
theorem dX4_gain_14 : decode cX4_gain 14 = .ok (.ladd, 1) := by decide +kernel
theorem dX4_gain_15 : decode cX4_gain 15 = .ok (.aload_n 0, 1) := by decide +kernel
theorem dX4_gain_16 : decode cX4_gain 16 = .ok (.getfield 68, 3) := by decide +kernel
theorem dX4_gain_19 : decode cX4_gain 19 = .ok (.ladd, 1) := by decide +kernel
theorem dX4_gain_20 : decode cX4_gain 20 = .ok (.aload_n 0, 1) := by decide +kernel
theorem dX4_gain_21 : decode cX4_gain 21 = .ok (.getfield 59, 3) := by decide +kernel
theorem dX4_gain_24 : decode cX4_gain 24 = .ok (.lsub, 1) := by decide +kernel
theorem dX4_gain_25 : decode cX4_gain 25 = .ok (.lreturn, 1) := by decide +kernel
theorem dX4_warm_0 : decode cX4_warm 0 = .ok (.aload_n 0, 1) := by decide +kernel
theorem dX4_warm_1 : decode cX4_warm 1 = .ok (.getfield 15, 3) := by decide +kernel
theorem dX4_warm_4 : decode cX4_warm 4 = .ok (.i2l, 1) := by decide +kernel
theorem dX4_warm_5 : decode cX4_warm 5 = .ok (.aload_n 0, 1) := by decide +kernel
theorem dX4_warm_6 : decode cX4_warm 6 = .ok (.invokevirtual 71, 3) := by decide +kernel
theorem dX4_warm_9 : decode cX4_warm 9 = .ok (.iload_n 1, 1) := by decide +kernel
theorem dX4_warm_10 : decode cX4_warm 10 = .ok (.i2l, 1) := by decide +kernel
theorem dX4_warm_11 : decode cX4_warm 11 = .ok (.lmul, 1) := by decide +kernel
theorem dX4_warm_12 : decode cX4_warm 12 = .ok (.aload_n 0, 1) := by decide +kernel
theorem dX4_warm_13 : decode cX4_warm 13 = .ok (.getfield 9, 3) := by decide +kernel
theorem dX4_warm_16 : decode cX4_warm 16 = .ok (.i2l, 1) := by decide +kernel
theorem dX4_warm_17 : decode cX4_warm 17 = .ok (.invokestatic 75, 3) := by decide +kernel
theorem dX4_warm_20 : decode cX4_warm 20 = .ok (.ladd, 1) := by decide +kernel
theorem dX4_warm_21 : decode cX4_warm 21 = .ok (.lstore_n 2, 1) := by decide +kernel
theorem dX4_warm_22 : decode cX4_warm 22 = .ok (.aload_n 0, 1) := by decide +kernel
theorem dX4_warm_23 : decode cX4_warm 23 = .ok (.lload_n 2, 1) := by decide +kernel
theorem dX4_warm_24 : decode cX4_warm 24 = .ok (.ldc2_w 79, 3) := by decide +kernel
theorem dX4_warm_27 : decode cX4_warm 27 = .ok (.ldc2_w 81, 3) := by decide +kernel
theorem dX4_warm_30 : decode cX4_warm 30 = .ok (.invokestatic 83, 3) := by decide +kernel
theorem dX4_warm_33 : decode cX4_warm 33 = .ok (.l2i, 1) := by decide +kernel
theorem dX4_warm_34 : decode cX4_warm 34 = .ok (.putfield 15, 3) := by decide +kernel
theorem dX4_warm_37 : decode cX4_warm 37 = .ok (.return_, 1) := by decide +kernel
theorem dX4_isOutside_0 : decode cX4_isOutside 0 = .ok (.aload_n 0, 1) := by decide +kernel
theorem dX4_isOutside_1 : decode cX4_isOutside 1 = .ok (.getfield 15, 3) := by decide +kernel
theorem dX4_isOutside_4 : decode cX4_isOutside 4 = .ok (.aload_n 0, 1) := by decide +kernel
theorem dX4_isOutside_5 : decode cX4_isOutside 5 = .ok (.getfield 28, 3) := by decide +kernel
theorem dX4_isOutside_8 : decode cX4_isOutside 8 = .ok (.if_icmp .lt 14, 3) := by decide +kernel
theorem dX4_isOutside_11 : decode cX4_isOutside 11 = .ok (.aload_n 0, 1) := by decide +kernel
theorem dX4_isOutside_12 : decode cX4_isOutside 12 = .ok (.getfield 15, 3) := by decide +kernel
theorem dX4_isOutside_15 : decode cX4_isOutside 15 = .ok (.aload_n 0, 1) := by decide +kernel
theorem dX4_isOutside_16 : decode cX4_isOutside 16 = .ok (.getfield 32, 3) := by decide +kernel
theorem dX4_isOutside_19 : decode cX4_isOutside 19 = .ok (.if_icmp .le 7, 3) := by decide +kernel
theorem dX4_isOutside_22 : decode cX4_isOutside 22 = .ok (.iconst 1, 1) := by decide +kernel
theorem dX4_isOutside_23 : decode cX4_isOutside 23 = .ok (.goto 4, 3) := by decide +kernel
theorem dX4_isOutside_26 : decode cX4_isOutside 26 = .ok (.iconst 0, 1) := by decide +kernel
theorem dX4_isOutside_27 : decode cX4_isOutside 27 = .ok (.ireturn, 1) := by decide +kernel
theorem dX5_init_0 : decode cX5_init 0 = .ok (.aload_n 0, 1) := by decide +kernel
theorem dX5_init_1 : decode cX5_init 1 = .ok (.invokespecial 1, 3) := by decide +kernel
theorem dX5_init_4 : decode cX5_init 4 = .ok (.aload_n 0, 1) := by decide +kernel
theorem dX5_init_5 : decode cX5_init 5 = .ok (.sipush 6000, 3) := by decide +kernel
theorem dX5_init_8 : decode cX5_init 8 = .ok (.putfield 7, 3) := by decide +kernel
theorem dX5_init_11 : decode cX5_init 11 = .ok (.aload_n 0, 1) := by decide +kernel
theorem dX5_init_12 : decode cX5_init 12 = .ok (.sipush 1361, 3) := by decide +kernel
theorem dX5_init_15 : decode cX5_init 15 = .ok (.putfield 13, 3) := by decide +kernel
theorem dX5_init_18 : decode cX5_init 18 = .ok (.return_, 1) := by decide +kernel
theorem dX5_begin_0 : decode cX5_begin 0 = .ok (.aload_n 0, 1) := by decide +kernel
theorem dX5_begin_1 : decode cX5_begin 1 = .ok (.iload_n 1, 1) := by decide +kernel
theorem dX5_begin_2 : decode cX5_begin 2 = .ok (.putfield 7, 3) := by decide +kernel
theorem dX5_begin_5 : decode cX5_begin 5 = .ok (.aload_n 0, 1) := by decide +kernel
theorem dX5_begin_6 : decode cX5_begin 6 = .ok (.iload_n 2, 1) := by decide +kernel
theorem dX5_begin_7 : decode cX5_begin 7 = .ok (.putfield 16, 3) := by decide +kernel
theorem dX5_begin_10 : decode cX5_begin 10 = .ok (.aload_n 0, 1) := by decide +kernel
theorem dX5_begin_11 : decode cX5_begin 11 = .ok (.iload_n 3, 1) := by decide +kernel
theorem dX5_begin_12 : decode cX5_begin 12 = .ok (.putfield 19, 3) := by decide +kernel
theorem dX5_begin_15 : decode cX5_begin 15 = .ok (.aload_n 0, 1) := by decide +kernel
theorem dX5_begin_16 : decode cX5_begin 16 = .ok (.iload 4, 2) := by decide +kernel
theorem dX5_begin_18 : decode cX5_begin 18 = .ok (.putfield 13, 3) := by decide +kernel
theorem dX5_begin_21 : decode cX5_begin 21 = .ok (.aload_n 0, 1) := by decide +kernel
theorem dX5_begin_22 : decode cX5_begin 22 = .ok (.iload 5, 2) := by decide +kernel
theorem dX5_begin_24 : decode cX5_begin 24 = .ok (.putfield 22, 3) := by decide +kernel
theorem dX5_begin_27 : decode cX5_begin 27 = .ok (.aload_n 0, 1) := by decide +kernel
theorem dX5_begin_28 : decode cX5_begin 28 = .ok (.iload 6, 2) := by decide +kernel
theorem dX5_begin_30 : decode cX5_begin 30 = .ok (.putfield 25, 3) := by decide +kernel
theorem dX5_begin_33 : decode cX5_begin 33 = .ok (.return_, 1) := by decide +kernel
theorem dX5_copyFrom_0 : decode cX5_copyFrom 0 = .ok (.aload_n 0, 1) := by decide +kernel
theorem dX5_copyFrom_1 : decode cX5_copyFrom 1 = .ok (.aload_n 1, 1) := by decide +kernel
theorem dX5_copyFrom_2 : decode cX5_copyFrom 2 = .ok (.getfield 7, 3) := by decide +kernel
theorem dX5_copyFrom_5 : decode cX5_copyFrom 5 = .ok (.aload_n 1, 1) := by decide +kernel
theorem dX5_copyFrom_6 : decode cX5_copyFrom 6 = .ok (.getfield 16, 3) := by decide +kernel
theorem dX5_copyFrom_9 : decode cX5_copyFrom 9 = .ok (.aload_n 1, 1) := by decide +kernel
theorem dX5_copyFrom_10 : decode cX5_copyFrom 10 = .ok (.getfield 19, 3) := by decide +kernel
theorem dX5_copyFrom_13 : decode cX5_copyFrom 13 = .ok (.aload_n 1, 1) := by decide +kernel
theorem dX5_copyFrom_14 : decode cX5_copyFrom 14 = .ok (.getfield 13, 3) := by decide +kernel
theorem dX5_copyFrom_17 : decode cX5_copyFrom 17 = .ok (.aload_n 1, 1) := by decide +kernel
theorem dX5_copyFrom_18 : decode cX5_copyFrom 18 = .ok (.getfield 22, 3) := by decide +kernel
theorem dX5_copyFrom_21 : decode cX5_copyFrom 21 = .ok (.aload_n 1, 1) := by decide +kernel
theorem dX5_copyFrom_22 : decode cX5_copyFrom 22 = .ok (.getfield 25, 3) := by decide +kernel
theorem dX5_copyFrom_25 : decode cX5_copyFrom 25 = .ok (.invokevirtual 28, 3) := by decide +kernel
theorem dX5_copyFrom_28 : decode cX5_copyFrom 28 = .ok (.return_, 1) := by decide +kernel
theorem dX5_heatInto_0 : decode cX5_heatInto 0 = .ok (.aload_n 1, 1) := by decide +kernel
theorem dX5_heatInto_1 : decode cX5_heatInto 1 = .ok (.getfield 32, 3) := by decide +kernel
theorem dX5_heatInto_4 : decode cX5_heatInto 4 = .ok (.i2l, 1) := by decide +kernel
theorem dX5_heatInto_5 : decode cX5_heatInto 5 = .ok (.aload_n 0, 1) := by decide +kernel
theorem dX5_heatInto_6 : decode cX5_heatInto 6 = .ok (.getfield 25, 3) := by decide +kernel
theorem dX5_heatInto_9 : decode cX5_heatInto 9 = .ok (.i2l, 1) := by decide +kernel
theorem dX5_heatInto_10 : decode cX5_heatInto 10 = .ok (.lmul, 1) := by decide +kernel
theorem dX5_heatInto_11 : decode cX5_heatInto 11 = .ok (.ldc2_w 37, 3) := by decide +kernel
theorem dX5_heatInto_14 : decode cX5_heatInto 14 = .ok (.ldiv, 1) := by decide +kernel
theorem dX5_heatInto_15 : decode cX5_heatInto 15 = .ok (.lstore_n 3, 1) := by decide +kernel
theorem dX5_heatInto_16 : decode cX5_heatInto 16 = .ok (.iload_n 2, 1) := by decide +kernel
theorem dX5_heatInto_17 : decode cX5_heatInto 17 = .ok (.ifCond .eq 38, 3) := by decide +kernel
theorem dX5_heatInto_20 : decode cX5_heatInto 20 = .ok (.aload_n 1, 1) := by decide +kernel
theorem dX5_heatInto_21 : decode cX5_heatInto 21 = .ok (.getfield 39, 3) := by decide +kernel
theorem dX5_heatInto_24 : decode cX5_heatInto 24 = .ok (.i2l, 1) := by decide +kernel
theorem dX5_heatInto_25 : decode cX5_heatInto 25 = .ok (.aload_n 0, 1) := by decide +kernel
theorem dX5_heatInto_26 : decode cX5_heatInto 26 = .ok (.getfield 13, 3) := by decide +kernel
theorem dX5_heatInto_29 : decode cX5_heatInto 29 = .ok (.i2l, 1) := by decide +kernel
theorem dX5_heatInto_30 : decode cX5_heatInto 30 = .ok (.lmul, 1) := by decide +kernel
theorem dX5_heatInto_31 : decode cX5_heatInto 31 = .ok (.lstore 5, 2) := by decide +kernel
theorem dX5_heatInto_33 : decode cX5_heatInto 33 = .ok (.lload_n 3, 1) := by decide +kernel
theorem dX5_heatInto_34 : decode cX5_heatInto 34 = .ok (.lload 5, 2) := by decide +kernel
theorem dX5_heatInto_36 : decode cX5_heatInto 36 = .ok (.ldc2_w 37, 3) := by decide +kernel
theorem dX5_heatInto_39 : decode cX5_heatInto 39 = .ok (.ldiv, 1) := by decide +kernel
theorem dX5_heatInto_40 : decode cX5_heatInto 40 = .ok (.lload 5, 2) := by decide +kernel
theorem dX5_heatInto_42 : decode cX5_heatInto 42 = .ok (.aload_n 0, 1) := by decide +kernel
theorem dX5_heatInto_43 : decode cX5_heatInto 43 = .ok (.getfield 22, 3) := by decide +kernel
theorem dX5_heatInto_46 : decode cX5_heatInto 46 = .ok (.i2l, 1) := by decide +kernel
theorem dX5_heatInto_47 : decode cX5_heatInto 47 = .ok (.lmul, 1) := by decide +kernel
theorem dX5_heatInto_48 : decode cX5_heatInto 48 = .ok (.ldc2_w 42, 3) := by decide +kernel
theorem dX5_heatInto_51 : decode cX5_heatInto 51 = .ok (.ldiv, 1) := by decide +kernel
theorem dX5_heatInto_52 : decode cX5_heatInto 52 = .ok (.ladd, 1) := by decide +kernel
theorem dX5_heatInto_53 : decode cX5_heatInto 53 = .ok (.ladd, 1) := by decide +kernel
theorem dX5_heatInto_54 : decode cX5_heatInto 54 = .ok (.lstore_n 3, 1) := by decide +kernel
theorem dX5_heatInto_55 : decode cX5_heatInto 55 = .ok (.lload_n 3, 1) := by decide +kernel
theorem dX5_heatInto_56 : decode cX5_heatInto 56 = .ok (.lreturn, 1) := by decide +kernel
theorem dX6_init_0 : decode cX6_init 0 = .ok (.aload_n 0, 1) := by decide +kernel
theorem dX6_init_1 : decode cX6_init 1 = .ok (.invokespecial 3, 3) := by decide +kernel
theorem dX6_init_4 : decode cX6_init 4 = .ok (.aload_n 0, 1) := by decide +kernel
theorem dX6_init_5 : decode cX6_init 5 = .ok (.bipush 12, 2) := by decide +kernel
theorem dX6_init_7 : decode cX6_init 7 = .ok (.newarray .int, 2) := by decide +kernel
theorem dX6_init_9 : decode cX6_init 9 = .ok (.putfield 9, 3) := by decide +kernel
theorem dX6_init_12 : decode cX6_init 12 = .ok (.return_, 1) := by decide +kernel
theorem dX6_clear_0 : decode cX6_clear 0 = .ok (.aload_n 0, 1) := by decide +kernel
theorem dX6_clear_1 : decode cX6_clear 1 = .ok (.iconst 0, 1) := by decide +kernel
theorem dX6_clear_2 : decode cX6_clear 2 = .ok (.putfield 15, 3) := by decide +kernel
theorem dX6_clear_5 : decode cX6_clear 5 = .ok (.aload_n 0, 1) := by decide +kernel
theorem dX6_clear_6 : decode cX6_clear 6 = .ok (.iconst 0, 1) := by decide +kernel
theorem dX6_clear_7 : decode cX6_clear 7 = .ok (.putfield 19, 3) := by decide +kernel
theorem dX6_clear_10 : decode cX6_clear 10 = .ok (.aload_n 0, 1) := by decide +kernel
theorem dX6_clear_11 : decode cX6_clear 11 = .ok (.lconst 0, 1) := by decide +kernel
theorem dX6_clear_12 : decode cX6_clear 12 = .ok (.putfield 22, 3) := by decide +kernel
theorem dX6_clear_15 : decode cX6_clear 15 = .ok (.aload_n 0, 1) := by decide +kernel
theorem dX6_clear_16 : decode cX6_clear 16 = .ok (.lconst 0, 1) := by decide +kernel
theorem dX6_clear_17 : decode cX6_clear 17 = .ok (.putfield 26, 3) := by decide +kernel
theorem dX6_clear_20 : decode cX6_clear 20 = .ok (.aload_n 0, 1) := by decide +kernel
theorem dX6_clear_21 : decode cX6_clear 21 = .ok (.lconst 0, 1) := by decide +kernel
theorem dX6_clear_22 : decode cX6_clear 22 = .ok (.putfield 29, 3) := by decide +kernel
theorem dX6_clear_25 : decode cX6_clear 25 = .ok (.return_, 1) := by decide +kernel
theorem dX6_copyFrom_0 : decode cX6_copyFrom 0 = .ok (.aload_n 1, 1) := by decide +kernel
theorem dX6_copyFrom_1 : decode cX6_copyFrom 1 = .ok (.getfield 9, 3) := by decide +kernel
theorem dX6_copyFrom_4 : decode cX6_copyFrom 4 = .ok (.iconst 0, 1) := by decide +kernel
theorem dX6_copyFrom_5 : decode cX6_copyFrom 5 = .ok (.aload_n 0, 1) := by decide +kernel
theorem dX6_copyFrom_6 : decode cX6_copyFrom 6 = .ok (.getfield 9, 3) := by decide +kernel
theorem dX6_copyFrom_9 : decode cX6_copyFrom 9 = .ok (.iconst 0, 1) := by decide +kernel
theorem dX6_copyFrom_10 : decode cX6_copyFrom 10 = .ok (.bipush 12, 2) := by decide +kernel
theorem dX6_copyFrom_12 : decode cX6_copyFrom 12 = .ok (.invokestatic 32, 3) := by decide +kernel
theorem dX6_copyFrom_15 : decode cX6_copyFrom 15 = .ok (.aload_n 0, 1) := by decide +kernel
theorem dX6_copyFrom_16 : decode cX6_copyFrom 16 = .ok (.aload_n 1, 1) := by decide +kernel
theorem dX6_copyFrom_17 : decode cX6_copyFrom 17 = .ok (.getfield 15, 3) := by decide +kernel
theorem dX6_copyFrom_20 : decode cX6_copyFrom 20 = .ok (.putfield 15, 3) := by decide +kernel
theorem dX6_copyFrom_23 : decode cX6_copyFrom 23 = .ok (.aload_n 0, 1) := by decide +kernel
theorem dX6_copyFrom_24 : decode cX6_copyFrom 24 = .ok (.aload_n 1, 1) := by decide +kernel
theorem dX6_copyFrom_25 : decode cX6_copyFrom 25 = .ok (.getfield 19, 3) := by decide +kernel
theorem dX6_copyFrom_28 : decode cX6_copyFrom 28 = .ok (.putfield 19, 3) := by decide +kernel
theorem dX6_copyFrom_31 : decode cX6_copyFrom 31 = .ok (.aload_n 0, 1) := by decide +kernel
theorem dX6_copyFrom_32 : decode cX6_copyFrom 32 = .ok (.aload_n 1, 1) := by decide +kernel
theorem dX6_copyFrom_33 : decode cX6_copyFrom 33 = .ok (.getfield 22, 3) := by decide +kernel
theorem dX6_copyFrom_36 : decode cX6_copyFrom 36 = .ok (.putfield 22, 3) := by decide +kernel
theorem dX6_copyFrom_39 : decode cX6_copyFrom 39 = .ok (.aload_n 0, 1) := by decide +kernel
theorem dX6_copyFrom_40 : decode cX6_copyFrom 40 = .ok (.aload_n 1, 1) := by decide +kernel
theorem dX6_copyFrom_41 : decode cX6_copyFrom 41 = .ok (.getfield 26, 3) := by decide +kernel
theorem dX6_copyFrom_44 : decode cX6_copyFrom 44 = .ok (.putfield 26, 3) := by decide +kernel
theorem dX6_copyFrom_47 : decode cX6_copyFrom 47 = .ok (.aload_n 0, 1) := by decide +kernel
theorem dX6_copyFrom_48 : decode cX6_copyFrom 48 = .ok (.aload_n 1, 1) := by decide +kernel
theorem dX6_copyFrom_49 : decode cX6_copyFrom 49 = .ok (.getfield 29, 3) := by decide +kernel
theorem dX6_copyFrom_52 : decode cX6_copyFrom 52 = .ok (.putfield 29, 3) := by decide +kernel
theorem dX6_copyFrom_55 : decode cX6_copyFrom 55 = .ok (.return_, 1) := by decide +kernel
theorem dX6_addViolator_0 : decode cX6_addViolator 0 = .ok (.aload_n 0, 1) := by decide +kernel
theorem dX6_addViolator_1 : decode cX6_addViolator 1 = .ok (.getfield 15, 3) := by decide +kernel
theorem dX6_addViolator_4 : decode cX6_addViolator 4 = .ok (.bipush 12, 2) := by decide +kernel
theorem dX6_addViolator_6 : decode cX6_addViolator 6 = .ok (.if_icmp .ge 23, 3) := by decide +kernel
theorem dX6_addViolator_9 : decode cX6_addViolator 9 = .ok (.aload_n 0, 1) := by decide +kernel
theorem dX6_addViolator_10 : decode cX6_addViolator 10 = .ok (.getfield 9, 3) := by decide +kernel
theorem dX6_addViolator_13 : decode cX6_addViolator 13 = .ok (.aload_n 0, 1) := by decide +kernel
theorem dX6_addViolator_14 : decode cX6_addViolator 14 = .ok (.getfield 15, 3) := by decide +kernel
theorem dX6_addViolator_17 : decode cX6_addViolator 17 = .ok (.iload_n 1, 1) := by decide +kernel
theorem dX6_addViolator_18 : decode cX6_addViolator 18 = .ok (.iastore, 1) := by decide +kernel
theorem dX6_addViolator_19 : decode cX6_addViolator 19 = .ok (.aload_n 0, 1) := by decide +kernel
theorem dX6_addViolator_20 : decode cX6_addViolator 20 = .ok (.dup, 1) := by decide +kernel
theorem dX6_addViolator_21 : decode cX6_addViolator 21 = .ok (.getfield 15, 3) := by decide +kernel
theorem dX6_addViolator_24 : decode cX6_addViolator 24 = .ok (.iconst 1, 1) := by decide +kernel
theorem dX6_addViolator_25 : decode cX6_addViolator 25 = .ok (.iadd, 1) := by decide +kernel
theorem dX6_addViolator_26 : decode cX6_addViolator 26 = .ok (.putfield 15, 3) := by decide +kernel
theorem dX6_addViolator_29 : decode cX6_addViolator 29 = .ok (.return_, 1) := by decide +kernel
theorem dX7_init_0 : decode cX7_init 0 = .ok (.aload_n 0, 1) := by decide +kernel
theorem dX7_init_1 : decode cX7_init 1 = .ok (.invokespecial 3, 3) := by decide +kernel
theorem dX7_init_4 : decode cX7_init 4 = .ok (.aload_n 0, 1) := by decide +kernel
theorem dX7_init_5 : decode cX7_init 5 = .ok (.sipush 500, 3) := by decide +kernel
theorem dX7_init_8 : decode cX7_init 8 = .ok (.newarray .byte, 2) := by decide +kernel
theorem dX7_init_10 : decode cX7_init 10 = .ok (.putfield 9, 3) := by decide +kernel
theorem dX7_init_13 : decode cX7_init 13 = .ok (.aload_n 0, 1) := by decide +kernel
theorem dX7_init_14 : decode cX7_init 14 = .ok (.iconst (-1), 1) := by decide +kernel
theorem dX7_init_15 : decode cX7_init 15 = .ok (.putfield 15, 3) := by decide +kernel
theorem dX7_init_18 : decode cX7_init 18 = .ok (.aload_n 0, 1) := by decide +kernel
theorem dX7_init_19 : decode cX7_init 19 = .ok (.new 19, 3) := by decide +kernel
theorem dX7_init_22 : decode cX7_init 22 = .ok (.dup, 1) := by decide +kernel
theorem dX7_init_23 : decode cX7_init 23 = .ok (.invokespecial 21, 3) := by decide +kernel
theorem dX7_init_26 : decode cX7_init 26 = .ok (.putfield 22, 3) := by decide +kernel
theorem dX7_init_29 : decode cX7_init 29 = .ok (.aload_n 0, 1) := by decide +kernel
theorem dX7_init_30 : decode cX7_init 30 = .ok (.sipush 501, 3) := by decide +kernel
theorem dX7_init_33 : decode cX7_init 33 = .ok (.newarray .int, 2) := by decide +kernel
theorem dX7_init_35 : decode cX7_init 35 = .ok (.putfield 26, 3) := by decide +kernel
theorem dX7_init_38 : decode cX7_init 38 = .ok (.aload_n 0, 1) := by decide +kernel
theorem dX7_init_39 : decode cX7_init 39 = .ok (.sipush 501, 3) := by decide +kernel
theorem dX7_init_42 : decode cX7_init 42 = .ok (.newarray .int, 2) := by decide +kernel
theorem dX7_init_44 : decode cX7_init 44 = .ok (.putfield 30, 3) := by decide +kernel
theorem dX7_init_47 : decode cX7_init 47 = .ok (.aload_n 0, 1) := by decide +kernel
theorem dX7_init_48 : decode cX7_init 48 = .ok (.sipush 501, 3) := by decide +kernel
theorem dX7_init_51 : decode cX7_init 51 = .ok (.newarray .int, 2) := by decide +kernel
theorem dX7_init_53 : decode cX7_init 53 = .ok (.putfield 33, 3) := by decide +kernel
theorem dX7_init_56 : decode cX7_init 56 = .ok (.return_, 1) := by decide +kernel
theorem dX7_readRules_0 : decode cX7_readRules 0 = .ok (.aload_n 0, 1) := by decide +kernel
theorem dX7_readRules_1 : decode cX7_readRules 1 = .ok (.iload_n 1, 1) := by decide +kernel
theorem dX7_readRules_2 : decode cX7_readRules 2 = .ok (.putfield 36, 3) := by decide +kernel
theorem dX7_readRules_5 : decode cX7_readRules 5 = .ok (.aload_n 0, 1) := by decide +kernel
theorem dX7_readRules_6 : decode cX7_readRules 6 = .ok (.iload_n 2, 1) := by decide +kernel
theorem dX7_readRules_7 : decode cX7_readRules 7 = .ok (.putfield 39, 3) := by decide +kernel
theorem dX7_readRules_10 : decode cX7_readRules 10 = .ok (.aload_n 0, 1) := by decide +kernel
theorem dX7_readRules_11 : decode cX7_readRules 11 = .ok (.iload_n 3, 1) := by decide +kernel
theorem dX7_readRules_12 : decode cX7_readRules 12 = .ok (.putfield 42, 3) := by decide +kernel
theorem dX7_readRules_15 : decode cX7_readRules 15 = .ok (.aload_n 0, 1) := by decide +kernel
theorem dX7_readRules_16 : decode cX7_readRules 16 = .ok (.iconst 0, 1) := by decide +kernel
theorem dX7_readRules_17 : decode cX7_readRules 17 = .ok (.putfield 45, 3) := by decide +kernel
theorem dX7_readRules_20 : decode cX7_readRules 20 = .ok (.aload_n 0, 1) := by decide +kernel
theorem dX7_readRules_21 : decode cX7_readRules 21 = .ok (.iconst (-1), 1) := by decide +kernel
theorem dX7_readRules_22 : decode cX7_readRules 22 = .ok (.putfield 15, 3) := by decide +kernel
theorem dX7_readRules_25 : decode cX7_readRules 25 = .ok (.aload_n 0, 1) := by decide +kernel
theorem dX7_readRules_26 : decode cX7_readRules 26 = .ok (.getfield 22, 3) := by decide +kernel
theorem dX7_readRules_29 : decode cX7_readRules 29 = .ok (.iconst 0, 1) := by decide +kernel
theorem dX7_readRules_30 : decode cX7_readRules 30 = .ok (.putfield 48, 3) := by decide +kernel
theorem dX7_readRules_33 : decode cX7_readRules 33 = .ok (.aload_n 0, 1) := by decide +kernel
theorem dX7_readRules_34 : decode cX7_readRules 34 = .ok (.getfield 22, 3) := by decide +kernel
theorem dX7_readRules_37 : decode cX7_readRules 37 = .ok (.iconst 0, 1) := by decide +kernel
theorem dX7_readRules_38 : decode cX7_readRules 38 = .ok (.putfield 51, 3) := by decide +kernel
theorem dX7_readRules_41 : decode cX7_readRules 41 = .ok (.aload_n 0, 1) := by decide +kernel
theorem dX7_readRules_42 : decode cX7_readRules 42 = .ok (.invokevirtual 54, 3) := by decide +kernel
theorem dX7_readRules_45 : decode cX7_readRules 45 = .ok (.aload_n 0, 1) := by decide +kernel
theorem dX7_readRules_46 : decode cX7_readRules 46 = .ok (.iconst 0, 1) := by decide +kernel
theorem dX7_readRules_47 : decode cX7_readRules 47 = .ok (.putfield 57, 3) := by decide +kernel
theorem dX7_readRules_50 : decode cX7_readRules 50 = .ok (.iconst 0, 1) := by decide +kernel
theorem dX7_readRules_51 : decode cX7_readRules 51 = .ok (.istore 4, 2) := by decide +kernel
theorem dX7_readRules_53 : decode cX7_readRules 53 = .ok (.iload 4, 2) := by decide +kernel
theorem dX7_readRules_55 : decode cX7_readRules 55 = .ok (.bipush 12, 2) := by decide +kernel
theorem dX7_readRules_57 : decode cX7_readRules 57 = .ok (.if_icmp .ge 56, 3) := by decide +kernel
theorem dX7_readRules_60 : decode cX7_readRules 60 = .ok (.aload_n 0, 1) := by decide +kernel
theorem dX7_readRules_61 : decode cX7_readRules 61 = .ok (.invokevirtual 60, 3) := by decide +kernel
theorem dX7_readRules_64 : decode cX7_readRules 64 = .ok (.ifCond .eq 49, 3) := by decide +kernel
theorem dX7_readRules_67 : decode cX7_readRules 67 = .ok (.aload_n 0, 1) := by decide +kernel
theorem dX7_readRules_68 : decode cX7_readRules 68 = .ok (.iload 4, 2) := by decide +kernel
theorem dX7_readRules_70 : decode cX7_readRules 70 = .ok (.invokevirtual 64, 3) := by decide +kernel
theorem dX7_readRules_73 : decode cX7_readRules 73 = .ok (.ifCond .eq 21, 3) := by decide +kernel
theorem dX7_readRules_76 : decode cX7_readRules 76 = .ok (.aload_n 0, 1) := by decide +kernel
theorem dX7_readRules_77 : decode cX7_readRules 77 = .ok (.iload 4, 2) := by decide +kernel
theorem dX7_readRules_79 : decode cX7_readRules 79 = .ok (.invokevirtual 68, 3) := by decide +kernel
theorem dX7_readRules_82 : decode cX7_readRules 82 = .ok (.ifCond .eq 12, 3) := by decide +kernel
theorem dX7_readRules_85 : decode cX7_readRules 85 = .ok (.aload_n 0, 1) := by decide +kernel
theorem dX7_readRules_86 : decode cX7_readRules 86 = .ok (.bipush 59, 2) := by decide +kernel
theorem dX7_readRules_88 : decode cX7_readRules 88 = .ok (.invokevirtual 71, 3) := by decide +kernel
theorem dX7_readRules_91 : decode cX7_readRules 91 = .ok (.ifCond .ne 5, 3) := by decide +kernel
theorem dX7_readRules_94 : decode cX7_readRules 94 = .ok (.iconst 0, 1) := by decide +kernel
theorem dX7_readRules_95 : decode cX7_readRules 95 = .ok (.ireturn, 1) := by decide +kernel
theorem dX7_readRules_96 : decode cX7_readRules 96 = .ok (.aload_n 0, 1) := by decide +kernel
theorem dX7_readRules_97 : decode cX7_readRules 97 = .ok (.getfield 22, 3) := by decide +kernel
theorem dX7_readRules_100 : decode cX7_readRules 100 = .ok (.iload 4, 2) := by decide +kernel
theorem dX7_readRules_102 : decode cX7_readRules 102 = .ok (.iconst 1, 1) := by decide +kernel
theorem dX7_readRules_103 : decode cX7_readRules 103 = .ok (.iadd, 1) := by decide +kernel
theorem dX7_readRules_104 : decode cX7_readRules 104 = .ok (.putfield 51, 3) := by decide +kernel
theorem dX7_readRules_107 : decode cX7_readRules 107 = .ok (.iinc 4 1, 3) := by decide +kernel
theorem dX7_readRules_110 : decode cX7_readRules 110 = .ok (.goto (-57), 3) := by decide +kernel
theorem dX7_readRules_113 : decode cX7_readRules 113 = .ok (.aload_n 0, 1) := by decide +kernel
theorem dX7_readRules_114 : decode cX7_readRules 114 = .ok (.invokevirtual 60, 3) := by decide +kernel
theorem dX7_readRules_117 : decode cX7_readRules 117 = .ok (.ifCond .ne 5, 3) := by decide +kernel
theorem dX7_readRules_120 : decode cX7_readRules 120 = .ok (.iconst 1, 1) := by decide +kernel
theorem dX7_readRules_121 : decode cX7_readRules 121 = .ok (.ireturn, 1) := by decide +kernel
theorem dX7_readRules_122 : decode cX7_readRules 122 = .ok (.aload_n 0, 1) := by decide +kernel
theorem dX7_readRules_123 : decode cX7_readRules 123 = .ok (.invokevirtual 60, 3) := by decide +kernel
theorem dX7_readRules_126 : decode cX7_readRules 126 = .ok (.sipush 201, 3) := by decide +kernel
theorem dX7_readRules_129 : decode cX7_readRules 129 = .ok (.if_icmp .eq 33, 3) := by decide +kernel
theorem dX7_readRules_132 : decode cX7_readRules 132 = .ok (.aload_n 0, 1) := by decide +kernel
theorem dX7_readRules_133 : decode cX7_readRules 133 = .ok (.invokevirtual 60, 3) := by decide +kernel
theorem dX7_readRules_136 : decode cX7_readRules 136 = .ok (.sipush 212, 3) := by decide +kernel
theorem dX7_readRules_139 : decode cX7_readRules 139 = .ok (.if_icmp .eq 23, 3) := by decide +kernel
theorem dX7_readRules_142 : decode cX7_readRules 142 = .ok (.aload_n 0, 1) := by decide +kernel
theorem dX7_readRules_143 : decode cX7_readRules 143 = .ok (.invokevirtual 60, 3) := by decide +kernel
theorem dX7_readRules_146 : decode cX7_readRules 146 = .ok (.sipush 213, 3) := by decide +kernel
theorem dX7_readRules_149 : decode cX7_readRules 149 = .ok (.if_icmp .eq 13, 3) := by decide +kernel
theorem dX7_readRules_152 : decode cX7_readRules 152 = .ok (.aload_n 0, 1) := by decide +kernel
theorem dX7_readRules_153 : decode cX7_readRules 153 = .ok (.invokevirtual 60, 3) := by decide +kernel
theorem dX7_readRules_156 : decode cX7_readRules 156 = .ok (.sipush 214, 3) := by decide +kernel
theorem dX7_readRules_159 : decode cX7_readRules 159 = .ok (.if_icmp .ne 7, 3) := by decide +kernel
theorem dX7_readRules_162 : decode cX7_readRules 162 = .ok (.iconst 1, 1) := by decide +kernel
theorem dX7_readRules_163 : decode cX7_readRules 163 = .ok (.goto 4, 3) := by decide +kernel
theorem dX7_readRules_166 : decode cX7_readRules 166 = .ok (.iconst 0, 1) := by decide +kernel
theorem dX7_readRules_167 : decode cX7_readRules 167 = .ok (.istore 4, 2) := by decide +kernel
theorem dX7_readRules_169 : decode cX7_readRules 169 = .ok (.aload_n 0, 1) := by decide +kernel
theorem dX7_readRules_170 : decode cX7_readRules 170 = .ok (.iload 4, 2) := by decide +kernel
theorem dX7_readRules_172 : decode cX7_readRules 172 = .ok (.ifCond .eq 7, 3) := by decide +kernel
theorem dX7_readRules_175 : decode cX7_readRules 175 = .ok (.iconst 3, 1) := by decide +kernel
theorem dX7_readRules_176 : decode cX7_readRules 176 = .ok (.goto 4, 3) := by decide +kernel
theorem dX7_readRules_179 : decode cX7_readRules 179 = .ok (.iconst 1, 1) := by decide +kernel
theorem dX7_readRules_180 : decode cX7_readRules 180 = .ok (.invokevirtual 74, 3) := by decide +kernel
theorem dX7_readRules_183 : decode cX7_readRules 183 = .ok (.ireturn, 1) := by decide +kernel
theorem dX7_splitText_0 : decode cX7_splitText 0 = .ok (.iconst 0, 1) := by decide +kernel
theorem dX7_splitText_1 : decode cX7_splitText 1 = .ok (.istore_n 1, 1) := by decide +kernel
theorem dX7_splitText_2 : decode cX7_splitText 2 = .ok (.iconst 1, 1) := by decide +kernel
theorem dX7_splitText_3 : decode cX7_splitText 3 = .ok (.istore_n 2, 1) := by decide +kernel
theorem dX7_splitText_4 : decode cX7_splitText 4 = .ok (.aload_n 0, 1) := by decide +kernel
theorem dX7_splitText_5 : decode cX7_splitText 5 = .ok (.iconst 0, 1) := by decide +kernel
theorem dX7_splitText_6 : decode cX7_splitText 6 = .ok (.putfield 77, 3) := by decide +kernel
theorem dX7_splitText_9 : decode cX7_splitText 9 = .ok (.iload_n 2, 1) := by decide +kernel
theorem dX7_splitText_10 : decode cX7_splitText 10 = .ok (.ifCond .eq 111, 3) := by decide +kernel
theorem dX7_splitText_13 : decode cX7_splitText 13 = .ok (.aload_n 0, 1) := by decide +kernel
theorem dX7_splitText_14 : decode cX7_splitText 14 = .ok (.getfield 77, 3) := by decide +kernel
theorem dX7_splitText_17 : decode cX7_splitText 17 = .ok (.sipush 500, 3) := by decide +kernel
theorem dX7_splitText_20 : decode cX7_splitText 20 = .ok (.if_icmp .gt 101, 3) := by decide +kernel
theorem dX7_splitText_23 : decode cX7_splitText 23 = .ok (.aload_n 0, 1) := by decide +kernel
theorem dX7_splitText_24 : decode cX7_splitText 24 = .ok (.iload_n 1, 1) := by decide +kernel
theorem dX7_splitText_25 : decode cX7_splitText 25 = .ok (.invokevirtual 80, 3) := by decide +kernel
theorem dX7_splitText_28 : decode cX7_splitText 28 = .ok (.istore_n 1, 1) := by decide +kernel
theorem dX7_splitText_29 : decode cX7_splitText 29 = .ok (.aload_n 0, 1) := by decide +kernel
theorem dX7_splitText_30 : decode cX7_splitText 30 = .ok (.iload_n 1, 1) := by decide +kernel
theorem dX7_splitText_31 : decode cX7_splitText 31 = .ok (.invokevirtual 84, 3) := by decide +kernel
theorem dX7_splitText_34 : decode cX7_splitText 34 = .ok (.istore_n 3, 1) := by decide +kernel
theorem dX7_splitText_35 : decode cX7_splitText 35 = .ok (.aload_n 0, 1) := by decide +kernel
theorem dX7_splitText_36 : decode cX7_splitText 36 = .ok (.getfield 26, 3) := by decide +kernel
theorem dX7_splitText_39 : decode cX7_splitText 39 = .ok (.aload_n 0, 1) := by decide +kernel
theorem dX7_splitText_40 : decode cX7_splitText 40 = .ok (.getfield 77, 3) := by decide +kernel
theorem dX7_splitText_43 : decode cX7_splitText 43 = .ok (.aload_n 0, 1) := by decide +kernel
theorem dX7_splitText_44 : decode cX7_splitText 44 = .ok (.iload_n 1, 1) := by decide +kernel
theorem dX7_splitText_45 : decode cX7_splitText 45 = .ok (.iload_n 3, 1) := by decide +kernel
theorem dX7_splitText_46 : decode cX7_splitText 46 = .ok (.invokevirtual 87, 3) := by decide +kernel
theorem dX7_splitText_49 : decode cX7_splitText 49 = .ok (.iastore, 1) := by decide +kernel
theorem dX7_splitText_50 : decode cX7_splitText 50 = .ok (.aload_n 0, 1) := by decide +kernel
theorem dX7_splitText_51 : decode cX7_splitText 51 = .ok (.getfield 30, 3) := by decide +kernel
theorem dX7_splitText_54 : decode cX7_splitText 54 = .ok (.aload_n 0, 1) := by decide +kernel
theorem dX7_splitText_55 : decode cX7_splitText 55 = .ok (.getfield 77, 3) := by decide +kernel
theorem dX7_splitText_58 : decode cX7_splitText 58 = .ok (.iload_n 1, 1) := by decide +kernel
theorem dX7_splitText_59 : decode cX7_splitText 59 = .ok (.iastore, 1) := by decide +kernel
theorem dX7_splitText_60 : decode cX7_splitText 60 = .ok (.aload_n 0, 1) := by decide +kernel
theorem dX7_splitText_61 : decode cX7_splitText 61 = .ok (.getfield 33, 3) := by decide +kernel
theorem dX7_splitText_64 : decode cX7_splitText 64 = .ok (.aload_n 0, 1) := by decide +kernel
theorem dX7_splitText_65 : decode cX7_splitText 65 = .ok (.getfield 77, 3) := by decide +kernel
theorem dX7_splitText_68 : decode cX7_splitText 68 = .ok (.aload_n 0, 1) := by decide +kernel
theorem dX7_splitText_69 : decode cX7_splitText 69 = .ok (.iload_n 1, 1) := by decide +kernel
theorem dX7_splitText_70 : decode cX7_splitText 70 = .ok (.iload_n 3, 1) := by decide +kernel
theorem dX7_splitText_71 : decode cX7_splitText 71 = .ok (.invokevirtual 91, 3) := by decide +kernel
theorem dX7_splitText_74 : decode cX7_splitText 74 = .ok (.iastore, 1) := by decide +kernel
theorem dX7_splitText_75 : decode cX7_splitText 75 = .ok (.aload_n 0, 1) := by decide +kernel
theorem dX7_splitText_76 : decode cX7_splitText 76 = .ok (.getfield 26, 3) := by decide +kernel
theorem dX7_splitText_79 : decode cX7_splitText 79 = .ok (.aload_n 0, 1) := by decide +kernel
theorem dX7_splitText_80 : decode cX7_splitText 80 = .ok (.getfield 77, 3) := by decide +kernel
theorem dX7_splitText_83 : decode cX7_splitText 83 = .ok (.iaload, 1) := by decide +kernel
theorem dX7_splitText_84 : decode cX7_splitText 84 = .ok (.ifCond .eq 20, 3) := by decide +kernel
theorem dX7_splitText_87 : decode cX7_splitText 87 = .ok (.aload_n 0, 1) := by decide +kernel
theorem dX7_splitText_88 : decode cX7_splitText 88 = .ok (.getfield 26, 3) := by decide +kernel
theorem dX7_splitText_91 : decode cX7_splitText 91 = .ok (.aload_n 0, 1) := by decide +kernel
theorem dX7_splitText_92 : decode cX7_splitText 92 = .ok (.getfield 77, 3) := by decide +kernel
theorem dX7_splitText_95 : decode cX7_splitText 95 = .ok (.iaload, 1) := by decide +kernel
theorem dX7_splitText_96 : decode cX7_splitText 96 = .ok (.iconst 1, 1) := by decide +kernel
theorem dX7_splitText_97 : decode cX7_splitText 97 = .ok (.if_icmp .eq 7, 3) := by decide +kernel
theorem dX7_splitText_100 : decode cX7_splitText 100 = .ok (.iconst 1, 1) := by decide +kernel
theorem dX7_splitText_101 : decode cX7_splitText 101 = .ok (.goto 4, 3) := by decide +kernel
theorem dX7_splitText_104 : decode cX7_splitText 104 = .ok (.iconst 0, 1) := by decide +kernel
theorem dX7_splitText_105 : decode cX7_splitText 105 = .ok (.istore_n 2, 1) := by decide +kernel
theorem dX7_splitText_106 : decode cX7_splitText 106 = .ok (.iload_n 3, 1) := by decide +kernel
theorem dX7_splitText_107 : decode cX7_splitText 107 = .ok (.istore_n 1, 1) := by decide +kernel
theorem dX7_splitText_108 : decode cX7_splitText 108 = .ok (.aload_n 0, 1) := by decide +kernel
theorem dX7_splitText_109 : decode cX7_splitText 109 = .ok (.dup, 1) := by decide +kernel
theorem dX7_splitText_110 : decode cX7_splitText 110 = .ok (.getfield 77, 3) := by decide +kernel
theorem dX7_splitText_113 : decode cX7_splitText 113 = .ok (.iconst 1, 1) := by decide +kernel
theorem dX7_splitText_114 : decode cX7_splitText 114 = .ok (.iadd, 1) := by decide +kernel
theorem dX7_splitText_115 : decode cX7_splitText 115 = .ok (.putfield 77, 3) := by decide +kernel
theorem dX7_splitText_118 : decode cX7_splitText 118 = .ok (.goto (-109), 3) := by decide +kernel
theorem dX7_splitText_121 : decode cX7_splitText 121 = .ok (.return_, 1) := by decide +kernel
theorem dX7_skipBlanks_0 : decode cX7_skipBlanks 0 = .ok (.iload_n 1, 1) := by decide +kernel
theorem dX7_skipBlanks_1 : decode cX7_skipBlanks 1 = .ok (.istore_n 2, 1) := by decide +kernel
theorem dX7_skipBlanks_2 : decode cX7_skipBlanks 2 = .ok (.iload_n 2, 1) := by decide +kernel
theorem dX7_skipBlanks_3 : decode cX7_skipBlanks 3 = .ok (.aload_n 0, 1) := by decide +kernel
theorem dX7_skipBlanks_4 : decode cX7_skipBlanks 4 = .ok (.getfield 94, 3) := by decide +kernel
theorem dX7_skipBlanks_7 : decode cX7_skipBlanks 7 = .ok (.if_icmp .ge 31, 3) := by decide +kernel
theorem dX7_skipBlanks_10 : decode cX7_skipBlanks 10 = .ok (.aload_n 0, 1) := by decide +kernel
theorem dX7_skipBlanks_11 : decode cX7_skipBlanks 11 = .ok (.getfield 9, 3) := by decide +kernel
theorem dX7_skipBlanks_14 : decode cX7_skipBlanks 14 = .ok (.iload_n 2, 1) := by decide +kernel
theorem dX7_skipBlanks_15 : decode cX7_skipBlanks 15 = .ok (.baload, 1) := by decide +kernel
theorem dX7_skipBlanks_16 : decode cX7_skipBlanks 16 = .ok (.bipush 32, 2) := by decide +kernel
theorem dX7_skipBlanks_18 : decode cX7_skipBlanks 18 = .ok (.if_icmp .eq 14, 3) := by decide +kernel
theorem dX7_skipBlanks_21 : decode cX7_skipBlanks 21 = .ok (.aload_n 0, 1) := by decide +kernel
theorem dX7_skipBlanks_22 : decode cX7_skipBlanks 22 = .ok (.getfield 9, 3) := by decide +kernel
theorem dX7_skipBlanks_25 : decode cX7_skipBlanks 25 = .ok (.iload_n 2, 1) := by decide +kernel
theorem dX7_skipBlanks_26 : decode cX7_skipBlanks 26 = .ok (.baload, 1) := by decide +kernel
theorem dX7_skipBlanks_27 : decode cX7_skipBlanks 27 = .ok (.bipush 10, 2) := by decide +kernel
theorem dX7_skipBlanks_29 : decode cX7_skipBlanks 29 = .ok (.if_icmp .ne 9, 3) := by decide +kernel
theorem dX7_skipBlanks_32 : decode cX7_skipBlanks 32 = .ok (.iinc 2 1, 3) := by decide +kernel
theorem dX7_skipBlanks_35 : decode cX7_skipBlanks 35 = .ok (.goto (-33), 3) := by decide +kernel
theorem dX7_skipBlanks_38 : decode cX7_skipBlanks 38 = .ok (.iload_n 2, 1) := by decide +kernel
theorem dX7_skipBlanks_39 : decode cX7_skipBlanks 39 = .ok (.ireturn, 1) := by decide +kernel
theorem dX7_endOfToken_0 : decode cX7_endOfToken 0 = .ok (.iload_n 1, 1) := by decide +kernel
theorem dX7_endOfToken_1 : decode cX7_endOfToken 1 = .ok (.aload_n 0, 1) := by decide +kernel
theorem dX7_endOfToken_2 : decode cX7_endOfToken 2 = .ok (.getfield 94, 3) := by decide +kernel
theorem dX7_endOfToken_5 : decode cX7_endOfToken 5 = .ok (.if_icmp .lt 5, 3) := by decide +kernel
theorem dX7_endOfToken_8 : decode cX7_endOfToken 8 = .ok (.iload_n 1, 1) := by decide +kernel
theorem dX7_endOfToken_9 : decode cX7_endOfToken 9 = .ok (.ireturn, 1) := by decide +kernel
theorem dX7_endOfToken_10 : decode cX7_endOfToken 10 = .ok (.iload_n 1, 1) := by decide +kernel
theorem dX7_endOfToken_11 : decode cX7_endOfToken 11 = .ok (.iconst 1, 1) := by decide +kernel
theorem dX7_endOfToken_12 : decode cX7_endOfToken 12 = .ok (.iadd, 1) := by decide +kernel
theorem dX7_endOfToken_13 : decode cX7_endOfToken 13 = .ok (.istore_n 2, 1) := by decide +kernel
theorem dX7_endOfToken_14 : decode cX7_endOfToken 14 = .ok (.iload_n 2, 1) := by decide +kernel
theorem dX7_endOfToken_15 : decode cX7_endOfToken 15 = .ok (.aload_n 0, 1) := by decide +kernel
theorem dX7_endOfToken_16 : decode cX7_endOfToken 16 = .ok (.getfield 94, 3) := by decide +kernel
theorem dX7_endOfToken_19 : decode cX7_endOfToken 19 = .ok (.if_icmp .ge 57, 3) := by decide +kernel
theorem dX7_endOfToken_22 : decode cX7_endOfToken 22 = .ok (.aload_n 0, 1) := by decide +kernel
theorem dX7_endOfToken_23 : decode cX7_endOfToken 23 = .ok (.getfield 9, 3) := by decide +kernel
theorem dX7_endOfToken_26 : decode cX7_endOfToken 26 = .ok (.iload_n 1, 1) := by decide +kernel
theorem dX7_endOfToken_27 : decode cX7_endOfToken 27 = .ok (.baload, 1) := by decide +kernel
theorem dX7_endOfToken_28 : decode cX7_endOfToken 28 = .ok (.invokestatic 97, 3) := by decide +kernel
theorem dX7_endOfToken_31 : decode cX7_endOfToken 31 = .ok (.ifCond .eq 15, 3) := by decide +kernel
theorem dX7_endOfToken_34 : decode cX7_endOfToken 34 = .ok (.aload_n 0, 1) := by decide +kernel
theorem dX7_endOfToken_35 : decode cX7_endOfToken 35 = .ok (.getfield 9, 3) := by decide +kernel
theorem dX7_endOfToken_38 : decode cX7_endOfToken 38 = .ok (.iload_n 2, 1) := by decide +kernel
theorem dX7_endOfToken_39 : decode cX7_endOfToken 39 = .ok (.baload, 1) := by decide +kernel
theorem dX7_endOfToken_40 : decode cX7_endOfToken 40 = .ok (.invokestatic 97, 3) := by decide +kernel
theorem dX7_endOfToken_43 : decode cX7_endOfToken 43 = .ok (.ifCond .ne 27, 3) := by decide +kernel
theorem dX7_endOfToken_46 : decode cX7_endOfToken 46 = .ok (.aload_n 0, 1) := by decide +kernel
theorem dX7_endOfToken_47 : decode cX7_endOfToken 47 = .ok (.getfield 9, 3) := by decide +kernel
theorem dX7_endOfToken_50 : decode cX7_endOfToken 50 = .ok (.iload_n 1, 1) := by decide +kernel
theorem dX7_endOfToken_51 : decode cX7_endOfToken 51 = .ok (.baload, 1) := by decide +kernel
theorem dX7_endOfToken_52 : decode cX7_endOfToken 52 = .ok (.invokestatic 101, 3) := by decide +kernel
theorem dX7_endOfToken_55 : decode cX7_endOfToken 55 = .ok (.ifCond .eq 21, 3) := by decide +kernel
theorem dX7_endOfToken_58 : decode cX7_endOfToken 58 = .ok (.aload_n 0, 1) := by decide +kernel
theorem dX7_endOfToken_59 : decode cX7_endOfToken 59 = .ok (.getfield 9, 3) := by decide +kernel
theorem dX7_endOfToken_62 : decode cX7_endOfToken 62 = .ok (.iload_n 2, 1) := by decide +kernel
theorem dX7_endOfToken_63 : decode cX7_endOfToken 63 = .ok (.baload, 1) := by decide +kernel
theorem dX7_endOfToken_64 : decode cX7_endOfToken 64 = .ok (.invokestatic 101, 3) := by decide +kernel
theorem dX7_endOfToken_67 : decode cX7_endOfToken 67 = .ok (.ifCond .eq 9, 3) := by decide +kernel
theorem dX7_endOfToken_70 : decode cX7_endOfToken 70 = .ok (.iinc 2 1, 3) := by decide +kernel
theorem dX7_endOfToken_73 : decode cX7_endOfToken 73 = .ok (.goto (-59), 3) := by decide +kernel
theorem dX7_endOfToken_76 : decode cX7_endOfToken 76 = .ok (.iload_n 2, 1) := by decide +kernel
theorem dX7_endOfToken_77 : decode cX7_endOfToken 77 = .ok (.ireturn, 1) := by decide +kernel
theorem dX7_isLetter_0 : decode cX7_isLetter 0 = .ok (.iload_n 0, 1) := by decide +kernel
theorem dX7_isLetter_1 : decode cX7_isLetter 1 = .ok (.bipush 97, 2) := by decide +kernel
theorem dX7_isLetter_3 : decode cX7_isLetter 3 = .ok (.if_icmp .lt 13, 3) := by decide +kernel
theorem dX7_isLetter_6 : decode cX7_isLetter 6 = .ok (.iload_n 0, 1) := by decide +kernel
theorem dX7_isLetter_7 : decode cX7_isLetter 7 = .ok (.bipush 122, 2) := by decide +kernel
theorem dX7_isLetter_9 : decode cX7_isLetter 9 = .ok (.if_icmp .gt 7, 3) := by decide +kernel
theorem dX7_isLetter_12 : decode cX7_isLetter 12 = .ok (.iconst 1, 1) := by decide +kernel
theorem dX7_isLetter_13 : decode cX7_isLetter 13 = .ok (.goto 4, 3) := by decide +kernel
theorem dX7_isLetter_16 : decode cX7_isLetter 16 = .ok (.iconst 0, 1) := by decide +kernel
theorem dX7_isLetter_17 : decode cX7_isLetter 17 = .ok (.ireturn, 1) := by decide +kernel
theorem dX7_isDigit_0 : decode cX7_isDigit 0 = .ok (.iload_n 0, 1) := by decide +kernel
theorem dX7_isDigit_1 : decode cX7_isDigit 1 = .ok (.bipush 48, 2) := by decide +kernel
theorem dX7_isDigit_3 : decode cX7_isDigit 3 = .ok (.if_icmp .lt 13, 3) := by decide +kernel
theorem dX7_isDigit_6 : decode cX7_isDigit 6 = .ok (.iload_n 0, 1) := by decide +kernel
theorem dX7_isDigit_7 : decode cX7_isDigit 7 = .ok (.bipush 57, 2) := by decide +kernel
theorem dX7_isDigit_9 : decode cX7_isDigit 9 = .ok (.if_icmp .gt 7, 3) := by decide +kernel
theorem dX7_isDigit_12 : decode cX7_isDigit 12 = .ok (.iconst 1, 1) := by decide +kernel
theorem dX7_isDigit_13 : decode cX7_isDigit 13 = .ok (.goto 4, 3) := by decide +kernel
theorem dX7_isDigit_16 : decode cX7_isDigit 16 = .ok (.iconst 0, 1) := by decide +kernel
theorem dX7_isDigit_17 : decode cX7_isDigit 17 = .ok (.ireturn, 1) := by decide +kernel
theorem dX7_kindOf_0 : decode cX7_kindOf 0 = .ok (.iload_n 1, 1) := by decide +kernel
theorem dX7_kindOf_1 : decode cX7_kindOf 1 = .ok (.iload_n 2, 1) := by decide +kernel
theorem dX7_kindOf_2 : decode cX7_kindOf 2 = .ok (.if_icmp .lt 5, 3) := by decide +kernel
theorem dX7_kindOf_5 : decode cX7_kindOf 5 = .ok (.iconst 0, 1) := by decide +kernel
theorem dX7_kindOf_6 : decode cX7_kindOf 6 = .ok (.ireturn, 1) := by decide +kernel
theorem dX7_kindOf_7 : decode cX7_kindOf 7 = .ok (.aload_n 0, 1) := by decide +kernel
theorem dX7_kindOf_8 : decode cX7_kindOf 8 = .ok (.getfield 9, 3) := by decide +kernel
theorem dX7_kindOf_11 : decode cX7_kindOf 11 = .ok (.iload_n 1, 1) := by decide +kernel
theorem dX7_kindOf_12 : decode cX7_kindOf 12 = .ok (.baload, 1) := by decide +kernel
theorem dX7_kindOf_13 : decode cX7_kindOf 13 = .ok (.istore_n 3, 1) := by decide +kernel
theorem dX7_kindOf_14 : decode cX7_kindOf 14 = .ok (.iload_n 3, 1) := by decide +kernel
theorem dX7_kindOf_15 : decode cX7_kindOf 15 = .ok (.invokestatic 101, 3) := by decide +kernel
theorem dX7_kindOf_18 : decode cX7_kindOf 18 = .ok (.ifCond .eq 7, 3) := by decide +kernel
theorem dX7_kindOf_21 : decode cX7_kindOf 21 = .ok (.sipush 200, 3) := by decide +kernel
theorem dX7_kindOf_24 : decode cX7_kindOf 24 = .ok (.ireturn, 1) := by decide +kernel
theorem dX7_kindOf_25 : decode cX7_kindOf 25 = .ok (.iload_n 3, 1) := by decide +kernel
theorem dX7_kindOf_26 : decode cX7_kindOf 26 = .ok (.invokestatic 97, 3) := by decide +kernel
theorem dX7_kindOf_29 : decode cX7_kindOf 29 = .ok (.ifCond .eq 10, 3) := by decide +kernel
theorem dX7_kindOf_32 : decode cX7_kindOf 32 = .ok (.aload_n 0, 1) := by decide +kernel
theorem dX7_kindOf_33 : decode cX7_kindOf 33 = .ok (.iload_n 1, 1) := by decide +kernel
theorem dX7_kindOf_34 : decode cX7_kindOf 34 = .ok (.iload_n 2, 1) := by decide +kernel
theorem dX7_kindOf_35 : decode cX7_kindOf 35 = .ok (.invokevirtual 104, 3) := by decide +kernel
theorem dX7_kindOf_38 : decode cX7_kindOf 38 = .ok (.ireturn, 1) := by decide +kernel
theorem dX7_kindOf_39 : decode cX7_kindOf 39 = .ok (.ldc 107, 2) := by decide +kernel
theorem dX7_kindOf_41 : decode cX7_kindOf 41 = .ok (.iload_n 3, 1) := by decide +kernel
theorem dX7_kindOf_42 : decode cX7_kindOf 42 = .ok (.sipush 255, 3) := by decide +kernel
theorem dX7_kindOf_45 : decode cX7_kindOf 45 = .ok (.iand, 1) := by decide +kernel
theorem dX7_kindOf_46 : decode cX7_kindOf 46 = .ok (.i2c, 1) := by decide +kernel
theorem dX7_kindOf_47 : decode cX7_kindOf 47 = .ok (.invokevirtual 109, 3) := by decide +kernel
theorem dX7_kindOf_50 : decode cX7_kindOf 50 = .ok (.ifCond .lt 7, 3) := by decide +kernel
theorem dX7_kindOf_53 : decode cX7_kindOf 53 = .ok (.iload_n 3, 1) := by decide +kernel
theorem dX7_kindOf_54 : decode cX7_kindOf 54 = .ok (.goto 4, 3) := by decide +kernel
theorem dX7_kindOf_57 : decode cX7_kindOf 57 = .ok (.iconst 1, 1) := by decide +kernel
theorem dX7_kindOf_58 : decode cX7_kindOf 58 = .ok (.ireturn, 1) := by decide +kernel
theorem dX7_kindOfWord_0 : decode cX7_kindOfWord 0 = .ok (.sipush 201, 3) := by decide +kernel
theorem dX7_kindOfWord_3 : decode cX7_kindOfWord 3 = .ok (.istore_n 3, 1) := by decide +kernel
theorem dX7_kindOfWord_4 : decode cX7_kindOfWord 4 = .ok (.iconst 0, 1) := by decide +kernel
theorem dX7_kindOfWord_5 : decode cX7_kindOfWord 5 = .ok (.istore 4, 2) := by decide +kernel
theorem dX7_kindOfWord_7 : decode cX7_kindOfWord 7 = .ok (.iconst 0, 1) := by decide +kernel
theorem dX7_kindOfWord_8 : decode cX7_kindOfWord 8 = .ok (.istore 5, 2) := by decide +kernel
theorem dX7_kindOfWord_10 : decode cX7_kindOfWord 10 = .ok (.iload 5, 2) := by decide +kernel
theorem dX7_kindOfWord_12 : decode cX7_kindOfWord 12 = .ok (.ldc 114, 2) := by decide +kernel
theorem dX7_kindOfWord_14 : decode cX7_kindOfWord 14 = .ok (.invokevirtual 116, 3) := by decide +kernel
theorem dX7_kindOfWord_17 : decode cX7_kindOfWord 17 = .ok (.if_icmp .ge 45, 3) := by decide +kernel
theorem dX7_kindOfWord_20 : decode cX7_kindOfWord 20 = .ok (.ldc 114, 2) := by decide +kernel
theorem dX7_kindOfWord_22 : decode cX7_kindOfWord 22 = .ok (.iload 5, 2) := by decide +kernel
theorem dX7_kindOfWord_24 : decode cX7_kindOfWord 24 = .ok (.invokevirtual 118, 3) := by decide +kernel
theorem dX7_kindOfWord_27 : decode cX7_kindOfWord 27 = .ok (.bipush 32, 2) := by decide +kernel
theorem dX7_kindOfWord_29 : decode cX7_kindOfWord 29 = .ok (.if_icmp .ne 27, 3) := by decide +kernel
theorem dX7_kindOfWord_32 : decode cX7_kindOfWord 32 = .ok (.aload_n 0, 1) := by decide +kernel
theorem dX7_kindOfWord_33 : decode cX7_kindOfWord 33 = .ok (.iload 4, 2) := by decide +kernel
theorem dX7_kindOfWord_35 : decode cX7_kindOfWord 35 = .ok (.iload 5, 2) := by decide +kernel
theorem dX7_kindOfWord_37 : decode cX7_kindOfWord 37 = .ok (.iload_n 1, 1) := by decide +kernel
theorem dX7_kindOfWord_38 : decode cX7_kindOfWord 38 = .ok (.iload_n 2, 1) := by decide +kernel
theorem dX7_kindOfWord_39 : decode cX7_kindOfWord 39 = .ok (.invokevirtual 122, 3) := by decide +kernel
theorem dX7_kindOfWord_42 : decode cX7_kindOfWord 42 = .ok (.ifCond .eq 5, 3) := by decide +kernel
theorem dX7_kindOfWord_45 : decode cX7_kindOfWord 45 = .ok (.iload_n 3, 1) := by decide +kernel
theorem dX7_kindOfWord_46 : decode cX7_kindOfWord 46 = .ok (.ireturn, 1) := by decide +kernel
theorem dX7_kindOfWord_47 : decode cX7_kindOfWord 47 = .ok (.iinc 3 1, 3) := by decide +kernel
theorem dX7_kindOfWord_50 : decode cX7_kindOfWord 50 = .ok (.iload 5, 2) := by decide +kernel
theorem dX7_kindOfWord_52 : decode cX7_kindOfWord 52 = .ok (.iconst 1, 1) := by decide +kernel
theorem dX7_kindOfWord_53 : decode cX7_kindOfWord 53 = .ok (.iadd, 1) := by decide +kernel
theorem dX7_kindOfWord_54 : decode cX7_kindOfWord 54 = .ok (.istore 4, 2) := by decide +kernel
theorem dX7_kindOfWord_56 : decode cX7_kindOfWord 56 = .ok (.iinc 5 1, 3) := by decide +kernel
theorem dX7_kindOfWord_59 : decode cX7_kindOfWord 59 = .ok (.goto (-49), 3) := by decide +kernel
theorem dX7_kindOfWord_62 : decode cX7_kindOfWord 62 = .ok (.iconst 1, 1) := by decide +kernel
theorem dX7_kindOfWord_63 : decode cX7_kindOfWord 63 = .ok (.ireturn, 1) := by decide +kernel
theorem dX7_isWord_0 : decode cX7_isWord 0 = .ok (.iload_n 2, 1) := by decide +kernel
theorem dX7_isWord_1 : decode cX7_isWord 1 = .ok (.iload_n 1, 1) := by decide +kernel
theorem dX7_isWord_2 : decode cX7_isWord 2 = .ok (.isub, 1) := by decide +kernel
theorem dX7_isWord_3 : decode cX7_isWord 3 = .ok (.iload 4, 2) := by decide +kernel
theorem dX7_isWord_5 : decode cX7_isWord 5 = .ok (.iload_n 3, 1) := by decide +kernel
theorem dX7_isWord_6 : decode cX7_isWord 6 = .ok (.isub, 1) := by decide +kernel
theorem dX7_isWord_7 : decode cX7_isWord 7 = .ok (.if_icmp .eq 5, 3) := by decide +kernel
theorem dX7_isWord_10 : decode cX7_isWord 10 = .ok (.iconst 0, 1) := by decide +kernel
theorem dX7_isWord_11 : decode cX7_isWord 11 = .ok (.ireturn, 1) := by decide +kernel
theorem dX7_isWord_12 : decode cX7_isWord 12 = .ok (.iconst 0, 1) := by decide +kernel
theorem dX7_isWord_13 : decode cX7_isWord 13 = .ok (.istore 5, 2) := by decide +kernel
theorem dX7_isWord_15 : decode cX7_isWord 15 = .ok (.iload 5, 2) := by decide +kernel
theorem dX7_isWord_17 : decode cX7_isWord 17 = .ok (.iload_n 2, 1) := by decide +kernel
theorem dX7_isWord_18 : decode cX7_isWord 18 = .ok (.iload_n 1, 1) := by decide +kernel
theorem dX7_isWord_19 : decode cX7_isWord 19 = .ok (.isub, 1) := by decide +kernel
theorem dX7_isWord_20 : decode cX7_isWord 20 = .ok (.if_icmp .ge 32, 3) := by decide +kernel
theorem dX7_isWord_23 : decode cX7_isWord 23 = .ok (.ldc 114, 2) := by decide +kernel
theorem dX7_isWord_25 : decode cX7_isWord 25 = .ok (.iload_n 1, 1) := by decide +kernel
theorem dX7_isWord_26 : decode cX7_isWord 26 = .ok (.iload 5, 2) := by decide +kernel
theorem dX7_isWord_28 : decode cX7_isWord 28 = .ok (.iadd, 1) := by decide +kernel
theorem dX7_isWord_29 : decode cX7_isWord 29 = .ok (.invokevirtual 118, 3) := by decide +kernel
theorem dX7_isWord_32 : decode cX7_isWord 32 = .ok (.aload_n 0, 1) := by decide +kernel
theorem dX7_isWord_33 : decode cX7_isWord 33 = .ok (.getfield 9, 3) := by decide +kernel
theorem dX7_isWord_36 : decode cX7_isWord 36 = .ok (.iload_n 3, 1) := by decide +kernel
theorem dX7_isWord_37 : decode cX7_isWord 37 = .ok (.iload 5, 2) := by decide +kernel
theorem dX7_isWord_39 : decode cX7_isWord 39 = .ok (.iadd, 1) := by decide +kernel
theorem dX7_isWord_40 : decode cX7_isWord 40 = .ok (.baload, 1) := by decide +kernel
theorem dX7_isWord_41 : decode cX7_isWord 41 = .ok (.if_icmp .eq 5, 3) := by decide +kernel
theorem dX7_isWord_44 : decode cX7_isWord 44 = .ok (.iconst 0, 1) := by decide +kernel
theorem dX7_isWord_45 : decode cX7_isWord 45 = .ok (.ireturn, 1) := by decide +kernel
theorem dX7_isWord_46 : decode cX7_isWord 46 = .ok (.iinc 5 1, 3) := by decide +kernel
theorem dX7_isWord_49 : decode cX7_isWord 49 = .ok (.goto (-34), 3) := by decide +kernel
theorem dX7_isWord_52 : decode cX7_isWord 52 = .ok (.iconst 1, 1) := by decide +kernel
theorem dX7_isWord_53 : decode cX7_isWord 53 = .ok (.ireturn, 1) := by decide +kernel
theorem dX7_numberIn_0 : decode cX7_numberIn 0 = .ok (.iconst 0, 1) := by decide +kernel
theorem dX7_numberIn_1 : decode cX7_numberIn 1 = .ok (.istore_n 3, 1) := by decide +kernel
theorem dX7_numberIn_2 : decode cX7_numberIn 2 = .ok (.iload_n 1, 1) := by decide +kernel
theorem dX7_numberIn_3 : decode cX7_numberIn 3 = .ok (.istore 4, 2) := by decide +kernel
theorem dX7_numberIn_5 : decode cX7_numberIn 5 = .ok (.iload 4, 2) := by decide +kernel
theorem dX7_numberIn_7 : decode cX7_numberIn 7 = .ok (.iload_n 2, 1) := by decide +kernel
theorem dX7_numberIn_8 : decode cX7_numberIn 8 = .ok (.if_icmp .ge 43, 3) := by decide +kernel
theorem dX7_numberIn_11 : decode cX7_numberIn 11 = .ok (.aload_n 0, 1) := by decide +kernel
theorem dX7_numberIn_12 : decode cX7_numberIn 12 = .ok (.getfield 9, 3) := by decide +kernel
theorem dX7_numberIn_15 : decode cX7_numberIn 15 = .ok (.iload 4, 2) := by decide +kernel
theorem dX7_numberIn_17 : decode cX7_numberIn 17 = .ok (.baload, 1) := by decide +kernel
theorem dX7_numberIn_18 : decode cX7_numberIn 18 = .ok (.invokestatic 101, 3) := by decide +kernel
theorem dX7_numberIn_21 : decode cX7_numberIn 21 = .ok (.ifCond .eq 30, 3) := by decide +kernel
theorem dX7_numberIn_24 : decode cX7_numberIn 24 = .ok (.iload_n 3, 1) := by decide +kernel
theorem dX7_numberIn_25 : decode cX7_numberIn 25 = .ok (.bipush 10, 2) := by decide +kernel
theorem dX7_numberIn_27 : decode cX7_numberIn 27 = .ok (.imul, 1) := by decide +kernel
theorem dX7_numberIn_28 : decode cX7_numberIn 28 = .ok (.aload_n 0, 1) := by decide +kernel
theorem dX7_numberIn_29 : decode cX7_numberIn 29 = .ok (.getfield 9, 3) := by decide +kernel
theorem dX7_numberIn_32 : decode cX7_numberIn 32 = .ok (.iload 4, 2) := by decide +kernel
theorem dX7_numberIn_34 : decode cX7_numberIn 34 = .ok (.baload, 1) := by decide +kernel
theorem dX7_numberIn_35 : decode cX7_numberIn 35 = .ok (.iadd, 1) := by decide +kernel
theorem dX7_numberIn_36 : decode cX7_numberIn 36 = .ok (.bipush 48, 2) := by decide +kernel
theorem dX7_numberIn_38 : decode cX7_numberIn 38 = .ok (.isub, 1) := by decide +kernel
theorem dX7_numberIn_39 : decode cX7_numberIn 39 = .ok (.ldc 126, 2) := by decide +kernel
theorem dX7_numberIn_41 : decode cX7_numberIn 41 = .ok (.invokestatic 127, 3) := by decide +kernel
theorem dX7_numberIn_44 : decode cX7_numberIn 44 = .ok (.istore_n 3, 1) := by decide +kernel
theorem dX7_numberIn_45 : decode cX7_numberIn 45 = .ok (.iinc 4 1, 3) := by decide +kernel
theorem dX7_numberIn_48 : decode cX7_numberIn 48 = .ok (.goto (-43), 3) := by decide +kernel
theorem dX7_numberIn_51 : decode cX7_numberIn 51 = .ok (.iload_n 3, 1) := by decide +kernel
theorem dX7_numberIn_52 : decode cX7_numberIn 52 = .ok (.ireturn, 1) := by decide +kernel
theorem dX7_kind_0 : decode cX7_kind 0 = .ok (.aload_n 0, 1) := by decide +kernel
theorem dX7_kind_1 : decode cX7_kind 1 = .ok (.getfield 57, 3) := by decide +kernel
theorem dX7_kind_4 : decode cX7_kind 4 = .ok (.aload_n 0, 1) := by decide +kernel
theorem dX7_kind_5 : decode cX7_kind 5 = .ok (.getfield 77, 3) := by decide +kernel
theorem dX7_kind_8 : decode cX7_kind 8 = .ok (.if_icmp .ge 15, 3) := by decide +kernel
theorem dX7_kind_11 : decode cX7_kind 11 = .ok (.aload_n 0, 1) := by decide +kernel
theorem dX7_kind_12 : decode cX7_kind 12 = .ok (.getfield 26, 3) := by decide +kernel
theorem dX7_kind_15 : decode cX7_kind 15 = .ok (.aload_n 0, 1) := by decide +kernel
theorem dX7_kind_16 : decode cX7_kind 16 = .ok (.getfield 57, 3) := by decide +kernel
theorem dX7_kind_19 : decode cX7_kind 19 = .ok (.iaload, 1) := by decide +kernel
theorem dX7_kind_20 : decode cX7_kind 20 = .ok (.goto 4, 3) := by decide +kernel
theorem dX7_kind_23 : decode cX7_kind 23 = .ok (.iconst 0, 1) := by decide +kernel
theorem dX7_kind_24 : decode cX7_kind 24 = .ok (.ireturn, 1) := by decide +kernel
theorem dX7_fail_0 : decode cX7_fail 0 = .ok (.aload_n 0, 1) := by decide +kernel
theorem dX7_fail_1 : decode cX7_fail 1 = .ok (.iload_n 1, 1) := by decide +kernel
theorem dX7_fail_2 : decode cX7_fail 2 = .ok (.putfield 45, 3) := by decide +kernel
theorem dX7_fail_5 : decode cX7_fail 5 = .ok (.aload_n 0, 1) := by decide +kernel
theorem dX7_fail_6 : decode cX7_fail 6 = .ok (.aload_n 0, 1) := by decide +kernel
theorem dX7_fail_7 : decode cX7_fail 7 = .ok (.getfield 57, 3) := by decide +kernel
theorem dX7_fail_10 : decode cX7_fail 10 = .ok (.aload_n 0, 1) := by decide +kernel
theorem dX7_fail_11 : decode cX7_fail 11 = .ok (.getfield 77, 3) := by decide +kernel
theorem dX7_fail_14 : decode cX7_fail 14 = .ok (.if_icmp .ge 15, 3) := by decide +kernel
theorem dX7_fail_17 : decode cX7_fail 17 = .ok (.aload_n 0, 1) := by decide +kernel
theorem dX7_fail_18 : decode cX7_fail 18 = .ok (.getfield 30, 3) := by decide +kernel
theorem dX7_fail_21 : decode cX7_fail 21 = .ok (.aload_n 0, 1) := by decide +kernel
theorem dX7_fail_22 : decode cX7_fail 22 = .ok (.getfield 57, 3) := by decide +kernel
theorem dX7_fail_25 : decode cX7_fail 25 = .ok (.iaload, 1) := by decide +kernel
theorem dX7_fail_26 : decode cX7_fail 26 = .ok (.goto 7, 3) := by decide +kernel
theorem dX7_fail_29 : decode cX7_fail 29 = .ok (.aload_n 0, 1) := by decide +kernel
theorem dX7_fail_30 : decode cX7_fail 30 = .ok (.getfield 94, 3) := by decide +kernel
theorem dX7_fail_33 : decode cX7_fail 33 = .ok (.putfield 15, 3) := by decide +kernel
theorem dX7_fail_36 : decode cX7_fail 36 = .ok (.iconst 0, 1) := by decide +kernel
theorem dX7_fail_37 : decode cX7_fail 37 = .ok (.ireturn, 1) := by decide +kernel
theorem dX7_take_0 : decode cX7_take 0 = .ok (.aload_n 0, 1) := by decide +kernel
theorem dX7_take_1 : decode cX7_take 1 = .ok (.invokevirtual 60, 3) := by decide +kernel
theorem dX7_take_4 : decode cX7_take 4 = .ok (.iload_n 1, 1) := by decide +kernel
theorem dX7_take_5 : decode cX7_take 5 = .ok (.if_icmp .eq 9, 3) := by decide +kernel
theorem dX7_take_8 : decode cX7_take 8 = .ok (.aload_n 0, 1) := by decide +kernel
theorem dX7_take_9 : decode cX7_take 9 = .ok (.iconst 1, 1) := by decide +kernel
theorem dX7_take_10 : decode cX7_take 10 = .ok (.invokevirtual 74, 3) := by decide +kernel
theorem dX7_take_13 : decode cX7_take 13 = .ok (.ireturn, 1) := by decide +kernel
theorem dX7_take_14 : decode cX7_take 14 = .ok (.aload_n 0, 1) := by decide +kernel
theorem dX7_take_15 : decode cX7_take 15 = .ok (.dup, 1) := by decide +kernel
theorem dX7_take_16 : decode cX7_take 16 = .ok (.getfield 57, 3) := by decide +kernel
theorem dX7_take_19 : decode cX7_take 19 = .ok (.iconst 1, 1) := by decide +kernel
theorem dX7_take_20 : decode cX7_take 20 = .ok (.iadd, 1) := by decide +kernel
theorem dX7_take_21 : decode cX7_take 21 = .ok (.putfield 57, 3) := by decide +kernel
theorem dX7_take_24 : decode cX7_take 24 = .ok (.iconst 1, 1) := by decide +kernel
theorem dX7_take_25 : decode cX7_take 25 = .ok (.ireturn, 1) := by decide +kernel
theorem dX7_readTest_0 : decode cX7_readTest 0 = .ok (.aload_n 0, 1) := by decide +kernel
theorem dX7_readTest_1 : decode cX7_readTest 1 = .ok (.getfield 22, 3) := by decide +kernel
theorem dX7_readTest_4 : decode cX7_readTest 4 = .ok (.getfield 132, 3) := by decide +kernel
theorem dX7_readTest_7 : decode cX7_readTest 7 = .ok (.iload_n 1, 1) := by decide +kernel
theorem dX7_readTest_8 : decode cX7_readTest 8 = .ok (.aload_n 0, 1) := by decide +kernel
theorem dX7_readTest_9 : decode cX7_readTest 9 = .ok (.getfield 22, 3) := by decide +kernel
theorem dX7_readTest_12 : decode cX7_readTest 12 = .ok (.getfield 48, 3) := by decide +kernel
theorem dX7_readTest_15 : decode cX7_readTest 15 = .ok (.iastore, 1) := by decide +kernel
theorem dX7_readTest_16 : decode cX7_readTest 16 = .ok (.aload_n 0, 1) := by decide +kernel
theorem dX7_readTest_17 : decode cX7_readTest 17 = .ok (.invokevirtual 60, 3) := by decide +kernel
theorem dX7_readTest_20 : decode cX7_readTest 20 = .ok (.sipush 201, 3) := by decide +kernel
theorem dX7_readTest_23 : decode cX7_readTest 23 = .ok (.if_icmp .ne 7, 3) := by decide +kernel
theorem dX7_readTest_26 : decode cX7_readTest 26 = .ok (.iconst 1, 1) := by decide +kernel
theorem dX7_readTest_27 : decode cX7_readTest 27 = .ok (.goto 4, 3) := by decide +kernel
theorem dX7_readTest_30 : decode cX7_readTest 30 = .ok (.iconst 0, 1) := by decide +kernel
theorem dX7_readTest_31 : decode cX7_readTest 31 = .ok (.istore_n 2, 1) := by decide +kernel
theorem dX7_readTest_32 : decode cX7_readTest 32 = .ok (.iconst 1, 1) := by decide +kernel
theorem dX7_readTest_33 : decode cX7_readTest 33 = .ok (.istore_n 3, 1) := by decide +kernel
theorem dX7_readTest_34 : decode cX7_readTest 34 = .ok (.iload_n 2, 1) := by decide +kernel
theorem dX7_readTest_35 : decode cX7_readTest 35 = .ok (.istore 4, 2) := by decide +kernel
theorem dX7_readTest_37 : decode cX7_readTest 37 = .ok (.iconst 0, 1) := by decide +kernel
theorem dX7_readTest_38 : decode cX7_readTest 38 = .ok (.istore 5, 2) := by decide +kernel
theorem dX7_readTest_40 : decode cX7_readTest 40 = .ok (.iload_n 3, 1) := by decide +kernel
theorem dX7_readTest_41 : decode cX7_readTest 41 = .ok (.ifCond .eq 171, 3) := by decide +kernel
theorem dX7_readTest_44 : decode cX7_readTest 44 = .ok (.iload 4, 2) := by decide +kernel
theorem dX7_readTest_46 : decode cX7_readTest 46 = .ok (.ifCond .eq 166, 3) := by decide +kernel
theorem dX7_readTest_49 : decode cX7_readTest 49 = .ok (.iload 5, 2) := by decide +kernel
theorem dX7_readTest_51 : decode cX7_readTest 51 = .ok (.sipush 500, 3) := by decide +kernel
theorem dX7_readTest_54 : decode cX7_readTest 54 = .ok (.if_icmp .ge 158, 3) := by decide +kernel
theorem dX7_readTest_57 : decode cX7_readTest 57 = .ok (.aload_n 0, 1) := by decide +kernel
theorem dX7_readTest_58 : decode cX7_readTest 58 = .ok (.dup, 1) := by decide +kernel
theorem dX7_readTest_59 : decode cX7_readTest 59 = .ok (.getfield 57, 3) := by decide +kernel
theorem dX7_readTest_62 : decode cX7_readTest 62 = .ok (.iconst 1, 1) := by decide +kernel
theorem dX7_readTest_63 : decode cX7_readTest 63 = .ok (.iadd, 1) := by decide +kernel
theorem dX7_readTest_64 : decode cX7_readTest 64 = .ok (.putfield 57, 3) := by decide +kernel
theorem dX7_readTest_67 : decode cX7_readTest 67 = .ok (.aload_n 0, 1) := by decide +kernel
theorem dX7_readTest_68 : decode cX7_readTest 68 = .ok (.invokevirtual 60, 3) := by decide +kernel
theorem dX7_readTest_71 : decode cX7_readTest 71 = .ok (.sipush 204, 3) := by decide +kernel
theorem dX7_readTest_74 : decode cX7_readTest 74 = .ok (.if_icmp .ne 7, 3) := by decide +kernel
theorem dX7_readTest_77 : decode cX7_readTest 77 = .ok (.iconst 1, 1) := by decide +kernel
theorem dX7_readTest_78 : decode cX7_readTest 78 = .ok (.goto 4, 3) := by decide +kernel
theorem dX7_readTest_81 : decode cX7_readTest 81 = .ok (.iconst 0, 1) := by decide +kernel
theorem dX7_readTest_82 : decode cX7_readTest 82 = .ok (.istore 6, 2) := by decide +kernel
theorem dX7_readTest_84 : decode cX7_readTest 84 = .ok (.iload 6, 2) := by decide +kernel
theorem dX7_readTest_86 : decode cX7_readTest 86 = .ok (.ifCond .eq 13, 3) := by decide +kernel
theorem dX7_readTest_89 : decode cX7_readTest 89 = .ok (.aload_n 0, 1) := by decide +kernel
theorem dX7_readTest_90 : decode cX7_readTest 90 = .ok (.dup, 1) := by decide +kernel
theorem dX7_readTest_91 : decode cX7_readTest 91 = .ok (.getfield 57, 3) := by decide +kernel
theorem dX7_readTest_94 : decode cX7_readTest 94 = .ok (.iconst 1, 1) := by decide +kernel
theorem dX7_readTest_95 : decode cX7_readTest 95 = .ok (.iadd, 1) := by decide +kernel
theorem dX7_readTest_96 : decode cX7_readTest 96 = .ok (.putfield 57, 3) := by decide +kernel
theorem dX7_readTest_99 : decode cX7_readTest 99 = .ok (.aload_n 0, 1) := by decide +kernel
theorem dX7_readTest_100 : decode cX7_readTest 100 = .ok (.iconst 0, 1) := by decide +kernel
theorem dX7_readTest_101 : decode cX7_readTest 101 = .ok (.invokevirtual 135, 3) := by decide +kernel
theorem dX7_readTest_104 : decode cX7_readTest 104 = .ok (.istore_n 3, 1) := by decide +kernel
theorem dX7_readTest_105 : decode cX7_readTest 105 = .ok (.aload_n 0, 1) := by decide +kernel
theorem dX7_readTest_106 : decode cX7_readTest 106 = .ok (.invokevirtual 60, 3) := by decide +kernel
theorem dX7_readTest_109 : decode cX7_readTest 109 = .ok (.istore 7, 2) := by decide +kernel
theorem dX7_readTest_111 : decode cX7_readTest 111 = .ok (.iload_n 3, 1) := by decide +kernel
theorem dX7_readTest_112 : decode cX7_readTest 112 = .ok (.ifCond .eq 22, 3) := by decide +kernel
theorem dX7_readTest_115 : decode cX7_readTest 115 = .ok (.aload_n 0, 1) := by decide +kernel
theorem dX7_readTest_116 : decode cX7_readTest 116 = .ok (.invokevirtual 138, 3) := by decide +kernel
theorem dX7_readTest_119 : decode cX7_readTest 119 = .ok (.ifCond .eq 15, 3) := by decide +kernel
theorem dX7_readTest_122 : decode cX7_readTest 122 = .ok (.aload_n 0, 1) := by decide +kernel
theorem dX7_readTest_123 : decode cX7_readTest 123 = .ok (.iconst 0, 1) := by decide +kernel
theorem dX7_readTest_124 : decode cX7_readTest 124 = .ok (.invokevirtual 135, 3) := by decide +kernel
theorem dX7_readTest_127 : decode cX7_readTest 127 = .ok (.ifCond .eq 7, 3) := by decide +kernel
theorem dX7_readTest_130 : decode cX7_readTest 130 = .ok (.iconst 1, 1) := by decide +kernel
theorem dX7_readTest_131 : decode cX7_readTest 131 = .ok (.goto 4, 3) := by decide +kernel
theorem dX7_readTest_134 : decode cX7_readTest 134 = .ok (.iconst 0, 1) := by decide +kernel
theorem dX7_readTest_135 : decode cX7_readTest 135 = .ok (.istore_n 3, 1) := by decide +kernel
theorem dX7_readTest_136 : decode cX7_readTest 136 = .ok (.aload_n 0, 1) := by decide +kernel
theorem dX7_readTest_137 : decode cX7_readTest 137 = .ok (.getfield 22, 3) := by decide +kernel
theorem dX7_readTest_140 : decode cX7_readTest 140 = .ok (.iload 7, 2) := by decide +kernel
theorem dX7_readTest_142 : decode cX7_readTest 142 = .ok (.iconst 0, 1) := by decide +kernel
theorem dX7_readTest_143 : decode cX7_readTest 143 = .ok (.invokevirtual 142, 3) := by decide +kernel
theorem dX7_readTest_146 : decode cX7_readTest 146 = .ok (.iload 6, 2) := by decide +kernel
theorem dX7_readTest_148 : decode cX7_readTest 148 = .ok (.ifCond .eq 14, 3) := by decide +kernel
theorem dX7_readTest_151 : decode cX7_readTest 151 = .ok (.aload_n 0, 1) := by decide +kernel
theorem dX7_readTest_152 : decode cX7_readTest 152 = .ok (.getfield 22, 3) := by decide +kernel
theorem dX7_readTest_155 : decode cX7_readTest 155 = .ok (.sipush 204, 3) := by decide +kernel
theorem dX7_readTest_158 : decode cX7_readTest 158 = .ok (.iconst 0, 1) := by decide +kernel
theorem dX7_readTest_159 : decode cX7_readTest 159 = .ok (.invokevirtual 142, 3) := by decide +kernel
theorem dX7_readTest_162 : decode cX7_readTest 162 = .ok (.aload_n 0, 1) := by decide +kernel
theorem dX7_readTest_163 : decode cX7_readTest 163 = .ok (.invokevirtual 60, 3) := by decide +kernel
theorem dX7_readTest_166 : decode cX7_readTest 166 = .ok (.sipush 203, 3) := by decide +kernel
theorem dX7_readTest_169 : decode cX7_readTest 169 = .ok (.if_icmp .eq 13, 3) := by decide +kernel
theorem dX7_readTest_172 : decode cX7_readTest 172 = .ok (.aload_n 0, 1) := by decide +kernel
theorem dX7_readTest_173 : decode cX7_readTest 173 = .ok (.invokevirtual 60, 3) := by decide +kernel
theorem dX7_readTest_176 : decode cX7_readTest 176 = .ok (.sipush 202, 3) := by decide +kernel
theorem dX7_readTest_179 : decode cX7_readTest 179 = .ok (.if_icmp .ne 7, 3) := by decide +kernel
theorem dX7_readTest_182 : decode cX7_readTest 182 = .ok (.iconst 1, 1) := by decide +kernel
theorem dX7_readTest_183 : decode cX7_readTest 183 = .ok (.goto 4, 3) := by decide +kernel
theorem dX7_readTest_186 : decode cX7_readTest 186 = .ok (.iconst 0, 1) := by decide +kernel
theorem dX7_readTest_187 : decode cX7_readTest 187 = .ok (.istore 4, 2) := by decide +kernel
theorem dX7_readTest_189 : decode cX7_readTest 189 = .ok (.iload 4, 2) := by decide +kernel
theorem dX7_readTest_191 : decode cX7_readTest 191 = .ok (.ifCond .eq 15, 3) := by decide +kernel
theorem dX7_readTest_194 : decode cX7_readTest 194 = .ok (.aload_n 0, 1) := by decide +kernel
theorem dX7_readTest_195 : decode cX7_readTest 195 = .ok (.getfield 22, 3) := by decide +kernel
theorem dX7_readTest_198 : decode cX7_readTest 198 = .ok (.aload_n 0, 1) := by decide +kernel
theorem dX7_readTest_199 : decode cX7_readTest 199 = .ok (.invokevirtual 60, 3) := by decide +kernel
theorem dX7_readTest_202 : decode cX7_readTest 202 = .ok (.iconst 0, 1) := by decide +kernel
theorem dX7_readTest_203 : decode cX7_readTest 203 = .ok (.invokevirtual 142, 3) := by decide +kernel
theorem dX7_readTest_206 : decode cX7_readTest 206 = .ok (.iinc 5 1, 3) := by decide +kernel
theorem dX7_readTest_209 : decode cX7_readTest 209 = .ok (.goto (-169), 3) := by decide +kernel
theorem dX7_readTest_212 : decode cX7_readTest 212 = .ok (.aload_n 0, 1) := by decide +kernel
theorem dX7_readTest_213 : decode cX7_readTest 213 = .ok (.getfield 22, 3) := by decide +kernel
theorem dX7_readTest_216 : decode cX7_readTest 216 = .ok (.getfield 146, 3) := by decide +kernel
theorem dX7_readTest_219 : decode cX7_readTest 219 = .ok (.iload_n 1, 1) := by decide +kernel
theorem dX7_readTest_220 : decode cX7_readTest 220 = .ok (.aload_n 0, 1) := by decide +kernel
theorem dX7_readTest_221 : decode cX7_readTest 221 = .ok (.getfield 22, 3) := by decide +kernel
theorem dX7_readTest_224 : decode cX7_readTest 224 = .ok (.getfield 48, 3) := by decide +kernel
theorem dX7_readTest_227 : decode cX7_readTest 227 = .ok (.iastore, 1) := by decide +kernel
theorem dX7_readTest_228 : decode cX7_readTest 228 = .ok (.iload_n 3, 1) := by decide +kernel
theorem dX7_readTest_229 : decode cX7_readTest 229 = .ok (.ifCond .eq 20, 3) := by decide +kernel
theorem dX7_readTest_232 : decode cX7_readTest 232 = .ok (.iload_n 2, 1) := by decide +kernel
theorem dX7_readTest_233 : decode cX7_readTest 233 = .ok (.ifCond .eq 12, 3) := by decide +kernel
theorem dX7_readTest_236 : decode cX7_readTest 236 = .ok (.aload_n 0, 1) := by decide +kernel
theorem dX7_readTest_237 : decode cX7_readTest 237 = .ok (.bipush 58, 2) := by decide +kernel
theorem dX7_readTest_239 : decode cX7_readTest 239 = .ok (.invokevirtual 71, 3) := by decide +kernel
theorem dX7_readTest_242 : decode cX7_readTest 242 = .ok (.ifCond .eq 7, 3) := by decide +kernel
theorem dX7_readTest_245 : decode cX7_readTest 245 = .ok (.iconst 1, 1) := by decide +kernel
theorem dX7_readTest_246 : decode cX7_readTest 246 = .ok (.goto 4, 3) := by decide +kernel
theorem dX7_readTest_249 : decode cX7_readTest 249 = .ok (.iconst 0, 1) := by decide +kernel
theorem dX7_readTest_250 : decode cX7_readTest 250 = .ok (.ireturn, 1) := by decide +kernel
theorem dX7_takeComparison_0 : decode cX7_takeComparison 0 = .ok (.aload_n 0, 1) := by decide +kernel
theorem dX7_takeComparison_1 : decode cX7_takeComparison 1 = .ok (.invokevirtual 60, 3) := by decide +kernel
theorem dX7_takeComparison_4 : decode cX7_takeComparison 4 = .ok (.bipush 60, 2) := by decide +kernel
theorem dX7_takeComparison_6 : decode cX7_takeComparison 6 = .ok (.if_icmp .eq 27, 3) := by decide +kernel
theorem dX7_takeComparison_9 : decode cX7_takeComparison 9 = .ok (.aload_n 0, 1) := by decide +kernel
theorem dX7_takeComparison_10 : decode cX7_takeComparison 10 = .ok (.invokevirtual 60, 3) := by decide +kernel
theorem dX7_takeComparison_13 : decode cX7_takeComparison 13 = .ok (.bipush 62, 2) := by decide +kernel
theorem dX7_takeComparison_15 : decode cX7_takeComparison 15 = .ok (.if_icmp .eq 18, 3) := by decide +kernel
theorem dX7_takeComparison_18 : decode cX7_takeComparison 18 = .ok (.aload_n 0, 1) := by decide +kernel
theorem dX7_takeComparison_19 : decode cX7_takeComparison 19 = .ok (.invokevirtual 60, 3) := by decide +kernel
theorem dX7_takeComparison_22 : decode cX7_takeComparison 22 = .ok (.bipush 61, 2) := by decide +kernel
theorem dX7_takeComparison_24 : decode cX7_takeComparison 24 = .ok (.if_icmp .eq 9, 3) := by decide +kernel
theorem dX7_takeComparison_27 : decode cX7_takeComparison 27 = .ok (.aload_n 0, 1) := by decide +kernel
theorem dX7_takeComparison_28 : decode cX7_takeComparison 28 = .ok (.iconst 1, 1) := by decide +kernel
theorem dX7_takeComparison_29 : decode cX7_takeComparison 29 = .ok (.invokevirtual 74, 3) := by decide +kernel
theorem dX7_takeComparison_32 : decode cX7_takeComparison 32 = .ok (.ireturn, 1) := by decide +kernel
theorem dX7_takeComparison_33 : decode cX7_takeComparison 33 = .ok (.aload_n 0, 1) := by decide +kernel
theorem dX7_takeComparison_34 : decode cX7_takeComparison 34 = .ok (.dup, 1) := by decide +kernel
theorem dX7_takeComparison_35 : decode cX7_takeComparison 35 = .ok (.getfield 57, 3) := by decide +kernel
theorem dX7_takeComparison_38 : decode cX7_takeComparison 38 = .ok (.iconst 1, 1) := by decide +kernel
theorem dX7_takeComparison_39 : decode cX7_takeComparison 39 = .ok (.iadd, 1) := by decide +kernel
theorem dX7_takeComparison_40 : decode cX7_takeComparison 40 = .ok (.putfield 57, 3) := by decide +kernel
theorem dX7_takeComparison_43 : decode cX7_takeComparison 43 = .ok (.iconst 1, 1) := by decide +kernel
theorem dX7_takeComparison_44 : decode cX7_takeComparison 44 = .ok (.ireturn, 1) := by decide +kernel
theorem dX7_readSum_0 : decode cX7_readSum 0 = .ok (.aload_n 0, 1) := by decide +kernel
theorem dX7_readSum_1 : decode cX7_readSum 1 = .ok (.iload_n 1, 1) := by decide +kernel
theorem dX7_readSum_2 : decode cX7_readSum 2 = .ok (.invokevirtual 149, 3) := by decide +kernel
theorem dX7_readSum_5 : decode cX7_readSum 5 = .ok (.istore_n 2, 1) := by decide +kernel
theorem dX7_readSum_6 : decode cX7_readSum 6 = .ok (.iconst 0, 1) := by decide +kernel
theorem dX7_readSum_7 : decode cX7_readSum 7 = .ok (.istore_n 3, 1) := by decide +kernel
theorem dX7_readSum_8 : decode cX7_readSum 8 = .ok (.iload_n 2, 1) := by decide +kernel
theorem dX7_readSum_9 : decode cX7_readSum 9 = .ok (.ifCond .eq 66, 3) := by decide +kernel
theorem dX7_readSum_12 : decode cX7_readSum 12 = .ok (.iload_n 3, 1) := by decide +kernel
theorem dX7_readSum_13 : decode cX7_readSum 13 = .ok (.sipush 500, 3) := by decide +kernel
theorem dX7_readSum_16 : decode cX7_readSum 16 = .ok (.if_icmp .ge 59, 3) := by decide +kernel
theorem dX7_readSum_19 : decode cX7_readSum 19 = .ok (.aload_n 0, 1) := by decide +kernel
theorem dX7_readSum_20 : decode cX7_readSum 20 = .ok (.invokevirtual 60, 3) := by decide +kernel
theorem dX7_readSum_23 : decode cX7_readSum 23 = .ok (.bipush 43, 2) := by decide +kernel
theorem dX7_readSum_25 : decode cX7_readSum 25 = .ok (.if_icmp .eq 12, 3) := by decide +kernel
theorem dX7_readSum_28 : decode cX7_readSum 28 = .ok (.aload_n 0, 1) := by decide +kernel
theorem dX7_readSum_29 : decode cX7_readSum 29 = .ok (.invokevirtual 60, 3) := by decide +kernel
theorem dX7_readSum_32 : decode cX7_readSum 32 = .ok (.bipush 45, 2) := by decide +kernel
theorem dX7_readSum_34 : decode cX7_readSum 34 = .ok (.if_icmp .ne 41, 3) := by decide +kernel
theorem dX7_readSum_37 : decode cX7_readSum 37 = .ok (.aload_n 0, 1) := by decide +kernel
theorem dX7_readSum_38 : decode cX7_readSum 38 = .ok (.invokevirtual 60, 3) := by decide +kernel
theorem dX7_readSum_41 : decode cX7_readSum 41 = .ok (.istore 4, 2) := by decide +kernel
theorem dX7_readSum_43 : decode cX7_readSum 43 = .ok (.aload_n 0, 1) := by decide +kernel
theorem dX7_readSum_44 : decode cX7_readSum 44 = .ok (.dup, 1) := by decide +kernel
theorem dX7_readSum_45 : decode cX7_readSum 45 = .ok (.getfield 57, 3) := by decide +kernel
theorem dX7_readSum_48 : decode cX7_readSum 48 = .ok (.iconst 1, 1) := by decide +kernel
theorem dX7_readSum_49 : decode cX7_readSum 49 = .ok (.iadd, 1) := by decide +kernel
theorem dX7_readSum_50 : decode cX7_readSum 50 = .ok (.putfield 57, 3) := by decide +kernel
theorem dX7_readSum_53 : decode cX7_readSum 53 = .ok (.aload_n 0, 1) := by decide +kernel
theorem dX7_readSum_54 : decode cX7_readSum 54 = .ok (.iload_n 1, 1) := by decide +kernel
theorem dX7_readSum_55 : decode cX7_readSum 55 = .ok (.invokevirtual 149, 3) := by decide +kernel
theorem dX7_readSum_58 : decode cX7_readSum 58 = .ok (.istore_n 2, 1) := by decide +kernel
theorem dX7_readSum_59 : decode cX7_readSum 59 = .ok (.aload_n 0, 1) := by decide +kernel
theorem dX7_readSum_60 : decode cX7_readSum 60 = .ok (.getfield 22, 3) := by decide +kernel
theorem dX7_readSum_63 : decode cX7_readSum 63 = .ok (.iload 4, 2) := by decide +kernel
theorem dX7_readSum_65 : decode cX7_readSum 65 = .ok (.iconst 0, 1) := by decide +kernel
theorem dX7_readSum_66 : decode cX7_readSum 66 = .ok (.invokevirtual 142, 3) := by decide +kernel
theorem dX7_readSum_69 : decode cX7_readSum 69 = .ok (.iinc 3 1, 3) := by decide +kernel
theorem dX7_readSum_72 : decode cX7_readSum 72 = .ok (.goto (-64), 3) := by decide +kernel
theorem dX7_readSum_75 : decode cX7_readSum 75 = .ok (.iload_n 2, 1) := by decide +kernel
theorem dX7_readSum_76 : decode cX7_readSum 76 = .ok (.ireturn, 1) := by decide +kernel
theorem dX7_readProduct_0 : decode cX7_readProduct 0 = .ok (.aload_n 0, 1) := by decide +kernel
theorem dX7_readProduct_1 : decode cX7_readProduct 1 = .ok (.iload_n 1, 1) := by decide +kernel
theorem dX7_readProduct_2 : decode cX7_readProduct 2 = .ok (.invokevirtual 152, 3) := by decide +kernel
theorem dX7_readProduct_5 : decode cX7_readProduct 5 = .ok (.istore_n 2, 1) := by decide +kernel
theorem dX7_readProduct_6 : decode cX7_readProduct 6 = .ok (.iconst 0, 1) := by decide +kernel
theorem dX7_readProduct_7 : decode cX7_readProduct 7 = .ok (.istore_n 3, 1) := by decide +kernel
theorem dX7_readProduct_8 : decode cX7_readProduct 8 = .ok (.iload_n 2, 1) := by decide +kernel
theorem dX7_readProduct_9 : decode cX7_readProduct 9 = .ok (.ifCond .eq 66, 3) := by decide +kernel
theorem dX7_readProduct_12 : decode cX7_readProduct 12 = .ok (.iload_n 3, 1) := by decide +kernel
theorem dX7_readProduct_13 : decode cX7_readProduct 13 = .ok (.sipush 500, 3) := by decide +kernel
theorem dX7_readProduct_16 : decode cX7_readProduct 16 = .ok (.if_icmp .ge 59, 3) := by decide +kernel
theorem dX7_readProduct_19 : decode cX7_readProduct 19 = .ok (.aload_n 0, 1) := by decide +kernel
theorem dX7_readProduct_20 : decode cX7_readProduct 20 = .ok (.invokevirtual 60, 3) := by decide +kernel
theorem dX7_readProduct_23 : decode cX7_readProduct 23 = .ok (.bipush 42, 2) := by decide +kernel
theorem dX7_readProduct_25 : decode cX7_readProduct 25 = .ok (.if_icmp .eq 12, 3) := by decide +kernel
theorem dX7_readProduct_28 : decode cX7_readProduct 28 = .ok (.aload_n 0, 1) := by decide +kernel
theorem dX7_readProduct_29 : decode cX7_readProduct 29 = .ok (.invokevirtual 60, 3) := by decide +kernel
theorem dX7_readProduct_32 : decode cX7_readProduct 32 = .ok (.bipush 47, 2) := by decide +kernel
theorem dX7_readProduct_34 : decode cX7_readProduct 34 = .ok (.if_icmp .ne 41, 3) := by decide +kernel
theorem dX7_readProduct_37 : decode cX7_readProduct 37 = .ok (.aload_n 0, 1) := by decide +kernel
theorem dX7_readProduct_38 : decode cX7_readProduct 38 = .ok (.invokevirtual 60, 3) := by decide +kernel
theorem dX7_readProduct_41 : decode cX7_readProduct 41 = .ok (.istore 4, 2) := by decide +kernel
theorem dX7_readProduct_43 : decode cX7_readProduct 43 = .ok (.aload_n 0, 1) := by decide +kernel
theorem dX7_readProduct_44 : decode cX7_readProduct 44 = .ok (.dup, 1) := by decide +kernel
theorem dX7_readProduct_45 : decode cX7_readProduct 45 = .ok (.getfield 57, 3) := by decide +kernel
theorem dX7_readProduct_48 : decode cX7_readProduct 48 = .ok (.iconst 1, 1) := by decide +kernel
theorem dX7_readProduct_49 : decode cX7_readProduct 49 = .ok (.iadd, 1) := by decide +kernel
theorem dX7_readProduct_50 : decode cX7_readProduct 50 = .ok (.putfield 57, 3) := by decide +kernel
theorem dX7_readProduct_53 : decode cX7_readProduct 53 = .ok (.aload_n 0, 1) := by decide +kernel
theorem dX7_readProduct_54 : decode cX7_readProduct 54 = .ok (.iload_n 1, 1) := by decide +kernel
theorem dX7_readProduct_55 : decode cX7_readProduct 55 = .ok (.invokevirtual 152, 3) := by decide +kernel
theorem dX7_readProduct_58 : decode cX7_readProduct 58 = .ok (.istore_n 2, 1) := by decide +kernel
theorem dX7_readProduct_59 : decode cX7_readProduct 59 = .ok (.aload_n 0, 1) := by decide +kernel
theorem dX7_readProduct_60 : decode cX7_readProduct 60 = .ok (.getfield 22, 3) := by decide +kernel
theorem dX7_readProduct_63 : decode cX7_readProduct 63 = .ok (.iload 4, 2) := by decide +kernel
theorem dX7_readProduct_65 : decode cX7_readProduct 65 = .ok (.iconst 0, 1) := by decide +kernel
theorem dX7_readProduct_66 : decode cX7_readProduct 66 = .ok (.invokevirtual 142, 3) := by decide +kernel
theorem dX7_readProduct_69 : decode cX7_readProduct 69 = .ok (.iinc 3 1, 3) := by decide +kernel
theorem dX7_readProduct_72 : decode cX7_readProduct 72 = .ok (.goto (-64), 3) := by decide +kernel
theorem dX7_readProduct_75 : decode cX7_readProduct 75 = .ok (.iload_n 2, 1) := by decide +kernel
theorem dX7_readProduct_76 : decode cX7_readProduct 76 = .ok (.ireturn, 1) := by decide +kernel
theorem dX7_readFactor_0 : decode cX7_readFactor 0 = .ok (.aload_n 0, 1) := by decide +kernel
theorem dX7_readFactor_1 : decode cX7_readFactor 1 = .ok (.invokevirtual 60, 3) := by decide +kernel
theorem dX7_readFactor_4 : decode cX7_readFactor 4 = .ok (.istore_n 2, 1) := by decide +kernel
theorem dX7_readFactor_5 : decode cX7_readFactor 5 = .ok (.iload_n 2, 1) := by decide +kernel
theorem dX7_readFactor_6 : decode cX7_readFactor 6 = .ok (.bipush 45, 2) := by decide +kernel
theorem dX7_readFactor_8 : decode cX7_readFactor 8 = .ok (.if_icmp .eq 9, 3) := by decide +kernel
theorem dX7_readFactor_11 : decode cX7_readFactor 11 = .ok (.iload_n 2, 1) := by decide +kernel
theorem dX7_readFactor_12 : decode cX7_readFactor 12 = .ok (.bipush 40, 2) := by decide +kernel
theorem dX7_readFactor_14 : decode cX7_readFactor 14 = .ok (.if_icmp .ne 77, 3) := by decide +kernel
theorem dX7_readFactor_17 : decode cX7_readFactor 17 = .ok (.iload_n 1, 1) := by decide +kernel
theorem dX7_readFactor_18 : decode cX7_readFactor 18 = .ok (.bipush 20, 2) := by decide +kernel
theorem dX7_readFactor_20 : decode cX7_readFactor 20 = .ok (.if_icmp .lt 9, 3) := by decide +kernel
theorem dX7_readFactor_23 : decode cX7_readFactor 23 = .ok (.aload_n 0, 1) := by decide +kernel
theorem dX7_readFactor_24 : decode cX7_readFactor 24 = .ok (.iconst 4, 1) := by decide +kernel
theorem dX7_readFactor_25 : decode cX7_readFactor 25 = .ok (.invokevirtual 74, 3) := by decide +kernel
theorem dX7_readFactor_28 : decode cX7_readFactor 28 = .ok (.ireturn, 1) := by decide +kernel
theorem dX7_readFactor_29 : decode cX7_readFactor 29 = .ok (.aload_n 0, 1) := by decide +kernel
theorem dX7_readFactor_30 : decode cX7_readFactor 30 = .ok (.dup, 1) := by decide +kernel
theorem dX7_readFactor_31 : decode cX7_readFactor 31 = .ok (.getfield 57, 3) := by decide +kernel
theorem dX7_readFactor_34 : decode cX7_readFactor 34 = .ok (.iconst 1, 1) := by decide +kernel
theorem dX7_readFactor_35 : decode cX7_readFactor 35 = .ok (.iadd, 1) := by decide +kernel
theorem dX7_readFactor_36 : decode cX7_readFactor 36 = .ok (.putfield 57, 3) := by decide +kernel
theorem dX7_readFactor_39 : decode cX7_readFactor 39 = .ok (.iload_n 2, 1) := by decide +kernel
theorem dX7_readFactor_40 : decode cX7_readFactor 40 = .ok (.bipush 40, 2) := by decide +kernel
theorem dX7_readFactor_42 : decode cX7_readFactor 42 = .ok (.if_icmp .ne 28, 3) := by decide +kernel
theorem dX7_readFactor_45 : decode cX7_readFactor 45 = .ok (.aload_n 0, 1) := by decide +kernel
theorem dX7_readFactor_46 : decode cX7_readFactor 46 = .ok (.iload_n 1, 1) := by decide +kernel
theorem dX7_readFactor_47 : decode cX7_readFactor 47 = .ok (.iconst 1, 1) := by decide +kernel
theorem dX7_readFactor_48 : decode cX7_readFactor 48 = .ok (.iadd, 1) := by decide +kernel
theorem dX7_readFactor_49 : decode cX7_readFactor 49 = .ok (.invokevirtual 135, 3) := by decide +kernel
theorem dX7_readFactor_52 : decode cX7_readFactor 52 = .ok (.ifCond .eq 16, 3) := by decide +kernel
theorem dX7_readFactor_55 : decode cX7_readFactor 55 = .ok (.aload_n 0, 1) := by decide +kernel
theorem dX7_readFactor_56 : decode cX7_readFactor 56 = .ok (.bipush 41, 2) := by decide +kernel
theorem dX7_readFactor_58 : decode cX7_readFactor 58 = .ok (.invokevirtual 71, 3) := by decide +kernel
theorem dX7_readFactor_61 : decode cX7_readFactor 61 = .ok (.ifCond .eq 7, 3) := by decide +kernel
theorem dX7_readFactor_64 : decode cX7_readFactor 64 = .ok (.iconst 1, 1) := by decide +kernel
theorem dX7_readFactor_65 : decode cX7_readFactor 65 = .ok (.goto 4, 3) := by decide +kernel
theorem dX7_readFactor_68 : decode cX7_readFactor 68 = .ok (.iconst 0, 1) := by decide +kernel
theorem dX7_readFactor_69 : decode cX7_readFactor 69 = .ok (.ireturn, 1) := by decide +kernel
theorem dX7_readFactor_70 : decode cX7_readFactor 70 = .ok (.aload_n 0, 1) := by decide +kernel
theorem dX7_readFactor_71 : decode cX7_readFactor 71 = .ok (.iload_n 1, 1) := by decide +kernel
theorem dX7_readFactor_72 : decode cX7_readFactor 72 = .ok (.iconst 1, 1) := by decide +kernel
theorem dX7_readFactor_73 : decode cX7_readFactor 73 = .ok (.iadd, 1) := by decide +kernel
theorem dX7_readFactor_74 : decode cX7_readFactor 74 = .ok (.invokevirtual 152, 3) := by decide +kernel
theorem dX7_readFactor_77 : decode cX7_readFactor 77 = .ok (.istore_n 3, 1) := by decide +kernel
theorem dX7_readFactor_78 : decode cX7_readFactor 78 = .ok (.aload_n 0, 1) := by decide +kernel
theorem dX7_readFactor_79 : decode cX7_readFactor 79 = .ok (.getfield 22, 3) := by decide +kernel
theorem dX7_readFactor_82 : decode cX7_readFactor 82 = .ok (.sipush 220, 3) := by decide +kernel
theorem dX7_readFactor_85 : decode cX7_readFactor 85 = .ok (.iconst 0, 1) := by decide +kernel
theorem dX7_readFactor_86 : decode cX7_readFactor 86 = .ok (.invokevirtual 142, 3) := by decide +kernel
theorem dX7_readFactor_89 : decode cX7_readFactor 89 = .ok (.iload_n 3, 1) := by decide +kernel
theorem dX7_readFactor_90 : decode cX7_readFactor 90 = .ok (.ireturn, 1) := by decide +kernel
theorem dX7_readFactor_91 : decode cX7_readFactor 91 = .ok (.iconst 1, 1) := by decide +kernel
theorem dX7_readFactor_92 : decode cX7_readFactor 92 = .ok (.istore_n 3, 1) := by decide +kernel
theorem dX7_readFactor_93 : decode cX7_readFactor 93 = .ok (.aload_n 0, 1) := by decide +kernel
theorem dX7_readFactor_94 : decode cX7_readFactor 94 = .ok (.iconst 0, 1) := by decide +kernel
theorem dX7_readFactor_95 : decode cX7_readFactor 95 = .ok (.putfield 155, 3) := by decide +kernel
theorem dX7_readFactor_98 : decode cX7_readFactor 98 = .ok (.iload_n 2, 1) := by decide +kernel
theorem dX7_readFactor_99 : decode cX7_readFactor 99 = .ok (.tableswitch 150 200 211 #[61, 150, 150, 150, 150, 71, 93, 115, 137, 137, 137, 137], 61) := by decide +kernel
theorem dX7_readFactor_160 : decode cX7_readFactor 160 = .ok (.aload_n 0, 1) := by decide +kernel
theorem dX7_readFactor_161 : decode cX7_readFactor 161 = .ok (.ldc 126, 2) := by decide +kernel
theorem dX7_readFactor_163 : decode cX7_readFactor 163 = .ok (.invokevirtual 158, 3) := by decide +kernel
theorem dX7_readFactor_166 : decode cX7_readFactor 166 = .ok (.istore_n 3, 1) := by decide +kernel
theorem dX7_readFactor_167 : decode cX7_readFactor 167 = .ok (.goto 88, 3) := by decide +kernel
theorem dX7_readFactor_170 : decode cX7_readFactor 170 = .ok (.aload_n 0, 1) := by decide +kernel
theorem dX7_readFactor_171 : decode cX7_readFactor 171 = .ok (.dup, 1) := by decide +kernel
theorem dX7_readFactor_172 : decode cX7_readFactor 172 = .ok (.getfield 57, 3) := by decide +kernel
theorem dX7_readFactor_175 : decode cX7_readFactor 175 = .ok (.iconst 1, 1) := by decide +kernel
theorem dX7_readFactor_176 : decode cX7_readFactor 176 = .ok (.iadd, 1) := by decide +kernel
theorem dX7_readFactor_177 : decode cX7_readFactor 177 = .ok (.putfield 57, 3) := by decide +kernel
theorem dX7_readFactor_180 : decode cX7_readFactor 180 = .ok (.aload_n 0, 1) := by decide +kernel
theorem dX7_readFactor_181 : decode cX7_readFactor 181 = .ok (.aload_n 0, 1) := by decide +kernel
theorem dX7_readFactor_182 : decode cX7_readFactor 182 = .ok (.getfield 36, 3) := by decide +kernel
theorem dX7_readFactor_185 : decode cX7_readFactor 185 = .ok (.invokevirtual 158, 3) := by decide +kernel
theorem dX7_readFactor_188 : decode cX7_readFactor 188 = .ok (.istore_n 3, 1) := by decide +kernel
theorem dX7_readFactor_189 : decode cX7_readFactor 189 = .ok (.goto 66, 3) := by decide +kernel
theorem dX7_readFactor_192 : decode cX7_readFactor 192 = .ok (.aload_n 0, 1) := by decide +kernel
theorem dX7_readFactor_193 : decode cX7_readFactor 193 = .ok (.dup, 1) := by decide +kernel
theorem dX7_readFactor_194 : decode cX7_readFactor 194 = .ok (.getfield 57, 3) := by decide +kernel
theorem dX7_readFactor_197 : decode cX7_readFactor 197 = .ok (.iconst 1, 1) := by decide +kernel
theorem dX7_readFactor_198 : decode cX7_readFactor 198 = .ok (.iadd, 1) := by decide +kernel
theorem dX7_readFactor_199 : decode cX7_readFactor 199 = .ok (.putfield 57, 3) := by decide +kernel
theorem dX7_readFactor_202 : decode cX7_readFactor 202 = .ok (.aload_n 0, 1) := by decide +kernel
theorem dX7_readFactor_203 : decode cX7_readFactor 203 = .ok (.aload_n 0, 1) := by decide +kernel
theorem dX7_readFactor_204 : decode cX7_readFactor 204 = .ok (.getfield 39, 3) := by decide +kernel
theorem dX7_readFactor_207 : decode cX7_readFactor 207 = .ok (.invokevirtual 158, 3) := by decide +kernel
theorem dX7_readFactor_210 : decode cX7_readFactor 210 = .ok (.istore_n 3, 1) := by decide +kernel
theorem dX7_readFactor_211 : decode cX7_readFactor 211 = .ok (.goto 44, 3) := by decide +kernel
theorem dX7_readFactor_214 : decode cX7_readFactor 214 = .ok (.aload_n 0, 1) := by decide +kernel
theorem dX7_readFactor_215 : decode cX7_readFactor 215 = .ok (.dup, 1) := by decide +kernel
theorem dX7_readFactor_216 : decode cX7_readFactor 216 = .ok (.getfield 57, 3) := by decide +kernel
theorem dX7_readFactor_219 : decode cX7_readFactor 219 = .ok (.iconst 1, 1) := by decide +kernel
theorem dX7_readFactor_220 : decode cX7_readFactor 220 = .ok (.iadd, 1) := by decide +kernel
theorem dX7_readFactor_221 : decode cX7_readFactor 221 = .ok (.putfield 57, 3) := by decide +kernel
theorem dX7_readFactor_224 : decode cX7_readFactor 224 = .ok (.aload_n 0, 1) := by decide +kernel
theorem dX7_readFactor_225 : decode cX7_readFactor 225 = .ok (.aload_n 0, 1) := by decide +kernel
theorem dX7_readFactor_226 : decode cX7_readFactor 226 = .ok (.getfield 42, 3) := by decide +kernel
theorem dX7_readFactor_229 : decode cX7_readFactor 229 = .ok (.invokevirtual 158, 3) := by decide +kernel
theorem dX7_readFactor_232 : decode cX7_readFactor 232 = .ok (.istore_n 3, 1) := by decide +kernel
theorem dX7_readFactor_233 : decode cX7_readFactor 233 = .ok (.goto 22, 3) := by decide +kernel
theorem dX7_readFactor_236 : decode cX7_readFactor 236 = .ok (.aload_n 0, 1) := by decide +kernel
theorem dX7_readFactor_237 : decode cX7_readFactor 237 = .ok (.dup, 1) := by decide +kernel
theorem dX7_readFactor_238 : decode cX7_readFactor 238 = .ok (.getfield 57, 3) := by decide +kernel
theorem dX7_readFactor_241 : decode cX7_readFactor 241 = .ok (.iconst 1, 1) := by decide +kernel
theorem dX7_readFactor_242 : decode cX7_readFactor 242 = .ok (.iadd, 1) := by decide +kernel
theorem dX7_readFactor_243 : decode cX7_readFactor 243 = .ok (.putfield 57, 3) := by decide +kernel
theorem dX7_readFactor_246 : decode cX7_readFactor 246 = .ok (.goto 9, 3) := by decide +kernel
theorem dX7_readFactor_249 : decode cX7_readFactor 249 = .ok (.aload_n 0, 1) := by decide +kernel
theorem dX7_readFactor_250 : decode cX7_readFactor 250 = .ok (.iconst 1, 1) := by decide +kernel
theorem dX7_readFactor_251 : decode cX7_readFactor 251 = .ok (.invokevirtual 74, 3) := by decide +kernel
theorem dX7_readFactor_254 : decode cX7_readFactor 254 = .ok (.ireturn, 1) := by decide +kernel
theorem dX7_readFactor_255 : decode cX7_readFactor 255 = .ok (.aload_n 0, 1) := by decide +kernel
theorem dX7_readFactor_256 : decode cX7_readFactor 256 = .ok (.getfield 22, 3) := by decide +kernel
theorem dX7_readFactor_259 : decode cX7_readFactor 259 = .ok (.iload_n 2, 1) := by decide +kernel
theorem dX7_readFactor_260 : decode cX7_readFactor 260 = .ok (.aload_n 0, 1) := by decide +kernel
theorem dX7_readFactor_261 : decode cX7_readFactor 261 = .ok (.getfield 155, 3) := by decide +kernel
theorem dX7_readFactor_264 : decode cX7_readFactor 264 = .ok (.invokevirtual 142, 3) := by decide +kernel
theorem dX7_readFactor_267 : decode cX7_readFactor 267 = .ok (.iload_n 3, 1) := by decide +kernel
theorem dX7_readFactor_268 : decode cX7_readFactor 268 = .ok (.ireturn, 1) := by decide +kernel
theorem dX7_takeNumber_0 : decode cX7_takeNumber 0 = .ok (.aload_n 0, 1) := by decide +kernel
theorem dX7_takeNumber_1 : decode cX7_takeNumber 1 = .ok (.invokevirtual 60, 3) := by decide +kernel
theorem dX7_takeNumber_4 : decode cX7_takeNumber 4 = .ok (.sipush 200, 3) := by decide +kernel
theorem dX7_takeNumber_7 : decode cX7_takeNumber 7 = .ok (.if_icmp .eq 9, 3) := by decide +kernel
theorem dX7_takeNumber_10 : decode cX7_takeNumber 10 = .ok (.aload_n 0, 1) := by decide +kernel
theorem dX7_takeNumber_11 : decode cX7_takeNumber 11 = .ok (.iconst 1, 1) := by decide +kernel
theorem dX7_takeNumber_12 : decode cX7_takeNumber 12 = .ok (.invokevirtual 74, 3) := by decide +kernel
theorem dX7_takeNumber_15 : decode cX7_takeNumber 15 = .ok (.ireturn, 1) := by decide +kernel
theorem dX7_takeNumber_16 : decode cX7_takeNumber 16 = .ok (.aload_n 0, 1) := by decide +kernel
theorem dX7_takeNumber_17 : decode cX7_takeNumber 17 = .ok (.aload_n 0, 1) := by decide +kernel
theorem dX7_takeNumber_18 : decode cX7_takeNumber 18 = .ok (.getfield 33, 3) := by decide +kernel
theorem dX7_takeNumber_21 : decode cX7_takeNumber 21 = .ok (.aload_n 0, 1) := by decide +kernel
theorem dX7_takeNumber_22 : decode cX7_takeNumber 22 = .ok (.getfield 57, 3) := by decide +kernel
theorem dX7_takeNumber_25 : decode cX7_takeNumber 25 = .ok (.iaload, 1) := by decide +kernel
theorem dX7_takeNumber_26 : decode cX7_takeNumber 26 = .ok (.putfield 155, 3) := by decide +kernel
theorem dX7_takeNumber_29 : decode cX7_takeNumber 29 = .ok (.aload_n 0, 1) := by decide +kernel
theorem dX7_takeNumber_30 : decode cX7_takeNumber 30 = .ok (.getfield 155, 3) := by decide +kernel
theorem dX7_takeNumber_33 : decode cX7_takeNumber 33 = .ok (.iload_n 1, 1) := by decide +kernel
theorem dX7_takeNumber_34 : decode cX7_takeNumber 34 = .ok (.if_icmp .lt 9, 3) := by decide +kernel
theorem dX7_takeNumber_37 : decode cX7_takeNumber 37 = .ok (.aload_n 0, 1) := by decide +kernel
theorem dX7_takeNumber_38 : decode cX7_takeNumber 38 = .ok (.iconst 2, 1) := by decide +kernel
theorem dX7_takeNumber_39 : decode cX7_takeNumber 39 = .ok (.invokevirtual 74, 3) := by decide +kernel
theorem dX7_takeNumber_42 : decode cX7_takeNumber 42 = .ok (.ireturn, 1) := by decide +kernel
theorem dX7_takeNumber_43 : decode cX7_takeNumber 43 = .ok (.aload_n 0, 1) := by decide +kernel
theorem dX7_takeNumber_44 : decode cX7_takeNumber 44 = .ok (.dup, 1) := by decide +kernel
theorem dX7_takeNumber_45 : decode cX7_takeNumber 45 = .ok (.getfield 57, 3) := by decide +kernel
theorem dX7_takeNumber_48 : decode cX7_takeNumber 48 = .ok (.iconst 1, 1) := by decide +kernel
theorem dX7_takeNumber_49 : decode cX7_takeNumber 49 = .ok (.iadd, 1) := by decide +kernel
theorem dX7_takeNumber_50 : decode cX7_takeNumber 50 = .ok (.putfield 57, 3) := by decide +kernel
theorem dX7_takeNumber_53 : decode cX7_takeNumber 53 = .ok (.iconst 1, 1) := by decide +kernel
theorem dX7_takeNumber_54 : decode cX7_takeNumber 54 = .ok (.ireturn, 1) := by decide +kernel
theorem dX7_readAction_0 : decode cX7_readAction 0 = .ok (.aload_n 0, 1) := by decide +kernel
theorem dX7_readAction_1 : decode cX7_readAction 1 = .ok (.invokevirtual 60, 3) := by decide +kernel
theorem dX7_readAction_4 : decode cX7_readAction 4 = .ok (.istore_n 2, 1) := by decide +kernel
theorem dX7_readAction_5 : decode cX7_readAction 5 = .ok (.iload_n 2, 1) := by decide +kernel
theorem dX7_readAction_6 : decode cX7_readAction 6 = .ok (.sipush 212, 3) := by decide +kernel
theorem dX7_readAction_9 : decode cX7_readAction 9 = .ok (.if_icmp .eq 23, 3) := by decide +kernel
theorem dX7_readAction_12 : decode cX7_readAction 12 = .ok (.iload_n 2, 1) := by decide +kernel
theorem dX7_readAction_13 : decode cX7_readAction 13 = .ok (.sipush 213, 3) := by decide +kernel
theorem dX7_readAction_16 : decode cX7_readAction 16 = .ok (.if_icmp .eq 16, 3) := by decide +kernel
theorem dX7_readAction_19 : decode cX7_readAction 19 = .ok (.iload_n 2, 1) := by decide +kernel
theorem dX7_readAction_20 : decode cX7_readAction 20 = .ok (.sipush 214, 3) := by decide +kernel
theorem dX7_readAction_23 : decode cX7_readAction 23 = .ok (.if_icmp .eq 9, 3) := by decide +kernel
theorem dX7_readAction_26 : decode cX7_readAction 26 = .ok (.aload_n 0, 1) := by decide +kernel
theorem dX7_readAction_27 : decode cX7_readAction 27 = .ok (.iconst 1, 1) := by decide +kernel
theorem dX7_readAction_28 : decode cX7_readAction 28 = .ok (.invokevirtual 74, 3) := by decide +kernel
theorem dX7_readAction_31 : decode cX7_readAction 31 = .ok (.ireturn, 1) := by decide +kernel
theorem dX7_readAction_32 : decode cX7_readAction 32 = .ok (.aload_n 0, 1) := by decide +kernel
theorem dX7_readAction_33 : decode cX7_readAction 33 = .ok (.dup, 1) := by decide +kernel
theorem dX7_readAction_34 : decode cX7_readAction 34 = .ok (.getfield 57, 3) := by decide +kernel
theorem dX7_readAction_37 : decode cX7_readAction 37 = .ok (.iconst 1, 1) := by decide +kernel
theorem dX7_readAction_38 : decode cX7_readAction 38 = .ok (.iadd, 1) := by decide +kernel
theorem dX7_readAction_39 : decode cX7_readAction 39 = .ok (.putfield 57, 3) := by decide +kernel
theorem dX7_readAction_42 : decode cX7_readAction 42 = .ok (.aload_n 0, 1) := by decide +kernel
theorem dX7_readAction_43 : decode cX7_readAction 43 = .ok (.iload_n 2, 1) := by decide +kernel
theorem dX7_readAction_44 : decode cX7_readAction 44 = .ok (.sipush 212, 3) := by decide +kernel
theorem dX7_readAction_47 : decode cX7_readAction 47 = .ok (.if_icmp .ne 10, 3) := by decide +kernel
theorem dX7_readAction_50 : decode cX7_readAction 50 = .ok (.aload_n 0, 1) := by decide +kernel
theorem dX7_readAction_51 : decode cX7_readAction 51 = .ok (.getfield 42, 3) := by decide +kernel
theorem dX7_readAction_54 : decode cX7_readAction 54 = .ok (.goto 21, 3) := by decide +kernel
theorem dX7_readAction_57 : decode cX7_readAction 57 = .ok (.iload_n 2, 1) := by decide +kernel
theorem dX7_readAction_58 : decode cX7_readAction 58 = .ok (.sipush 213, 3) := by decide +kernel
theorem dX7_readAction_61 : decode cX7_readAction 61 = .ok (.if_icmp .ne 10, 3) := by decide +kernel
theorem dX7_readAction_64 : decode cX7_readAction 64 = .ok (.aload_n 0, 1) := by decide +kernel
theorem dX7_readAction_65 : decode cX7_readAction 65 = .ok (.getfield 39, 3) := by decide +kernel
theorem dX7_readAction_68 : decode cX7_readAction 68 = .ok (.goto 7, 3) := by decide +kernel
theorem dX7_readAction_71 : decode cX7_readAction 71 = .ok (.aload_n 0, 1) := by decide +kernel
theorem dX7_readAction_72 : decode cX7_readAction 72 = .ok (.getfield 36, 3) := by decide +kernel
theorem dX7_readAction_75 : decode cX7_readAction 75 = .ok (.invokevirtual 158, 3) := by decide +kernel
theorem dX7_readAction_78 : decode cX7_readAction 78 = .ok (.ifCond .ne 5, 3) := by decide +kernel
theorem dX7_readAction_81 : decode cX7_readAction 81 = .ok (.iconst 0, 1) := by decide +kernel
theorem dX7_readAction_82 : decode cX7_readAction 82 = .ok (.ireturn, 1) := by decide +kernel
theorem dX7_readAction_83 : decode cX7_readAction 83 = .ok (.aload_n 0, 1) := by decide +kernel
theorem dX7_readAction_84 : decode cX7_readAction 84 = .ok (.getfield 22, 3) := by decide +kernel
theorem dX7_readAction_87 : decode cX7_readAction 87 = .ok (.getfield 161, 3) := by decide +kernel
theorem dX7_readAction_90 : decode cX7_readAction 90 = .ok (.iload_n 1, 1) := by decide +kernel
theorem dX7_readAction_91 : decode cX7_readAction 91 = .ok (.aload_n 0, 1) := by decide +kernel
theorem dX7_readAction_92 : decode cX7_readAction 92 = .ok (.getfield 155, 3) := by decide +kernel
theorem dX7_readAction_95 : decode cX7_readAction 95 = .ok (.iastore, 1) := by decide +kernel
theorem dX7_readAction_96 : decode cX7_readAction 96 = .ok (.iload_n 2, 1) := by decide +kernel
theorem dX7_readAction_97 : decode cX7_readAction 97 = .ok (.sipush 214, 3) := by decide +kernel
theorem dX7_readAction_100 : decode cX7_readAction 100 = .ok (.if_icmp .ne 41, 3) := by decide +kernel
theorem dX7_readAction_103 : decode cX7_readAction 103 = .ok (.aload_n 0, 1) := by decide +kernel
theorem dX7_readAction_104 : decode cX7_readAction 104 = .ok (.getfield 22, 3) := by decide +kernel
theorem dX7_readAction_107 : decode cX7_readAction 107 = .ok (.getfield 164, 3) := by decide +kernel
theorem dX7_readAction_110 : decode cX7_readAction 110 = .ok (.iload_n 1, 1) := by decide +kernel
theorem dX7_readAction_111 : decode cX7_readAction 111 = .ok (.sipush 214, 3) := by decide +kernel
theorem dX7_readAction_114 : decode cX7_readAction 114 = .ok (.iastore, 1) := by decide +kernel
theorem dX7_readAction_115 : decode cX7_readAction 115 = .ok (.aload_n 0, 1) := by decide +kernel
theorem dX7_readAction_116 : decode cX7_readAction 116 = .ok (.bipush 61, 2) := by decide +kernel
theorem dX7_readAction_118 : decode cX7_readAction 118 = .ok (.invokevirtual 71, 3) := by decide +kernel
theorem dX7_readAction_121 : decode cX7_readAction 121 = .ok (.ifCond .eq 15, 3) := by decide +kernel
theorem dX7_readAction_124 : decode cX7_readAction 124 = .ok (.aload_n 0, 1) := by decide +kernel
theorem dX7_readAction_125 : decode cX7_readAction 125 = .ok (.iconst 0, 1) := by decide +kernel
theorem dX7_readAction_126 : decode cX7_readAction 126 = .ok (.invokevirtual 135, 3) := by decide +kernel
theorem dX7_readAction_129 : decode cX7_readAction 129 = .ok (.ifCond .eq 7, 3) := by decide +kernel
theorem dX7_readAction_132 : decode cX7_readAction 132 = .ok (.iconst 1, 1) := by decide +kernel
theorem dX7_readAction_133 : decode cX7_readAction 133 = .ok (.goto 4, 3) := by decide +kernel
theorem dX7_readAction_136 : decode cX7_readAction 136 = .ok (.iconst 0, 1) := by decide +kernel
theorem dX7_readAction_137 : decode cX7_readAction 137 = .ok (.istore_n 3, 1) := by decide +kernel
theorem dX7_readAction_138 : decode cX7_readAction 138 = .ok (.goto 47, 3) := by decide +kernel
theorem dX7_readAction_141 : decode cX7_readAction 141 = .ok (.aload_n 0, 1) := by decide +kernel
theorem dX7_readAction_142 : decode cX7_readAction 142 = .ok (.getfield 22, 3) := by decide +kernel
theorem dX7_readAction_145 : decode cX7_readAction 145 = .ok (.getfield 164, 3) := by decide +kernel
theorem dX7_readAction_148 : decode cX7_readAction 148 = .ok (.iload_n 1, 1) := by decide +kernel
theorem dX7_readAction_149 : decode cX7_readAction 149 = .ok (.aload_n 0, 1) := by decide +kernel
theorem dX7_readAction_150 : decode cX7_readAction 150 = .ok (.invokevirtual 60, 3) := by decide +kernel
theorem dX7_readAction_153 : decode cX7_readAction 153 = .ok (.iastore, 1) := by decide +kernel
theorem dX7_readAction_154 : decode cX7_readAction 154 = .ok (.iload_n 2, 1) := by decide +kernel
theorem dX7_readAction_155 : decode cX7_readAction 155 = .ok (.sipush 212, 3) := by decide +kernel
theorem dX7_readAction_158 : decode cX7_readAction 158 = .ok (.if_icmp .ne 16, 3) := by decide +kernel
theorem dX7_readAction_161 : decode cX7_readAction 161 = .ok (.aload_n 0, 1) := by decide +kernel
theorem dX7_readAction_162 : decode cX7_readAction 162 = .ok (.sipush 215, 3) := by decide +kernel
theorem dX7_readAction_165 : decode cX7_readAction 165 = .ok (.sipush 217, 3) := by decide +kernel
theorem dX7_readAction_168 : decode cX7_readAction 168 = .ok (.invokevirtual 167, 3) := by decide +kernel
theorem dX7_readAction_171 : decode cX7_readAction 171 = .ok (.goto 13, 3) := by decide +kernel
theorem dX7_readAction_174 : decode cX7_readAction 174 = .ok (.aload_n 0, 1) := by decide +kernel
theorem dX7_readAction_175 : decode cX7_readAction 175 = .ok (.sipush 218, 3) := by decide +kernel
theorem dX7_readAction_178 : decode cX7_readAction 178 = .ok (.sipush 219, 3) := by decide +kernel
theorem dX7_readAction_181 : decode cX7_readAction 181 = .ok (.invokevirtual 167, 3) := by decide +kernel
theorem dX7_readAction_184 : decode cX7_readAction 184 = .ok (.istore_n 3, 1) := by decide +kernel
theorem dX7_readAction_185 : decode cX7_readAction 185 = .ok (.aload_n 0, 1) := by decide +kernel
theorem dX7_readAction_186 : decode cX7_readAction 186 = .ok (.getfield 22, 3) := by decide +kernel
theorem dX7_readAction_189 : decode cX7_readAction 189 = .ok (.getfield 171, 3) := by decide +kernel
theorem dX7_readAction_192 : decode cX7_readAction 192 = .ok (.iload_n 1, 1) := by decide +kernel
theorem dX7_readAction_193 : decode cX7_readAction 193 = .ok (.aload_n 0, 1) := by decide +kernel
theorem dX7_readAction_194 : decode cX7_readAction 194 = .ok (.getfield 22, 3) := by decide +kernel
theorem dX7_readAction_197 : decode cX7_readAction 197 = .ok (.getfield 48, 3) := by decide +kernel
theorem dX7_readAction_200 : decode cX7_readAction 200 = .ok (.iastore, 1) := by decide +kernel
theorem dX7_readAction_201 : decode cX7_readAction 201 = .ok (.iload_n 3, 1) := by decide +kernel
theorem dX7_readAction_202 : decode cX7_readAction 202 = .ok (.ireturn, 1) := by decide +kernel
theorem dX7_takeWord_0 : decode cX7_takeWord 0 = .ok (.aload_n 0, 1) := by decide +kernel
theorem dX7_takeWord_1 : decode cX7_takeWord 1 = .ok (.invokevirtual 60, 3) := by decide +kernel
theorem dX7_takeWord_4 : decode cX7_takeWord 4 = .ok (.iload_n 1, 1) := by decide +kernel
theorem dX7_takeWord_5 : decode cX7_takeWord 5 = .ok (.iload_n 2, 1) := by decide +kernel
theorem dX7_takeWord_6 : decode cX7_takeWord 6 = .ok (.invokestatic 174, 3) := by decide +kernel
theorem dX7_takeWord_9 : decode cX7_takeWord 9 = .ok (.ifCond .ne 9, 3) := by decide +kernel
theorem dX7_takeWord_12 : decode cX7_takeWord 12 = .ok (.aload_n 0, 1) := by decide +kernel
theorem dX7_takeWord_13 : decode cX7_takeWord 13 = .ok (.iconst 1, 1) := by decide +kernel
theorem dX7_takeWord_14 : decode cX7_takeWord 14 = .ok (.invokevirtual 74, 3) := by decide +kernel
theorem dX7_takeWord_17 : decode cX7_takeWord 17 = .ok (.ireturn, 1) := by decide +kernel
theorem dX7_takeWord_18 : decode cX7_takeWord 18 = .ok (.aload_n 0, 1) := by decide +kernel
theorem dX7_takeWord_19 : decode cX7_takeWord 19 = .ok (.dup, 1) := by decide +kernel
theorem dX7_takeWord_20 : decode cX7_takeWord 20 = .ok (.getfield 57, 3) := by decide +kernel
theorem dX7_takeWord_23 : decode cX7_takeWord 23 = .ok (.iconst 1, 1) := by decide +kernel
theorem dX7_takeWord_24 : decode cX7_takeWord 24 = .ok (.iadd, 1) := by decide +kernel
theorem dX7_takeWord_25 : decode cX7_takeWord 25 = .ok (.putfield 57, 3) := by decide +kernel
theorem dX7_takeWord_28 : decode cX7_takeWord 28 = .ok (.iconst 1, 1) := by decide +kernel
theorem dX7_takeWord_29 : decode cX7_takeWord 29 = .ok (.ireturn, 1) := by decide +kernel
theorem dX8_init_0 : decode cX8_init 0 = .ok (.aload_n 0, 1) := by decide +kernel
theorem dX8_init_1 : decode cX8_init 1 = .ok (.invokespecial 3, 3) := by decide +kernel
theorem dX8_init_4 : decode cX8_init 4 = .ok (.aload_n 0, 1) := by decide +kernel
theorem dX8_init_5 : decode cX8_init 5 = .ok (.sipush 500, 3) := by decide +kernel
theorem dX8_init_8 : decode cX8_init 8 = .ok (.newarray .int, 2) := by decide +kernel
theorem dX8_init_10 : decode cX8_init 10 = .ok (.putfield 9, 3) := by decide +kernel
theorem dX8_init_13 : decode cX8_init 13 = .ok (.aload_n 0, 1) := by decide +kernel
theorem dX8_init_14 : decode cX8_init 14 = .ok (.sipush 500, 3) := by decide +kernel
theorem dX8_init_17 : decode cX8_init 17 = .ok (.newarray .int, 2) := by decide +kernel
theorem dX8_init_19 : decode cX8_init 19 = .ok (.putfield 15, 3) := by decide +kernel
theorem dX8_init_22 : decode cX8_init 22 = .ok (.aload_n 0, 1) := by decide +kernel
theorem dX8_init_23 : decode cX8_init 23 = .ok (.bipush 12, 2) := by decide +kernel
theorem dX8_init_25 : decode cX8_init 25 = .ok (.newarray .int, 2) := by decide +kernel
theorem dX8_init_27 : decode cX8_init 27 = .ok (.putfield 18, 3) := by decide +kernel
theorem dX8_init_30 : decode cX8_init 30 = .ok (.aload_n 0, 1) := by decide +kernel
theorem dX8_init_31 : decode cX8_init 31 = .ok (.bipush 12, 2) := by decide +kernel
theorem dX8_init_33 : decode cX8_init 33 = .ok (.newarray .int, 2) := by decide +kernel
theorem dX8_init_35 : decode cX8_init 35 = .ok (.putfield 21, 3) := by decide +kernel
theorem dX8_init_38 : decode cX8_init 38 = .ok (.aload_n 0, 1) := by decide +kernel
theorem dX8_init_39 : decode cX8_init 39 = .ok (.bipush 12, 2) := by decide +kernel
theorem dX8_init_41 : decode cX8_init 41 = .ok (.newarray .int, 2) := by decide +kernel
theorem dX8_init_43 : decode cX8_init 43 = .ok (.putfield 24, 3) := by decide +kernel
theorem dX8_init_46 : decode cX8_init 46 = .ok (.aload_n 0, 1) := by decide +kernel
theorem dX8_init_47 : decode cX8_init 47 = .ok (.bipush 12, 2) := by decide +kernel
theorem dX8_init_49 : decode cX8_init 49 = .ok (.newarray .int, 2) := by decide +kernel
theorem dX8_init_51 : decode cX8_init 51 = .ok (.putfield 27, 3) := by decide +kernel
theorem dX8_init_54 : decode cX8_init 54 = .ok (.aload_n 0, 1) := by decide +kernel
theorem dX8_init_55 : decode cX8_init 55 = .ok (.bipush 12, 2) := by decide +kernel
theorem dX8_init_57 : decode cX8_init 57 = .ok (.newarray .int, 2) := by decide +kernel
theorem dX8_init_59 : decode cX8_init 59 = .ok (.putfield 30, 3) := by decide +kernel
theorem dX8_init_62 : decode cX8_init 62 = .ok (.aload_n 0, 1) := by decide +kernel
theorem dX8_init_63 : decode cX8_init 63 = .ok (.bipush 64, 2) := by decide +kernel
theorem dX8_init_65 : decode cX8_init 65 = .ok (.newarray .long, 2) := by decide +kernel
theorem dX8_init_67 : decode cX8_init 67 = .ok (.putfield 33, 3) := by decide +kernel
theorem dX8_init_70 : decode cX8_init 70 = .ok (.return_, 1) := by decide +kernel
theorem dX8_copyFrom_0 : decode cX8_copyFrom 0 = .ok (.aload_n 0, 1) := by decide +kernel
theorem dX8_copyFrom_1 : decode cX8_copyFrom 1 = .ok (.aload_n 1, 1) := by decide +kernel
theorem dX8_copyFrom_2 : decode cX8_copyFrom 2 = .ok (.getfield 37, 3) := by decide +kernel
theorem dX8_copyFrom_5 : decode cX8_copyFrom 5 = .ok (.putfield 37, 3) := by decide +kernel
theorem dX8_copyFrom_8 : decode cX8_copyFrom 8 = .ok (.aload_n 1, 1) := by decide +kernel
theorem dX8_copyFrom_9 : decode cX8_copyFrom 9 = .ok (.getfield 9, 3) := by decide +kernel
theorem dX8_copyFrom_12 : decode cX8_copyFrom 12 = .ok (.iconst 0, 1) := by decide +kernel
theorem dX8_copyFrom_13 : decode cX8_copyFrom 13 = .ok (.aload_n 0, 1) := by decide +kernel
theorem dX8_copyFrom_14 : decode cX8_copyFrom 14 = .ok (.getfield 9, 3) := by decide +kernel
theorem dX8_copyFrom_17 : decode cX8_copyFrom 17 = .ok (.iconst 0, 1) := by decide +kernel
theorem dX8_copyFrom_18 : decode cX8_copyFrom 18 = .ok (.aload_n 0, 1) := by decide +kernel
theorem dX8_copyFrom_19 : decode cX8_copyFrom 19 = .ok (.getfield 37, 3) := by decide +kernel
theorem dX8_copyFrom_22 : decode cX8_copyFrom 22 = .ok (.invokestatic 41, 3) := by decide +kernel
theorem dX8_copyFrom_25 : decode cX8_copyFrom 25 = .ok (.aload_n 1, 1) := by decide +kernel
theorem dX8_copyFrom_26 : decode cX8_copyFrom 26 = .ok (.getfield 15, 3) := by decide +kernel
theorem dX8_copyFrom_29 : decode cX8_copyFrom 29 = .ok (.iconst 0, 1) := by decide +kernel
theorem dX8_copyFrom_30 : decode cX8_copyFrom 30 = .ok (.aload_n 0, 1) := by decide +kernel
theorem dX8_copyFrom_31 : decode cX8_copyFrom 31 = .ok (.getfield 15, 3) := by decide +kernel
theorem dX8_copyFrom_34 : decode cX8_copyFrom 34 = .ok (.iconst 0, 1) := by decide +kernel
theorem dX8_copyFrom_35 : decode cX8_copyFrom 35 = .ok (.aload_n 0, 1) := by decide +kernel
theorem dX8_copyFrom_36 : decode cX8_copyFrom 36 = .ok (.getfield 37, 3) := by decide +kernel
theorem dX8_copyFrom_39 : decode cX8_copyFrom 39 = .ok (.invokestatic 41, 3) := by decide +kernel
theorem dX8_copyFrom_42 : decode cX8_copyFrom 42 = .ok (.aload_n 0, 1) := by decide +kernel
theorem dX8_copyFrom_43 : decode cX8_copyFrom 43 = .ok (.aload_n 1, 1) := by decide +kernel
theorem dX8_copyFrom_44 : decode cX8_copyFrom 44 = .ok (.getfield 47, 3) := by decide +kernel
theorem dX8_copyFrom_47 : decode cX8_copyFrom 47 = .ok (.putfield 47, 3) := by decide +kernel
theorem dX8_copyFrom_50 : decode cX8_copyFrom 50 = .ok (.aload_n 1, 1) := by decide +kernel
theorem dX8_copyFrom_51 : decode cX8_copyFrom 51 = .ok (.getfield 18, 3) := by decide +kernel
theorem dX8_copyFrom_54 : decode cX8_copyFrom 54 = .ok (.iconst 0, 1) := by decide +kernel
theorem dX8_copyFrom_55 : decode cX8_copyFrom 55 = .ok (.aload_n 0, 1) := by decide +kernel
theorem dX8_copyFrom_56 : decode cX8_copyFrom 56 = .ok (.getfield 18, 3) := by decide +kernel
theorem dX8_copyFrom_59 : decode cX8_copyFrom 59 = .ok (.iconst 0, 1) := by decide +kernel
theorem dX8_copyFrom_60 : decode cX8_copyFrom 60 = .ok (.aload_n 0, 1) := by decide +kernel
theorem dX8_copyFrom_61 : decode cX8_copyFrom 61 = .ok (.getfield 47, 3) := by decide +kernel
theorem dX8_copyFrom_64 : decode cX8_copyFrom 64 = .ok (.invokestatic 41, 3) := by decide +kernel
theorem dX8_copyFrom_67 : decode cX8_copyFrom 67 = .ok (.aload_n 1, 1) := by decide +kernel
theorem dX8_copyFrom_68 : decode cX8_copyFrom 68 = .ok (.getfield 21, 3) := by decide +kernel
theorem dX8_copyFrom_71 : decode cX8_copyFrom 71 = .ok (.iconst 0, 1) := by decide +kernel
theorem dX8_copyFrom_72 : decode cX8_copyFrom 72 = .ok (.aload_n 0, 1) := by decide +kernel
theorem dX8_copyFrom_73 : decode cX8_copyFrom 73 = .ok (.getfield 21, 3) := by decide +kernel
theorem dX8_copyFrom_76 : decode cX8_copyFrom 76 = .ok (.iconst 0, 1) := by decide +kernel
theorem dX8_copyFrom_77 : decode cX8_copyFrom 77 = .ok (.aload_n 0, 1) := by decide +kernel
theorem dX8_copyFrom_78 : decode cX8_copyFrom 78 = .ok (.getfield 47, 3) := by decide +kernel
theorem dX8_copyFrom_81 : decode cX8_copyFrom 81 = .ok (.invokestatic 41, 3) := by decide +kernel
theorem dX8_copyFrom_84 : decode cX8_copyFrom 84 = .ok (.aload_n 1, 1) := by decide +kernel
theorem dX8_copyFrom_85 : decode cX8_copyFrom 85 = .ok (.getfield 24, 3) := by decide +kernel
theorem dX8_copyFrom_88 : decode cX8_copyFrom 88 = .ok (.iconst 0, 1) := by decide +kernel
theorem dX8_copyFrom_89 : decode cX8_copyFrom 89 = .ok (.aload_n 0, 1) := by decide +kernel
theorem dX8_copyFrom_90 : decode cX8_copyFrom 90 = .ok (.getfield 24, 3) := by decide +kernel
theorem dX8_copyFrom_93 : decode cX8_copyFrom 93 = .ok (.iconst 0, 1) := by decide +kernel
theorem dX8_copyFrom_94 : decode cX8_copyFrom 94 = .ok (.aload_n 0, 1) := by decide +kernel
theorem dX8_copyFrom_95 : decode cX8_copyFrom 95 = .ok (.getfield 47, 3) := by decide +kernel
theorem dX8_copyFrom_98 : decode cX8_copyFrom 98 = .ok (.invokestatic 41, 3) := by decide +kernel
theorem dX8_copyFrom_101 : decode cX8_copyFrom 101 = .ok (.aload_n 1, 1) := by decide +kernel
theorem dX8_copyFrom_102 : decode cX8_copyFrom 102 = .ok (.getfield 27, 3) := by decide +kernel
theorem dX8_copyFrom_105 : decode cX8_copyFrom 105 = .ok (.iconst 0, 1) := by decide +kernel
theorem dX8_copyFrom_106 : decode cX8_copyFrom 106 = .ok (.aload_n 0, 1) := by decide +kernel
theorem dX8_copyFrom_107 : decode cX8_copyFrom 107 = .ok (.getfield 27, 3) := by decide +kernel
theorem dX8_copyFrom_110 : decode cX8_copyFrom 110 = .ok (.iconst 0, 1) := by decide +kernel
theorem dX8_copyFrom_111 : decode cX8_copyFrom 111 = .ok (.aload_n 0, 1) := by decide +kernel
theorem dX8_copyFrom_112 : decode cX8_copyFrom 112 = .ok (.getfield 47, 3) := by decide +kernel
theorem dX8_copyFrom_115 : decode cX8_copyFrom 115 = .ok (.invokestatic 41, 3) := by decide +kernel
theorem dX8_copyFrom_118 : decode cX8_copyFrom 118 = .ok (.aload_n 1, 1) := by decide +kernel
theorem dX8_copyFrom_119 : decode cX8_copyFrom 119 = .ok (.getfield 30, 3) := by decide +kernel
theorem dX8_copyFrom_122 : decode cX8_copyFrom 122 = .ok (.iconst 0, 1) := by decide +kernel
theorem dX8_copyFrom_123 : decode cX8_copyFrom 123 = .ok (.aload_n 0, 1) := by decide +kernel
theorem dX8_copyFrom_124 : decode cX8_copyFrom 124 = .ok (.getfield 30, 3) := by decide +kernel
theorem dX8_copyFrom_127 : decode cX8_copyFrom 127 = .ok (.iconst 0, 1) := by decide +kernel
theorem dX8_copyFrom_128 : decode cX8_copyFrom 128 = .ok (.aload_n 0, 1) := by decide +kernel
theorem dX8_copyFrom_129 : decode cX8_copyFrom 129 = .ok (.getfield 47, 3) := by decide +kernel
theorem dX8_copyFrom_132 : decode cX8_copyFrom 132 = .ok (.invokestatic 41, 3) := by decide +kernel
theorem dX8_copyFrom_135 : decode cX8_copyFrom 135 = .ok (.return_, 1) := by decide +kernel
theorem dX8_emitCode_0 : decode cX8_emitCode 0 = .ok (.aload_n 0, 1) := by decide +kernel
theorem dX8_emitCode_1 : decode cX8_emitCode 1 = .ok (.getfield 37, 3) := by decide +kernel
theorem dX8_emitCode_4 : decode cX8_emitCode 4 = .ok (.sipush 500, 3) := by decide +kernel
theorem dX8_emitCode_7 : decode cX8_emitCode 7 = .ok (.if_icmp .ge 33, 3) := by decide +kernel
theorem dX8_emitCode_10 : decode cX8_emitCode 10 = .ok (.aload_n 0, 1) := by decide +kernel
theorem dX8_emitCode_11 : decode cX8_emitCode 11 = .ok (.getfield 9, 3) := by decide +kernel
theorem dX8_emitCode_14 : decode cX8_emitCode 14 = .ok (.aload_n 0, 1) := by decide +kernel
theorem dX8_emitCode_15 : decode cX8_emitCode 15 = .ok (.getfield 37, 3) := by decide +kernel
theorem dX8_emitCode_18 : decode cX8_emitCode 18 = .ok (.iload_n 1, 1) := by decide +kernel
theorem dX8_emitCode_19 : decode cX8_emitCode 19 = .ok (.iastore, 1) := by decide +kernel
theorem dX8_emitCode_20 : decode cX8_emitCode 20 = .ok (.aload_n 0, 1) := by decide +kernel
theorem dX8_emitCode_21 : decode cX8_emitCode 21 = .ok (.getfield 15, 3) := by decide +kernel
theorem dX8_emitCode_24 : decode cX8_emitCode 24 = .ok (.aload_n 0, 1) := by decide +kernel
theorem dX8_emitCode_25 : decode cX8_emitCode 25 = .ok (.getfield 37, 3) := by decide +kernel
theorem dX8_emitCode_28 : decode cX8_emitCode 28 = .ok (.iload_n 2, 1) := by decide +kernel
theorem dX8_emitCode_29 : decode cX8_emitCode 29 = .ok (.iastore, 1) := by decide +kernel
theorem dX8_emitCode_30 : decode cX8_emitCode 30 = .ok (.aload_n 0, 1) := by decide +kernel
theorem dX8_emitCode_31 : decode cX8_emitCode 31 = .ok (.dup, 1) := by decide +kernel
theorem dX8_emitCode_32 : decode cX8_emitCode 32 = .ok (.getfield 37, 3) := by decide +kernel
theorem dX8_emitCode_35 : decode cX8_emitCode 35 = .ok (.iconst 1, 1) := by decide +kernel
theorem dX8_emitCode_36 : decode cX8_emitCode 36 = .ok (.iadd, 1) := by decide +kernel
theorem dX8_emitCode_37 : decode cX8_emitCode 37 = .ok (.putfield 37, 3) := by decide +kernel
theorem dX8_emitCode_40 : decode cX8_emitCode 40 = .ok (.return_, 1) := by decide +kernel
theorem dX8_isDue_0 : decode cX8_isDue 0 = .ok (.aload_n 0, 1) := by decide +kernel
theorem dX8_isDue_1 : decode cX8_isDue 1 = .ok (.aload_n 0, 1) := by decide +kernel
theorem dX8_isDue_2 : decode cX8_isDue 2 = .ok (.getfield 18, 3) := by decide +kernel
theorem dX8_isDue_5 : decode cX8_isDue 5 = .ok (.iload_n 1, 1) := by decide +kernel
theorem dX8_isDue_6 : decode cX8_isDue 6 = .ok (.iaload, 1) := by decide +kernel
theorem dX8_isDue_7 : decode cX8_isDue 7 = .ok (.aload_n 0, 1) := by decide +kernel
theorem dX8_isDue_8 : decode cX8_isDue 8 = .ok (.getfield 21, 3) := by decide +kernel
theorem dX8_isDue_11 : decode cX8_isDue 11 = .ok (.iload_n 1, 1) := by decide +kernel
theorem dX8_isDue_12 : decode cX8_isDue 12 = .ok (.iaload, 1) := by decide +kernel
theorem dX8_isDue_13 : decode cX8_isDue 13 = .ok (.aload_n 2, 1) := by decide +kernel
theorem dX8_isDue_14 : decode cX8_isDue 14 = .ok (.invokevirtual 50, 3) := by decide +kernel
theorem dX8_isDue_17 : decode cX8_isDue 17 = .ok (.lconst 0, 1) := by decide +kernel
theorem dX8_isDue_18 : decode cX8_isDue 18 = .ok (.lcmp, 1) := by decide +kernel
theorem dX8_isDue_19 : decode cX8_isDue 19 = .ok (.ifCond .eq 7, 3) := by decide +kernel
theorem dX8_isDue_22 : decode cX8_isDue 22 = .ok (.iconst 1, 1) := by decide +kernel
theorem dX8_isDue_23 : decode cX8_isDue 23 = .ok (.goto 4, 3) := by decide +kernel
theorem dX8_isDue_26 : decode cX8_isDue 26 = .ok (.iconst 0, 1) := by decide +kernel
theorem dX8_isDue_27 : decode cX8_isDue 27 = .ok (.ireturn, 1) := by decide +kernel
theorem dX8_act_0 : decode cX8_act 0 = .ok (.aload_n 0, 1) := by decide +kernel
theorem dX8_act_1 : decode cX8_act 1 = .ok (.getfield 30, 3) := by decide +kernel
theorem dX8_act_4 : decode cX8_act 4 = .ok (.iload_n 1, 1) := by decide +kernel
theorem dX8_act_5 : decode cX8_act 5 = .ok (.iaload, 1) := by decide +kernel
theorem dX8_act_6 : decode cX8_act 6 = .ok (.istore_n 3, 1) := by decide +kernel
theorem dX8_act_7 : decode cX8_act 7 = .ok (.aload_n 0, 1) := by decide +kernel
theorem dX8_act_8 : decode cX8_act 8 = .ok (.getfield 27, 3) := by decide +kernel
theorem dX8_act_11 : decode cX8_act 11 = .ok (.iload_n 1, 1) := by decide +kernel
theorem dX8_act_12 : decode cX8_act 12 = .ok (.iaload, 1) := by decide +kernel
theorem dX8_act_13 : decode cX8_act 13 = .ok (.istore 4, 2) := by decide +kernel
theorem dX8_act_15 : decode cX8_act 15 = .ok (.iload 4, 2) := by decide +kernel
theorem dX8_act_17 : decode cX8_act 17 = .ok (.sipush 214, 3) := by decide +kernel
theorem dX8_act_20 : decode cX8_act 20 = .ok (.if_icmp .ne 52, 3) := by decide +kernel
theorem dX8_act_23 : decode cX8_act 23 = .ok (.aload_n 2, 1) := by decide +kernel
theorem dX8_act_24 : decode cX8_act 24 = .ok (.iload_n 3, 1) := by decide +kernel
theorem dX8_act_25 : decode cX8_act 25 = .ok (.invokevirtual 54, 3) := by decide +kernel
theorem dX8_act_28 : decode cX8_act 28 = .ok (.ifCond .eq 135, 3) := by decide +kernel
theorem dX8_act_31 : decode cX8_act 31 = .ok (.aload_n 0, 1) := by decide +kernel
theorem dX8_act_32 : decode cX8_act 32 = .ok (.aload_n 0, 1) := by decide +kernel
theorem dX8_act_33 : decode cX8_act 33 = .ok (.getfield 21, 3) := by decide +kernel
theorem dX8_act_36 : decode cX8_act 36 = .ok (.iload_n 1, 1) := by decide +kernel
theorem dX8_act_37 : decode cX8_act 37 = .ok (.iaload, 1) := by decide +kernel
theorem dX8_act_38 : decode cX8_act 38 = .ok (.aload_n 0, 1) := by decide +kernel
theorem dX8_act_39 : decode cX8_act 39 = .ok (.getfield 24, 3) := by decide +kernel
theorem dX8_act_42 : decode cX8_act 42 = .ok (.iload_n 1, 1) := by decide +kernel
theorem dX8_act_43 : decode cX8_act 43 = .ok (.iaload, 1) := by decide +kernel
theorem dX8_act_44 : decode cX8_act 44 = .ok (.aload_n 2, 1) := by decide +kernel
theorem dX8_act_45 : decode cX8_act 45 = .ok (.invokevirtual 50, 3) := by decide +kernel
theorem dX8_act_48 : decode cX8_act 48 = .ok (.lstore 5, 2) := by decide +kernel
theorem dX8_act_50 : decode cX8_act 50 = .ok (.aload_n 2, 1) := by decide +kernel
theorem dX8_act_51 : decode cX8_act 51 = .ok (.getfield 60, 3) := by decide +kernel
theorem dX8_act_54 : decode cX8_act 54 = .ok (.iload_n 3, 1) := by decide +kernel
theorem dX8_act_55 : decode cX8_act 55 = .ok (.aaload, 1) := by decide +kernel
theorem dX8_act_56 : decode cX8_act 56 = .ok (.lload 5, 2) := by decide +kernel
theorem dX8_act_58 : decode cX8_act 58 = .ok (.lconst 0, 1) := by decide +kernel
theorem dX8_act_59 : decode cX8_act 59 = .ok (.ldc2_w 64, 3) := by decide +kernel
theorem dX8_act_62 : decode cX8_act 62 = .ok (.invokestatic 66, 3) := by decide +kernel
theorem dX8_act_65 : decode cX8_act 65 = .ok (.l2i, 1) := by decide +kernel
theorem dX8_act_66 : decode cX8_act 66 = .ok (.putfield 70, 3) := by decide +kernel
theorem dX8_act_69 : decode cX8_act 69 = .ok (.goto 94, 3) := by decide +kernel
theorem dX8_act_72 : decode cX8_act 72 = .ok (.iload 4, 2) := by decide +kernel
theorem dX8_act_74 : decode cX8_act 74 = .ok (.sipush 218, 3) := by decide +kernel
theorem dX8_act_77 : decode cX8_act 77 = .ok (.if_icmp .eq 11, 3) := by decide +kernel
theorem dX8_act_80 : decode cX8_act 80 = .ok (.iload 4, 2) := by decide +kernel
theorem dX8_act_82 : decode cX8_act 82 = .ok (.sipush 219, 3) := by decide +kernel
theorem dX8_act_85 : decode cX8_act 85 = .ok (.if_icmp .ne 36, 3) := by decide +kernel
theorem dX8_act_88 : decode cX8_act 88 = .ok (.aload_n 2, 1) := by decide +kernel
theorem dX8_act_89 : decode cX8_act 89 = .ok (.iload_n 3, 1) := by decide +kernel
theorem dX8_act_90 : decode cX8_act 90 = .ok (.invokevirtual 75, 3) := by decide +kernel
theorem dX8_act_93 : decode cX8_act 93 = .ok (.ifCond .eq 70, 3) := by decide +kernel
theorem dX8_act_96 : decode cX8_act 96 = .ok (.aload_n 2, 1) := by decide +kernel
theorem dX8_act_97 : decode cX8_act 97 = .ok (.getfield 78, 3) := by decide +kernel
theorem dX8_act_100 : decode cX8_act 100 = .ok (.iload_n 3, 1) := by decide +kernel
theorem dX8_act_101 : decode cX8_act 101 = .ok (.aaload, 1) := by decide +kernel
theorem dX8_act_102 : decode cX8_act 102 = .ok (.iload 4, 2) := by decide +kernel
theorem dX8_act_104 : decode cX8_act 104 = .ok (.sipush 218, 3) := by decide +kernel
theorem dX8_act_107 : decode cX8_act 107 = .ok (.if_icmp .ne 7, 3) := by decide +kernel
theorem dX8_act_110 : decode cX8_act 110 = .ok (.iconst 1, 1) := by decide +kernel
theorem dX8_act_111 : decode cX8_act 111 = .ok (.goto 4, 3) := by decide +kernel
theorem dX8_act_114 : decode cX8_act 114 = .ok (.iconst 0, 1) := by decide +kernel
theorem dX8_act_115 : decode cX8_act 115 = .ok (.putfield 82, 3) := by decide +kernel
theorem dX8_act_118 : decode cX8_act 118 = .ok (.goto 45, 3) := by decide +kernel
theorem dX8_act_121 : decode cX8_act 121 = .ok (.aload_n 2, 1) := by decide +kernel
theorem dX8_act_122 : decode cX8_act 122 = .ok (.iload_n 3, 1) := by decide +kernel
theorem dX8_act_123 : decode cX8_act 123 = .ok (.invokevirtual 88, 3) := by decide +kernel
theorem dX8_act_126 : decode cX8_act 126 = .ok (.ifCond .eq 37, 3) := by decide +kernel
theorem dX8_act_129 : decode cX8_act 129 = .ok (.aload_n 2, 1) := by decide +kernel
theorem dX8_act_130 : decode cX8_act 130 = .ok (.getfield 91, 3) := by decide +kernel
theorem dX8_act_133 : decode cX8_act 133 = .ok (.iload_n 3, 1) := by decide +kernel
theorem dX8_act_134 : decode cX8_act 134 = .ok (.aaload, 1) := by decide +kernel
theorem dX8_act_135 : decode cX8_act 135 = .ok (.iload 4, 2) := by decide +kernel
theorem dX8_act_137 : decode cX8_act 137 = .ok (.sipush 215, 3) := by decide +kernel
theorem dX8_act_140 : decode cX8_act 140 = .ok (.if_icmp .ne 7, 3) := by decide +kernel
theorem dX8_act_143 : decode cX8_act 143 = .ok (.iconst 1, 1) := by decide +kernel
theorem dX8_act_144 : decode cX8_act 144 = .ok (.goto 16, 3) := by decide +kernel
theorem dX8_act_147 : decode cX8_act 147 = .ok (.iload 4, 2) := by decide +kernel
theorem dX8_act_149 : decode cX8_act 149 = .ok (.sipush 216, 3) := by decide +kernel
theorem dX8_act_152 : decode cX8_act 152 = .ok (.if_icmp .ne 7, 3) := by decide +kernel
theorem dX8_act_155 : decode cX8_act 155 = .ok (.iconst 2, 1) := by decide +kernel
theorem dX8_act_156 : decode cX8_act 156 = .ok (.goto 4, 3) := by decide +kernel
theorem dX8_act_159 : decode cX8_act 159 = .ok (.iconst 0, 1) := by decide +kernel
theorem dX8_act_160 : decode cX8_act 160 = .ok (.putfield 95, 3) := by decide +kernel
theorem dX8_act_163 : decode cX8_act 163 = .ok (.return_, 1) := by decide +kernel
theorem dX8_evaluate_0 : decode cX8_evaluate 0 = .ok (.iload_n 1, 1) := by decide +kernel
theorem dX8_evaluate_1 : decode cX8_evaluate 1 = .ok (.iload_n 2, 1) := by decide +kernel
theorem dX8_evaluate_2 : decode cX8_evaluate 2 = .ok (.if_icmp .ne 5, 3) := by decide +kernel
theorem dX8_evaluate_5 : decode cX8_evaluate 5 = .ok (.lconst 1, 1) := by decide +kernel
theorem dX8_evaluate_6 : decode cX8_evaluate 6 = .ok (.lreturn, 1) := by decide +kernel
theorem dX8_evaluate_7 : decode cX8_evaluate 7 = .ok (.iconst 0, 1) := by decide +kernel
theorem dX8_evaluate_8 : decode cX8_evaluate 8 = .ok (.istore 4, 2) := by decide +kernel
theorem dX8_evaluate_10 : decode cX8_evaluate 10 = .ok (.iconst 0, 1) := by decide +kernel
theorem dX8_evaluate_11 : decode cX8_evaluate 11 = .ok (.istore 5, 2) := by decide +kernel
theorem dX8_evaluate_13 : decode cX8_evaluate 13 = .ok (.iload_n 1, 1) := by decide +kernel
theorem dX8_evaluate_14 : decode cX8_evaluate 14 = .ok (.istore 6, 2) := by decide +kernel
theorem dX8_evaluate_16 : decode cX8_evaluate 16 = .ok (.iload 6, 2) := by decide +kernel
theorem dX8_evaluate_18 : decode cX8_evaluate 18 = .ok (.iload_n 2, 1) := by decide +kernel
theorem dX8_evaluate_19 : decode cX8_evaluate 19 = .ok (.if_icmp .ge 264, 3) := by decide +kernel
theorem dX8_evaluate_22 : decode cX8_evaluate 22 = .ok (.aload_n 0, 1) := by decide +kernel
theorem dX8_evaluate_23 : decode cX8_evaluate 23 = .ok (.getfield 9, 3) := by decide +kernel
theorem dX8_evaluate_26 : decode cX8_evaluate 26 = .ok (.iload 6, 2) := by decide +kernel
theorem dX8_evaluate_28 : decode cX8_evaluate 28 = .ok (.iaload, 1) := by decide +kernel
theorem dX8_evaluate_29 : decode cX8_evaluate 29 = .ok (.istore 7, 2) := by decide +kernel
theorem dX8_evaluate_31 : decode cX8_evaluate 31 = .ok (.iload 5, 2) := by decide +kernel
theorem dX8_evaluate_33 : decode cX8_evaluate 33 = .ok (.ifCond .eq 21, 3) := by decide +kernel
theorem dX8_evaluate_36 : decode cX8_evaluate 36 = .ok (.iload 7, 2) := by decide +kernel
theorem dX8_evaluate_38 : decode cX8_evaluate 38 = .ok (.sipush 202, 3) := by decide +kernel
theorem dX8_evaluate_41 : decode cX8_evaluate 41 = .ok (.if_icmp .eq 7, 3) := by decide +kernel
theorem dX8_evaluate_44 : decode cX8_evaluate 44 = .ok (.iconst 1, 1) := by decide +kernel
theorem dX8_evaluate_45 : decode cX8_evaluate 45 = .ok (.goto 4, 3) := by decide +kernel
theorem dX8_evaluate_48 : decode cX8_evaluate 48 = .ok (.iconst 0, 1) := by decide +kernel
theorem dX8_evaluate_49 : decode cX8_evaluate 49 = .ok (.istore 5, 2) := by decide +kernel
theorem dX8_evaluate_51 : decode cX8_evaluate 51 = .ok (.goto 226, 3) := by decide +kernel
theorem dX8_evaluate_54 : decode cX8_evaluate 54 = .ok (.iload 7, 2) := by decide +kernel
theorem dX8_evaluate_56 : decode cX8_evaluate 56 = .ok (.sipush 203, 3) := by decide +kernel
theorem dX8_evaluate_59 : decode cX8_evaluate 59 = .ok (.if_icmp .eq 11, 3) := by decide +kernel
theorem dX8_evaluate_62 : decode cX8_evaluate 62 = .ok (.iload 7, 2) := by decide +kernel
theorem dX8_evaluate_64 : decode cX8_evaluate 64 = .ok (.sipush 202, 3) := by decide +kernel
theorem dX8_evaluate_67 : decode cX8_evaluate 67 = .ok (.if_icmp .ne 70, 3) := by decide +kernel
theorem dX8_evaluate_70 : decode cX8_evaluate 70 = .ok (.iload 4, 2) := by decide +kernel
theorem dX8_evaluate_72 : decode cX8_evaluate 72 = .ok (.ifCond .le 21, 3) := by decide +kernel
theorem dX8_evaluate_75 : decode cX8_evaluate 75 = .ok (.aload_n 0, 1) := by decide +kernel
theorem dX8_evaluate_76 : decode cX8_evaluate 76 = .ok (.getfield 33, 3) := by decide +kernel
theorem dX8_evaluate_79 : decode cX8_evaluate 79 = .ok (.iload 4, 2) := by decide +kernel
theorem dX8_evaluate_81 : decode cX8_evaluate 81 = .ok (.iconst 1, 1) := by decide +kernel
theorem dX8_evaluate_82 : decode cX8_evaluate 82 = .ok (.isub, 1) := by decide +kernel
theorem dX8_evaluate_83 : decode cX8_evaluate 83 = .ok (.laload, 1) := by decide +kernel
theorem dX8_evaluate_84 : decode cX8_evaluate 84 = .ok (.lconst 0, 1) := by decide +kernel
theorem dX8_evaluate_85 : decode cX8_evaluate 85 = .ok (.lcmp, 1) := by decide +kernel
theorem dX8_evaluate_86 : decode cX8_evaluate 86 = .ok (.ifCond .eq 7, 3) := by decide +kernel
theorem dX8_evaluate_89 : decode cX8_evaluate 89 = .ok (.iconst 1, 1) := by decide +kernel
theorem dX8_evaluate_90 : decode cX8_evaluate 90 = .ok (.goto 4, 3) := by decide +kernel
theorem dX8_evaluate_93 : decode cX8_evaluate 93 = .ok (.iconst 0, 1) := by decide +kernel
theorem dX8_evaluate_94 : decode cX8_evaluate 94 = .ok (.istore 8, 2) := by decide +kernel
theorem dX8_evaluate_96 : decode cX8_evaluate 96 = .ok (.iload 8, 2) := by decide +kernel
theorem dX8_evaluate_98 : decode cX8_evaluate 98 = .ok (.ifCond .eq 13, 3) := by decide +kernel
theorem dX8_evaluate_101 : decode cX8_evaluate 101 = .ok (.iload 7, 2) := by decide +kernel
theorem dX8_evaluate_103 : decode cX8_evaluate 103 = .ok (.sipush 202, 3) := by decide +kernel
theorem dX8_evaluate_106 : decode cX8_evaluate 106 = .ok (.if_icmp .ne 5, 3) := by decide +kernel
theorem dX8_evaluate_109 : decode cX8_evaluate 109 = .ok (.lconst 1, 1) := by decide +kernel
theorem dX8_evaluate_110 : decode cX8_evaluate 110 = .ok (.lreturn, 1) := by decide +kernel
theorem dX8_evaluate_111 : decode cX8_evaluate 111 = .ok (.iload 8, 2) := by decide +kernel
theorem dX8_evaluate_113 : decode cX8_evaluate 113 = .ok (.ifCond .ne 15, 3) := by decide +kernel
theorem dX8_evaluate_116 : decode cX8_evaluate 116 = .ok (.iload 7, 2) := by decide +kernel
theorem dX8_evaluate_118 : decode cX8_evaluate 118 = .ok (.sipush 203, 3) := by decide +kernel
theorem dX8_evaluate_121 : decode cX8_evaluate 121 = .ok (.if_icmp .ne 7, 3) := by decide +kernel
theorem dX8_evaluate_124 : decode cX8_evaluate 124 = .ok (.iconst 1, 1) := by decide +kernel
theorem dX8_evaluate_125 : decode cX8_evaluate 125 = .ok (.goto 4, 3) := by decide +kernel
theorem dX8_evaluate_128 : decode cX8_evaluate 128 = .ok (.iconst 0, 1) := by decide +kernel
theorem dX8_evaluate_129 : decode cX8_evaluate 129 = .ok (.istore 5, 2) := by decide +kernel
theorem dX8_evaluate_131 : decode cX8_evaluate 131 = .ok (.iconst 0, 1) := by decide +kernel
theorem dX8_evaluate_132 : decode cX8_evaluate 132 = .ok (.istore 4, 2) := by decide +kernel
theorem dX8_evaluate_134 : decode cX8_evaluate 134 = .ok (.goto 143, 3) := by decide +kernel
theorem dX8_evaluate_137 : decode cX8_evaluate 137 = .ok (.iload 7, 2) := by decide +kernel
theorem dX8_evaluate_139 : decode cX8_evaluate 139 = .ok (.sipush 204, 3) := by decide +kernel
theorem dX8_evaluate_142 : decode cX8_evaluate 142 = .ok (.if_icmp .eq 11, 3) := by decide +kernel
theorem dX8_evaluate_145 : decode cX8_evaluate 145 = .ok (.iload 7, 2) := by decide +kernel
theorem dX8_evaluate_147 : decode cX8_evaluate 147 = .ok (.sipush 220, 3) := by decide +kernel
theorem dX8_evaluate_150 : decode cX8_evaluate 150 = .ok (.if_icmp .ne 44, 3) := by decide +kernel
theorem dX8_evaluate_153 : decode cX8_evaluate 153 = .ok (.iload 4, 2) := by decide +kernel
theorem dX8_evaluate_155 : decode cX8_evaluate 155 = .ok (.ifCond .le 122, 3) := by decide +kernel
theorem dX8_evaluate_158 : decode cX8_evaluate 158 = .ok (.aload_n 0, 1) := by decide +kernel
theorem dX8_evaluate_159 : decode cX8_evaluate 159 = .ok (.getfield 33, 3) := by decide +kernel
theorem dX8_evaluate_162 : decode cX8_evaluate 162 = .ok (.iload 4, 2) := by decide +kernel
theorem dX8_evaluate_164 : decode cX8_evaluate 164 = .ok (.iconst 1, 1) := by decide +kernel
theorem dX8_evaluate_165 : decode cX8_evaluate 165 = .ok (.isub, 1) := by decide +kernel
theorem dX8_evaluate_166 : decode cX8_evaluate 166 = .ok (.iload 7, 2) := by decide +kernel
theorem dX8_evaluate_168 : decode cX8_evaluate 168 = .ok (.sipush 204, 3) := by decide +kernel
theorem dX8_evaluate_171 : decode cX8_evaluate 171 = .ok (.if_icmp .ne 7, 3) := by decide +kernel
theorem dX8_evaluate_174 : decode cX8_evaluate 174 = .ok (.iconst 1, 1) := by decide +kernel
theorem dX8_evaluate_175 : decode cX8_evaluate 175 = .ok (.goto 4, 3) := by decide +kernel
theorem dX8_evaluate_178 : decode cX8_evaluate 178 = .ok (.iconst 0, 1) := by decide +kernel
theorem dX8_evaluate_179 : decode cX8_evaluate 179 = .ok (.i2l, 1) := by decide +kernel
theorem dX8_evaluate_180 : decode cX8_evaluate 180 = .ok (.aload_n 0, 1) := by decide +kernel
theorem dX8_evaluate_181 : decode cX8_evaluate 181 = .ok (.getfield 33, 3) := by decide +kernel
theorem dX8_evaluate_184 : decode cX8_evaluate 184 = .ok (.iload 4, 2) := by decide +kernel
theorem dX8_evaluate_186 : decode cX8_evaluate 186 = .ok (.iconst 1, 1) := by decide +kernel
theorem dX8_evaluate_187 : decode cX8_evaluate 187 = .ok (.isub, 1) := by decide +kernel
theorem dX8_evaluate_188 : decode cX8_evaluate 188 = .ok (.laload, 1) := by decide +kernel
theorem dX8_evaluate_189 : decode cX8_evaluate 189 = .ok (.lsub, 1) := by decide +kernel
theorem dX8_evaluate_190 : decode cX8_evaluate 190 = .ok (.lastore, 1) := by decide +kernel
theorem dX8_evaluate_191 : decode cX8_evaluate 191 = .ok (.goto 86, 3) := by decide +kernel
theorem dX8_evaluate_194 : decode cX8_evaluate 194 = .ok (.iload 7, 2) := by decide +kernel
theorem dX8_evaluate_196 : decode cX8_evaluate 196 = .ok (.sipush 200, 3) := by decide +kernel
theorem dX8_evaluate_199 : decode cX8_evaluate 199 = .ok (.if_icmp .lt 39, 3) := by decide +kernel
theorem dX8_evaluate_202 : decode cX8_evaluate 202 = .ok (.iload 4, 2) := by decide +kernel
theorem dX8_evaluate_204 : decode cX8_evaluate 204 = .ok (.aload_n 0, 1) := by decide +kernel
theorem dX8_evaluate_205 : decode cX8_evaluate 205 = .ok (.getfield 33, 3) := by decide +kernel
theorem dX8_evaluate_208 : decode cX8_evaluate 208 = .ok (.arraylength, 1) := by decide +kernel
theorem dX8_evaluate_209 : decode cX8_evaluate 209 = .ok (.if_icmp .ge 68, 3) := by decide +kernel
theorem dX8_evaluate_212 : decode cX8_evaluate 212 = .ok (.aload_n 0, 1) := by decide +kernel
theorem dX8_evaluate_213 : decode cX8_evaluate 213 = .ok (.getfield 33, 3) := by decide +kernel
theorem dX8_evaluate_216 : decode cX8_evaluate 216 = .ok (.iload 4, 2) := by decide +kernel
theorem dX8_evaluate_218 : decode cX8_evaluate 218 = .ok (.iload 7, 2) := by decide +kernel
theorem dX8_evaluate_220 : decode cX8_evaluate 220 = .ok (.aload_n 0, 1) := by decide +kernel
theorem dX8_evaluate_221 : decode cX8_evaluate 221 = .ok (.getfield 15, 3) := by decide +kernel
theorem dX8_evaluate_224 : decode cX8_evaluate 224 = .ok (.iload 6, 2) := by decide +kernel
theorem dX8_evaluate_226 : decode cX8_evaluate 226 = .ok (.iaload, 1) := by decide +kernel
theorem dX8_evaluate_227 : decode cX8_evaluate 227 = .ok (.aload_n 3, 1) := by decide +kernel
theorem dX8_evaluate_228 : decode cX8_evaluate 228 = .ok (.invokestatic 100, 3) := by decide +kernel
theorem dX8_evaluate_231 : decode cX8_evaluate 231 = .ok (.lastore, 1) := by decide +kernel
theorem dX8_evaluate_232 : decode cX8_evaluate 232 = .ok (.iinc 4 1, 3) := by decide +kernel
theorem dX8_evaluate_235 : decode cX8_evaluate 235 = .ok (.goto 42, 3) := by decide +kernel
theorem dX8_evaluate_238 : decode cX8_evaluate 238 = .ok (.iload 4, 2) := by decide +kernel
theorem dX8_evaluate_240 : decode cX8_evaluate 240 = .ok (.iconst 1, 1) := by decide +kernel
theorem dX8_evaluate_241 : decode cX8_evaluate 241 = .ok (.if_icmp .le 36, 3) := by decide +kernel
theorem dX8_evaluate_244 : decode cX8_evaluate 244 = .ok (.iinc 4 (-1), 3) := by decide +kernel
theorem dX8_evaluate_247 : decode cX8_evaluate 247 = .ok (.aload_n 0, 1) := by decide +kernel
theorem dX8_evaluate_248 : decode cX8_evaluate 248 = .ok (.getfield 33, 3) := by decide +kernel
theorem dX8_evaluate_251 : decode cX8_evaluate 251 = .ok (.iload 4, 2) := by decide +kernel
theorem dX8_evaluate_253 : decode cX8_evaluate 253 = .ok (.iconst 1, 1) := by decide +kernel
theorem dX8_evaluate_254 : decode cX8_evaluate 254 = .ok (.isub, 1) := by decide +kernel
theorem dX8_evaluate_255 : decode cX8_evaluate 255 = .ok (.iload 7, 2) := by decide +kernel
theorem dX8_evaluate_257 : decode cX8_evaluate 257 = .ok (.aload_n 0, 1) := by decide +kernel
theorem dX8_evaluate_258 : decode cX8_evaluate 258 = .ok (.getfield 33, 3) := by decide +kernel
theorem dX8_evaluate_261 : decode cX8_evaluate 261 = .ok (.iload 4, 2) := by decide +kernel
theorem dX8_evaluate_263 : decode cX8_evaluate 263 = .ok (.iconst 1, 1) := by decide +kernel
theorem dX8_evaluate_264 : decode cX8_evaluate 264 = .ok (.isub, 1) := by decide +kernel
theorem dX8_evaluate_265 : decode cX8_evaluate 265 = .ok (.laload, 1) := by decide +kernel
theorem dX8_evaluate_266 : decode cX8_evaluate 266 = .ok (.aload_n 0, 1) := by decide +kernel
theorem dX8_evaluate_267 : decode cX8_evaluate 267 = .ok (.getfield 33, 3) := by decide +kernel
theorem dX8_evaluate_270 : decode cX8_evaluate 270 = .ok (.iload 4, 2) := by decide +kernel
theorem dX8_evaluate_272 : decode cX8_evaluate 272 = .ok (.laload, 1) := by decide +kernel
theorem dX8_evaluate_273 : decode cX8_evaluate 273 = .ok (.invokestatic 103, 3) := by decide +kernel
theorem dX8_evaluate_276 : decode cX8_evaluate 276 = .ok (.lastore, 1) := by decide +kernel
theorem dX8_evaluate_277 : decode cX8_evaluate 277 = .ok (.iinc 6 1, 3) := by decide +kernel
theorem dX8_evaluate_280 : decode cX8_evaluate 280 = .ok (.goto (-264), 3) := by decide +kernel
theorem dX8_evaluate_283 : decode cX8_evaluate 283 = .ok (.iload 4, 2) := by decide +kernel
theorem dX8_evaluate_285 : decode cX8_evaluate 285 = .ok (.ifCond .le 15, 3) := by decide +kernel
theorem dX8_evaluate_288 : decode cX8_evaluate 288 = .ok (.aload_n 0, 1) := by decide +kernel
theorem dX8_evaluate_289 : decode cX8_evaluate 289 = .ok (.getfield 33, 3) := by decide +kernel
theorem dX8_evaluate_292 : decode cX8_evaluate 292 = .ok (.iload 4, 2) := by decide +kernel
theorem dX8_evaluate_294 : decode cX8_evaluate 294 = .ok (.iconst 1, 1) := by decide +kernel
theorem dX8_evaluate_295 : decode cX8_evaluate 295 = .ok (.isub, 1) := by decide +kernel
theorem dX8_evaluate_296 : decode cX8_evaluate 296 = .ok (.laload, 1) := by decide +kernel
theorem dX8_evaluate_297 : decode cX8_evaluate 297 = .ok (.goto 4, 3) := by decide +kernel
theorem dX8_evaluate_300 : decode cX8_evaluate 300 = .ok (.lconst 0, 1) := by decide +kernel
theorem dX8_evaluate_301 : decode cX8_evaluate 301 = .ok (.lreturn, 1) := by decide +kernel
theorem dX8_valueOf_0 : decode cX8_valueOf 0 = .ok (.iload_n 0, 1) := by decide +kernel
theorem dX8_valueOf_1 : decode cX8_valueOf 1 = .ok (.tableswitch 153 200 211 #[63, 153, 153, 153, 153, 66, 73, 96, 119, 132, 138, 147], 63) := by decide +kernel
theorem dX8_valueOf_64 : decode cX8_valueOf 64 = .ok (.iload_n 1, 1) := by decide +kernel
theorem dX8_valueOf_65 : decode cX8_valueOf 65 = .ok (.i2l, 1) := by decide +kernel
theorem dX8_valueOf_66 : decode cX8_valueOf 66 = .ok (.lreturn, 1) := by decide +kernel
theorem dX8_valueOf_67 : decode cX8_valueOf 67 = .ok (.aload_n 2, 1) := by decide +kernel
theorem dX8_valueOf_68 : decode cX8_valueOf 68 = .ok (.iload_n 1, 1) := by decide +kernel
theorem dX8_valueOf_69 : decode cX8_valueOf 69 = .ok (.invokevirtual 107, 3) := by decide +kernel
theorem dX8_valueOf_72 : decode cX8_valueOf 72 = .ok (.i2l, 1) := by decide +kernel
theorem dX8_valueOf_73 : decode cX8_valueOf 73 = .ok (.lreturn, 1) := by decide +kernel
theorem dX8_valueOf_74 : decode cX8_valueOf 74 = .ok (.aload_n 2, 1) := by decide +kernel
theorem dX8_valueOf_75 : decode cX8_valueOf 75 = .ok (.iload_n 1, 1) := by decide +kernel
theorem dX8_valueOf_76 : decode cX8_valueOf 76 = .ok (.invokevirtual 75, 3) := by decide +kernel
theorem dX8_valueOf_79 : decode cX8_valueOf 79 = .ok (.ifCond .eq 16, 3) := by decide +kernel
theorem dX8_valueOf_82 : decode cX8_valueOf 82 = .ok (.aload_n 2, 1) := by decide +kernel
theorem dX8_valueOf_83 : decode cX8_valueOf 83 = .ok (.getfield 78, 3) := by decide +kernel
theorem dX8_valueOf_86 : decode cX8_valueOf 86 = .ok (.iload_n 1, 1) := by decide +kernel
theorem dX8_valueOf_87 : decode cX8_valueOf 87 = .ok (.aaload, 1) := by decide +kernel
theorem dX8_valueOf_88 : decode cX8_valueOf 88 = .ok (.getfield 111, 3) := by decide +kernel
theorem dX8_valueOf_91 : decode cX8_valueOf 91 = .ok (.i2l, 1) := by decide +kernel
theorem dX8_valueOf_92 : decode cX8_valueOf 92 = .ok (.goto 4, 3) := by decide +kernel
theorem dX8_valueOf_95 : decode cX8_valueOf 95 = .ok (.lconst 0, 1) := by decide +kernel
theorem dX8_valueOf_96 : decode cX8_valueOf 96 = .ok (.lreturn, 1) := by decide +kernel
theorem dX8_valueOf_97 : decode cX8_valueOf 97 = .ok (.aload_n 2, 1) := by decide +kernel
theorem dX8_valueOf_98 : decode cX8_valueOf 98 = .ok (.iload_n 1, 1) := by decide +kernel
theorem dX8_valueOf_99 : decode cX8_valueOf 99 = .ok (.invokevirtual 88, 3) := by decide +kernel
theorem dX8_valueOf_102 : decode cX8_valueOf 102 = .ok (.ifCond .eq 16, 3) := by decide +kernel
theorem dX8_valueOf_105 : decode cX8_valueOf 105 = .ok (.aload_n 2, 1) := by decide +kernel
theorem dX8_valueOf_106 : decode cX8_valueOf 106 = .ok (.getfield 91, 3) := by decide +kernel
theorem dX8_valueOf_109 : decode cX8_valueOf 109 = .ok (.iload_n 1, 1) := by decide +kernel
theorem dX8_valueOf_110 : decode cX8_valueOf 110 = .ok (.aaload, 1) := by decide +kernel
theorem dX8_valueOf_111 : decode cX8_valueOf 111 = .ok (.getfield 114, 3) := by decide +kernel
theorem dX8_valueOf_114 : decode cX8_valueOf 114 = .ok (.i2l, 1) := by decide +kernel
theorem dX8_valueOf_115 : decode cX8_valueOf 115 = .ok (.goto 4, 3) := by decide +kernel
theorem dX8_valueOf_118 : decode cX8_valueOf 118 = .ok (.lconst 0, 1) := by decide +kernel
theorem dX8_valueOf_119 : decode cX8_valueOf 119 = .ok (.lreturn, 1) := by decide +kernel
theorem dX8_valueOf_120 : decode cX8_valueOf 120 = .ok (.aload_n 2, 1) := by decide +kernel
theorem dX8_valueOf_121 : decode cX8_valueOf 121 = .ok (.invokevirtual 117, 3) := by decide +kernel
theorem dX8_valueOf_124 : decode cX8_valueOf 124 = .ok (.ifCond .eq 7, 3) := by decide +kernel
theorem dX8_valueOf_127 : decode cX8_valueOf 127 = .ok (.lconst 1, 1) := by decide +kernel
theorem dX8_valueOf_128 : decode cX8_valueOf 128 = .ok (.goto 4, 3) := by decide +kernel
theorem dX8_valueOf_131 : decode cX8_valueOf 131 = .ok (.lconst 0, 1) := by decide +kernel
theorem dX8_valueOf_132 : decode cX8_valueOf 132 = .ok (.lreturn, 1) := by decide +kernel
theorem dX8_valueOf_133 : decode cX8_valueOf 133 = .ok (.aload_n 2, 1) := by decide +kernel
theorem dX8_valueOf_134 : decode cX8_valueOf 134 = .ok (.invokevirtual 121, 3) := by decide +kernel
theorem dX8_valueOf_137 : decode cX8_valueOf 137 = .ok (.i2l, 1) := by decide +kernel
theorem dX8_valueOf_138 : decode cX8_valueOf 138 = .ok (.lreturn, 1) := by decide +kernel
theorem dX8_valueOf_139 : decode cX8_valueOf 139 = .ok (.aload_n 2, 1) := by decide +kernel
theorem dX8_valueOf_140 : decode cX8_valueOf 140 = .ok (.getfield 125, 3) := by decide +kernel
theorem dX8_valueOf_143 : decode cX8_valueOf 143 = .ok (.getfield 129, 3) := by decide +kernel
theorem dX8_valueOf_146 : decode cX8_valueOf 146 = .ok (.i2l, 1) := by decide +kernel
theorem dX8_valueOf_147 : decode cX8_valueOf 147 = .ok (.lreturn, 1) := by decide +kernel
theorem dX8_valueOf_148 : decode cX8_valueOf 148 = .ok (.aload_n 2, 1) := by decide +kernel
theorem dX8_valueOf_149 : decode cX8_valueOf 149 = .ok (.invokevirtual 134, 3) := by decide +kernel
theorem dX8_valueOf_152 : decode cX8_valueOf 152 = .ok (.i2l, 1) := by decide +kernel
theorem dX8_valueOf_153 : decode cX8_valueOf 153 = .ok (.lreturn, 1) := by decide +kernel
theorem dX8_valueOf_154 : decode cX8_valueOf 154 = .ok (.lconst 0, 1) := by decide +kernel
theorem dX8_valueOf_155 : decode cX8_valueOf 155 = .ok (.lreturn, 1) := by decide +kernel
theorem dX8_operate_0 : decode cX8_operate 0 = .ok (.iload_n 0, 1) := by decide +kernel
theorem dX8_operate_1 : decode cX8_operate 1 = .ok (.tableswitch 173 42 62 #[161, 135, 173, 148, 173, 167, 173, 173, 173, 173, 173, 173, 173, 173, 173, 173, 173, 173, 99, 123, 111], 99) := by decide +kernel
theorem dX8_operate_100 : decode cX8_operate 100 = .ok (.lload_n 1, 1) := by decide +kernel
theorem dX8_operate_101 : decode cX8_operate 101 = .ok (.lload_n 3, 1) := by decide +kernel
theorem dX8_operate_102 : decode cX8_operate 102 = .ok (.lcmp, 1) := by decide +kernel
theorem dX8_operate_103 : decode cX8_operate 103 = .ok (.ifCond .ge 7, 3) := by decide +kernel
theorem dX8_operate_106 : decode cX8_operate 106 = .ok (.lconst 1, 1) := by decide +kernel
theorem dX8_operate_107 : decode cX8_operate 107 = .ok (.goto 4, 3) := by decide +kernel
theorem dX8_operate_110 : decode cX8_operate 110 = .ok (.lconst 0, 1) := by decide +kernel
theorem dX8_operate_111 : decode cX8_operate 111 = .ok (.lreturn, 1) := by decide +kernel
theorem dX8_operate_112 : decode cX8_operate 112 = .ok (.lload_n 1, 1) := by decide +kernel
theorem dX8_operate_113 : decode cX8_operate 113 = .ok (.lload_n 3, 1) := by decide +kernel
theorem dX8_operate_114 : decode cX8_operate 114 = .ok (.lcmp, 1) := by decide +kernel
theorem dX8_operate_115 : decode cX8_operate 115 = .ok (.ifCond .le 7, 3) := by decide +kernel
theorem dX8_operate_118 : decode cX8_operate 118 = .ok (.lconst 1, 1) := by decide +kernel
theorem dX8_operate_119 : decode cX8_operate 119 = .ok (.goto 4, 3) := by decide +kernel
theorem dX8_operate_122 : decode cX8_operate 122 = .ok (.lconst 0, 1) := by decide +kernel
theorem dX8_operate_123 : decode cX8_operate 123 = .ok (.lreturn, 1) := by decide +kernel
theorem dX8_operate_124 : decode cX8_operate 124 = .ok (.lload_n 1, 1) := by decide +kernel
theorem dX8_operate_125 : decode cX8_operate 125 = .ok (.lload_n 3, 1) := by decide +kernel
theorem dX8_operate_126 : decode cX8_operate 126 = .ok (.lcmp, 1) := by decide +kernel
theorem dX8_operate_127 : decode cX8_operate 127 = .ok (.ifCond .ne 7, 3) := by decide +kernel
theorem dX8_operate_130 : decode cX8_operate 130 = .ok (.lconst 1, 1) := by decide +kernel
theorem dX8_operate_131 : decode cX8_operate 131 = .ok (.goto 4, 3) := by decide +kernel
theorem dX8_operate_134 : decode cX8_operate 134 = .ok (.lconst 0, 1) := by decide +kernel
theorem dX8_operate_135 : decode cX8_operate 135 = .ok (.lreturn, 1) := by decide +kernel
theorem dX8_operate_136 : decode cX8_operate 136 = .ok (.lload_n 1, 1) := by decide +kernel
theorem dX8_operate_137 : decode cX8_operate 137 = .ok (.lload_n 3, 1) := by decide +kernel
theorem dX8_operate_138 : decode cX8_operate 138 = .ok (.ladd, 1) := by decide +kernel
theorem dX8_operate_139 : decode cX8_operate 139 = .ok (.ldc2_w 137, 3) := by decide +kernel
theorem dX8_operate_142 : decode cX8_operate 142 = .ok (.ldc2_w 139, 3) := by decide +kernel
theorem dX8_operate_145 : decode cX8_operate 145 = .ok (.invokestatic 66, 3) := by decide +kernel
theorem dX8_operate_148 : decode cX8_operate 148 = .ok (.lreturn, 1) := by decide +kernel
theorem dX8_operate_149 : decode cX8_operate 149 = .ok (.lload_n 1, 1) := by decide +kernel
theorem dX8_operate_150 : decode cX8_operate 150 = .ok (.lload_n 3, 1) := by decide +kernel
theorem dX8_operate_151 : decode cX8_operate 151 = .ok (.lsub, 1) := by decide +kernel
theorem dX8_operate_152 : decode cX8_operate 152 = .ok (.ldc2_w 137, 3) := by decide +kernel
theorem dX8_operate_155 : decode cX8_operate 155 = .ok (.ldc2_w 139, 3) := by decide +kernel
theorem dX8_operate_158 : decode cX8_operate 158 = .ok (.invokestatic 66, 3) := by decide +kernel
theorem dX8_operate_161 : decode cX8_operate 161 = .ok (.lreturn, 1) := by decide +kernel
theorem dX8_operate_162 : decode cX8_operate 162 = .ok (.lload_n 1, 1) := by decide +kernel
theorem dX8_operate_163 : decode cX8_operate 163 = .ok (.lload_n 3, 1) := by decide +kernel
theorem dX8_operate_164 : decode cX8_operate 164 = .ok (.invokestatic 141, 3) := by decide +kernel
theorem dX8_operate_167 : decode cX8_operate 167 = .ok (.lreturn, 1) := by decide +kernel
theorem dX8_operate_168 : decode cX8_operate 168 = .ok (.lload_n 1, 1) := by decide +kernel
theorem dX8_operate_169 : decode cX8_operate 169 = .ok (.lload_n 3, 1) := by decide +kernel
theorem dX8_operate_170 : decode cX8_operate 170 = .ok (.invokestatic 145, 3) := by decide +kernel
theorem dX8_operate_173 : decode cX8_operate 173 = .ok (.lreturn, 1) := by decide +kernel
theorem dX8_operate_174 : decode cX8_operate 174 = .ok (.lconst 0, 1) := by decide +kernel
theorem dX8_operate_175 : decode cX8_operate 175 = .ok (.lreturn, 1) := by decide +kernel
theorem dX8_product_0 : decode cX8_product 0 = .ok (.lload_n 0, 1) := by decide +kernel
theorem dX8_product_1 : decode cX8_product 1 = .ok (.lconst 0, 1) := by decide +kernel
theorem dX8_product_2 : decode cX8_product 2 = .ok (.lcmp, 1) := by decide +kernel
theorem dX8_product_3 : decode cX8_product 3 = .ok (.ifCond .eq 19, 3) := by decide +kernel
theorem dX8_product_6 : decode cX8_product 6 = .ok (.lload_n 2, 1) := by decide +kernel
theorem dX8_product_7 : decode cX8_product 7 = .ok (.invokestatic 148, 3) := by decide +kernel
theorem dX8_product_10 : decode cX8_product 10 = .ok (.ldc2_w 139, 3) := by decide +kernel
theorem dX8_product_13 : decode cX8_product 13 = .ok (.lload_n 0, 1) := by decide +kernel
theorem dX8_product_14 : decode cX8_product 14 = .ok (.invokestatic 148, 3) := by decide +kernel
theorem dX8_product_17 : decode cX8_product 17 = .ok (.ldiv, 1) := by decide +kernel
theorem dX8_product_18 : decode cX8_product 18 = .ok (.lcmp, 1) := by decide +kernel
theorem dX8_product_19 : decode cX8_product 19 = .ok (.ifCond .gt 7, 3) := by decide +kernel
theorem dX8_product_22 : decode cX8_product 22 = .ok (.lload_n 0, 1) := by decide +kernel
theorem dX8_product_23 : decode cX8_product 23 = .ok (.lload_n 2, 1) := by decide +kernel
theorem dX8_product_24 : decode cX8_product 24 = .ok (.lmul, 1) := by decide +kernel
theorem dX8_product_25 : decode cX8_product 25 = .ok (.lreturn, 1) := by decide +kernel
theorem dX8_product_26 : decode cX8_product 26 = .ok (.lload_n 0, 1) := by decide +kernel
theorem dX8_product_27 : decode cX8_product 27 = .ok (.lconst 0, 1) := by decide +kernel
theorem dX8_product_28 : decode cX8_product 28 = .ok (.lcmp, 1) := by decide +kernel
theorem dX8_product_29 : decode cX8_product 29 = .ok (.ifCond .ge 7, 3) := by decide +kernel
theorem dX8_product_32 : decode cX8_product 32 = .ok (.iconst 1, 1) := by decide +kernel
theorem dX8_product_33 : decode cX8_product 33 = .ok (.goto 4, 3) := by decide +kernel
theorem dX8_product_36 : decode cX8_product 36 = .ok (.iconst 0, 1) := by decide +kernel
theorem dX8_product_37 : decode cX8_product 37 = .ok (.lload_n 2, 1) := by decide +kernel
theorem dX8_product_38 : decode cX8_product 38 = .ok (.lconst 0, 1) := by decide +kernel
theorem dX8_product_39 : decode cX8_product 39 = .ok (.lcmp, 1) := by decide +kernel
theorem dX8_product_40 : decode cX8_product 40 = .ok (.ifCond .ge 7, 3) := by decide +kernel
theorem dX8_product_43 : decode cX8_product 43 = .ok (.iconst 1, 1) := by decide +kernel
theorem dX8_product_44 : decode cX8_product 44 = .ok (.goto 4, 3) := by decide +kernel
theorem dX8_product_47 : decode cX8_product 47 = .ok (.iconst 0, 1) := by decide +kernel
theorem dX8_product_48 : decode cX8_product 48 = .ok (.if_icmp .ne 9, 3) := by decide +kernel
theorem dX8_product_51 : decode cX8_product 51 = .ok (.ldc2_w 139, 3) := by decide +kernel
theorem dX8_product_54 : decode cX8_product 54 = .ok (.goto 6, 3) := by decide +kernel
theorem dX8_product_57 : decode cX8_product 57 = .ok (.ldc2_w 137, 3) := by decide +kernel
theorem dX8_product_60 : decode cX8_product 60 = .ok (.lreturn, 1) := by decide +kernel
theorem dX9_init_0 : decode cX9_init 0 = .ok (.aload_n 0, 1) := by decide +kernel
theorem dX9_init_1 : decode cX9_init 1 = .ok (.invokespecial 1, 3) := by decide +kernel
theorem dX9_init_4 : decode cX9_init 4 = .ok (.return_, 1) := by decide +kernel
theorem dX9_begin_0 : decode cX9_begin 0 = .ok (.aload_n 0, 1) := by decide +kernel
theorem dX9_begin_1 : decode cX9_begin 1 = .ok (.iload_n 1, 1) := by decide +kernel
theorem dX9_begin_2 : decode cX9_begin 2 = .ok (.putfield 7, 3) := by decide +kernel
theorem dX9_begin_5 : decode cX9_begin 5 = .ok (.aload_n 0, 1) := by decide +kernel
theorem dX9_begin_6 : decode cX9_begin 6 = .ok (.iload_n 2, 1) := by decide +kernel
theorem dX9_begin_7 : decode cX9_begin 7 = .ok (.putfield 13, 3) := by decide +kernel
theorem dX9_begin_10 : decode cX9_begin 10 = .ok (.aload_n 0, 1) := by decide +kernel
theorem dX9_begin_11 : decode cX9_begin 11 = .ok (.iload_n 3, 1) := by decide +kernel
theorem dX9_begin_12 : decode cX9_begin 12 = .ok (.putfield 16, 3) := by decide +kernel
theorem dX9_begin_15 : decode cX9_begin 15 = .ok (.aload_n 0, 1) := by decide +kernel
theorem dX9_begin_16 : decode cX9_begin 16 = .ok (.iload 4, 2) := by decide +kernel
theorem dX9_begin_18 : decode cX9_begin 18 = .ok (.putfield 19, 3) := by decide +kernel
theorem dX9_begin_21 : decode cX9_begin 21 = .ok (.return_, 1) := by decide +kernel
theorem dX9_copyFrom_0 : decode cX9_copyFrom 0 = .ok (.aload_n 0, 1) := by decide +kernel
theorem dX9_copyFrom_1 : decode cX9_copyFrom 1 = .ok (.aload_n 1, 1) := by decide +kernel
theorem dX9_copyFrom_2 : decode cX9_copyFrom 2 = .ok (.getfield 7, 3) := by decide +kernel
theorem dX9_copyFrom_5 : decode cX9_copyFrom 5 = .ok (.aload_n 1, 1) := by decide +kernel
theorem dX9_copyFrom_6 : decode cX9_copyFrom 6 = .ok (.getfield 13, 3) := by decide +kernel
theorem dX9_copyFrom_9 : decode cX9_copyFrom 9 = .ok (.aload_n 1, 1) := by decide +kernel
theorem dX9_copyFrom_10 : decode cX9_copyFrom 10 = .ok (.getfield 16, 3) := by decide +kernel
theorem dX9_copyFrom_13 : decode cX9_copyFrom 13 = .ok (.aload_n 1, 1) := by decide +kernel
theorem dX9_copyFrom_14 : decode cX9_copyFrom 14 = .ok (.getfield 19, 3) := by decide +kernel
theorem dX9_copyFrom_17 : decode cX9_copyFrom 17 = .ok (.invokevirtual 22, 3) := by decide +kernel
theorem dX9_copyFrom_20 : decode cX9_copyFrom 20 = .ok (.return_, 1) := by decide +kernel
theorem dX10_init_0 : decode cX10_init 0 = .ok (.aload_n 0, 1) := by decide +kernel
theorem dX10_init_1 : decode cX10_init 1 = .ok (.invokespecial 1, 3) := by decide +kernel
theorem dX10_init_4 : decode cX10_init 4 = .ok (.aload_n 0, 1) := by decide +kernel
theorem dX10_init_5 : decode cX10_init 5 = .ok (.new 7, 3) := by decide +kernel
theorem dX10_init_8 : decode cX10_init 8 = .ok (.dup, 1) := by decide +kernel
theorem dX10_init_9 : decode cX10_init 9 = .ok (.invokespecial 9, 3) := by decide +kernel
theorem dX10_init_12 : decode cX10_init 12 = .ok (.putfield 10, 3) := by decide +kernel
theorem dX10_init_15 : decode cX10_init 15 = .ok (.aload_n 0, 1) := by decide +kernel
theorem dX10_init_16 : decode cX10_init 16 = .ok (.new 7, 3) := by decide +kernel
theorem dX10_init_19 : decode cX10_init 19 = .ok (.dup, 1) := by decide +kernel
theorem dX10_init_20 : decode cX10_init 20 = .ok (.invokespecial 9, 3) := by decide +kernel
theorem dX10_init_23 : decode cX10_init 23 = .ok (.putfield 16, 3) := by decide +kernel
theorem dX10_init_26 : decode cX10_init 26 = .ok (.aload_n 0, 1) := by decide +kernel
theorem dX10_init_27 : decode cX10_init 27 = .ok (.iconst 2, 1) := by decide +kernel
theorem dX10_init_28 : decode cX10_init 28 = .ok (.anewarray 7, 3) := by decide +kernel
theorem dX10_init_31 : decode cX10_init 31 = .ok (.putfield 19, 3) := by decide +kernel
theorem dX10_init_34 : decode cX10_init 34 = .ok (.iconst 0, 1) := by decide +kernel
theorem dX10_init_35 : decode cX10_init 35 = .ok (.istore_n 1, 1) := by decide +kernel
theorem dX10_init_36 : decode cX10_init 36 = .ok (.iload_n 1, 1) := by decide +kernel
theorem dX10_init_37 : decode cX10_init 37 = .ok (.iconst 2, 1) := by decide +kernel
theorem dX10_init_38 : decode cX10_init 38 = .ok (.if_icmp .ge 22, 3) := by decide +kernel
theorem dX10_init_41 : decode cX10_init 41 = .ok (.aload_n 0, 1) := by decide +kernel
theorem dX10_init_42 : decode cX10_init 42 = .ok (.getfield 19, 3) := by decide +kernel
theorem dX10_init_45 : decode cX10_init 45 = .ok (.iload_n 1, 1) := by decide +kernel
theorem dX10_init_46 : decode cX10_init 46 = .ok (.new 7, 3) := by decide +kernel
theorem dX10_init_49 : decode cX10_init 49 = .ok (.dup, 1) := by decide +kernel
theorem dX10_init_50 : decode cX10_init 50 = .ok (.invokespecial 9, 3) := by decide +kernel
theorem dX10_init_53 : decode cX10_init 53 = .ok (.aastore, 1) := by decide +kernel
theorem dX10_init_54 : decode cX10_init 54 = .ok (.iinc 1 1, 3) := by decide +kernel
theorem dX10_init_57 : decode cX10_init 57 = .ok (.goto (-21), 3) := by decide +kernel
theorem dX10_init_60 : decode cX10_init 60 = .ok (.aload_n 0, 1) := by decide +kernel
theorem dX10_init_61 : decode cX10_init 61 = .ok (.iconst 2, 1) := by decide +kernel
theorem dX10_init_62 : decode cX10_init 62 = .ok (.newarray .boolean, 2) := by decide +kernel
theorem dX10_init_64 : decode cX10_init 64 = .ok (.putfield 23, 3) := by decide +kernel
theorem dX10_init_67 : decode cX10_init 67 = .ok (.aload_n 0, 1) := by decide +kernel
theorem dX10_init_68 : decode cX10_init 68 = .ok (.new 27, 3) := by decide +kernel
theorem dX10_init_71 : decode cX10_init 71 = .ok (.dup, 1) := by decide +kernel
theorem dX10_init_72 : decode cX10_init 72 = .ok (.invokespecial 29, 3) := by decide +kernel
theorem dX10_init_75 : decode cX10_init 75 = .ok (.putfield 30, 3) := by decide +kernel
theorem dX10_init_78 : decode cX10_init 78 = .ok (.return_, 1) := by decide +kernel
theorem dX10_addNode_0 : decode cX10_addNode 0 = .ok (.iload_n 1, 1) := by decide +kernel
theorem dX10_addNode_1 : decode cX10_addNode 1 = .ok (.iconst 1, 1) := by decide +kernel
theorem dX10_addNode_2 : decode cX10_addNode 2 = .ok (.ldc 34, 2) := by decide +kernel
theorem dX10_addNode_4 : decode cX10_addNode 4 = .ok (.invokestatic 35, 3) := by decide +kernel
theorem dX10_addNode_7 : decode cX10_addNode 7 = .ok (.ifCond .eq 48, 3) := by decide +kernel
theorem dX10_addNode_10 : decode cX10_addNode 10 = .ok (.iload_n 2, 1) := by decide +kernel
theorem dX10_addNode_11 : decode cX10_addNode 11 = .ok (.ldc 39, 2) := by decide +kernel
theorem dX10_addNode_13 : decode cX10_addNode 13 = .ok (.ldc 40, 2) := by decide +kernel
theorem dX10_addNode_15 : decode cX10_addNode 15 = .ok (.invokestatic 35, 3) := by decide +kernel
theorem dX10_addNode_18 : decode cX10_addNode 18 = .ok (.ifCond .eq 37, 3) := by decide +kernel
theorem dX10_addNode_21 : decode cX10_addNode 21 = .ok (.iload_n 3, 1) := by decide +kernel
theorem dX10_addNode_22 : decode cX10_addNode 22 = .ok (.iconst 0, 1) := by decide +kernel
theorem dX10_addNode_23 : decode cX10_addNode 23 = .ok (.sipush 10000, 3) := by decide +kernel
theorem dX10_addNode_26 : decode cX10_addNode 26 = .ok (.invokestatic 35, 3) := by decide +kernel
theorem dX10_addNode_29 : decode cX10_addNode 29 = .ok (.ifCond .eq 26, 3) := by decide +kernel
theorem dX10_addNode_32 : decode cX10_addNode 32 = .ok (.iload 4, 2) := by decide +kernel
theorem dX10_addNode_34 : decode cX10_addNode 34 = .ok (.iconst 0, 1) := by decide +kernel
theorem dX10_addNode_35 : decode cX10_addNode 35 = .ok (.sipush 10000, 3) := by decide +kernel
theorem dX10_addNode_38 : decode cX10_addNode 38 = .ok (.invokestatic 35, 3) := by decide +kernel
theorem dX10_addNode_41 : decode cX10_addNode 41 = .ok (.ifCond .eq 14, 3) := by decide +kernel
theorem dX10_addNode_44 : decode cX10_addNode 44 = .ok (.iload 5, 2) := by decide +kernel
theorem dX10_addNode_46 : decode cX10_addNode 46 = .ok (.iconst 0, 1) := by decide +kernel
theorem dX10_addNode_47 : decode cX10_addNode 47 = .ok (.ldc 41, 2) := by decide +kernel
theorem dX10_addNode_49 : decode cX10_addNode 49 = .ok (.invokestatic 35, 3) := by decide +kernel
theorem dX10_addNode_52 : decode cX10_addNode 52 = .ok (.ifCond .ne 6, 3) := by decide +kernel
theorem dX10_addNode_55 : decode cX10_addNode 55 = .ok (.ldc 42, 2) := by decide +kernel
theorem dX10_addNode_57 : decode cX10_addNode 57 = .ok (.ireturn, 1) := by decide +kernel
theorem dX10_addNode_58 : decode cX10_addNode 58 = .ok (.aload_n 0, 1) := by decide +kernel
theorem dX10_addNode_59 : decode cX10_addNode 59 = .ok (.getfield 10, 3) := by decide +kernel
theorem dX10_addNode_62 : decode cX10_addNode 62 = .ok (.getfield 43, 3) := by decide +kernel
theorem dX10_addNode_65 : decode cX10_addNode 65 = .ok (.istore 6, 2) := by decide +kernel
theorem dX10_addNode_67 : decode cX10_addNode 67 = .ok (.iload 6, 2) := by decide +kernel
theorem dX10_addNode_69 : decode cX10_addNode 69 = .ok (.bipush 12, 2) := by decide +kernel
theorem dX10_addNode_71 : decode cX10_addNode 71 = .ok (.if_icmp .lt 6, 3) := by decide +kernel
theorem dX10_addNode_74 : decode cX10_addNode 74 = .ok (.ldc 47, 2) := by decide +kernel
theorem dX10_addNode_76 : decode cX10_addNode 76 = .ok (.ireturn, 1) := by decide +kernel
theorem dX10_addNode_77 : decode cX10_addNode 77 = .ok (.aload_n 0, 1) := by decide +kernel
theorem dX10_addNode_78 : decode cX10_addNode 78 = .ok (.getfield 10, 3) := by decide +kernel
theorem dX10_addNode_81 : decode cX10_addNode 81 = .ok (.getfield 48, 3) := by decide +kernel
theorem dX10_addNode_84 : decode cX10_addNode 84 = .ok (.iload 6, 2) := by decide +kernel
theorem dX10_addNode_86 : decode cX10_addNode 86 = .ok (.aaload, 1) := by decide +kernel
theorem dX10_addNode_87 : decode cX10_addNode 87 = .ok (.iload_n 1, 1) := by decide +kernel
theorem dX10_addNode_88 : decode cX10_addNode 88 = .ok (.iload_n 2, 1) := by decide +kernel
theorem dX10_addNode_89 : decode cX10_addNode 89 = .ok (.iload_n 3, 1) := by decide +kernel
theorem dX10_addNode_90 : decode cX10_addNode 90 = .ok (.iload 4, 2) := by decide +kernel
theorem dX10_addNode_92 : decode cX10_addNode 92 = .ok (.iload 5, 2) := by decide +kernel
theorem dX10_addNode_94 : decode cX10_addNode 94 = .ok (.invokevirtual 52, 3) := by decide +kernel
theorem dX10_addNode_97 : decode cX10_addNode 97 = .ok (.aload_n 0, 1) := by decide +kernel
theorem dX10_addNode_98 : decode cX10_addNode 98 = .ok (.getfield 10, 3) := by decide +kernel
theorem dX10_addNode_101 : decode cX10_addNode 101 = .ok (.iload 6, 2) := by decide +kernel
theorem dX10_addNode_103 : decode cX10_addNode 103 = .ok (.iconst 1, 1) := by decide +kernel
theorem dX10_addNode_104 : decode cX10_addNode 104 = .ok (.iadd, 1) := by decide +kernel
theorem dX10_addNode_105 : decode cX10_addNode 105 = .ok (.putfield 43, 3) := by decide +kernel
theorem dX10_addNode_108 : decode cX10_addNode 108 = .ok (.iload 6, 2) := by decide +kernel
theorem dX10_addNode_110 : decode cX10_addNode 110 = .ok (.ireturn, 1) := by decide +kernel
theorem dX10_nodeCount_0 : decode cX10_nodeCount 0 = .ok (.aload_n 0, 1) := by decide +kernel
theorem dX10_nodeCount_1 : decode cX10_nodeCount 1 = .ok (.getfield 10, 3) := by decide +kernel
theorem dX10_nodeCount_4 : decode cX10_nodeCount 4 = .ok (.getfield 43, 3) := by decide +kernel
theorem dX10_nodeCount_7 : decode cX10_nodeCount 7 = .ok (.ireturn, 1) := by decide +kernel
theorem dX10_setLimits_0 : decode cX10_setLimits 0 = .ok (.aload_n 0, 1) := by decide +kernel
theorem dX10_setLimits_1 : decode cX10_setLimits 1 = .ok (.getfield 10, 3) := by decide +kernel
theorem dX10_setLimits_4 : decode cX10_setLimits 4 = .ok (.iload_n 1, 1) := by decide +kernel
theorem dX10_setLimits_5 : decode cX10_setLimits 5 = .ok (.invokevirtual 58, 3) := by decide +kernel
theorem dX10_setLimits_8 : decode cX10_setLimits 8 = .ok (.ifCond .ne 6, 3) := by decide +kernel
theorem dX10_setLimits_11 : decode cX10_setLimits 11 = .ok (.ldc 62, 2) := by decide +kernel
theorem dX10_setLimits_13 : decode cX10_setLimits 13 = .ok (.ireturn, 1) := by decide +kernel
theorem dX10_setLimits_14 : decode cX10_setLimits 14 = .ok (.iload_n 3, 1) := by decide +kernel
theorem dX10_setLimits_15 : decode cX10_setLimits 15 = .ok (.ldc 39, 2) := by decide +kernel
theorem dX10_setLimits_17 : decode cX10_setLimits 17 = .ok (.ldc 40, 2) := by decide +kernel
theorem dX10_setLimits_19 : decode cX10_setLimits 19 = .ok (.invokestatic 35, 3) := by decide +kernel
theorem dX10_setLimits_22 : decode cX10_setLimits 22 = .ok (.ifCond .eq 13, 3) := by decide +kernel
theorem dX10_setLimits_25 : decode cX10_setLimits 25 = .ok (.iload_n 2, 1) := by decide +kernel
theorem dX10_setLimits_26 : decode cX10_setLimits 26 = .ok (.ldc 39, 2) := by decide +kernel
theorem dX10_setLimits_28 : decode cX10_setLimits 28 = .ok (.iload_n 3, 1) := by decide +kernel
theorem dX10_setLimits_29 : decode cX10_setLimits 29 = .ok (.invokestatic 35, 3) := by decide +kernel
theorem dX10_setLimits_32 : decode cX10_setLimits 32 = .ok (.ifCond .ne 6, 3) := by decide +kernel
theorem dX10_setLimits_35 : decode cX10_setLimits 35 = .ok (.ldc 42, 2) := by decide +kernel
theorem dX10_setLimits_37 : decode cX10_setLimits 37 = .ok (.ireturn, 1) := by decide +kernel
theorem dX10_setLimits_38 : decode cX10_setLimits 38 = .ok (.aload_n 0, 1) := by decide +kernel
theorem dX10_setLimits_39 : decode cX10_setLimits 39 = .ok (.getfield 10, 3) := by decide +kernel
theorem dX10_setLimits_42 : decode cX10_setLimits 42 = .ok (.getfield 48, 3) := by decide +kernel
theorem dX10_setLimits_45 : decode cX10_setLimits 45 = .ok (.iload_n 1, 1) := by decide +kernel
theorem dX10_setLimits_46 : decode cX10_setLimits 46 = .ok (.aaload, 1) := by decide +kernel
theorem dX10_setLimits_47 : decode cX10_setLimits 47 = .ok (.iload_n 2, 1) := by decide +kernel
theorem dX10_setLimits_48 : decode cX10_setLimits 48 = .ok (.putfield 63, 3) := by decide +kernel
theorem dX10_setLimits_51 : decode cX10_setLimits 51 = .ok (.aload_n 0, 1) := by decide +kernel
theorem dX10_setLimits_52 : decode cX10_setLimits 52 = .ok (.getfield 10, 3) := by decide +kernel
theorem dX10_setLimits_55 : decode cX10_setLimits 55 = .ok (.getfield 48, 3) := by decide +kernel
theorem dX10_setLimits_58 : decode cX10_setLimits 58 = .ok (.iload_n 1, 1) := by decide +kernel
theorem dX10_setLimits_59 : decode cX10_setLimits 59 = .ok (.aaload, 1) := by decide +kernel
theorem dX10_setLimits_60 : decode cX10_setLimits 60 = .ok (.iload_n 3, 1) := by decide +kernel
theorem dX10_setLimits_61 : decode cX10_setLimits 61 = .ok (.putfield 66, 3) := by decide +kernel
theorem dX10_setLimits_64 : decode cX10_setLimits 64 = .ok (.iconst 0, 1) := by decide +kernel
theorem dX10_setLimits_65 : decode cX10_setLimits 65 = .ok (.ireturn, 1) := by decide +kernel
theorem dX10_link_0 : decode cX10_link 0 = .ok (.aload_n 0, 1) := by decide +kernel
theorem dX10_link_1 : decode cX10_link 1 = .ok (.getfield 10, 3) := by decide +kernel
theorem dX10_link_4 : decode cX10_link 4 = .ok (.iload_n 1, 1) := by decide +kernel
theorem dX10_link_5 : decode cX10_link 5 = .ok (.invokevirtual 58, 3) := by decide +kernel
theorem dX10_link_8 : decode cX10_link 8 = .ok (.ifCond .eq 14, 3) := by decide +kernel
theorem dX10_link_11 : decode cX10_link 11 = .ok (.aload_n 0, 1) := by decide +kernel
theorem dX10_link_12 : decode cX10_link 12 = .ok (.getfield 10, 3) := by decide +kernel
theorem dX10_link_15 : decode cX10_link 15 = .ok (.iload_n 2, 1) := by decide +kernel
theorem dX10_link_16 : decode cX10_link 16 = .ok (.invokevirtual 58, 3) := by decide +kernel
theorem dX10_link_19 : decode cX10_link 19 = .ok (.ifCond .ne 6, 3) := by decide +kernel
theorem dX10_link_22 : decode cX10_link 22 = .ok (.ldc 62, 2) := by decide +kernel
theorem dX10_link_24 : decode cX10_link 24 = .ok (.ireturn, 1) := by decide +kernel
theorem dX10_link_25 : decode cX10_link 25 = .ok (.iload_n 1, 1) := by decide +kernel
theorem dX10_link_26 : decode cX10_link 26 = .ok (.iload_n 2, 1) := by decide +kernel
theorem dX10_link_27 : decode cX10_link 27 = .ok (.if_icmp .eq 13, 3) := by decide +kernel
theorem dX10_link_30 : decode cX10_link 30 = .ok (.iload_n 3, 1) := by decide +kernel
theorem dX10_link_31 : decode cX10_link 31 = .ok (.iconst 0, 1) := by decide +kernel
theorem dX10_link_32 : decode cX10_link 32 = .ok (.ldc 34, 2) := by decide +kernel
theorem dX10_link_34 : decode cX10_link 34 = .ok (.invokestatic 35, 3) := by decide +kernel
theorem dX10_link_37 : decode cX10_link 37 = .ok (.ifCond .ne 6, 3) := by decide +kernel
theorem dX10_link_40 : decode cX10_link 40 = .ok (.ldc 42, 2) := by decide +kernel
theorem dX10_link_42 : decode cX10_link 42 = .ok (.ireturn, 1) := by decide +kernel
theorem dX10_link_43 : decode cX10_link 43 = .ok (.aload_n 0, 1) := by decide +kernel
theorem dX10_link_44 : decode cX10_link 44 = .ok (.getfield 10, 3) := by decide +kernel
theorem dX10_link_47 : decode cX10_link 47 = .ok (.iload_n 1, 1) := by decide +kernel
theorem dX10_link_48 : decode cX10_link 48 = .ok (.iload_n 2, 1) := by decide +kernel
theorem dX10_link_49 : decode cX10_link 49 = .ok (.invokevirtual 75, 3) := by decide +kernel
theorem dX10_link_52 : decode cX10_link 52 = .ok (.istore 4, 2) := by decide +kernel
theorem dX10_link_54 : decode cX10_link 54 = .ok (.iload 4, 2) := by decide +kernel
theorem dX10_link_56 : decode cX10_link 56 = .ok (.iconst (-1), 1) := by decide +kernel
theorem dX10_link_57 : decode cX10_link 57 = .ok (.if_icmp .ne 14, 3) := by decide +kernel
theorem dX10_link_60 : decode cX10_link 60 = .ok (.aload_n 0, 1) := by decide +kernel
theorem dX10_link_61 : decode cX10_link 61 = .ok (.getfield 10, 3) := by decide +kernel
theorem dX10_link_64 : decode cX10_link 64 = .ok (.iload_n 1, 1) := by decide +kernel
theorem dX10_link_65 : decode cX10_link 65 = .ok (.iload_n 2, 1) := by decide +kernel
theorem dX10_link_66 : decode cX10_link 66 = .ok (.iload_n 3, 1) := by decide +kernel
theorem dX10_link_67 : decode cX10_link 67 = .ok (.invokevirtual 79, 3) := by decide +kernel
theorem dX10_link_70 : decode cX10_link 70 = .ok (.ireturn, 1) := by decide +kernel
theorem dX10_link_71 : decode cX10_link 71 = .ok (.aload_n 0, 1) := by decide +kernel
theorem dX10_link_72 : decode cX10_link 72 = .ok (.getfield 10, 3) := by decide +kernel
theorem dX10_link_75 : decode cX10_link 75 = .ok (.getfield 83, 3) := by decide +kernel
theorem dX10_link_78 : decode cX10_link 78 = .ok (.iload 4, 2) := by decide +kernel
theorem dX10_link_80 : decode cX10_link 80 = .ok (.aaload, 1) := by decide +kernel
theorem dX10_link_81 : decode cX10_link 81 = .ok (.getfield 87, 3) := by decide +kernel
theorem dX10_link_84 : decode cX10_link 84 = .ok (.istore 5, 2) := by decide +kernel
theorem dX10_link_86 : decode cX10_link 86 = .ok (.iload_n 3, 1) := by decide +kernel
theorem dX10_link_87 : decode cX10_link 87 = .ok (.ifCond .ne 15, 3) := by decide +kernel
theorem dX10_link_90 : decode cX10_link 90 = .ok (.aload_n 0, 1) := by decide +kernel
theorem dX10_link_91 : decode cX10_link 91 = .ok (.getfield 10, 3) := by decide +kernel
theorem dX10_link_94 : decode cX10_link 94 = .ok (.iload 4, 2) := by decide +kernel
theorem dX10_link_96 : decode cX10_link 96 = .ok (.invokevirtual 92, 3) := by decide +kernel
theorem dX10_link_99 : decode cX10_link 99 = .ok (.goto 17, 3) := by decide +kernel
theorem dX10_link_102 : decode cX10_link 102 = .ok (.aload_n 0, 1) := by decide +kernel
theorem dX10_link_103 : decode cX10_link 103 = .ok (.getfield 10, 3) := by decide +kernel
theorem dX10_link_106 : decode cX10_link 106 = .ok (.getfield 83, 3) := by decide +kernel
theorem dX10_link_109 : decode cX10_link 109 = .ok (.iload 4, 2) := by decide +kernel
theorem dX10_link_111 : decode cX10_link 111 = .ok (.aaload, 1) := by decide +kernel
theorem dX10_link_112 : decode cX10_link 112 = .ok (.iload_n 3, 1) := by decide +kernel
theorem dX10_link_113 : decode cX10_link 113 = .ok (.putfield 87, 3) := by decide +kernel
theorem dX10_link_116 : decode cX10_link 116 = .ok (.iload 5, 2) := by decide +kernel
theorem dX10_link_118 : decode cX10_link 118 = .ok (.ireturn, 1) := by decide +kernel
theorem dX10_conductance_0 : decode cX10_conductance 0 = .ok (.aload_n 0, 1) := by decide +kernel
theorem dX10_conductance_1 : decode cX10_conductance 1 = .ok (.getfield 10, 3) := by decide +kernel
theorem dX10_conductance_4 : decode cX10_conductance 4 = .ok (.iload_n 1, 1) := by decide +kernel
theorem dX10_conductance_5 : decode cX10_conductance 5 = .ok (.invokevirtual 58, 3) := by decide +kernel
theorem dX10_conductance_8 : decode cX10_conductance 8 = .ok (.ifCond .eq 14, 3) := by decide +kernel
theorem dX10_conductance_11 : decode cX10_conductance 11 = .ok (.aload_n 0, 1) := by decide +kernel
theorem dX10_conductance_12 : decode cX10_conductance 12 = .ok (.getfield 10, 3) := by decide +kernel
theorem dX10_conductance_15 : decode cX10_conductance 15 = .ok (.iload_n 2, 1) := by decide +kernel
theorem dX10_conductance_16 : decode cX10_conductance 16 = .ok (.invokevirtual 58, 3) := by decide +kernel
theorem dX10_conductance_19 : decode cX10_conductance 19 = .ok (.ifCond .ne 6, 3) := by decide +kernel
theorem dX10_conductance_22 : decode cX10_conductance 22 = .ok (.ldc 62, 2) := by decide +kernel
theorem dX10_conductance_24 : decode cX10_conductance 24 = .ok (.ireturn, 1) := by decide +kernel
theorem dX10_conductance_25 : decode cX10_conductance 25 = .ok (.aload_n 0, 1) := by decide +kernel
theorem dX10_conductance_26 : decode cX10_conductance 26 = .ok (.getfield 10, 3) := by decide +kernel
theorem dX10_conductance_29 : decode cX10_conductance 29 = .ok (.iload_n 1, 1) := by decide +kernel
theorem dX10_conductance_30 : decode cX10_conductance 30 = .ok (.iload_n 2, 1) := by decide +kernel
theorem dX10_conductance_31 : decode cX10_conductance 31 = .ok (.invokevirtual 75, 3) := by decide +kernel
theorem dX10_conductance_34 : decode cX10_conductance 34 = .ok (.istore_n 3, 1) := by decide +kernel
theorem dX10_conductance_35 : decode cX10_conductance 35 = .ok (.iload_n 3, 1) := by decide +kernel
theorem dX10_conductance_36 : decode cX10_conductance 36 = .ok (.iconst (-1), 1) := by decide +kernel
theorem dX10_conductance_37 : decode cX10_conductance 37 = .ok (.if_icmp .ne 7, 3) := by decide +kernel
theorem dX10_conductance_40 : decode cX10_conductance 40 = .ok (.iconst 0, 1) := by decide +kernel
theorem dX10_conductance_41 : decode cX10_conductance 41 = .ok (.goto 15, 3) := by decide +kernel
theorem dX10_conductance_44 : decode cX10_conductance 44 = .ok (.aload_n 0, 1) := by decide +kernel
theorem dX10_conductance_45 : decode cX10_conductance 45 = .ok (.getfield 10, 3) := by decide +kernel
theorem dX10_conductance_48 : decode cX10_conductance 48 = .ok (.getfield 83, 3) := by decide +kernel
theorem dX10_conductance_51 : decode cX10_conductance 51 = .ok (.iload_n 3, 1) := by decide +kernel
theorem dX10_conductance_52 : decode cX10_conductance 52 = .ok (.aaload, 1) := by decide +kernel
theorem dX10_conductance_53 : decode cX10_conductance 53 = .ok (.getfield 87, 3) := by decide +kernel
theorem dX10_conductance_56 : decode cX10_conductance 56 = .ok (.ireturn, 1) := by decide +kernel
theorem dX10_linkCount_0 : decode cX10_linkCount 0 = .ok (.aload_n 0, 1) := by decide +kernel
theorem dX10_linkCount_1 : decode cX10_linkCount 1 = .ok (.getfield 10, 3) := by decide +kernel
theorem dX10_linkCount_4 : decode cX10_linkCount 4 = .ok (.getfield 96, 3) := by decide +kernel
theorem dX10_linkCount_7 : decode cX10_linkCount 7 = .ok (.ireturn, 1) := by decide +kernel
theorem dX10_addLouvre_0 : decode cX10_addLouvre 0 = .ok (.aload_n 0, 1) := by decide +kernel
theorem dX10_addLouvre_1 : decode cX10_addLouvre 1 = .ok (.getfield 10, 3) := by decide +kernel
theorem dX10_addLouvre_4 : decode cX10_addLouvre 4 = .ok (.iload_n 1, 1) := by decide +kernel
theorem dX10_addLouvre_5 : decode cX10_addLouvre 5 = .ok (.invokevirtual 58, 3) := by decide +kernel
theorem dX10_addLouvre_8 : decode cX10_addLouvre 8 = .ok (.ifCond .ne 6, 3) := by decide +kernel
theorem dX10_addLouvre_11 : decode cX10_addLouvre 11 = .ok (.ldc 62, 2) := by decide +kernel
theorem dX10_addLouvre_13 : decode cX10_addLouvre 13 = .ok (.ireturn, 1) := by decide +kernel
theorem dX10_addLouvre_14 : decode cX10_addLouvre 14 = .ok (.iload_n 2, 1) := by decide +kernel
theorem dX10_addLouvre_15 : decode cX10_addLouvre 15 = .ok (.iconst 0, 1) := by decide +kernel
theorem dX10_addLouvre_16 : decode cX10_addLouvre 16 = .ok (.sipush 10000, 3) := by decide +kernel
theorem dX10_addLouvre_19 : decode cX10_addLouvre 19 = .ok (.invokestatic 35, 3) := by decide +kernel
theorem dX10_addLouvre_22 : decode cX10_addLouvre 22 = .ok (.ifCond .eq 39, 3) := by decide +kernel
theorem dX10_addLouvre_25 : decode cX10_addLouvre 25 = .ok (.iload_n 3, 1) := by decide +kernel
theorem dX10_addLouvre_26 : decode cX10_addLouvre 26 = .ok (.ldc 39, 2) := by decide +kernel
theorem dX10_addLouvre_28 : decode cX10_addLouvre 28 = .ok (.ldc 99, 2) := by decide +kernel
theorem dX10_addLouvre_30 : decode cX10_addLouvre 30 = .ok (.invokestatic 35, 3) := by decide +kernel
theorem dX10_addLouvre_33 : decode cX10_addLouvre 33 = .ok (.ifCond .eq 28, 3) := by decide +kernel
theorem dX10_addLouvre_36 : decode cX10_addLouvre 36 = .ok (.iload 4, 2) := by decide +kernel
theorem dX10_addLouvre_38 : decode cX10_addLouvre 38 = .ok (.iload_n 3, 1) := by decide +kernel
theorem dX10_addLouvre_39 : decode cX10_addLouvre 39 = .ok (.iconst 1, 1) := by decide +kernel
theorem dX10_addLouvre_40 : decode cX10_addLouvre 40 = .ok (.iadd, 1) := by decide +kernel
theorem dX10_addLouvre_41 : decode cX10_addLouvre 41 = .ok (.ldc 40, 2) := by decide +kernel
theorem dX10_addLouvre_43 : decode cX10_addLouvre 43 = .ok (.invokestatic 35, 3) := by decide +kernel
theorem dX10_addLouvre_46 : decode cX10_addLouvre 46 = .ok (.ifCond .eq 15, 3) := by decide +kernel
theorem dX10_addLouvre_49 : decode cX10_addLouvre 49 = .ok (.iload 5, 2) := by decide +kernel
theorem dX10_addLouvre_51 : decode cX10_addLouvre 51 = .ok (.iconst 1, 1) := by decide +kernel
theorem dX10_addLouvre_52 : decode cX10_addLouvre 52 = .ok (.sipush 1000, 3) := by decide +kernel
theorem dX10_addLouvre_55 : decode cX10_addLouvre 55 = .ok (.invokestatic 35, 3) := by decide +kernel
theorem dX10_addLouvre_58 : decode cX10_addLouvre 58 = .ok (.ifCond .ne 6, 3) := by decide +kernel
theorem dX10_addLouvre_61 : decode cX10_addLouvre 61 = .ok (.ldc 42, 2) := by decide +kernel
theorem dX10_addLouvre_63 : decode cX10_addLouvre 63 = .ok (.ireturn, 1) := by decide +kernel
theorem dX10_addLouvre_64 : decode cX10_addLouvre 64 = .ok (.aload_n 0, 1) := by decide +kernel
theorem dX10_addLouvre_65 : decode cX10_addLouvre 65 = .ok (.getfield 10, 3) := by decide +kernel
theorem dX10_addLouvre_68 : decode cX10_addLouvre 68 = .ok (.getfield 100, 3) := by decide +kernel
theorem dX10_addLouvre_71 : decode cX10_addLouvre 71 = .ok (.istore 6, 2) := by decide +kernel
theorem dX10_addLouvre_73 : decode cX10_addLouvre 73 = .ok (.iload 6, 2) := by decide +kernel
theorem dX10_addLouvre_75 : decode cX10_addLouvre 75 = .ok (.bipush 6, 2) := by decide +kernel
theorem dX10_addLouvre_77 : decode cX10_addLouvre 77 = .ok (.if_icmp .lt 6, 3) := by decide +kernel
theorem dX10_addLouvre_80 : decode cX10_addLouvre 80 = .ok (.ldc 47, 2) := by decide +kernel
theorem dX10_addLouvre_82 : decode cX10_addLouvre 82 = .ok (.ireturn, 1) := by decide +kernel
theorem dX10_addLouvre_83 : decode cX10_addLouvre 83 = .ok (.aload_n 0, 1) := by decide +kernel
theorem dX10_addLouvre_84 : decode cX10_addLouvre 84 = .ok (.getfield 10, 3) := by decide +kernel
theorem dX10_addLouvre_87 : decode cX10_addLouvre 87 = .ok (.getfield 103, 3) := by decide +kernel
theorem dX10_addLouvre_90 : decode cX10_addLouvre 90 = .ok (.iload 6, 2) := by decide +kernel
theorem dX10_addLouvre_92 : decode cX10_addLouvre 92 = .ok (.aaload, 1) := by decide +kernel
theorem dX10_addLouvre_93 : decode cX10_addLouvre 93 = .ok (.iload_n 1, 1) := by decide +kernel
theorem dX10_addLouvre_94 : decode cX10_addLouvre 94 = .ok (.iload_n 2, 1) := by decide +kernel
theorem dX10_addLouvre_95 : decode cX10_addLouvre 95 = .ok (.iload_n 3, 1) := by decide +kernel
theorem dX10_addLouvre_96 : decode cX10_addLouvre 96 = .ok (.iload 4, 2) := by decide +kernel
theorem dX10_addLouvre_98 : decode cX10_addLouvre 98 = .ok (.iload 5, 2) := by decide +kernel
theorem dX10_addLouvre_100 : decode cX10_addLouvre 100 = .ok (.invokevirtual 107, 3) := by decide +kernel
theorem dX10_addLouvre_103 : decode cX10_addLouvre 103 = .ok (.aload_n 0, 1) := by decide +kernel
theorem dX10_addLouvre_104 : decode cX10_addLouvre 104 = .ok (.getfield 10, 3) := by decide +kernel
theorem dX10_addLouvre_107 : decode cX10_addLouvre 107 = .ok (.iload 6, 2) := by decide +kernel
theorem dX10_addLouvre_109 : decode cX10_addLouvre 109 = .ok (.iconst 1, 1) := by decide +kernel
theorem dX10_addLouvre_110 : decode cX10_addLouvre 110 = .ok (.iadd, 1) := by decide +kernel
theorem dX10_addLouvre_111 : decode cX10_addLouvre 111 = .ok (.putfield 100, 3) := by decide +kernel
theorem dX10_addLouvre_114 : decode cX10_addLouvre 114 = .ok (.iload 6, 2) := by decide +kernel
theorem dX10_addLouvre_116 : decode cX10_addLouvre 116 = .ok (.ireturn, 1) := by decide +kernel
theorem dX10_addHeater_0 : decode cX10_addHeater 0 = .ok (.aload_n 0, 1) := by decide +kernel
theorem dX10_addHeater_1 : decode cX10_addHeater 1 = .ok (.getfield 10, 3) := by decide +kernel
theorem dX10_addHeater_4 : decode cX10_addHeater 4 = .ok (.iload_n 1, 1) := by decide +kernel
theorem dX10_addHeater_5 : decode cX10_addHeater 5 = .ok (.invokevirtual 58, 3) := by decide +kernel
theorem dX10_addHeater_8 : decode cX10_addHeater 8 = .ok (.ifCond .ne 6, 3) := by decide +kernel
theorem dX10_addHeater_11 : decode cX10_addHeater 11 = .ok (.ldc 62, 2) := by decide +kernel
theorem dX10_addHeater_13 : decode cX10_addHeater 13 = .ok (.ireturn, 1) := by decide +kernel
theorem dX10_addHeater_14 : decode cX10_addHeater 14 = .ok (.iload_n 2, 1) := by decide +kernel
theorem dX10_addHeater_15 : decode cX10_addHeater 15 = .ok (.iconst 0, 1) := by decide +kernel
theorem dX10_addHeater_16 : decode cX10_addHeater 16 = .ok (.ldc 34, 2) := by decide +kernel
theorem dX10_addHeater_18 : decode cX10_addHeater 18 = .ok (.invokestatic 35, 3) := by decide +kernel
theorem dX10_addHeater_21 : decode cX10_addHeater 21 = .ok (.ifCond .eq 37, 3) := by decide +kernel
theorem dX10_addHeater_24 : decode cX10_addHeater 24 = .ok (.iload 4, 2) := by decide +kernel
theorem dX10_addHeater_26 : decode cX10_addHeater 26 = .ok (.ldc 39, 2) := by decide +kernel
theorem dX10_addHeater_28 : decode cX10_addHeater 28 = .ok (.ldc 40, 2) := by decide +kernel
theorem dX10_addHeater_30 : decode cX10_addHeater 30 = .ok (.invokestatic 35, 3) := by decide +kernel
theorem dX10_addHeater_33 : decode cX10_addHeater 33 = .ok (.ifCond .eq 25, 3) := by decide +kernel
theorem dX10_addHeater_36 : decode cX10_addHeater 36 = .ok (.iload_n 3, 1) := by decide +kernel
theorem dX10_addHeater_37 : decode cX10_addHeater 37 = .ok (.ldc 39, 2) := by decide +kernel
theorem dX10_addHeater_39 : decode cX10_addHeater 39 = .ok (.iload 4, 2) := by decide +kernel
theorem dX10_addHeater_41 : decode cX10_addHeater 41 = .ok (.invokestatic 35, 3) := by decide +kernel
theorem dX10_addHeater_44 : decode cX10_addHeater 44 = .ok (.ifCond .eq 14, 3) := by decide +kernel
theorem dX10_addHeater_47 : decode cX10_addHeater 47 = .ok (.iload 5, 2) := by decide +kernel
theorem dX10_addHeater_49 : decode cX10_addHeater 49 = .ok (.iconst 0, 1) := by decide +kernel
theorem dX10_addHeater_50 : decode cX10_addHeater 50 = .ok (.bipush 9, 2) := by decide +kernel
theorem dX10_addHeater_52 : decode cX10_addHeater 52 = .ok (.invokestatic 35, 3) := by decide +kernel
theorem dX10_addHeater_55 : decode cX10_addHeater 55 = .ok (.ifCond .ne 6, 3) := by decide +kernel
theorem dX10_addHeater_58 : decode cX10_addHeater 58 = .ok (.ldc 42, 2) := by decide +kernel
theorem dX10_addHeater_60 : decode cX10_addHeater 60 = .ok (.ireturn, 1) := by decide +kernel
theorem dX10_addHeater_61 : decode cX10_addHeater 61 = .ok (.aload_n 0, 1) := by decide +kernel
theorem dX10_addHeater_62 : decode cX10_addHeater 62 = .ok (.getfield 10, 3) := by decide +kernel
theorem dX10_addHeater_65 : decode cX10_addHeater 65 = .ok (.getfield 110, 3) := by decide +kernel
theorem dX10_addHeater_68 : decode cX10_addHeater 68 = .ok (.istore 6, 2) := by decide +kernel
theorem dX10_addHeater_70 : decode cX10_addHeater 70 = .ok (.iload 6, 2) := by decide +kernel
theorem dX10_addHeater_72 : decode cX10_addHeater 72 = .ok (.bipush 8, 2) := by decide +kernel
theorem dX10_addHeater_74 : decode cX10_addHeater 74 = .ok (.if_icmp .lt 6, 3) := by decide +kernel
theorem dX10_addHeater_77 : decode cX10_addHeater 77 = .ok (.ldc 47, 2) := by decide +kernel
theorem dX10_addHeater_79 : decode cX10_addHeater 79 = .ok (.ireturn, 1) := by decide +kernel
theorem dX10_addHeater_80 : decode cX10_addHeater 80 = .ok (.aload_n 0, 1) := by decide +kernel
theorem dX10_addHeater_81 : decode cX10_addHeater 81 = .ok (.getfield 10, 3) := by decide +kernel
theorem dX10_addHeater_84 : decode cX10_addHeater 84 = .ok (.getfield 113, 3) := by decide +kernel
theorem dX10_addHeater_87 : decode cX10_addHeater 87 = .ok (.iload 6, 2) := by decide +kernel
theorem dX10_addHeater_89 : decode cX10_addHeater 89 = .ok (.aaload, 1) := by decide +kernel
theorem dX10_addHeater_90 : decode cX10_addHeater 90 = .ok (.iload_n 1, 1) := by decide +kernel
theorem dX10_addHeater_91 : decode cX10_addHeater 91 = .ok (.iload_n 2, 1) := by decide +kernel
theorem dX10_addHeater_92 : decode cX10_addHeater 92 = .ok (.iload_n 3, 1) := by decide +kernel
theorem dX10_addHeater_93 : decode cX10_addHeater 93 = .ok (.iload 4, 2) := by decide +kernel
theorem dX10_addHeater_95 : decode cX10_addHeater 95 = .ok (.iload 5, 2) := by decide +kernel
theorem dX10_addHeater_97 : decode cX10_addHeater 97 = .ok (.invokevirtual 117, 3) := by decide +kernel
theorem dX10_addHeater_100 : decode cX10_addHeater 100 = .ok (.aload_n 0, 1) := by decide +kernel
theorem dX10_addHeater_101 : decode cX10_addHeater 101 = .ok (.getfield 10, 3) := by decide +kernel
theorem dX10_addHeater_104 : decode cX10_addHeater 104 = .ok (.iload 6, 2) := by decide +kernel
theorem dX10_addHeater_106 : decode cX10_addHeater 106 = .ok (.iconst 1, 1) := by decide +kernel
theorem dX10_addHeater_107 : decode cX10_addHeater 107 = .ok (.iadd, 1) := by decide +kernel
theorem dX10_addHeater_108 : decode cX10_addHeater 108 = .ok (.putfield 110, 3) := by decide +kernel
theorem dX10_addHeater_111 : decode cX10_addHeater 111 = .ok (.aload_n 0, 1) := by decide +kernel
theorem dX10_addHeater_112 : decode cX10_addHeater 112 = .ok (.getfield 10, 3) := by decide +kernel
theorem dX10_addHeater_115 : decode cX10_addHeater 115 = .ok (.iload 6, 2) := by decide +kernel
theorem dX10_addHeater_117 : decode cX10_addHeater 117 = .ok (.invokevirtual 120, 3) := by decide +kernel
theorem dX10_addHeater_120 : decode cX10_addHeater 120 = .ok (.iload 6, 2) := by decide +kernel
theorem dX10_addHeater_122 : decode cX10_addHeater 122 = .ok (.ireturn, 1) := by decide +kernel
theorem dX10_louvreCount_0 : decode cX10_louvreCount 0 = .ok (.aload_n 0, 1) := by decide +kernel
theorem dX10_louvreCount_1 : decode cX10_louvreCount 1 = .ok (.getfield 10, 3) := by decide +kernel
theorem dX10_louvreCount_4 : decode cX10_louvreCount 4 = .ok (.getfield 100, 3) := by decide +kernel
theorem dX10_louvreCount_7 : decode cX10_louvreCount 7 = .ok (.ireturn, 1) := by decide +kernel
theorem dX10_opening_0 : decode cX10_opening 0 = .ok (.aload_n 0, 1) := by decide +kernel
theorem dX10_opening_1 : decode cX10_opening 1 = .ok (.getfield 10, 3) := by decide +kernel
theorem dX10_opening_4 : decode cX10_opening 4 = .ok (.iload_n 1, 1) := by decide +kernel
theorem dX10_opening_5 : decode cX10_opening 5 = .ok (.invokevirtual 123, 3) := by decide +kernel
theorem dX10_opening_8 : decode cX10_opening 8 = .ok (.ifCond .eq 18, 3) := by decide +kernel
theorem dX10_opening_11 : decode cX10_opening 11 = .ok (.aload_n 0, 1) := by decide +kernel
theorem dX10_opening_12 : decode cX10_opening 12 = .ok (.getfield 10, 3) := by decide +kernel
theorem dX10_opening_15 : decode cX10_opening 15 = .ok (.getfield 103, 3) := by decide +kernel
theorem dX10_opening_18 : decode cX10_opening 18 = .ok (.iload_n 1, 1) := by decide +kernel
theorem dX10_opening_19 : decode cX10_opening 19 = .ok (.aaload, 1) := by decide +kernel
theorem dX10_opening_20 : decode cX10_opening 20 = .ok (.getfield 126, 3) := by decide +kernel
theorem dX10_opening_23 : decode cX10_opening 23 = .ok (.goto 5, 3) := by decide +kernel
theorem dX10_opening_26 : decode cX10_opening 26 = .ok (.ldc 62, 2) := by decide +kernel
theorem dX10_opening_28 : decode cX10_opening 28 = .ok (.ireturn, 1) := by decide +kernel
theorem dX10_target_0 : decode cX10_target 0 = .ok (.aload_n 0, 1) := by decide +kernel
theorem dX10_target_1 : decode cX10_target 1 = .ok (.getfield 10, 3) := by decide +kernel
theorem dX10_target_4 : decode cX10_target 4 = .ok (.iload_n 1, 1) := by decide +kernel
theorem dX10_target_5 : decode cX10_target 5 = .ok (.invokevirtual 123, 3) := by decide +kernel
theorem dX10_target_8 : decode cX10_target 8 = .ok (.ifCond .eq 22, 3) := by decide +kernel
theorem dX10_target_11 : decode cX10_target 11 = .ok (.aload_n 0, 1) := by decide +kernel
theorem dX10_target_12 : decode cX10_target 12 = .ok (.getfield 10, 3) := by decide +kernel
theorem dX10_target_15 : decode cX10_target 15 = .ok (.aload_n 0, 1) := by decide +kernel
theorem dX10_target_16 : decode cX10_target 16 = .ok (.getfield 10, 3) := by decide +kernel
theorem dX10_target_19 : decode cX10_target 19 = .ok (.getfield 103, 3) := by decide +kernel
theorem dX10_target_22 : decode cX10_target 22 = .ok (.iload_n 1, 1) := by decide +kernel
theorem dX10_target_23 : decode cX10_target 23 = .ok (.aaload, 1) := by decide +kernel
theorem dX10_target_24 : decode cX10_target 24 = .ok (.invokevirtual 129, 3) := by decide +kernel
theorem dX10_target_27 : decode cX10_target 27 = .ok (.goto 5, 3) := by decide +kernel
theorem dX10_target_30 : decode cX10_target 30 = .ok (.ldc 62, 2) := by decide +kernel
theorem dX10_target_32 : decode cX10_target 32 = .ok (.ireturn, 1) := by decide +kernel
theorem dX10_isHeld_0 : decode cX10_isHeld 0 = .ok (.aload_n 0, 1) := by decide +kernel
theorem dX10_isHeld_1 : decode cX10_isHeld 1 = .ok (.getfield 10, 3) := by decide +kernel
theorem dX10_isHeld_4 : decode cX10_isHeld 4 = .ok (.iload_n 1, 1) := by decide +kernel
theorem dX10_isHeld_5 : decode cX10_isHeld 5 = .ok (.invokevirtual 123, 3) := by decide +kernel
theorem dX10_isHeld_8 : decode cX10_isHeld 8 = .ok (.ifCond .ne 6, 3) := by decide +kernel
theorem dX10_isHeld_11 : decode cX10_isHeld 11 = .ok (.ldc 62, 2) := by decide +kernel
theorem dX10_isHeld_13 : decode cX10_isHeld 13 = .ok (.ireturn, 1) := by decide +kernel
theorem dX10_isHeld_14 : decode cX10_isHeld 14 = .ok (.aload_n 0, 1) := by decide +kernel
theorem dX10_isHeld_15 : decode cX10_isHeld 15 = .ok (.getfield 10, 3) := by decide +kernel
theorem dX10_isHeld_18 : decode cX10_isHeld 18 = .ok (.getfield 103, 3) := by decide +kernel
theorem dX10_isHeld_21 : decode cX10_isHeld 21 = .ok (.iload_n 1, 1) := by decide +kernel
theorem dX10_isHeld_22 : decode cX10_isHeld 22 = .ok (.aaload, 1) := by decide +kernel
theorem dX10_isHeld_23 : decode cX10_isHeld 23 = .ok (.getfield 133, 3) := by decide +kernel
theorem dX10_isHeld_26 : decode cX10_isHeld 26 = .ok (.ifCond .eq 7, 3) := by decide +kernel
theorem dX10_isHeld_29 : decode cX10_isHeld 29 = .ok (.iconst 1, 1) := by decide +kernel
theorem dX10_isHeld_30 : decode cX10_isHeld 30 = .ok (.goto 4, 3) := by decide +kernel
theorem dX10_isHeld_33 : decode cX10_isHeld 33 = .ok (.iconst 0, 1) := by decide +kernel
theorem dX10_isHeld_34 : decode cX10_isHeld 34 = .ok (.ireturn, 1) := by decide +kernel
theorem dX10_heaterCount_0 : decode cX10_heaterCount 0 = .ok (.aload_n 0, 1) := by decide +kernel
theorem dX10_heaterCount_1 : decode cX10_heaterCount 1 = .ok (.getfield 10, 3) := by decide +kernel
theorem dX10_heaterCount_4 : decode cX10_heaterCount 4 = .ok (.getfield 110, 3) := by decide +kernel
theorem dX10_heaterCount_7 : decode cX10_heaterCount 7 = .ok (.ireturn, 1) := by decide +kernel
theorem dX10_heaterState_0 : decode cX10_heaterState 0 = .ok (.aload_n 0, 1) := by decide +kernel
theorem dX10_heaterState_1 : decode cX10_heaterState 1 = .ok (.getfield 10, 3) := by decide +kernel
theorem dX10_heaterState_4 : decode cX10_heaterState 4 = .ok (.iload_n 1, 1) := by decide +kernel
theorem dX10_heaterState_5 : decode cX10_heaterState 5 = .ok (.invokevirtual 137, 3) := by decide +kernel
theorem dX10_heaterState_8 : decode cX10_heaterState 8 = .ok (.ifCond .eq 18, 3) := by decide +kernel
theorem dX10_heaterState_11 : decode cX10_heaterState 11 = .ok (.aload_n 0, 1) := by decide +kernel
theorem dX10_heaterState_12 : decode cX10_heaterState 12 = .ok (.getfield 10, 3) := by decide +kernel
theorem dX10_heaterState_15 : decode cX10_heaterState 15 = .ok (.getfield 113, 3) := by decide +kernel
theorem dX10_heaterState_18 : decode cX10_heaterState 18 = .ok (.iload_n 1, 1) := by decide +kernel
theorem dX10_heaterState_19 : decode cX10_heaterState 19 = .ok (.aaload, 1) := by decide +kernel
theorem dX10_heaterState_20 : decode cX10_heaterState 20 = .ok (.getfield 140, 3) := by decide +kernel
theorem dX10_heaterState_23 : decode cX10_heaterState 23 = .ok (.goto 5, 3) := by decide +kernel
theorem dX10_heaterState_26 : decode cX10_heaterState 26 = .ok (.ldc 62, 2) := by decide +kernel
theorem dX10_heaterState_28 : decode cX10_heaterState 28 = .ok (.ireturn, 1) := by decide +kernel
theorem dX10_heaterMode_0 : decode cX10_heaterMode 0 = .ok (.aload_n 0, 1) := by decide +kernel
theorem dX10_heaterMode_1 : decode cX10_heaterMode 1 = .ok (.getfield 10, 3) := by decide +kernel
theorem dX10_heaterMode_4 : decode cX10_heaterMode 4 = .ok (.iload_n 1, 1) := by decide +kernel
theorem dX10_heaterMode_5 : decode cX10_heaterMode 5 = .ok (.invokevirtual 137, 3) := by decide +kernel
theorem dX10_heaterMode_8 : decode cX10_heaterMode 8 = .ok (.ifCond .eq 18, 3) := by decide +kernel
theorem dX10_heaterMode_11 : decode cX10_heaterMode 11 = .ok (.aload_n 0, 1) := by decide +kernel
theorem dX10_heaterMode_12 : decode cX10_heaterMode 12 = .ok (.getfield 10, 3) := by decide +kernel
theorem dX10_heaterMode_15 : decode cX10_heaterMode 15 = .ok (.getfield 113, 3) := by decide +kernel
theorem dX10_heaterMode_18 : decode cX10_heaterMode 18 = .ok (.iload_n 1, 1) := by decide +kernel
theorem dX10_heaterMode_19 : decode cX10_heaterMode 19 = .ok (.aaload, 1) := by decide +kernel
theorem dX10_heaterMode_20 : decode cX10_heaterMode 20 = .ok (.getfield 143, 3) := by decide +kernel
theorem dX10_heaterMode_23 : decode cX10_heaterMode 23 = .ok (.goto 5, 3) := by decide +kernel
theorem dX10_heaterMode_26 : decode cX10_heaterMode 26 = .ok (.ldc 62, 2) := by decide +kernel
theorem dX10_heaterMode_28 : decode cX10_heaterMode 28 = .ok (.ireturn, 1) := by decide +kernel
theorem dX10_setMode_0 : decode cX10_setMode 0 = .ok (.aload_n 0, 1) := by decide +kernel
theorem dX10_setMode_1 : decode cX10_setMode 1 = .ok (.getfield 10, 3) := by decide +kernel
theorem dX10_setMode_4 : decode cX10_setMode 4 = .ok (.iload_n 1, 1) := by decide +kernel
theorem dX10_setMode_5 : decode cX10_setMode 5 = .ok (.invokevirtual 137, 3) := by decide +kernel
theorem dX10_setMode_8 : decode cX10_setMode 8 = .ok (.ifCond .ne 6, 3) := by decide +kernel
theorem dX10_setMode_11 : decode cX10_setMode 11 = .ok (.ldc 62, 2) := by decide +kernel
theorem dX10_setMode_13 : decode cX10_setMode 13 = .ok (.ireturn, 1) := by decide +kernel
theorem dX10_setMode_14 : decode cX10_setMode 14 = .ok (.iload_n 2, 1) := by decide +kernel
theorem dX10_setMode_15 : decode cX10_setMode 15 = .ok (.iconst 0, 1) := by decide +kernel
theorem dX10_setMode_16 : decode cX10_setMode 16 = .ok (.iconst 2, 1) := by decide +kernel
theorem dX10_setMode_17 : decode cX10_setMode 17 = .ok (.invokestatic 35, 3) := by decide +kernel
theorem dX10_setMode_20 : decode cX10_setMode 20 = .ok (.ifCond .ne 6, 3) := by decide +kernel
theorem dX10_setMode_23 : decode cX10_setMode 23 = .ok (.ldc 42, 2) := by decide +kernel
theorem dX10_setMode_25 : decode cX10_setMode 25 = .ok (.ireturn, 1) := by decide +kernel
theorem dX10_setMode_26 : decode cX10_setMode 26 = .ok (.aload_n 0, 1) := by decide +kernel
theorem dX10_setMode_27 : decode cX10_setMode 27 = .ok (.getfield 10, 3) := by decide +kernel
theorem dX10_setMode_30 : decode cX10_setMode 30 = .ok (.getfield 113, 3) := by decide +kernel
theorem dX10_setMode_33 : decode cX10_setMode 33 = .ok (.iload_n 1, 1) := by decide +kernel
theorem dX10_setMode_34 : decode cX10_setMode 34 = .ok (.aaload, 1) := by decide +kernel
theorem dX10_setMode_35 : decode cX10_setMode 35 = .ok (.getfield 143, 3) := by decide +kernel
theorem dX10_setMode_38 : decode cX10_setMode 38 = .ok (.istore_n 3, 1) := by decide +kernel
theorem dX10_setMode_39 : decode cX10_setMode 39 = .ok (.aload_n 0, 1) := by decide +kernel
theorem dX10_setMode_40 : decode cX10_setMode 40 = .ok (.getfield 10, 3) := by decide +kernel
theorem dX10_setMode_43 : decode cX10_setMode 43 = .ok (.getfield 113, 3) := by decide +kernel
theorem dX10_setMode_46 : decode cX10_setMode 46 = .ok (.iload_n 1, 1) := by decide +kernel
theorem dX10_setMode_47 : decode cX10_setMode 47 = .ok (.aaload, 1) := by decide +kernel
theorem dX10_setMode_48 : decode cX10_setMode 48 = .ok (.iload_n 2, 1) := by decide +kernel
theorem dX10_setMode_49 : decode cX10_setMode 49 = .ok (.putfield 143, 3) := by decide +kernel
theorem dX10_setMode_52 : decode cX10_setMode 52 = .ok (.iload_n 3, 1) := by decide +kernel
theorem dX10_setMode_53 : decode cX10_setMode 53 = .ok (.ireturn, 1) := by decide +kernel
theorem dX10_setOrbit_0 : decode cX10_setOrbit 0 = .ok (.iload_n 1, 1) := by decide +kernel
theorem dX10_setOrbit_1 : decode cX10_setOrbit 1 = .ok (.iconst 1, 1) := by decide +kernel
theorem dX10_setOrbit_2 : decode cX10_setOrbit 2 = .ok (.ldc 34, 2) := by decide +kernel
theorem dX10_setOrbit_4 : decode cX10_setOrbit 4 = .ok (.invokestatic 35, 3) := by decide +kernel
theorem dX10_setOrbit_7 : decode cX10_setOrbit 7 = .ok (.ifCond .eq 56, 3) := by decide +kernel
theorem dX10_setOrbit_10 : decode cX10_setOrbit 10 = .ok (.iload_n 2, 1) := by decide +kernel
theorem dX10_setOrbit_11 : decode cX10_setOrbit 11 = .ok (.iconst 0, 1) := by decide +kernel
theorem dX10_setOrbit_12 : decode cX10_setOrbit 12 = .ok (.iload_n 1, 1) := by decide +kernel
theorem dX10_setOrbit_13 : decode cX10_setOrbit 13 = .ok (.invokestatic 35, 3) := by decide +kernel
theorem dX10_setOrbit_16 : decode cX10_setOrbit 16 = .ok (.ifCond .eq 47, 3) := by decide +kernel
theorem dX10_setOrbit_19 : decode cX10_setOrbit 19 = .ok (.iload_n 3, 1) := by decide +kernel
theorem dX10_setOrbit_20 : decode cX10_setOrbit 20 = .ok (.iload_n 2, 1) := by decide +kernel
theorem dX10_setOrbit_21 : decode cX10_setOrbit 21 = .ok (.iload_n 1, 1) := by decide +kernel
theorem dX10_setOrbit_22 : decode cX10_setOrbit 22 = .ok (.invokestatic 35, 3) := by decide +kernel
theorem dX10_setOrbit_25 : decode cX10_setOrbit 25 = .ok (.ifCond .eq 38, 3) := by decide +kernel
theorem dX10_setOrbit_28 : decode cX10_setOrbit 28 = .ok (.iload 4, 2) := by decide +kernel
theorem dX10_setOrbit_30 : decode cX10_setOrbit 30 = .ok (.iconst 0, 1) := by decide +kernel
theorem dX10_setOrbit_31 : decode cX10_setOrbit 31 = .ok (.sipush 10000, 3) := by decide +kernel
theorem dX10_setOrbit_34 : decode cX10_setOrbit 34 = .ok (.invokestatic 35, 3) := by decide +kernel
theorem dX10_setOrbit_37 : decode cX10_setOrbit 37 = .ok (.ifCond .eq 26, 3) := by decide +kernel
theorem dX10_setOrbit_40 : decode cX10_setOrbit 40 = .ok (.iload 5, 2) := by decide +kernel
theorem dX10_setOrbit_42 : decode cX10_setOrbit 42 = .ok (.iconst 0, 1) := by decide +kernel
theorem dX10_setOrbit_43 : decode cX10_setOrbit 43 = .ok (.bipush 100, 2) := by decide +kernel
theorem dX10_setOrbit_45 : decode cX10_setOrbit 45 = .ok (.invokestatic 35, 3) := by decide +kernel
theorem dX10_setOrbit_48 : decode cX10_setOrbit 48 = .ok (.ifCond .eq 15, 3) := by decide +kernel
theorem dX10_setOrbit_51 : decode cX10_setOrbit 51 = .ok (.iload 6, 2) := by decide +kernel
theorem dX10_setOrbit_53 : decode cX10_setOrbit 53 = .ok (.iconst 0, 1) := by decide +kernel
theorem dX10_setOrbit_54 : decode cX10_setOrbit 54 = .ok (.sipush 10000, 3) := by decide +kernel
theorem dX10_setOrbit_57 : decode cX10_setOrbit 57 = .ok (.invokestatic 35, 3) := by decide +kernel
theorem dX10_setOrbit_60 : decode cX10_setOrbit 60 = .ok (.ifCond .ne 6, 3) := by decide +kernel
theorem dX10_setOrbit_63 : decode cX10_setOrbit 63 = .ok (.ldc 42, 2) := by decide +kernel
theorem dX10_setOrbit_65 : decode cX10_setOrbit 65 = .ok (.ireturn, 1) := by decide +kernel
theorem dX10_setOrbit_66 : decode cX10_setOrbit 66 = .ok (.aload_n 0, 1) := by decide +kernel
theorem dX10_setOrbit_67 : decode cX10_setOrbit 67 = .ok (.getfield 10, 3) := by decide +kernel
theorem dX10_setOrbit_70 : decode cX10_setOrbit 70 = .ok (.getfield 146, 3) := by decide +kernel
theorem dX10_setOrbit_73 : decode cX10_setOrbit 73 = .ok (.iload_n 1, 1) := by decide +kernel
theorem dX10_setOrbit_74 : decode cX10_setOrbit 74 = .ok (.iload_n 2, 1) := by decide +kernel
theorem dX10_setOrbit_75 : decode cX10_setOrbit 75 = .ok (.iload_n 3, 1) := by decide +kernel
theorem dX10_setOrbit_76 : decode cX10_setOrbit 76 = .ok (.iload 4, 2) := by decide +kernel
theorem dX10_setOrbit_78 : decode cX10_setOrbit 78 = .ok (.iload 5, 2) := by decide +kernel
theorem dX10_setOrbit_80 : decode cX10_setOrbit 80 = .ok (.iload 6, 2) := by decide +kernel
theorem dX10_setOrbit_82 : decode cX10_setOrbit 82 = .ok (.invokevirtual 150, 3) := by decide +kernel
theorem dX10_setOrbit_85 : decode cX10_setOrbit 85 = .ok (.iconst 0, 1) := by decide +kernel
theorem dX10_setOrbit_86 : decode cX10_setOrbit 86 = .ok (.ireturn, 1) := by decide +kernel
theorem dX10_setPower_0 : decode cX10_setPower 0 = .ok (.iload_n 1, 1) := by decide +kernel
theorem dX10_setPower_1 : decode cX10_setPower 1 = .ok (.iconst 0, 1) := by decide +kernel
theorem dX10_setPower_2 : decode cX10_setPower 2 = .ok (.ldc 41, 2) := by decide +kernel
theorem dX10_setPower_4 : decode cX10_setPower 4 = .ok (.invokestatic 35, 3) := by decide +kernel
theorem dX10_setPower_7 : decode cX10_setPower 7 = .ok (.ifCond .eq 33, 3) := by decide +kernel
theorem dX10_setPower_10 : decode cX10_setPower 10 = .ok (.iload_n 2, 1) := by decide +kernel
theorem dX10_setPower_11 : decode cX10_setPower 11 = .ok (.iconst 0, 1) := by decide +kernel
theorem dX10_setPower_12 : decode cX10_setPower 12 = .ok (.ldc 41, 2) := by decide +kernel
theorem dX10_setPower_14 : decode cX10_setPower 14 = .ok (.invokestatic 35, 3) := by decide +kernel
theorem dX10_setPower_17 : decode cX10_setPower 17 = .ok (.ifCond .eq 23, 3) := by decide +kernel
theorem dX10_setPower_20 : decode cX10_setPower 20 = .ok (.iload_n 3, 1) := by decide +kernel
theorem dX10_setPower_21 : decode cX10_setPower 21 = .ok (.iconst 0, 1) := by decide +kernel
theorem dX10_setPower_22 : decode cX10_setPower 22 = .ok (.ldc 155, 2) := by decide +kernel
theorem dX10_setPower_24 : decode cX10_setPower 24 = .ok (.invokestatic 35, 3) := by decide +kernel
theorem dX10_setPower_27 : decode cX10_setPower 27 = .ok (.ifCond .eq 13, 3) := by decide +kernel
theorem dX10_setPower_30 : decode cX10_setPower 30 = .ok (.iload 4, 2) := by decide +kernel
theorem dX10_setPower_32 : decode cX10_setPower 32 = .ok (.iconst 0, 1) := by decide +kernel
theorem dX10_setPower_33 : decode cX10_setPower 33 = .ok (.iload_n 3, 1) := by decide +kernel
theorem dX10_setPower_34 : decode cX10_setPower 34 = .ok (.invokestatic 35, 3) := by decide +kernel
theorem dX10_setPower_37 : decode cX10_setPower 37 = .ok (.ifCond .ne 6, 3) := by decide +kernel
theorem dX10_setPower_40 : decode cX10_setPower 40 = .ok (.ldc 42, 2) := by decide +kernel
theorem dX10_setPower_42 : decode cX10_setPower 42 = .ok (.ireturn, 1) := by decide +kernel
theorem dX10_setPower_43 : decode cX10_setPower 43 = .ok (.aload_n 0, 1) := by decide +kernel
theorem dX10_setPower_44 : decode cX10_setPower 44 = .ok (.getfield 10, 3) := by decide +kernel
theorem dX10_setPower_47 : decode cX10_setPower 47 = .ok (.getfield 156, 3) := by decide +kernel
theorem dX10_setPower_50 : decode cX10_setPower 50 = .ok (.iload_n 1, 1) := by decide +kernel
theorem dX10_setPower_51 : decode cX10_setPower 51 = .ok (.iload_n 2, 1) := by decide +kernel
theorem dX10_setPower_52 : decode cX10_setPower 52 = .ok (.iload_n 3, 1) := by decide +kernel
theorem dX10_setPower_53 : decode cX10_setPower 53 = .ok (.iload 4, 2) := by decide +kernel
theorem dX10_setPower_55 : decode cX10_setPower 55 = .ok (.invokevirtual 160, 3) := by decide +kernel
theorem dX10_setPower_58 : decode cX10_setPower 58 = .ok (.iconst 0, 1) := by decide +kernel
theorem dX10_setPower_59 : decode cX10_setPower 59 = .ok (.ireturn, 1) := by decide +kernel
theorem dX10_setStepLength_0 : decode cX10_setStepLength 0 = .ok (.iload_n 1, 1) := by decide +kernel
theorem dX10_setStepLength_1 : decode cX10_setStepLength 1 = .ok (.iconst 1, 1) := by decide +kernel
theorem dX10_setStepLength_2 : decode cX10_setStepLength 2 = .ok (.bipush 60, 2) := by decide +kernel
theorem dX10_setStepLength_4 : decode cX10_setStepLength 4 = .ok (.invokestatic 35, 3) := by decide +kernel
theorem dX10_setStepLength_7 : decode cX10_setStepLength 7 = .ok (.ifCond .ne 6, 3) := by decide +kernel
theorem dX10_setStepLength_10 : decode cX10_setStepLength 10 = .ok (.ldc 42, 2) := by decide +kernel
theorem dX10_setStepLength_12 : decode cX10_setStepLength 12 = .ok (.ireturn, 1) := by decide +kernel
theorem dX10_setStepLength_13 : decode cX10_setStepLength 13 = .ok (.aload_n 0, 1) := by decide +kernel
theorem dX10_setStepLength_14 : decode cX10_setStepLength 14 = .ok (.getfield 10, 3) := by decide +kernel
theorem dX10_setStepLength_17 : decode cX10_setStepLength 17 = .ok (.getfield 165, 3) := by decide +kernel
theorem dX10_setStepLength_20 : decode cX10_setStepLength 20 = .ok (.istore_n 2, 1) := by decide +kernel
theorem dX10_setStepLength_21 : decode cX10_setStepLength 21 = .ok (.aload_n 0, 1) := by decide +kernel
theorem dX10_setStepLength_22 : decode cX10_setStepLength 22 = .ok (.getfield 10, 3) := by decide +kernel
theorem dX10_setStepLength_25 : decode cX10_setStepLength 25 = .ok (.iload_n 1, 1) := by decide +kernel
theorem dX10_setStepLength_26 : decode cX10_setStepLength 26 = .ok (.putfield 165, 3) := by decide +kernel
theorem dX10_setStepLength_29 : decode cX10_setStepLength 29 = .ok (.iload_n 2, 1) := by decide +kernel
theorem dX10_setStepLength_30 : decode cX10_setStepLength 30 = .ok (.ireturn, 1) := by decide +kernel
theorem dX10_run_0 : decode cX10_run 0 = .ok (.iload_n 1, 1) := by decide +kernel
theorem dX10_run_1 : decode cX10_run 1 = .ok (.iconst 1, 1) := by decide +kernel
theorem dX10_run_2 : decode cX10_run 2 = .ok (.sipush 1000, 3) := by decide +kernel
theorem dX10_run_5 : decode cX10_run 5 = .ok (.invokestatic 35, 3) := by decide +kernel
theorem dX10_run_8 : decode cX10_run 8 = .ok (.ifCond .eq 25, 3) := by decide +kernel
theorem dX10_run_11 : decode cX10_run 11 = .ok (.aload_n 0, 1) := by decide +kernel
theorem dX10_run_12 : decode cX10_run 12 = .ok (.getfield 10, 3) := by decide +kernel
theorem dX10_run_15 : decode cX10_run 15 = .ok (.getfield 168, 3) := by decide +kernel
theorem dX10_run_18 : decode cX10_run 18 = .ok (.iload_n 1, 1) := by decide +kernel
theorem dX10_run_19 : decode cX10_run 19 = .ok (.aload_n 0, 1) := by decide +kernel
theorem dX10_run_20 : decode cX10_run 20 = .ok (.getfield 10, 3) := by decide +kernel
theorem dX10_run_23 : decode cX10_run 23 = .ok (.getfield 165, 3) := by decide +kernel
theorem dX10_run_26 : decode cX10_run 26 = .ok (.imul, 1) := by decide +kernel
theorem dX10_run_27 : decode cX10_run 27 = .ok (.iadd, 1) := by decide +kernel
theorem dX10_run_28 : decode cX10_run 28 = .ok (.ldc 171, 2) := by decide +kernel
theorem dX10_run_30 : decode cX10_run 30 = .ok (.if_icmp .le 6, 3) := by decide +kernel
theorem dX10_run_33 : decode cX10_run 33 = .ok (.ldc 42, 2) := by decide +kernel
theorem dX10_run_35 : decode cX10_run 35 = .ok (.ireturn, 1) := by decide +kernel
theorem dX10_run_36 : decode cX10_run 36 = .ok (.iconst 0, 1) := by decide +kernel
theorem dX10_run_37 : decode cX10_run 37 = .ok (.istore_n 2, 1) := by decide +kernel
theorem dX10_run_38 : decode cX10_run 38 = .ok (.iconst 0, 1) := by decide +kernel
theorem dX10_run_39 : decode cX10_run 39 = .ok (.istore_n 3, 1) := by decide +kernel
theorem dX10_run_40 : decode cX10_run 40 = .ok (.iload_n 3, 1) := by decide +kernel
theorem dX10_run_41 : decode cX10_run 41 = .ok (.iload_n 1, 1) := by decide +kernel
theorem dX10_run_42 : decode cX10_run 42 = .ok (.if_icmp .ge 22, 3) := by decide +kernel
theorem dX10_run_45 : decode cX10_run 45 = .ok (.aload_n 0, 1) := by decide +kernel
theorem dX10_run_46 : decode cX10_run 46 = .ok (.getfield 10, 3) := by decide +kernel
theorem dX10_run_49 : decode cX10_run 49 = .ok (.invokevirtual 172, 3) := by decide +kernel
theorem dX10_run_52 : decode cX10_run 52 = .ok (.ifCond .eq 6, 3) := by decide +kernel
theorem dX10_run_55 : decode cX10_run 55 = .ok (.iinc 2 1, 3) := by decide +kernel
theorem dX10_run_58 : decode cX10_run 58 = .ok (.iinc 3 1, 3) := by decide +kernel
theorem dX10_run_61 : decode cX10_run 61 = .ok (.goto (-21), 3) := by decide +kernel
theorem dX10_run_64 : decode cX10_run 64 = .ok (.iload_n 2, 1) := by decide +kernel
theorem dX10_run_65 : decode cX10_run 65 = .ok (.ireturn, 1) := by decide +kernel
theorem dX10_time_0 : decode cX10_time 0 = .ok (.aload_n 0, 1) := by decide +kernel
theorem dX10_time_1 : decode cX10_time 1 = .ok (.getfield 10, 3) := by decide +kernel
theorem dX10_time_4 : decode cX10_time 4 = .ok (.getfield 168, 3) := by decide +kernel
theorem dX10_time_7 : decode cX10_time 7 = .ok (.ireturn, 1) := by decide +kernel
theorem dX10_charge_0 : decode cX10_charge 0 = .ok (.aload_n 0, 1) := by decide +kernel
theorem dX10_charge_1 : decode cX10_charge 1 = .ok (.getfield 10, 3) := by decide +kernel
theorem dX10_charge_4 : decode cX10_charge 4 = .ok (.getfield 156, 3) := by decide +kernel
theorem dX10_charge_7 : decode cX10_charge 7 = .ok (.getfield 183, 3) := by decide +kernel
theorem dX10_charge_10 : decode cX10_charge 10 = .ok (.ireturn, 1) := by decide +kernel
theorem dX10_usedPower_0 : decode cX10_usedPower 0 = .ok (.aload_n 0, 1) := by decide +kernel
theorem dX10_usedPower_1 : decode cX10_usedPower 1 = .ok (.getfield 10, 3) := by decide +kernel
theorem dX10_usedPower_4 : decode cX10_usedPower 4 = .ok (.invokevirtual 186, 3) := by decide +kernel
theorem dX10_usedPower_7 : decode cX10_usedPower 7 = .ok (.ireturn, 1) := by decide +kernel
theorem dX10_temperature_0 : decode cX10_temperature 0 = .ok (.aload_n 0, 1) := by decide +kernel
theorem dX10_temperature_1 : decode cX10_temperature 1 = .ok (.getfield 10, 3) := by decide +kernel
theorem dX10_temperature_4 : decode cX10_temperature 4 = .ok (.iload_n 1, 1) := by decide +kernel
theorem dX10_temperature_5 : decode cX10_temperature 5 = .ok (.invokevirtual 58, 3) := by decide +kernel
theorem dX10_temperature_8 : decode cX10_temperature 8 = .ok (.ifCond .eq 18, 3) := by decide +kernel
theorem dX10_temperature_11 : decode cX10_temperature 11 = .ok (.aload_n 0, 1) := by decide +kernel
theorem dX10_temperature_12 : decode cX10_temperature 12 = .ok (.getfield 10, 3) := by decide +kernel
theorem dX10_temperature_15 : decode cX10_temperature 15 = .ok (.getfield 48, 3) := by decide +kernel
theorem dX10_temperature_18 : decode cX10_temperature 18 = .ok (.iload_n 1, 1) := by decide +kernel
theorem dX10_temperature_19 : decode cX10_temperature 19 = .ok (.aaload, 1) := by decide +kernel
theorem dX10_temperature_20 : decode cX10_temperature 20 = .ok (.getfield 69, 3) := by decide +kernel
theorem dX10_temperature_23 : decode cX10_temperature 23 = .ok (.goto 5, 3) := by decide +kernel
theorem dX10_temperature_26 : decode cX10_temperature 26 = .ok (.ldc 62, 2) := by decide +kernel
theorem dX10_temperature_28 : decode cX10_temperature 28 = .ok (.ireturn, 1) := by decide +kernel
theorem dX10_load_0 : decode cX10_load 0 = .ok (.aload_n 0, 1) := by decide +kernel
theorem dX10_load_1 : decode cX10_load 1 = .ok (.getfield 10, 3) := by decide +kernel
theorem dX10_load_4 : decode cX10_load 4 = .ok (.iload_n 1, 1) := by decide +kernel
theorem dX10_load_5 : decode cX10_load 5 = .ok (.invokevirtual 58, 3) := by decide +kernel
theorem dX10_load_8 : decode cX10_load 8 = .ok (.ifCond .eq 18, 3) := by decide +kernel
theorem dX10_load_11 : decode cX10_load 11 = .ok (.aload_n 0, 1) := by decide +kernel
theorem dX10_load_12 : decode cX10_load 12 = .ok (.getfield 10, 3) := by decide +kernel
theorem dX10_load_15 : decode cX10_load 15 = .ok (.getfield 48, 3) := by decide +kernel
theorem dX10_load_18 : decode cX10_load 18 = .ok (.iload_n 1, 1) := by decide +kernel
theorem dX10_load_19 : decode cX10_load 19 = .ok (.aaload, 1) := by decide +kernel
theorem dX10_load_20 : decode cX10_load 20 = .ok (.getfield 72, 3) := by decide +kernel
theorem dX10_load_23 : decode cX10_load 23 = .ok (.goto 5, 3) := by decide +kernel
theorem dX10_load_26 : decode cX10_load 26 = .ok (.ldc 62, 2) := by decide +kernel
theorem dX10_load_28 : decode cX10_load 28 = .ok (.ireturn, 1) := by decide +kernel
theorem dX10_absorbedHeat_0 : decode cX10_absorbedHeat 0 = .ok (.aload_n 0, 1) := by decide +kernel
theorem dX10_absorbedHeat_1 : decode cX10_absorbedHeat 1 = .ok (.getfield 10, 3) := by decide +kernel
theorem dX10_absorbedHeat_4 : decode cX10_absorbedHeat 4 = .ok (.iload_n 1, 1) := by decide +kernel
theorem dX10_absorbedHeat_5 : decode cX10_absorbedHeat 5 = .ok (.invokevirtual 58, 3) := by decide +kernel
theorem dX10_absorbedHeat_8 : decode cX10_absorbedHeat 8 = .ok (.ifCond .ne 7, 3) := by decide +kernel
theorem dX10_absorbedHeat_11 : decode cX10_absorbedHeat 11 = .ok (.ldc2_w 189, 3) := by decide +kernel
theorem dX10_absorbedHeat_14 : decode cX10_absorbedHeat 14 = .ok (.lreturn, 1) := by decide +kernel
theorem dX10_absorbedHeat_15 : decode cX10_absorbedHeat 15 = .ok (.aload_n 0, 1) := by decide +kernel
theorem dX10_absorbedHeat_16 : decode cX10_absorbedHeat 16 = .ok (.getfield 10, 3) := by decide +kernel
theorem dX10_absorbedHeat_19 : decode cX10_absorbedHeat 19 = .ok (.invokevirtual 191, 3) := by decide +kernel
theorem dX10_absorbedHeat_22 : decode cX10_absorbedHeat 22 = .ok (.aload_n 0, 1) := by decide +kernel
theorem dX10_absorbedHeat_23 : decode cX10_absorbedHeat 23 = .ok (.getfield 10, 3) := by decide +kernel
theorem dX10_absorbedHeat_26 : decode cX10_absorbedHeat 26 = .ok (.getfield 48, 3) := by decide +kernel
theorem dX10_absorbedHeat_29 : decode cX10_absorbedHeat 29 = .ok (.iload_n 1, 1) := by decide +kernel
theorem dX10_absorbedHeat_30 : decode cX10_absorbedHeat 30 = .ok (.aaload, 1) := by decide +kernel
theorem dX10_absorbedHeat_31 : decode cX10_absorbedHeat 31 = .ok (.getfield 194, 3) := by decide +kernel
theorem dX10_absorbedHeat_34 : decode cX10_absorbedHeat 34 = .ok (.lreturn, 1) := by decide +kernel
theorem dX10_emittedHeat_0 : decode cX10_emittedHeat 0 = .ok (.aload_n 0, 1) := by decide +kernel
theorem dX10_emittedHeat_1 : decode cX10_emittedHeat 1 = .ok (.getfield 10, 3) := by decide +kernel
theorem dX10_emittedHeat_4 : decode cX10_emittedHeat 4 = .ok (.iload_n 1, 1) := by decide +kernel
theorem dX10_emittedHeat_5 : decode cX10_emittedHeat 5 = .ok (.invokevirtual 58, 3) := by decide +kernel
theorem dX10_emittedHeat_8 : decode cX10_emittedHeat 8 = .ok (.ifCond .ne 7, 3) := by decide +kernel
theorem dX10_emittedHeat_11 : decode cX10_emittedHeat 11 = .ok (.ldc2_w 189, 3) := by decide +kernel
theorem dX10_emittedHeat_14 : decode cX10_emittedHeat 14 = .ok (.lreturn, 1) := by decide +kernel
theorem dX10_emittedHeat_15 : decode cX10_emittedHeat 15 = .ok (.aload_n 0, 1) := by decide +kernel
theorem dX10_emittedHeat_16 : decode cX10_emittedHeat 16 = .ok (.getfield 10, 3) := by decide +kernel
theorem dX10_emittedHeat_19 : decode cX10_emittedHeat 19 = .ok (.invokevirtual 191, 3) := by decide +kernel
theorem dX10_emittedHeat_22 : decode cX10_emittedHeat 22 = .ok (.aload_n 0, 1) := by decide +kernel
theorem dX10_emittedHeat_23 : decode cX10_emittedHeat 23 = .ok (.getfield 10, 3) := by decide +kernel
theorem dX10_emittedHeat_26 : decode cX10_emittedHeat 26 = .ok (.getfield 48, 3) := by decide +kernel
theorem dX10_emittedHeat_29 : decode cX10_emittedHeat 29 = .ok (.iload_n 1, 1) := by decide +kernel
theorem dX10_emittedHeat_30 : decode cX10_emittedHeat 30 = .ok (.aaload, 1) := by decide +kernel
theorem dX10_emittedHeat_31 : decode cX10_emittedHeat 31 = .ok (.getfield 198, 3) := by decide +kernel
theorem dX10_emittedHeat_34 : decode cX10_emittedHeat 34 = .ok (.lreturn, 1) := by decide +kernel
theorem dX10_conductedHeat_0 : decode cX10_conductedHeat 0 = .ok (.aload_n 0, 1) := by decide +kernel
theorem dX10_conductedHeat_1 : decode cX10_conductedHeat 1 = .ok (.getfield 10, 3) := by decide +kernel
theorem dX10_conductedHeat_4 : decode cX10_conductedHeat 4 = .ok (.iload_n 1, 1) := by decide +kernel
theorem dX10_conductedHeat_5 : decode cX10_conductedHeat 5 = .ok (.invokevirtual 58, 3) := by decide +kernel
theorem dX10_conductedHeat_8 : decode cX10_conductedHeat 8 = .ok (.ifCond .ne 7, 3) := by decide +kernel
theorem dX10_conductedHeat_11 : decode cX10_conductedHeat 11 = .ok (.ldc2_w 189, 3) := by decide +kernel
theorem dX10_conductedHeat_14 : decode cX10_conductedHeat 14 = .ok (.lreturn, 1) := by decide +kernel
theorem dX10_conductedHeat_15 : decode cX10_conductedHeat 15 = .ok (.aload_n 0, 1) := by decide +kernel
theorem dX10_conductedHeat_16 : decode cX10_conductedHeat 16 = .ok (.getfield 10, 3) := by decide +kernel
theorem dX10_conductedHeat_19 : decode cX10_conductedHeat 19 = .ok (.invokevirtual 191, 3) := by decide +kernel
theorem dX10_conductedHeat_22 : decode cX10_conductedHeat 22 = .ok (.aload_n 0, 1) := by decide +kernel
theorem dX10_conductedHeat_23 : decode cX10_conductedHeat 23 = .ok (.getfield 10, 3) := by decide +kernel
theorem dX10_conductedHeat_26 : decode cX10_conductedHeat 26 = .ok (.getfield 48, 3) := by decide +kernel
theorem dX10_conductedHeat_29 : decode cX10_conductedHeat 29 = .ok (.iload_n 1, 1) := by decide +kernel
theorem dX10_conductedHeat_30 : decode cX10_conductedHeat 30 = .ok (.aaload, 1) := by decide +kernel
theorem dX10_conductedHeat_31 : decode cX10_conductedHeat 31 = .ok (.getfield 201, 3) := by decide +kernel
theorem dX10_conductedHeat_34 : decode cX10_conductedHeat 34 = .ok (.lreturn, 1) := by decide +kernel
theorem dX10_netHeat_0 : decode cX10_netHeat 0 = .ok (.aload_n 0, 1) := by decide +kernel
theorem dX10_netHeat_1 : decode cX10_netHeat 1 = .ok (.getfield 10, 3) := by decide +kernel
theorem dX10_netHeat_4 : decode cX10_netHeat 4 = .ok (.iload_n 1, 1) := by decide +kernel
theorem dX10_netHeat_5 : decode cX10_netHeat 5 = .ok (.invokevirtual 58, 3) := by decide +kernel
theorem dX10_netHeat_8 : decode cX10_netHeat 8 = .ok (.ifCond .ne 7, 3) := by decide +kernel
theorem dX10_netHeat_11 : decode cX10_netHeat 11 = .ok (.ldc2_w 189, 3) := by decide +kernel
theorem dX10_netHeat_14 : decode cX10_netHeat 14 = .ok (.lreturn, 1) := by decide +kernel
theorem dX10_netHeat_15 : decode cX10_netHeat 15 = .ok (.aload_n 0, 1) := by decide +kernel
theorem dX10_netHeat_16 : decode cX10_netHeat 16 = .ok (.getfield 10, 3) := by decide +kernel
theorem dX10_netHeat_19 : decode cX10_netHeat 19 = .ok (.invokevirtual 191, 3) := by decide +kernel
theorem dX10_netHeat_22 : decode cX10_netHeat 22 = .ok (.aload_n 0, 1) := by decide +kernel
theorem dX10_netHeat_23 : decode cX10_netHeat 23 = .ok (.getfield 10, 3) := by decide +kernel
theorem dX10_netHeat_26 : decode cX10_netHeat 26 = .ok (.getfield 48, 3) := by decide +kernel
theorem dX10_netHeat_29 : decode cX10_netHeat 29 = .ok (.iload_n 1, 1) := by decide +kernel
theorem dX10_netHeat_30 : decode cX10_netHeat 30 = .ok (.aaload, 1) := by decide +kernel
theorem dX10_netHeat_31 : decode cX10_netHeat 31 = .ok (.invokevirtual 204, 3) := by decide +kernel
theorem dX10_netHeat_34 : decode cX10_netHeat 34 = .ok (.lreturn, 1) := by decide +kernel
theorem dX10_margin_0 : decode cX10_margin 0 = .ok (.aload_n 0, 1) := by decide +kernel
theorem dX10_margin_1 : decode cX10_margin 1 = .ok (.getfield 10, 3) := by decide +kernel
theorem dX10_margin_4 : decode cX10_margin 4 = .ok (.iload_n 1, 1) := by decide +kernel
theorem dX10_margin_5 : decode cX10_margin 5 = .ok (.invokevirtual 58, 3) := by decide +kernel
theorem dX10_margin_8 : decode cX10_margin 8 = .ok (.ifCond .ne 6, 3) := by decide +kernel
theorem dX10_margin_11 : decode cX10_margin 11 = .ok (.ldc 62, 2) := by decide +kernel
theorem dX10_margin_13 : decode cX10_margin 13 = .ok (.ireturn, 1) := by decide +kernel
theorem dX10_margin_14 : decode cX10_margin 14 = .ok (.aload_n 0, 1) := by decide +kernel
theorem dX10_margin_15 : decode cX10_margin 15 = .ok (.getfield 10, 3) := by decide +kernel
theorem dX10_margin_18 : decode cX10_margin 18 = .ok (.getfield 48, 3) := by decide +kernel
theorem dX10_margin_21 : decode cX10_margin 21 = .ok (.iload_n 1, 1) := by decide +kernel
theorem dX10_margin_22 : decode cX10_margin 22 = .ok (.aaload, 1) := by decide +kernel
theorem dX10_margin_23 : decode cX10_margin 23 = .ok (.astore_n 2, 1) := by decide +kernel
theorem dX10_margin_24 : decode cX10_margin 24 = .ok (.aload_n 2, 1) := by decide +kernel
theorem dX10_margin_25 : decode cX10_margin 25 = .ok (.getfield 69, 3) := by decide +kernel
theorem dX10_margin_28 : decode cX10_margin 28 = .ok (.aload_n 2, 1) := by decide +kernel
theorem dX10_margin_29 : decode cX10_margin 29 = .ok (.getfield 63, 3) := by decide +kernel
theorem dX10_margin_32 : decode cX10_margin 32 = .ok (.isub, 1) := by decide +kernel
theorem dX10_margin_33 : decode cX10_margin 33 = .ok (.aload_n 2, 1) := by decide +kernel
theorem dX10_margin_34 : decode cX10_margin 34 = .ok (.getfield 66, 3) := by decide +kernel
theorem dX10_margin_37 : decode cX10_margin 37 = .ok (.aload_n 2, 1) := by decide +kernel
theorem dX10_margin_38 : decode cX10_margin 38 = .ok (.getfield 69, 3) := by decide +kernel
theorem dX10_margin_41 : decode cX10_margin 41 = .ok (.isub, 1) := by decide +kernel
theorem dX10_margin_42 : decode cX10_margin 42 = .ok (.invokestatic 208, 3) := by decide +kernel
theorem dX10_margin_45 : decode cX10_margin 45 = .ok (.ireturn, 1) := by decide +kernel
theorem dX10_resetRecords_0 : decode cX10_resetRecords 0 = .ok (.aload_n 0, 1) := by decide +kernel
theorem dX10_resetRecords_1 : decode cX10_resetRecords 1 = .ok (.getfield 10, 3) := by decide +kernel
theorem dX10_resetRecords_4 : decode cX10_resetRecords 4 = .ok (.getfield 213, 3) := by decide +kernel
theorem dX10_resetRecords_7 : decode cX10_resetRecords 7 = .ok (.getfield 217, 3) := by decide +kernel
theorem dX10_resetRecords_10 : decode cX10_resetRecords 10 = .ok (.istore_n 1, 1) := by decide +kernel
theorem dX10_resetRecords_11 : decode cX10_resetRecords 11 = .ok (.aload_n 0, 1) := by decide +kernel
theorem dX10_resetRecords_12 : decode cX10_resetRecords 12 = .ok (.getfield 10, 3) := by decide +kernel
theorem dX10_resetRecords_15 : decode cX10_resetRecords 15 = .ok (.getfield 213, 3) := by decide +kernel
theorem dX10_resetRecords_18 : decode cX10_resetRecords 18 = .ok (.invokevirtual 222, 3) := by decide +kernel
theorem dX10_resetRecords_21 : decode cX10_resetRecords 21 = .ok (.iconst 0, 1) := by decide +kernel
theorem dX10_resetRecords_22 : decode cX10_resetRecords 22 = .ok (.istore_n 2, 1) := by decide +kernel
theorem dX10_resetRecords_23 : decode cX10_resetRecords 23 = .ok (.iload_n 2, 1) := by decide +kernel
theorem dX10_resetRecords_24 : decode cX10_resetRecords 24 = .ok (.aload_n 0, 1) := by decide +kernel
theorem dX10_resetRecords_25 : decode cX10_resetRecords 25 = .ok (.getfield 10, 3) := by decide +kernel
theorem dX10_resetRecords_28 : decode cX10_resetRecords 28 = .ok (.getfield 43, 3) := by decide +kernel
theorem dX10_resetRecords_31 : decode cX10_resetRecords 31 = .ok (.if_icmp .ge 21, 3) := by decide +kernel
theorem dX10_resetRecords_34 : decode cX10_resetRecords 34 = .ok (.aload_n 0, 1) := by decide +kernel
theorem dX10_resetRecords_35 : decode cX10_resetRecords 35 = .ok (.getfield 10, 3) := by decide +kernel
theorem dX10_resetRecords_38 : decode cX10_resetRecords 38 = .ok (.getfield 48, 3) := by decide +kernel
theorem dX10_resetRecords_41 : decode cX10_resetRecords 41 = .ok (.iload_n 2, 1) := by decide +kernel
theorem dX10_resetRecords_42 : decode cX10_resetRecords 42 = .ok (.aaload, 1) := by decide +kernel
theorem dX10_resetRecords_43 : decode cX10_resetRecords 43 = .ok (.invokevirtual 225, 3) := by decide +kernel
theorem dX10_resetRecords_46 : decode cX10_resetRecords 46 = .ok (.iinc 2 1, 3) := by decide +kernel
theorem dX10_resetRecords_49 : decode cX10_resetRecords 49 = .ok (.goto (-26), 3) := by decide +kernel
theorem dX10_resetRecords_52 : decode cX10_resetRecords 52 = .ok (.iload_n 1, 1) := by decide +kernel
theorem dX10_resetRecords_53 : decode cX10_resetRecords 53 = .ok (.ireturn, 1) := by decide +kernel
theorem dX10_lowest_0 : decode cX10_lowest 0 = .ok (.aload_n 0, 1) := by decide +kernel
theorem dX10_lowest_1 : decode cX10_lowest 1 = .ok (.getfield 10, 3) := by decide +kernel
theorem dX10_lowest_4 : decode cX10_lowest 4 = .ok (.iload_n 1, 1) := by decide +kernel
theorem dX10_lowest_5 : decode cX10_lowest 5 = .ok (.invokevirtual 58, 3) := by decide +kernel
theorem dX10_lowest_8 : decode cX10_lowest 8 = .ok (.ifCond .eq 18, 3) := by decide +kernel
theorem dX10_lowest_11 : decode cX10_lowest 11 = .ok (.aload_n 0, 1) := by decide +kernel
theorem dX10_lowest_12 : decode cX10_lowest 12 = .ok (.getfield 10, 3) := by decide +kernel
theorem dX10_lowest_15 : decode cX10_lowest 15 = .ok (.getfield 48, 3) := by decide +kernel
theorem dX10_lowest_18 : decode cX10_lowest 18 = .ok (.iload_n 1, 1) := by decide +kernel
theorem dX10_lowest_19 : decode cX10_lowest 19 = .ok (.aaload, 1) := by decide +kernel
theorem dX10_lowest_20 : decode cX10_lowest 20 = .ok (.getfield 228, 3) := by decide +kernel
theorem dX10_lowest_23 : decode cX10_lowest 23 = .ok (.goto 5, 3) := by decide +kernel
theorem dX10_lowest_26 : decode cX10_lowest 26 = .ok (.ldc 62, 2) := by decide +kernel
theorem dX10_lowest_28 : decode cX10_lowest 28 = .ok (.ireturn, 1) := by decide +kernel
theorem dX10_highest_0 : decode cX10_highest 0 = .ok (.aload_n 0, 1) := by decide +kernel
theorem dX10_highest_1 : decode cX10_highest 1 = .ok (.getfield 10, 3) := by decide +kernel
theorem dX10_highest_4 : decode cX10_highest 4 = .ok (.iload_n 1, 1) := by decide +kernel
theorem dX10_highest_5 : decode cX10_highest 5 = .ok (.invokevirtual 58, 3) := by decide +kernel
theorem dX10_highest_8 : decode cX10_highest 8 = .ok (.ifCond .eq 18, 3) := by decide +kernel
theorem dX10_highest_11 : decode cX10_highest 11 = .ok (.aload_n 0, 1) := by decide +kernel
theorem dX10_highest_12 : decode cX10_highest 12 = .ok (.getfield 10, 3) := by decide +kernel
theorem dX10_highest_15 : decode cX10_highest 15 = .ok (.getfield 48, 3) := by decide +kernel
theorem dX10_highest_18 : decode cX10_highest 18 = .ok (.iload_n 1, 1) := by decide +kernel
theorem dX10_highest_19 : decode cX10_highest 19 = .ok (.aaload, 1) := by decide +kernel
theorem dX10_highest_20 : decode cX10_highest 20 = .ok (.getfield 231, 3) := by decide +kernel
theorem dX10_highest_23 : decode cX10_highest 23 = .ok (.goto 5, 3) := by decide +kernel
theorem dX10_highest_26 : decode cX10_highest 26 = .ok (.ldc 62, 2) := by decide +kernel
theorem dX10_highest_28 : decode cX10_highest 28 = .ok (.ireturn, 1) := by decide +kernel
theorem dX10_violations_0 : decode cX10_violations 0 = .ok (.aload_n 0, 1) := by decide +kernel
theorem dX10_violations_1 : decode cX10_violations 1 = .ok (.getfield 10, 3) := by decide +kernel
theorem dX10_violations_4 : decode cX10_violations 4 = .ok (.iload_n 1, 1) := by decide +kernel
theorem dX10_violations_5 : decode cX10_violations 5 = .ok (.invokevirtual 58, 3) := by decide +kernel
theorem dX10_violations_8 : decode cX10_violations 8 = .ok (.ifCond .eq 18, 3) := by decide +kernel
theorem dX10_violations_11 : decode cX10_violations 11 = .ok (.aload_n 0, 1) := by decide +kernel
theorem dX10_violations_12 : decode cX10_violations 12 = .ok (.getfield 10, 3) := by decide +kernel
theorem dX10_violations_15 : decode cX10_violations 15 = .ok (.getfield 48, 3) := by decide +kernel
theorem dX10_violations_18 : decode cX10_violations 18 = .ok (.iload_n 1, 1) := by decide +kernel
theorem dX10_violations_19 : decode cX10_violations 19 = .ok (.aaload, 1) := by decide +kernel
theorem dX10_violations_20 : decode cX10_violations 20 = .ok (.getfield 234, 3) := by decide +kernel
theorem dX10_violations_23 : decode cX10_violations 23 = .ok (.goto 5, 3) := by decide +kernel
theorem dX10_violations_26 : decode cX10_violations 26 = .ok (.ldc 62, 2) := by decide +kernel
theorem dX10_violations_28 : decode cX10_violations 28 = .ok (.ireturn, 1) := by decide +kernel
theorem dX10_firstViolation_0 : decode cX10_firstViolation 0 = .ok (.aload_n 0, 1) := by decide +kernel
theorem dX10_firstViolation_1 : decode cX10_firstViolation 1 = .ok (.getfield 10, 3) := by decide +kernel
theorem dX10_firstViolation_4 : decode cX10_firstViolation 4 = .ok (.iload_n 1, 1) := by decide +kernel
theorem dX10_firstViolation_5 : decode cX10_firstViolation 5 = .ok (.invokevirtual 58, 3) := by decide +kernel
theorem dX10_firstViolation_8 : decode cX10_firstViolation 8 = .ok (.ifCond .eq 18, 3) := by decide +kernel
theorem dX10_firstViolation_11 : decode cX10_firstViolation 11 = .ok (.aload_n 0, 1) := by decide +kernel
theorem dX10_firstViolation_12 : decode cX10_firstViolation 12 = .ok (.getfield 10, 3) := by decide +kernel
theorem dX10_firstViolation_15 : decode cX10_firstViolation 15 = .ok (.getfield 48, 3) := by decide +kernel
theorem dX10_firstViolation_18 : decode cX10_firstViolation 18 = .ok (.iload_n 1, 1) := by decide +kernel
theorem dX10_firstViolation_19 : decode cX10_firstViolation 19 = .ok (.aaload, 1) := by decide +kernel
theorem dX10_firstViolation_20 : decode cX10_firstViolation 20 = .ok (.getfield 237, 3) := by decide +kernel
theorem dX10_firstViolation_23 : decode cX10_firstViolation 23 = .ok (.goto 5, 3) := by decide +kernel
theorem dX10_firstViolation_26 : decode cX10_firstViolation 26 = .ok (.ldc 62, 2) := by decide +kernel
theorem dX10_firstViolation_28 : decode cX10_firstViolation 28 = .ok (.ireturn, 1) := by decide +kernel
theorem dX10_violatorCount_0 : decode cX10_violatorCount 0 = .ok (.aload_n 0, 1) := by decide +kernel
theorem dX10_violatorCount_1 : decode cX10_violatorCount 1 = .ok (.getfield 10, 3) := by decide +kernel
theorem dX10_violatorCount_4 : decode cX10_violatorCount 4 = .ok (.getfield 213, 3) := by decide +kernel
theorem dX10_violatorCount_7 : decode cX10_violatorCount 7 = .ok (.getfield 217, 3) := by decide +kernel
theorem dX10_violatorCount_10 : decode cX10_violatorCount 10 = .ok (.ireturn, 1) := by decide +kernel
theorem dX10_shedCount_0 : decode cX10_shedCount 0 = .ok (.aload_n 0, 1) := by decide +kernel
theorem dX10_shedCount_1 : decode cX10_shedCount 1 = .ok (.getfield 10, 3) := by decide +kernel
theorem dX10_shedCount_4 : decode cX10_shedCount 4 = .ok (.getfield 213, 3) := by decide +kernel
theorem dX10_shedCount_7 : decode cX10_shedCount 7 = .ok (.getfield 244, 3) := by decide +kernel
theorem dX10_shedCount_10 : decode cX10_shedCount 10 = .ok (.ireturn, 1) := by decide +kernel
theorem dX10_energy_0 : decode cX10_energy 0 = .ok (.iload_n 1, 1) := by decide +kernel
theorem dX10_energy_1 : decode cX10_energy 1 = .ok (.tableswitch 60 0 2 #[27, 38, 49], 27) := by decide +kernel
theorem dX10_energy_28 : decode cX10_energy 28 = .ok (.aload_n 0, 1) := by decide +kernel
theorem dX10_energy_29 : decode cX10_energy 29 = .ok (.getfield 10, 3) := by decide +kernel
theorem dX10_energy_32 : decode cX10_energy 32 = .ok (.getfield 213, 3) := by decide +kernel
theorem dX10_energy_35 : decode cX10_energy 35 = .ok (.getfield 247, 3) := by decide +kernel
theorem dX10_energy_38 : decode cX10_energy 38 = .ok (.lreturn, 1) := by decide +kernel
theorem dX10_energy_39 : decode cX10_energy 39 = .ok (.aload_n 0, 1) := by decide +kernel
theorem dX10_energy_40 : decode cX10_energy 40 = .ok (.getfield 10, 3) := by decide +kernel
theorem dX10_energy_43 : decode cX10_energy 43 = .ok (.getfield 213, 3) := by decide +kernel
theorem dX10_energy_46 : decode cX10_energy 46 = .ok (.getfield 248, 3) := by decide +kernel
theorem dX10_energy_49 : decode cX10_energy 49 = .ok (.lreturn, 1) := by decide +kernel
theorem dX10_energy_50 : decode cX10_energy 50 = .ok (.aload_n 0, 1) := by decide +kernel
theorem dX10_energy_51 : decode cX10_energy 51 = .ok (.getfield 10, 3) := by decide +kernel
theorem dX10_energy_54 : decode cX10_energy 54 = .ok (.getfield 213, 3) := by decide +kernel
theorem dX10_energy_57 : decode cX10_energy 57 = .ok (.getfield 249, 3) := by decide +kernel
theorem dX10_energy_60 : decode cX10_energy 60 = .ok (.lreturn, 1) := by decide +kernel
theorem dX10_energy_61 : decode cX10_energy 61 = .ok (.ldc2_w 252, 3) := by decide +kernel
theorem dX10_energy_64 : decode cX10_energy 64 = .ok (.lreturn, 1) := by decide +kernel
theorem dX10_appendText_0 : decode cX10_appendText 0 = .ok (.aload_n 0, 1) := by decide +kernel
theorem dX10_appendText_1 : decode cX10_appendText 1 = .ok (.getfield 30, 3) := by decide +kernel
theorem dX10_appendText_4 : decode cX10_appendText 4 = .ok (.getfield 282, 3) := by decide +kernel
theorem dX10_appendText_7 : decode cX10_appendText 7 = .ok (.iconst 4, 1) := by decide +kernel
theorem dX10_appendText_8 : decode cX10_appendText 8 = .ok (.iadd, 1) := by decide +kernel
theorem dX10_appendText_9 : decode cX10_appendText 9 = .ok (.sipush 500, 3) := by decide +kernel
theorem dX10_appendText_12 : decode cX10_appendText 12 = .ok (.if_icmp .le 6, 3) := by decide +kernel
theorem dX10_appendText_15 : decode cX10_appendText 15 = .ok (.ldc 47, 2) := by decide +kernel
theorem dX10_appendText_17 : decode cX10_appendText 17 = .ok (.ireturn, 1) := by decide +kernel
theorem dX10_appendText_18 : decode cX10_appendText 18 = .ok (.bipush 24, 2) := by decide +kernel
theorem dX10_appendText_20 : decode cX10_appendText 20 = .ok (.istore_n 2, 1) := by decide +kernel
theorem dX10_appendText_21 : decode cX10_appendText 21 = .ok (.iload_n 2, 1) := by decide +kernel
theorem dX10_appendText_22 : decode cX10_appendText 22 = .ok (.ifCond .lt 41, 3) := by decide +kernel
theorem dX10_appendText_25 : decode cX10_appendText 25 = .ok (.aload_n 0, 1) := by decide +kernel
theorem dX10_appendText_26 : decode cX10_appendText 26 = .ok (.getfield 30, 3) := by decide +kernel
theorem dX10_appendText_29 : decode cX10_appendText 29 = .ok (.getfield 285, 3) := by decide +kernel
theorem dX10_appendText_32 : decode cX10_appendText 32 = .ok (.aload_n 0, 1) := by decide +kernel
theorem dX10_appendText_33 : decode cX10_appendText 33 = .ok (.getfield 30, 3) := by decide +kernel
theorem dX10_appendText_36 : decode cX10_appendText 36 = .ok (.getfield 282, 3) := by decide +kernel
theorem dX10_appendText_39 : decode cX10_appendText 39 = .ok (.iload_n 1, 1) := by decide +kernel
theorem dX10_appendText_40 : decode cX10_appendText 40 = .ok (.iload_n 2, 1) := by decide +kernel
theorem dX10_appendText_41 : decode cX10_appendText 41 = .ok (.ishr, 1) := by decide +kernel
theorem dX10_appendText_42 : decode cX10_appendText 42 = .ok (.i2b, 1) := by decide +kernel
theorem dX10_appendText_43 : decode cX10_appendText 43 = .ok (.bastore, 1) := by decide +kernel
theorem dX10_appendText_44 : decode cX10_appendText 44 = .ok (.aload_n 0, 1) := by decide +kernel
theorem dX10_appendText_45 : decode cX10_appendText 45 = .ok (.getfield 30, 3) := by decide +kernel
theorem dX10_appendText_48 : decode cX10_appendText 48 = .ok (.dup, 1) := by decide +kernel
theorem dX10_appendText_49 : decode cX10_appendText 49 = .ok (.getfield 282, 3) := by decide +kernel
theorem dX10_appendText_52 : decode cX10_appendText 52 = .ok (.iconst 1, 1) := by decide +kernel
theorem dX10_appendText_53 : decode cX10_appendText 53 = .ok (.iadd, 1) := by decide +kernel
theorem dX10_appendText_54 : decode cX10_appendText 54 = .ok (.putfield 282, 3) := by decide +kernel
theorem dX10_appendText_57 : decode cX10_appendText 57 = .ok (.iinc 2 (-8), 3) := by decide +kernel
theorem dX10_appendText_60 : decode cX10_appendText 60 = .ok (.goto (-39), 3) := by decide +kernel
theorem dX10_appendText_63 : decode cX10_appendText 63 = .ok (.aload_n 0, 1) := by decide +kernel
theorem dX10_appendText_64 : decode cX10_appendText 64 = .ok (.getfield 30, 3) := by decide +kernel
theorem dX10_appendText_67 : decode cX10_appendText 67 = .ok (.getfield 282, 3) := by decide +kernel
theorem dX10_appendText_70 : decode cX10_appendText 70 = .ok (.ireturn, 1) := by decide +kernel
theorem dX10_truncateText_0 : decode cX10_truncateText 0 = .ok (.iload_n 1, 1) := by decide +kernel
theorem dX10_truncateText_1 : decode cX10_truncateText 1 = .ok (.iconst 0, 1) := by decide +kernel
theorem dX10_truncateText_2 : decode cX10_truncateText 2 = .ok (.aload_n 0, 1) := by decide +kernel
theorem dX10_truncateText_3 : decode cX10_truncateText 3 = .ok (.getfield 30, 3) := by decide +kernel
theorem dX10_truncateText_6 : decode cX10_truncateText 6 = .ok (.getfield 282, 3) := by decide +kernel
theorem dX10_truncateText_9 : decode cX10_truncateText 9 = .ok (.invokestatic 35, 3) := by decide +kernel
theorem dX10_truncateText_12 : decode cX10_truncateText 12 = .ok (.ifCond .ne 6, 3) := by decide +kernel
theorem dX10_truncateText_15 : decode cX10_truncateText 15 = .ok (.ldc 42, 2) := by decide +kernel
theorem dX10_truncateText_17 : decode cX10_truncateText 17 = .ok (.ireturn, 1) := by decide +kernel
theorem dX10_truncateText_18 : decode cX10_truncateText 18 = .ok (.aload_n 0, 1) := by decide +kernel
theorem dX10_truncateText_19 : decode cX10_truncateText 19 = .ok (.getfield 30, 3) := by decide +kernel
theorem dX10_truncateText_22 : decode cX10_truncateText 22 = .ok (.iload_n 1, 1) := by decide +kernel
theorem dX10_truncateText_23 : decode cX10_truncateText 23 = .ok (.putfield 282, 3) := by decide +kernel
theorem dX10_truncateText_26 : decode cX10_truncateText 26 = .ok (.iload_n 1, 1) := by decide +kernel
theorem dX10_truncateText_27 : decode cX10_truncateText 27 = .ok (.ireturn, 1) := by decide +kernel
theorem dX10_loadRules_0 : decode cX10_loadRules 0 = .ok (.aload_n 0, 1) := by decide +kernel
theorem dX10_loadRules_1 : decode cX10_loadRules 1 = .ok (.getfield 30, 3) := by decide +kernel
theorem dX10_loadRules_4 : decode cX10_loadRules 4 = .ok (.aload_n 0, 1) := by decide +kernel
theorem dX10_loadRules_5 : decode cX10_loadRules 5 = .ok (.getfield 10, 3) := by decide +kernel
theorem dX10_loadRules_8 : decode cX10_loadRules 8 = .ok (.getfield 43, 3) := by decide +kernel
theorem dX10_loadRules_11 : decode cX10_loadRules 11 = .ok (.aload_n 0, 1) := by decide +kernel
theorem dX10_loadRules_12 : decode cX10_loadRules 12 = .ok (.getfield 10, 3) := by decide +kernel
theorem dX10_loadRules_15 : decode cX10_loadRules 15 = .ok (.getfield 100, 3) := by decide +kernel
theorem dX10_loadRules_18 : decode cX10_loadRules 18 = .ok (.aload_n 0, 1) := by decide +kernel
theorem dX10_loadRules_19 : decode cX10_loadRules 19 = .ok (.getfield 10, 3) := by decide +kernel
theorem dX10_loadRules_22 : decode cX10_loadRules 22 = .ok (.getfield 110, 3) := by decide +kernel
theorem dX10_loadRules_25 : decode cX10_loadRules 25 = .ok (.invokevirtual 289, 3) := by decide +kernel
theorem dX10_loadRules_28 : decode cX10_loadRules 28 = .ok (.istore_n 1, 1) := by decide +kernel
theorem dX10_loadRules_29 : decode cX10_loadRules 29 = .ok (.aload_n 0, 1) := by decide +kernel
theorem dX10_loadRules_30 : decode cX10_loadRules 30 = .ok (.getfield 30, 3) := by decide +kernel
theorem dX10_loadRules_33 : decode cX10_loadRules 33 = .ok (.iconst 0, 1) := by decide +kernel
theorem dX10_loadRules_34 : decode cX10_loadRules 34 = .ok (.putfield 282, 3) := by decide +kernel
theorem dX10_loadRules_37 : decode cX10_loadRules 37 = .ok (.iload_n 1, 1) := by decide +kernel
theorem dX10_loadRules_38 : decode cX10_loadRules 38 = .ok (.ifCond .ne 7, 3) := by decide +kernel
theorem dX10_loadRules_41 : decode cX10_loadRules 41 = .ok (.ldc_w 292, 3) := by decide +kernel
theorem dX10_loadRules_44 : decode cX10_loadRules 44 = .ok (.ireturn, 1) := by decide +kernel
theorem dX10_loadRules_45 : decode cX10_loadRules 45 = .ok (.aload_n 0, 1) := by decide +kernel
theorem dX10_loadRules_46 : decode cX10_loadRules 46 = .ok (.getfield 10, 3) := by decide +kernel
theorem dX10_loadRules_49 : decode cX10_loadRules 49 = .ok (.getfield 293, 3) := by decide +kernel
theorem dX10_loadRules_52 : decode cX10_loadRules 52 = .ok (.aload_n 0, 1) := by decide +kernel
theorem dX10_loadRules_53 : decode cX10_loadRules 53 = .ok (.getfield 30, 3) := by decide +kernel
theorem dX10_loadRules_56 : decode cX10_loadRules 56 = .ok (.getfield 297, 3) := by decide +kernel
theorem dX10_loadRules_59 : decode cX10_loadRules 59 = .ok (.invokevirtual 298, 3) := by decide +kernel
theorem dX10_loadRules_62 : decode cX10_loadRules 62 = .ok (.aload_n 0, 1) := by decide +kernel
theorem dX10_loadRules_63 : decode cX10_loadRules 63 = .ok (.getfield 10, 3) := by decide +kernel
theorem dX10_loadRules_66 : decode cX10_loadRules 66 = .ok (.getfield 293, 3) := by decide +kernel
theorem dX10_loadRules_69 : decode cX10_loadRules 69 = .ok (.getfield 303, 3) := by decide +kernel
theorem dX10_loadRules_72 : decode cX10_loadRules 72 = .ok (.ireturn, 1) := by decide +kernel
theorem dX10_save_0 : decode cX10_save 0 = .ok (.iload_n 1, 1) := by decide +kernel
theorem dX10_save_1 : decode cX10_save 1 = .ok (.iconst 0, 1) := by decide +kernel
theorem dX10_save_2 : decode cX10_save 2 = .ok (.iconst 1, 1) := by decide +kernel
theorem dX10_save_3 : decode cX10_save 3 = .ok (.invokestatic 35, 3) := by decide +kernel
theorem dX10_save_6 : decode cX10_save 6 = .ok (.ifCond .ne 5, 3) := by decide +kernel
theorem dX10_save_9 : decode cX10_save 9 = .ok (.iconst 0, 1) := by decide +kernel
theorem dX10_save_10 : decode cX10_save 10 = .ok (.ireturn, 1) := by decide +kernel
theorem dX10_save_11 : decode cX10_save 11 = .ok (.aload_n 0, 1) := by decide +kernel
theorem dX10_save_12 : decode cX10_save 12 = .ok (.getfield 19, 3) := by decide +kernel
theorem dX10_save_15 : decode cX10_save 15 = .ok (.iload_n 1, 1) := by decide +kernel
theorem dX10_save_16 : decode cX10_save 16 = .ok (.aaload, 1) := by decide +kernel
theorem dX10_save_17 : decode cX10_save 17 = .ok (.aload_n 0, 1) := by decide +kernel
theorem dX10_save_18 : decode cX10_save 18 = .ok (.getfield 10, 3) := by decide +kernel
theorem dX10_save_21 : decode cX10_save 21 = .ok (.invokevirtual 254, 3) := by decide +kernel
theorem dX10_save_24 : decode cX10_save 24 = .ok (.aload_n 0, 1) := by decide +kernel
theorem dX10_save_25 : decode cX10_save 25 = .ok (.getfield 23, 3) := by decide +kernel
theorem dX10_save_28 : decode cX10_save 28 = .ok (.iload_n 1, 1) := by decide +kernel
theorem dX10_save_29 : decode cX10_save 29 = .ok (.iconst 1, 1) := by decide +kernel
theorem dX10_save_30 : decode cX10_save 30 = .ok (.bastore, 1) := by decide +kernel
theorem dX10_save_31 : decode cX10_save 31 = .ok (.iconst 1, 1) := by decide +kernel
theorem dX10_save_32 : decode cX10_save 32 = .ok (.ireturn, 1) := by decide +kernel
theorem dX10_restore_0 : decode cX10_restore 0 = .ok (.iload_n 1, 1) := by decide +kernel
theorem dX10_restore_1 : decode cX10_restore 1 = .ok (.iconst 0, 1) := by decide +kernel
theorem dX10_restore_2 : decode cX10_restore 2 = .ok (.iconst 1, 1) := by decide +kernel
theorem dX10_restore_3 : decode cX10_restore 3 = .ok (.invokestatic 35, 3) := by decide +kernel
theorem dX10_restore_6 : decode cX10_restore 6 = .ok (.ifCond .eq 12, 3) := by decide +kernel
theorem dX10_restore_9 : decode cX10_restore 9 = .ok (.aload_n 0, 1) := by decide +kernel
theorem dX10_restore_10 : decode cX10_restore 10 = .ok (.getfield 23, 3) := by decide +kernel
theorem dX10_restore_13 : decode cX10_restore 13 = .ok (.iload_n 1, 1) := by decide +kernel
theorem dX10_restore_14 : decode cX10_restore 14 = .ok (.baload, 1) := by decide +kernel
theorem dX10_restore_15 : decode cX10_restore 15 = .ok (.ifCond .ne 5, 3) := by decide +kernel
theorem dX10_restore_18 : decode cX10_restore 18 = .ok (.iconst 0, 1) := by decide +kernel
theorem dX10_restore_19 : decode cX10_restore 19 = .ok (.ireturn, 1) := by decide +kernel
theorem dX10_restore_20 : decode cX10_restore 20 = .ok (.aload_n 0, 1) := by decide +kernel
theorem dX10_restore_21 : decode cX10_restore 21 = .ok (.getfield 10, 3) := by decide +kernel
theorem dX10_restore_24 : decode cX10_restore 24 = .ok (.aload_n 0, 1) := by decide +kernel
theorem dX10_restore_25 : decode cX10_restore 25 = .ok (.getfield 19, 3) := by decide +kernel
theorem dX10_restore_28 : decode cX10_restore 28 = .ok (.iload_n 1, 1) := by decide +kernel
theorem dX10_restore_29 : decode cX10_restore 29 = .ok (.aaload, 1) := by decide +kernel
theorem dX10_restore_30 : decode cX10_restore 30 = .ok (.invokevirtual 254, 3) := by decide +kernel
theorem dX10_restore_33 : decode cX10_restore 33 = .ok (.iconst 1, 1) := by decide +kernel
theorem dX10_restore_34 : decode cX10_restore 34 = .ok (.ireturn, 1) := by decide +kernel
theorem dX10_within_0 : decode cX10_within 0 = .ok (.iload_n 0, 1) := by decide +kernel
theorem dX10_within_1 : decode cX10_within 1 = .ok (.iload_n 1, 1) := by decide +kernel
theorem dX10_within_2 : decode cX10_within 2 = .ok (.if_icmp .lt 12, 3) := by decide +kernel
theorem dX10_within_5 : decode cX10_within 5 = .ok (.iload_n 0, 1) := by decide +kernel
theorem dX10_within_6 : decode cX10_within 6 = .ok (.iload_n 2, 1) := by decide +kernel
theorem dX10_within_7 : decode cX10_within 7 = .ok (.if_icmp .gt 7, 3) := by decide +kernel
theorem dX10_within_10 : decode cX10_within 10 = .ok (.iconst 1, 1) := by decide +kernel
theorem dX10_within_11 : decode cX10_within 11 = .ok (.goto 4, 3) := by decide +kernel
theorem dX10_within_14 : decode cX10_within 14 = .ok (.iconst 0, 1) := by decide +kernel
theorem dX10_within_15 : decode cX10_within 15 = .ok (.ireturn, 1) := by decide +kernel
theorem dX10_limited_0 : decode cX10_limited 0 = .ok (.lload_n 0, 1) := by decide +kernel
theorem dX10_limited_1 : decode cX10_limited 1 = .ok (.lload_n 2, 1) := by decide +kernel
theorem dX10_limited_2 : decode cX10_limited 2 = .ok (.lcmp, 1) := by decide +kernel
theorem dX10_limited_3 : decode cX10_limited 3 = .ok (.ifCond .ge 7, 3) := by decide +kernel
theorem dX10_limited_6 : decode cX10_limited 6 = .ok (.lload_n 2, 1) := by decide +kernel
theorem dX10_limited_7 : decode cX10_limited 7 = .ok (.goto 16, 3) := by decide +kernel
theorem dX10_limited_10 : decode cX10_limited 10 = .ok (.lload_n 0, 1) := by decide +kernel
theorem dX10_limited_11 : decode cX10_limited 11 = .ok (.lload 4, 2) := by decide +kernel
theorem dX10_limited_13 : decode cX10_limited 13 = .ok (.lcmp, 1) := by decide +kernel
theorem dX10_limited_14 : decode cX10_limited 14 = .ok (.ifCond .le 8, 3) := by decide +kernel
theorem dX10_limited_17 : decode cX10_limited 17 = .ok (.lload 4, 2) := by decide +kernel
theorem dX10_limited_19 : decode cX10_limited 19 = .ok (.goto 4, 3) := by decide +kernel
theorem dX10_limited_22 : decode cX10_limited 22 = .ok (.lload_n 0, 1) := by decide +kernel
theorem dX10_limited_23 : decode cX10_limited 23 = .ok (.lreturn, 1) := by decide +kernel
theorem dX10_quotient_0 : decode cX10_quotient 0 = .ok (.lload_n 2, 1) := by decide +kernel
theorem dX10_quotient_1 : decode cX10_quotient 1 = .ok (.lconst 0, 1) := by decide +kernel
theorem dX10_quotient_2 : decode cX10_quotient 2 = .ok (.lcmp, 1) := by decide +kernel
theorem dX10_quotient_3 : decode cX10_quotient 3 = .ok (.ifCond .ne 7, 3) := by decide +kernel
theorem dX10_quotient_6 : decode cX10_quotient 6 = .ok (.lconst 0, 1) := by decide +kernel
theorem dX10_quotient_7 : decode cX10_quotient 7 = .ok (.goto 6, 3) := by decide +kernel
theorem dX10_quotient_10 : decode cX10_quotient 10 = .ok (.lload_n 0, 1) := by decide +kernel
theorem dX10_quotient_11 : decode cX10_quotient 11 = .ok (.lload_n 2, 1) := by decide +kernel
theorem dX10_quotient_12 : decode cX10_quotient 12 = .ok (.ldiv, 1) := by decide +kernel
theorem dX10_quotient_13 : decode cX10_quotient 13 = .ok (.lreturn, 1) := by decide +kernel
