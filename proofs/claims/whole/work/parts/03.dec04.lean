theorem dX9_brings_29 : decode cX9_brings 29 = .ok (.getfield 114, 3) := by decide +kernel
theorem dX9_brings_32 : decode cX9_brings 32 = .ok (.iconst 2, 1) := by decide +kernel
theorem dX9_brings_33 : decode cX9_brings 33 = .ok (.dup2, 1) := by decide +kernel
theorem dX9_brings_34 : decode cX9_brings 34 = .ok (.iaload, 1) := by decide +kernel
theorem dX9_brings_35 : decode cX9_brings 35 = .ok (.iconst 1, 1) := by decide +kernel
theorem dX9_brings_36 : decode cX9_brings 36 = .ok (.iadd, 1) := by decide +kernel
theorem dX9_brings_37 : decode cX9_brings 37 = .ok (.iastore, 1) := by decide +kernel
theorem dX9_brings_38 : decode cX9_brings 38 = .ok (.return_, 1) := by decide +kernel
theorem dX9_coldOf_0 : decode cX9_coldOf 0 = .ok (.aload_n 0, 1) := by decide +kernel
theorem dX9_coldOf_1 : decode cX9_coldOf 1 = .ok (.getfield 13, 3) := by decide +kernel
theorem dX9_coldOf_4 : decode cX9_coldOf 4 = .ok (.iconst 3, 1) := by decide +kernel
theorem dX9_coldOf_5 : decode cX9_coldOf 5 = .ok (.iaload, 1) := by decide +kernel
theorem dX9_coldOf_6 : decode cX9_coldOf 6 = .ok (.ifCond .ne 7, 3) := by decide +kernel
theorem dX9_coldOf_9 : decode cX9_coldOf 9 = .ok (.iconst 1, 1) := by decide +kernel
theorem dX9_coldOf_10 : decode cX9_coldOf 10 = .ok (.goto 16, 3) := by decide +kernel
theorem dX9_coldOf_13 : decode cX9_coldOf 13 = .ok (.aload_n 0, 1) := by decide +kernel
theorem dX9_coldOf_14 : decode cX9_coldOf 14 = .ok (.getfield 44, 3) := by decide +kernel
theorem dX9_coldOf_17 : decode cX9_coldOf 17 = .ok (.iload_n 1, 1) := by decide +kernel
theorem dX9_coldOf_18 : decode cX9_coldOf 18 = .ok (.aload_n 0, 1) := by decide +kernel
theorem dX9_coldOf_19 : decode cX9_coldOf 19 = .ok (.getfield 13, 3) := by decide +kernel
theorem dX9_coldOf_22 : decode cX9_coldOf 22 = .ok (.iconst 3, 1) := by decide +kernel
theorem dX9_coldOf_23 : decode cX9_coldOf 23 = .ok (.iaload, 1) := by decide +kernel
theorem dX9_coldOf_24 : decode cX9_coldOf 24 = .ok (.irem, 1) := by decide +kernel
theorem dX9_coldOf_25 : decode cX9_coldOf 25 = .ok (.iaload, 1) := by decide +kernel
theorem dX9_coldOf_26 : decode cX9_coldOf 26 = .ok (.ireturn, 1) := by decide +kernel
theorem dX9_passes_0 : decode cX9_passes 0 = .ok (.aload_n 0, 1) := by decide +kernel
theorem dX9_passes_1 : decode cX9_passes 1 = .ok (.getfield 114, 3) := by decide +kernel
theorem dX9_passes_4 : decode cX9_passes 4 = .ok (.iconst 1, 1) := by decide +kernel
theorem dX9_passes_5 : decode cX9_passes 5 = .ok (.iaload, 1) := by decide +kernel
theorem dX9_passes_6 : decode cX9_passes 6 = .ok (.istore_n 1, 1) := by decide +kernel
theorem dX9_passes_7 : decode cX9_passes 7 = .ok (.iconst 0, 1) := by decide +kernel
theorem dX9_passes_8 : decode cX9_passes 8 = .ok (.istore_n 2, 1) := by decide +kernel
theorem dX9_passes_9 : decode cX9_passes 9 = .ok (.iload_n 2, 1) := by decide +kernel
theorem dX9_passes_10 : decode cX9_passes 10 = .ok (.aload_n 0, 1) := by decide +kernel
theorem dX9_passes_11 : decode cX9_passes 11 = .ok (.getfield 13, 3) := by decide +kernel
theorem dX9_passes_14 : decode cX9_passes 14 = .ok (.iconst 0, 1) := by decide +kernel
theorem dX9_passes_15 : decode cX9_passes 15 = .ok (.iaload, 1) := by decide +kernel
theorem dX9_passes_16 : decode cX9_passes 16 = .ok (.if_icmp .ge 52, 3) := by decide +kernel
theorem dX9_passes_19 : decode cX9_passes 19 = .ok (.aload_n 0, 1) := by decide +kernel
theorem dX9_passes_20 : decode cX9_passes 20 = .ok (.getfield 114, 3) := by decide +kernel
theorem dX9_passes_23 : decode cX9_passes 23 = .ok (.iconst 3, 1) := by decide +kernel
theorem dX9_passes_24 : decode cX9_passes 24 = .ok (.iload_n 2, 1) := by decide +kernel
theorem dX9_passes_25 : decode cX9_passes 25 = .ok (.iadd, 1) := by decide +kernel
theorem dX9_passes_26 : decode cX9_passes 26 = .ok (.iconst 0, 1) := by decide +kernel
theorem dX9_passes_27 : decode cX9_passes 27 = .ok (.aload_n 0, 1) := by decide +kernel
theorem dX9_passes_28 : decode cX9_passes 28 = .ok (.getfield 114, 3) := by decide +kernel
theorem dX9_passes_31 : decode cX9_passes 31 = .ok (.iconst 3, 1) := by decide +kernel
theorem dX9_passes_32 : decode cX9_passes 32 = .ok (.iload_n 2, 1) := by decide +kernel
theorem dX9_passes_33 : decode cX9_passes 33 = .ok (.iadd, 1) := by decide +kernel
theorem dX9_passes_34 : decode cX9_passes 34 = .ok (.iaload, 1) := by decide +kernel
theorem dX9_passes_35 : decode cX9_passes 35 = .ok (.aload_n 0, 1) := by decide +kernel
theorem dX9_passes_36 : decode cX9_passes 36 = .ok (.getfield 29, 3) := by decide +kernel
theorem dX9_passes_39 : decode cX9_passes 39 = .ok (.iload_n 2, 1) := by decide +kernel
theorem dX9_passes_40 : decode cX9_passes 40 = .ok (.iaload, 1) := by decide +kernel
theorem dX9_passes_41 : decode cX9_passes 41 = .ok (.aload_n 0, 1) := by decide +kernel
theorem dX9_passes_42 : decode cX9_passes 42 = .ok (.aload_n 0, 1) := by decide +kernel
theorem dX9_passes_43 : decode cX9_passes 43 = .ok (.getfield 114, 3) := by decide +kernel
theorem dX9_passes_46 : decode cX9_passes 46 = .ok (.iconst 0, 1) := by decide +kernel
theorem dX9_passes_47 : decode cX9_passes 47 = .ok (.iaload, 1) := by decide +kernel
theorem dX9_passes_48 : decode cX9_passes 48 = .ok (.invokevirtual 394, 3) := by decide +kernel
theorem dX9_passes_51 : decode cX9_passes 51 = .ok (.aload_n 0, 1) := by decide +kernel
theorem dX9_passes_52 : decode cX9_passes 52 = .ok (.getfield 397, 3) := by decide +kernel
theorem dX9_passes_55 : decode cX9_passes 55 = .ok (.iadd, 1) := by decide +kernel
theorem dX9_passes_56 : decode cX9_passes 56 = .ok (.imul, 1) := by decide +kernel
theorem dX9_passes_57 : decode cX9_passes 57 = .ok (.isub, 1) := by decide +kernel
theorem dX9_passes_58 : decode cX9_passes 58 = .ok (.invokestatic 400, 3) := by decide +kernel
theorem dX9_passes_61 : decode cX9_passes 61 = .ok (.iastore, 1) := by decide +kernel
theorem dX9_passes_62 : decode cX9_passes 62 = .ok (.iinc 2 1, 3) := by decide +kernel
theorem dX9_passes_65 : decode cX9_passes 65 = .ok (.goto (-56), 3) := by decide +kernel
theorem dX9_passes_68 : decode cX9_passes 68 = .ok (.iconst 0, 1) := by decide +kernel
theorem dX9_passes_69 : decode cX9_passes 69 = .ok (.istore_n 2, 1) := by decide +kernel
theorem dX9_passes_70 : decode cX9_passes 70 = .ok (.iload_n 2, 1) := by decide +kernel
theorem dX9_passes_71 : decode cX9_passes 71 = .ok (.aload_n 0, 1) := by decide +kernel
theorem dX9_passes_72 : decode cX9_passes 72 = .ok (.getfield 13, 3) := by decide +kernel
theorem dX9_passes_75 : decode cX9_passes 75 = .ok (.iconst 1, 1) := by decide +kernel
theorem dX9_passes_76 : decode cX9_passes 76 = .ok (.iaload, 1) := by decide +kernel
theorem dX9_passes_77 : decode cX9_passes 77 = .ok (.if_icmp .ge 96, 3) := by decide +kernel
theorem dX9_passes_80 : decode cX9_passes 80 = .ok (.aload_n 0, 1) := by decide +kernel
theorem dX9_passes_81 : decode cX9_passes 81 = .ok (.getfield 114, 3) := by decide +kernel
theorem dX9_passes_84 : decode cX9_passes 84 = .ok (.bipush 8, 2) := by decide +kernel
theorem dX9_passes_86 : decode cX9_passes 86 = .ok (.iload_n 2, 1) := by decide +kernel
theorem dX9_passes_87 : decode cX9_passes 87 = .ok (.iadd, 1) := by decide +kernel
theorem dX9_passes_88 : decode cX9_passes 88 = .ok (.iaload, 1) := by decide +kernel
theorem dX9_passes_89 : decode cX9_passes 89 = .ok (.ifCond .le 44, 3) := by decide +kernel
theorem dX9_passes_92 : decode cX9_passes 92 = .ok (.aload_n 0, 1) := by decide +kernel
theorem dX9_passes_93 : decode cX9_passes 93 = .ok (.getfield 35, 3) := by decide +kernel
theorem dX9_passes_96 : decode cX9_passes 96 = .ok (.iload_n 2, 1) := by decide +kernel
theorem dX9_passes_97 : decode cX9_passes 97 = .ok (.iaload, 1) := by decide +kernel
theorem dX9_passes_98 : decode cX9_passes 98 = .ok (.iconst 3, 1) := by decide +kernel
theorem dX9_passes_99 : decode cX9_passes 99 = .ok (.if_icmp .eq 34, 3) := by decide +kernel
theorem dX9_passes_102 : decode cX9_passes 102 = .ok (.aload_n 0, 1) := by decide +kernel
theorem dX9_passes_103 : decode cX9_passes 103 = .ok (.getfield 114, 3) := by decide +kernel
theorem dX9_passes_106 : decode cX9_passes 106 = .ok (.iconst 3, 1) := by decide +kernel
theorem dX9_passes_107 : decode cX9_passes 107 = .ok (.aload_n 0, 1) := by decide +kernel
theorem dX9_passes_108 : decode cX9_passes 108 = .ok (.getfield 114, 3) := by decide +kernel
theorem dX9_passes_111 : decode cX9_passes 111 = .ok (.bipush 8, 2) := by decide +kernel
theorem dX9_passes_113 : decode cX9_passes 113 = .ok (.iload_n 2, 1) := by decide +kernel
theorem dX9_passes_114 : decode cX9_passes 114 = .ok (.iadd, 1) := by decide +kernel
theorem dX9_passes_115 : decode cX9_passes 115 = .ok (.iaload, 1) := by decide +kernel
theorem dX9_passes_116 : decode cX9_passes 116 = .ok (.iadd, 1) := by decide +kernel
theorem dX9_passes_117 : decode cX9_passes 117 = .ok (.iconst 1, 1) := by decide +kernel
theorem dX9_passes_118 : decode cX9_passes 118 = .ok (.isub, 1) := by decide +kernel
theorem dX9_passes_119 : decode cX9_passes 119 = .ok (.iaload, 1) := by decide +kernel
theorem dX9_passes_120 : decode cX9_passes 120 = .ok (.ifCond .ne 13, 3) := by decide +kernel
theorem dX9_passes_123 : decode cX9_passes 123 = .ok (.aload_n 0, 1) := by decide +kernel
theorem dX9_passes_124 : decode cX9_passes 124 = .ok (.getfield 114, 3) := by decide +kernel
theorem dX9_passes_127 : decode cX9_passes 127 = .ok (.bipush 8, 2) := by decide +kernel
theorem dX9_passes_129 : decode cX9_passes 129 = .ok (.iload_n 2, 1) := by decide +kernel
theorem dX9_passes_130 : decode cX9_passes 130 = .ok (.iadd, 1) := by decide +kernel
theorem dX9_passes_131 : decode cX9_passes 131 = .ok (.iconst 0, 1) := by decide +kernel
theorem dX9_passes_132 : decode cX9_passes 132 = .ok (.iastore, 1) := by decide +kernel
theorem dX9_passes_133 : decode cX9_passes 133 = .ok (.aload_n 0, 1) := by decide +kernel
theorem dX9_passes_134 : decode cX9_passes 134 = .ok (.getfield 114, 3) := by decide +kernel
theorem dX9_passes_137 : decode cX9_passes 137 = .ok (.bipush 8, 2) := by decide +kernel
theorem dX9_passes_139 : decode cX9_passes 139 = .ok (.iload_n 2, 1) := by decide +kernel
theorem dX9_passes_140 : decode cX9_passes 140 = .ok (.iadd, 1) := by decide +kernel
theorem dX9_passes_141 : decode cX9_passes 141 = .ok (.iaload, 1) := by decide +kernel
theorem dX9_passes_142 : decode cX9_passes 142 = .ok (.ifCond .ne 25, 3) := by decide +kernel
theorem dX9_passes_145 : decode cX9_passes 145 = .ok (.aload_n 0, 1) := by decide +kernel
theorem dX9_passes_146 : decode cX9_passes 146 = .ok (.getfield 35, 3) := by decide +kernel
theorem dX9_passes_149 : decode cX9_passes 149 = .ok (.iload_n 2, 1) := by decide +kernel
theorem dX9_passes_150 : decode cX9_passes 150 = .ok (.iaload, 1) := by decide +kernel
theorem dX9_passes_151 : decode cX9_passes 151 = .ok (.iconst 1, 1) := by decide +kernel
theorem dX9_passes_152 : decode cX9_passes 152 = .ok (.if_icmp .ne 15, 3) := by decide +kernel
theorem dX9_passes_155 : decode cX9_passes 155 = .ok (.aload_n 0, 1) := by decide +kernel
theorem dX9_passes_156 : decode cX9_passes 156 = .ok (.getfield 114, 3) := by decide +kernel
theorem dX9_passes_159 : decode cX9_passes 159 = .ok (.iconst 1, 1) := by decide +kernel
theorem dX9_passes_160 : decode cX9_passes 160 = .ok (.dup2, 1) := by decide +kernel
theorem dX9_passes_161 : decode cX9_passes 161 = .ok (.iaload, 1) := by decide +kernel
theorem dX9_passes_162 : decode cX9_passes 162 = .ok (.iconst 1, 1) := by decide +kernel
theorem dX9_passes_163 : decode cX9_passes 163 = .ok (.iload_n 2, 1) := by decide +kernel
theorem dX9_passes_164 : decode cX9_passes 164 = .ok (.ishl, 1) := by decide +kernel
theorem dX9_passes_165 : decode cX9_passes 165 = .ok (.ior, 1) := by decide +kernel
theorem dX9_passes_166 : decode cX9_passes 166 = .ok (.iastore, 1) := by decide +kernel
theorem dX9_passes_167 : decode cX9_passes 167 = .ok (.iinc 2 1, 3) := by decide +kernel
theorem dX9_passes_170 : decode cX9_passes 170 = .ok (.goto (-100), 3) := by decide +kernel
theorem dX9_passes_173 : decode cX9_passes 173 = .ok (.aload_n 0, 1) := by decide +kernel
theorem dX9_passes_174 : decode cX9_passes 174 = .ok (.getfield 114, 3) := by decide +kernel
theorem dX9_passes_177 : decode cX9_passes 177 = .ok (.iconst 0, 1) := by decide +kernel
theorem dX9_passes_178 : decode cX9_passes 178 = .ok (.dup2, 1) := by decide +kernel
theorem dX9_passes_179 : decode cX9_passes 179 = .ok (.iaload, 1) := by decide +kernel
theorem dX9_passes_180 : decode cX9_passes 180 = .ok (.iconst 1, 1) := by decide +kernel
theorem dX9_passes_181 : decode cX9_passes 181 = .ok (.iadd, 1) := by decide +kernel
theorem dX9_passes_182 : decode cX9_passes 182 = .ok (.iastore, 1) := by decide +kernel
theorem dX9_passes_183 : decode cX9_passes 183 = .ok (.aload_n 0, 1) := by decide +kernel
theorem dX9_passes_184 : decode cX9_passes 184 = .ok (.getfield 114, 3) := by decide +kernel
theorem dX9_passes_187 : decode cX9_passes 187 = .ok (.iconst 1, 1) := by decide +kernel
theorem dX9_passes_188 : decode cX9_passes 188 = .ok (.iaload, 1) := by decide +kernel
theorem dX9_passes_189 : decode cX9_passes 189 = .ok (.iload_n 1, 1) := by decide +kernel
theorem dX9_passes_190 : decode cX9_passes 190 = .ok (.iconst (-1), 1) := by decide +kernel
theorem dX9_passes_191 : decode cX9_passes 191 = .ok (.ixor, 1) := by decide +kernel
theorem dX9_passes_192 : decode cX9_passes 192 = .ok (.iand, 1) := by decide +kernel
theorem dX9_passes_193 : decode cX9_passes 193 = .ok (.ireturn, 1) := by decide +kernel
theorem dX9_hole_0 : decode cX9_hole 0 = .ok (.aload_n 0, 1) := by decide +kernel
theorem dX9_hole_1 : decode cX9_hole 1 = .ok (.iconst 0, 1) := by decide +kernel
theorem dX9_hole_2 : decode cX9_hole 2 = .ok (.putfield 142, 3) := by decide +kernel
theorem dX9_hole_5 : decode cX9_hole 5 = .ok (.aload_n 0, 1) := by decide +kernel
theorem dX9_hole_6 : decode cX9_hole 6 = .ok (.iload_n 1, 1) := by decide +kernel
theorem dX9_hole_7 : decode cX9_hole 7 = .ok (.invokevirtual 403, 3) := by decide +kernel
theorem dX9_hole_10 : decode cX9_hole 10 = .ok (.ifCond .eq 12, 3) := by decide +kernel
theorem dX9_hole_13 : decode cX9_hole 13 = .ok (.iload_n 2, 1) := by decide +kernel
theorem dX9_hole_14 : decode cX9_hole 14 = .ok (.iconst 0, 1) := by decide +kernel
theorem dX9_hole_15 : decode cX9_hole 15 = .ok (.iconst 5, 1) := by decide +kernel
theorem dX9_hole_16 : decode cX9_hole 16 = .ok (.invokestatic 266, 3) := by decide +kernel
theorem dX9_hole_19 : decode cX9_hole 19 = .ok (.ifCond .ne 5, 3) := by decide +kernel
theorem dX9_hole_22 : decode cX9_hole 22 = .ok (.iconst (-1), 1) := by decide +kernel
theorem dX9_hole_23 : decode cX9_hole 23 = .ok (.ireturn, 1) := by decide +kernel
theorem dX9_hole_24 : decode cX9_hole 24 = .ok (.iload_n 2, 1) := by decide +kernel
theorem dX9_hole_25 : decode cX9_hole 25 = .ok (.iconst 3, 1) := by decide +kernel
theorem dX9_hole_26 : decode cX9_hole 26 = .ok (.if_icmp .ge 39, 3) := by decide +kernel
theorem dX9_hole_29 : decode cX9_hole 29 = .ok (.iload_n 2, 1) := by decide +kernel
theorem dX9_hole_30 : decode cX9_hole 30 = .ok (.ifCond .ne 12, 3) := by decide +kernel
theorem dX9_hole_33 : decode cX9_hole 33 = .ok (.aload_n 0, 1) := by decide +kernel
theorem dX9_hole_34 : decode cX9_hole 34 = .ok (.getfield 23, 3) := by decide +kernel
theorem dX9_hole_37 : decode cX9_hole 37 = .ok (.iload_n 1, 1) := by decide +kernel
theorem dX9_hole_38 : decode cX9_hole 38 = .ok (.iaload, 1) := by decide +kernel
theorem dX9_hole_39 : decode cX9_hole 39 = .ok (.goto 25, 3) := by decide +kernel
theorem dX9_hole_42 : decode cX9_hole 42 = .ok (.iload_n 2, 1) := by decide +kernel
theorem dX9_hole_43 : decode cX9_hole 43 = .ok (.iconst 1, 1) := by decide +kernel
theorem dX9_hole_44 : decode cX9_hole 44 = .ok (.if_icmp .ne 14, 3) := by decide +kernel
theorem dX9_hole_47 : decode cX9_hole 47 = .ok (.aload_n 0, 1) := by decide +kernel
theorem dX9_hole_48 : decode cX9_hole 48 = .ok (.getfield 114, 3) := by decide +kernel
theorem dX9_hole_51 : decode cX9_hole 51 = .ok (.iconst 3, 1) := by decide +kernel
theorem dX9_hole_52 : decode cX9_hole 52 = .ok (.iload_n 1, 1) := by decide +kernel
theorem dX9_hole_53 : decode cX9_hole 53 = .ok (.iadd, 1) := by decide +kernel
theorem dX9_hole_54 : decode cX9_hole 54 = .ok (.iaload, 1) := by decide +kernel
theorem dX9_hole_55 : decode cX9_hole 55 = .ok (.goto 9, 3) := by decide +kernel
theorem dX9_hole_58 : decode cX9_hole 58 = .ok (.aload_n 0, 1) := by decide +kernel
theorem dX9_hole_59 : decode cX9_hole 59 = .ok (.getfield 29, 3) := by decide +kernel
theorem dX9_hole_62 : decode cX9_hole 62 = .ok (.iload_n 1, 1) := by decide +kernel
theorem dX9_hole_63 : decode cX9_hole 63 = .ok (.iaload, 1) := by decide +kernel
theorem dX9_hole_64 : decode cX9_hole 64 = .ok (.ireturn, 1) := by decide +kernel
theorem dX9_hole_65 : decode cX9_hole 65 = .ok (.aload_n 0, 1) := by decide +kernel
theorem dX9_hole_66 : decode cX9_hole 66 = .ok (.iload_n 1, 1) := by decide +kernel
theorem dX9_hole_67 : decode cX9_hole 67 = .ok (.invokevirtual 373, 3) := by decide +kernel
theorem dX9_hole_70 : decode cX9_hole 70 = .ok (.istore_n 3, 1) := by decide +kernel
theorem dX9_hole_71 : decode cX9_hole 71 = .ok (.iload_n 2, 1) := by decide +kernel
theorem dX9_hole_72 : decode cX9_hole 72 = .ok (.iconst 5, 1) := by decide +kernel
theorem dX9_hole_73 : decode cX9_hole 73 = .ok (.if_icmp .ge 19, 3) := by decide +kernel
theorem dX9_hole_76 : decode cX9_hole 76 = .ok (.iload_n 2, 1) := by decide +kernel
theorem dX9_hole_77 : decode cX9_hole 77 = .ok (.iconst 3, 1) := by decide +kernel
theorem dX9_hole_78 : decode cX9_hole 78 = .ok (.if_icmp .ne 7, 3) := by decide +kernel
theorem dX9_hole_81 : decode cX9_hole 81 = .ok (.iload_n 3, 1) := by decide +kernel
theorem dX9_hole_82 : decode cX9_hole 82 = .ok (.goto 9, 3) := by decide +kernel
theorem dX9_hole_85 : decode cX9_hole 85 = .ok (.aload_n 0, 1) := by decide +kernel
theorem dX9_hole_86 : decode cX9_hole 86 = .ok (.getfield 32, 3) := by decide +kernel
theorem dX9_hole_89 : decode cX9_hole 89 = .ok (.iload_n 1, 1) := by decide +kernel
theorem dX9_hole_90 : decode cX9_hole 90 = .ok (.iaload, 1) := by decide +kernel
theorem dX9_hole_91 : decode cX9_hole 91 = .ok (.ireturn, 1) := by decide +kernel
theorem dX9_hole_92 : decode cX9_hole 92 = .ok (.iconst 0, 1) := by decide +kernel
theorem dX9_hole_93 : decode cX9_hole 93 = .ok (.istore 4, 2) := by decide +kernel
theorem dX9_hole_95 : decode cX9_hole 95 = .ok (.iconst 0, 1) := by decide +kernel
theorem dX9_hole_96 : decode cX9_hole 96 = .ok (.istore 5, 2) := by decide +kernel
theorem dX9_hole_98 : decode cX9_hole 98 = .ok (.iload 5, 2) := by decide +kernel
theorem dX9_hole_100 : decode cX9_hole 100 = .ok (.aload_n 0, 1) := by decide +kernel
theorem dX9_hole_101 : decode cX9_hole 101 = .ok (.getfield 13, 3) := by decide +kernel
theorem dX9_hole_104 : decode cX9_hole 104 = .ok (.iconst 1, 1) := by decide +kernel
theorem dX9_hole_105 : decode cX9_hole 105 = .ok (.iaload, 1) := by decide +kernel
theorem dX9_hole_106 : decode cX9_hole 106 = .ok (.if_icmp .ge 41, 3) := by decide +kernel
theorem dX9_hole_109 : decode cX9_hole 109 = .ok (.iload 4, 2) := by decide +kernel
theorem dX9_hole_111 : decode cX9_hole 111 = .ok (.iload_n 3, 1) := by decide +kernel
theorem dX9_hole_112 : decode cX9_hole 112 = .ok (.iload 5, 2) := by decide +kernel
theorem dX9_hole_114 : decode cX9_hole 114 = .ok (.ishr, 1) := by decide +kernel
theorem dX9_hole_115 : decode cX9_hole 115 = .ok (.iconst 1, 1) := by decide +kernel
theorem dX9_hole_116 : decode cX9_hole 116 = .ok (.iand, 1) := by decide +kernel
theorem dX9_hole_117 : decode cX9_hole 117 = .ok (.ifCond .ne 20, 3) := by decide +kernel
theorem dX9_hole_120 : decode cX9_hole 120 = .ok (.aload_n 0, 1) := by decide +kernel
theorem dX9_hole_121 : decode cX9_hole 121 = .ok (.iload_n 1, 1) := by decide +kernel
theorem dX9_hole_122 : decode cX9_hole 122 = .ok (.iload 5, 2) := by decide +kernel
theorem dX9_hole_124 : decode cX9_hole 124 = .ok (.invokevirtual 386, 3) := by decide +kernel
theorem dX9_hole_127 : decode cX9_hole 127 = .ok (.ifCond .eq 10, 3) := by decide +kernel
theorem dX9_hole_130 : decode cX9_hole 130 = .ok (.iconst 1, 1) := by decide +kernel
theorem dX9_hole_131 : decode cX9_hole 131 = .ok (.iload 5, 2) := by decide +kernel
theorem dX9_hole_133 : decode cX9_hole 133 = .ok (.ishl, 1) := by decide +kernel
theorem dX9_hole_134 : decode cX9_hole 134 = .ok (.goto 4, 3) := by decide +kernel
theorem dX9_hole_137 : decode cX9_hole 137 = .ok (.iconst 0, 1) := by decide +kernel
theorem dX9_hole_138 : decode cX9_hole 138 = .ok (.ior, 1) := by decide +kernel
theorem dX9_hole_139 : decode cX9_hole 139 = .ok (.istore 4, 2) := by decide +kernel
theorem dX9_hole_141 : decode cX9_hole 141 = .ok (.iinc 5 1, 3) := by decide +kernel
theorem dX9_hole_144 : decode cX9_hole 144 = .ok (.goto (-46), 3) := by decide +kernel
theorem dX9_hole_147 : decode cX9_hole 147 = .ok (.iload 4, 2) := by decide +kernel
theorem dX9_hole_149 : decode cX9_hole 149 = .ok (.ireturn, 1) := by decide +kernel
theorem dX9_foesOf_0 : decode cX9_foesOf 0 = .ok (.aload_n 0, 1) := by decide +kernel
theorem dX9_foesOf_1 : decode cX9_foesOf 1 = .ok (.iload_n 1, 1) := by decide +kernel
theorem dX9_foesOf_2 : decode cX9_foesOf 2 = .ok (.invokevirtual 364, 3) := by decide +kernel
theorem dX9_foesOf_5 : decode cX9_foesOf 5 = .ok (.ifCond .eq 5, 3) := by decide +kernel
theorem dX9_foesOf_8 : decode cX9_foesOf 8 = .ok (.iconst 0, 1) := by decide +kernel
theorem dX9_foesOf_9 : decode cX9_foesOf 9 = .ok (.ireturn, 1) := by decide +kernel
theorem dX9_foesOf_10 : decode cX9_foesOf 10 = .ok (.aload_n 0, 1) := by decide +kernel
theorem dX9_foesOf_11 : decode cX9_foesOf 11 = .ok (.iload_n 1, 1) := by decide +kernel
theorem dX9_foesOf_12 : decode cX9_foesOf 12 = .ok (.aload_n 0, 1) := by decide +kernel
theorem dX9_foesOf_13 : decode cX9_foesOf 13 = .ok (.getfield 114, 3) := by decide +kernel
theorem dX9_foesOf_16 : decode cX9_foesOf 16 = .ok (.bipush 8, 2) := by decide +kernel
theorem dX9_foesOf_18 : decode cX9_foesOf 18 = .ok (.iload_n 1, 1) := by decide +kernel
theorem dX9_foesOf_19 : decode cX9_foesOf 19 = .ok (.iadd, 1) := by decide +kernel
theorem dX9_foesOf_20 : decode cX9_foesOf 20 = .ok (.iaload, 1) := by decide +kernel
theorem dX9_foesOf_21 : decode cX9_foesOf 21 = .ok (.ifCond .ne 10, 3) := by decide +kernel
theorem dX9_foesOf_24 : decode cX9_foesOf 24 = .ok (.aload_n 0, 1) := by decide +kernel
theorem dX9_foesOf_25 : decode cX9_foesOf 25 = .ok (.invokevirtual 406, 3) := by decide +kernel
theorem dX9_foesOf_28 : decode cX9_foesOf 28 = .ok (.goto 18, 3) := by decide +kernel
theorem dX9_foesOf_31 : decode cX9_foesOf 31 = .ok (.aload_n 0, 1) := by decide +kernel
theorem dX9_foesOf_32 : decode cX9_foesOf 32 = .ok (.aload_n 0, 1) := by decide +kernel
theorem dX9_foesOf_33 : decode cX9_foesOf 33 = .ok (.getfield 114, 3) := by decide +kernel
theorem dX9_foesOf_36 : decode cX9_foesOf 36 = .ok (.bipush 8, 2) := by decide +kernel
theorem dX9_foesOf_38 : decode cX9_foesOf 38 = .ok (.iload_n 1, 1) := by decide +kernel
theorem dX9_foesOf_39 : decode cX9_foesOf 39 = .ok (.iadd, 1) := by decide +kernel
theorem dX9_foesOf_40 : decode cX9_foesOf 40 = .ok (.iaload, 1) := by decide +kernel
theorem dX9_foesOf_41 : decode cX9_foesOf 41 = .ok (.iconst 1, 1) := by decide +kernel
theorem dX9_foesOf_42 : decode cX9_foesOf 42 = .ok (.isub, 1) := by decide +kernel
theorem dX9_foesOf_43 : decode cX9_foesOf 43 = .ok (.invokevirtual 373, 3) := by decide +kernel
theorem dX9_foesOf_46 : decode cX9_foesOf 46 = .ok (.iconst 1, 1) := by decide +kernel
theorem dX9_foesOf_47 : decode cX9_foesOf 47 = .ok (.iload_n 1, 1) := by decide +kernel
theorem dX9_foesOf_48 : decode cX9_foesOf 48 = .ok (.ishl, 1) := by decide +kernel
theorem dX9_foesOf_49 : decode cX9_foesOf 49 = .ok (.iconst (-1), 1) := by decide +kernel
theorem dX9_foesOf_50 : decode cX9_foesOf 50 = .ok (.ixor, 1) := by decide +kernel
theorem dX9_foesOf_51 : decode cX9_foesOf 51 = .ok (.iand, 1) := by decide +kernel
theorem dX9_foesOf_52 : decode cX9_foesOf 52 = .ok (.invokevirtual 376, 3) := by decide +kernel
theorem dX9_foesOf_55 : decode cX9_foesOf 55 = .ok (.ireturn, 1) := by decide +kernel
theorem dX9_guest_0 : decode cX9_guest 0 = .ok (.aload_n 0, 1) := by decide +kernel
theorem dX9_guest_1 : decode cX9_guest 1 = .ok (.iconst 0, 1) := by decide +kernel
theorem dX9_guest_2 : decode cX9_guest 2 = .ok (.putfield 142, 3) := by decide +kernel
theorem dX9_guest_5 : decode cX9_guest 5 = .ok (.aload_n 0, 1) := by decide +kernel
theorem dX9_guest_6 : decode cX9_guest 6 = .ok (.iload_n 1, 1) := by decide +kernel
theorem dX9_guest_7 : decode cX9_guest 7 = .ok (.invokevirtual 409, 3) := by decide +kernel
theorem dX9_guest_10 : decode cX9_guest 10 = .ok (.ifCond .eq 12, 3) := by decide +kernel
theorem dX9_guest_13 : decode cX9_guest 13 = .ok (.iload_n 2, 1) := by decide +kernel
theorem dX9_guest_14 : decode cX9_guest 14 = .ok (.iconst 0, 1) := by decide +kernel
theorem dX9_guest_15 : decode cX9_guest 15 = .ok (.iconst 4, 1) := by decide +kernel
theorem dX9_guest_16 : decode cX9_guest 16 = .ok (.invokestatic 266, 3) := by decide +kernel
theorem dX9_guest_19 : decode cX9_guest 19 = .ok (.ifCond .ne 6, 3) := by decide +kernel
theorem dX9_guest_22 : decode cX9_guest 22 = .ok (.bipush (-2), 2) := by decide +kernel
theorem dX9_guest_24 : decode cX9_guest 24 = .ok (.ireturn, 1) := by decide +kernel
theorem dX9_guest_25 : decode cX9_guest 25 = .ok (.iload_n 2, 1) := by decide +kernel
theorem dX9_guest_26 : decode cX9_guest 26 = .ok (.iconst 3, 1) := by decide +kernel
theorem dX9_guest_27 : decode cX9_guest 27 = .ok (.if_icmp .ge 42, 3) := by decide +kernel
theorem dX9_guest_30 : decode cX9_guest 30 = .ok (.iload_n 2, 1) := by decide +kernel
theorem dX9_guest_31 : decode cX9_guest 31 = .ok (.ifCond .ne 12, 3) := by decide +kernel
theorem dX9_guest_34 : decode cX9_guest 34 = .ok (.aload_n 0, 1) := by decide +kernel
theorem dX9_guest_35 : decode cX9_guest 35 = .ok (.getfield 35, 3) := by decide +kernel
theorem dX9_guest_38 : decode cX9_guest 38 = .ok (.iload_n 1, 1) := by decide +kernel
theorem dX9_guest_39 : decode cX9_guest 39 = .ok (.iaload, 1) := by decide +kernel
theorem dX9_guest_40 : decode cX9_guest 40 = .ok (.goto 28, 3) := by decide +kernel
theorem dX9_guest_43 : decode cX9_guest 43 = .ok (.iload_n 2, 1) := by decide +kernel
theorem dX9_guest_44 : decode cX9_guest 44 = .ok (.iconst 1, 1) := by decide +kernel
theorem dX9_guest_45 : decode cX9_guest 45 = .ok (.if_icmp .ne 12, 3) := by decide +kernel
theorem dX9_guest_48 : decode cX9_guest 48 = .ok (.aload_n 0, 1) := by decide +kernel
theorem dX9_guest_49 : decode cX9_guest 49 = .ok (.getfield 38, 3) := by decide +kernel
theorem dX9_guest_52 : decode cX9_guest 52 = .ok (.iload_n 1, 1) := by decide +kernel
theorem dX9_guest_53 : decode cX9_guest 53 = .ok (.iaload, 1) := by decide +kernel
theorem dX9_guest_54 : decode cX9_guest 54 = .ok (.goto 14, 3) := by decide +kernel
theorem dX9_guest_57 : decode cX9_guest 57 = .ok (.aload_n 0, 1) := by decide +kernel
theorem dX9_guest_58 : decode cX9_guest 58 = .ok (.getfield 114, 3) := by decide +kernel
theorem dX9_guest_61 : decode cX9_guest 61 = .ok (.bipush 8, 2) := by decide +kernel
theorem dX9_guest_63 : decode cX9_guest 63 = .ok (.iload_n 1, 1) := by decide +kernel
theorem dX9_guest_64 : decode cX9_guest 64 = .ok (.iadd, 1) := by decide +kernel
theorem dX9_guest_65 : decode cX9_guest 65 = .ok (.iaload, 1) := by decide +kernel
theorem dX9_guest_66 : decode cX9_guest 66 = .ok (.iconst 1, 1) := by decide +kernel
theorem dX9_guest_67 : decode cX9_guest 67 = .ok (.isub, 1) := by decide +kernel
theorem dX9_guest_68 : decode cX9_guest 68 = .ok (.ireturn, 1) := by decide +kernel
theorem dX9_guest_69 : decode cX9_guest 69 = .ok (.iload_n 2, 1) := by decide +kernel
theorem dX9_guest_70 : decode cX9_guest 70 = .ok (.iconst 3, 1) := by decide +kernel
theorem dX9_guest_71 : decode cX9_guest 71 = .ok (.if_icmp .ne 19, 3) := by decide +kernel
theorem dX9_guest_74 : decode cX9_guest 74 = .ok (.aload_n 0, 1) := by decide +kernel
theorem dX9_guest_75 : decode cX9_guest 75 = .ok (.iload_n 1, 1) := by decide +kernel
theorem dX9_guest_76 : decode cX9_guest 76 = .ok (.invokevirtual 364, 3) := by decide +kernel
theorem dX9_guest_79 : decode cX9_guest 79 = .ok (.ifCond .eq 7, 3) := by decide +kernel
theorem dX9_guest_82 : decode cX9_guest 82 = .ok (.iconst 1, 1) := by decide +kernel
theorem dX9_guest_83 : decode cX9_guest 83 = .ok (.goto 12, 3) := by decide +kernel
theorem dX9_guest_86 : decode cX9_guest 86 = .ok (.iconst 0, 1) := by decide +kernel
theorem dX9_guest_87 : decode cX9_guest 87 = .ok (.goto 8, 3) := by decide +kernel
theorem dX9_guest_90 : decode cX9_guest 90 = .ok (.aload_n 0, 1) := by decide +kernel
theorem dX9_guest_91 : decode cX9_guest 91 = .ok (.iload_n 1, 1) := by decide +kernel
theorem dX9_guest_92 : decode cX9_guest 92 = .ok (.invokevirtual 412, 3) := by decide +kernel
theorem dX9_guest_95 : decode cX9_guest 95 = .ok (.ireturn, 1) := by decide +kernel
theorem dX9_keeps_0 : decode cX9_keeps 0 = .ok (.aload_n 0, 1) := by decide +kernel
theorem dX9_keeps_1 : decode cX9_keeps 1 = .ok (.getfield 354, 3) := by decide +kernel
theorem dX9_keeps_4 : decode cX9_keeps 4 = .ok (.bipush 16, 2) := by decide +kernel
theorem dX9_keeps_6 : decode cX9_keeps 6 = .ok (.if_icmp .ne 43, 3) := by decide +kernel
theorem dX9_keeps_9 : decode cX9_keeps 9 = .ok (.iconst 0, 1) := by decide +kernel
theorem dX9_keeps_10 : decode cX9_keeps 10 = .ok (.istore_n 1, 1) := by decide +kernel
theorem dX9_keeps_11 : decode cX9_keeps 11 = .ok (.iload_n 1, 1) := by decide +kernel
theorem dX9_keeps_12 : decode cX9_keeps 12 = .ok (.sipush 195, 3) := by decide +kernel
theorem dX9_keeps_15 : decode cX9_keeps 15 = .ok (.if_icmp .ge 24, 3) := by decide +kernel
theorem dX9_keeps_18 : decode cX9_keeps 18 = .ok (.aload_n 0, 1) := by decide +kernel
theorem dX9_keeps_19 : decode cX9_keeps 19 = .ok (.getfield 126, 3) := by decide +kernel
theorem dX9_keeps_22 : decode cX9_keeps 22 = .ok (.iload_n 1, 1) := by decide +kernel
theorem dX9_keeps_23 : decode cX9_keeps 23 = .ok (.aload_n 0, 1) := by decide +kernel
theorem dX9_keeps_24 : decode cX9_keeps 24 = .ok (.getfield 126, 3) := by decide +kernel
theorem dX9_keeps_27 : decode cX9_keeps 27 = .ok (.iload_n 1, 1) := by decide +kernel
theorem dX9_keeps_28 : decode cX9_keeps 28 = .ok (.bipush 13, 2) := by decide +kernel
theorem dX9_keeps_30 : decode cX9_keeps 30 = .ok (.iadd, 1) := by decide +kernel
theorem dX9_keeps_31 : decode cX9_keeps 31 = .ok (.iaload, 1) := by decide +kernel
theorem dX9_keeps_32 : decode cX9_keeps 32 = .ok (.iastore, 1) := by decide +kernel
theorem dX9_keeps_33 : decode cX9_keeps 33 = .ok (.iinc 1 1, 3) := by decide +kernel
theorem dX9_keeps_36 : decode cX9_keeps 36 = .ok (.goto (-25), 3) := by decide +kernel
theorem dX9_keeps_39 : decode cX9_keeps 39 = .ok (.aload_n 0, 1) := by decide +kernel
theorem dX9_keeps_40 : decode cX9_keeps 40 = .ok (.dup, 1) := by decide +kernel
theorem dX9_keeps_41 : decode cX9_keeps 41 = .ok (.getfield 354, 3) := by decide +kernel
theorem dX9_keeps_44 : decode cX9_keeps 44 = .ok (.iconst 1, 1) := by decide +kernel
theorem dX9_keeps_45 : decode cX9_keeps 45 = .ok (.isub, 1) := by decide +kernel
theorem dX9_keeps_46 : decode cX9_keeps 46 = .ok (.putfield 354, 3) := by decide +kernel
theorem dX9_keeps_49 : decode cX9_keeps 49 = .ok (.aload_n 0, 1) := by decide +kernel
theorem dX9_keeps_50 : decode cX9_keeps 50 = .ok (.getfield 114, 3) := by decide +kernel
theorem dX9_keeps_53 : decode cX9_keeps 53 = .ok (.iconst 0, 1) := by decide +kernel
theorem dX9_keeps_54 : decode cX9_keeps 54 = .ok (.aload_n 0, 1) := by decide +kernel
theorem dX9_keeps_55 : decode cX9_keeps 55 = .ok (.getfield 126, 3) := by decide +kernel
theorem dX9_keeps_58 : decode cX9_keeps 58 = .ok (.bipush 13, 2) := by decide +kernel
theorem dX9_keeps_60 : decode cX9_keeps 60 = .ok (.aload_n 0, 1) := by decide +kernel
theorem dX9_keeps_61 : decode cX9_keeps 61 = .ok (.getfield 354, 3) := by decide +kernel
theorem dX9_keeps_64 : decode cX9_keeps 64 = .ok (.imul, 1) := by decide +kernel
theorem dX9_keeps_65 : decode cX9_keeps 65 = .ok (.invokestatic 415, 3) := by decide +kernel
theorem dX9_keeps_68 : decode cX9_keeps 68 = .ok (.aload_n 0, 1) := by decide +kernel
theorem dX9_keeps_69 : decode cX9_keeps 69 = .ok (.dup, 1) := by decide +kernel
theorem dX9_keeps_70 : decode cX9_keeps 70 = .ok (.getfield 354, 3) := by decide +kernel
theorem dX9_keeps_73 : decode cX9_keeps 73 = .ok (.iconst 1, 1) := by decide +kernel
theorem dX9_keeps_74 : decode cX9_keeps 74 = .ok (.iadd, 1) := by decide +kernel
theorem dX9_keeps_75 : decode cX9_keeps 75 = .ok (.putfield 354, 3) := by decide +kernel
theorem dX9_keeps_78 : decode cX9_keeps 78 = .ok (.return_, 1) := by decide +kernel
theorem dX9_down_0 : decode cX9_down 0 = .ok (.aload_n 0, 1) := by decide +kernel
theorem dX9_down_1 : decode cX9_down 1 = .ok (.iconst 0, 1) := by decide +kernel
theorem dX9_down_2 : decode cX9_down 2 = .ok (.putfield 142, 3) := by decide +kernel
theorem dX9_down_5 : decode cX9_down 5 = .ok (.aload_n 0, 1) := by decide +kernel
theorem dX9_down_6 : decode cX9_down 6 = .ok (.iload_n 1, 1) := by decide +kernel
theorem dX9_down_7 : decode cX9_down 7 = .ok (.invokevirtual 409, 3) := by decide +kernel
theorem dX9_down_10 : decode cX9_down 10 = .ok (.ifCond .eq 20, 3) := by decide +kernel
theorem dX9_down_13 : decode cX9_down 13 = .ok (.aload_n 0, 1) := by decide +kernel
theorem dX9_down_14 : decode cX9_down 14 = .ok (.iload_n 2, 1) := by decide +kernel
theorem dX9_down_15 : decode cX9_down 15 = .ok (.invokevirtual 403, 3) := by decide +kernel
theorem dX9_down_18 : decode cX9_down 18 = .ok (.ifCond .eq 12, 3) := by decide +kernel
theorem dX9_down_21 : decode cX9_down 21 = .ok (.aload_n 0, 1) := by decide +kernel
theorem dX9_down_22 : decode cX9_down 22 = .ok (.iload_n 1, 1) := by decide +kernel
theorem dX9_down_23 : decode cX9_down 23 = .ok (.iload_n 2, 1) := by decide +kernel
theorem dX9_down_24 : decode cX9_down 24 = .ok (.invokevirtual 419, 3) := by decide +kernel
theorem dX9_down_27 : decode cX9_down 27 = .ok (.ifCond .ne 5, 3) := by decide +kernel
theorem dX9_down_30 : decode cX9_down 30 = .ok (.iconst 0, 1) := by decide +kernel
theorem dX9_down_31 : decode cX9_down 31 = .ok (.ireturn, 1) := by decide +kernel
theorem dX9_down_32 : decode cX9_down 32 = .ok (.aload_n 0, 1) := by decide +kernel
theorem dX9_down_33 : decode cX9_down 33 = .ok (.invokevirtual 422, 3) := by decide +kernel
theorem dX9_down_36 : decode cX9_down 36 = .ok (.aload_n 0, 1) := by decide +kernel
theorem dX9_down_37 : decode cX9_down 37 = .ok (.getfield 114, 3) := by decide +kernel
theorem dX9_down_40 : decode cX9_down 40 = .ok (.bipush 8, 2) := by decide +kernel
theorem dX9_down_42 : decode cX9_down 42 = .ok (.iload_n 1, 1) := by decide +kernel
theorem dX9_down_43 : decode cX9_down 43 = .ok (.iadd, 1) := by decide +kernel
theorem dX9_down_44 : decode cX9_down 44 = .ok (.iload_n 2, 1) := by decide +kernel
theorem dX9_down_45 : decode cX9_down 45 = .ok (.iconst 1, 1) := by decide +kernel
theorem dX9_down_46 : decode cX9_down 46 = .ok (.iadd, 1) := by decide +kernel
theorem dX9_down_47 : decode cX9_down 47 = .ok (.iastore, 1) := by decide +kernel
theorem dX9_down_48 : decode cX9_down 48 = .ok (.iconst 1, 1) := by decide +kernel
theorem dX9_down_49 : decode cX9_down 49 = .ok (.ireturn, 1) := by decide +kernel
theorem dX9_up_0 : decode cX9_up 0 = .ok (.aload_n 0, 1) := by decide +kernel
theorem dX9_up_1 : decode cX9_up 1 = .ok (.iconst 0, 1) := by decide +kernel
theorem dX9_up_2 : decode cX9_up 2 = .ok (.putfield 142, 3) := by decide +kernel
theorem dX9_up_5 : decode cX9_up 5 = .ok (.aload_n 0, 1) := by decide +kernel
theorem dX9_up_6 : decode cX9_up 6 = .ok (.iload_n 1, 1) := by decide +kernel
theorem dX9_up_7 : decode cX9_up 7 = .ok (.invokevirtual 409, 3) := by decide +kernel
theorem dX9_up_10 : decode cX9_up 10 = .ok (.ifCond .eq 15, 3) := by decide +kernel
theorem dX9_up_13 : decode cX9_up 13 = .ok (.aload_n 0, 1) := by decide +kernel
theorem dX9_up_14 : decode cX9_up 14 = .ok (.getfield 114, 3) := by decide +kernel
theorem dX9_up_17 : decode cX9_up 17 = .ok (.bipush 8, 2) := by decide +kernel
theorem dX9_up_19 : decode cX9_up 19 = .ok (.iload_n 1, 1) := by decide +kernel
theorem dX9_up_20 : decode cX9_up 20 = .ok (.iadd, 1) := by decide +kernel
theorem dX9_up_21 : decode cX9_up 21 = .ok (.iaload, 1) := by decide +kernel
theorem dX9_up_22 : decode cX9_up 22 = .ok (.ifCond .ne 5, 3) := by decide +kernel
theorem dX9_up_25 : decode cX9_up 25 = .ok (.iconst 0, 1) := by decide +kernel
theorem dX9_up_26 : decode cX9_up 26 = .ok (.ireturn, 1) := by decide +kernel
theorem dX9_up_27 : decode cX9_up 27 = .ok (.aload_n 0, 1) := by decide +kernel
theorem dX9_up_28 : decode cX9_up 28 = .ok (.invokevirtual 422, 3) := by decide +kernel
theorem dX9_up_31 : decode cX9_up 31 = .ok (.aload_n 0, 1) := by decide +kernel
theorem dX9_up_32 : decode cX9_up 32 = .ok (.getfield 114, 3) := by decide +kernel
theorem dX9_up_35 : decode cX9_up 35 = .ok (.bipush 8, 2) := by decide +kernel
theorem dX9_up_37 : decode cX9_up 37 = .ok (.iload_n 1, 1) := by decide +kernel
theorem dX9_up_38 : decode cX9_up 38 = .ok (.iadd, 1) := by decide +kernel
theorem dX9_up_39 : decode cX9_up 39 = .ok (.iconst 0, 1) := by decide +kernel
theorem dX9_up_40 : decode cX9_up 40 = .ok (.iastore, 1) := by decide +kernel
theorem dX9_up_41 : decode cX9_up 41 = .ok (.iconst 1, 1) := by decide +kernel
theorem dX9_up_42 : decode cX9_up 42 = .ok (.ireturn, 1) := by decide +kernel
theorem dX9_through_0 : decode cX9_through 0 = .ok (.aload_n 0, 1) := by decide +kernel
theorem dX9_through_1 : decode cX9_through 1 = .ok (.iconst 0, 1) := by decide +kernel
theorem dX9_through_2 : decode cX9_through 2 = .ok (.putfield 142, 3) := by decide +kernel
theorem dX9_through_5 : decode cX9_through 5 = .ok (.aload_n 0, 1) := by decide +kernel
theorem dX9_through_6 : decode cX9_through 6 = .ok (.iload_n 1, 1) := by decide +kernel
theorem dX9_through_7 : decode cX9_through 7 = .ok (.invokevirtual 409, 3) := by decide +kernel
theorem dX9_through_10 : decode cX9_through 10 = .ok (.ifCond .eq 20, 3) := by decide +kernel
theorem dX9_through_13 : decode cX9_through 13 = .ok (.aload_n 0, 1) := by decide +kernel
theorem dX9_through_14 : decode cX9_through 14 = .ok (.iload_n 2, 1) := by decide +kernel
theorem dX9_through_15 : decode cX9_through 15 = .ok (.invokevirtual 403, 3) := by decide +kernel
theorem dX9_through_18 : decode cX9_through 18 = .ok (.ifCond .eq 12, 3) := by decide +kernel
theorem dX9_through_21 : decode cX9_through 21 = .ok (.aload_n 0, 1) := by decide +kernel
theorem dX9_through_22 : decode cX9_through 22 = .ok (.iload_n 1, 1) := by decide +kernel
theorem dX9_through_23 : decode cX9_through 23 = .ok (.iload_n 2, 1) := by decide +kernel
theorem dX9_through_24 : decode cX9_through 24 = .ok (.invokevirtual 425, 3) := by decide +kernel
theorem dX9_through_27 : decode cX9_through 27 = .ok (.ifCond .ne 5, 3) := by decide +kernel
theorem dX9_through_30 : decode cX9_through 30 = .ok (.iconst 0, 1) := by decide +kernel
theorem dX9_through_31 : decode cX9_through 31 = .ok (.ireturn, 1) := by decide +kernel
theorem dX9_through_32 : decode cX9_through 32 = .ok (.aload_n 0, 1) := by decide +kernel
theorem dX9_through_33 : decode cX9_through 33 = .ok (.invokevirtual 422, 3) := by decide +kernel
theorem dX9_through_36 : decode cX9_through 36 = .ok (.aload_n 0, 1) := by decide +kernel
theorem dX9_through_37 : decode cX9_through 37 = .ok (.getfield 114, 3) := by decide +kernel
theorem dX9_through_40 : decode cX9_through 40 = .ok (.bipush 8, 2) := by decide +kernel
theorem dX9_through_42 : decode cX9_through 42 = .ok (.iload_n 1, 1) := by decide +kernel
theorem dX9_through_43 : decode cX9_through 43 = .ok (.iadd, 1) := by decide +kernel
theorem dX9_through_44 : decode cX9_through 44 = .ok (.iload_n 2, 1) := by decide +kernel
theorem dX9_through_45 : decode cX9_through 45 = .ok (.iconst 1, 1) := by decide +kernel
theorem dX9_through_46 : decode cX9_through 46 = .ok (.iadd, 1) := by decide +kernel
theorem dX9_through_47 : decode cX9_through 47 = .ok (.iastore, 1) := by decide +kernel
theorem dX9_through_48 : decode cX9_through 48 = .ok (.iconst 1, 1) := by decide +kernel
theorem dX9_through_49 : decode cX9_through 49 = .ok (.ireturn, 1) := by decide +kernel
theorem dX9_bring_0 : decode cX9_bring 0 = .ok (.aload_n 0, 1) := by decide +kernel
theorem dX9_bring_1 : decode cX9_bring 1 = .ok (.iconst 0, 1) := by decide +kernel
theorem dX9_bring_2 : decode cX9_bring 2 = .ok (.putfield 142, 3) := by decide +kernel
theorem dX9_bring_5 : decode cX9_bring 5 = .ok (.aload_n 0, 1) := by decide +kernel
theorem dX9_bring_6 : decode cX9_bring 6 = .ok (.iload_n 1, 1) := by decide +kernel
theorem dX9_bring_7 : decode cX9_bring 7 = .ok (.invokevirtual 403, 3) := by decide +kernel
theorem dX9_bring_10 : decode cX9_bring 10 = .ok (.ifCond .ne 5, 3) := by decide +kernel
theorem dX9_bring_13 : decode cX9_bring 13 = .ok (.iconst (-1), 1) := by decide +kernel
theorem dX9_bring_14 : decode cX9_bring 14 = .ok (.ireturn, 1) := by decide +kernel
theorem dX9_bring_15 : decode cX9_bring 15 = .ok (.aload_n 0, 1) := by decide +kernel
theorem dX9_bring_16 : decode cX9_bring 16 = .ok (.invokevirtual 422, 3) := by decide +kernel
theorem dX9_bring_19 : decode cX9_bring 19 = .ok (.aload_n 0, 1) := by decide +kernel
theorem dX9_bring_20 : decode cX9_bring 20 = .ok (.iload_n 1, 1) := by decide +kernel
theorem dX9_bring_21 : decode cX9_bring 21 = .ok (.invokevirtual 428, 3) := by decide +kernel
theorem dX9_bring_24 : decode cX9_bring 24 = .ok (.aload_n 0, 1) := by decide +kernel
theorem dX9_bring_25 : decode cX9_bring 25 = .ok (.getfield 114, 3) := by decide +kernel
theorem dX9_bring_28 : decode cX9_bring 28 = .ok (.iconst 3, 1) := by decide +kernel
theorem dX9_bring_29 : decode cX9_bring 29 = .ok (.iload_n 1, 1) := by decide +kernel
theorem dX9_bring_30 : decode cX9_bring 30 = .ok (.iadd, 1) := by decide +kernel
theorem dX9_bring_31 : decode cX9_bring 31 = .ok (.iaload, 1) := by decide +kernel
theorem dX9_bring_32 : decode cX9_bring 32 = .ok (.ireturn, 1) := by decide +kernel
theorem dX9_day_0 : decode cX9_day 0 = .ok (.aload_n 0, 1) := by decide +kernel
theorem dX9_day_1 : decode cX9_day 1 = .ok (.iconst 0, 1) := by decide +kernel
theorem dX9_day_2 : decode cX9_day 2 = .ok (.putfield 142, 3) := by decide +kernel
theorem dX9_day_5 : decode cX9_day 5 = .ok (.aload_n 0, 1) := by decide +kernel
theorem dX9_day_6 : decode cX9_day 6 = .ok (.invokevirtual 422, 3) := by decide +kernel
theorem dX9_day_9 : decode cX9_day 9 = .ok (.aload_n 0, 1) := by decide +kernel
theorem dX9_day_10 : decode cX9_day 10 = .ok (.invokevirtual 431, 3) := by decide +kernel
theorem dX9_day_13 : decode cX9_day 13 = .ok (.ireturn, 1) := by decide +kernel
theorem dX9_undo_0 : decode cX9_undo 0 = .ok (.aload_n 0, 1) := by decide +kernel
theorem dX9_undo_1 : decode cX9_undo 1 = .ok (.iconst 0, 1) := by decide +kernel
theorem dX9_undo_2 : decode cX9_undo 2 = .ok (.putfield 142, 3) := by decide +kernel
theorem dX9_undo_5 : decode cX9_undo 5 = .ok (.aload_n 0, 1) := by decide +kernel
theorem dX9_undo_6 : decode cX9_undo 6 = .ok (.getfield 354, 3) := by decide +kernel
theorem dX9_undo_9 : decode cX9_undo 9 = .ok (.ifCond .ne 5, 3) := by decide +kernel
theorem dX9_undo_12 : decode cX9_undo 12 = .ok (.iconst 0, 1) := by decide +kernel
theorem dX9_undo_13 : decode cX9_undo 13 = .ok (.ireturn, 1) := by decide +kernel
theorem dX9_undo_14 : decode cX9_undo 14 = .ok (.aload_n 0, 1) := by decide +kernel
theorem dX9_undo_15 : decode cX9_undo 15 = .ok (.dup, 1) := by decide +kernel
theorem dX9_undo_16 : decode cX9_undo 16 = .ok (.getfield 354, 3) := by decide +kernel
theorem dX9_undo_19 : decode cX9_undo 19 = .ok (.iconst 1, 1) := by decide +kernel
theorem dX9_undo_20 : decode cX9_undo 20 = .ok (.isub, 1) := by decide +kernel
theorem dX9_undo_21 : decode cX9_undo 21 = .ok (.putfield 354, 3) := by decide +kernel
theorem dX9_undo_24 : decode cX9_undo 24 = .ok (.aload_n 0, 1) := by decide +kernel
theorem dX9_undo_25 : decode cX9_undo 25 = .ok (.getfield 126, 3) := by decide +kernel
theorem dX9_undo_28 : decode cX9_undo 28 = .ok (.bipush 13, 2) := by decide +kernel
theorem dX9_undo_30 : decode cX9_undo 30 = .ok (.aload_n 0, 1) := by decide +kernel
theorem dX9_undo_31 : decode cX9_undo 31 = .ok (.getfield 354, 3) := by decide +kernel
theorem dX9_undo_34 : decode cX9_undo 34 = .ok (.imul, 1) := by decide +kernel
theorem dX9_undo_35 : decode cX9_undo 35 = .ok (.aload_n 0, 1) := by decide +kernel
theorem dX9_undo_36 : decode cX9_undo 36 = .ok (.getfield 114, 3) := by decide +kernel
theorem dX9_undo_39 : decode cX9_undo 39 = .ok (.iconst 0, 1) := by decide +kernel
theorem dX9_undo_40 : decode cX9_undo 40 = .ok (.invokestatic 415, 3) := by decide +kernel
theorem dX9_undo_43 : decode cX9_undo 43 = .ok (.iconst 1, 1) := by decide +kernel
theorem dX9_undo_44 : decode cX9_undo 44 = .ok (.ireturn, 1) := by decide +kernel
theorem dX9_goes_0 : decode cX9_goes 0 = .ok (.aload_n 0, 1) := by decide +kernel
theorem dX9_goes_1 : decode cX9_goes 1 = .ok (.getfield 99, 3) := by decide +kernel
theorem dX9_goes_4 : decode cX9_goes 4 = .ok (.iload_n 1, 1) := by decide +kernel
theorem dX9_goes_5 : decode cX9_goes 5 = .ok (.iaload, 1) := by decide +kernel
theorem dX9_goes_6 : decode cX9_goes 6 = .ok (.istore_n 2, 1) := by decide +kernel
theorem dX9_goes_7 : decode cX9_goes 7 = .ok (.aload_n 0, 1) := by decide +kernel
theorem dX9_goes_8 : decode cX9_goes 8 = .ok (.getfield 102, 3) := by decide +kernel
theorem dX9_goes_11 : decode cX9_goes 11 = .ok (.iload_n 1, 1) := by decide +kernel
theorem dX9_goes_12 : decode cX9_goes 12 = .ok (.iaload, 1) := by decide +kernel
theorem dX9_goes_13 : decode cX9_goes 13 = .ok (.istore_n 3, 1) := by decide +kernel
theorem dX9_goes_14 : decode cX9_goes 14 = .ok (.aload_n 0, 1) := by decide +kernel
theorem dX9_goes_15 : decode cX9_goes 15 = .ok (.getfield 96, 3) := by decide +kernel
theorem dX9_goes_18 : decode cX9_goes 18 = .ok (.iload_n 1, 1) := by decide +kernel
theorem dX9_goes_19 : decode cX9_goes 19 = .ok (.iaload, 1) := by decide +kernel
theorem dX9_goes_20 : decode cX9_goes 20 = .ok (.istore 4, 2) := by decide +kernel
theorem dX9_goes_22 : decode cX9_goes 22 = .ok (.iload 4, 2) := by decide +kernel
theorem dX9_goes_24 : decode cX9_goes 24 = .ok (.ifCond .ne 29, 3) := by decide +kernel
theorem dX9_goes_27 : decode cX9_goes 27 = .ok (.aload_n 0, 1) := by decide +kernel
theorem dX9_goes_28 : decode cX9_goes 28 = .ok (.iload_n 2, 1) := by decide +kernel
theorem dX9_goes_29 : decode cX9_goes 29 = .ok (.iload_n 3, 1) := by decide +kernel
theorem dX9_goes_30 : decode cX9_goes 30 = .ok (.invokevirtual 419, 3) := by decide +kernel
theorem dX9_goes_33 : decode cX9_goes 33 = .ok (.ifCond .ne 5, 3) := by decide +kernel
theorem dX9_goes_36 : decode cX9_goes 36 = .ok (.iconst 0, 1) := by decide +kernel
theorem dX9_goes_37 : decode cX9_goes 37 = .ok (.ireturn, 1) := by decide +kernel
theorem dX9_goes_38 : decode cX9_goes 38 = .ok (.aload_n 0, 1) := by decide +kernel
theorem dX9_goes_39 : decode cX9_goes 39 = .ok (.getfield 114, 3) := by decide +kernel
theorem dX9_goes_42 : decode cX9_goes 42 = .ok (.bipush 8, 2) := by decide +kernel
theorem dX9_goes_44 : decode cX9_goes 44 = .ok (.iload_n 2, 1) := by decide +kernel
theorem dX9_goes_45 : decode cX9_goes 45 = .ok (.iadd, 1) := by decide +kernel
theorem dX9_goes_46 : decode cX9_goes 46 = .ok (.iload_n 3, 1) := by decide +kernel
theorem dX9_goes_47 : decode cX9_goes 47 = .ok (.iconst 1, 1) := by decide +kernel
theorem dX9_goes_48 : decode cX9_goes 48 = .ok (.iadd, 1) := by decide +kernel
theorem dX9_goes_49 : decode cX9_goes 49 = .ok (.iastore, 1) := by decide +kernel
theorem dX9_goes_50 : decode cX9_goes 50 = .ok (.goto 101, 3) := by decide +kernel
theorem dX9_goes_53 : decode cX9_goes 53 = .ok (.iload 4, 2) := by decide +kernel
theorem dX9_goes_55 : decode cX9_goes 55 = .ok (.iconst 1, 1) := by decide +kernel
theorem dX9_goes_56 : decode cX9_goes 56 = .ok (.if_icmp .ne 30, 3) := by decide +kernel
theorem dX9_goes_59 : decode cX9_goes 59 = .ok (.aload_n 0, 1) := by decide +kernel
theorem dX9_goes_60 : decode cX9_goes 60 = .ok (.getfield 114, 3) := by decide +kernel
theorem dX9_goes_63 : decode cX9_goes 63 = .ok (.bipush 8, 2) := by decide +kernel
theorem dX9_goes_65 : decode cX9_goes 65 = .ok (.iload_n 2, 1) := by decide +kernel
theorem dX9_goes_66 : decode cX9_goes 66 = .ok (.iadd, 1) := by decide +kernel
theorem dX9_goes_67 : decode cX9_goes 67 = .ok (.iaload, 1) := by decide +kernel
theorem dX9_goes_68 : decode cX9_goes 68 = .ok (.ifCond .ne 5, 3) := by decide +kernel
theorem dX9_goes_71 : decode cX9_goes 71 = .ok (.iconst 0, 1) := by decide +kernel
theorem dX9_goes_72 : decode cX9_goes 72 = .ok (.ireturn, 1) := by decide +kernel
theorem dX9_goes_73 : decode cX9_goes 73 = .ok (.aload_n 0, 1) := by decide +kernel
theorem dX9_goes_74 : decode cX9_goes 74 = .ok (.getfield 114, 3) := by decide +kernel
theorem dX9_goes_77 : decode cX9_goes 77 = .ok (.bipush 8, 2) := by decide +kernel
theorem dX9_goes_79 : decode cX9_goes 79 = .ok (.iload_n 2, 1) := by decide +kernel
theorem dX9_goes_80 : decode cX9_goes 80 = .ok (.iadd, 1) := by decide +kernel
theorem dX9_goes_81 : decode cX9_goes 81 = .ok (.iconst 0, 1) := by decide +kernel
theorem dX9_goes_82 : decode cX9_goes 82 = .ok (.iastore, 1) := by decide +kernel
theorem dX9_goes_83 : decode cX9_goes 83 = .ok (.goto 68, 3) := by decide +kernel
theorem dX9_goes_86 : decode cX9_goes 86 = .ok (.iload 4, 2) := by decide +kernel
theorem dX9_goes_88 : decode cX9_goes 88 = .ok (.iconst 2, 1) := by decide +kernel
theorem dX9_goes_89 : decode cX9_goes 89 = .ok (.if_icmp .ne 29, 3) := by decide +kernel
theorem dX9_goes_92 : decode cX9_goes 92 = .ok (.aload_n 0, 1) := by decide +kernel
theorem dX9_goes_93 : decode cX9_goes 93 = .ok (.iload_n 2, 1) := by decide +kernel
theorem dX9_goes_94 : decode cX9_goes 94 = .ok (.iload_n 3, 1) := by decide +kernel
theorem dX9_goes_95 : decode cX9_goes 95 = .ok (.invokevirtual 425, 3) := by decide +kernel
theorem dX9_goes_98 : decode cX9_goes 98 = .ok (.ifCond .ne 5, 3) := by decide +kernel
theorem dX9_goes_101 : decode cX9_goes 101 = .ok (.iconst 0, 1) := by decide +kernel
theorem dX9_goes_102 : decode cX9_goes 102 = .ok (.ireturn, 1) := by decide +kernel
theorem dX9_goes_103 : decode cX9_goes 103 = .ok (.aload_n 0, 1) := by decide +kernel
theorem dX9_goes_104 : decode cX9_goes 104 = .ok (.getfield 114, 3) := by decide +kernel
theorem dX9_goes_107 : decode cX9_goes 107 = .ok (.bipush 8, 2) := by decide +kernel
theorem dX9_goes_109 : decode cX9_goes 109 = .ok (.iload_n 2, 1) := by decide +kernel
theorem dX9_goes_110 : decode cX9_goes 110 = .ok (.iadd, 1) := by decide +kernel
theorem dX9_goes_111 : decode cX9_goes 111 = .ok (.iload_n 3, 1) := by decide +kernel
theorem dX9_goes_112 : decode cX9_goes 112 = .ok (.iconst 1, 1) := by decide +kernel
theorem dX9_goes_113 : decode cX9_goes 113 = .ok (.iadd, 1) := by decide +kernel
theorem dX9_goes_114 : decode cX9_goes 114 = .ok (.iastore, 1) := by decide +kernel
theorem dX9_goes_115 : decode cX9_goes 115 = .ok (.goto 36, 3) := by decide +kernel
theorem dX9_goes_118 : decode cX9_goes 118 = .ok (.iload 4, 2) := by decide +kernel
theorem dX9_goes_120 : decode cX9_goes 120 = .ok (.iconst 3, 1) := by decide +kernel
theorem dX9_goes_121 : decode cX9_goes 121 = .ok (.if_icmp .ne 11, 3) := by decide +kernel
theorem dX9_goes_124 : decode cX9_goes 124 = .ok (.aload_n 0, 1) := by decide +kernel
theorem dX9_goes_125 : decode cX9_goes 125 = .ok (.iload_n 3, 1) := by decide +kernel
theorem dX9_goes_126 : decode cX9_goes 126 = .ok (.invokevirtual 428, 3) := by decide +kernel
theorem dX9_goes_129 : decode cX9_goes 129 = .ok (.goto 22, 3) := by decide +kernel
theorem dX9_goes_132 : decode cX9_goes 132 = .ok (.aload_n 0, 1) := by decide +kernel
theorem dX9_goes_133 : decode cX9_goes 133 = .ok (.invokevirtual 431, 3) := by decide +kernel
theorem dX9_goes_136 : decode cX9_goes 136 = .ok (.ifCond .eq 15, 3) := by decide +kernel
theorem dX9_goes_139 : decode cX9_goes 139 = .ok (.aload_n 0, 1) := by decide +kernel
theorem dX9_goes_140 : decode cX9_goes 140 = .ok (.getfield 434, 3) := by decide +kernel
theorem dX9_goes_143 : decode cX9_goes 143 = .ok (.ifCond .ge 8, 3) := by decide +kernel
theorem dX9_goes_146 : decode cX9_goes 146 = .ok (.aload_n 0, 1) := by decide +kernel
theorem dX9_goes_147 : decode cX9_goes 147 = .ok (.iload_n 1, 1) := by decide +kernel
theorem dX9_goes_148 : decode cX9_goes 148 = .ok (.putfield 434, 3) := by decide +kernel
theorem dX9_goes_151 : decode cX9_goes 151 = .ok (.iconst 1, 1) := by decide +kernel
theorem dX9_goes_152 : decode cX9_goes 152 = .ok (.ireturn, 1) := by decide +kernel
theorem dX9_judged_0 : decode cX9_judged 0 = .ok (.aload_n 0, 1) := by decide +kernel
theorem dX9_judged_1 : decode cX9_judged 1 = .ok (.iconst 0, 1) := by decide +kernel
theorem dX9_judged_2 : decode cX9_judged 2 = .ok (.putfield 142, 3) := by decide +kernel
theorem dX9_judged_5 : decode cX9_judged 5 = .ok (.iload_n 1, 1) := by decide +kernel
theorem dX9_judged_6 : decode cX9_judged 6 = .ok (.iconst 0, 1) := by decide +kernel
theorem dX9_judged_7 : decode cX9_judged 7 = .ok (.iconst 2, 1) := by decide +kernel
theorem dX9_judged_8 : decode cX9_judged 8 = .ok (.invokestatic 266, 3) := by decide +kernel
theorem dX9_judged_11 : decode cX9_judged 11 = .ok (.ifCond .ne 6, 3) := by decide +kernel
theorem dX9_judged_14 : decode cX9_judged 14 = .ok (.bipush (-2), 2) := by decide +kernel
theorem dX9_judged_16 : decode cX9_judged 16 = .ok (.ireturn, 1) := by decide +kernel
theorem dX9_judged_17 : decode cX9_judged 17 = .ok (.aload_n 0, 1) := by decide +kernel
theorem dX9_judged_18 : decode cX9_judged 18 = .ok (.getfield 114, 3) := by decide +kernel
theorem dX9_judged_21 : decode cX9_judged 21 = .ok (.iconst 0, 1) := by decide +kernel
theorem dX9_judged_22 : decode cX9_judged 22 = .ok (.aload_n 0, 1) := by decide +kernel
theorem dX9_judged_23 : decode cX9_judged 23 = .ok (.getfield 117, 3) := by decide +kernel
theorem dX9_judged_26 : decode cX9_judged 26 = .ok (.iconst 0, 1) := by decide +kernel
theorem dX9_judged_27 : decode cX9_judged 27 = .ok (.invokestatic 415, 3) := by decide +kernel
theorem dX9_judged_30 : decode cX9_judged 30 = .ok (.aload_n 0, 1) := by decide +kernel
theorem dX9_judged_31 : decode cX9_judged 31 = .ok (.invokevirtual 351, 3) := by decide +kernel
theorem dX9_judged_34 : decode cX9_judged 34 = .ok (.iconst (-1), 1) := by decide +kernel
theorem dX9_judged_35 : decode cX9_judged 35 = .ok (.istore_n 2, 1) := by decide +kernel
theorem dX9_judged_36 : decode cX9_judged 36 = .ok (.aload_n 0, 1) := by decide +kernel
theorem dX9_judged_37 : decode cX9_judged 37 = .ok (.iconst (-1), 1) := by decide +kernel
theorem dX9_judged_38 : decode cX9_judged 38 = .ok (.putfield 434, 3) := by decide +kernel
theorem dX9_judged_41 : decode cX9_judged 41 = .ok (.iconst 0, 1) := by decide +kernel
theorem dX9_judged_42 : decode cX9_judged 42 = .ok (.istore_n 3, 1) := by decide +kernel
theorem dX9_judged_43 : decode cX9_judged 43 = .ok (.iload_n 3, 1) := by decide +kernel
theorem dX9_judged_44 : decode cX9_judged 44 = .ok (.aload_n 0, 1) := by decide +kernel
theorem dX9_judged_45 : decode cX9_judged 45 = .ok (.getfield 93, 3) := by decide +kernel
theorem dX9_judged_48 : decode cX9_judged 48 = .ok (.iconst 0, 1) := by decide +kernel
theorem dX9_judged_49 : decode cX9_judged 49 = .ok (.iaload, 1) := by decide +kernel
theorem dX9_judged_50 : decode cX9_judged 50 = .ok (.if_icmp .ge 23, 3) := by decide +kernel
theorem dX9_judged_53 : decode cX9_judged 53 = .ok (.aload_n 0, 1) := by decide +kernel
theorem dX9_judged_54 : decode cX9_judged 54 = .ok (.iload_n 3, 1) := by decide +kernel
theorem dX9_judged_55 : decode cX9_judged 55 = .ok (.invokevirtual 437, 3) := by decide +kernel
theorem dX9_judged_58 : decode cX9_judged 58 = .ok (.ifCond .ne 9, 3) := by decide +kernel
theorem dX9_judged_61 : decode cX9_judged 61 = .ok (.iload_n 2, 1) := by decide +kernel
theorem dX9_judged_62 : decode cX9_judged 62 = .ok (.ifCond .ge 5, 3) := by decide +kernel
theorem dX9_judged_65 : decode cX9_judged 65 = .ok (.iload_n 3, 1) := by decide +kernel
theorem dX9_judged_66 : decode cX9_judged 66 = .ok (.istore_n 2, 1) := by decide +kernel
theorem dX9_judged_67 : decode cX9_judged 67 = .ok (.iinc 3 1, 3) := by decide +kernel
theorem dX9_judged_70 : decode cX9_judged 70 = .ok (.goto (-27), 3) := by decide +kernel
theorem dX9_judged_73 : decode cX9_judged 73 = .ok (.aload_n 0, 1) := by decide +kernel
theorem dX9_judged_74 : decode cX9_judged 74 = .ok (.getfield 114, 3) := by decide +kernel
theorem dX9_judged_77 : decode cX9_judged 77 = .ok (.iconst 2, 1) := by decide +kernel
theorem dX9_judged_78 : decode cX9_judged 78 = .ok (.iaload, 1) := by decide +kernel
theorem dX9_judged_79 : decode cX9_judged 79 = .ok (.istore_n 3, 1) := by decide +kernel
theorem dX9_judged_80 : decode cX9_judged 80 = .ok (.aload_n 0, 1) := by decide +kernel
theorem dX9_judged_81 : decode cX9_judged 81 = .ok (.getfield 117, 3) := by decide +kernel
theorem dX9_judged_84 : decode cX9_judged 84 = .ok (.iconst 0, 1) := by decide +kernel
theorem dX9_judged_85 : decode cX9_judged 85 = .ok (.aload_n 0, 1) := by decide +kernel
theorem dX9_judged_86 : decode cX9_judged 86 = .ok (.getfield 114, 3) := by decide +kernel
theorem dX9_judged_89 : decode cX9_judged 89 = .ok (.iconst 0, 1) := by decide +kernel
theorem dX9_judged_90 : decode cX9_judged 90 = .ok (.invokestatic 415, 3) := by decide +kernel
theorem dX9_judged_93 : decode cX9_judged 93 = .ok (.iload_n 1, 1) := by decide +kernel
theorem dX9_judged_94 : decode cX9_judged 94 = .ok (.ifCond .ne 7, 3) := by decide +kernel
theorem dX9_judged_97 : decode cX9_judged 97 = .ok (.iload_n 2, 1) := by decide +kernel
theorem dX9_judged_98 : decode cX9_judged 98 = .ok (.goto 16, 3) := by decide +kernel
theorem dX9_judged_101 : decode cX9_judged 101 = .ok (.iload_n 1, 1) := by decide +kernel
theorem dX9_judged_102 : decode cX9_judged 102 = .ok (.iconst 1, 1) := by decide +kernel
theorem dX9_judged_103 : decode cX9_judged 103 = .ok (.if_icmp .ne 10, 3) := by decide +kernel
theorem dX9_judged_106 : decode cX9_judged 106 = .ok (.aload_n 0, 1) := by decide +kernel
theorem dX9_judged_107 : decode cX9_judged 107 = .ok (.getfield 434, 3) := by decide +kernel
theorem dX9_judged_110 : decode cX9_judged 110 = .ok (.goto 4, 3) := by decide +kernel
theorem dX9_judged_113 : decode cX9_judged 113 = .ok (.iload_n 3, 1) := by decide +kernel
theorem dX9_judged_114 : decode cX9_judged 114 = .ok (.ireturn, 1) := by decide +kernel
theorem dX9_emptyIn_0 : decode cX9_emptyIn 0 = .ok (.aload_n 0, 1) := by decide +kernel
theorem dX9_emptyIn_1 : decode cX9_emptyIn 1 = .ok (.getfield 114, 3) := by decide +kernel
theorem dX9_emptyIn_4 : decode cX9_emptyIn 4 = .ok (.iconst 0, 1) := by decide +kernel
theorem dX9_emptyIn_5 : decode cX9_emptyIn 5 = .ok (.aload_n 0, 1) := by decide +kernel
theorem dX9_emptyIn_6 : decode cX9_emptyIn 6 = .ok (.getfield 120, 3) := by decide +kernel
theorem dX9_emptyIn_9 : decode cX9_emptyIn 9 = .ok (.iconst 0, 1) := by decide +kernel
theorem dX9_emptyIn_10 : decode cX9_emptyIn 10 = .ok (.invokestatic 415, 3) := by decide +kernel
theorem dX9_emptyIn_13 : decode cX9_emptyIn 13 = .ok (.iconst 0, 1) := by decide +kernel
theorem dX9_emptyIn_14 : decode cX9_emptyIn 14 = .ok (.istore_n 3, 1) := by decide +kernel
theorem dX9_emptyIn_15 : decode cX9_emptyIn 15 = .ok (.iload_n 3, 1) := by decide +kernel
theorem dX9_emptyIn_16 : decode cX9_emptyIn 16 = .ok (.bipush 100, 2) := by decide +kernel
theorem dX9_emptyIn_18 : decode cX9_emptyIn 18 = .ok (.if_icmp .ge 26, 3) := by decide +kernel
theorem dX9_emptyIn_21 : decode cX9_emptyIn 21 = .ok (.aload_n 0, 1) := by decide +kernel
theorem dX9_emptyIn_22 : decode cX9_emptyIn 22 = .ok (.getfield 114, 3) := by decide +kernel
theorem dX9_emptyIn_25 : decode cX9_emptyIn 25 = .ok (.iconst 3, 1) := by decide +kernel
theorem dX9_emptyIn_26 : decode cX9_emptyIn 26 = .ok (.iload_n 1, 1) := by decide +kernel
theorem dX9_emptyIn_27 : decode cX9_emptyIn 27 = .ok (.iadd, 1) := by decide +kernel
theorem dX9_emptyIn_28 : decode cX9_emptyIn 28 = .ok (.iaload, 1) := by decide +kernel
theorem dX9_emptyIn_29 : decode cX9_emptyIn 29 = .ok (.iload_n 2, 1) := by decide +kernel
theorem dX9_emptyIn_30 : decode cX9_emptyIn 30 = .ok (.if_icmp .lt 14, 3) := by decide +kernel
theorem dX9_emptyIn_33 : decode cX9_emptyIn 33 = .ok (.aload_n 0, 1) := by decide +kernel
theorem dX9_emptyIn_34 : decode cX9_emptyIn 34 = .ok (.invokevirtual 431, 3) := by decide +kernel
theorem dX9_emptyIn_37 : decode cX9_emptyIn 37 = .ok (.pop, 1) := by decide +kernel
theorem dX9_emptyIn_38 : decode cX9_emptyIn 38 = .ok (.iinc 3 1, 3) := by decide +kernel
theorem dX9_emptyIn_41 : decode cX9_emptyIn 41 = .ok (.goto (-26), 3) := by decide +kernel
theorem dX9_emptyIn_44 : decode cX9_emptyIn 44 = .ok (.aload_n 0, 1) := by decide +kernel
theorem dX9_emptyIn_45 : decode cX9_emptyIn 45 = .ok (.getfield 120, 3) := by decide +kernel
theorem dX9_emptyIn_48 : decode cX9_emptyIn 48 = .ok (.iconst 0, 1) := by decide +kernel
theorem dX9_emptyIn_49 : decode cX9_emptyIn 49 = .ok (.aload_n 0, 1) := by decide +kernel
theorem dX9_emptyIn_50 : decode cX9_emptyIn 50 = .ok (.getfield 114, 3) := by decide +kernel
theorem dX9_emptyIn_53 : decode cX9_emptyIn 53 = .ok (.iconst 0, 1) := by decide +kernel
theorem dX9_emptyIn_54 : decode cX9_emptyIn 54 = .ok (.invokestatic 415, 3) := by decide +kernel
theorem dX9_emptyIn_57 : decode cX9_emptyIn 57 = .ok (.iload_n 3, 1) := by decide +kernel
theorem dX9_emptyIn_58 : decode cX9_emptyIn 58 = .ok (.bipush 99, 2) := by decide +kernel
theorem dX9_emptyIn_60 : decode cX9_emptyIn 60 = .ok (.if_icmp .le 7, 3) := by decide +kernel
theorem dX9_emptyIn_63 : decode cX9_emptyIn 63 = .ok (.iconst (-1), 1) := by decide +kernel
theorem dX9_emptyIn_64 : decode cX9_emptyIn 64 = .ok (.goto 4, 3) := by decide +kernel
theorem dX9_emptyIn_67 : decode cX9_emptyIn 67 = .ok (.iload_n 3, 1) := by decide +kernel
theorem dX9_emptyIn_68 : decode cX9_emptyIn 68 = .ok (.ireturn, 1) := by decide +kernel
theorem dX9_lasts_0 : decode cX9_lasts 0 = .ok (.aload_n 0, 1) := by decide +kernel
theorem dX9_lasts_1 : decode cX9_lasts 1 = .ok (.iconst 0, 1) := by decide +kernel
theorem dX9_lasts_2 : decode cX9_lasts 2 = .ok (.putfield 142, 3) := by decide +kernel
theorem dX9_lasts_5 : decode cX9_lasts 5 = .ok (.aload_n 0, 1) := by decide +kernel
theorem dX9_lasts_6 : decode cX9_lasts 6 = .ok (.iload_n 1, 1) := by decide +kernel
theorem dX9_lasts_7 : decode cX9_lasts 7 = .ok (.invokevirtual 403, 3) := by decide +kernel
theorem dX9_lasts_10 : decode cX9_lasts 10 = .ok (.ifCond .eq 12, 3) := by decide +kernel
theorem dX9_lasts_13 : decode cX9_lasts 13 = .ok (.aload_n 0, 1) := by decide +kernel
theorem dX9_lasts_14 : decode cX9_lasts 14 = .ok (.iload_n 1, 1) := by decide +kernel
theorem dX9_lasts_15 : decode cX9_lasts 15 = .ok (.iconst 1, 1) := by decide +kernel
theorem dX9_lasts_16 : decode cX9_lasts 16 = .ok (.invokevirtual 440, 3) := by decide +kernel
theorem dX9_lasts_19 : decode cX9_lasts 19 = .ok (.goto 4, 3) := by decide +kernel
theorem dX9_lasts_22 : decode cX9_lasts 22 = .ok (.iconst (-1), 1) := by decide +kernel
theorem dX9_lasts_23 : decode cX9_lasts 23 = .ok (.ireturn, 1) := by decide +kernel
theorem dX9_safeFor_0 : decode cX9_safeFor 0 = .ok (.aload_n 0, 1) := by decide +kernel
theorem dX9_safeFor_1 : decode cX9_safeFor 1 = .ok (.getfield 114, 3) := by decide +kernel
theorem dX9_safeFor_4 : decode cX9_safeFor 4 = .ok (.iconst 0, 1) := by decide +kernel
theorem dX9_safeFor_5 : decode cX9_safeFor 5 = .ok (.aload_n 0, 1) := by decide +kernel
theorem dX9_safeFor_6 : decode cX9_safeFor 6 = .ok (.getfield 120, 3) := by decide +kernel
theorem dX9_safeFor_9 : decode cX9_safeFor 9 = .ok (.iconst 0, 1) := by decide +kernel
theorem dX9_safeFor_10 : decode cX9_safeFor 10 = .ok (.invokestatic 415, 3) := by decide +kernel
theorem dX9_safeFor_13 : decode cX9_safeFor 13 = .ok (.aload_n 0, 1) := by decide +kernel
theorem dX9_safeFor_14 : decode cX9_safeFor 14 = .ok (.getfield 114, 3) := by decide +kernel
theorem dX9_safeFor_17 : decode cX9_safeFor 17 = .ok (.bipush 8, 2) := by decide +kernel
theorem dX9_safeFor_19 : decode cX9_safeFor 19 = .ok (.iload_n 1, 1) := by decide +kernel
theorem dX9_safeFor_20 : decode cX9_safeFor 20 = .ok (.iadd, 1) := by decide +kernel
theorem dX9_safeFor_21 : decode cX9_safeFor 21 = .ok (.iaload, 1) := by decide +kernel
theorem dX9_safeFor_22 : decode cX9_safeFor 22 = .ok (.istore_n 2, 1) := by decide +kernel
theorem dX9_safeFor_23 : decode cX9_safeFor 23 = .ok (.iconst 0, 1) := by decide +kernel
theorem dX9_safeFor_24 : decode cX9_safeFor 24 = .ok (.istore_n 3, 1) := by decide +kernel
theorem dX9_safeFor_25 : decode cX9_safeFor 25 = .ok (.iload_n 3, 1) := by decide +kernel
theorem dX9_safeFor_26 : decode cX9_safeFor 26 = .ok (.bipush 100, 2) := by decide +kernel
theorem dX9_safeFor_28 : decode cX9_safeFor 28 = .ok (.if_icmp .ge 27, 3) := by decide +kernel
theorem dX9_safeFor_31 : decode cX9_safeFor 31 = .ok (.aload_n 0, 1) := by decide +kernel
theorem dX9_safeFor_32 : decode cX9_safeFor 32 = .ok (.getfield 114, 3) := by decide +kernel
theorem dX9_safeFor_35 : decode cX9_safeFor 35 = .ok (.bipush 8, 2) := by decide +kernel
theorem dX9_safeFor_37 : decode cX9_safeFor 37 = .ok (.iload_n 1, 1) := by decide +kernel
theorem dX9_safeFor_38 : decode cX9_safeFor 38 = .ok (.iadd, 1) := by decide +kernel
theorem dX9_safeFor_39 : decode cX9_safeFor 39 = .ok (.iaload, 1) := by decide +kernel
theorem dX9_safeFor_40 : decode cX9_safeFor 40 = .ok (.iload_n 2, 1) := by decide +kernel
theorem dX9_safeFor_41 : decode cX9_safeFor 41 = .ok (.if_icmp .ne 14, 3) := by decide +kernel
theorem dX9_safeFor_44 : decode cX9_safeFor 44 = .ok (.aload_n 0, 1) := by decide +kernel
theorem dX9_safeFor_45 : decode cX9_safeFor 45 = .ok (.invokevirtual 431, 3) := by decide +kernel
theorem dX9_safeFor_48 : decode cX9_safeFor 48 = .ok (.pop, 1) := by decide +kernel
theorem dX9_safeFor_49 : decode cX9_safeFor 49 = .ok (.iinc 3 1, 3) := by decide +kernel
theorem dX9_safeFor_52 : decode cX9_safeFor 52 = .ok (.goto (-27), 3) := by decide +kernel
theorem dX9_safeFor_55 : decode cX9_safeFor 55 = .ok (.aload_n 0, 1) := by decide +kernel
theorem dX9_safeFor_56 : decode cX9_safeFor 56 = .ok (.getfield 120, 3) := by decide +kernel
theorem dX9_safeFor_59 : decode cX9_safeFor 59 = .ok (.iconst 0, 1) := by decide +kernel
theorem dX9_safeFor_60 : decode cX9_safeFor 60 = .ok (.aload_n 0, 1) := by decide +kernel
theorem dX9_safeFor_61 : decode cX9_safeFor 61 = .ok (.getfield 114, 3) := by decide +kernel
theorem dX9_safeFor_64 : decode cX9_safeFor 64 = .ok (.iconst 0, 1) := by decide +kernel
theorem dX9_safeFor_65 : decode cX9_safeFor 65 = .ok (.invokestatic 415, 3) := by decide +kernel
theorem dX9_safeFor_68 : decode cX9_safeFor 68 = .ok (.iload_n 3, 1) := by decide +kernel
theorem dX9_safeFor_69 : decode cX9_safeFor 69 = .ok (.bipush 99, 2) := by decide +kernel
theorem dX9_safeFor_71 : decode cX9_safeFor 71 = .ok (.if_icmp .le 9, 3) := by decide +kernel
theorem dX9_safeFor_74 : decode cX9_safeFor 74 = .ok (.sipush 1000, 3) := by decide +kernel
theorem dX9_safeFor_77 : decode cX9_safeFor 77 = .ok (.goto 4, 3) := by decide +kernel
theorem dX9_safeFor_80 : decode cX9_safeFor 80 = .ok (.iload_n 3, 1) := by decide +kernel
theorem dX9_safeFor_81 : decode cX9_safeFor 81 = .ok (.ireturn, 1) := by decide +kernel
theorem dX9_safe_0 : decode cX9_safe 0 = .ok (.aload_n 0, 1) := by decide +kernel
theorem dX9_safe_1 : decode cX9_safe 1 = .ok (.iconst 0, 1) := by decide +kernel
theorem dX9_safe_2 : decode cX9_safe 2 = .ok (.putfield 142, 3) := by decide +kernel
theorem dX9_safe_5 : decode cX9_safe 5 = .ok (.aload_n 0, 1) := by decide +kernel
theorem dX9_safe_6 : decode cX9_safe 6 = .ok (.iload_n 1, 1) := by decide +kernel
theorem dX9_safe_7 : decode cX9_safe 7 = .ok (.invokevirtual 409, 3) := by decide +kernel
theorem dX9_safe_10 : decode cX9_safe 10 = .ok (.ifCond .eq 15, 3) := by decide +kernel
theorem dX9_safe_13 : decode cX9_safe 13 = .ok (.aload_n 0, 1) := by decide +kernel
theorem dX9_safe_14 : decode cX9_safe 14 = .ok (.getfield 114, 3) := by decide +kernel
theorem dX9_safe_17 : decode cX9_safe 17 = .ok (.bipush 8, 2) := by decide +kernel
theorem dX9_safe_19 : decode cX9_safe 19 = .ok (.iload_n 1, 1) := by decide +kernel
theorem dX9_safe_20 : decode cX9_safe 20 = .ok (.iadd, 1) := by decide +kernel
theorem dX9_safe_21 : decode cX9_safe 21 = .ok (.iaload, 1) := by decide +kernel
theorem dX9_safe_22 : decode cX9_safe 22 = .ok (.ifCond .ne 5, 3) := by decide +kernel
theorem dX9_safe_25 : decode cX9_safe 25 = .ok (.iconst (-1), 1) := by decide +kernel
theorem dX9_safe_26 : decode cX9_safe 26 = .ok (.ireturn, 1) := by decide +kernel
theorem dX9_safe_27 : decode cX9_safe 27 = .ok (.aload_n 0, 1) := by decide +kernel
theorem dX9_safe_28 : decode cX9_safe 28 = .ok (.iload_n 1, 1) := by decide +kernel
theorem dX9_safe_29 : decode cX9_safe 29 = .ok (.invokevirtual 443, 3) := by decide +kernel
theorem dX9_safe_32 : decode cX9_safe 32 = .ok (.istore_n 2, 1) := by decide +kernel
theorem dX9_safe_33 : decode cX9_safe 33 = .ok (.iload_n 2, 1) := by decide +kernel
theorem dX9_safe_34 : decode cX9_safe 34 = .ok (.sipush 1000, 3) := by decide +kernel
theorem dX9_safe_37 : decode cX9_safe 37 = .ok (.if_icmp .ne 7, 3) := by decide +kernel
theorem dX9_safe_40 : decode cX9_safe 40 = .ok (.iconst (-1), 1) := by decide +kernel
theorem dX9_safe_41 : decode cX9_safe 41 = .ok (.goto 4, 3) := by decide +kernel
theorem dX9_safe_44 : decode cX9_safe 44 = .ok (.iload_n 2, 1) := by decide +kernel
theorem dX9_safe_45 : decode cX9_safe 45 = .ok (.ireturn, 1) := by decide +kernel
theorem dX9_refuge_0 : decode cX9_refuge 0 = .ok (.aload_n 0, 1) := by decide +kernel
theorem dX9_refuge_1 : decode cX9_refuge 1 = .ok (.iconst 0, 1) := by decide +kernel
theorem dX9_refuge_2 : decode cX9_refuge 2 = .ok (.putfield 142, 3) := by decide +kernel
theorem dX9_refuge_5 : decode cX9_refuge 5 = .ok (.aload_n 0, 1) := by decide +kernel
theorem dX9_refuge_6 : decode cX9_refuge 6 = .ok (.iload_n 1, 1) := by decide +kernel
theorem dX9_refuge_7 : decode cX9_refuge 7 = .ok (.invokevirtual 409, 3) := by decide +kernel
theorem dX9_refuge_10 : decode cX9_refuge 10 = .ok (.ifCond .eq 11, 3) := by decide +kernel
theorem dX9_refuge_13 : decode cX9_refuge 13 = .ok (.aload_n 0, 1) := by decide +kernel
theorem dX9_refuge_14 : decode cX9_refuge 14 = .ok (.iload_n 1, 1) := by decide +kernel
theorem dX9_refuge_15 : decode cX9_refuge 15 = .ok (.invokevirtual 367, 3) := by decide +kernel
theorem dX9_refuge_18 : decode cX9_refuge 18 = .ok (.ifCond .ne 5, 3) := by decide +kernel
theorem dX9_refuge_21 : decode cX9_refuge 21 = .ok (.iconst (-1), 1) := by decide +kernel
theorem dX9_refuge_22 : decode cX9_refuge 22 = .ok (.ireturn, 1) := by decide +kernel
theorem dX9_refuge_23 : decode cX9_refuge 23 = .ok (.iconst (-1), 1) := by decide +kernel
theorem dX9_refuge_24 : decode cX9_refuge 24 = .ok (.istore_n 2, 1) := by decide +kernel
theorem dX9_refuge_25 : decode cX9_refuge 25 = .ok (.iconst 0, 1) := by decide +kernel
theorem dX9_refuge_26 : decode cX9_refuge 26 = .ok (.istore_n 3, 1) := by decide +kernel
theorem dX9_refuge_27 : decode cX9_refuge 27 = .ok (.iconst 0, 1) := by decide +kernel
theorem dX9_refuge_28 : decode cX9_refuge 28 = .ok (.istore 4, 2) := by decide +kernel
theorem dX9_refuge_30 : decode cX9_refuge 30 = .ok (.iload 4, 2) := by decide +kernel
theorem dX9_refuge_32 : decode cX9_refuge 32 = .ok (.aload_n 0, 1) := by decide +kernel
theorem dX9_refuge_33 : decode cX9_refuge 33 = .ok (.getfield 13, 3) := by decide +kernel
theorem dX9_refuge_36 : decode cX9_refuge 36 = .ok (.iconst 0, 1) := by decide +kernel
theorem dX9_refuge_37 : decode cX9_refuge 37 = .ok (.iaload, 1) := by decide +kernel
theorem dX9_refuge_38 : decode cX9_refuge 38 = .ok (.if_icmp .ge 67, 3) := by decide +kernel
theorem dX9_refuge_41 : decode cX9_refuge 41 = .ok (.aload_n 0, 1) := by decide +kernel
theorem dX9_refuge_42 : decode cX9_refuge 42 = .ok (.iload 4, 2) := by decide +kernel
theorem dX9_refuge_44 : decode cX9_refuge 44 = .ok (.iload_n 1, 1) := by decide +kernel
theorem dX9_refuge_45 : decode cX9_refuge 45 = .ok (.invokevirtual 386, 3) := by decide +kernel
theorem dX9_refuge_48 : decode cX9_refuge 48 = .ok (.ifCond .ne 6, 3) := by decide +kernel
theorem dX9_refuge_51 : decode cX9_refuge 51 = .ok (.goto 48, 3) := by decide +kernel
theorem dX9_refuge_54 : decode cX9_refuge 54 = .ok (.aload_n 0, 1) := by decide +kernel
theorem dX9_refuge_55 : decode cX9_refuge 55 = .ok (.getfield 114, 3) := by decide +kernel
theorem dX9_refuge_58 : decode cX9_refuge 58 = .ok (.bipush 8, 2) := by decide +kernel
theorem dX9_refuge_60 : decode cX9_refuge 60 = .ok (.iload_n 1, 1) := by decide +kernel
theorem dX9_refuge_61 : decode cX9_refuge 61 = .ok (.iadd, 1) := by decide +kernel
theorem dX9_refuge_62 : decode cX9_refuge 62 = .ok (.iload 4, 2) := by decide +kernel
theorem dX9_refuge_64 : decode cX9_refuge 64 = .ok (.iconst 1, 1) := by decide +kernel
theorem dX9_refuge_65 : decode cX9_refuge 65 = .ok (.iadd, 1) := by decide +kernel
theorem dX9_refuge_66 : decode cX9_refuge 66 = .ok (.iastore, 1) := by decide +kernel
theorem dX9_refuge_67 : decode cX9_refuge 67 = .ok (.aload_n 0, 1) := by decide +kernel
theorem dX9_refuge_68 : decode cX9_refuge 68 = .ok (.iload_n 1, 1) := by decide +kernel
theorem dX9_refuge_69 : decode cX9_refuge 69 = .ok (.invokevirtual 443, 3) := by decide +kernel
theorem dX9_refuge_72 : decode cX9_refuge 72 = .ok (.istore 5, 2) := by decide +kernel
theorem dX9_refuge_74 : decode cX9_refuge 74 = .ok (.aload_n 0, 1) := by decide +kernel
theorem dX9_refuge_75 : decode cX9_refuge 75 = .ok (.getfield 114, 3) := by decide +kernel
theorem dX9_refuge_78 : decode cX9_refuge 78 = .ok (.bipush 8, 2) := by decide +kernel
theorem dX9_refuge_80 : decode cX9_refuge 80 = .ok (.iload_n 1, 1) := by decide +kernel
theorem dX9_refuge_81 : decode cX9_refuge 81 = .ok (.iadd, 1) := by decide +kernel
theorem dX9_refuge_82 : decode cX9_refuge 82 = .ok (.iconst 0, 1) := by decide +kernel
theorem dX9_refuge_83 : decode cX9_refuge 83 = .ok (.iastore, 1) := by decide +kernel
theorem dX9_refuge_84 : decode cX9_refuge 84 = .ok (.iload 5, 2) := by decide +kernel
theorem dX9_refuge_86 : decode cX9_refuge 86 = .ok (.iload_n 3, 1) := by decide +kernel
theorem dX9_refuge_87 : decode cX9_refuge 87 = .ok (.if_icmp .gt 6, 3) := by decide +kernel
theorem dX9_refuge_90 : decode cX9_refuge 90 = .ok (.goto 9, 3) := by decide +kernel
theorem dX9_refuge_93 : decode cX9_refuge 93 = .ok (.iload 4, 2) := by decide +kernel
theorem dX9_refuge_95 : decode cX9_refuge 95 = .ok (.istore_n 2, 1) := by decide +kernel
theorem dX9_refuge_96 : decode cX9_refuge 96 = .ok (.iload 5, 2) := by decide +kernel
theorem dX9_refuge_98 : decode cX9_refuge 98 = .ok (.istore_n 3, 1) := by decide +kernel
theorem dX9_refuge_99 : decode cX9_refuge 99 = .ok (.iinc 4 1, 3) := by decide +kernel
theorem dX9_refuge_102 : decode cX9_refuge 102 = .ok (.goto (-72), 3) := by decide +kernel
theorem dX9_refuge_105 : decode cX9_refuge 105 = .ok (.iload_n 2, 1) := by decide +kernel
theorem dX9_refuge_106 : decode cX9_refuge 106 = .ok (.ireturn, 1) := by decide +kernel
theorem dX9_goesOn_0 : decode cX9_goesOn 0 = .ok (.iconst 0, 1) := by decide +kernel
theorem dX9_goesOn_1 : decode cX9_goesOn 1 = .ok (.istore_n 2, 1) := by decide +kernel
theorem dX9_goesOn_2 : decode cX9_goesOn 2 = .ok (.iload_n 2, 1) := by decide +kernel
theorem dX9_goesOn_3 : decode cX9_goesOn 3 = .ok (.iload_n 1, 1) := by decide +kernel
theorem dX9_goesOn_4 : decode cX9_goesOn 4 = .ok (.if_icmp .ge 14, 3) := by decide +kernel
theorem dX9_goesOn_7 : decode cX9_goesOn 7 = .ok (.aload_n 0, 1) := by decide +kernel
theorem dX9_goesOn_8 : decode cX9_goesOn 8 = .ok (.invokevirtual 431, 3) := by decide +kernel
theorem dX9_goesOn_11 : decode cX9_goesOn 11 = .ok (.pop, 1) := by decide +kernel
theorem dX9_goesOn_12 : decode cX9_goesOn 12 = .ok (.iinc 2 1, 3) := by decide +kernel
theorem dX9_goesOn_15 : decode cX9_goesOn 15 = .ok (.goto (-13), 3) := by decide +kernel
theorem dX9_goesOn_18 : decode cX9_goesOn 18 = .ok (.return_, 1) := by decide +kernel
theorem dX9_stocks_0 : decode cX9_stocks 0 = .ok (.aload_n 0, 1) := by decide +kernel
theorem dX9_stocks_1 : decode cX9_stocks 1 = .ok (.getfield 446, 3) := by decide +kernel
theorem dX9_stocks_4 : decode cX9_stocks 4 = .ok (.ifCond .lt 12, 3) := by decide +kernel
theorem dX9_stocks_7 : decode cX9_stocks 7 = .ok (.iload_n 2, 1) := by decide +kernel
theorem dX9_stocks_8 : decode cX9_stocks 8 = .ok (.aload_n 0, 1) := by decide +kernel
theorem dX9_stocks_9 : decode cX9_stocks 9 = .ok (.getfield 446, 3) := by decide +kernel
theorem dX9_stocks_12 : decode cX9_stocks 12 = .ok (.if_icmp .lt 4, 3) := by decide +kernel
theorem dX9_stocks_15 : decode cX9_stocks 15 = .ok (.return_, 1) := by decide +kernel
theorem dX9_stocks_16 : decode cX9_stocks 16 = .ok (.iload_n 1, 1) := by decide +kernel
theorem dX9_stocks_17 : decode cX9_stocks 17 = .ok (.aload_n 0, 1) := by decide +kernel
theorem dX9_stocks_18 : decode cX9_stocks 18 = .ok (.getfield 13, 3) := by decide +kernel
theorem dX9_stocks_21 : decode cX9_stocks 21 = .ok (.iconst 0, 1) := by decide +kernel
theorem dX9_stocks_22 : decode cX9_stocks 22 = .ok (.iaload, 1) := by decide +kernel
theorem dX9_stocks_23 : decode cX9_stocks 23 = .ok (.if_icmp .ne 97, 3) := by decide +kernel
theorem dX9_stocks_26 : decode cX9_stocks 26 = .ok (.aload_n 0, 1) := by decide +kernel
theorem dX9_stocks_27 : decode cX9_stocks 27 = .ok (.getfield 114, 3) := by decide +kernel
theorem dX9_stocks_30 : decode cX9_stocks 30 = .ok (.iconst 0, 1) := by decide +kernel
theorem dX9_stocks_31 : decode cX9_stocks 31 = .ok (.aload_n 0, 1) := by decide +kernel
theorem dX9_stocks_32 : decode cX9_stocks 32 = .ok (.getfield 120, 3) := by decide +kernel
theorem dX9_stocks_35 : decode cX9_stocks 35 = .ok (.iconst 0, 1) := by decide +kernel
theorem dX9_stocks_36 : decode cX9_stocks 36 = .ok (.invokestatic 415, 3) := by decide +kernel
theorem dX9_stocks_39 : decode cX9_stocks 39 = .ok (.aload_n 0, 1) := by decide +kernel
theorem dX9_stocks_40 : decode cX9_stocks 40 = .ok (.iload_n 3, 1) := by decide +kernel
theorem dX9_stocks_41 : decode cX9_stocks 41 = .ok (.invokevirtual 449, 3) := by decide +kernel
theorem dX9_stocks_44 : decode cX9_stocks 44 = .ok (.aload_n 0, 1) := by decide +kernel
theorem dX9_stocks_45 : decode cX9_stocks 45 = .ok (.getfield 114, 3) := by decide +kernel
theorem dX9_stocks_48 : decode cX9_stocks 48 = .ok (.iconst 1, 1) := by decide +kernel
theorem dX9_stocks_49 : decode cX9_stocks 49 = .ok (.iaload, 1) := by decide +kernel
theorem dX9_stocks_50 : decode cX9_stocks 50 = .ok (.aload_n 0, 1) := by decide +kernel
theorem dX9_stocks_51 : decode cX9_stocks 51 = .ok (.getfield 120, 3) := by decide +kernel
theorem dX9_stocks_54 : decode cX9_stocks 54 = .ok (.iconst 1, 1) := by decide +kernel
theorem dX9_stocks_55 : decode cX9_stocks 55 = .ok (.iaload, 1) := by decide +kernel
theorem dX9_stocks_56 : decode cX9_stocks 56 = .ok (.if_icmp .ne 7, 3) := by decide +kernel
theorem dX9_stocks_59 : decode cX9_stocks 59 = .ok (.iconst 1, 1) := by decide +kernel
theorem dX9_stocks_60 : decode cX9_stocks 60 = .ok (.goto 4, 3) := by decide +kernel
theorem dX9_stocks_63 : decode cX9_stocks 63 = .ok (.iconst 0, 1) := by decide +kernel
theorem dX9_stocks_64 : decode cX9_stocks 64 = .ok (.istore 4, 2) := by decide +kernel
theorem dX9_stocks_66 : decode cX9_stocks 66 = .ok (.aload_n 0, 1) := by decide +kernel
theorem dX9_stocks_67 : decode cX9_stocks 67 = .ok (.getfield 120, 3) := by decide +kernel
theorem dX9_stocks_70 : decode cX9_stocks 70 = .ok (.iconst 0, 1) := by decide +kernel
theorem dX9_stocks_71 : decode cX9_stocks 71 = .ok (.aload_n 0, 1) := by decide +kernel
theorem dX9_stocks_72 : decode cX9_stocks 72 = .ok (.getfield 114, 3) := by decide +kernel
theorem dX9_stocks_75 : decode cX9_stocks 75 = .ok (.iconst 0, 1) := by decide +kernel
theorem dX9_stocks_76 : decode cX9_stocks 76 = .ok (.invokestatic 415, 3) := by decide +kernel
theorem dX9_stocks_79 : decode cX9_stocks 79 = .ok (.iload 4, 2) := by decide +kernel
theorem dX9_stocks_81 : decode cX9_stocks 81 = .ok (.ifCond .ne 4, 3) := by decide +kernel
theorem dX9_stocks_84 : decode cX9_stocks 84 = .ok (.return_, 1) := by decide +kernel
theorem dX9_stocks_85 : decode cX9_stocks 85 = .ok (.aload_n 0, 1) := by decide +kernel
theorem dX9_stocks_86 : decode cX9_stocks 86 = .ok (.iload_n 2, 1) := by decide +kernel
theorem dX9_stocks_87 : decode cX9_stocks 87 = .ok (.putfield 446, 3) := by decide +kernel
theorem dX9_stocks_90 : decode cX9_stocks 90 = .ok (.iconst 0, 1) := by decide +kernel
theorem dX9_stocks_91 : decode cX9_stocks 91 = .ok (.istore 5, 2) := by decide +kernel
theorem dX9_stocks_93 : decode cX9_stocks 93 = .ok (.iload 5, 2) := by decide +kernel
theorem dX9_stocks_95 : decode cX9_stocks 95 = .ok (.iconst 5, 1) := by decide +kernel
theorem dX9_stocks_96 : decode cX9_stocks 96 = .ok (.if_icmp .ge 23, 3) := by decide +kernel
theorem dX9_stocks_99 : decode cX9_stocks 99 = .ok (.aload_n 0, 1) := by decide +kernel
theorem dX9_stocks_100 : decode cX9_stocks 100 = .ok (.getfield 135, 3) := by decide +kernel
theorem dX9_stocks_103 : decode cX9_stocks 103 = .ok (.iload 5, 2) := by decide +kernel
theorem dX9_stocks_105 : decode cX9_stocks 105 = .ok (.aload_n 0, 1) := by decide +kernel
theorem dX9_stocks_106 : decode cX9_stocks 106 = .ok (.getfield 132, 3) := by decide +kernel
theorem dX9_stocks_109 : decode cX9_stocks 109 = .ok (.iload 5, 2) := by decide +kernel
theorem dX9_stocks_111 : decode cX9_stocks 111 = .ok (.iaload, 1) := by decide +kernel
theorem dX9_stocks_112 : decode cX9_stocks 112 = .ok (.iastore, 1) := by decide +kernel
theorem dX9_stocks_113 : decode cX9_stocks 113 = .ok (.iinc 5 1, 3) := by decide +kernel
theorem dX9_stocks_116 : decode cX9_stocks 116 = .ok (.goto (-23), 3) := by decide +kernel
theorem dX9_stocks_119 : decode cX9_stocks 119 = .ok (.return_, 1) := by decide +kernel
theorem dX9_stocks_120 : decode cX9_stocks 120 = .ok (.aload_n 0, 1) := by decide +kernel
theorem dX9_stocks_121 : decode cX9_stocks 121 = .ok (.getfield 114, 3) := by decide +kernel
theorem dX9_stocks_124 : decode cX9_stocks 124 = .ok (.iconst 3, 1) := by decide +kernel
theorem dX9_stocks_125 : decode cX9_stocks 125 = .ok (.iload_n 1, 1) := by decide +kernel
theorem dX9_stocks_126 : decode cX9_stocks 126 = .ok (.iadd, 1) := by decide +kernel
theorem dX9_stocks_127 : decode cX9_stocks 127 = .ok (.iaload, 1) := by decide +kernel
theorem dX9_stocks_128 : decode cX9_stocks 128 = .ok (.istore 4, 2) := by decide +kernel
theorem dX9_stocks_130 : decode cX9_stocks 130 = .ok (.iconst 0, 1) := by decide +kernel
theorem dX9_stocks_131 : decode cX9_stocks 131 = .ok (.istore 5, 2) := by decide +kernel
theorem dX9_stocks_133 : decode cX9_stocks 133 = .ok (.iload 5, 2) := by decide +kernel
theorem dX9_stocks_135 : decode cX9_stocks 135 = .ok (.iconst 4, 1) := by decide +kernel
theorem dX9_stocks_136 : decode cX9_stocks 136 = .ok (.if_icmp .ge 54, 3) := by decide +kernel
theorem dX9_stocks_139 : decode cX9_stocks 139 = .ok (.aload_n 0, 1) := by decide +kernel
theorem dX9_stocks_140 : decode cX9_stocks 140 = .ok (.getfield 132, 3) := by decide +kernel
theorem dX9_stocks_143 : decode cX9_stocks 143 = .ok (.iload_n 1, 1) := by decide +kernel
theorem dX9_stocks_144 : decode cX9_stocks 144 = .ok (.iload 5, 2) := by decide +kernel
theorem dX9_stocks_146 : decode cX9_stocks 146 = .ok (.iastore, 1) := by decide +kernel
theorem dX9_stocks_147 : decode cX9_stocks 147 = .ok (.aload_n 0, 1) := by decide +kernel
theorem dX9_stocks_148 : decode cX9_stocks 148 = .ok (.getfield 114, 3) := by decide +kernel
theorem dX9_stocks_151 : decode cX9_stocks 151 = .ok (.iconst 3, 1) := by decide +kernel
theorem dX9_stocks_152 : decode cX9_stocks 152 = .ok (.iload_n 1, 1) := by decide +kernel
theorem dX9_stocks_153 : decode cX9_stocks 153 = .ok (.iadd, 1) := by decide +kernel
theorem dX9_stocks_154 : decode cX9_stocks 154 = .ok (.bipush 99, 2) := by decide +kernel
theorem dX9_stocks_156 : decode cX9_stocks 156 = .ok (.iload 4, 2) := by decide +kernel
theorem dX9_stocks_158 : decode cX9_stocks 158 = .ok (.iload 5, 2) := by decide +kernel
theorem dX9_stocks_160 : decode cX9_stocks 160 = .ok (.aload_n 0, 1) := by decide +kernel
theorem dX9_stocks_161 : decode cX9_stocks 161 = .ok (.getfield 13, 3) := by decide +kernel
theorem dX9_stocks_164 : decode cX9_stocks 164 = .ok (.iconst 2, 1) := by decide +kernel
theorem dX9_stocks_165 : decode cX9_stocks 165 = .ok (.iaload, 1) := by decide +kernel
theorem dX9_stocks_166 : decode cX9_stocks 166 = .ok (.imul, 1) := by decide +kernel
theorem dX9_stocks_167 : decode cX9_stocks 167 = .ok (.iadd, 1) := by decide +kernel
theorem dX9_stocks_168 : decode cX9_stocks 168 = .ok (.invokestatic 389, 3) := by decide +kernel
theorem dX9_stocks_171 : decode cX9_stocks 171 = .ok (.iastore, 1) := by decide +kernel
theorem dX9_stocks_172 : decode cX9_stocks 172 = .ok (.aload_n 0, 1) := by decide +kernel
theorem dX9_stocks_173 : decode cX9_stocks 173 = .ok (.iload_n 1, 1) := by decide +kernel
theorem dX9_stocks_174 : decode cX9_stocks 174 = .ok (.iconst 1, 1) := by decide +kernel
theorem dX9_stocks_175 : decode cX9_stocks 175 = .ok (.iadd, 1) := by decide +kernel
theorem dX9_stocks_176 : decode cX9_stocks 176 = .ok (.iload_n 2, 1) := by decide +kernel
theorem dX9_stocks_177 : decode cX9_stocks 177 = .ok (.iload 5, 2) := by decide +kernel
theorem dX9_stocks_179 : decode cX9_stocks 179 = .ok (.iadd, 1) := by decide +kernel
theorem dX9_stocks_180 : decode cX9_stocks 180 = .ok (.iload_n 3, 1) := by decide +kernel
theorem dX9_stocks_181 : decode cX9_stocks 181 = .ok (.invokevirtual 452, 3) := by decide +kernel
theorem dX9_stocks_184 : decode cX9_stocks 184 = .ok (.iinc 5 1, 3) := by decide +kernel
theorem dX9_stocks_187 : decode cX9_stocks 187 = .ok (.goto (-54), 3) := by decide +kernel
theorem dX9_stocks_190 : decode cX9_stocks 190 = .ok (.aload_n 0, 1) := by decide +kernel
theorem dX9_stocks_191 : decode cX9_stocks 191 = .ok (.getfield 114, 3) := by decide +kernel
theorem dX9_stocks_194 : decode cX9_stocks 194 = .ok (.iconst 3, 1) := by decide +kernel
theorem dX9_stocks_195 : decode cX9_stocks 195 = .ok (.iload_n 1, 1) := by decide +kernel
theorem dX9_stocks_196 : decode cX9_stocks 196 = .ok (.iadd, 1) := by decide +kernel
theorem dX9_stocks_197 : decode cX9_stocks 197 = .ok (.iload 4, 2) := by decide +kernel
theorem dX9_stocks_199 : decode cX9_stocks 199 = .ok (.iastore, 1) := by decide +kernel
theorem dX9_stocks_200 : decode cX9_stocks 200 = .ok (.return_, 1) := by decide +kernel
theorem dX9_sacks_0 : decode cX9_sacks 0 = .ok (.aload_n 0, 1) := by decide +kernel
theorem dX9_sacks_1 : decode cX9_sacks 1 = .ok (.iconst 0, 1) := by decide +kernel
theorem dX9_sacks_2 : decode cX9_sacks 2 = .ok (.putfield 142, 3) := by decide +kernel
theorem dX9_sacks_5 : decode cX9_sacks 5 = .ok (.iload_n 1, 1) := by decide +kernel
theorem dX9_sacks_6 : decode cX9_sacks 6 = .ok (.iconst 1, 1) := by decide +kernel
theorem dX9_sacks_7 : decode cX9_sacks 7 = .ok (.bipush 30, 2) := by decide +kernel
theorem dX9_sacks_9 : decode cX9_sacks 9 = .ok (.invokestatic 266, 3) := by decide +kernel
theorem dX9_sacks_12 : decode cX9_sacks 12 = .ok (.ifCond .eq 19, 3) := by decide +kernel
theorem dX9_sacks_15 : decode cX9_sacks 15 = .ok (.iload_n 2, 1) := by decide +kernel
theorem dX9_sacks_16 : decode cX9_sacks 16 = .ok (.iconst (-1), 1) := by decide +kernel
theorem dX9_sacks_17 : decode cX9_sacks 17 = .ok (.aload_n 0, 1) := by decide +kernel
theorem dX9_sacks_18 : decode cX9_sacks 18 = .ok (.getfield 13, 3) := by decide +kernel
theorem dX9_sacks_21 : decode cX9_sacks 21 = .ok (.iconst 0, 1) := by decide +kernel
theorem dX9_sacks_22 : decode cX9_sacks 22 = .ok (.iaload, 1) := by decide +kernel
theorem dX9_sacks_23 : decode cX9_sacks 23 = .ok (.iconst 1, 1) := by decide +kernel
theorem dX9_sacks_24 : decode cX9_sacks 24 = .ok (.isub, 1) := by decide +kernel
theorem dX9_sacks_25 : decode cX9_sacks 25 = .ok (.invokestatic 266, 3) := by decide +kernel
theorem dX9_sacks_28 : decode cX9_sacks 28 = .ok (.ifCond .ne 6, 3) := by decide +kernel
theorem dX9_sacks_31 : decode cX9_sacks 31 = .ok (.bipush (-2), 2) := by decide +kernel
theorem dX9_sacks_33 : decode cX9_sacks 33 = .ok (.ireturn, 1) := by decide +kernel
theorem dX9_sacks_34 : decode cX9_sacks 34 = .ok (.aload_n 0, 1) := by decide +kernel
theorem dX9_sacks_35 : decode cX9_sacks 35 = .ok (.iconst (-1), 1) := by decide +kernel
theorem dX9_sacks_36 : decode cX9_sacks 36 = .ok (.putfield 446, 3) := by decide +kernel
theorem dX9_sacks_39 : decode cX9_sacks 39 = .ok (.aload_n 0, 1) := by decide +kernel
theorem dX9_sacks_40 : decode cX9_sacks 40 = .ok (.iconst 0, 1) := by decide +kernel
theorem dX9_sacks_41 : decode cX9_sacks 41 = .ok (.iconst 0, 1) := by decide +kernel
theorem dX9_sacks_42 : decode cX9_sacks 42 = .ok (.iload_n 1, 1) := by decide +kernel
theorem dX9_sacks_43 : decode cX9_sacks 43 = .ok (.invokevirtual 452, 3) := by decide +kernel
theorem dX9_sacks_46 : decode cX9_sacks 46 = .ok (.aload_n 0, 1) := by decide +kernel
theorem dX9_sacks_47 : decode cX9_sacks 47 = .ok (.getfield 446, 3) := by decide +kernel
theorem dX9_sacks_50 : decode cX9_sacks 50 = .ok (.ifCond .ge 6, 3) := by decide +kernel
theorem dX9_sacks_53 : decode cX9_sacks 53 = .ok (.bipush (-2), 2) := by decide +kernel
theorem dX9_sacks_55 : decode cX9_sacks 55 = .ok (.ireturn, 1) := by decide +kernel
theorem dX9_sacks_56 : decode cX9_sacks 56 = .ok (.iload_n 2, 1) := by decide +kernel
theorem dX9_sacks_57 : decode cX9_sacks 57 = .ok (.iconst (-1), 1) := by decide +kernel
theorem dX9_sacks_58 : decode cX9_sacks 58 = .ok (.if_icmp .ne 10, 3) := by decide +kernel
theorem dX9_sacks_61 : decode cX9_sacks 61 = .ok (.aload_n 0, 1) := by decide +kernel
theorem dX9_sacks_62 : decode cX9_sacks 62 = .ok (.getfield 446, 3) := by decide +kernel
theorem dX9_sacks_65 : decode cX9_sacks 65 = .ok (.goto 9, 3) := by decide +kernel
theorem dX9_sacks_68 : decode cX9_sacks 68 = .ok (.aload_n 0, 1) := by decide +kernel
theorem dX9_sacks_69 : decode cX9_sacks 69 = .ok (.getfield 135, 3) := by decide +kernel
theorem dX9_sacks_72 : decode cX9_sacks 72 = .ok (.iload_n 2, 1) := by decide +kernel
theorem dX9_sacks_73 : decode cX9_sacks 73 = .ok (.iaload, 1) := by decide +kernel
theorem dX9_sacks_74 : decode cX9_sacks 74 = .ok (.ireturn, 1) := by decide +kernel
theorem dX9_lodges_0 : decode cX9_lodges 0 = .ok (.iload_n 1, 1) := by decide +kernel
theorem dX9_lodges_1 : decode cX9_lodges 1 = .ok (.aload_n 0, 1) := by decide +kernel
theorem dX9_lodges_2 : decode cX9_lodges 2 = .ok (.getfield 13, 3) := by decide +kernel
theorem dX9_lodges_5 : decode cX9_lodges 5 = .ok (.iconst 1, 1) := by decide +kernel
theorem dX9_lodges_6 : decode cX9_lodges 6 = .ok (.iaload, 1) := by decide +kernel
theorem dX9_lodges_7 : decode cX9_lodges 7 = .ok (.if_icmp .ne 164, 3) := by decide +kernel
theorem dX9_lodges_10 : decode cX9_lodges 10 = .ok (.aload_n 0, 1) := by decide +kernel
theorem dX9_lodges_11 : decode cX9_lodges 11 = .ok (.getfield 114, 3) := by decide +kernel
theorem dX9_lodges_14 : decode cX9_lodges 14 = .ok (.iconst 0, 1) := by decide +kernel
theorem dX9_lodges_15 : decode cX9_lodges 15 = .ok (.aload_n 0, 1) := by decide +kernel
theorem dX9_lodges_16 : decode cX9_lodges 16 = .ok (.getfield 120, 3) := by decide +kernel
theorem dX9_lodges_19 : decode cX9_lodges 19 = .ok (.iconst 0, 1) := by decide +kernel
theorem dX9_lodges_20 : decode cX9_lodges 20 = .ok (.invokestatic 415, 3) := by decide +kernel
theorem dX9_lodges_23 : decode cX9_lodges 23 = .ok (.aload_n 0, 1) := by decide +kernel
theorem dX9_lodges_24 : decode cX9_lodges 24 = .ok (.iload_n 2, 1) := by decide +kernel
theorem dX9_lodges_25 : decode cX9_lodges 25 = .ok (.invokevirtual 449, 3) := by decide +kernel
theorem dX9_lodges_28 : decode cX9_lodges 28 = .ok (.aload_n 0, 1) := by decide +kernel
theorem dX9_lodges_29 : decode cX9_lodges 29 = .ok (.getfield 114, 3) := by decide +kernel
theorem dX9_lodges_32 : decode cX9_lodges 32 = .ok (.iconst 1, 1) := by decide +kernel
theorem dX9_lodges_33 : decode cX9_lodges 33 = .ok (.iaload, 1) := by decide +kernel
theorem dX9_lodges_34 : decode cX9_lodges 34 = .ok (.invokestatic 380, 3) := by decide +kernel
theorem dX9_lodges_37 : decode cX9_lodges 37 = .ok (.istore_n 3, 1) := by decide +kernel
theorem dX9_lodges_38 : decode cX9_lodges 38 = .ok (.iconst 0, 1) := by decide +kernel
theorem dX9_lodges_39 : decode cX9_lodges 39 = .ok (.istore 4, 2) := by decide +kernel
theorem dX9_lodges_41 : decode cX9_lodges 41 = .ok (.iconst 0, 1) := by decide +kernel
theorem dX9_lodges_42 : decode cX9_lodges 42 = .ok (.istore 5, 2) := by decide +kernel
theorem dX9_lodges_44 : decode cX9_lodges 44 = .ok (.iload 5, 2) := by decide +kernel
theorem dX9_lodges_46 : decode cX9_lodges 46 = .ok (.aload_n 0, 1) := by decide +kernel
theorem dX9_lodges_47 : decode cX9_lodges 47 = .ok (.getfield 13, 3) := by decide +kernel
theorem dX9_lodges_50 : decode cX9_lodges 50 = .ok (.iconst 1, 1) := by decide +kernel
theorem dX9_lodges_51 : decode cX9_lodges 51 = .ok (.iaload, 1) := by decide +kernel
theorem dX9_lodges_52 : decode cX9_lodges 52 = .ok (.if_icmp .ge 32, 3) := by decide +kernel
theorem dX9_lodges_55 : decode cX9_lodges 55 = .ok (.iload 4, 2) := by decide +kernel
theorem dX9_lodges_57 : decode cX9_lodges 57 = .ok (.aload_n 0, 1) := by decide +kernel
theorem dX9_lodges_58 : decode cX9_lodges 58 = .ok (.getfield 114, 3) := by decide +kernel
theorem dX9_lodges_61 : decode cX9_lodges 61 = .ok (.bipush 8, 2) := by decide +kernel
theorem dX9_lodges_63 : decode cX9_lodges 63 = .ok (.iload 5, 2) := by decide +kernel
theorem dX9_lodges_65 : decode cX9_lodges 65 = .ok (.iadd, 1) := by decide +kernel
theorem dX9_lodges_66 : decode cX9_lodges 66 = .ok (.iaload, 1) := by decide +kernel
theorem dX9_lodges_67 : decode cX9_lodges 67 = .ok (.ifCond .le 7, 3) := by decide +kernel
theorem dX9_lodges_70 : decode cX9_lodges 70 = .ok (.iconst 1, 1) := by decide +kernel
theorem dX9_lodges_71 : decode cX9_lodges 71 = .ok (.goto 4, 3) := by decide +kernel
theorem dX9_lodges_74 : decode cX9_lodges 74 = .ok (.iconst 0, 1) := by decide +kernel
theorem dX9_lodges_75 : decode cX9_lodges 75 = .ok (.iadd, 1) := by decide +kernel
theorem dX9_lodges_76 : decode cX9_lodges 76 = .ok (.istore 4, 2) := by decide +kernel
theorem dX9_lodges_78 : decode cX9_lodges 78 = .ok (.iinc 5 1, 3) := by decide +kernel
theorem dX9_lodges_81 : decode cX9_lodges 81 = .ok (.goto (-37), 3) := by decide +kernel
theorem dX9_lodges_84 : decode cX9_lodges 84 = .ok (.aload_n 0, 1) := by decide +kernel
theorem dX9_lodges_85 : decode cX9_lodges 85 = .ok (.getfield 120, 3) := by decide +kernel
theorem dX9_lodges_88 : decode cX9_lodges 88 = .ok (.iconst 0, 1) := by decide +kernel
theorem dX9_lodges_89 : decode cX9_lodges 89 = .ok (.aload_n 0, 1) := by decide +kernel
theorem dX9_lodges_90 : decode cX9_lodges 90 = .ok (.getfield 114, 3) := by decide +kernel
theorem dX9_lodges_93 : decode cX9_lodges 93 = .ok (.iconst 0, 1) := by decide +kernel
theorem dX9_lodges_94 : decode cX9_lodges 94 = .ok (.invokestatic 415, 3) := by decide +kernel
theorem dX9_lodges_97 : decode cX9_lodges 97 = .ok (.aload_n 0, 1) := by decide +kernel
theorem dX9_lodges_98 : decode cX9_lodges 98 = .ok (.getfield 456, 3) := by decide +kernel
theorem dX9_lodges_101 : decode cX9_lodges 101 = .ok (.ifCond .lt 29, 3) := by decide +kernel
theorem dX9_lodges_104 : decode cX9_lodges 104 = .ok (.iload_n 3, 1) := by decide +kernel
theorem dX9_lodges_105 : decode cX9_lodges 105 = .ok (.aload_n 0, 1) := by decide +kernel
theorem dX9_lodges_106 : decode cX9_lodges 106 = .ok (.getfield 456, 3) := by decide +kernel
theorem dX9_lodges_109 : decode cX9_lodges 109 = .ok (.if_icmp .gt 20, 3) := by decide +kernel
theorem dX9_lodges_112 : decode cX9_lodges 112 = .ok (.iload_n 3, 1) := by decide +kernel
theorem dX9_lodges_113 : decode cX9_lodges 113 = .ok (.aload_n 0, 1) := by decide +kernel
theorem dX9_lodges_114 : decode cX9_lodges 114 = .ok (.getfield 456, 3) := by decide +kernel
theorem dX9_lodges_117 : decode cX9_lodges 117 = .ok (.if_icmp .ne 13, 3) := by decide +kernel
theorem dX9_lodges_120 : decode cX9_lodges 120 = .ok (.iload 4, 2) := by decide +kernel
theorem dX9_lodges_122 : decode cX9_lodges 122 = .ok (.aload_n 0, 1) := by decide +kernel
theorem dX9_lodges_123 : decode cX9_lodges 123 = .ok (.getfield 459, 3) := by decide +kernel
theorem dX9_lodges_126 : decode cX9_lodges 126 = .ok (.if_icmp .gt 4, 3) := by decide +kernel
theorem dX9_lodges_129 : decode cX9_lodges 129 = .ok (.return_, 1) := by decide +kernel
theorem dX9_lodges_130 : decode cX9_lodges 130 = .ok (.aload_n 0, 1) := by decide +kernel
theorem dX9_lodges_131 : decode cX9_lodges 131 = .ok (.iload_n 3, 1) := by decide +kernel
theorem dX9_lodges_132 : decode cX9_lodges 132 = .ok (.putfield 456, 3) := by decide +kernel
theorem dX9_lodges_135 : decode cX9_lodges 135 = .ok (.aload_n 0, 1) := by decide +kernel
theorem dX9_lodges_136 : decode cX9_lodges 136 = .ok (.iload 4, 2) := by decide +kernel
theorem dX9_lodges_138 : decode cX9_lodges 138 = .ok (.putfield 459, 3) := by decide +kernel
theorem dX9_lodges_141 : decode cX9_lodges 141 = .ok (.iconst 0, 1) := by decide +kernel
theorem dX9_lodges_142 : decode cX9_lodges 142 = .ok (.istore 5, 2) := by decide +kernel
theorem dX9_lodges_144 : decode cX9_lodges 144 = .ok (.iload 5, 2) := by decide +kernel
theorem dX9_lodges_146 : decode cX9_lodges 146 = .ok (.iconst 5, 1) := by decide +kernel
theorem dX9_lodges_147 : decode cX9_lodges 147 = .ok (.if_icmp .ge 23, 3) := by decide +kernel
theorem dX9_lodges_150 : decode cX9_lodges 150 = .ok (.aload_n 0, 1) := by decide +kernel
theorem dX9_lodges_151 : decode cX9_lodges 151 = .ok (.getfield 135, 3) := by decide +kernel
theorem dX9_lodges_154 : decode cX9_lodges 154 = .ok (.iload 5, 2) := by decide +kernel
theorem dX9_lodges_156 : decode cX9_lodges 156 = .ok (.aload_n 0, 1) := by decide +kernel
theorem dX9_lodges_157 : decode cX9_lodges 157 = .ok (.getfield 132, 3) := by decide +kernel
theorem dX9_lodges_160 : decode cX9_lodges 160 = .ok (.iload 5, 2) := by decide +kernel
theorem dX9_lodges_162 : decode cX9_lodges 162 = .ok (.iaload, 1) := by decide +kernel
theorem dX9_lodges_163 : decode cX9_lodges 163 = .ok (.iastore, 1) := by decide +kernel
theorem dX9_lodges_164 : decode cX9_lodges 164 = .ok (.iinc 5 1, 3) := by decide +kernel
theorem dX9_lodges_167 : decode cX9_lodges 167 = .ok (.goto (-23), 3) := by decide +kernel
theorem dX9_lodges_170 : decode cX9_lodges 170 = .ok (.return_, 1) := by decide +kernel
theorem dX9_lodges_171 : decode cX9_lodges 171 = .ok (.aload_n 0, 1) := by decide +kernel
theorem dX9_lodges_172 : decode cX9_lodges 172 = .ok (.getfield 132, 3) := by decide +kernel
theorem dX9_lodges_175 : decode cX9_lodges 175 = .ok (.iload_n 1, 1) := by decide +kernel
theorem dX9_lodges_176 : decode cX9_lodges 176 = .ok (.iconst (-1), 1) := by decide +kernel
theorem dX9_lodges_177 : decode cX9_lodges 177 = .ok (.iastore, 1) := by decide +kernel
theorem dX9_lodges_178 : decode cX9_lodges 178 = .ok (.aload_n 0, 1) := by decide +kernel
theorem dX9_lodges_179 : decode cX9_lodges 179 = .ok (.iload_n 1, 1) := by decide +kernel
theorem dX9_lodges_180 : decode cX9_lodges 180 = .ok (.invokevirtual 367, 3) := by decide +kernel
theorem dX9_lodges_183 : decode cX9_lodges 183 = .ok (.ifCond .eq 77, 3) := by decide +kernel
theorem dX9_lodges_186 : decode cX9_lodges 186 = .ok (.iconst 0, 1) := by decide +kernel
theorem dX9_lodges_187 : decode cX9_lodges 187 = .ok (.istore_n 3, 1) := by decide +kernel
theorem dX9_lodges_188 : decode cX9_lodges 188 = .ok (.iload_n 3, 1) := by decide +kernel
theorem dX9_lodges_189 : decode cX9_lodges 189 = .ok (.aload_n 0, 1) := by decide +kernel
theorem dX9_lodges_190 : decode cX9_lodges 190 = .ok (.getfield 13, 3) := by decide +kernel
theorem dX9_lodges_193 : decode cX9_lodges 193 = .ok (.iconst 0, 1) := by decide +kernel
theorem dX9_lodges_194 : decode cX9_lodges 194 = .ok (.iaload, 1) := by decide +kernel
theorem dX9_lodges_195 : decode cX9_lodges 195 = .ok (.if_icmp .ge 58, 3) := by decide +kernel
theorem dX9_lodges_198 : decode cX9_lodges 198 = .ok (.aload_n 0, 1) := by decide +kernel
theorem dX9_lodges_199 : decode cX9_lodges 199 = .ok (.iload_n 3, 1) := by decide +kernel
theorem dX9_lodges_200 : decode cX9_lodges 200 = .ok (.iload_n 1, 1) := by decide +kernel
theorem dX9_lodges_201 : decode cX9_lodges 201 = .ok (.invokevirtual 386, 3) := by decide +kernel
theorem dX9_lodges_204 : decode cX9_lodges 204 = .ok (.ifCond .ne 6, 3) := by decide +kernel
theorem dX9_lodges_207 : decode cX9_lodges 207 = .ok (.goto 40, 3) := by decide +kernel
theorem dX9_lodges_210 : decode cX9_lodges 210 = .ok (.aload_n 0, 1) := by decide +kernel
theorem dX9_lodges_211 : decode cX9_lodges 211 = .ok (.getfield 132, 3) := by decide +kernel
theorem dX9_lodges_214 : decode cX9_lodges 214 = .ok (.iload_n 1, 1) := by decide +kernel
theorem dX9_lodges_215 : decode cX9_lodges 215 = .ok (.iload_n 3, 1) := by decide +kernel
theorem dX9_lodges_216 : decode cX9_lodges 216 = .ok (.iastore, 1) := by decide +kernel
theorem dX9_lodges_217 : decode cX9_lodges 217 = .ok (.aload_n 0, 1) := by decide +kernel
theorem dX9_lodges_218 : decode cX9_lodges 218 = .ok (.getfield 114, 3) := by decide +kernel
theorem dX9_lodges_221 : decode cX9_lodges 221 = .ok (.bipush 8, 2) := by decide +kernel
theorem dX9_lodges_223 : decode cX9_lodges 223 = .ok (.iload_n 1, 1) := by decide +kernel
theorem dX9_lodges_224 : decode cX9_lodges 224 = .ok (.iadd, 1) := by decide +kernel
theorem dX9_lodges_225 : decode cX9_lodges 225 = .ok (.iload_n 3, 1) := by decide +kernel
theorem dX9_lodges_226 : decode cX9_lodges 226 = .ok (.iconst 1, 1) := by decide +kernel
theorem dX9_lodges_227 : decode cX9_lodges 227 = .ok (.iadd, 1) := by decide +kernel
theorem dX9_lodges_228 : decode cX9_lodges 228 = .ok (.iastore, 1) := by decide +kernel
theorem dX9_lodges_229 : decode cX9_lodges 229 = .ok (.aload_n 0, 1) := by decide +kernel
theorem dX9_lodges_230 : decode cX9_lodges 230 = .ok (.iload_n 1, 1) := by decide +kernel
theorem dX9_lodges_231 : decode cX9_lodges 231 = .ok (.iconst 1, 1) := by decide +kernel
theorem dX9_lodges_232 : decode cX9_lodges 232 = .ok (.iadd, 1) := by decide +kernel
theorem dX9_lodges_233 : decode cX9_lodges 233 = .ok (.iload_n 2, 1) := by decide +kernel
theorem dX9_lodges_234 : decode cX9_lodges 234 = .ok (.invokevirtual 462, 3) := by decide +kernel
theorem dX9_lodges_237 : decode cX9_lodges 237 = .ok (.aload_n 0, 1) := by decide +kernel
theorem dX9_lodges_238 : decode cX9_lodges 238 = .ok (.getfield 114, 3) := by decide +kernel
theorem dX9_lodges_241 : decode cX9_lodges 241 = .ok (.bipush 8, 2) := by decide +kernel
theorem dX9_lodges_243 : decode cX9_lodges 243 = .ok (.iload_n 1, 1) := by decide +kernel
theorem dX9_lodges_244 : decode cX9_lodges 244 = .ok (.iadd, 1) := by decide +kernel
theorem dX9_lodges_245 : decode cX9_lodges 245 = .ok (.iconst 0, 1) := by decide +kernel
theorem dX9_lodges_246 : decode cX9_lodges 246 = .ok (.iastore, 1) := by decide +kernel
theorem dX9_lodges_247 : decode cX9_lodges 247 = .ok (.iinc 3 1, 3) := by decide +kernel
theorem dX9_lodges_250 : decode cX9_lodges 250 = .ok (.goto (-62), 3) := by decide +kernel
theorem dX9_lodges_253 : decode cX9_lodges 253 = .ok (.aload_n 0, 1) := by decide +kernel
theorem dX9_lodges_254 : decode cX9_lodges 254 = .ok (.getfield 132, 3) := by decide +kernel
theorem dX9_lodges_257 : decode cX9_lodges 257 = .ok (.iload_n 1, 1) := by decide +kernel
theorem dX9_lodges_258 : decode cX9_lodges 258 = .ok (.iconst (-1), 1) := by decide +kernel
theorem dX9_lodges_259 : decode cX9_lodges 259 = .ok (.iastore, 1) := by decide +kernel
theorem dX9_lodges_260 : decode cX9_lodges 260 = .ok (.aload_n 0, 1) := by decide +kernel
theorem dX9_lodges_261 : decode cX9_lodges 261 = .ok (.iload_n 1, 1) := by decide +kernel
theorem dX9_lodges_262 : decode cX9_lodges 262 = .ok (.iconst 1, 1) := by decide +kernel
theorem dX9_lodges_263 : decode cX9_lodges 263 = .ok (.iadd, 1) := by decide +kernel
theorem dX9_lodges_264 : decode cX9_lodges 264 = .ok (.iload_n 2, 1) := by decide +kernel
theorem dX9_lodges_265 : decode cX9_lodges 265 = .ok (.invokevirtual 462, 3) := by decide +kernel
theorem dX9_lodges_268 : decode cX9_lodges 268 = .ok (.return_, 1) := by decide +kernel
theorem dX9_lodging_0 : decode cX9_lodging 0 = .ok (.aload_n 0, 1) := by decide +kernel
theorem dX9_lodging_1 : decode cX9_lodging 1 = .ok (.iconst 0, 1) := by decide +kernel
theorem dX9_lodging_2 : decode cX9_lodging 2 = .ok (.putfield 142, 3) := by decide +kernel
theorem dX9_lodging_5 : decode cX9_lodging 5 = .ok (.iload_n 1, 1) := by decide +kernel
theorem dX9_lodging_6 : decode cX9_lodging 6 = .ok (.iconst 1, 1) := by decide +kernel
theorem dX9_lodging_7 : decode cX9_lodging 7 = .ok (.bipush 30, 2) := by decide +kernel
theorem dX9_lodging_9 : decode cX9_lodging 9 = .ok (.invokestatic 266, 3) := by decide +kernel
theorem dX9_lodging_12 : decode cX9_lodging 12 = .ok (.ifCond .eq 16, 3) := by decide +kernel
theorem dX9_lodging_15 : decode cX9_lodging 15 = .ok (.iload_n 2, 1) := by decide +kernel
theorem dX9_lodging_16 : decode cX9_lodging 16 = .ok (.iconst (-1), 1) := by decide +kernel
theorem dX9_lodging_17 : decode cX9_lodging 17 = .ok (.if_icmp .eq 14, 3) := by decide +kernel
theorem dX9_lodging_20 : decode cX9_lodging 20 = .ok (.aload_n 0, 1) := by decide +kernel
theorem dX9_lodging_21 : decode cX9_lodging 21 = .ok (.iload_n 2, 1) := by decide +kernel
theorem dX9_lodging_22 : decode cX9_lodging 22 = .ok (.invokevirtual 409, 3) := by decide +kernel
theorem dX9_lodging_25 : decode cX9_lodging 25 = .ok (.ifCond .ne 6, 3) := by decide +kernel
theorem dX9_lodging_28 : decode cX9_lodging 28 = .ok (.bipush (-2), 2) := by decide +kernel
theorem dX9_lodging_30 : decode cX9_lodging 30 = .ok (.ireturn, 1) := by decide +kernel
theorem dX9_lodging_31 : decode cX9_lodging 31 = .ok (.aload_n 0, 1) := by decide +kernel
theorem dX9_lodging_32 : decode cX9_lodging 32 = .ok (.iconst (-1), 1) := by decide +kernel
theorem dX9_lodging_33 : decode cX9_lodging 33 = .ok (.putfield 456, 3) := by decide +kernel
theorem dX9_lodging_36 : decode cX9_lodging 36 = .ok (.aload_n 0, 1) := by decide +kernel
theorem dX9_lodging_37 : decode cX9_lodging 37 = .ok (.iconst 0, 1) := by decide +kernel
theorem dX9_lodging_38 : decode cX9_lodging 38 = .ok (.putfield 459, 3) := by decide +kernel
theorem dX9_lodging_41 : decode cX9_lodging 41 = .ok (.aload_n 0, 1) := by decide +kernel
theorem dX9_lodging_42 : decode cX9_lodging 42 = .ok (.iconst 0, 1) := by decide +kernel
theorem dX9_lodging_43 : decode cX9_lodging 43 = .ok (.iload_n 1, 1) := by decide +kernel
theorem dX9_lodging_44 : decode cX9_lodging 44 = .ok (.invokevirtual 462, 3) := by decide +kernel
theorem dX9_lodging_47 : decode cX9_lodging 47 = .ok (.iload_n 2, 1) := by decide +kernel
theorem dX9_lodging_48 : decode cX9_lodging 48 = .ok (.iconst (-1), 1) := by decide +kernel
theorem dX9_lodging_49 : decode cX9_lodging 49 = .ok (.if_icmp .ne 10, 3) := by decide +kernel
theorem dX9_lodging_52 : decode cX9_lodging 52 = .ok (.aload_n 0, 1) := by decide +kernel
theorem dX9_lodging_53 : decode cX9_lodging 53 = .ok (.getfield 456, 3) := by decide +kernel
theorem dX9_lodging_56 : decode cX9_lodging 56 = .ok (.goto 9, 3) := by decide +kernel
theorem dX9_lodging_59 : decode cX9_lodging 59 = .ok (.aload_n 0, 1) := by decide +kernel
theorem dX9_lodging_60 : decode cX9_lodging 60 = .ok (.getfield 135, 3) := by decide +kernel
theorem dX9_lodging_63 : decode cX9_lodging 63 = .ok (.iload_n 2, 1) := by decide +kernel
theorem dX9_lodging_64 : decode cX9_lodging 64 = .ok (.iaload, 1) := by decide +kernel
theorem dX9_lodging_65 : decode cX9_lodging 65 = .ok (.ireturn, 1) := by decide +kernel
theorem dX9_note_0 : decode cX9_note 0 = .ok (.aload_n 0, 1) := by decide +kernel
theorem dX9_note_1 : decode cX9_note 1 = .ok (.iconst 0, 1) := by decide +kernel
theorem dX9_note_2 : decode cX9_note 2 = .ok (.putfield 142, 3) := by decide +kernel
theorem dX9_note_5 : decode cX9_note 5 = .ok (.aload_n 0, 1) := by decide +kernel
theorem dX9_note_6 : decode cX9_note 6 = .ok (.iload_n 1, 1) := by decide +kernel
theorem dX9_note_7 : decode cX9_note 7 = .ok (.invokevirtual 403, 3) := by decide +kernel
theorem dX9_note_10 : decode cX9_note 10 = .ok (.ifCond .eq 11, 3) := by decide +kernel
theorem dX9_note_13 : decode cX9_note 13 = .ok (.aload_n 0, 1) := by decide +kernel
theorem dX9_note_14 : decode cX9_note 14 = .ok (.iload_n 2, 1) := by decide +kernel
theorem dX9_note_15 : decode cX9_note 15 = .ok (.invokevirtual 403, 3) := by decide +kernel
theorem dX9_note_18 : decode cX9_note 18 = .ok (.ifCond .ne 5, 3) := by decide +kernel
theorem dX9_note_21 : decode cX9_note 21 = .ok (.iconst (-1), 1) := by decide +kernel
theorem dX9_note_22 : decode cX9_note 22 = .ok (.ireturn, 1) := by decide +kernel
theorem dX9_note_23 : decode cX9_note 23 = .ok (.iconst 1, 1) := by decide +kernel
theorem dX9_note_24 : decode cX9_note 24 = .ok (.iload_n 1, 1) := by decide +kernel
theorem dX9_note_25 : decode cX9_note 25 = .ok (.ishl, 1) := by decide +kernel
theorem dX9_note_26 : decode cX9_note 26 = .ok (.istore_n 3, 1) := by decide +kernel
theorem dX9_note_27 : decode cX9_note 27 = .ok (.iconst 0, 1) := by decide +kernel
theorem dX9_note_28 : decode cX9_note 28 = .ok (.istore 4, 2) := by decide +kernel
theorem dX9_note_30 : decode cX9_note 30 = .ok (.iload 4, 2) := by decide +kernel
theorem dX9_note_32 : decode cX9_note 32 = .ok (.iconst 5, 1) := by decide +kernel
theorem dX9_note_33 : decode cX9_note 33 = .ok (.if_icmp .ge 73, 3) := by decide +kernel
theorem dX9_note_36 : decode cX9_note 36 = .ok (.iload_n 3, 1) := by decide +kernel
theorem dX9_note_37 : decode cX9_note 37 = .ok (.iload_n 2, 1) := by decide +kernel
theorem dX9_note_38 : decode cX9_note 38 = .ok (.ishr, 1) := by decide +kernel
theorem dX9_note_39 : decode cX9_note 39 = .ok (.iconst 1, 1) := by decide +kernel
theorem dX9_note_40 : decode cX9_note 40 = .ok (.iand, 1) := by decide +kernel
theorem dX9_note_41 : decode cX9_note 41 = .ok (.iconst 1, 1) := by decide +kernel
theorem dX9_note_42 : decode cX9_note 42 = .ok (.if_icmp .ne 6, 3) := by decide +kernel
theorem dX9_note_45 : decode cX9_note 45 = .ok (.iload 4, 2) := by decide +kernel
theorem dX9_note_47 : decode cX9_note 47 = .ok (.ireturn, 1) := by decide +kernel
theorem dX9_note_48 : decode cX9_note 48 = .ok (.iload_n 3, 1) := by decide +kernel
theorem dX9_note_49 : decode cX9_note 49 = .ok (.istore 5, 2) := by decide +kernel
theorem dX9_note_51 : decode cX9_note 51 = .ok (.iconst 0, 1) := by decide +kernel
theorem dX9_note_52 : decode cX9_note 52 = .ok (.istore 6, 2) := by decide +kernel
theorem dX9_note_54 : decode cX9_note 54 = .ok (.iload 6, 2) := by decide +kernel
theorem dX9_note_56 : decode cX9_note 56 = .ok (.aload_n 0, 1) := by decide +kernel
theorem dX9_note_57 : decode cX9_note 57 = .ok (.getfield 13, 3) := by decide +kernel
theorem dX9_note_60 : decode cX9_note 60 = .ok (.iconst 0, 1) := by decide +kernel
theorem dX9_note_61 : decode cX9_note 61 = .ok (.iaload, 1) := by decide +kernel
theorem dX9_note_62 : decode cX9_note 62 = .ok (.if_icmp .ge 35, 3) := by decide +kernel
theorem dX9_note_65 : decode cX9_note 65 = .ok (.iload 5, 2) := by decide +kernel
theorem dX9_note_67 : decode cX9_note 67 = .ok (.iload_n 3, 1) := by decide +kernel
theorem dX9_note_68 : decode cX9_note 68 = .ok (.iload 6, 2) := by decide +kernel
theorem dX9_note_70 : decode cX9_note 70 = .ok (.ishr, 1) := by decide +kernel
theorem dX9_note_71 : decode cX9_note 71 = .ok (.iconst 1, 1) := by decide +kernel
theorem dX9_note_72 : decode cX9_note 72 = .ok (.iand, 1) := by decide +kernel
theorem dX9_note_73 : decode cX9_note 73 = .ok (.iconst 1, 1) := by decide +kernel
theorem dX9_note_74 : decode cX9_note 74 = .ok (.if_icmp .ne 13, 3) := by decide +kernel
theorem dX9_note_77 : decode cX9_note 77 = .ok (.aload_n 0, 1) := by decide +kernel
theorem dX9_note_78 : decode cX9_note 78 = .ok (.getfield 32, 3) := by decide +kernel
theorem dX9_note_81 : decode cX9_note 81 = .ok (.iload 6, 2) := by decide +kernel
theorem dX9_note_83 : decode cX9_note 83 = .ok (.iaload, 1) := by decide +kernel
theorem dX9_note_84 : decode cX9_note 84 = .ok (.goto 4, 3) := by decide +kernel
theorem dX9_note_87 : decode cX9_note 87 = .ok (.iconst 0, 1) := by decide +kernel
theorem dX9_note_88 : decode cX9_note 88 = .ok (.ior, 1) := by decide +kernel
theorem dX9_note_89 : decode cX9_note 89 = .ok (.istore 5, 2) := by decide +kernel
theorem dX9_note_91 : decode cX9_note 91 = .ok (.iinc 6 1, 3) := by decide +kernel
theorem dX9_note_94 : decode cX9_note 94 = .ok (.goto (-40), 3) := by decide +kernel
theorem dX9_note_97 : decode cX9_note 97 = .ok (.iload 5, 2) := by decide +kernel
theorem dX9_note_99 : decode cX9_note 99 = .ok (.istore_n 3, 1) := by decide +kernel
theorem dX9_note_100 : decode cX9_note 100 = .ok (.iinc 4 1, 3) := by decide +kernel
theorem dX9_note_103 : decode cX9_note 103 = .ok (.goto (-73), 3) := by decide +kernel
theorem dX9_note_106 : decode cX9_note 106 = .ok (.iconst (-1), 1) := by decide +kernel
theorem dX9_note_107 : decode cX9_note 107 = .ok (.ireturn, 1) := by decide +kernel
theorem dX9_full_0 : decode cX9_full 0 = .ok (.aload_n 0, 1) := by decide +kernel
theorem dX9_full_1 : decode cX9_full 1 = .ok (.iconst 0, 1) := by decide +kernel
theorem dX9_full_2 : decode cX9_full 2 = .ok (.putfield 142, 3) := by decide +kernel
theorem dX9_full_5 : decode cX9_full 5 = .ok (.iconst 0, 1) := by decide +kernel
theorem dX9_full_6 : decode cX9_full 6 = .ok (.istore_n 1, 1) := by decide +kernel
theorem dX9_full_7 : decode cX9_full 7 = .ok (.iconst 0, 1) := by decide +kernel
theorem dX9_full_8 : decode cX9_full 8 = .ok (.istore_n 2, 1) := by decide +kernel
theorem dX9_full_9 : decode cX9_full 9 = .ok (.iload_n 2, 1) := by decide +kernel
theorem dX9_full_10 : decode cX9_full 10 = .ok (.aload_n 0, 1) := by decide +kernel
theorem dX9_full_11 : decode cX9_full 11 = .ok (.getfield 13, 3) := by decide +kernel
theorem dX9_full_14 : decode cX9_full 14 = .ok (.iconst 0, 1) := by decide +kernel
theorem dX9_full_15 : decode cX9_full 15 = .ok (.iaload, 1) := by decide +kernel
theorem dX9_full_16 : decode cX9_full 16 = .ok (.if_icmp .ge 65, 3) := by decide +kernel
theorem dX9_full_19 : decode cX9_full 19 = .ok (.iconst 1, 1) := by decide +kernel
theorem dX9_full_20 : decode cX9_full 20 = .ok (.istore_n 3, 1) := by decide +kernel
theorem dX9_full_21 : decode cX9_full 21 = .ok (.iconst 0, 1) := by decide +kernel
theorem dX9_full_22 : decode cX9_full 22 = .ok (.istore 4, 2) := by decide +kernel
theorem dX9_full_24 : decode cX9_full 24 = .ok (.iload 4, 2) := by decide +kernel
theorem dX9_full_26 : decode cX9_full 26 = .ok (.aload_n 0, 1) := by decide +kernel
theorem dX9_full_27 : decode cX9_full 27 = .ok (.getfield 13, 3) := by decide +kernel
theorem dX9_full_30 : decode cX9_full 30 = .ok (.iconst 1, 1) := by decide +kernel
theorem dX9_full_31 : decode cX9_full 31 = .ok (.iaload, 1) := by decide +kernel
theorem dX9_full_32 : decode cX9_full 32 = .ok (.if_icmp .ge 29, 3) := by decide +kernel
theorem dX9_full_35 : decode cX9_full 35 = .ok (.iload_n 3, 1) := by decide +kernel
theorem dX9_full_36 : decode cX9_full 36 = .ok (.ifCond .eq 17, 3) := by decide +kernel
theorem dX9_full_39 : decode cX9_full 39 = .ok (.aload_n 0, 1) := by decide +kernel
theorem dX9_full_40 : decode cX9_full 40 = .ok (.iload 4, 2) := by decide +kernel
theorem dX9_full_42 : decode cX9_full 42 = .ok (.iload_n 2, 1) := by decide +kernel
theorem dX9_full_43 : decode cX9_full 43 = .ok (.invokevirtual 419, 3) := by decide +kernel
theorem dX9_full_46 : decode cX9_full 46 = .ok (.ifCond .ne 7, 3) := by decide +kernel
theorem dX9_full_49 : decode cX9_full 49 = .ok (.iconst 1, 1) := by decide +kernel
theorem dX9_full_50 : decode cX9_full 50 = .ok (.goto 4, 3) := by decide +kernel
theorem dX9_full_53 : decode cX9_full 53 = .ok (.iconst 0, 1) := by decide +kernel
theorem dX9_full_54 : decode cX9_full 54 = .ok (.istore_n 3, 1) := by decide +kernel
theorem dX9_full_55 : decode cX9_full 55 = .ok (.iinc 4 1, 3) := by decide +kernel
theorem dX9_full_58 : decode cX9_full 58 = .ok (.goto (-34), 3) := by decide +kernel
theorem dX9_full_61 : decode cX9_full 61 = .ok (.iload_n 1, 1) := by decide +kernel
theorem dX9_full_62 : decode cX9_full 62 = .ok (.iload_n 3, 1) := by decide +kernel
theorem dX9_full_63 : decode cX9_full 63 = .ok (.ifCond .eq 9, 3) := by decide +kernel
theorem dX9_full_66 : decode cX9_full 66 = .ok (.iconst 1, 1) := by decide +kernel
theorem dX9_full_67 : decode cX9_full 67 = .ok (.iload_n 2, 1) := by decide +kernel
theorem dX9_full_68 : decode cX9_full 68 = .ok (.ishl, 1) := by decide +kernel
theorem dX9_full_69 : decode cX9_full 69 = .ok (.goto 4, 3) := by decide +kernel
theorem dX9_full_72 : decode cX9_full 72 = .ok (.iconst 0, 1) := by decide +kernel
theorem dX9_full_73 : decode cX9_full 73 = .ok (.ior, 1) := by decide +kernel
theorem dX9_full_74 : decode cX9_full 74 = .ok (.istore_n 1, 1) := by decide +kernel
theorem dX9_full_75 : decode cX9_full 75 = .ok (.iinc 2 1, 3) := by decide +kernel
theorem dX9_full_78 : decode cX9_full 78 = .ok (.goto (-69), 3) := by decide +kernel
theorem dX9_full_81 : decode cX9_full 81 = .ok (.iload_n 1, 1) := by decide +kernel
theorem dX9_full_82 : decode cX9_full 82 = .ok (.ireturn, 1) := by decide +kernel
theorem dX9_pairs_0 : decode cX9_pairs 0 = .ok (.aload_n 0, 1) := by decide +kernel
theorem dX9_pairs_1 : decode cX9_pairs 1 = .ok (.iconst 0, 1) := by decide +kernel
theorem dX9_pairs_2 : decode cX9_pairs 2 = .ok (.putfield 142, 3) := by decide +kernel
theorem dX9_pairs_5 : decode cX9_pairs 5 = .ok (.iconst 0, 1) := by decide +kernel
theorem dX9_pairs_6 : decode cX9_pairs 6 = .ok (.istore_n 1, 1) := by decide +kernel
theorem dX9_pairs_7 : decode cX9_pairs 7 = .ok (.iconst 0, 1) := by decide +kernel
theorem dX9_pairs_8 : decode cX9_pairs 8 = .ok (.istore_n 2, 1) := by decide +kernel
theorem dX9_pairs_9 : decode cX9_pairs 9 = .ok (.iload_n 2, 1) := by decide +kernel
theorem dX9_pairs_10 : decode cX9_pairs 10 = .ok (.aload_n 0, 1) := by decide +kernel
theorem dX9_pairs_11 : decode cX9_pairs 11 = .ok (.getfield 13, 3) := by decide +kernel
theorem dX9_pairs_14 : decode cX9_pairs 14 = .ok (.iconst 1, 1) := by decide +kernel
theorem dX9_pairs_15 : decode cX9_pairs 15 = .ok (.iaload, 1) := by decide +kernel
theorem dX9_pairs_16 : decode cX9_pairs 16 = .ok (.if_icmp .ge 39, 3) := by decide +kernel
theorem dX9_pairs_19 : decode cX9_pairs 19 = .ok (.iconst 0, 1) := by decide +kernel
theorem dX9_pairs_20 : decode cX9_pairs 20 = .ok (.istore_n 3, 1) := by decide +kernel
theorem dX9_pairs_21 : decode cX9_pairs 21 = .ok (.iload_n 3, 1) := by decide +kernel
theorem dX9_pairs_22 : decode cX9_pairs 22 = .ok (.iload_n 2, 1) := by decide +kernel
theorem dX9_pairs_23 : decode cX9_pairs 23 = .ok (.if_icmp .ge 26, 3) := by decide +kernel
theorem dX9_pairs_26 : decode cX9_pairs 26 = .ok (.iload_n 1, 1) := by decide +kernel
theorem dX9_pairs_27 : decode cX9_pairs 27 = .ok (.aload_n 0, 1) := by decide +kernel
theorem dX9_pairs_28 : decode cX9_pairs 28 = .ok (.iload_n 2, 1) := by decide +kernel
theorem dX9_pairs_29 : decode cX9_pairs 29 = .ok (.iload_n 3, 1) := by decide +kernel
theorem dX9_pairs_30 : decode cX9_pairs 30 = .ok (.invokevirtual 370, 3) := by decide +kernel
theorem dX9_pairs_33 : decode cX9_pairs 33 = .ok (.ifCond .eq 7, 3) := by decide +kernel
theorem dX9_pairs_36 : decode cX9_pairs 36 = .ok (.iconst 1, 1) := by decide +kernel
theorem dX9_pairs_37 : decode cX9_pairs 37 = .ok (.goto 4, 3) := by decide +kernel
theorem dX9_pairs_40 : decode cX9_pairs 40 = .ok (.iconst 0, 1) := by decide +kernel
theorem dX9_pairs_41 : decode cX9_pairs 41 = .ok (.iadd, 1) := by decide +kernel
theorem dX9_pairs_42 : decode cX9_pairs 42 = .ok (.istore_n 1, 1) := by decide +kernel
theorem dX9_pairs_43 : decode cX9_pairs 43 = .ok (.iinc 3 1, 3) := by decide +kernel
theorem dX9_pairs_46 : decode cX9_pairs 46 = .ok (.goto (-25), 3) := by decide +kernel
theorem dX9_pairs_49 : decode cX9_pairs 49 = .ok (.iinc 2 1, 3) := by decide +kernel
theorem dX9_pairs_52 : decode cX9_pairs 52 = .ok (.goto (-43), 3) := by decide +kernel
theorem dX9_pairs_55 : decode cX9_pairs 55 = .ok (.iload_n 1, 1) := by decide +kernel
theorem dX9_pairs_56 : decode cX9_pairs 56 = .ok (.ireturn, 1) := by decide +kernel
theorem dX9_line_0 : decode cX9_line 0 = .ok (.aload_n 0, 1) := by decide +kernel
theorem dX9_line_1 : decode cX9_line 1 = .ok (.iconst 0, 1) := by decide +kernel
theorem dX9_line_2 : decode cX9_line 2 = .ok (.putfield 142, 3) := by decide +kernel
theorem dX9_line_5 : decode cX9_line 5 = .ok (.aload_n 0, 1) := by decide +kernel
theorem dX9_line_6 : decode cX9_line 6 = .ok (.iload_n 1, 1) := by decide +kernel
theorem dX9_line_7 : decode cX9_line 7 = .ok (.invokevirtual 409, 3) := by decide +kernel
theorem dX9_line_10 : decode cX9_line 10 = .ok (.ifCond .eq 53, 3) := by decide +kernel
theorem dX9_line_13 : decode cX9_line 13 = .ok (.aload_n 0, 1) := by decide +kernel
theorem dX9_line_14 : decode cX9_line 14 = .ok (.iload_n 2, 1) := by decide +kernel
theorem dX9_line_15 : decode cX9_line 15 = .ok (.invokevirtual 409, 3) := by decide +kernel
theorem dX9_line_18 : decode cX9_line 18 = .ok (.ifCond .eq 45, 3) := by decide +kernel
theorem dX9_line_21 : decode cX9_line 21 = .ok (.aload_n 0, 1) := by decide +kernel
theorem dX9_line_22 : decode cX9_line 22 = .ok (.getfield 114, 3) := by decide +kernel
theorem dX9_line_25 : decode cX9_line 25 = .ok (.bipush 8, 2) := by decide +kernel
theorem dX9_line_27 : decode cX9_line 27 = .ok (.iload_n 1, 1) := by decide +kernel
theorem dX9_line_28 : decode cX9_line 28 = .ok (.iadd, 1) := by decide +kernel
theorem dX9_line_29 : decode cX9_line 29 = .ok (.iaload, 1) := by decide +kernel
theorem dX9_line_30 : decode cX9_line 30 = .ok (.ifCond .eq 33, 3) := by decide +kernel
theorem dX9_line_33 : decode cX9_line 33 = .ok (.aload_n 0, 1) := by decide +kernel
theorem dX9_line_34 : decode cX9_line 34 = .ok (.getfield 114, 3) := by decide +kernel
theorem dX9_line_37 : decode cX9_line 37 = .ok (.bipush 8, 2) := by decide +kernel
theorem dX9_line_39 : decode cX9_line 39 = .ok (.iload_n 1, 1) := by decide +kernel
theorem dX9_line_40 : decode cX9_line 40 = .ok (.iadd, 1) := by decide +kernel
theorem dX9_line_41 : decode cX9_line 41 = .ok (.iaload, 1) := by decide +kernel
theorem dX9_line_42 : decode cX9_line 42 = .ok (.aload_n 0, 1) := by decide +kernel
theorem dX9_line_43 : decode cX9_line 43 = .ok (.getfield 114, 3) := by decide +kernel
theorem dX9_line_46 : decode cX9_line 46 = .ok (.bipush 8, 2) := by decide +kernel
theorem dX9_line_48 : decode cX9_line 48 = .ok (.iload_n 2, 1) := by decide +kernel
theorem dX9_line_49 : decode cX9_line 49 = .ok (.iadd, 1) := by decide +kernel
theorem dX9_line_50 : decode cX9_line 50 = .ok (.iaload, 1) := by decide +kernel
theorem dX9_line_51 : decode cX9_line 51 = .ok (.if_icmp .ne 12, 3) := by decide +kernel
theorem dX9_line_54 : decode cX9_line 54 = .ok (.aload_n 0, 1) := by decide +kernel
theorem dX9_line_55 : decode cX9_line 55 = .ok (.iload_n 1, 1) := by decide +kernel
theorem dX9_line_56 : decode cX9_line 56 = .ok (.iload_n 2, 1) := by decide +kernel
theorem dX9_line_57 : decode cX9_line 57 = .ok (.invokevirtual 370, 3) := by decide +kernel
theorem dX9_line_60 : decode cX9_line 60 = .ok (.ifCond .ne 5, 3) := by decide +kernel
theorem dX9_line_63 : decode cX9_line 63 = .ok (.iconst (-1), 1) := by decide +kernel
theorem dX9_line_64 : decode cX9_line 64 = .ok (.ireturn, 1) := by decide +kernel
theorem dX9_line_65 : decode cX9_line 65 = .ok (.aload_n 0, 1) := by decide +kernel
theorem dX9_line_66 : decode cX9_line 66 = .ok (.aload_n 0, 1) := by decide +kernel
theorem dX9_line_67 : decode cX9_line 67 = .ok (.getfield 114, 3) := by decide +kernel
theorem dX9_line_70 : decode cX9_line 70 = .ok (.bipush 8, 2) := by decide +kernel
theorem dX9_line_72 : decode cX9_line 72 = .ok (.iload_n 1, 1) := by decide +kernel
theorem dX9_line_73 : decode cX9_line 73 = .ok (.iadd, 1) := by decide +kernel
theorem dX9_line_74 : decode cX9_line 74 = .ok (.iaload, 1) := by decide +kernel
theorem dX9_line_75 : decode cX9_line 75 = .ok (.iconst 1, 1) := by decide +kernel
theorem dX9_line_76 : decode cX9_line 76 = .ok (.isub, 1) := by decide +kernel
theorem dX9_line_77 : decode cX9_line 77 = .ok (.bipush 20, 2) := by decide +kernel
theorem dX9_line_79 : decode cX9_line 79 = .ok (.invokevirtual 440, 3) := by decide +kernel
theorem dX9_line_82 : decode cX9_line 82 = .ok (.ireturn, 1) := by decide +kernel
theorem dX9_hear_0 : decode cX9_hear 0 = .ok (.aload_n 0, 1) := by decide +kernel
theorem dX9_hear_1 : decode cX9_hear 1 = .ok (.iconst 0, 1) := by decide +kernel
theorem dX9_hear_2 : decode cX9_hear 2 = .ok (.putfield 142, 3) := by decide +kernel
theorem dX9_hear_5 : decode cX9_hear 5 = .ok (.iload_n 1, 1) := by decide +kernel
theorem dX9_hear_6 : decode cX9_hear 6 = .ok (.iconst 1, 1) := by decide +kernel
theorem dX9_hear_7 : decode cX9_hear 7 = .ok (.bipush 30, 2) := by decide +kernel
theorem dX9_hear_9 : decode cX9_hear 9 = .ok (.invokestatic 266, 3) := by decide +kernel
theorem dX9_hear_12 : decode cX9_hear 12 = .ok (.ifCond .eq 14, 3) := by decide +kernel
theorem dX9_hear_15 : decode cX9_hear 15 = .ok (.aload_n 0, 1) := by decide +kernel
theorem dX9_hear_16 : decode cX9_hear 16 = .ok (.getfield 105, 3) := by decide +kernel
theorem dX9_hear_19 : decode cX9_hear 19 = .ok (.iconst 0, 1) := by decide +kernel
theorem dX9_hear_20 : decode cX9_hear 20 = .ok (.iaload, 1) := by decide +kernel
theorem dX9_hear_21 : decode cX9_hear 21 = .ok (.bipush 8, 2) := by decide +kernel
theorem dX9_hear_23 : decode cX9_hear 23 = .ok (.if_icmp .ne 5, 3) := by decide +kernel
theorem dX9_hear_26 : decode cX9_hear 26 = .ok (.iconst 0, 1) := by decide +kernel
theorem dX9_hear_27 : decode cX9_hear 27 = .ok (.ireturn, 1) := by decide +kernel
theorem dX9_hear_28 : decode cX9_hear 28 = .ok (.aload_n 0, 1) := by decide +kernel
theorem dX9_hear_29 : decode cX9_hear 29 = .ok (.getfield 108, 3) := by decide +kernel
theorem dX9_hear_32 : decode cX9_hear 32 = .ok (.aload_n 0, 1) := by decide +kernel
theorem dX9_hear_33 : decode cX9_hear 33 = .ok (.getfield 105, 3) := by decide +kernel
theorem dX9_hear_36 : decode cX9_hear 36 = .ok (.iconst 0, 1) := by decide +kernel
theorem dX9_hear_37 : decode cX9_hear 37 = .ok (.iaload, 1) := by decide +kernel
theorem dX9_hear_38 : decode cX9_hear 38 = .ok (.iload_n 1, 1) := by decide +kernel
theorem dX9_hear_39 : decode cX9_hear 39 = .ok (.iastore, 1) := by decide +kernel
theorem dX9_hear_40 : decode cX9_hear 40 = .ok (.aload_n 0, 1) := by decide +kernel
theorem dX9_hear_41 : decode cX9_hear 41 = .ok (.getfield 111, 3) := by decide +kernel
theorem dX9_hear_44 : decode cX9_hear 44 = .ok (.aload_n 0, 1) := by decide +kernel
theorem dX9_hear_45 : decode cX9_hear 45 = .ok (.getfield 105, 3) := by decide +kernel
theorem dX9_hear_48 : decode cX9_hear 48 = .ok (.iconst 0, 1) := by decide +kernel
theorem dX9_hear_49 : decode cX9_hear 49 = .ok (.iaload, 1) := by decide +kernel
theorem dX9_hear_50 : decode cX9_hear 50 = .ok (.iload_n 2, 1) := by decide +kernel
theorem dX9_hear_51 : decode cX9_hear 51 = .ok (.bastore, 1) := by decide +kernel
theorem dX9_hear_52 : decode cX9_hear 52 = .ok (.aload_n 0, 1) := by decide +kernel
theorem dX9_hear_53 : decode cX9_hear 53 = .ok (.getfield 105, 3) := by decide +kernel
theorem dX9_hear_56 : decode cX9_hear 56 = .ok (.iconst 0, 1) := by decide +kernel
theorem dX9_hear_57 : decode cX9_hear 57 = .ok (.dup2, 1) := by decide +kernel
theorem dX9_hear_58 : decode cX9_hear 58 = .ok (.iaload, 1) := by decide +kernel
theorem dX9_hear_59 : decode cX9_hear 59 = .ok (.iconst 1, 1) := by decide +kernel
theorem dX9_hear_60 : decode cX9_hear 60 = .ok (.iadd, 1) := by decide +kernel
theorem dX9_hear_61 : decode cX9_hear 61 = .ok (.iastore, 1) := by decide +kernel
theorem dX9_hear_62 : decode cX9_hear 62 = .ok (.iconst 1, 1) := by decide +kernel
theorem dX9_hear_63 : decode cX9_hear 63 = .ok (.ireturn, 1) := by decide +kernel
theorem dX9_leavesSome_0 : decode cX9_leavesSome 0 = .ok (.iload_n 1, 1) := by decide +kernel
theorem dX9_leavesSome_1 : decode cX9_leavesSome 1 = .ok (.istore_n 3, 1) := by decide +kernel
theorem dX9_leavesSome_2 : decode cX9_leavesSome 2 = .ok (.iconst 0, 1) := by decide +kernel
theorem dX9_leavesSome_3 : decode cX9_leavesSome 3 = .ok (.istore 4, 2) := by decide +kernel
theorem dX9_leavesSome_5 : decode cX9_leavesSome 5 = .ok (.iload 4, 2) := by decide +kernel
theorem dX9_leavesSome_7 : decode cX9_leavesSome 7 = .ok (.iload_n 2, 1) := by decide +kernel
theorem dX9_leavesSome_8 : decode cX9_leavesSome 8 = .ok (.if_icmp .ge 27, 3) := by decide +kernel
theorem dX9_leavesSome_11 : decode cX9_leavesSome 11 = .ok (.iload_n 3, 1) := by decide +kernel
theorem dX9_leavesSome_12 : decode cX9_leavesSome 12 = .ok (.iconst 2, 1) := by decide +kernel
theorem dX9_leavesSome_13 : decode cX9_leavesSome 13 = .ok (.aload_n 0, 1) := by decide +kernel
theorem dX9_leavesSome_14 : decode cX9_leavesSome 14 = .ok (.aload_n 0, 1) := by decide +kernel
theorem dX9_leavesSome_15 : decode cX9_leavesSome 15 = .ok (.getfield 114, 3) := by decide +kernel
theorem dX9_leavesSome_18 : decode cX9_leavesSome 18 = .ok (.iconst 0, 1) := by decide +kernel
theorem dX9_leavesSome_19 : decode cX9_leavesSome 19 = .ok (.iaload, 1) := by decide +kernel
theorem dX9_leavesSome_20 : decode cX9_leavesSome 20 = .ok (.iload 4, 2) := by decide +kernel
theorem dX9_leavesSome_22 : decode cX9_leavesSome 22 = .ok (.iadd, 1) := by decide +kernel
theorem dX9_leavesSome_23 : decode cX9_leavesSome 23 = .ok (.invokevirtual 394, 3) := by decide +kernel
theorem dX9_leavesSome_26 : decode cX9_leavesSome 26 = .ok (.imul, 1) := by decide +kernel
theorem dX9_leavesSome_27 : decode cX9_leavesSome 27 = .ok (.isub, 1) := by decide +kernel
theorem dX9_leavesSome_28 : decode cX9_leavesSome 28 = .ok (.istore_n 3, 1) := by decide +kernel
theorem dX9_leavesSome_29 : decode cX9_leavesSome 29 = .ok (.iinc 4 1, 3) := by decide +kernel
theorem dX9_leavesSome_32 : decode cX9_leavesSome 32 = .ok (.goto (-27), 3) := by decide +kernel
theorem dX9_leavesSome_35 : decode cX9_leavesSome 35 = .ok (.iload_n 3, 1) := by decide +kernel
theorem dX9_leavesSome_36 : decode cX9_leavesSome 36 = .ok (.ifCond .le 7, 3) := by decide +kernel
theorem dX9_leavesSome_39 : decode cX9_leavesSome 39 = .ok (.iconst 1, 1) := by decide +kernel
theorem dX9_leavesSome_40 : decode cX9_leavesSome 40 = .ok (.goto 4, 3) := by decide +kernel
theorem dX9_leavesSome_43 : decode cX9_leavesSome 43 = .ok (.iconst 0, 1) := by decide +kernel
theorem dX9_leavesSome_44 : decode cX9_leavesSome 44 = .ok (.ireturn, 1) := by decide +kernel
theorem dX9_isAsHeard_0 : decode cX9_isAsHeard 0 = .ok (.iconst 0, 1) := by decide +kernel
theorem dX9_isAsHeard_1 : decode cX9_isAsHeard 1 = .ok (.istore_n 2, 1) := by decide +kernel
theorem dX9_isAsHeard_2 : decode cX9_isAsHeard 2 = .ok (.iload_n 2, 1) := by decide +kernel
theorem dX9_isAsHeard_3 : decode cX9_isAsHeard 3 = .ok (.aload_n 0, 1) := by decide +kernel
theorem dX9_isAsHeard_4 : decode cX9_isAsHeard 4 = .ok (.getfield 105, 3) := by decide +kernel
theorem dX9_isAsHeard_7 : decode cX9_isAsHeard 7 = .ok (.iconst 0, 1) := by decide +kernel
theorem dX9_isAsHeard_8 : decode cX9_isAsHeard 8 = .ok (.iaload, 1) := by decide +kernel
theorem dX9_isAsHeard_9 : decode cX9_isAsHeard 9 = .ok (.if_icmp .ge 31, 3) := by decide +kernel
theorem dX9_isAsHeard_12 : decode cX9_isAsHeard 12 = .ok (.aload_n 0, 1) := by decide +kernel
theorem dX9_isAsHeard_13 : decode cX9_isAsHeard 13 = .ok (.iload_n 1, 1) := by decide +kernel
theorem dX9_isAsHeard_14 : decode cX9_isAsHeard 14 = .ok (.aload_n 0, 1) := by decide +kernel
theorem dX9_isAsHeard_15 : decode cX9_isAsHeard 15 = .ok (.getfield 108, 3) := by decide +kernel
theorem dX9_isAsHeard_18 : decode cX9_isAsHeard 18 = .ok (.iload_n 2, 1) := by decide +kernel
theorem dX9_isAsHeard_19 : decode cX9_isAsHeard 19 = .ok (.iaload, 1) := by decide +kernel
theorem dX9_isAsHeard_20 : decode cX9_isAsHeard 20 = .ok (.invokevirtual 465, 3) := by decide +kernel
theorem dX9_isAsHeard_23 : decode cX9_isAsHeard 23 = .ok (.aload_n 0, 1) := by decide +kernel
theorem dX9_isAsHeard_24 : decode cX9_isAsHeard 24 = .ok (.getfield 111, 3) := by decide +kernel
theorem dX9_isAsHeard_27 : decode cX9_isAsHeard 27 = .ok (.iload_n 2, 1) := by decide +kernel
theorem dX9_isAsHeard_28 : decode cX9_isAsHeard 28 = .ok (.baload, 1) := by decide +kernel
theorem dX9_isAsHeard_29 : decode cX9_isAsHeard 29 = .ok (.if_icmp .eq 5, 3) := by decide +kernel
theorem dX9_isAsHeard_32 : decode cX9_isAsHeard 32 = .ok (.iconst 0, 1) := by decide +kernel
theorem dX9_isAsHeard_33 : decode cX9_isAsHeard 33 = .ok (.ireturn, 1) := by decide +kernel
theorem dX9_isAsHeard_34 : decode cX9_isAsHeard 34 = .ok (.iinc 2 1, 3) := by decide +kernel
theorem dX9_isAsHeard_37 : decode cX9_isAsHeard 37 = .ok (.goto (-35), 3) := by decide +kernel
theorem dX9_isAsHeard_40 : decode cX9_isAsHeard 40 = .ok (.iconst 1, 1) := by decide +kernel
theorem dX9_isAsHeard_41 : decode cX9_isAsHeard 41 = .ok (.ireturn, 1) := by decide +kernel
theorem dX9_coals_0 : decode cX9_coals 0 = .ok (.aload_n 0, 1) := by decide +kernel
theorem dX9_coals_1 : decode cX9_coals 1 = .ok (.iconst 0, 1) := by decide +kernel
theorem dX9_coals_2 : decode cX9_coals 2 = .ok (.putfield 142, 3) := by decide +kernel
theorem dX9_coals_5 : decode cX9_coals 5 = .ok (.iload_n 1, 1) := by decide +kernel
theorem dX9_coals_6 : decode cX9_coals 6 = .ok (.iconst 0, 1) := by decide +kernel
theorem dX9_coals_7 : decode cX9_coals 7 = .ok (.iconst 2, 1) := by decide +kernel
theorem dX9_coals_8 : decode cX9_coals 8 = .ok (.invokestatic 266, 3) := by decide +kernel
theorem dX9_coals_11 : decode cX9_coals 11 = .ok (.ifCond .ne 5, 3) := by decide +kernel
theorem dX9_coals_14 : decode cX9_coals 14 = .ok (.iconst (-1), 1) := by decide +kernel
theorem dX9_coals_15 : decode cX9_coals 15 = .ok (.ireturn, 1) := by decide +kernel
theorem dX9_coals_16 : decode cX9_coals 16 = .ok (.iconst 0, 1) := by decide +kernel
theorem dX9_coals_17 : decode cX9_coals 17 = .ok (.istore_n 2, 1) := by decide +kernel
theorem dX9_coals_18 : decode cX9_coals 18 = .ok (.iconst (-1), 1) := by decide +kernel
theorem dX9_coals_19 : decode cX9_coals 19 = .ok (.istore_n 3, 1) := by decide +kernel
theorem dX9_coals_20 : decode cX9_coals 20 = .ok (.iconst (-1), 1) := by decide +kernel
theorem dX9_coals_21 : decode cX9_coals 21 = .ok (.istore 4, 2) := by decide +kernel
theorem dX9_coals_23 : decode cX9_coals 23 = .ok (.iconst 0, 1) := by decide +kernel
theorem dX9_coals_24 : decode cX9_coals 24 = .ok (.istore 5, 2) := by decide +kernel
theorem dX9_coals_26 : decode cX9_coals 26 = .ok (.iload 5, 2) := by decide +kernel
theorem dX9_coals_28 : decode cX9_coals 28 = .ok (.bipush 61, 2) := by decide +kernel
theorem dX9_coals_30 : decode cX9_coals 30 = .ok (.if_icmp .ge 35, 3) := by decide +kernel
theorem dX9_coals_33 : decode cX9_coals 33 = .ok (.aload_n 0, 1) := by decide +kernel
theorem dX9_coals_34 : decode cX9_coals 34 = .ok (.iload 5, 2) := by decide +kernel
theorem dX9_coals_36 : decode cX9_coals 36 = .ok (.invokevirtual 468, 3) := by decide +kernel
theorem dX9_coals_39 : decode cX9_coals 39 = .ok (.ifCond .ne 6, 3) := by decide +kernel
theorem dX9_coals_42 : decode cX9_coals 42 = .ok (.goto 17, 3) := by decide +kernel
theorem dX9_coals_45 : decode cX9_coals 45 = .ok (.iinc 2 1, 3) := by decide +kernel
theorem dX9_coals_48 : decode cX9_coals 48 = .ok (.iload_n 3, 1) := by decide +kernel
theorem dX9_coals_49 : decode cX9_coals 49 = .ok (.ifCond .ge 6, 3) := by decide +kernel
theorem dX9_coals_52 : decode cX9_coals 52 = .ok (.iload 5, 2) := by decide +kernel
theorem dX9_coals_54 : decode cX9_coals 54 = .ok (.istore_n 3, 1) := by decide +kernel
theorem dX9_coals_55 : decode cX9_coals 55 = .ok (.iload 5, 2) := by decide +kernel
theorem dX9_coals_57 : decode cX9_coals 57 = .ok (.istore 4, 2) := by decide +kernel
theorem dX9_coals_59 : decode cX9_coals 59 = .ok (.iinc 5 1, 3) := by decide +kernel
theorem dX9_coals_62 : decode cX9_coals 62 = .ok (.goto (-36), 3) := by decide +kernel
theorem dX9_coals_65 : decode cX9_coals 65 = .ok (.iload_n 1, 1) := by decide +kernel
theorem dX9_coals_66 : decode cX9_coals 66 = .ok (.ifCond .ne 7, 3) := by decide +kernel
theorem dX9_coals_69 : decode cX9_coals 69 = .ok (.iload_n 2, 1) := by decide +kernel
theorem dX9_coals_70 : decode cX9_coals 70 = .ok (.goto 14, 3) := by decide +kernel
theorem dX9_coals_73 : decode cX9_coals 73 = .ok (.iload_n 1, 1) := by decide +kernel
theorem dX9_coals_74 : decode cX9_coals 74 = .ok (.iconst 1, 1) := by decide +kernel
theorem dX9_coals_75 : decode cX9_coals 75 = .ok (.if_icmp .ne 7, 3) := by decide +kernel
theorem dX9_coals_78 : decode cX9_coals 78 = .ok (.iload_n 3, 1) := by decide +kernel
theorem dX9_coals_79 : decode cX9_coals 79 = .ok (.goto 5, 3) := by decide +kernel
theorem dX9_coals_82 : decode cX9_coals 82 = .ok (.iload 4, 2) := by decide +kernel
theorem dX9_coals_84 : decode cX9_coals 84 = .ok (.ireturn, 1) := by decide +kernel
theorem dX9_ask_0 : decode cX9_ask 0 = .ok (.aload_n 0, 1) := by decide +kernel
theorem dX9_ask_1 : decode cX9_ask 1 = .ok (.iconst 0, 1) := by decide +kernel
theorem dX9_ask_2 : decode cX9_ask 2 = .ok (.putfield 142, 3) := by decide +kernel
theorem dX9_ask_5 : decode cX9_ask 5 = .ok (.aload_n 0, 1) := by decide +kernel
theorem dX9_ask_6 : decode cX9_ask 6 = .ok (.iconst 0, 1) := by decide +kernel
theorem dX9_ask_7 : decode cX9_ask 7 = .ok (.invokevirtual 471, 3) := by decide +kernel
theorem dX9_ask_10 : decode cX9_ask 10 = .ok (.istore_n 1, 1) := by decide +kernel
theorem dX9_ask_11 : decode cX9_ask 11 = .ok (.iload_n 1, 1) := by decide +kernel
theorem dX9_ask_12 : decode cX9_ask 12 = .ok (.istore_n 2, 1) := by decide +kernel
theorem dX9_ask_13 : decode cX9_ask 13 = .ok (.iconst (-1), 1) := by decide +kernel
theorem dX9_ask_14 : decode cX9_ask 14 = .ok (.istore_n 3, 1) := by decide +kernel
theorem dX9_ask_15 : decode cX9_ask 15 = .ok (.iconst 1, 1) := by decide +kernel
theorem dX9_ask_16 : decode cX9_ask 16 = .ok (.istore 4, 2) := by decide +kernel
theorem dX9_ask_18 : decode cX9_ask 18 = .ok (.iload 4, 2) := by decide +kernel
theorem dX9_ask_20 : decode cX9_ask 20 = .ok (.bipush 31, 2) := by decide +kernel
theorem dX9_ask_22 : decode cX9_ask 22 = .ok (.if_icmp .ge 84, 3) := by decide +kernel
theorem dX9_ask_25 : decode cX9_ask 25 = .ok (.iconst 0, 1) := by decide +kernel
theorem dX9_ask_26 : decode cX9_ask 26 = .ok (.istore 5, 2) := by decide +kernel
theorem dX9_ask_28 : decode cX9_ask 28 = .ok (.iconst 0, 1) := by decide +kernel
theorem dX9_ask_29 : decode cX9_ask 29 = .ok (.istore 6, 2) := by decide +kernel
theorem dX9_ask_31 : decode cX9_ask 31 = .ok (.iload 6, 2) := by decide +kernel
theorem dX9_ask_33 : decode cX9_ask 33 = .ok (.bipush 61, 2) := by decide +kernel
theorem dX9_ask_35 : decode cX9_ask 35 = .ok (.if_icmp .ge 39, 3) := by decide +kernel
theorem dX9_ask_38 : decode cX9_ask 38 = .ok (.iload 5, 2) := by decide +kernel
theorem dX9_ask_40 : decode cX9_ask 40 = .ok (.aload_n 0, 1) := by decide +kernel
theorem dX9_ask_41 : decode cX9_ask 41 = .ok (.iload 6, 2) := by decide +kernel
theorem dX9_ask_43 : decode cX9_ask 43 = .ok (.invokevirtual 468, 3) := by decide +kernel
theorem dX9_ask_46 : decode cX9_ask 46 = .ok (.ifCond .eq 18, 3) := by decide +kernel
theorem dX9_ask_49 : decode cX9_ask 49 = .ok (.aload_n 0, 1) := by decide +kernel
theorem dX9_ask_50 : decode cX9_ask 50 = .ok (.iload 6, 2) := by decide +kernel
theorem dX9_ask_52 : decode cX9_ask 52 = .ok (.iload 4, 2) := by decide +kernel
theorem dX9_ask_54 : decode cX9_ask 54 = .ok (.invokevirtual 465, 3) := by decide +kernel
theorem dX9_ask_57 : decode cX9_ask 57 = .ok (.ifCond .eq 7, 3) := by decide +kernel
theorem dX9_ask_60 : decode cX9_ask 60 = .ok (.iconst 1, 1) := by decide +kernel
theorem dX9_ask_61 : decode cX9_ask 61 = .ok (.goto 4, 3) := by decide +kernel
theorem dX9_ask_64 : decode cX9_ask 64 = .ok (.iconst 0, 1) := by decide +kernel
theorem dX9_ask_65 : decode cX9_ask 65 = .ok (.iadd, 1) := by decide +kernel
theorem dX9_ask_66 : decode cX9_ask 66 = .ok (.istore 5, 2) := by decide +kernel
theorem dX9_ask_68 : decode cX9_ask 68 = .ok (.iinc 6 1, 3) := by decide +kernel
theorem dX9_ask_71 : decode cX9_ask 71 = .ok (.goto (-40), 3) := by decide +kernel
theorem dX9_ask_74 : decode cX9_ask 74 = .ok (.iload 5, 2) := by decide +kernel
theorem dX9_ask_76 : decode cX9_ask 76 = .ok (.iload_n 1, 1) := by decide +kernel
theorem dX9_ask_77 : decode cX9_ask 77 = .ok (.iload 5, 2) := by decide +kernel
theorem dX9_ask_79 : decode cX9_ask 79 = .ok (.isub, 1) := by decide +kernel
theorem dX9_ask_80 : decode cX9_ask 80 = .ok (.invokestatic 400, 3) := by decide +kernel
theorem dX9_ask_83 : decode cX9_ask 83 = .ok (.istore 5, 2) := by decide +kernel
theorem dX9_ask_85 : decode cX9_ask 85 = .ok (.iload 5, 2) := by decide +kernel
theorem dX9_ask_87 : decode cX9_ask 87 = .ok (.iload_n 2, 1) := by decide +kernel
theorem dX9_ask_88 : decode cX9_ask 88 = .ok (.if_icmp .lt 6, 3) := by decide +kernel
theorem dX9_ask_91 : decode cX9_ask 91 = .ok (.goto 9, 3) := by decide +kernel
theorem dX9_ask_94 : decode cX9_ask 94 = .ok (.iload 5, 2) := by decide +kernel
theorem dX9_ask_96 : decode cX9_ask 96 = .ok (.istore_n 2, 1) := by decide +kernel
theorem dX9_ask_97 : decode cX9_ask 97 = .ok (.iload 4, 2) := by decide +kernel
theorem dX9_ask_99 : decode cX9_ask 99 = .ok (.istore_n 3, 1) := by decide +kernel
theorem dX9_ask_100 : decode cX9_ask 100 = .ok (.iinc 4 1, 3) := by decide +kernel
theorem dX9_ask_103 : decode cX9_ask 103 = .ok (.goto (-85), 3) := by decide +kernel
theorem dX9_ask_106 : decode cX9_ask 106 = .ok (.iload_n 3, 1) := by decide +kernel
theorem dX9_ask_107 : decode cX9_ask 107 = .ok (.ireturn, 1) := by decide +kernel
theorem dX9_colder_0 : decode cX9_colder 0 = .ok (.aload_n 0, 1) := by decide +kernel
theorem dX9_colder_1 : decode cX9_colder 1 = .ok (.iconst 0, 1) := by decide +kernel
theorem dX9_colder_2 : decode cX9_colder 2 = .ok (.putfield 142, 3) := by decide +kernel
theorem dX9_colder_5 : decode cX9_colder 5 = .ok (.iload_n 1, 1) := by decide +kernel
theorem dX9_colder_6 : decode cX9_colder 6 = .ok (.iconst 1, 1) := by decide +kernel
theorem dX9_colder_7 : decode cX9_colder 7 = .ok (.bipush 30, 2) := by decide +kernel
theorem dX9_colder_9 : decode cX9_colder 9 = .ok (.invokestatic 266, 3) := by decide +kernel
theorem dX9_colder_12 : decode cX9_colder 12 = .ok (.ifCond .eq 12, 3) := by decide +kernel
theorem dX9_colder_15 : decode cX9_colder 15 = .ok (.iload_n 2, 1) := by decide +kernel
theorem dX9_colder_16 : decode cX9_colder 16 = .ok (.iconst 0, 1) := by decide +kernel
theorem dX9_colder_17 : decode cX9_colder 17 = .ok (.iconst 3, 1) := by decide +kernel
theorem dX9_colder_18 : decode cX9_colder 18 = .ok (.invokestatic 266, 3) := by decide +kernel
theorem dX9_colder_21 : decode cX9_colder 21 = .ok (.ifCond .ne 5, 3) := by decide +kernel
theorem dX9_colder_24 : decode cX9_colder 24 = .ok (.iconst (-1), 1) := by decide +kernel
theorem dX9_colder_25 : decode cX9_colder 25 = .ok (.ireturn, 1) := by decide +kernel
theorem dX9_colder_26 : decode cX9_colder 26 = .ok (.aload_n 0, 1) := by decide +kernel
theorem dX9_colder_27 : decode cX9_colder 27 = .ok (.getfield 114, 3) := by decide +kernel
theorem dX9_colder_30 : decode cX9_colder 30 = .ok (.iconst 0, 1) := by decide +kernel
theorem dX9_colder_31 : decode cX9_colder 31 = .ok (.aload_n 0, 1) := by decide +kernel
theorem dX9_colder_32 : decode cX9_colder 32 = .ok (.getfield 120, 3) := by decide +kernel
theorem dX9_colder_35 : decode cX9_colder 35 = .ok (.iconst 0, 1) := by decide +kernel
theorem dX9_colder_36 : decode cX9_colder 36 = .ok (.invokestatic 415, 3) := by decide +kernel
theorem dX9_colder_39 : decode cX9_colder 39 = .ok (.aload_n 0, 1) := by decide +kernel
theorem dX9_colder_40 : decode cX9_colder 40 = .ok (.iload_n 2, 1) := by decide +kernel
theorem dX9_colder_41 : decode cX9_colder 41 = .ok (.putfield 397, 3) := by decide +kernel
theorem dX9_colder_44 : decode cX9_colder 44 = .ok (.aload_n 0, 1) := by decide +kernel
theorem dX9_colder_45 : decode cX9_colder 45 = .ok (.iload_n 1, 1) := by decide +kernel
theorem dX9_colder_46 : decode cX9_colder 46 = .ok (.invokevirtual 449, 3) := by decide +kernel
theorem dX9_colder_49 : decode cX9_colder 49 = .ok (.aload_n 0, 1) := by decide +kernel
theorem dX9_colder_50 : decode cX9_colder 50 = .ok (.iconst 0, 1) := by decide +kernel
theorem dX9_colder_51 : decode cX9_colder 51 = .ok (.putfield 397, 3) := by decide +kernel
theorem dX9_colder_54 : decode cX9_colder 54 = .ok (.aload_n 0, 1) := by decide +kernel
theorem dX9_colder_55 : decode cX9_colder 55 = .ok (.getfield 114, 3) := by decide +kernel
theorem dX9_colder_58 : decode cX9_colder 58 = .ok (.iconst 1, 1) := by decide +kernel
theorem dX9_colder_59 : decode cX9_colder 59 = .ok (.iaload, 1) := by decide +kernel
theorem dX9_colder_60 : decode cX9_colder 60 = .ok (.istore_n 3, 1) := by decide +kernel
theorem dX9_colder_61 : decode cX9_colder 61 = .ok (.aload_n 0, 1) := by decide +kernel
theorem dX9_colder_62 : decode cX9_colder 62 = .ok (.getfield 120, 3) := by decide +kernel
theorem dX9_colder_65 : decode cX9_colder 65 = .ok (.iconst 0, 1) := by decide +kernel
theorem dX9_colder_66 : decode cX9_colder 66 = .ok (.aload_n 0, 1) := by decide +kernel
theorem dX9_colder_67 : decode cX9_colder 67 = .ok (.getfield 114, 3) := by decide +kernel
theorem dX9_colder_70 : decode cX9_colder 70 = .ok (.iconst 0, 1) := by decide +kernel
theorem dX9_colder_71 : decode cX9_colder 71 = .ok (.invokestatic 415, 3) := by decide +kernel
theorem dX9_colder_74 : decode cX9_colder 74 = .ok (.iload_n 3, 1) := by decide +kernel
theorem dX9_colder_75 : decode cX9_colder 75 = .ok (.ireturn, 1) := by decide +kernel
theorem dX9_getsBy_0 : decode cX9_getsBy 0 = .ok (.iload_n 3, 1) := by decide +kernel
theorem dX9_getsBy_1 : decode cX9_getsBy 1 = .ok (.iconst 1, 1) := by decide +kernel
theorem dX9_getsBy_2 : decode cX9_getsBy 2 = .ok (.if_icmp .ne 18, 3) := by decide +kernel
theorem dX9_getsBy_5 : decode cX9_getsBy 5 = .ok (.iload 4, 2) := by decide +kernel
theorem dX9_getsBy_7 : decode cX9_getsBy 7 = .ok (.iconst 1, 1) := by decide +kernel
theorem dX9_getsBy_8 : decode cX9_getsBy 8 = .ok (.if_icmp .ne 7, 3) := by decide +kernel
theorem dX9_getsBy_11 : decode cX9_getsBy 11 = .ok (.iload_n 0, 1) := by decide +kernel
theorem dX9_getsBy_12 : decode cX9_getsBy 12 = .ok (.goto 19, 3) := by decide +kernel
theorem dX9_getsBy_15 : decode cX9_getsBy 15 = .ok (.iload_n 1, 1) := by decide +kernel
theorem dX9_getsBy_16 : decode cX9_getsBy 16 = .ok (.ineg, 1) := by decide +kernel
theorem dX9_getsBy_17 : decode cX9_getsBy 17 = .ok (.goto 14, 3) := by decide +kernel
theorem dX9_getsBy_20 : decode cX9_getsBy 20 = .ok (.iload 4, 2) := by decide +kernel
theorem dX9_getsBy_22 : decode cX9_getsBy 22 = .ok (.iconst 1, 1) := by decide +kernel
theorem dX9_getsBy_23 : decode cX9_getsBy 23 = .ok (.if_icmp .ne 7, 3) := by decide +kernel
theorem dX9_getsBy_26 : decode cX9_getsBy 26 = .ok (.iload_n 2, 1) := by decide +kernel
theorem dX9_getsBy_27 : decode cX9_getsBy 27 = .ok (.goto 4, 3) := by decide +kernel
theorem dX9_getsBy_30 : decode cX9_getsBy 30 = .ok (.iconst 0, 1) := by decide +kernel
theorem dX9_getsBy_31 : decode cX9_getsBy 31 = .ok (.ireturn, 1) := by decide +kernel
theorem dX9_rests_0 : decode cX9_rests 0 = .ok (.aload_n 0, 1) := by decide +kernel
theorem dX9_rests_1 : decode cX9_rests 1 = .ok (.iload_n 1, 1) := by decide +kernel
theorem dX9_rests_2 : decode cX9_rests 2 = .ok (.iconst 0, 1) := by decide +kernel
theorem dX9_rests_3 : decode cX9_rests 3 = .ok (.bipush 9, 2) := by decide +kernel
theorem dX9_rests_5 : decode cX9_rests 5 = .ok (.invokestatic 266, 3) := by decide +kernel
theorem dX9_rests_8 : decode cX9_rests 8 = .ok (.ifCond .eq 33, 3) := by decide +kernel
theorem dX9_rests_11 : decode cX9_rests 11 = .ok (.iload_n 2, 1) := by decide +kernel
theorem dX9_rests_12 : decode cX9_rests 12 = .ok (.iconst 0, 1) := by decide +kernel
theorem dX9_rests_13 : decode cX9_rests 13 = .ok (.bipush 9, 2) := by decide +kernel
theorem dX9_rests_15 : decode cX9_rests 15 = .ok (.invokestatic 266, 3) := by decide +kernel
theorem dX9_rests_18 : decode cX9_rests 18 = .ok (.ifCond .eq 23, 3) := by decide +kernel
theorem dX9_rests_21 : decode cX9_rests 21 = .ok (.iload_n 3, 1) := by decide +kernel
theorem dX9_rests_22 : decode cX9_rests 22 = .ok (.iconst 0, 1) := by decide +kernel
theorem dX9_rests_23 : decode cX9_rests 23 = .ok (.bipush 9, 2) := by decide +kernel
theorem dX9_rests_25 : decode cX9_rests 25 = .ok (.invokestatic 266, 3) := by decide +kernel
theorem dX9_rests_28 : decode cX9_rests 28 = .ok (.ifCond .eq 13, 3) := by decide +kernel
theorem dX9_rests_31 : decode cX9_rests 31 = .ok (.iload 4, 2) := by decide +kernel
theorem dX9_rests_33 : decode cX9_rests 33 = .ok (.iconst (-1), 1) := by decide +kernel
theorem dX9_rests_34 : decode cX9_rests 34 = .ok (.if_icmp .lt 7, 3) := by decide +kernel
theorem dX9_rests_37 : decode cX9_rests 37 = .ok (.iconst 0, 1) := by decide +kernel
theorem dX9_rests_38 : decode cX9_rests 38 = .ok (.goto 4, 3) := by decide +kernel
theorem dX9_rests_41 : decode cX9_rests 41 = .ok (.iconst 1, 1) := by decide +kernel
theorem dX9_rests_42 : decode cX9_rests 42 = .ok (.putfield 142, 3) := by decide +kernel
theorem dX9_rests_45 : decode cX9_rests 45 = .ok (.aload_n 0, 1) := by decide +kernel
theorem dX9_rests_46 : decode cX9_rests 46 = .ok (.getfield 142, 3) := by decide +kernel
theorem dX9_rests_49 : decode cX9_rests 49 = .ok (.iconst 1, 1) := by decide +kernel
theorem dX9_rests_50 : decode cX9_rests 50 = .ok (.if_icmp .ne 5, 3) := by decide +kernel
theorem dX9_rests_53 : decode cX9_rests 53 = .ok (.iconst 0, 1) := by decide +kernel
theorem dX9_rests_54 : decode cX9_rests 54 = .ok (.ireturn, 1) := by decide +kernel
theorem dX9_rests_55 : decode cX9_rests 55 = .ok (.iconst 0, 1) := by decide +kernel
theorem dX9_rests_56 : decode cX9_rests 56 = .ok (.istore 5, 2) := by decide +kernel
theorem dX9_rests_58 : decode cX9_rests 58 = .ok (.iconst 0, 1) := by decide +kernel
theorem dX9_rests_59 : decode cX9_rests 59 = .ok (.istore 6, 2) := by decide +kernel
theorem dX9_rests_61 : decode cX9_rests 61 = .ok (.iload 6, 2) := by decide +kernel
theorem dX9_rests_63 : decode cX9_rests 63 = .ok (.iconst 4, 1) := by decide +kernel
theorem dX9_rests_64 : decode cX9_rests 64 = .ok (.if_icmp .ge 87, 3) := by decide +kernel
theorem dX9_rests_67 : decode cX9_rests 67 = .ok (.iload 6, 2) := by decide +kernel
theorem dX9_rests_69 : decode cX9_rests 69 = .ok (.iconst 2, 1) := by decide +kernel
theorem dX9_rests_70 : decode cX9_rests 70 = .ok (.idiv, 1) := by decide +kernel
theorem dX9_rests_71 : decode cX9_rests 71 = .ok (.istore 7, 2) := by decide +kernel
theorem dX9_rests_73 : decode cX9_rests 73 = .ok (.iload 6, 2) := by decide +kernel
theorem dX9_rests_75 : decode cX9_rests 75 = .ok (.iconst 2, 1) := by decide +kernel
theorem dX9_rests_76 : decode cX9_rests 76 = .ok (.irem, 1) := by decide +kernel
theorem dX9_rests_77 : decode cX9_rests 77 = .ok (.istore 8, 2) := by decide +kernel
theorem dX9_rests_79 : decode cX9_rests 79 = .ok (.iload_n 1, 1) := by decide +kernel
theorem dX9_rests_80 : decode cX9_rests 80 = .ok (.iload_n 2, 1) := by decide +kernel
theorem dX9_rests_81 : decode cX9_rests 81 = .ok (.iload_n 3, 1) := by decide +kernel
theorem dX9_rests_82 : decode cX9_rests 82 = .ok (.iconst 1, 1) := by decide +kernel
theorem dX9_rests_83 : decode cX9_rests 83 = .ok (.iload 7, 2) := by decide +kernel
theorem dX9_rests_85 : decode cX9_rests 85 = .ok (.isub, 1) := by decide +kernel
theorem dX9_rests_86 : decode cX9_rests 86 = .ok (.iload 8, 2) := by decide +kernel
theorem dX9_rests_88 : decode cX9_rests 88 = .ok (.invokestatic 474, 3) := by decide +kernel
theorem dX9_rests_91 : decode cX9_rests 91 = .ok (.iload_n 1, 1) := by decide +kernel
theorem dX9_rests_92 : decode cX9_rests 92 = .ok (.iload_n 2, 1) := by decide +kernel
theorem dX9_rests_93 : decode cX9_rests 93 = .ok (.iload_n 3, 1) := by decide +kernel
theorem dX9_rests_94 : decode cX9_rests 94 = .ok (.iload 7, 2) := by decide +kernel
theorem dX9_rests_96 : decode cX9_rests 96 = .ok (.iload 8, 2) := by decide +kernel
theorem dX9_rests_98 : decode cX9_rests 98 = .ok (.invokestatic 474, 3) := by decide +kernel
theorem dX9_rests_101 : decode cX9_rests 101 = .ok (.if_icmp .gt 44, 3) := by decide +kernel
theorem dX9_rests_104 : decode cX9_rests 104 = .ok (.iload_n 1, 1) := by decide +kernel
theorem dX9_rests_105 : decode cX9_rests 105 = .ok (.iload_n 2, 1) := by decide +kernel
theorem dX9_rests_106 : decode cX9_rests 106 = .ok (.iload_n 3, 1) := by decide +kernel
theorem dX9_rests_107 : decode cX9_rests 107 = .ok (.iconst 1, 1) := by decide +kernel
theorem dX9_rests_108 : decode cX9_rests 108 = .ok (.iload 8, 2) := by decide +kernel
theorem dX9_rests_110 : decode cX9_rests 110 = .ok (.isub, 1) := by decide +kernel
theorem dX9_rests_111 : decode cX9_rests 111 = .ok (.iload 7, 2) := by decide +kernel
theorem dX9_rests_113 : decode cX9_rests 113 = .ok (.invokestatic 474, 3) := by decide +kernel
theorem dX9_rests_116 : decode cX9_rests 116 = .ok (.iload_n 1, 1) := by decide +kernel
theorem dX9_rests_117 : decode cX9_rests 117 = .ok (.iload_n 2, 1) := by decide +kernel
theorem dX9_rests_118 : decode cX9_rests 118 = .ok (.iload_n 3, 1) := by decide +kernel
theorem dX9_rests_119 : decode cX9_rests 119 = .ok (.iload 8, 2) := by decide +kernel
theorem dX9_rests_121 : decode cX9_rests 121 = .ok (.iload 7, 2) := by decide +kernel
theorem dX9_rests_123 : decode cX9_rests 123 = .ok (.invokestatic 474, 3) := by decide +kernel
theorem dX9_rests_126 : decode cX9_rests 126 = .ok (.if_icmp .le 6, 3) := by decide +kernel
theorem dX9_rests_129 : decode cX9_rests 129 = .ok (.goto 16, 3) := by decide +kernel
theorem dX9_rests_132 : decode cX9_rests 132 = .ok (.iload 5, 2) := by decide +kernel
theorem dX9_rests_134 : decode cX9_rests 134 = .ok (.iload 4, 2) := by decide +kernel
theorem dX9_rests_136 : decode cX9_rests 136 = .ok (.if_icmp .ne 6, 3) := by decide +kernel
theorem dX9_rests_139 : decode cX9_rests 139 = .ok (.iload 6, 2) := by decide +kernel
theorem dX9_rests_141 : decode cX9_rests 141 = .ok (.ireturn, 1) := by decide +kernel
theorem dX9_rests_142 : decode cX9_rests 142 = .ok (.iinc 5 1, 3) := by decide +kernel
theorem dX9_rests_145 : decode cX9_rests 145 = .ok (.iinc 6 1, 3) := by decide +kernel
theorem dX9_rests_148 : decode cX9_rests 148 = .ok (.goto (-87), 3) := by decide +kernel
theorem dX9_rests_151 : decode cX9_rests 151 = .ok (.aload_n 0, 1) := by decide +kernel
theorem dX9_rests_152 : decode cX9_rests 152 = .ok (.iload 4, 2) := by decide +kernel
theorem dX9_rests_154 : decode cX9_rests 154 = .ok (.iconst (-1), 1) := by decide +kernel
theorem dX9_rests_155 : decode cX9_rests 155 = .ok (.if_icmp .ne 7, 3) := by decide +kernel
theorem dX9_rests_158 : decode cX9_rests 158 = .ok (.iconst 0, 1) := by decide +kernel
theorem dX9_rests_159 : decode cX9_rests 159 = .ok (.goto 4, 3) := by decide +kernel
theorem dX9_rests_162 : decode cX9_rests 162 = .ok (.iconst 1, 1) := by decide +kernel
theorem dX9_rests_163 : decode cX9_rests 163 = .ok (.putfield 142, 3) := by decide +kernel
theorem dX9_rests_166 : decode cX9_rests 166 = .ok (.iload 4, 2) := by decide +kernel
theorem dX9_rests_168 : decode cX9_rests 168 = .ok (.iconst (-1), 1) := by decide +kernel
theorem dX9_rests_169 : decode cX9_rests 169 = .ok (.if_icmp .ne 8, 3) := by decide +kernel
theorem dX9_rests_172 : decode cX9_rests 172 = .ok (.iload 5, 2) := by decide +kernel
theorem dX9_rests_174 : decode cX9_rests 174 = .ok (.goto 4, 3) := by decide +kernel
theorem dX9_rests_177 : decode cX9_rests 177 = .ok (.iconst 0, 1) := by decide +kernel
theorem dX9_rests_178 : decode cX9_rests 178 = .ok (.ireturn, 1) := by decide +kernel
theorem dX9_draws_0 : decode cX9_draws 0 = .ok (.aload_n 0, 1) := by decide +kernel
theorem dX9_draws_1 : decode cX9_draws 1 = .ok (.aload_n 0, 1) := by decide +kernel
theorem dX9_draws_2 : decode cX9_draws 2 = .ok (.getfield 478, 3) := by decide +kernel
