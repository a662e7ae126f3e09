theorem dL_cell_0 : decode cL_cell 0 = .ok (.iload_n 1, 1) := by decide +kernel
theorem dL_cell_1 : decode cL_cell 1 = .ok (.aload_n 0, 1) := by decide +kernel
theorem dL_cell_2 : decode cL_cell 2 = .ok (.arraylength, 1) := by decide +kernel
theorem dL_cell_3 : decode cL_cell 3 = .ok (.if_icmp .ge 9, 3) := by decide +kernel
theorem dL_cell_6 : decode cL_cell 6 = .ok (.aload_n 0, 1) := by decide +kernel
theorem dL_cell_7 : decode cL_cell 7 = .ok (.iload_n 1, 1) := by decide +kernel
theorem dL_cell_8 : decode cL_cell 8 = .ok (.iaload, 1) := by decide +kernel
theorem dL_cell_9 : decode cL_cell 9 = .ok (.goto 10, 3) := by decide +kernel
theorem dL_cell_12 : decode cL_cell 12 = .ok (.ldc 7, 2) := by decide +kernel
theorem dL_cell_14 : decode cL_cell 14 = .ok (.iload_n 1, 1) := by decide +kernel
theorem dL_cell_15 : decode cL_cell 15 = .ok (.imul, 1) := by decide +kernel
theorem dL_cell_16 : decode cL_cell 16 = .ok (.ldc 8, 2) := by decide +kernel
theorem dL_cell_18 : decode cL_cell 18 = .ok (.iadd, 1) := by decide +kernel
theorem dL_cell_19 : decode cL_cell 19 = .ok (.ireturn, 1) := by decide +kernel
theorem dL_pick_0 : decode cL_pick 0 = .ok (.aload_n 0, 1) := by decide +kernel
theorem dL_pick_1 : decode cL_pick 1 = .ok (.iload_n 1, 1) := by decide +kernel
theorem dL_pick_2 : decode cL_pick 2 = .ok (.invokestatic 9, 3) := by decide +kernel
theorem dL_pick_5 : decode cL_pick 5 = .ok (.ldc 15, 2) := by decide +kernel
theorem dL_pick_7 : decode cL_pick 7 = .ok (.iand, 1) := by decide +kernel
theorem dL_pick_8 : decode cL_pick 8 = .ok (.iload_n 2, 1) := by decide +kernel
theorem dL_pick_9 : decode cL_pick 9 = .ok (.irem, 1) := by decide +kernel
theorem dL_pick_10 : decode cL_pick 10 = .ok (.ireturn, 1) := by decide +kernel
theorem dL_feeds_0 : decode cL_feeds 0 = .ok (.iconst 0, 1) := by decide +kernel
theorem dL_feeds_1 : decode cL_feeds 1 = .ok (.istore_n 2, 1) := by decide +kernel
theorem dL_feeds_2 : decode cL_feeds 2 = .ok (.iconst 0, 1) := by decide +kernel
theorem dL_feeds_3 : decode cL_feeds 3 = .ok (.istore_n 3, 1) := by decide +kernel
theorem dL_feeds_4 : decode cL_feeds 4 = .ok (.iload_n 3, 1) := by decide +kernel
theorem dL_feeds_5 : decode cL_feeds 5 = .ok (.aload_n 1, 1) := by decide +kernel
theorem dL_feeds_6 : decode cL_feeds 6 = .ok (.invokevirtual 16, 3) := by decide +kernel
theorem dL_feeds_9 : decode cL_feeds 9 = .ok (.if_icmp .ge 97, 3) := by decide +kernel
theorem dL_feeds_12 : decode cL_feeds 12 = .ok (.iconst 5, 1) := by decide +kernel
theorem dL_feeds_13 : decode cL_feeds 13 = .ok (.newarray .int, 2) := by decide +kernel
theorem dL_feeds_15 : decode cL_feeds 15 = .ok (.astore 4, 2) := by decide +kernel
theorem dL_feeds_17 : decode cL_feeds 17 = .ok (.iconst 0, 1) := by decide +kernel
theorem dL_feeds_18 : decode cL_feeds 18 = .ok (.istore 5, 2) := by decide +kernel
theorem dL_feeds_20 : decode cL_feeds 20 = .ok (.iload 5, 2) := by decide +kernel
theorem dL_feeds_22 : decode cL_feeds 22 = .ok (.bipush 20, 2) := by decide +kernel
theorem dL_feeds_24 : decode cL_feeds 24 = .ok (.if_icmp .ge 51, 3) := by decide +kernel
theorem dL_feeds_27 : decode cL_feeds 27 = .ok (.aload 4, 2) := by decide +kernel
theorem dL_feeds_29 : decode cL_feeds 29 = .ok (.iload 5, 2) := by decide +kernel
theorem dL_feeds_31 : decode cL_feeds 31 = .ok (.iconst 4, 1) := by decide +kernel
theorem dL_feeds_32 : decode cL_feeds 32 = .ok (.idiv, 1) := by decide +kernel
theorem dL_feeds_33 : decode cL_feeds 33 = .ok (.aload 4, 2) := by decide +kernel
theorem dL_feeds_35 : decode cL_feeds 35 = .ok (.iload 5, 2) := by decide +kernel
theorem dL_feeds_37 : decode cL_feeds 37 = .ok (.iconst 4, 1) := by decide +kernel
theorem dL_feeds_38 : decode cL_feeds 38 = .ok (.idiv, 1) := by decide +kernel
theorem dL_feeds_39 : decode cL_feeds 39 = .ok (.iaload, 1) := by decide +kernel
theorem dL_feeds_40 : decode cL_feeds 40 = .ok (.bipush 8, 2) := by decide +kernel
theorem dL_feeds_42 : decode cL_feeds 42 = .ok (.ishl, 1) := by decide +kernel
theorem dL_feeds_43 : decode cL_feeds 43 = .ok (.iload_n 3, 1) := by decide +kernel
theorem dL_feeds_44 : decode cL_feeds 44 = .ok (.iload 5, 2) := by decide +kernel
theorem dL_feeds_46 : decode cL_feeds 46 = .ok (.iadd, 1) := by decide +kernel
theorem dL_feeds_47 : decode cL_feeds 47 = .ok (.aload_n 1, 1) := by decide +kernel
theorem dL_feeds_48 : decode cL_feeds 48 = .ok (.invokevirtual 16, 3) := by decide +kernel
theorem dL_feeds_51 : decode cL_feeds 51 = .ok (.if_icmp .ge 14, 3) := by decide +kernel
theorem dL_feeds_54 : decode cL_feeds 54 = .ok (.aload_n 1, 1) := by decide +kernel
theorem dL_feeds_55 : decode cL_feeds 55 = .ok (.iload_n 3, 1) := by decide +kernel
theorem dL_feeds_56 : decode cL_feeds 56 = .ok (.iload 5, 2) := by decide +kernel
theorem dL_feeds_58 : decode cL_feeds 58 = .ok (.iadd, 1) := by decide +kernel
theorem dL_feeds_59 : decode cL_feeds 59 = .ok (.invokevirtual 22, 3) := by decide +kernel
theorem dL_feeds_62 : decode cL_feeds 62 = .ok (.goto 5, 3) := by decide +kernel
theorem dL_feeds_65 : decode cL_feeds 65 = .ok (.bipush 32, 2) := by decide +kernel
theorem dL_feeds_67 : decode cL_feeds 67 = .ok (.ior, 1) := by decide +kernel
theorem dL_feeds_68 : decode cL_feeds 68 = .ok (.iastore, 1) := by decide +kernel
theorem dL_feeds_69 : decode cL_feeds 69 = .ok (.iinc 5 1, 3) := by decide +kernel
theorem dL_feeds_72 : decode cL_feeds 72 = .ok (.goto (-52), 3) := by decide +kernel
theorem dL_feeds_75 : decode cL_feeds 75 = .ok (.aload_n 0, 1) := by decide +kernel
theorem dL_feeds_76 : decode cL_feeds 76 = .ok (.aload 4, 2) := by decide +kernel
theorem dL_feeds_78 : decode cL_feeds 78 = .ok (.iconst 0, 1) := by decide +kernel
theorem dL_feeds_79 : decode cL_feeds 79 = .ok (.iaload, 1) := by decide +kernel
theorem dL_feeds_80 : decode cL_feeds 80 = .ok (.aload 4, 2) := by decide +kernel
theorem dL_feeds_82 : decode cL_feeds 82 = .ok (.iconst 1, 1) := by decide +kernel
theorem dL_feeds_83 : decode cL_feeds 83 = .ok (.iaload, 1) := by decide +kernel
theorem dL_feeds_84 : decode cL_feeds 84 = .ok (.aload 4, 2) := by decide +kernel
theorem dL_feeds_86 : decode cL_feeds 86 = .ok (.iconst 2, 1) := by decide +kernel
theorem dL_feeds_87 : decode cL_feeds 87 = .ok (.iaload, 1) := by decide +kernel
theorem dL_feeds_88 : decode cL_feeds 88 = .ok (.aload 4, 2) := by decide +kernel
theorem dL_feeds_90 : decode cL_feeds 90 = .ok (.iconst 3, 1) := by decide +kernel
theorem dL_feeds_91 : decode cL_feeds 91 = .ok (.iaload, 1) := by decide +kernel
theorem dL_feeds_92 : decode cL_feeds 92 = .ok (.aload 4, 2) := by decide +kernel
theorem dL_feeds_94 : decode cL_feeds 94 = .ok (.iconst 4, 1) := by decide +kernel
theorem dL_feeds_95 : decode cL_feeds 95 = .ok (.iaload, 1) := by decide +kernel
theorem dL_feeds_96 : decode cL_feeds 96 = .ok (.invokevirtual 26, 3) := by decide +kernel
theorem dL_feeds_99 : decode cL_feeds 99 = .ok (.istore_n 2, 1) := by decide +kernel
theorem dL_feeds_100 : decode cL_feeds 100 = .ok (.iinc 3 20, 3) := by decide +kernel
theorem dL_feeds_103 : decode cL_feeds 103 = .ok (.goto (-99), 3) := by decide +kernel
theorem dL_feeds_106 : decode cL_feeds 106 = .ok (.aload_n 1, 1) := by decide +kernel
theorem dL_feeds_107 : decode cL_feeds 107 = .ok (.invokevirtual 32, 3) := by decide +kernel
theorem dL_feeds_110 : decode cL_feeds 110 = .ok (.ifCond .ne 26, 3) := by decide +kernel
theorem dL_feeds_113 : decode cL_feeds 113 = .ok (.iload_n 2, 1) := by decide +kernel
theorem dL_feeds_114 : decode cL_feeds 114 = .ok (.aload_n 1, 1) := by decide +kernel
theorem dL_feeds_115 : decode cL_feeds 115 = .ok (.invokevirtual 16, 3) := by decide +kernel
theorem dL_feeds_118 : decode cL_feeds 118 = .ok (.if_icmp .lt 22, 3) := by decide +kernel
theorem dL_feeds_121 : decode cL_feeds 121 = .ok (.aload_n 0, 1) := by decide +kernel
theorem dL_feeds_122 : decode cL_feeds 122 = .ok (.aload_n 1, 1) := by decide +kernel
theorem dL_feeds_123 : decode cL_feeds 123 = .ok (.invokevirtual 16, 3) := by decide +kernel
theorem dL_feeds_126 : decode cL_feeds 126 = .ok (.invokevirtual 36, 3) := by decide +kernel
theorem dL_feeds_129 : decode cL_feeds 129 = .ok (.aload_n 1, 1) := by decide +kernel
theorem dL_feeds_130 : decode cL_feeds 130 = .ok (.invokevirtual 16, 3) := by decide +kernel
theorem dL_feeds_133 : decode cL_feeds 133 = .ok (.if_icmp .ne 7, 3) := by decide +kernel
theorem dL_feeds_136 : decode cL_feeds 136 = .ok (.iconst 1, 1) := by decide +kernel
theorem dL_feeds_137 : decode cL_feeds 137 = .ok (.goto 4, 3) := by decide +kernel
theorem dL_feeds_140 : decode cL_feeds 140 = .ok (.iconst 0, 1) := by decide +kernel
theorem dL_feeds_141 : decode cL_feeds 141 = .ok (.ireturn, 1) := by decide +kernel
theorem dL_alike_0 : decode cL_alike 0 = .ok (.iconst 0, 1) := by decide +kernel
theorem dL_alike_1 : decode cL_alike 1 = .ok (.istore_n 2, 1) := by decide +kernel
theorem dL_alike_2 : decode cL_alike 2 = .ok (.iconst 0, 1) := by decide +kernel
theorem dL_alike_3 : decode cL_alike 3 = .ok (.istore_n 3, 1) := by decide +kernel
theorem dL_alike_4 : decode cL_alike 4 = .ok (.iload_n 3, 1) := by decide +kernel
theorem dL_alike_5 : decode cL_alike 5 = .ok (.aload_n 1, 1) := by decide +kernel
theorem dL_alike_6 : decode cL_alike 6 = .ok (.getfield 40, 3) := by decide +kernel
theorem dL_alike_9 : decode cL_alike 9 = .ok (.invokeinterface 46 1, 5) := by decide +kernel
theorem dL_alike_14 : decode cL_alike 14 = .ok (.if_icmp .ge 267, 3) := by decide +kernel
theorem dL_alike_17 : decode cL_alike 17 = .ok (.aload_n 1, 1) := by decide +kernel
theorem dL_alike_18 : decode cL_alike 18 = .ok (.getfield 40, 3) := by decide +kernel
theorem dL_alike_21 : decode cL_alike 21 = .ok (.iload_n 3, 1) := by decide +kernel
theorem dL_alike_22 : decode cL_alike 22 = .ok (.invokeinterface 51 2, 5) := by decide +kernel
theorem dL_alike_27 : decode cL_alike 27 = .ok (.checkcast 55, 3) := by decide +kernel
theorem dL_alike_30 : decode cL_alike 30 = .ok (.astore 4, 2) := by decide +kernel
theorem dL_alike_32 : decode cL_alike 32 = .ok (.iload_n 2, 1) := by decide +kernel
theorem dL_alike_33 : decode cL_alike 33 = .ok (.aload_n 1, 1) := by decide +kernel
theorem dL_alike_34 : decode cL_alike 34 = .ok (.iload_n 3, 1) := by decide +kernel
theorem dL_alike_35 : decode cL_alike 35 = .ok (.invokevirtual 57, 3) := by decide +kernel
theorem dL_alike_38 : decode cL_alike 38 = .ok (.ifCond .eq 7, 3) := by decide +kernel
theorem dL_alike_41 : decode cL_alike 41 = .ok (.iconst 1, 1) := by decide +kernel
theorem dL_alike_42 : decode cL_alike 42 = .ok (.goto 4, 3) := by decide +kernel
theorem dL_alike_45 : decode cL_alike 45 = .ok (.iconst 0, 1) := by decide +kernel
theorem dL_alike_46 : decode cL_alike 46 = .ok (.iadd, 1) := by decide +kernel
theorem dL_alike_47 : decode cL_alike 47 = .ok (.istore_n 2, 1) := by decide +kernel
theorem dL_alike_48 : decode cL_alike 48 = .ok (.aload_n 1, 1) := by decide +kernel
theorem dL_alike_49 : decode cL_alike 49 = .ok (.aload_n 1, 1) := by decide +kernel
theorem dL_alike_50 : decode cL_alike 50 = .ok (.iload_n 3, 1) := by decide +kernel
theorem dL_alike_51 : decode cL_alike 51 = .ok (.invokevirtual 61, 3) := by decide +kernel
theorem dL_alike_54 : decode cL_alike 54 = .ok (.invokevirtual 64, 3) := by decide +kernel
theorem dL_alike_57 : decode cL_alike 57 = .ok (.sipush 3600, 3) := by decide +kernel
theorem dL_alike_60 : decode cL_alike 60 = .ok (.irem, 1) := by decide +kernel
theorem dL_alike_61 : decode cL_alike 61 = .ok (.sipush 3600, 3) := by decide +kernel
theorem dL_alike_64 : decode cL_alike 64 = .ok (.iadd, 1) := by decide +kernel
theorem dL_alike_65 : decode cL_alike 65 = .ok (.sipush 3600, 3) := by decide +kernel
theorem dL_alike_68 : decode cL_alike 68 = .ok (.irem, 1) := by decide +kernel
theorem dL_alike_69 : decode cL_alike 69 = .ok (.istore 5, 2) := by decide +kernel
theorem dL_alike_71 : decode cL_alike 71 = .ok (.bipush 13, 2) := by decide +kernel
theorem dL_alike_73 : decode cL_alike 73 = .ok (.newarray .int, 2) := by decide +kernel
theorem dL_alike_75 : decode cL_alike 75 = .ok (.dup, 1) := by decide +kernel
theorem dL_alike_76 : decode cL_alike 76 = .ok (.iconst 0, 1) := by decide +kernel
theorem dL_alike_77 : decode cL_alike 77 = .ok (.aload 4, 2) := by decide +kernel
theorem dL_alike_79 : decode cL_alike 79 = .ok (.iconst 0, 1) := by decide +kernel
theorem dL_alike_80 : decode cL_alike 80 = .ok (.iaload, 1) := by decide +kernel
theorem dL_alike_81 : decode cL_alike 81 = .ok (.iastore, 1) := by decide +kernel
theorem dL_alike_82 : decode cL_alike 82 = .ok (.dup, 1) := by decide +kernel
theorem dL_alike_83 : decode cL_alike 83 = .ok (.iconst 1, 1) := by decide +kernel
theorem dL_alike_84 : decode cL_alike 84 = .ok (.sipush 1000, 3) := by decide +kernel
theorem dL_alike_87 : decode cL_alike 87 = .ok (.aload_n 1, 1) := by decide +kernel
theorem dL_alike_88 : decode cL_alike 88 = .ok (.getfield 67, 3) := by decide +kernel
theorem dL_alike_91 : decode cL_alike 91 = .ok (.aload 4, 2) := by decide +kernel
theorem dL_alike_93 : decode cL_alike 93 = .ok (.iconst 0, 1) := by decide +kernel
theorem dL_alike_94 : decode cL_alike 94 = .ok (.iaload, 1) := by decide +kernel
theorem dL_alike_95 : decode cL_alike 95 = .ok (.iaload, 1) := by decide +kernel
theorem dL_alike_96 : decode cL_alike 96 = .ok (.imul, 1) := by decide +kernel
theorem dL_alike_97 : decode cL_alike 97 = .ok (.iastore, 1) := by decide +kernel
theorem dL_alike_98 : decode cL_alike 98 = .ok (.dup, 1) := by decide +kernel
theorem dL_alike_99 : decode cL_alike 99 = .ok (.iconst 2, 1) := by decide +kernel
theorem dL_alike_100 : decode cL_alike 100 = .ok (.aload_n 1, 1) := by decide +kernel
theorem dL_alike_101 : decode cL_alike 101 = .ok (.iload_n 3, 1) := by decide +kernel
theorem dL_alike_102 : decode cL_alike 102 = .ok (.invokevirtual 61, 3) := by decide +kernel
theorem dL_alike_105 : decode cL_alike 105 = .ok (.iastore, 1) := by decide +kernel
theorem dL_alike_106 : decode cL_alike 106 = .ok (.dup, 1) := by decide +kernel
theorem dL_alike_107 : decode cL_alike 107 = .ok (.iconst 3, 1) := by decide +kernel
theorem dL_alike_108 : decode cL_alike 108 = .ok (.aload_n 1, 1) := by decide +kernel
theorem dL_alike_109 : decode cL_alike 109 = .ok (.aload_n 1, 1) := by decide +kernel
theorem dL_alike_110 : decode cL_alike 110 = .ok (.iload_n 3, 1) := by decide +kernel
theorem dL_alike_111 : decode cL_alike 111 = .ok (.invokevirtual 61, 3) := by decide +kernel
theorem dL_alike_114 : decode cL_alike 114 = .ok (.invokevirtual 70, 3) := by decide +kernel
theorem dL_alike_117 : decode cL_alike 117 = .ok (.iastore, 1) := by decide +kernel
theorem dL_alike_118 : decode cL_alike 118 = .ok (.dup, 1) := by decide +kernel
theorem dL_alike_119 : decode cL_alike 119 = .ok (.iconst 4, 1) := by decide +kernel
theorem dL_alike_120 : decode cL_alike 120 = .ok (.aload_n 1, 1) := by decide +kernel
theorem dL_alike_121 : decode cL_alike 121 = .ok (.iload_n 3, 1) := by decide +kernel
theorem dL_alike_122 : decode cL_alike 122 = .ok (.iconst (-1), 1) := by decide +kernel
theorem dL_alike_123 : decode cL_alike 123 = .ok (.invokevirtual 73, 3) := by decide +kernel
theorem dL_alike_126 : decode cL_alike 126 = .ok (.iastore, 1) := by decide +kernel
theorem dL_alike_127 : decode cL_alike 127 = .ok (.dup, 1) := by decide +kernel
theorem dL_alike_128 : decode cL_alike 128 = .ok (.iconst 5, 1) := by decide +kernel
theorem dL_alike_129 : decode cL_alike 129 = .ok (.aload_n 1, 1) := by decide +kernel
theorem dL_alike_130 : decode cL_alike 130 = .ok (.iload_n 3, 1) := by decide +kernel
theorem dL_alike_131 : decode cL_alike 131 = .ok (.iconst 1, 1) := by decide +kernel
theorem dL_alike_132 : decode cL_alike 132 = .ok (.invokevirtual 73, 3) := by decide +kernel
theorem dL_alike_135 : decode cL_alike 135 = .ok (.iastore, 1) := by decide +kernel
theorem dL_alike_136 : decode cL_alike 136 = .ok (.dup, 1) := by decide +kernel
theorem dL_alike_137 : decode cL_alike 137 = .ok (.bipush 6, 2) := by decide +kernel
theorem dL_alike_139 : decode cL_alike 139 = .ok (.iload 5, 2) := by decide +kernel
theorem dL_alike_141 : decode cL_alike 141 = .ok (.iastore, 1) := by decide +kernel
theorem dL_alike_142 : decode cL_alike 142 = .ok (.dup, 1) := by decide +kernel
theorem dL_alike_143 : decode cL_alike 143 = .ok (.bipush 7, 2) := by decide +kernel
theorem dL_alike_145 : decode cL_alike 145 = .ok (.aload_n 1, 1) := by decide +kernel
theorem dL_alike_146 : decode cL_alike 146 = .ok (.aload_n 1, 1) := by decide +kernel
theorem dL_alike_147 : decode cL_alike 147 = .ok (.iload_n 3, 1) := by decide +kernel
theorem dL_alike_148 : decode cL_alike 148 = .ok (.invokevirtual 61, 3) := by decide +kernel
theorem dL_alike_151 : decode cL_alike 151 = .ok (.invokevirtual 77, 3) := by decide +kernel
theorem dL_alike_154 : decode cL_alike 154 = .ok (.iastore, 1) := by decide +kernel
theorem dL_alike_155 : decode cL_alike 155 = .ok (.dup, 1) := by decide +kernel
theorem dL_alike_156 : decode cL_alike 156 = .ok (.bipush 8, 2) := by decide +kernel
theorem dL_alike_158 : decode cL_alike 158 = .ok (.aload 4, 2) := by decide +kernel
theorem dL_alike_160 : decode cL_alike 160 = .ok (.iconst 1, 1) := by decide +kernel
theorem dL_alike_161 : decode cL_alike 161 = .ok (.iaload, 1) := by decide +kernel
theorem dL_alike_162 : decode cL_alike 162 = .ok (.iastore, 1) := by decide +kernel
theorem dL_alike_163 : decode cL_alike 163 = .ok (.dup, 1) := by decide +kernel
theorem dL_alike_164 : decode cL_alike 164 = .ok (.bipush 9, 2) := by decide +kernel
theorem dL_alike_166 : decode cL_alike 166 = .ok (.aload_n 1, 1) := by decide +kernel
theorem dL_alike_167 : decode cL_alike 167 = .ok (.iload_n 3, 1) := by decide +kernel
theorem dL_alike_168 : decode cL_alike 168 = .ok (.invokevirtual 57, 3) := by decide +kernel
theorem dL_alike_171 : decode cL_alike 171 = .ok (.ifCond .eq 7, 3) := by decide +kernel
theorem dL_alike_174 : decode cL_alike 174 = .ok (.iconst 1, 1) := by decide +kernel
theorem dL_alike_175 : decode cL_alike 175 = .ok (.goto 4, 3) := by decide +kernel
theorem dL_alike_178 : decode cL_alike 178 = .ok (.iconst 0, 1) := by decide +kernel
theorem dL_alike_179 : decode cL_alike 179 = .ok (.iastore, 1) := by decide +kernel
theorem dL_alike_180 : decode cL_alike 180 = .ok (.dup, 1) := by decide +kernel
theorem dL_alike_181 : decode cL_alike 181 = .ok (.bipush 10, 2) := by decide +kernel
theorem dL_alike_183 : decode cL_alike 183 = .ok (.iconst 1, 1) := by decide +kernel
theorem dL_alike_184 : decode cL_alike 184 = .ok (.aload 4, 2) := by decide +kernel
theorem dL_alike_186 : decode cL_alike 186 = .ok (.iconst 0, 1) := by decide +kernel
theorem dL_alike_187 : decode cL_alike 187 = .ok (.iaload, 1) := by decide +kernel
theorem dL_alike_188 : decode cL_alike 188 = .ok (.iconst 4, 1) := by decide +kernel
theorem dL_alike_189 : decode cL_alike 189 = .ok (.irem, 1) := by decide +kernel
theorem dL_alike_190 : decode cL_alike 190 = .ok (.iadd, 1) := by decide +kernel
theorem dL_alike_191 : decode cL_alike 191 = .ok (.iastore, 1) := by decide +kernel
theorem dL_alike_192 : decode cL_alike 192 = .ok (.dup, 1) := by decide +kernel
theorem dL_alike_193 : decode cL_alike 193 = .ok (.bipush 11, 2) := by decide +kernel
theorem dL_alike_195 : decode cL_alike 195 = .ok (.aload 4, 2) := by decide +kernel
theorem dL_alike_197 : decode cL_alike 197 = .ok (.iconst 2, 1) := by decide +kernel
theorem dL_alike_198 : decode cL_alike 198 = .ok (.iaload, 1) := by decide +kernel
theorem dL_alike_199 : decode cL_alike 199 = .ok (.iastore, 1) := by decide +kernel
theorem dL_alike_200 : decode cL_alike 200 = .ok (.dup, 1) := by decide +kernel
theorem dL_alike_201 : decode cL_alike 201 = .ok (.bipush 12, 2) := by decide +kernel
theorem dL_alike_203 : decode cL_alike 203 = .ok (.aload_n 1, 1) := by decide +kernel
theorem dL_alike_204 : decode cL_alike 204 = .ok (.iload_n 3, 1) := by decide +kernel
theorem dL_alike_205 : decode cL_alike 205 = .ok (.invokevirtual 80, 3) := by decide +kernel
theorem dL_alike_208 : decode cL_alike 208 = .ok (.iastore, 1) := by decide +kernel
theorem dL_alike_209 : decode cL_alike 209 = .ok (.astore 6, 2) := by decide +kernel
theorem dL_alike_211 : decode cL_alike 211 = .ok (.iconst 0, 1) := by decide +kernel
theorem dL_alike_212 : decode cL_alike 212 = .ok (.istore 7, 2) := by decide +kernel
theorem dL_alike_214 : decode cL_alike 214 = .ok (.iload 7, 2) := by decide +kernel
theorem dL_alike_216 : decode cL_alike 216 = .ok (.bipush 13, 2) := by decide +kernel
theorem dL_alike_218 : decode cL_alike 218 = .ok (.if_icmp .ge 26, 3) := by decide +kernel
theorem dL_alike_221 : decode cL_alike 221 = .ok (.aload_n 0, 1) := by decide +kernel
theorem dL_alike_222 : decode cL_alike 222 = .ok (.iload_n 3, 1) := by decide +kernel
theorem dL_alike_223 : decode cL_alike 223 = .ok (.iload 7, 2) := by decide +kernel
theorem dL_alike_225 : decode cL_alike 225 = .ok (.invokevirtual 83, 3) := by decide +kernel
theorem dL_alike_228 : decode cL_alike 228 = .ok (.aload 6, 2) := by decide +kernel
theorem dL_alike_230 : decode cL_alike 230 = .ok (.iload 7, 2) := by decide +kernel
theorem dL_alike_232 : decode cL_alike 232 = .ok (.iaload, 1) := by decide +kernel
theorem dL_alike_233 : decode cL_alike 233 = .ok (.if_icmp .eq 5, 3) := by decide +kernel
theorem dL_alike_236 : decode cL_alike 236 = .ok (.iconst 0, 1) := by decide +kernel
theorem dL_alike_237 : decode cL_alike 237 = .ok (.ireturn, 1) := by decide +kernel
theorem dL_alike_238 : decode cL_alike 238 = .ok (.iinc 7 1, 3) := by decide +kernel
theorem dL_alike_241 : decode cL_alike 241 = .ok (.goto (-27), 3) := by decide +kernel
theorem dL_alike_244 : decode cL_alike 244 = .ok (.aload_n 0, 1) := by decide +kernel
theorem dL_alike_245 : decode cL_alike 245 = .ok (.iload_n 3, 1) := by decide +kernel
theorem dL_alike_246 : decode cL_alike 246 = .ok (.invokevirtual 86, 3) := by decide +kernel
theorem dL_alike_249 : decode cL_alike 249 = .ok (.iconst 0, 1) := by decide +kernel
theorem dL_alike_250 : decode cL_alike 250 = .ok (.bipush 100, 2) := by decide +kernel
theorem dL_alike_252 : decode cL_alike 252 = .ok (.iconst 2, 1) := by decide +kernel
theorem dL_alike_253 : decode cL_alike 253 = .ok (.aload_n 1, 1) := by decide +kernel
theorem dL_alike_254 : decode cL_alike 254 = .ok (.iload_n 3, 1) := by decide +kernel
theorem dL_alike_255 : decode cL_alike 255 = .ok (.invokevirtual 89, 3) := by decide +kernel
theorem dL_alike_258 : decode cL_alike 258 = .ok (.aload_n 1, 1) := by decide +kernel
theorem dL_alike_259 : decode cL_alike 259 = .ok (.getfield 92, 3) := by decide +kernel
theorem dL_alike_262 : decode cL_alike 262 = .ok (.isub, 1) := by decide +kernel
theorem dL_alike_263 : decode cL_alike 263 = .ok (.imul, 1) := by decide +kernel
theorem dL_alike_264 : decode cL_alike 264 = .ok (.invokestatic 96, 3) := by decide +kernel
theorem dL_alike_267 : decode cL_alike 267 = .ok (.invokestatic 101, 3) := by decide +kernel
theorem dL_alike_270 : decode cL_alike 270 = .ok (.if_icmp .eq 5, 3) := by decide +kernel
theorem dL_alike_273 : decode cL_alike 273 = .ok (.iconst 0, 1) := by decide +kernel
theorem dL_alike_274 : decode cL_alike 274 = .ok (.ireturn, 1) := by decide +kernel
theorem dL_alike_275 : decode cL_alike 275 = .ok (.iinc 3 1, 3) := by decide +kernel
theorem dL_alike_278 : decode cL_alike 278 = .ok (.goto (-274), 3) := by decide +kernel
theorem dL_alike_281 : decode cL_alike 281 = .ok (.iconst 0, 1) := by decide +kernel
theorem dL_alike_282 : decode cL_alike 282 = .ok (.istore_n 3, 1) := by decide +kernel
theorem dL_alike_283 : decode cL_alike 283 = .ok (.iload_n 3, 1) := by decide +kernel
theorem dL_alike_284 : decode cL_alike 284 = .ok (.aload_n 1, 1) := by decide +kernel
theorem dL_alike_285 : decode cL_alike 285 = .ok (.getfield 104, 3) := by decide +kernel
theorem dL_alike_288 : decode cL_alike 288 = .ok (.invokeinterface 46 1, 5) := by decide +kernel
theorem dL_alike_293 : decode cL_alike 293 = .ok (.if_icmp .ge 67, 3) := by decide +kernel
theorem dL_alike_296 : decode cL_alike 296 = .ok (.aload_n 1, 1) := by decide +kernel
theorem dL_alike_297 : decode cL_alike 297 = .ok (.getfield 104, 3) := by decide +kernel
theorem dL_alike_300 : decode cL_alike 300 = .ok (.iload_n 3, 1) := by decide +kernel
theorem dL_alike_301 : decode cL_alike 301 = .ok (.invokeinterface 51 2, 5) := by decide +kernel
theorem dL_alike_306 : decode cL_alike 306 = .ok (.checkcast 55, 3) := by decide +kernel
theorem dL_alike_309 : decode cL_alike 309 = .ok (.astore 4, 2) := by decide +kernel
theorem dL_alike_311 : decode cL_alike 311 = .ok (.aload_n 0, 1) := by decide +kernel
theorem dL_alike_312 : decode cL_alike 312 = .ok (.iload_n 3, 1) := by decide +kernel
theorem dL_alike_313 : decode cL_alike 313 = .ok (.iconst 0, 1) := by decide +kernel
theorem dL_alike_314 : decode cL_alike 314 = .ok (.invokevirtual 107, 3) := by decide +kernel
theorem dL_alike_317 : decode cL_alike 317 = .ok (.aload 4, 2) := by decide +kernel
theorem dL_alike_319 : decode cL_alike 319 = .ok (.iconst 0, 1) := by decide +kernel
theorem dL_alike_320 : decode cL_alike 320 = .ok (.iaload, 1) := by decide +kernel
theorem dL_alike_321 : decode cL_alike 321 = .ok (.if_icmp .ne 31, 3) := by decide +kernel
theorem dL_alike_324 : decode cL_alike 324 = .ok (.aload_n 0, 1) := by decide +kernel
theorem dL_alike_325 : decode cL_alike 325 = .ok (.iload_n 3, 1) := by decide +kernel
theorem dL_alike_326 : decode cL_alike 326 = .ok (.iconst 1, 1) := by decide +kernel
theorem dL_alike_327 : decode cL_alike 327 = .ok (.invokevirtual 107, 3) := by decide +kernel
theorem dL_alike_330 : decode cL_alike 330 = .ok (.aload 4, 2) := by decide +kernel
theorem dL_alike_332 : decode cL_alike 332 = .ok (.iconst 1, 1) := by decide +kernel
theorem dL_alike_333 : decode cL_alike 333 = .ok (.iaload, 1) := by decide +kernel
theorem dL_alike_334 : decode cL_alike 334 = .ok (.if_icmp .ne 18, 3) := by decide +kernel
theorem dL_alike_337 : decode cL_alike 337 = .ok (.aload_n 0, 1) := by decide +kernel
theorem dL_alike_338 : decode cL_alike 338 = .ok (.iload_n 3, 1) := by decide +kernel
theorem dL_alike_339 : decode cL_alike 339 = .ok (.iconst 2, 1) := by decide +kernel
theorem dL_alike_340 : decode cL_alike 340 = .ok (.invokevirtual 107, 3) := by decide +kernel
theorem dL_alike_343 : decode cL_alike 343 = .ok (.aload_n 1, 1) := by decide +kernel
theorem dL_alike_344 : decode cL_alike 344 = .ok (.aload 4, 2) := by decide +kernel
theorem dL_alike_346 : decode cL_alike 346 = .ok (.invokevirtual 110, 3) := by decide +kernel
theorem dL_alike_349 : decode cL_alike 349 = .ok (.if_icmp .eq 5, 3) := by decide +kernel
theorem dL_alike_352 : decode cL_alike 352 = .ok (.iconst 0, 1) := by decide +kernel
theorem dL_alike_353 : decode cL_alike 353 = .ok (.ireturn, 1) := by decide +kernel
theorem dL_alike_354 : decode cL_alike 354 = .ok (.iinc 3 1, 3) := by decide +kernel
theorem dL_alike_357 : decode cL_alike 357 = .ok (.goto (-74), 3) := by decide +kernel
theorem dL_alike_360 : decode cL_alike 360 = .ok (.bipush 13, 2) := by decide +kernel
theorem dL_alike_362 : decode cL_alike 362 = .ok (.newarray .int, 2) := by decide +kernel
theorem dL_alike_364 : decode cL_alike 364 = .ok (.dup, 1) := by decide +kernel
theorem dL_alike_365 : decode cL_alike 365 = .ok (.iconst 0, 1) := by decide +kernel
theorem dL_alike_366 : decode cL_alike 366 = .ok (.aload_n 1, 1) := by decide +kernel
theorem dL_alike_367 : decode cL_alike 367 = .ok (.getfield 114, 3) := by decide +kernel
theorem dL_alike_370 : decode cL_alike 370 = .ok (.invokeinterface 46 1, 5) := by decide +kernel
theorem dL_alike_375 : decode cL_alike 375 = .ok (.iastore, 1) := by decide +kernel
theorem dL_alike_376 : decode cL_alike 376 = .ok (.dup, 1) := by decide +kernel
theorem dL_alike_377 : decode cL_alike 377 = .ok (.iconst 1, 1) := by decide +kernel
theorem dL_alike_378 : decode cL_alike 378 = .ok (.aload_n 1, 1) := by decide +kernel
theorem dL_alike_379 : decode cL_alike 379 = .ok (.getfield 40, 3) := by decide +kernel
theorem dL_alike_382 : decode cL_alike 382 = .ok (.invokeinterface 46 1, 5) := by decide +kernel
theorem dL_alike_387 : decode cL_alike 387 = .ok (.iastore, 1) := by decide +kernel
theorem dL_alike_388 : decode cL_alike 388 = .ok (.dup, 1) := by decide +kernel
theorem dL_alike_389 : decode cL_alike 389 = .ok (.iconst 2, 1) := by decide +kernel
theorem dL_alike_390 : decode cL_alike 390 = .ok (.aload_n 1, 1) := by decide +kernel
theorem dL_alike_391 : decode cL_alike 391 = .ok (.getfield 117, 3) := by decide +kernel
theorem dL_alike_394 : decode cL_alike 394 = .ok (.invokeinterface 46 1, 5) := by decide +kernel
theorem dL_alike_399 : decode cL_alike 399 = .ok (.iastore, 1) := by decide +kernel
theorem dL_alike_400 : decode cL_alike 400 = .ok (.dup, 1) := by decide +kernel
theorem dL_alike_401 : decode cL_alike 401 = .ok (.iconst 3, 1) := by decide +kernel
theorem dL_alike_402 : decode cL_alike 402 = .ok (.aload_n 1, 1) := by decide +kernel
theorem dL_alike_403 : decode cL_alike 403 = .ok (.invokevirtual 120, 3) := by decide +kernel
theorem dL_alike_406 : decode cL_alike 406 = .ok (.iastore, 1) := by decide +kernel
theorem dL_alike_407 : decode cL_alike 407 = .ok (.dup, 1) := by decide +kernel
theorem dL_alike_408 : decode cL_alike 408 = .ok (.iconst 4, 1) := by decide +kernel
theorem dL_alike_409 : decode cL_alike 409 = .ok (.aload_n 1, 1) := by decide +kernel
theorem dL_alike_410 : decode cL_alike 410 = .ok (.aload_n 1, 1) := by decide +kernel
theorem dL_alike_411 : decode cL_alike 411 = .ok (.invokevirtual 120, 3) := by decide +kernel
theorem dL_alike_414 : decode cL_alike 414 = .ok (.invokevirtual 70, 3) := by decide +kernel
theorem dL_alike_417 : decode cL_alike 417 = .ok (.iastore, 1) := by decide +kernel
theorem dL_alike_418 : decode cL_alike 418 = .ok (.dup, 1) := by decide +kernel
theorem dL_alike_419 : decode cL_alike 419 = .ok (.iconst 5, 1) := by decide +kernel
theorem dL_alike_420 : decode cL_alike 420 = .ok (.aload_n 1, 1) := by decide +kernel
theorem dL_alike_421 : decode cL_alike 421 = .ok (.getfield 92, 3) := by decide +kernel
theorem dL_alike_424 : decode cL_alike 424 = .ok (.iastore, 1) := by decide +kernel
theorem dL_alike_425 : decode cL_alike 425 = .ok (.dup, 1) := by decide +kernel
theorem dL_alike_426 : decode cL_alike 426 = .ok (.bipush 6, 2) := by decide +kernel
theorem dL_alike_428 : decode cL_alike 428 = .ok (.aload_n 1, 1) := by decide +kernel
theorem dL_alike_429 : decode cL_alike 429 = .ok (.getfield 123, 3) := by decide +kernel
theorem dL_alike_432 : decode cL_alike 432 = .ok (.iastore, 1) := by decide +kernel
theorem dL_alike_433 : decode cL_alike 433 = .ok (.dup, 1) := by decide +kernel
theorem dL_alike_434 : decode cL_alike 434 = .ok (.bipush 7, 2) := by decide +kernel
theorem dL_alike_436 : decode cL_alike 436 = .ok (.aload_n 1, 1) := by decide +kernel
theorem dL_alike_437 : decode cL_alike 437 = .ok (.getfield 104, 3) := by decide +kernel
theorem dL_alike_440 : decode cL_alike 440 = .ok (.invokeinterface 46 1, 5) := by decide +kernel
theorem dL_alike_445 : decode cL_alike 445 = .ok (.iastore, 1) := by decide +kernel
theorem dL_alike_446 : decode cL_alike 446 = .ok (.dup, 1) := by decide +kernel
theorem dL_alike_447 : decode cL_alike 447 = .ok (.bipush 8, 2) := by decide +kernel
theorem dL_alike_449 : decode cL_alike 449 = .ok (.aload_n 1, 1) := by decide +kernel
theorem dL_alike_450 : decode cL_alike 450 = .ok (.invokevirtual 126, 3) := by decide +kernel
theorem dL_alike_453 : decode cL_alike 453 = .ok (.iastore, 1) := by decide +kernel
theorem dL_alike_454 : decode cL_alike 454 = .ok (.dup, 1) := by decide +kernel
theorem dL_alike_455 : decode cL_alike 455 = .ok (.bipush 9, 2) := by decide +kernel
theorem dL_alike_457 : decode cL_alike 457 = .ok (.iload_n 2, 1) := by decide +kernel
theorem dL_alike_458 : decode cL_alike 458 = .ok (.iastore, 1) := by decide +kernel
theorem dL_alike_459 : decode cL_alike 459 = .ok (.dup, 1) := by decide +kernel
theorem dL_alike_460 : decode cL_alike 460 = .ok (.bipush 10, 2) := by decide +kernel
theorem dL_alike_462 : decode cL_alike 462 = .ok (.aload_n 1, 1) := by decide +kernel
theorem dL_alike_463 : decode cL_alike 463 = .ok (.getfield 129, 3) := by decide +kernel
theorem dL_alike_466 : decode cL_alike 466 = .ok (.iastore, 1) := by decide +kernel
theorem dL_alike_467 : decode cL_alike 467 = .ok (.dup, 1) := by decide +kernel
theorem dL_alike_468 : decode cL_alike 468 = .ok (.bipush 11, 2) := by decide +kernel
theorem dL_alike_470 : decode cL_alike 470 = .ok (.aload_n 1, 1) := by decide +kernel
theorem dL_alike_471 : decode cL_alike 471 = .ok (.getfield 132, 3) := by decide +kernel
theorem dL_alike_474 : decode cL_alike 474 = .ok (.iastore, 1) := by decide +kernel
theorem dL_alike_475 : decode cL_alike 475 = .ok (.dup, 1) := by decide +kernel
theorem dL_alike_476 : decode cL_alike 476 = .ok (.bipush 12, 2) := by decide +kernel
theorem dL_alike_478 : decode cL_alike 478 = .ok (.aload_n 1, 1) := by decide +kernel
theorem dL_alike_479 : decode cL_alike 479 = .ok (.getfield 135, 3) := by decide +kernel
theorem dL_alike_482 : decode cL_alike 482 = .ok (.iastore, 1) := by decide +kernel
theorem dL_alike_483 : decode cL_alike 483 = .ok (.astore_n 3, 1) := by decide +kernel
theorem dL_alike_484 : decode cL_alike 484 = .ok (.iconst 0, 1) := by decide +kernel
theorem dL_alike_485 : decode cL_alike 485 = .ok (.istore 4, 2) := by decide +kernel
theorem dL_alike_487 : decode cL_alike 487 = .ok (.iload 4, 2) := by decide +kernel
theorem dL_alike_489 : decode cL_alike 489 = .ok (.bipush 13, 2) := by decide +kernel
theorem dL_alike_491 : decode cL_alike 491 = .ok (.if_icmp .ge 24, 3) := by decide +kernel
theorem dL_alike_494 : decode cL_alike 494 = .ok (.aload_n 0, 1) := by decide +kernel
theorem dL_alike_495 : decode cL_alike 495 = .ok (.iload 4, 2) := by decide +kernel
theorem dL_alike_497 : decode cL_alike 497 = .ok (.invokevirtual 138, 3) := by decide +kernel
theorem dL_alike_500 : decode cL_alike 500 = .ok (.aload_n 3, 1) := by decide +kernel
theorem dL_alike_501 : decode cL_alike 501 = .ok (.iload 4, 2) := by decide +kernel
theorem dL_alike_503 : decode cL_alike 503 = .ok (.iaload, 1) := by decide +kernel
theorem dL_alike_504 : decode cL_alike 504 = .ok (.if_icmp .eq 5, 3) := by decide +kernel
theorem dL_alike_507 : decode cL_alike 507 = .ok (.iconst 0, 1) := by decide +kernel
theorem dL_alike_508 : decode cL_alike 508 = .ok (.ireturn, 1) := by decide +kernel
theorem dL_alike_509 : decode cL_alike 509 = .ok (.iinc 4 1, 3) := by decide +kernel
theorem dL_alike_512 : decode cL_alike 512 = .ok (.goto (-25), 3) := by decide +kernel
theorem dL_alike_515 : decode cL_alike 515 = .ok (.iconst 1, 1) := by decide +kernel
theorem dL_alike_516 : decode cL_alike 516 = .ok (.ireturn, 1) := by decide +kernel
theorem dL_acts_0 : decode cL_acts 0 = .ok (.aload_n 2, 1) := by decide +kernel
theorem dL_acts_1 : decode cL_acts 1 = .ok (.sipush 340, 3) := by decide +kernel
theorem dL_acts_4 : decode cL_acts 4 = .ok (.iload_n 3, 1) := by decide +kernel
theorem dL_acts_5 : decode cL_acts 5 = .ok (.iadd, 1) := by decide +kernel
theorem dL_acts_6 : decode cL_acts 6 = .ok (.ldc 141, 2) := by decide +kernel
theorem dL_acts_8 : decode cL_acts 8 = .ok (.invokestatic 142, 3) := by decide +kernel
theorem dL_acts_11 : decode cL_acts 11 = .ok (.istore 4, 2) := by decide +kernel
theorem dL_acts_13 : decode cL_acts 13 = .ok (.aload_n 2, 1) := by decide +kernel
theorem dL_acts_14 : decode cL_acts 14 = .ok (.sipush 300, 3) := by decide +kernel
theorem dL_acts_17 : decode cL_acts 17 = .ok (.iload_n 3, 1) := by decide +kernel
theorem dL_acts_18 : decode cL_acts 18 = .ok (.iadd, 1) := by decide +kernel
theorem dL_acts_19 : decode cL_acts 19 = .ok (.bipush 14, 2) := by decide +kernel
theorem dL_acts_21 : decode cL_acts 21 = .ok (.invokestatic 142, 3) := by decide +kernel
theorem dL_acts_24 : decode cL_acts 24 = .ok (.istore 5, 2) := by decide +kernel
theorem dL_acts_26 : decode cL_acts 26 = .ok (.iload 5, 2) := by decide +kernel
theorem dL_acts_28 : decode cL_acts 28 = .ok (.ifCond .ne 48, 3) := by decide +kernel
theorem dL_acts_31 : decode cL_acts 31 = .ok (.aload_n 1, 1) := by decide +kernel
theorem dL_acts_32 : decode cL_acts 32 = .ok (.bipush 99, 2) := by decide +kernel
theorem dL_acts_34 : decode cL_acts 34 = .ok (.aload_n 1, 1) := by decide +kernel
theorem dL_acts_35 : decode cL_acts 35 = .ok (.getfield 92, 3) := by decide +kernel
theorem dL_acts_38 : decode cL_acts 38 = .ok (.iconst 1, 1) := by decide +kernel
theorem dL_acts_39 : decode cL_acts 39 = .ok (.iadd, 1) := by decide +kernel
theorem dL_acts_40 : decode cL_acts 40 = .ok (.iload 4, 2) := by decide +kernel
theorem dL_acts_42 : decode cL_acts 42 = .ok (.bipush 40, 2) := by decide +kernel
theorem dL_acts_44 : decode cL_acts 44 = .ok (.irem, 1) := by decide +kernel
theorem dL_acts_45 : decode cL_acts 45 = .ok (.iadd, 1) := by decide +kernel
theorem dL_acts_46 : decode cL_acts 46 = .ok (.invokestatic 96, 3) := by decide +kernel
theorem dL_acts_49 : decode cL_acts 49 = .ok (.putfield 92, 3) := by decide +kernel
theorem dL_acts_52 : decode cL_acts 52 = .ok (.aload_n 0, 1) := by decide +kernel
theorem dL_acts_53 : decode cL_acts 53 = .ok (.iconst 1, 1) := by decide +kernel
theorem dL_acts_54 : decode cL_acts 54 = .ok (.iload 4, 2) := by decide +kernel
theorem dL_acts_56 : decode cL_acts 56 = .ok (.bipush 40, 2) := by decide +kernel
theorem dL_acts_58 : decode cL_acts 58 = .ok (.irem, 1) := by decide +kernel
theorem dL_acts_59 : decode cL_acts 59 = .ok (.iadd, 1) := by decide +kernel
theorem dL_acts_60 : decode cL_acts 60 = .ok (.invokevirtual 146, 3) := by decide +kernel
theorem dL_acts_63 : decode cL_acts 63 = .ok (.aload_n 1, 1) := by decide +kernel
theorem dL_acts_64 : decode cL_acts 64 = .ok (.getfield 92, 3) := by decide +kernel
theorem dL_acts_67 : decode cL_acts 67 = .ok (.if_icmp .ne 7, 3) := by decide +kernel
theorem dL_acts_70 : decode cL_acts 70 = .ok (.iconst 1, 1) := by decide +kernel
theorem dL_acts_71 : decode cL_acts 71 = .ok (.goto 4, 3) := by decide +kernel
theorem dL_acts_74 : decode cL_acts 74 = .ok (.iconst 0, 1) := by decide +kernel
theorem dL_acts_75 : decode cL_acts 75 = .ok (.ireturn, 1) := by decide +kernel
theorem dL_acts_76 : decode cL_acts 76 = .ok (.iload 5, 2) := by decide +kernel
theorem dL_acts_78 : decode cL_acts 78 = .ok (.iconst 1, 1) := by decide +kernel
theorem dL_acts_79 : decode cL_acts 79 = .ok (.if_icmp .ne 37, 3) := by decide +kernel
theorem dL_acts_82 : decode cL_acts 82 = .ok (.aload_n 1, 1) := by decide +kernel
theorem dL_acts_83 : decode cL_acts 83 = .ok (.getfield 123, 3) := by decide +kernel
theorem dL_acts_86 : decode cL_acts 86 = .ok (.istore 6, 2) := by decide +kernel
theorem dL_acts_88 : decode cL_acts 88 = .ok (.aload_n 1, 1) := by decide +kernel
theorem dL_acts_89 : decode cL_acts 89 = .ok (.iload 4, 2) := by decide +kernel
theorem dL_acts_91 : decode cL_acts 91 = .ok (.bipush 60, 2) := by decide +kernel
theorem dL_acts_93 : decode cL_acts 93 = .ok (.irem, 1) := by decide +kernel
theorem dL_acts_94 : decode cL_acts 94 = .ok (.putfield 123, 3) := by decide +kernel
theorem dL_acts_97 : decode cL_acts 97 = .ok (.aload_n 0, 1) := by decide +kernel
theorem dL_acts_98 : decode cL_acts 98 = .ok (.aload_n 1, 1) := by decide +kernel
theorem dL_acts_99 : decode cL_acts 99 = .ok (.getfield 123, 3) := by decide +kernel
theorem dL_acts_102 : decode cL_acts 102 = .ok (.invokevirtual 149, 3) := by decide +kernel
theorem dL_acts_105 : decode cL_acts 105 = .ok (.iload 6, 2) := by decide +kernel
theorem dL_acts_107 : decode cL_acts 107 = .ok (.if_icmp .ne 7, 3) := by decide +kernel
theorem dL_acts_110 : decode cL_acts 110 = .ok (.iconst 1, 1) := by decide +kernel
theorem dL_acts_111 : decode cL_acts 111 = .ok (.goto 4, 3) := by decide +kernel
theorem dL_acts_114 : decode cL_acts 114 = .ok (.iconst 0, 1) := by decide +kernel
theorem dL_acts_115 : decode cL_acts 115 = .ok (.ireturn, 1) := by decide +kernel
theorem dL_acts_116 : decode cL_acts 116 = .ok (.iload 5, 2) := by decide +kernel
theorem dL_acts_118 : decode cL_acts 118 = .ok (.iconst 2, 1) := by decide +kernel
theorem dL_acts_119 : decode cL_acts 119 = .ok (.if_icmp .ne 60, 3) := by decide +kernel
theorem dL_acts_122 : decode cL_acts 122 = .ok (.iload 4, 2) := by decide +kernel
theorem dL_acts_124 : decode cL_acts 124 = .ok (.bipush 26, 2) := by decide +kernel
theorem dL_acts_126 : decode cL_acts 126 = .ok (.irem, 1) := by decide +kernel
theorem dL_acts_127 : decode cL_acts 127 = .ok (.istore 6, 2) := by decide +kernel
theorem dL_acts_129 : decode cL_acts 129 = .ok (.aload_n 1, 1) := by decide +kernel
theorem dL_acts_130 : decode cL_acts 130 = .ok (.getfield 67, 3) := by decide +kernel
theorem dL_acts_133 : decode cL_acts 133 = .ok (.iload 6, 2) := by decide +kernel
theorem dL_acts_135 : decode cL_acts 135 = .ok (.iaload, 1) := by decide +kernel
theorem dL_acts_136 : decode cL_acts 136 = .ok (.istore 7, 2) := by decide +kernel
theorem dL_acts_138 : decode cL_acts 138 = .ok (.aload_n 1, 1) := by decide +kernel
theorem dL_acts_139 : decode cL_acts 139 = .ok (.getfield 67, 3) := by decide +kernel
theorem dL_acts_142 : decode cL_acts 142 = .ok (.iload 6, 2) := by decide +kernel
theorem dL_acts_144 : decode cL_acts 144 = .ok (.iconst 1, 1) := by decide +kernel
theorem dL_acts_145 : decode cL_acts 145 = .ok (.iload 4, 2) := by decide +kernel
theorem dL_acts_147 : decode cL_acts 147 = .ok (.bipush 32, 2) := by decide +kernel
theorem dL_acts_149 : decode cL_acts 149 = .ok (.idiv, 1) := by decide +kernel
theorem dL_acts_150 : decode cL_acts 150 = .ok (.bipush 12, 2) := by decide +kernel
theorem dL_acts_152 : decode cL_acts 152 = .ok (.irem, 1) := by decide +kernel
theorem dL_acts_153 : decode cL_acts 153 = .ok (.iadd, 1) := by decide +kernel
theorem dL_acts_154 : decode cL_acts 154 = .ok (.iastore, 1) := by decide +kernel
theorem dL_acts_155 : decode cL_acts 155 = .ok (.aload_n 0, 1) := by decide +kernel
theorem dL_acts_156 : decode cL_acts 156 = .ok (.iload 6, 2) := by decide +kernel
theorem dL_acts_158 : decode cL_acts 158 = .ok (.aload_n 1, 1) := by decide +kernel
theorem dL_acts_159 : decode cL_acts 159 = .ok (.getfield 67, 3) := by decide +kernel
theorem dL_acts_162 : decode cL_acts 162 = .ok (.iload 6, 2) := by decide +kernel
theorem dL_acts_164 : decode cL_acts 164 = .ok (.iaload, 1) := by decide +kernel
theorem dL_acts_165 : decode cL_acts 165 = .ok (.invokevirtual 152, 3) := by decide +kernel
theorem dL_acts_168 : decode cL_acts 168 = .ok (.iload 7, 2) := by decide +kernel
theorem dL_acts_170 : decode cL_acts 170 = .ok (.if_icmp .ne 7, 3) := by decide +kernel
theorem dL_acts_173 : decode cL_acts 173 = .ok (.iconst 1, 1) := by decide +kernel
theorem dL_acts_174 : decode cL_acts 174 = .ok (.goto 4, 3) := by decide +kernel
theorem dL_acts_177 : decode cL_acts 177 = .ok (.iconst 0, 1) := by decide +kernel
theorem dL_acts_178 : decode cL_acts 178 = .ok (.ireturn, 1) := by decide +kernel
theorem dL_acts_179 : decode cL_acts 179 = .ok (.iload 5, 2) := by decide +kernel
theorem dL_acts_181 : decode cL_acts 181 = .ok (.iconst 5, 1) := by decide +kernel
theorem dL_acts_182 : decode cL_acts 182 = .ok (.if_icmp .ge 94, 3) := by decide +kernel
theorem dL_acts_185 : decode cL_acts 185 = .ok (.aload_n 1, 1) := by decide +kernel
theorem dL_acts_186 : decode cL_acts 186 = .ok (.getfield 114, 3) := by decide +kernel
theorem dL_acts_189 : decode cL_acts 189 = .ok (.invokeinterface 155 1, 5) := by decide +kernel
theorem dL_acts_194 : decode cL_acts 194 = .ok (.ifCond .eq 5, 3) := by decide +kernel
theorem dL_acts_197 : decode cL_acts 197 = .ok (.iconst 1, 1) := by decide +kernel
theorem dL_acts_198 : decode cL_acts 198 = .ok (.ireturn, 1) := by decide +kernel
theorem dL_acts_199 : decode cL_acts 199 = .ok (.aload_n 1, 1) := by decide +kernel
theorem dL_acts_200 : decode cL_acts 200 = .ok (.getfield 114, 3) := by decide +kernel
theorem dL_acts_203 : decode cL_acts 203 = .ok (.iload 4, 2) := by decide +kernel
theorem dL_acts_205 : decode cL_acts 205 = .ok (.aload_n 1, 1) := by decide +kernel
theorem dL_acts_206 : decode cL_acts 206 = .ok (.getfield 114, 3) := by decide +kernel
theorem dL_acts_209 : decode cL_acts 209 = .ok (.invokeinterface 46 1, 5) := by decide +kernel
theorem dL_acts_214 : decode cL_acts 214 = .ok (.irem, 1) := by decide +kernel
theorem dL_acts_215 : decode cL_acts 215 = .ok (.invokeinterface 51 2, 5) := by decide +kernel
theorem dL_acts_220 : decode cL_acts 220 = .ok (.checkcast 55, 3) := by decide +kernel
theorem dL_acts_223 : decode cL_acts 223 = .ok (.astore 6, 2) := by decide +kernel
theorem dL_acts_225 : decode cL_acts 225 = .ok (.aload 6, 2) := by decide +kernel
theorem dL_acts_227 : decode cL_acts 227 = .ok (.iconst 0, 1) := by decide +kernel
theorem dL_acts_228 : decode cL_acts 228 = .ok (.iaload, 1) := by decide +kernel
theorem dL_acts_229 : decode cL_acts 229 = .ok (.istore 7, 2) := by decide +kernel
theorem dL_acts_231 : decode cL_acts 231 = .ok (.aload 6, 2) := by decide +kernel
theorem dL_acts_233 : decode cL_acts 233 = .ok (.iconst 0, 1) := by decide +kernel
theorem dL_acts_234 : decode cL_acts 234 = .ok (.iconst 1, 1) := by decide +kernel
theorem dL_acts_235 : decode cL_acts 235 = .ok (.iload 4, 2) := by decide +kernel
theorem dL_acts_237 : decode cL_acts 237 = .ok (.bipush 8, 2) := by decide +kernel
theorem dL_acts_239 : decode cL_acts 239 = .ok (.idiv, 1) := by decide +kernel
theorem dL_acts_240 : decode cL_acts 240 = .ok (.bipush 99, 2) := by decide +kernel
theorem dL_acts_242 : decode cL_acts 242 = .ok (.irem, 1) := by decide +kernel
theorem dL_acts_243 : decode cL_acts 243 = .ok (.iadd, 1) := by decide +kernel
theorem dL_acts_244 : decode cL_acts 244 = .ok (.iastore, 1) := by decide +kernel
theorem dL_acts_245 : decode cL_acts 245 = .ok (.aload_n 0, 1) := by decide +kernel
theorem dL_acts_246 : decode cL_acts 246 = .ok (.iload 4, 2) := by decide +kernel
theorem dL_acts_248 : decode cL_acts 248 = .ok (.aload_n 1, 1) := by decide +kernel
theorem dL_acts_249 : decode cL_acts 249 = .ok (.getfield 114, 3) := by decide +kernel
theorem dL_acts_252 : decode cL_acts 252 = .ok (.invokeinterface 46 1, 5) := by decide +kernel
theorem dL_acts_257 : decode cL_acts 257 = .ok (.irem, 1) := by decide +kernel
theorem dL_acts_258 : decode cL_acts 258 = .ok (.aload 6, 2) := by decide +kernel
theorem dL_acts_260 : decode cL_acts 260 = .ok (.iconst 0, 1) := by decide +kernel
theorem dL_acts_261 : decode cL_acts 261 = .ok (.iaload, 1) := by decide +kernel
theorem dL_acts_262 : decode cL_acts 262 = .ok (.invokevirtual 156, 3) := by decide +kernel
theorem dL_acts_265 : decode cL_acts 265 = .ok (.iload 7, 2) := by decide +kernel
theorem dL_acts_267 : decode cL_acts 267 = .ok (.if_icmp .ne 7, 3) := by decide +kernel
theorem dL_acts_270 : decode cL_acts 270 = .ok (.iconst 1, 1) := by decide +kernel
theorem dL_acts_271 : decode cL_acts 271 = .ok (.goto 4, 3) := by decide +kernel
theorem dL_acts_274 : decode cL_acts 274 = .ok (.iconst 0, 1) := by decide +kernel
theorem dL_acts_275 : decode cL_acts 275 = .ok (.ireturn, 1) := by decide +kernel
theorem dL_acts_276 : decode cL_acts 276 = .ok (.iload 5, 2) := by decide +kernel
theorem dL_acts_278 : decode cL_acts 278 = .ok (.bipush 7, 2) := by decide +kernel
theorem dL_acts_280 : decode cL_acts 280 = .ok (.if_icmp .ge 115, 3) := by decide +kernel
theorem dL_acts_283 : decode cL_acts 283 = .ok (.aload_n 1, 1) := by decide +kernel
theorem dL_acts_284 : decode cL_acts 284 = .ok (.getfield 104, 3) := by decide +kernel
theorem dL_acts_287 : decode cL_acts 287 = .ok (.invokeinterface 155 1, 5) := by decide +kernel
theorem dL_acts_292 : decode cL_acts 292 = .ok (.ifCond .eq 5, 3) := by decide +kernel
theorem dL_acts_295 : decode cL_acts 295 = .ok (.iconst 1, 1) := by decide +kernel
theorem dL_acts_296 : decode cL_acts 296 = .ok (.ireturn, 1) := by decide +kernel
theorem dL_acts_297 : decode cL_acts 297 = .ok (.iload 4, 2) := by decide +kernel
theorem dL_acts_299 : decode cL_acts 299 = .ok (.aload_n 1, 1) := by decide +kernel
theorem dL_acts_300 : decode cL_acts 300 = .ok (.getfield 104, 3) := by decide +kernel
theorem dL_acts_303 : decode cL_acts 303 = .ok (.invokeinterface 46 1, 5) := by decide +kernel
theorem dL_acts_308 : decode cL_acts 308 = .ok (.irem, 1) := by decide +kernel
theorem dL_acts_309 : decode cL_acts 309 = .ok (.istore 6, 2) := by decide +kernel
theorem dL_acts_311 : decode cL_acts 311 = .ok (.aload_n 1, 1) := by decide +kernel
theorem dL_acts_312 : decode cL_acts 312 = .ok (.getfield 40, 3) := by decide +kernel
theorem dL_acts_315 : decode cL_acts 315 = .ok (.aload_n 1, 1) := by decide +kernel
theorem dL_acts_316 : decode cL_acts 316 = .ok (.getfield 104, 3) := by decide +kernel
theorem dL_acts_319 : decode cL_acts 319 = .ok (.iload 6, 2) := by decide +kernel
theorem dL_acts_321 : decode cL_acts 321 = .ok (.invokeinterface 51 2, 5) := by decide +kernel
theorem dL_acts_326 : decode cL_acts 326 = .ok (.checkcast 55, 3) := by decide +kernel
theorem dL_acts_329 : decode cL_acts 329 = .ok (.iconst 0, 1) := by decide +kernel
theorem dL_acts_330 : decode cL_acts 330 = .ok (.iaload, 1) := by decide +kernel
theorem dL_acts_331 : decode cL_acts 331 = .ok (.invokeinterface 51 2, 5) := by decide +kernel
theorem dL_acts_336 : decode cL_acts 336 = .ok (.checkcast 55, 3) := by decide +kernel
theorem dL_acts_339 : decode cL_acts 339 = .ok (.astore 7, 2) := by decide +kernel
theorem dL_acts_341 : decode cL_acts 341 = .ok (.aload 7, 2) := by decide +kernel
theorem dL_acts_343 : decode cL_acts 343 = .ok (.iconst 2, 1) := by decide +kernel
theorem dL_acts_344 : decode cL_acts 344 = .ok (.iaload, 1) := by decide +kernel
theorem dL_acts_345 : decode cL_acts 345 = .ok (.iconst 3, 1) := by decide +kernel
theorem dL_acts_346 : decode cL_acts 346 = .ok (.if_icmp .ne 5, 3) := by decide +kernel
theorem dL_acts_349 : decode cL_acts 349 = .ok (.iconst 1, 1) := by decide +kernel
theorem dL_acts_350 : decode cL_acts 350 = .ok (.ireturn, 1) := by decide +kernel
theorem dL_acts_351 : decode cL_acts 351 = .ok (.aload 7, 2) := by decide +kernel
theorem dL_acts_353 : decode cL_acts 353 = .ok (.iconst 2, 1) := by decide +kernel
theorem dL_acts_354 : decode cL_acts 354 = .ok (.dup2, 1) := by decide +kernel
theorem dL_acts_355 : decode cL_acts 355 = .ok (.iaload, 1) := by decide +kernel
theorem dL_acts_356 : decode cL_acts 356 = .ok (.iconst 1, 1) := by decide +kernel
theorem dL_acts_357 : decode cL_acts 357 = .ok (.iadd, 1) := by decide +kernel
theorem dL_acts_358 : decode cL_acts 358 = .ok (.iastore, 1) := by decide +kernel
theorem dL_acts_359 : decode cL_acts 359 = .ok (.aload_n 1, 1) := by decide +kernel
theorem dL_acts_360 : decode cL_acts 360 = .ok (.getfield 104, 3) := by decide +kernel
theorem dL_acts_363 : decode cL_acts 363 = .ok (.iload 6, 2) := by decide +kernel
theorem dL_acts_365 : decode cL_acts 365 = .ok (.invokeinterface 159 2, 5) := by decide +kernel
theorem dL_acts_370 : decode cL_acts 370 = .ok (.pop, 1) := by decide +kernel
theorem dL_acts_371 : decode cL_acts 371 = .ok (.aload_n 0, 1) := by decide +kernel
theorem dL_acts_372 : decode cL_acts 372 = .ok (.iload 6, 2) := by decide +kernel
theorem dL_acts_374 : decode cL_acts 374 = .ok (.invokevirtual 162, 3) := by decide +kernel
theorem dL_acts_377 : decode cL_acts 377 = .ok (.aload_n 1, 1) := by decide +kernel
theorem dL_acts_378 : decode cL_acts 378 = .ok (.getfield 104, 3) := by decide +kernel
theorem dL_acts_381 : decode cL_acts 381 = .ok (.invokeinterface 46 1, 5) := by decide +kernel
theorem dL_acts_386 : decode cL_acts 386 = .ok (.if_icmp .ne 7, 3) := by decide +kernel
theorem dL_acts_389 : decode cL_acts 389 = .ok (.iconst 1, 1) := by decide +kernel
theorem dL_acts_390 : decode cL_acts 390 = .ok (.goto 4, 3) := by decide +kernel
theorem dL_acts_393 : decode cL_acts 393 = .ok (.iconst 0, 1) := by decide +kernel
theorem dL_acts_394 : decode cL_acts 394 = .ok (.ireturn, 1) := by decide +kernel
theorem dL_acts_395 : decode cL_acts 395 = .ok (.aload_n 1, 1) := by decide +kernel
theorem dL_acts_396 : decode cL_acts 396 = .ok (.getfield 40, 3) := by decide +kernel
theorem dL_acts_399 : decode cL_acts 399 = .ok (.invokeinterface 155 1, 5) := by decide +kernel
theorem dL_acts_404 : decode cL_acts 404 = .ok (.ifCond .eq 5, 3) := by decide +kernel
theorem dL_acts_407 : decode cL_acts 407 = .ok (.iconst 1, 1) := by decide +kernel
theorem dL_acts_408 : decode cL_acts 408 = .ok (.ireturn, 1) := by decide +kernel
theorem dL_acts_409 : decode cL_acts 409 = .ok (.iload 4, 2) := by decide +kernel
theorem dL_acts_411 : decode cL_acts 411 = .ok (.aload_n 1, 1) := by decide +kernel
theorem dL_acts_412 : decode cL_acts 412 = .ok (.getfield 40, 3) := by decide +kernel
theorem dL_acts_415 : decode cL_acts 415 = .ok (.invokeinterface 46 1, 5) := by decide +kernel
theorem dL_acts_420 : decode cL_acts 420 = .ok (.irem, 1) := by decide +kernel
theorem dL_acts_421 : decode cL_acts 421 = .ok (.istore 6, 2) := by decide +kernel
theorem dL_acts_423 : decode cL_acts 423 = .ok (.aload_n 1, 1) := by decide +kernel
theorem dL_acts_424 : decode cL_acts 424 = .ok (.getfield 40, 3) := by decide +kernel
theorem dL_acts_427 : decode cL_acts 427 = .ok (.iload 6, 2) := by decide +kernel
theorem dL_acts_429 : decode cL_acts 429 = .ok (.invokeinterface 51 2, 5) := by decide +kernel
theorem dL_acts_434 : decode cL_acts 434 = .ok (.checkcast 55, 3) := by decide +kernel
theorem dL_acts_437 : decode cL_acts 437 = .ok (.astore 7, 2) := by decide +kernel
theorem dL_acts_439 : decode cL_acts 439 = .ok (.iload 5, 2) := by decide +kernel
theorem dL_acts_441 : decode cL_acts 441 = .ok (.bipush 7, 2) := by decide +kernel
theorem dL_acts_443 : decode cL_acts 443 = .ok (.if_icmp .ne 115, 3) := by decide +kernel
theorem dL_acts_446 : decode cL_acts 446 = .ok (.aload 7, 2) := by decide +kernel
theorem dL_acts_448 : decode cL_acts 448 = .ok (.iconst 1, 1) := by decide +kernel
theorem dL_acts_449 : decode cL_acts 449 = .ok (.iaload, 1) := by decide +kernel
theorem dL_acts_450 : decode cL_acts 450 = .ok (.ifCond .eq 11, 3) := by decide +kernel
theorem dL_acts_453 : decode cL_acts 453 = .ok (.aload 7, 2) := by decide +kernel
theorem dL_acts_455 : decode cL_acts 455 = .ok (.iconst 2, 1) := by decide +kernel
theorem dL_acts_456 : decode cL_acts 456 = .ok (.iaload, 1) := by decide +kernel
theorem dL_acts_457 : decode cL_acts 457 = .ok (.iconst 3, 1) := by decide +kernel
theorem dL_acts_458 : decode cL_acts 458 = .ok (.if_icmp .ne 5, 3) := by decide +kernel
theorem dL_acts_461 : decode cL_acts 461 = .ok (.iconst 1, 1) := by decide +kernel
theorem dL_acts_462 : decode cL_acts 462 = .ok (.ireturn, 1) := by decide +kernel
theorem dL_acts_463 : decode cL_acts 463 = .ok (.aload 7, 2) := by decide +kernel
theorem dL_acts_465 : decode cL_acts 465 = .ok (.iconst 1, 1) := by decide +kernel
theorem dL_acts_466 : decode cL_acts 466 = .ok (.iconst 0, 1) := by decide +kernel
theorem dL_acts_467 : decode cL_acts 467 = .ok (.iastore, 1) := by decide +kernel
theorem dL_acts_468 : decode cL_acts 468 = .ok (.aload 7, 2) := by decide +kernel
theorem dL_acts_470 : decode cL_acts 470 = .ok (.iconst 2, 1) := by decide +kernel
theorem dL_acts_471 : decode cL_acts 471 = .ok (.dup2, 1) := by decide +kernel
theorem dL_acts_472 : decode cL_acts 472 = .ok (.iaload, 1) := by decide +kernel
theorem dL_acts_473 : decode cL_acts 473 = .ok (.iconst 1, 1) := by decide +kernel
theorem dL_acts_474 : decode cL_acts 474 = .ok (.iadd, 1) := by decide +kernel
theorem dL_acts_475 : decode cL_acts 475 = .ok (.iastore, 1) := by decide +kernel
theorem dL_acts_476 : decode cL_acts 476 = .ok (.aload_n 1, 1) := by decide +kernel
theorem dL_acts_477 : decode cL_acts 477 = .ok (.iload 6, 2) := by decide +kernel
theorem dL_acts_479 : decode cL_acts 479 = .ok (.invokevirtual 80, 3) := by decide +kernel
theorem dL_acts_482 : decode cL_acts 482 = .ok (.istore 8, 2) := by decide +kernel
theorem dL_acts_484 : decode cL_acts 484 = .ok (.aload_n 1, 1) := by decide +kernel
theorem dL_acts_485 : decode cL_acts 485 = .ok (.getfield 104, 3) := by decide +kernel
theorem dL_acts_488 : decode cL_acts 488 = .ok (.invokeinterface 46 1, 5) := by decide +kernel
theorem dL_acts_493 : decode cL_acts 493 = .ok (.iconst 1, 1) := by decide +kernel
theorem dL_acts_494 : decode cL_acts 494 = .ok (.isub, 1) := by decide +kernel
theorem dL_acts_495 : decode cL_acts 495 = .ok (.istore 9, 2) := by decide +kernel
theorem dL_acts_497 : decode cL_acts 497 = .ok (.iload 9, 2) := by decide +kernel
theorem dL_acts_499 : decode cL_acts 499 = .ok (.ifCond .lt 42, 3) := by decide +kernel
theorem dL_acts_502 : decode cL_acts 502 = .ok (.aload_n 1, 1) := by decide +kernel
theorem dL_acts_503 : decode cL_acts 503 = .ok (.getfield 104, 3) := by decide +kernel
theorem dL_acts_506 : decode cL_acts 506 = .ok (.iload 9, 2) := by decide +kernel
theorem dL_acts_508 : decode cL_acts 508 = .ok (.invokeinterface 51 2, 5) := by decide +kernel
theorem dL_acts_513 : decode cL_acts 513 = .ok (.checkcast 55, 3) := by decide +kernel
theorem dL_acts_516 : decode cL_acts 516 = .ok (.iconst 0, 1) := by decide +kernel
theorem dL_acts_517 : decode cL_acts 517 = .ok (.iaload, 1) := by decide +kernel
theorem dL_acts_518 : decode cL_acts 518 = .ok (.iload 6, 2) := by decide +kernel
theorem dL_acts_520 : decode cL_acts 520 = .ok (.if_icmp .ne 15, 3) := by decide +kernel
theorem dL_acts_523 : decode cL_acts 523 = .ok (.aload_n 1, 1) := by decide +kernel
theorem dL_acts_524 : decode cL_acts 524 = .ok (.getfield 104, 3) := by decide +kernel
theorem dL_acts_527 : decode cL_acts 527 = .ok (.iload 9, 2) := by decide +kernel
theorem dL_acts_529 : decode cL_acts 529 = .ok (.invokeinterface 159 2, 5) := by decide +kernel
theorem dL_acts_534 : decode cL_acts 534 = .ok (.pop, 1) := by decide +kernel
theorem dL_acts_535 : decode cL_acts 535 = .ok (.iinc 9 (-1), 3) := by decide +kernel
theorem dL_acts_538 : decode cL_acts 538 = .ok (.goto (-41), 3) := by decide +kernel
theorem dL_acts_541 : decode cL_acts 541 = .ok (.aload_n 0, 1) := by decide +kernel
theorem dL_acts_542 : decode cL_acts 542 = .ok (.iload 6, 2) := by decide +kernel
theorem dL_acts_544 : decode cL_acts 544 = .ok (.invokevirtual 165, 3) := by decide +kernel
theorem dL_acts_547 : decode cL_acts 547 = .ok (.iload 8, 2) := by decide +kernel
theorem dL_acts_549 : decode cL_acts 549 = .ok (.if_icmp .ne 7, 3) := by decide +kernel
theorem dL_acts_552 : decode cL_acts 552 = .ok (.iconst 1, 1) := by decide +kernel
theorem dL_acts_553 : decode cL_acts 553 = .ok (.goto 4, 3) := by decide +kernel
theorem dL_acts_556 : decode cL_acts 556 = .ok (.iconst 0, 1) := by decide +kernel
theorem dL_acts_557 : decode cL_acts 557 = .ok (.ireturn, 1) := by decide +kernel
theorem dL_acts_558 : decode cL_acts 558 = .ok (.aload_n 1, 1) := by decide +kernel
theorem dL_acts_559 : decode cL_acts 559 = .ok (.getfield 114, 3) := by decide +kernel
theorem dL_acts_562 : decode cL_acts 562 = .ok (.invokeinterface 155 1, 5) := by decide +kernel
theorem dL_acts_567 : decode cL_acts 567 = .ok (.ifCond .ne 17, 3) := by decide +kernel
theorem dL_acts_570 : decode cL_acts 570 = .ok (.aload_n 1, 1) := by decide +kernel
theorem dL_acts_571 : decode cL_acts 571 = .ok (.getfield 104, 3) := by decide +kernel
theorem dL_acts_574 : decode cL_acts 574 = .ok (.invokeinterface 46 1, 5) := by decide +kernel
theorem dL_acts_579 : decode cL_acts 579 = .ok (.bipush 40, 2) := by decide +kernel
theorem dL_acts_581 : decode cL_acts 581 = .ok (.if_icmp .le 5, 3) := by decide +kernel
theorem dL_acts_584 : decode cL_acts 584 = .ok (.iconst 1, 1) := by decide +kernel
theorem dL_acts_585 : decode cL_acts 585 = .ok (.ireturn, 1) := by decide +kernel
theorem dL_acts_586 : decode cL_acts 586 = .ok (.iload 5, 2) := by decide +kernel
theorem dL_acts_588 : decode cL_acts 588 = .ok (.bipush 8, 2) := by decide +kernel
theorem dL_acts_590 : decode cL_acts 590 = .ok (.if_icmp .ne 38, 3) := by decide +kernel
theorem dL_acts_593 : decode cL_acts 593 = .ok (.aload_n 1, 1) := by decide +kernel
theorem dL_acts_594 : decode cL_acts 594 = .ok (.invokevirtual 126, 3) := by decide +kernel
theorem dL_acts_597 : decode cL_acts 597 = .ok (.aload_n 1, 1) := by decide +kernel
theorem dL_acts_598 : decode cL_acts 598 = .ok (.getfield 40, 3) := by decide +kernel
theorem dL_acts_601 : decode cL_acts 601 = .ok (.invokeinterface 46 1, 5) := by decide +kernel
theorem dL_acts_606 : decode cL_acts 606 = .ok (.if_icmp .eq 16, 3) := by decide +kernel
theorem dL_acts_609 : decode cL_acts 609 = .ok (.aload_n 0, 1) := by decide +kernel
theorem dL_acts_610 : decode cL_acts 610 = .ok (.invokevirtual 168, 3) := by decide +kernel
theorem dL_acts_613 : decode cL_acts 613 = .ok (.aload_n 1, 1) := by decide +kernel
theorem dL_acts_614 : decode cL_acts 614 = .ok (.bipush 40, 2) := by decide +kernel
theorem dL_acts_616 : decode cL_acts 616 = .ok (.invokevirtual 171, 3) := by decide +kernel
theorem dL_acts_619 : decode cL_acts 619 = .ok (.if_icmp .ne 7, 3) := by decide +kernel
theorem dL_acts_622 : decode cL_acts 622 = .ok (.iconst 1, 1) := by decide +kernel
theorem dL_acts_623 : decode cL_acts 623 = .ok (.goto 4, 3) := by decide +kernel
theorem dL_acts_626 : decode cL_acts 626 = .ok (.iconst 0, 1) := by decide +kernel
theorem dL_acts_627 : decode cL_acts 627 = .ok (.ireturn, 1) := by decide +kernel
theorem dL_acts_628 : decode cL_acts 628 = .ok (.aload 7, 2) := by decide +kernel
theorem dL_acts_630 : decode cL_acts 630 = .ok (.iconst 1, 1) := by decide +kernel
theorem dL_acts_631 : decode cL_acts 631 = .ok (.iaload, 1) := by decide +kernel
theorem dL_acts_632 : decode cL_acts 632 = .ok (.iconst 1, 1) := by decide +kernel
theorem dL_acts_633 : decode cL_acts 633 = .ok (.if_icmp .eq 18, 3) := by decide +kernel
theorem dL_acts_636 : decode cL_acts 636 = .ok (.aload_n 0, 1) := by decide +kernel
theorem dL_acts_637 : decode cL_acts 637 = .ok (.iload 6, 2) := by decide +kernel
theorem dL_acts_639 : decode cL_acts 639 = .ok (.invokevirtual 173, 3) := by decide +kernel
theorem dL_acts_642 : decode cL_acts 642 = .ok (.aload_n 1, 1) := by decide +kernel
theorem dL_acts_643 : decode cL_acts 643 = .ok (.iload 6, 2) := by decide +kernel
theorem dL_acts_645 : decode cL_acts 645 = .ok (.invokevirtual 176, 3) := by decide +kernel
theorem dL_acts_648 : decode cL_acts 648 = .ok (.if_icmp .ne 7, 3) := by decide +kernel
theorem dL_acts_651 : decode cL_acts 651 = .ok (.iconst 1, 1) := by decide +kernel
theorem dL_acts_652 : decode cL_acts 652 = .ok (.goto 4, 3) := by decide +kernel
theorem dL_acts_655 : decode cL_acts 655 = .ok (.iconst 0, 1) := by decide +kernel
theorem dL_acts_656 : decode cL_acts 656 = .ok (.ireturn, 1) := by decide +kernel
theorem dL_holds_0 : decode cL_holds 0 = .ok (.aload_n 0, 1) := by decide +kernel
theorem dL_holds_1 : decode cL_holds 1 = .ok (.iconst 1, 1) := by decide +kernel
theorem dL_holds_2 : decode cL_holds 2 = .ok (.invokevirtual 138, 3) := by decide +kernel
theorem dL_holds_5 : decode cL_holds 5 = .ok (.istore_n 1, 1) := by decide +kernel
theorem dL_holds_6 : decode cL_holds 6 = .ok (.iconst 0, 1) := by decide +kernel
theorem dL_holds_7 : decode cL_holds 7 = .ok (.istore_n 2, 1) := by decide +kernel
theorem dL_holds_8 : decode cL_holds 8 = .ok (.iconst 0, 1) := by decide +kernel
theorem dL_holds_9 : decode cL_holds 9 = .ok (.istore_n 3, 1) := by decide +kernel
theorem dL_holds_10 : decode cL_holds 10 = .ok (.iconst 0, 1) := by decide +kernel
theorem dL_holds_11 : decode cL_holds 11 = .ok (.istore 4, 2) := by decide +kernel
theorem dL_holds_13 : decode cL_holds 13 = .ok (.iload 4, 2) := by decide +kernel
theorem dL_holds_15 : decode cL_holds 15 = .ok (.iload_n 1, 1) := by decide +kernel
theorem dL_holds_16 : decode cL_holds 16 = .ok (.if_icmp .gt 206, 3) := by decide +kernel
theorem dL_holds_19 : decode cL_holds 19 = .ok (.iload_n 2, 1) := by decide +kernel
theorem dL_holds_20 : decode cL_holds 20 = .ok (.aload_n 0, 1) := by decide +kernel
theorem dL_holds_21 : decode cL_holds 21 = .ok (.iload 4, 2) := by decide +kernel
theorem dL_holds_23 : decode cL_holds 23 = .ok (.invokevirtual 177, 3) := by decide +kernel
theorem dL_holds_26 : decode cL_holds 26 = .ok (.iadd, 1) := by decide +kernel
theorem dL_holds_27 : decode cL_holds 27 = .ok (.istore_n 2, 1) := by decide +kernel
theorem dL_holds_28 : decode cL_holds 28 = .ok (.aload_n 0, 1) := by decide +kernel
theorem dL_holds_29 : decode cL_holds 29 = .ok (.invokevirtual 180, 3) := by decide +kernel
theorem dL_holds_32 : decode cL_holds 32 = .ok (.iload 4, 2) := by decide +kernel
theorem dL_holds_34 : decode cL_holds 34 = .ok (.ishr, 1) := by decide +kernel
theorem dL_holds_35 : decode cL_holds 35 = .ok (.iconst 1, 1) := by decide +kernel
theorem dL_holds_36 : decode cL_holds 36 = .ok (.iand, 1) := by decide +kernel
theorem dL_holds_37 : decode cL_holds 37 = .ok (.iconst 1, 1) := by decide +kernel
theorem dL_holds_38 : decode cL_holds 38 = .ok (.if_icmp .ne 7, 3) := by decide +kernel
theorem dL_holds_41 : decode cL_holds 41 = .ok (.iconst 1, 1) := by decide +kernel
theorem dL_holds_42 : decode cL_holds 42 = .ok (.goto 4, 3) := by decide +kernel
theorem dL_holds_45 : decode cL_holds 45 = .ok (.iconst 0, 1) := by decide +kernel
theorem dL_holds_46 : decode cL_holds 46 = .ok (.aload_n 0, 1) := by decide +kernel
theorem dL_holds_47 : decode cL_holds 47 = .ok (.iload 4, 2) := by decide +kernel
theorem dL_holds_49 : decode cL_holds 49 = .ok (.invokevirtual 177, 3) := by decide +kernel
theorem dL_holds_52 : decode cL_holds 52 = .ok (.bipush 100, 2) := by decide +kernel
theorem dL_holds_54 : decode cL_holds 54 = .ok (.aload_n 0, 1) := by decide +kernel
theorem dL_holds_55 : decode cL_holds 55 = .ok (.bipush 6, 2) := by decide +kernel
theorem dL_holds_57 : decode cL_holds 57 = .ok (.invokevirtual 138, 3) := by decide +kernel
theorem dL_holds_60 : decode cL_holds 60 = .ok (.imul, 1) := by decide +kernel
theorem dL_holds_61 : decode cL_holds 61 = .ok (.if_icmp .ge 7, 3) := by decide +kernel
theorem dL_holds_64 : decode cL_holds 64 = .ok (.iconst 1, 1) := by decide +kernel
theorem dL_holds_65 : decode cL_holds 65 = .ok (.goto 4, 3) := by decide +kernel
theorem dL_holds_68 : decode cL_holds 68 = .ok (.iconst 0, 1) := by decide +kernel
theorem dL_holds_69 : decode cL_holds 69 = .ok (.if_icmp .ne 20, 3) := by decide +kernel
theorem dL_holds_72 : decode cL_holds 72 = .ok (.aload_n 0, 1) := by decide +kernel
theorem dL_holds_73 : decode cL_holds 73 = .ok (.iload 4, 2) := by decide +kernel
theorem dL_holds_75 : decode cL_holds 75 = .ok (.invokevirtual 177, 3) := by decide +kernel
theorem dL_holds_78 : decode cL_holds 78 = .ok (.aload_n 0, 1) := by decide +kernel
theorem dL_holds_79 : decode cL_holds 79 = .ok (.aload_n 0, 1) := by decide +kernel
theorem dL_holds_80 : decode cL_holds 80 = .ok (.invokevirtual 183, 3) := by decide +kernel
theorem dL_holds_83 : decode cL_holds 83 = .ok (.invokevirtual 177, 3) := by decide +kernel
theorem dL_holds_86 : decode cL_holds 86 = .ok (.if_icmp .ge 5, 3) := by decide +kernel
theorem dL_holds_89 : decode cL_holds 89 = .ok (.iconst 0, 1) := by decide +kernel
theorem dL_holds_90 : decode cL_holds 90 = .ok (.ireturn, 1) := by decide +kernel
theorem dL_holds_91 : decode cL_holds 91 = .ok (.iload 4, 2) := by decide +kernel
theorem dL_holds_93 : decode cL_holds 93 = .ok (.iload_n 1, 1) := by decide +kernel
theorem dL_holds_94 : decode cL_holds 94 = .ok (.if_icmp .ne 6, 3) := by decide +kernel
theorem dL_holds_97 : decode cL_holds 97 = .ok (.goto 119, 3) := by decide +kernel
theorem dL_holds_100 : decode cL_holds 100 = .ok (.iload_n 2, 1) := by decide +kernel
theorem dL_holds_101 : decode cL_holds 101 = .ok (.aload_n 0, 1) := by decide +kernel
theorem dL_holds_102 : decode cL_holds 102 = .ok (.iload 4, 2) := by decide +kernel
theorem dL_holds_104 : decode cL_holds 104 = .ok (.iconst 1, 1) := by decide +kernel
theorem dL_holds_105 : decode cL_holds 105 = .ok (.invokevirtual 83, 3) := by decide +kernel
theorem dL_holds_108 : decode cL_holds 108 = .ok (.iadd, 1) := by decide +kernel
theorem dL_holds_109 : decode cL_holds 109 = .ok (.istore_n 2, 1) := by decide +kernel
theorem dL_holds_110 : decode cL_holds 110 = .ok (.aload_n 0, 1) := by decide +kernel
theorem dL_holds_111 : decode cL_holds 111 = .ok (.iload 4, 2) := by decide +kernel
theorem dL_holds_113 : decode cL_holds 113 = .ok (.iconst 5, 1) := by decide +kernel
theorem dL_holds_114 : decode cL_holds 114 = .ok (.invokevirtual 83, 3) := by decide +kernel
theorem dL_holds_117 : decode cL_holds 117 = .ok (.aload_n 0, 1) := by decide +kernel
theorem dL_holds_118 : decode cL_holds 118 = .ok (.iload 4, 2) := by decide +kernel
theorem dL_holds_120 : decode cL_holds 120 = .ok (.iconst 4, 1) := by decide +kernel
theorem dL_holds_121 : decode cL_holds 121 = .ok (.invokevirtual 83, 3) := by decide +kernel
theorem dL_holds_124 : decode cL_holds 124 = .ok (.isub, 1) := by decide +kernel
theorem dL_holds_125 : decode cL_holds 125 = .ok (.aload_n 0, 1) := by decide +kernel
theorem dL_holds_126 : decode cL_holds 126 = .ok (.iload 4, 2) := by decide +kernel
theorem dL_holds_128 : decode cL_holds 128 = .ok (.iconst 1, 1) := by decide +kernel
theorem dL_holds_129 : decode cL_holds 129 = .ok (.invokevirtual 83, 3) := by decide +kernel
theorem dL_holds_132 : decode cL_holds 132 = .ok (.if_icmp .ne 46, 3) := by decide +kernel
theorem dL_holds_135 : decode cL_holds 135 = .ok (.aload_n 0, 1) := by decide +kernel
theorem dL_holds_136 : decode cL_holds 136 = .ok (.iload 4, 2) := by decide +kernel
theorem dL_holds_138 : decode cL_holds 138 = .ok (.iconst 3, 1) := by decide +kernel
theorem dL_holds_139 : decode cL_holds 139 = .ok (.invokevirtual 83, 3) := by decide +kernel
theorem dL_holds_142 : decode cL_holds 142 = .ok (.aload_n 0, 1) := by decide +kernel
theorem dL_holds_143 : decode cL_holds 143 = .ok (.aload_n 0, 1) := by decide +kernel
theorem dL_holds_144 : decode cL_holds 144 = .ok (.iload 4, 2) := by decide +kernel
theorem dL_holds_146 : decode cL_holds 146 = .ok (.iconst 2, 1) := by decide +kernel
theorem dL_holds_147 : decode cL_holds 147 = .ok (.invokevirtual 83, 3) := by decide +kernel
theorem dL_holds_150 : decode cL_holds 150 = .ok (.invokevirtual 186, 3) := by decide +kernel
theorem dL_holds_153 : decode cL_holds 153 = .ok (.if_icmp .ne 25, 3) := by decide +kernel
theorem dL_holds_156 : decode cL_holds 156 = .ok (.aload_n 0, 1) := by decide +kernel
theorem dL_holds_157 : decode cL_holds 157 = .ok (.iload 4, 2) := by decide +kernel
theorem dL_holds_159 : decode cL_holds 159 = .ok (.bipush 6, 2) := by decide +kernel
theorem dL_holds_161 : decode cL_holds 161 = .ok (.invokevirtual 83, 3) := by decide +kernel
theorem dL_holds_164 : decode cL_holds 164 = .ok (.aload_n 0, 1) := by decide +kernel
theorem dL_holds_165 : decode cL_holds 165 = .ok (.aload_n 0, 1) := by decide +kernel
theorem dL_holds_166 : decode cL_holds 166 = .ok (.iload 4, 2) := by decide +kernel
theorem dL_holds_168 : decode cL_holds 168 = .ok (.iconst 2, 1) := by decide +kernel
theorem dL_holds_169 : decode cL_holds 169 = .ok (.invokevirtual 83, 3) := by decide +kernel
theorem dL_holds_172 : decode cL_holds 172 = .ok (.invokevirtual 189, 3) := by decide +kernel
theorem dL_holds_175 : decode cL_holds 175 = .ok (.if_icmp .eq 5, 3) := by decide +kernel
theorem dL_holds_178 : decode cL_holds 178 = .ok (.iconst 0, 1) := by decide +kernel
theorem dL_holds_179 : decode cL_holds 179 = .ok (.ireturn, 1) := by decide +kernel
theorem dL_holds_180 : decode cL_holds 180 = .ok (.aload_n 0, 1) := by decide +kernel
theorem dL_holds_181 : decode cL_holds 181 = .ok (.iload 4, 2) := by decide +kernel
theorem dL_holds_183 : decode cL_holds 183 = .ok (.bipush 8, 2) := by decide +kernel
theorem dL_holds_185 : decode cL_holds 185 = .ok (.invokevirtual 83, 3) := by decide +kernel
theorem dL_holds_188 : decode cL_holds 188 = .ok (.ifCond .ne 14, 3) := by decide +kernel
theorem dL_holds_191 : decode cL_holds 191 = .ok (.aload_n 0, 1) := by decide +kernel
theorem dL_holds_192 : decode cL_holds 192 = .ok (.iload 4, 2) := by decide +kernel
theorem dL_holds_194 : decode cL_holds 194 = .ok (.bipush 12, 2) := by decide +kernel
theorem dL_holds_196 : decode cL_holds 196 = .ok (.invokevirtual 83, 3) := by decide +kernel
theorem dL_holds_199 : decode cL_holds 199 = .ok (.ifCond .gt 15, 3) := by decide +kernel
theorem dL_holds_202 : decode cL_holds 202 = .ok (.aload_n 0, 1) := by decide +kernel
theorem dL_holds_203 : decode cL_holds 203 = .ok (.iload 4, 2) := by decide +kernel
theorem dL_holds_205 : decode cL_holds 205 = .ok (.bipush 11, 2) := by decide +kernel
theorem dL_holds_207 : decode cL_holds 207 = .ok (.invokevirtual 83, 3) := by decide +kernel
theorem dL_holds_210 : decode cL_holds 210 = .ok (.iconst 3, 1) := by decide +kernel
theorem dL_holds_211 : decode cL_holds 211 = .ok (.if_icmp .le 5, 3) := by decide +kernel
theorem dL_holds_214 : decode cL_holds 214 = .ok (.iconst 0, 1) := by decide +kernel
theorem dL_holds_215 : decode cL_holds 215 = .ok (.ireturn, 1) := by decide +kernel
theorem dL_holds_216 : decode cL_holds 216 = .ok (.iinc 4 1, 3) := by decide +kernel
theorem dL_holds_219 : decode cL_holds 219 = .ok (.goto (-206), 3) := by decide +kernel
theorem dL_holds_222 : decode cL_holds 222 = .ok (.iload_n 2, 1) := by decide +kernel
theorem dL_holds_223 : decode cL_holds 223 = .ok (.aload_n 0, 1) := by decide +kernel
theorem dL_holds_224 : decode cL_holds 224 = .ok (.iconst 4, 1) := by decide +kernel
theorem dL_holds_225 : decode cL_holds 225 = .ok (.invokevirtual 138, 3) := by decide +kernel
theorem dL_holds_228 : decode cL_holds 228 = .ok (.if_icmp .eq 5, 3) := by decide +kernel
theorem dL_holds_231 : decode cL_holds 231 = .ok (.iconst 0, 1) := by decide +kernel
theorem dL_holds_232 : decode cL_holds 232 = .ok (.ireturn, 1) := by decide +kernel
theorem dL_holds_233 : decode cL_holds 233 = .ok (.bipush 20, 2) := by decide +kernel
theorem dL_holds_235 : decode cL_holds 235 = .ok (.newarray .int, 2) := by decide +kernel
theorem dL_holds_237 : decode cL_holds 237 = .ok (.astore 4, 2) := by decide +kernel
theorem dL_holds_239 : decode cL_holds 239 = .ok (.iconst 0, 1) := by decide +kernel
theorem dL_holds_240 : decode cL_holds 240 = .ok (.istore 5, 2) := by decide +kernel
theorem dL_holds_242 : decode cL_holds 242 = .ok (.iload 5, 2) := by decide +kernel
theorem dL_holds_244 : decode cL_holds 244 = .ok (.aload_n 0, 1) := by decide +kernel
theorem dL_holds_245 : decode cL_holds 245 = .ok (.bipush 7, 2) := by decide +kernel
theorem dL_holds_247 : decode cL_holds 247 = .ok (.invokevirtual 138, 3) := by decide +kernel
theorem dL_holds_250 : decode cL_holds 250 = .ok (.if_icmp .ge 89, 3) := by decide +kernel
theorem dL_holds_253 : decode cL_holds 253 = .ok (.aload 4, 2) := by decide +kernel
theorem dL_holds_255 : decode cL_holds 255 = .ok (.aload_n 0, 1) := by decide +kernel
theorem dL_holds_256 : decode cL_holds 256 = .ok (.iload 5, 2) := by decide +kernel
theorem dL_holds_258 : decode cL_holds 258 = .ok (.iconst 0, 1) := by decide +kernel
theorem dL_holds_259 : decode cL_holds 259 = .ok (.invokevirtual 107, 3) := by decide +kernel
theorem dL_holds_262 : decode cL_holds 262 = .ok (.dup2, 1) := by decide +kernel
theorem dL_holds_263 : decode cL_holds 263 = .ok (.iaload, 1) := by decide +kernel
theorem dL_holds_264 : decode cL_holds 264 = .ok (.iconst 1, 1) := by decide +kernel
theorem dL_holds_265 : decode cL_holds 265 = .ok (.iadd, 1) := by decide +kernel
theorem dL_holds_266 : decode cL_holds 266 = .ok (.iastore, 1) := by decide +kernel
theorem dL_holds_267 : decode cL_holds 267 = .ok (.aload_n 0, 1) := by decide +kernel
theorem dL_holds_268 : decode cL_holds 268 = .ok (.iload 5, 2) := by decide +kernel
theorem dL_holds_270 : decode cL_holds 270 = .ok (.iconst 2, 1) := by decide +kernel
theorem dL_holds_271 : decode cL_holds 271 = .ok (.invokevirtual 107, 3) := by decide +kernel
theorem dL_holds_274 : decode cL_holds 274 = .ok (.istore 6, 2) := by decide +kernel
theorem dL_holds_276 : decode cL_holds 276 = .ok (.aload_n 0, 1) := by decide +kernel
theorem dL_holds_277 : decode cL_holds 277 = .ok (.iload 5, 2) := by decide +kernel
theorem dL_holds_279 : decode cL_holds 279 = .ok (.iconst 1, 1) := by decide +kernel
theorem dL_holds_280 : decode cL_holds 280 = .ok (.invokevirtual 107, 3) := by decide +kernel
theorem dL_holds_283 : decode cL_holds 283 = .ok (.bipush 100, 2) := by decide +kernel
theorem dL_holds_285 : decode cL_holds 285 = .ok (.irem, 1) := by decide +kernel
theorem dL_holds_286 : decode cL_holds 286 = .ok (.ifCond .ne 45, 3) := by decide +kernel
theorem dL_holds_289 : decode cL_holds 289 = .ok (.aload_n 0, 1) := by decide +kernel
theorem dL_holds_290 : decode cL_holds 290 = .ok (.iload 5, 2) := by decide +kernel
theorem dL_holds_292 : decode cL_holds 292 = .ok (.iconst 1, 1) := by decide +kernel
theorem dL_holds_293 : decode cL_holds 293 = .ok (.invokevirtual 107, 3) := by decide +kernel
theorem dL_holds_296 : decode cL_holds 296 = .ok (.bipush 100, 2) := by decide +kernel
theorem dL_holds_298 : decode cL_holds 298 = .ok (.if_icmp .lt 33, 3) := by decide +kernel
theorem dL_holds_301 : decode cL_holds 301 = .ok (.aload_n 0, 1) := by decide +kernel
theorem dL_holds_302 : decode cL_holds 302 = .ok (.iload 5, 2) := by decide +kernel
theorem dL_holds_304 : decode cL_holds 304 = .ok (.iconst 1, 1) := by decide +kernel
theorem dL_holds_305 : decode cL_holds 305 = .ok (.invokevirtual 107, 3) := by decide +kernel
theorem dL_holds_308 : decode cL_holds 308 = .ok (.sipush 2000, 3) := by decide +kernel
theorem dL_holds_311 : decode cL_holds 311 = .ok (.if_icmp .gt 20, 3) := by decide +kernel
theorem dL_holds_314 : decode cL_holds 314 = .ok (.iload 6, 2) := by decide +kernel
theorem dL_holds_316 : decode cL_holds 316 = .ok (.ifCond .lt 17, 3) := by decide +kernel
theorem dL_holds_319 : decode cL_holds 319 = .ok (.aload_n 0, 1) := by decide +kernel
theorem dL_holds_320 : decode cL_holds 320 = .ok (.iload 6, 2) := by decide +kernel
theorem dL_holds_322 : decode cL_holds 322 = .ok (.bipush 9, 2) := by decide +kernel
theorem dL_holds_324 : decode cL_holds 324 = .ok (.invokevirtual 83, 3) := by decide +kernel
theorem dL_holds_327 : decode cL_holds 327 = .ok (.iconst 1, 1) := by decide +kernel
theorem dL_holds_328 : decode cL_holds 328 = .ok (.if_icmp .eq 5, 3) := by decide +kernel
theorem dL_holds_331 : decode cL_holds 331 = .ok (.iconst 0, 1) := by decide +kernel
theorem dL_holds_332 : decode cL_holds 332 = .ok (.ireturn, 1) := by decide +kernel
theorem dL_holds_333 : decode cL_holds 333 = .ok (.iinc 5 1, 3) := by decide +kernel
theorem dL_holds_336 : decode cL_holds 336 = .ok (.goto (-94), 3) := by decide +kernel
theorem dL_holds_339 : decode cL_holds 339 = .ok (.iconst 0, 1) := by decide +kernel
theorem dL_holds_340 : decode cL_holds 340 = .ok (.istore 5, 2) := by decide +kernel
theorem dL_holds_342 : decode cL_holds 342 = .ok (.iload 5, 2) := by decide +kernel
theorem dL_holds_344 : decode cL_holds 344 = .ok (.iload_n 1, 1) := by decide +kernel
theorem dL_holds_345 : decode cL_holds 345 = .ok (.if_icmp .ge 27, 3) := by decide +kernel
theorem dL_holds_348 : decode cL_holds 348 = .ok (.aload 4, 2) := by decide +kernel
theorem dL_holds_350 : decode cL_holds 350 = .ok (.iload 5, 2) := by decide +kernel
theorem dL_holds_352 : decode cL_holds 352 = .ok (.iaload, 1) := by decide +kernel
theorem dL_holds_353 : decode cL_holds 353 = .ok (.aload_n 0, 1) := by decide +kernel
theorem dL_holds_354 : decode cL_holds 354 = .ok (.iload 5, 2) := by decide +kernel
theorem dL_holds_356 : decode cL_holds 356 = .ok (.bipush 12, 2) := by decide +kernel
theorem dL_holds_358 : decode cL_holds 358 = .ok (.invokevirtual 83, 3) := by decide +kernel
theorem dL_holds_361 : decode cL_holds 361 = .ok (.if_icmp .eq 5, 3) := by decide +kernel
theorem dL_holds_364 : decode cL_holds 364 = .ok (.iconst 0, 1) := by decide +kernel
theorem dL_holds_365 : decode cL_holds 365 = .ok (.ireturn, 1) := by decide +kernel
theorem dL_holds_366 : decode cL_holds 366 = .ok (.iinc 5 1, 3) := by decide +kernel
theorem dL_holds_369 : decode cL_holds 369 = .ok (.goto (-27), 3) := by decide +kernel
theorem dL_holds_372 : decode cL_holds 372 = .ok (.iconst 0, 1) := by decide +kernel
theorem dL_holds_373 : decode cL_holds 373 = .ok (.istore 5, 2) := by decide +kernel
theorem dL_holds_375 : decode cL_holds 375 = .ok (.iconst 0, 1) := by decide +kernel
theorem dL_holds_376 : decode cL_holds 376 = .ok (.istore 6, 2) := by decide +kernel
theorem dL_holds_378 : decode cL_holds 378 = .ok (.iload 6, 2) := by decide +kernel
theorem dL_holds_380 : decode cL_holds 380 = .ok (.iload_n 1, 1) := by decide +kernel
theorem dL_holds_381 : decode cL_holds 381 = .ok (.if_icmp .gt 28, 3) := by decide +kernel
theorem dL_holds_384 : decode cL_holds 384 = .ok (.iload 5, 2) := by decide +kernel
theorem dL_holds_386 : decode cL_holds 386 = .ok (.aload_n 0, 1) := by decide +kernel
theorem dL_holds_387 : decode cL_holds 387 = .ok (.iload 6, 2) := by decide +kernel
theorem dL_holds_389 : decode cL_holds 389 = .ok (.invokevirtual 192, 3) := by decide +kernel
theorem dL_holds_392 : decode cL_holds 392 = .ok (.ifCond .ge 7, 3) := by decide +kernel
theorem dL_holds_395 : decode cL_holds 395 = .ok (.iconst 0, 1) := by decide +kernel
theorem dL_holds_396 : decode cL_holds 396 = .ok (.goto 4, 3) := by decide +kernel
theorem dL_holds_399 : decode cL_holds 399 = .ok (.iconst 1, 1) := by decide +kernel
theorem dL_holds_400 : decode cL_holds 400 = .ok (.iadd, 1) := by decide +kernel
theorem dL_holds_401 : decode cL_holds 401 = .ok (.istore 5, 2) := by decide +kernel
theorem dL_holds_403 : decode cL_holds 403 = .ok (.iinc 6 1, 3) := by decide +kernel
theorem dL_holds_406 : decode cL_holds 406 = .ok (.goto (-28), 3) := by decide +kernel
theorem dL_holds_409 : decode cL_holds 409 = .ok (.iconst 0, 1) := by decide +kernel
theorem dL_holds_410 : decode cL_holds 410 = .ok (.istore 6, 2) := by decide +kernel
theorem dL_holds_412 : decode cL_holds 412 = .ok (.iload 6, 2) := by decide +kernel
theorem dL_holds_414 : decode cL_holds 414 = .ok (.aload_n 0, 1) := by decide +kernel
theorem dL_holds_415 : decode cL_holds 415 = .ok (.iconst 2, 1) := by decide +kernel
theorem dL_holds_416 : decode cL_holds 416 = .ok (.invokevirtual 138, 3) := by decide +kernel
theorem dL_holds_419 : decode cL_holds 419 = .ok (.if_icmp .ge 20, 3) := by decide +kernel
theorem dL_holds_422 : decode cL_holds 422 = .ok (.aload_n 0, 1) := by decide +kernel
theorem dL_holds_423 : decode cL_holds 423 = .ok (.iload 6, 2) := by decide +kernel
theorem dL_holds_425 : decode cL_holds 425 = .ok (.invokevirtual 195, 3) := by decide +kernel
theorem dL_holds_428 : decode cL_holds 428 = .ok (.ifCond .ge 5, 3) := by decide +kernel
theorem dL_holds_431 : decode cL_holds 431 = .ok (.iconst 0, 1) := by decide +kernel
theorem dL_holds_432 : decode cL_holds 432 = .ok (.ireturn, 1) := by decide +kernel
theorem dL_holds_433 : decode cL_holds 433 = .ok (.iinc 6 1, 3) := by decide +kernel
theorem dL_holds_436 : decode cL_holds 436 = .ok (.goto (-24), 3) := by decide +kernel
theorem dL_holds_439 : decode cL_holds 439 = .ok (.aload_n 0, 1) := by decide +kernel
theorem dL_holds_440 : decode cL_holds 440 = .ok (.invokevirtual 198, 3) := by decide +kernel
theorem dL_holds_443 : decode cL_holds 443 = .ok (.iload 5, 2) := by decide +kernel
theorem dL_holds_445 : decode cL_holds 445 = .ok (.if_icmp .lt 7, 3) := by decide +kernel
theorem dL_holds_448 : decode cL_holds 448 = .ok (.iconst 1, 1) := by decide +kernel
theorem dL_holds_449 : decode cL_holds 449 = .ok (.goto 4, 3) := by decide +kernel
theorem dL_holds_452 : decode cL_holds 452 = .ok (.iconst 0, 1) := by decide +kernel
theorem dL_holds_453 : decode cL_holds 453 = .ok (.ireturn, 1) := by decide +kernel
theorem dL_comes_0 : decode cL_comes 0 = .ok (.aload_n 1, 1) := by decide +kernel
theorem dL_comes_1 : decode cL_comes 1 = .ok (.getfield 114, 3) := by decide +kernel
theorem dL_comes_4 : decode cL_comes 4 = .ok (.invokeinterface 155 1, 5) := by decide +kernel
theorem dL_comes_9 : decode cL_comes 9 = .ok (.ifCond .ne 31, 3) := by decide +kernel
theorem dL_comes_12 : decode cL_comes 12 = .ok (.aload_n 1, 1) := by decide +kernel
theorem dL_comes_13 : decode cL_comes 13 = .ok (.invokevirtual 126, 3) := by decide +kernel
theorem dL_comes_16 : decode cL_comes 16 = .ok (.aload_n 1, 1) := by decide +kernel
theorem dL_comes_17 : decode cL_comes 17 = .ok (.getfield 40, 3) := by decide +kernel
theorem dL_comes_20 : decode cL_comes 20 = .ok (.invokeinterface 46 1, 5) := by decide +kernel
theorem dL_comes_25 : decode cL_comes 25 = .ok (.if_icmp .eq 15, 3) := by decide +kernel
theorem dL_comes_28 : decode cL_comes 28 = .ok (.aload_n 1, 1) := by decide +kernel
theorem dL_comes_29 : decode cL_comes 29 = .ok (.getfield 104, 3) := by decide +kernel
theorem dL_comes_32 : decode cL_comes 32 = .ok (.invokeinterface 46 1, 5) := by decide +kernel
theorem dL_comes_37 : decode cL_comes 37 = .ok (.ifCond .le 5, 3) := by decide +kernel
theorem dL_comes_40 : decode cL_comes 40 = .ok (.iconst 1, 1) := by decide +kernel
theorem dL_comes_41 : decode cL_comes 41 = .ok (.ireturn, 1) := by decide +kernel
theorem dL_comes_42 : decode cL_comes 42 = .ok (.aload_n 0, 1) := by decide +kernel
theorem dL_comes_43 : decode cL_comes 43 = .ok (.invokevirtual 201, 3) := by decide +kernel
theorem dL_comes_46 : decode cL_comes 46 = .ok (.istore_n 2, 1) := by decide +kernel
theorem dL_comes_47 : decode cL_comes 47 = .ok (.aload_n 0, 1) := by decide +kernel
theorem dL_comes_48 : decode cL_comes 48 = .ok (.bipush 7, 2) := by decide +kernel
theorem dL_comes_50 : decode cL_comes 50 = .ok (.invokevirtual 138, 3) := by decide +kernel
theorem dL_comes_53 : decode cL_comes 53 = .ok (.istore_n 3, 1) := by decide +kernel
theorem dL_comes_54 : decode cL_comes 54 = .ok (.iload_n 2, 1) := by decide +kernel
theorem dL_comes_55 : decode cL_comes 55 = .ok (.bipush 40, 2) := by decide +kernel
theorem dL_comes_57 : decode cL_comes 57 = .ok (.if_icmp .ge 63, 3) := by decide +kernel
theorem dL_comes_60 : decode cL_comes 60 = .ok (.aload_n 0, 1) := by decide +kernel
theorem dL_comes_61 : decode cL_comes 61 = .ok (.invokevirtual 168, 3) := by decide +kernel
theorem dL_comes_64 : decode cL_comes 64 = .ok (.istore 4, 2) := by decide +kernel
theorem dL_comes_66 : decode cL_comes 66 = .ok (.iload 4, 2) := by decide +kernel
theorem dL_comes_68 : decode cL_comes 68 = .ok (.aload_n 1, 1) := by decide +kernel
theorem dL_comes_69 : decode cL_comes 69 = .ok (.getfield 40, 3) := by decide +kernel
theorem dL_comes_72 : decode cL_comes 72 = .ok (.invokeinterface 46 1, 5) := by decide +kernel
theorem dL_comes_77 : decode cL_comes 77 = .ok (.aload_n 1, 1) := by decide +kernel
theorem dL_comes_78 : decode cL_comes 78 = .ok (.invokevirtual 126, 3) := by decide +kernel
theorem dL_comes_81 : decode cL_comes 81 = .ok (.isub, 1) := by decide +kernel
theorem dL_comes_82 : decode cL_comes 82 = .ok (.if_icmp .ne 36, 3) := by decide +kernel
theorem dL_comes_85 : decode cL_comes 85 = .ok (.aload_n 0, 1) := by decide +kernel
theorem dL_comes_86 : decode cL_comes 86 = .ok (.bipush 7, 2) := by decide +kernel
theorem dL_comes_88 : decode cL_comes 88 = .ok (.invokevirtual 138, 3) := by decide +kernel
theorem dL_comes_91 : decode cL_comes 91 = .ok (.iload_n 3, 1) := by decide +kernel
theorem dL_comes_92 : decode cL_comes 92 = .ok (.iload_n 2, 1) := by decide +kernel
theorem dL_comes_93 : decode cL_comes 93 = .ok (.iadd, 1) := by decide +kernel
theorem dL_comes_94 : decode cL_comes 94 = .ok (.if_icmp .ne 24, 3) := by decide +kernel
theorem dL_comes_97 : decode cL_comes 97 = .ok (.aload_n 0, 1) := by decide +kernel
theorem dL_comes_98 : decode cL_comes 98 = .ok (.bipush 8, 2) := by decide +kernel
theorem dL_comes_100 : decode cL_comes 100 = .ok (.invokevirtual 138, 3) := by decide +kernel
theorem dL_comes_103 : decode cL_comes 103 = .ok (.aload_n 0, 1) := by decide +kernel
theorem dL_comes_104 : decode cL_comes 104 = .ok (.iconst 1, 1) := by decide +kernel
theorem dL_comes_105 : decode cL_comes 105 = .ok (.invokevirtual 138, 3) := by decide +kernel
theorem dL_comes_108 : decode cL_comes 108 = .ok (.if_icmp .ne 10, 3) := by decide +kernel
theorem dL_comes_111 : decode cL_comes 111 = .ok (.aload_n 0, 1) := by decide +kernel
theorem dL_comes_112 : decode cL_comes 112 = .ok (.invokevirtual 204, 3) := by decide +kernel
theorem dL_comes_115 : decode cL_comes 115 = .ok (.ifCond .ge 5, 3) := by decide +kernel
theorem dL_comes_118 : decode cL_comes 118 = .ok (.iconst 0, 1) := by decide +kernel
theorem dL_comes_119 : decode cL_comes 119 = .ok (.ireturn, 1) := by decide +kernel
theorem dL_comes_120 : decode cL_comes 120 = .ok (.aload_n 0, 1) := by decide +kernel
theorem dL_comes_121 : decode cL_comes 121 = .ok (.invokevirtual 207, 3) := by decide +kernel
theorem dL_comes_124 : decode cL_comes 124 = .ok (.istore 4, 2) := by decide +kernel
theorem dL_comes_126 : decode cL_comes 126 = .ok (.aload_n 0, 1) := by decide +kernel
theorem dL_comes_127 : decode cL_comes 127 = .ok (.iconst 5, 1) := by decide +kernel
theorem dL_comes_128 : decode cL_comes 128 = .ok (.invokevirtual 138, 3) := by decide +kernel
theorem dL_comes_131 : decode cL_comes 131 = .ok (.istore 5, 2) := by decide +kernel
theorem dL_comes_133 : decode cL_comes 133 = .ok (.iload 4, 2) := by decide +kernel
theorem dL_comes_135 : decode cL_comes 135 = .ok (.iload 5, 2) := by decide +kernel
theorem dL_comes_137 : decode cL_comes 137 = .ok (.if_icmp .le 37, 3) := by decide +kernel
theorem dL_comes_140 : decode cL_comes 140 = .ok (.aload_n 0, 1) := by decide +kernel
theorem dL_comes_141 : decode cL_comes 141 = .ok (.iload 4, 2) := by decide +kernel
theorem dL_comes_143 : decode cL_comes 143 = .ok (.iload 5, 2) := by decide +kernel
theorem dL_comes_145 : decode cL_comes 145 = .ok (.isub, 1) := by decide +kernel
theorem dL_comes_146 : decode cL_comes 146 = .ok (.invokevirtual 146, 3) := by decide +kernel
theorem dL_comes_149 : decode cL_comes 149 = .ok (.istore 6, 2) := by decide +kernel
theorem dL_comes_151 : decode cL_comes 151 = .ok (.iload 6, 2) := by decide +kernel
theorem dL_comes_153 : decode cL_comes 153 = .ok (.iload 4, 2) := by decide +kernel
theorem dL_comes_155 : decode cL_comes 155 = .ok (.if_icmp .ne 17, 3) := by decide +kernel
theorem dL_comes_158 : decode cL_comes 158 = .ok (.aload_n 0, 1) := by decide +kernel
theorem dL_comes_159 : decode cL_comes 159 = .ok (.invokevirtual 201, 3) := by decide +kernel
theorem dL_comes_162 : decode cL_comes 162 = .ok (.ifCond .ne 10, 3) := by decide +kernel
theorem dL_comes_165 : decode cL_comes 165 = .ok (.aload_n 0, 1) := by decide +kernel
theorem dL_comes_166 : decode cL_comes 166 = .ok (.invokevirtual 204, 3) := by decide +kernel
theorem dL_comes_169 : decode cL_comes 169 = .ok (.ifCond .ge 5, 3) := by decide +kernel
theorem dL_comes_172 : decode cL_comes 172 = .ok (.iconst 0, 1) := by decide +kernel
theorem dL_comes_173 : decode cL_comes 173 = .ok (.ireturn, 1) := by decide +kernel
theorem dL_comes_174 : decode cL_comes 174 = .ok (.aload_n 0, 1) := by decide +kernel
theorem dL_comes_175 : decode cL_comes 175 = .ok (.aload_n 1, 1) := by decide +kernel
theorem dL_comes_176 : decode cL_comes 176 = .ok (.invokestatic 210, 3) := by decide +kernel
theorem dL_comes_179 : decode cL_comes 179 = .ok (.ireturn, 1) := by decide +kernel
theorem dL_law_0 : decode cL_law 0 = .ok (.aload_n 0, 1) := by decide +kernel
theorem dL_law_1 : decode cL_law 1 = .ok (.invokestatic 214, 3) := by decide +kernel
theorem dL_law_4 : decode cL_law 4 = .ok (.astore_n 1, 1) := by decide +kernel
theorem dL_law_5 : decode cL_law 5 = .ok (.new 27, 3) := by decide +kernel
theorem dL_law_8 : decode cL_law 8 = .ok (.dup, 1) := by decide +kernel
theorem dL_law_9 : decode cL_law 9 = .ok (.invokespecial 218, 3) := by decide +kernel
theorem dL_law_12 : decode cL_law 12 = .ok (.astore_n 2, 1) := by decide +kernel
theorem dL_law_13 : decode cL_law 13 = .ok (.aload_n 2, 1) := by decide +kernel
theorem dL_law_14 : decode cL_law 14 = .ok (.aload_n 1, 1) := by decide +kernel
theorem dL_law_15 : decode cL_law 15 = .ok (.getfield 219, 3) := by decide +kernel
theorem dL_law_18 : decode cL_law 18 = .ok (.invokestatic 223, 3) := by decide +kernel
theorem dL_law_21 : decode cL_law 21 = .ok (.ifCond .eq 19, 3) := by decide +kernel
theorem dL_law_24 : decode cL_law 24 = .ok (.aload_n 2, 1) := by decide +kernel
theorem dL_law_25 : decode cL_law 25 = .ok (.invokevirtual 227, 3) := by decide +kernel
theorem dL_law_28 : decode cL_law 28 = .ok (.aload_n 1, 1) := by decide +kernel
theorem dL_law_29 : decode cL_law 29 = .ok (.getfield 40, 3) := by decide +kernel
theorem dL_law_32 : decode cL_law 32 = .ok (.invokeinterface 46 1, 5) := by decide +kernel
theorem dL_law_37 : decode cL_law 37 = .ok (.if_icmp .eq 5, 3) := by decide +kernel
theorem dL_law_40 : decode cL_law 40 = .ok (.iconst 0, 1) := by decide +kernel
theorem dL_law_41 : decode cL_law 41 = .ok (.ireturn, 1) := by decide +kernel
theorem dL_law_42 : decode cL_law 42 = .ok (.iconst 0, 1) := by decide +kernel
theorem dL_law_43 : decode cL_law 43 = .ok (.istore_n 3, 1) := by decide +kernel
theorem dL_law_44 : decode cL_law 44 = .ok (.iload_n 3, 1) := by decide +kernel
theorem dL_law_45 : decode cL_law 45 = .ok (.bipush 16, 2) := by decide +kernel
theorem dL_law_47 : decode cL_law 47 = .ok (.if_icmp .ge 36, 3) := by decide +kernel
theorem dL_law_50 : decode cL_law 50 = .ok (.aload_n 2, 1) := by decide +kernel
theorem dL_law_51 : decode cL_law 51 = .ok (.aload_n 1, 1) := by decide +kernel
theorem dL_law_52 : decode cL_law 52 = .ok (.aload_n 0, 1) := by decide +kernel
theorem dL_law_53 : decode cL_law 53 = .ok (.iload_n 3, 1) := by decide +kernel
theorem dL_law_54 : decode cL_law 54 = .ok (.invokestatic 230, 3) := by decide +kernel
theorem dL_law_57 : decode cL_law 57 = .ok (.ifCond .eq 18, 3) := by decide +kernel
theorem dL_law_60 : decode cL_law 60 = .ok (.aload_n 2, 1) := by decide +kernel
theorem dL_law_61 : decode cL_law 61 = .ok (.invokestatic 234, 3) := by decide +kernel
theorem dL_law_64 : decode cL_law 64 = .ok (.ifCond .eq 11, 3) := by decide +kernel
theorem dL_law_67 : decode cL_law 67 = .ok (.aload_n 2, 1) := by decide +kernel
theorem dL_law_68 : decode cL_law 68 = .ok (.aload_n 1, 1) := by decide +kernel
theorem dL_law_69 : decode cL_law 69 = .ok (.invokestatic 238, 3) := by decide +kernel
theorem dL_law_72 : decode cL_law 72 = .ok (.ifCond .ne 5, 3) := by decide +kernel
theorem dL_law_75 : decode cL_law 75 = .ok (.iconst 0, 1) := by decide +kernel
theorem dL_law_76 : decode cL_law 76 = .ok (.ireturn, 1) := by decide +kernel
theorem dL_law_77 : decode cL_law 77 = .ok (.iinc 3 1, 3) := by decide +kernel
theorem dL_law_80 : decode cL_law 80 = .ok (.goto (-36), 3) := by decide +kernel
theorem dL_law_83 : decode cL_law 83 = .ok (.iconst 1, 1) := by decide +kernel
theorem dL_law_84 : decode cL_law 84 = .ok (.ireturn, 1) := by decide +kernel
