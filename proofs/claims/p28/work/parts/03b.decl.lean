theorem dL_cell_0 : decode cL_cell 0 = .ok (.iload_n 1, 1) := by decide +kernel
theorem dL_cell_1 : decode cL_cell 1 = .ok (.aload_n 0, 1) := by decide +kernel
theorem dL_cell_2 : decode cL_cell 2 = .ok (.arraylength, 1) := by decide +kernel
theorem dL_cell_3 : decode cL_cell 3 = .ok (.if_icmp .ge 9, 3) := by decide +kernel
theorem dL_cell_6 : decode cL_cell 6 = .ok (.aload_n 0, 1) := by decide +kernel
theorem dL_cell_7 : decode cL_cell 7 = .ok (.iload_n 1, 1) := by decide +kernel
theorem dL_cell_8 : decode cL_cell 8 = .ok (.iaload, 1) := by decide +kernel
theorem dL_cell_9 : decode cL_cell 9 = .ok (.goto 11, 3) := by decide +kernel
theorem dL_cell_12 : decode cL_cell 12 = .ok (.ldc 7, 2) := by decide +kernel
theorem dL_cell_14 : decode cL_cell 14 = .ok (.iload_n 1, 1) := by decide +kernel
theorem dL_cell_15 : decode cL_cell 15 = .ok (.sipush 523, 3) := by decide +kernel
theorem dL_cell_18 : decode cL_cell 18 = .ok (.iadd, 1) := by decide +kernel
theorem dL_cell_19 : decode cL_cell 19 = .ok (.imul, 1) := by decide +kernel
theorem dL_cell_20 : decode cL_cell 20 = .ok (.ireturn, 1) := by decide +kernel
theorem dL_up_0 : decode cL_up 0 = .ok (.iload_n 0, 1) := by decide +kernel
theorem dL_up_1 : decode cL_up 1 = .ok (.ldc 8, 2) := by decide +kernel
theorem dL_up_3 : decode cL_up 3 = .ok (.iand, 1) := by decide +kernel
theorem dL_up_4 : decode cL_up 4 = .ok (.iload_n 1, 1) := by decide +kernel
theorem dL_up_5 : decode cL_up 5 = .ok (.irem, 1) := by decide +kernel
theorem dL_up_6 : decode cL_up 6 = .ok (.ireturn, 1) := by decide +kernel
theorem dL_loads_0 : decode cL_loads 0 = .ok (.iconst 1, 1) := by decide +kernel
theorem dL_loads_1 : decode cL_loads 1 = .ok (.istore 4, 2) := by decide +kernel
theorem dL_loads_3 : decode cL_loads 3 = .ok (.iconst 0, 1) := by decide +kernel
theorem dL_loads_4 : decode cL_loads 4 = .ok (.istore 5, 2) := by decide +kernel
theorem dL_loads_6 : decode cL_loads 6 = .ok (.iload 5, 2) := by decide +kernel
theorem dL_loads_8 : decode cL_loads 8 = .ok (.iload_n 3, 1) := by decide +kernel
theorem dL_loads_9 : decode cL_loads 9 = .ok (.if_icmp .ge 45, 3) := by decide +kernel
theorem dL_loads_12 : decode cL_loads 12 = .ok (.iload 4, 2) := by decide +kernel
theorem dL_loads_14 : decode cL_loads 14 = .ok (.ifCond .eq 31, 3) := by decide +kernel
theorem dL_loads_17 : decode cL_loads 17 = .ok (.aload_n 0, 1) := by decide +kernel
theorem dL_loads_18 : decode cL_loads 18 = .ok (.aload_n 2, 1) := by decide +kernel
theorem dL_loads_19 : decode cL_loads 19 = .ok (.iload 5, 2) := by decide +kernel
theorem dL_loads_21 : decode cL_loads 21 = .ok (.invokestatic 9, 3) := by decide +kernel
theorem dL_loads_24 : decode cL_loads 24 = .ok (.ifCond .eq 21, 3) := by decide +kernel
theorem dL_loads_27 : decode cL_loads 27 = .ok (.aload_n 1, 1) := by decide +kernel
theorem dL_loads_28 : decode cL_loads 28 = .ok (.aload_n 2, 1) := by decide +kernel
theorem dL_loads_29 : decode cL_loads 29 = .ok (.iload_n 3, 1) := by decide +kernel
theorem dL_loads_30 : decode cL_loads 30 = .ok (.iconst 1, 1) := by decide +kernel
theorem dL_loads_31 : decode cL_loads 31 = .ok (.isub, 1) := by decide +kernel
theorem dL_loads_32 : decode cL_loads 32 = .ok (.iload 5, 2) := by decide +kernel
theorem dL_loads_34 : decode cL_loads 34 = .ok (.isub, 1) := by decide +kernel
theorem dL_loads_35 : decode cL_loads 35 = .ok (.invokestatic 9, 3) := by decide +kernel
theorem dL_loads_38 : decode cL_loads 38 = .ok (.ifCond .eq 7, 3) := by decide +kernel
theorem dL_loads_41 : decode cL_loads 41 = .ok (.iconst 1, 1) := by decide +kernel
theorem dL_loads_42 : decode cL_loads 42 = .ok (.goto 4, 3) := by decide +kernel
theorem dL_loads_45 : decode cL_loads 45 = .ok (.iconst 0, 1) := by decide +kernel
theorem dL_loads_46 : decode cL_loads 46 = .ok (.istore 4, 2) := by decide +kernel
theorem dL_loads_48 : decode cL_loads 48 = .ok (.iinc 5 1, 3) := by decide +kernel
theorem dL_loads_51 : decode cL_loads 51 = .ok (.goto (-45), 3) := by decide +kernel
theorem dL_loads_54 : decode cL_loads 54 = .ok (.iload 4, 2) := by decide +kernel
theorem dL_loads_56 : decode cL_loads 56 = .ok (.ifCond .eq 23, 3) := by decide +kernel
theorem dL_loads_59 : decode cL_loads 59 = .ok (.aload_n 0, 1) := by decide +kernel
theorem dL_loads_60 : decode cL_loads 60 = .ok (.invokevirtual 15, 3) := by decide +kernel
theorem dL_loads_63 : decode cL_loads 63 = .ok (.iload_n 3, 1) := by decide +kernel
theorem dL_loads_64 : decode cL_loads 64 = .ok (.if_icmp .ne 15, 3) := by decide +kernel
theorem dL_loads_67 : decode cL_loads 67 = .ok (.aload_n 1, 1) := by decide +kernel
theorem dL_loads_68 : decode cL_loads 68 = .ok (.invokevirtual 15, 3) := by decide +kernel
theorem dL_loads_71 : decode cL_loads 71 = .ok (.iload_n 3, 1) := by decide +kernel
theorem dL_loads_72 : decode cL_loads 72 = .ok (.if_icmp .ne 7, 3) := by decide +kernel
theorem dL_loads_75 : decode cL_loads 75 = .ok (.iconst 1, 1) := by decide +kernel
theorem dL_loads_76 : decode cL_loads 76 = .ok (.goto 4, 3) := by decide +kernel
theorem dL_loads_79 : decode cL_loads 79 = .ok (.iconst 0, 1) := by decide +kernel
theorem dL_loads_80 : decode cL_loads 80 = .ok (.ireturn, 1) := by decide +kernel
theorem dL_item_0 : decode cL_item 0 = .ok (.aload_n 1, 1) := by decide +kernel
theorem dL_item_1 : decode cL_item 1 = .ok (.iconst 1, 1) := by decide +kernel
theorem dL_item_2 : decode cL_item 2 = .ok (.iload_n 2, 1) := by decide +kernel
theorem dL_item_3 : decode cL_item 3 = .ok (.iadd, 1) := by decide +kernel
theorem dL_item_4 : decode cL_item 4 = .ok (.invokestatic 21, 3) := by decide +kernel
theorem dL_item_7 : decode cL_item 7 = .ok (.istore_n 3, 1) := by decide +kernel
theorem dL_item_8 : decode cL_item 8 = .ok (.aload_n 0, 1) := by decide +kernel
theorem dL_item_9 : decode cL_item 9 = .ok (.bipush 97, 2) := by decide +kernel
theorem dL_item_11 : decode cL_item 11 = .ok (.iload_n 2, 1) := by decide +kernel
theorem dL_item_12 : decode cL_item 12 = .ok (.iconst 5, 1) := by decide +kernel
theorem dL_item_13 : decode cL_item 13 = .ok (.irem, 1) := by decide +kernel
theorem dL_item_14 : decode cL_item 14 = .ok (.iadd, 1) := by decide +kernel
theorem dL_item_15 : decode cL_item 15 = .ok (.invokevirtual 25, 3) := by decide +kernel
theorem dL_item_18 : decode cL_item 18 = .ok (.ifCond .le 20, 3) := by decide +kernel
theorem dL_item_21 : decode cL_item 21 = .ok (.aload_n 0, 1) := by decide +kernel
theorem dL_item_22 : decode cL_item 22 = .ok (.bipush 97, 2) := by decide +kernel
theorem dL_item_24 : decode cL_item 24 = .ok (.iload_n 2, 1) := by decide +kernel
theorem dL_item_25 : decode cL_item 25 = .ok (.iconst 5, 1) := by decide +kernel
theorem dL_item_26 : decode cL_item 26 = .ok (.idiv, 1) := by decide +kernel
theorem dL_item_27 : decode cL_item 27 = .ok (.iadd, 1) := by decide +kernel
theorem dL_item_28 : decode cL_item 28 = .ok (.invokevirtual 25, 3) := by decide +kernel
theorem dL_item_31 : decode cL_item 31 = .ok (.ifCond .le 7, 3) := by decide +kernel
theorem dL_item_34 : decode cL_item 34 = .ok (.iconst 1, 1) := by decide +kernel
theorem dL_item_35 : decode cL_item 35 = .ok (.goto 4, 3) := by decide +kernel
theorem dL_item_38 : decode cL_item 38 = .ok (.iconst 0, 1) := by decide +kernel
theorem dL_item_39 : decode cL_item 39 = .ok (.istore 4, 2) := by decide +kernel
theorem dL_item_41 : decode cL_item 41 = .ok (.iload_n 3, 1) := by decide +kernel
theorem dL_item_42 : decode cL_item 42 = .ok (.iconst 3, 1) := by decide +kernel
theorem dL_item_43 : decode cL_item 43 = .ok (.invokestatic 29, 3) := by decide +kernel
theorem dL_item_46 : decode cL_item 46 = .ok (.istore 5, 2) := by decide +kernel
theorem dL_item_48 : decode cL_item 48 = .ok (.iconst 0, 1) := by decide +kernel
theorem dL_item_49 : decode cL_item 49 = .ok (.istore 6, 2) := by decide +kernel
theorem dL_item_51 : decode cL_item 51 = .ok (.iload 6, 2) := by decide +kernel
theorem dL_item_53 : decode cL_item 53 = .ok (.iload 5, 2) := by decide +kernel
theorem dL_item_55 : decode cL_item 55 = .ok (.if_icmp .ge 44, 3) := by decide +kernel
theorem dL_item_58 : decode cL_item 58 = .ok (.iload 4, 2) := by decide +kernel
theorem dL_item_60 : decode cL_item 60 = .ok (.ifCond .eq 30, 3) := by decide +kernel
theorem dL_item_63 : decode cL_item 63 = .ok (.aload_n 0, 1) := by decide +kernel
theorem dL_item_64 : decode cL_item 64 = .ok (.bipush 97, 2) := by decide +kernel
theorem dL_item_66 : decode cL_item 66 = .ok (.iload_n 3, 1) := by decide +kernel
theorem dL_item_67 : decode cL_item 67 = .ok (.iconst 3, 1) := by decide +kernel
theorem dL_item_68 : decode cL_item 68 = .ok (.iconst 4, 1) := by decide +kernel
theorem dL_item_69 : decode cL_item 69 = .ok (.iload 6, 2) := by decide +kernel
theorem dL_item_71 : decode cL_item 71 = .ok (.imul, 1) := by decide +kernel
theorem dL_item_72 : decode cL_item 72 = .ok (.iadd, 1) := by decide +kernel
theorem dL_item_73 : decode cL_item 73 = .ok (.ishr, 1) := by decide +kernel
theorem dL_item_74 : decode cL_item 74 = .ok (.bipush 9, 2) := by decide +kernel
theorem dL_item_76 : decode cL_item 76 = .ok (.invokestatic 29, 3) := by decide +kernel
theorem dL_item_79 : decode cL_item 79 = .ok (.iadd, 1) := by decide +kernel
theorem dL_item_80 : decode cL_item 80 = .ok (.invokevirtual 25, 3) := by decide +kernel
theorem dL_item_83 : decode cL_item 83 = .ok (.ifCond .le 7, 3) := by decide +kernel
theorem dL_item_86 : decode cL_item 86 = .ok (.iconst 1, 1) := by decide +kernel
theorem dL_item_87 : decode cL_item 87 = .ok (.goto 4, 3) := by decide +kernel
theorem dL_item_90 : decode cL_item 90 = .ok (.iconst 0, 1) := by decide +kernel
theorem dL_item_91 : decode cL_item 91 = .ok (.istore 4, 2) := by decide +kernel
theorem dL_item_93 : decode cL_item 93 = .ok (.iinc 6 1, 3) := by decide +kernel
theorem dL_item_96 : decode cL_item 96 = .ok (.goto (-45), 3) := by decide +kernel
theorem dL_item_99 : decode cL_item 99 = .ok (.iload 4, 2) := by decide +kernel
theorem dL_item_101 : decode cL_item 101 = .ok (.ifCond .eq 43, 3) := by decide +kernel
theorem dL_item_104 : decode cL_item 104 = .ok (.aload_n 0, 1) := by decide +kernel
theorem dL_item_105 : decode cL_item 105 = .ok (.bipush 44, 2) := by decide +kernel
theorem dL_item_107 : decode cL_item 107 = .ok (.invokevirtual 25, 3) := by decide +kernel
theorem dL_item_110 : decode cL_item 110 = .ok (.ifCond .le 34, 3) := by decide +kernel
theorem dL_item_113 : decode cL_item 113 = .ok (.aload_n 0, 1) := by decide +kernel
theorem dL_item_114 : decode cL_item 114 = .ok (.bipush 48, 2) := by decide +kernel
theorem dL_item_116 : decode cL_item 116 = .ok (.iload_n 3, 1) := by decide +kernel
theorem dL_item_117 : decode cL_item 117 = .ok (.bipush 12, 2) := by decide +kernel
theorem dL_item_119 : decode cL_item 119 = .ok (.ishr, 1) := by decide +kernel
theorem dL_item_120 : decode cL_item 120 = .ok (.iconst 4, 1) := by decide +kernel
theorem dL_item_121 : decode cL_item 121 = .ok (.invokestatic 29, 3) := by decide +kernel
theorem dL_item_124 : decode cL_item 124 = .ok (.iadd, 1) := by decide +kernel
theorem dL_item_125 : decode cL_item 125 = .ok (.invokevirtual 25, 3) := by decide +kernel
theorem dL_item_128 : decode cL_item 128 = .ok (.ifCond .le 16, 3) := by decide +kernel
theorem dL_item_131 : decode cL_item 131 = .ok (.aload_n 0, 1) := by decide +kernel
theorem dL_item_132 : decode cL_item 132 = .ok (.bipush 59, 2) := by decide +kernel
theorem dL_item_134 : decode cL_item 134 = .ok (.invokevirtual 25, 3) := by decide +kernel
theorem dL_item_137 : decode cL_item 137 = .ok (.ifCond .le 7, 3) := by decide +kernel
theorem dL_item_140 : decode cL_item 140 = .ok (.iconst 1, 1) := by decide +kernel
theorem dL_item_141 : decode cL_item 141 = .ok (.goto 4, 3) := by decide +kernel
theorem dL_item_144 : decode cL_item 144 = .ok (.iconst 0, 1) := by decide +kernel
theorem dL_item_145 : decode cL_item 145 = .ok (.ireturn, 1) := by decide +kernel
theorem dL_isStep_0 : decode cL_isStep 0 = .ok (.iload_n 2, 1) := by decide +kernel
theorem dL_isStep_1 : decode cL_isStep 1 = .ok (.bipush 12, 2) := by decide +kernel
theorem dL_isStep_3 : decode cL_isStep 3 = .ok (.invokestatic 29, 3) := by decide +kernel
theorem dL_isStep_6 : decode cL_isStep 6 = .ok (.tableswitch 355 0 8 #[50, 50, 96, 122, 202, 247, 247, 273, 290], 50) := by decide +kernel
theorem dL_isStep_56 : decode cL_isStep 56 = .ok (.aload_n 0, 1) := by decide +kernel
theorem dL_isStep_57 : decode cL_isStep 57 = .ok (.bipush 6, 2) := by decide +kernel
theorem dL_isStep_59 : decode cL_isStep 59 = .ok (.invokevirtual 33, 3) := by decide +kernel
theorem dL_isStep_62 : decode cL_isStep 62 = .ok (.ifCond .eq 34, 3) := by decide +kernel
theorem dL_isStep_65 : decode cL_isStep 65 = .ok (.aload_n 0, 1) := by decide +kernel
theorem dL_isStep_66 : decode cL_isStep 66 = .ok (.bipush 10, 2) := by decide +kernel
theorem dL_isStep_68 : decode cL_isStep 68 = .ok (.invokevirtual 33, 3) := by decide +kernel
theorem dL_isStep_71 : decode cL_isStep 71 = .ok (.ifCond .ge 14, 3) := by decide +kernel
theorem dL_isStep_74 : decode cL_isStep 74 = .ok (.aload_n 0, 1) := by decide +kernel
theorem dL_isStep_75 : decode cL_isStep 75 = .ok (.bipush 9, 2) := by decide +kernel
theorem dL_isStep_77 : decode cL_isStep 77 = .ok (.invokevirtual 33, 3) := by decide +kernel
theorem dL_isStep_80 : decode cL_isStep 80 = .ok (.bipush 30, 2) := by decide +kernel
theorem dL_isStep_82 : decode cL_isStep 82 = .ok (.if_icmp .eq 14, 3) := by decide +kernel
theorem dL_isStep_85 : decode cL_isStep 85 = .ok (.aload_n 0, 1) := by decide +kernel
theorem dL_isStep_86 : decode cL_isStep 86 = .ok (.invokevirtual 36, 3) := by decide +kernel
theorem dL_isStep_89 : decode cL_isStep 89 = .ok (.aload_n 1, 1) := by decide +kernel
theorem dL_isStep_90 : decode cL_isStep 90 = .ok (.invokevirtual 36, 3) := by decide +kernel
theorem dL_isStep_93 : decode cL_isStep 93 = .ok (.if_icmp .ne 7, 3) := by decide +kernel
theorem dL_isStep_96 : decode cL_isStep 96 = .ok (.iconst 1, 1) := by decide +kernel
theorem dL_isStep_97 : decode cL_isStep 97 = .ok (.goto 4, 3) := by decide +kernel
theorem dL_isStep_100 : decode cL_isStep 100 = .ok (.iconst 0, 1) := by decide +kernel
theorem dL_isStep_101 : decode cL_isStep 101 = .ok (.ireturn, 1) := by decide +kernel
theorem dL_isStep_102 : decode cL_isStep 102 = .ok (.aload_n 0, 1) := by decide +kernel
theorem dL_isStep_103 : decode cL_isStep 103 = .ok (.bipush 6, 2) := by decide +kernel
theorem dL_isStep_105 : decode cL_isStep 105 = .ok (.invokevirtual 33, 3) := by decide +kernel
theorem dL_isStep_108 : decode cL_isStep 108 = .ok (.ifCond .eq 14, 3) := by decide +kernel
theorem dL_isStep_111 : decode cL_isStep 111 = .ok (.aload_n 0, 1) := by decide +kernel
theorem dL_isStep_112 : decode cL_isStep 112 = .ok (.invokevirtual 39, 3) := by decide +kernel
theorem dL_isStep_115 : decode cL_isStep 115 = .ok (.aload_n 1, 1) := by decide +kernel
theorem dL_isStep_116 : decode cL_isStep 116 = .ok (.invokevirtual 39, 3) := by decide +kernel
theorem dL_isStep_119 : decode cL_isStep 119 = .ok (.if_icmp .ne 7, 3) := by decide +kernel
theorem dL_isStep_122 : decode cL_isStep 122 = .ok (.iconst 1, 1) := by decide +kernel
theorem dL_isStep_123 : decode cL_isStep 123 = .ok (.goto 4, 3) := by decide +kernel
theorem dL_isStep_126 : decode cL_isStep 126 = .ok (.iconst 0, 1) := by decide +kernel
theorem dL_isStep_127 : decode cL_isStep 127 = .ok (.ireturn, 1) := by decide +kernel
theorem dL_isStep_128 : decode cL_isStep 128 = .ok (.aload_n 0, 1) := by decide +kernel
theorem dL_isStep_129 : decode cL_isStep 129 = .ok (.bipush 9, 2) := by decide +kernel
theorem dL_isStep_131 : decode cL_isStep 131 = .ok (.invokevirtual 33, 3) := by decide +kernel
theorem dL_isStep_134 : decode cL_isStep 134 = .ok (.ifCond .le 25, 3) := by decide +kernel
theorem dL_isStep_137 : decode cL_isStep 137 = .ok (.aload_n 0, 1) := by decide +kernel
theorem dL_isStep_138 : decode cL_isStep 138 = .ok (.bipush 6, 2) := by decide +kernel
theorem dL_isStep_140 : decode cL_isStep 140 = .ok (.invokevirtual 33, 3) := by decide +kernel
theorem dL_isStep_143 : decode cL_isStep 143 = .ok (.ifCond .ne 16, 3) := by decide +kernel
theorem dL_isStep_146 : decode cL_isStep 146 = .ok (.aload_n 0, 1) := by decide +kernel
theorem dL_isStep_147 : decode cL_isStep 147 = .ok (.bipush 10, 2) := by decide +kernel
theorem dL_isStep_149 : decode cL_isStep 149 = .ok (.invokevirtual 33, 3) := by decide +kernel
theorem dL_isStep_152 : decode cL_isStep 152 = .ok (.ifCond .ge 7, 3) := by decide +kernel
theorem dL_isStep_155 : decode cL_isStep 155 = .ok (.iconst 1, 1) := by decide +kernel
theorem dL_isStep_156 : decode cL_isStep 156 = .ok (.goto 4, 3) := by decide +kernel
theorem dL_isStep_159 : decode cL_isStep 159 = .ok (.iconst 0, 1) := by decide +kernel
theorem dL_isStep_160 : decode cL_isStep 160 = .ok (.istore_n 3, 1) := by decide +kernel
theorem dL_isStep_161 : decode cL_isStep 161 = .ok (.iload_n 3, 1) := by decide +kernel
theorem dL_isStep_162 : decode cL_isStep 162 = .ok (.ifCond .eq 18, 3) := by decide +kernel
theorem dL_isStep_165 : decode cL_isStep 165 = .ok (.iload_n 2, 1) := by decide +kernel
theorem dL_isStep_166 : decode cL_isStep 166 = .ok (.iconst 4, 1) := by decide +kernel
theorem dL_isStep_167 : decode cL_isStep 167 = .ok (.ishr, 1) := by decide +kernel
theorem dL_isStep_168 : decode cL_isStep 168 = .ok (.aload_n 0, 1) := by decide +kernel
theorem dL_isStep_169 : decode cL_isStep 169 = .ok (.bipush 9, 2) := by decide +kernel
theorem dL_isStep_171 : decode cL_isStep 171 = .ok (.invokevirtual 33, 3) := by decide +kernel
theorem dL_isStep_174 : decode cL_isStep 174 = .ok (.invokestatic 29, 3) := by decide +kernel
theorem dL_isStep_177 : decode cL_isStep 177 = .ok (.goto 4, 3) := by decide +kernel
theorem dL_isStep_180 : decode cL_isStep 180 = .ok (.iconst 0, 1) := by decide +kernel
theorem dL_isStep_181 : decode cL_isStep 181 = .ok (.istore 4, 2) := by decide +kernel
theorem dL_isStep_183 : decode cL_isStep 183 = .ok (.iload_n 3, 1) := by decide +kernel
theorem dL_isStep_184 : decode cL_isStep 184 = .ok (.ifCond .eq 18, 3) := by decide +kernel
theorem dL_isStep_187 : decode cL_isStep 187 = .ok (.aload_n 0, 1) := by decide +kernel
theorem dL_isStep_188 : decode cL_isStep 188 = .ok (.iload 4, 2) := by decide +kernel
theorem dL_isStep_190 : decode cL_isStep 190 = .ok (.invokevirtual 42, 3) := by decide +kernel
theorem dL_isStep_193 : decode cL_isStep 193 = .ok (.aload_n 1, 1) := by decide +kernel
theorem dL_isStep_194 : decode cL_isStep 194 = .ok (.iload 4, 2) := by decide +kernel
theorem dL_isStep_196 : decode cL_isStep 196 = .ok (.invokevirtual 42, 3) := by decide +kernel
theorem dL_isStep_199 : decode cL_isStep 199 = .ok (.if_icmp .ne 7, 3) := by decide +kernel
theorem dL_isStep_202 : decode cL_isStep 202 = .ok (.iconst 1, 1) := by decide +kernel
theorem dL_isStep_203 : decode cL_isStep 203 = .ok (.goto 4, 3) := by decide +kernel
theorem dL_isStep_206 : decode cL_isStep 206 = .ok (.iconst 0, 1) := by decide +kernel
theorem dL_isStep_207 : decode cL_isStep 207 = .ok (.ireturn, 1) := by decide +kernel
theorem dL_isStep_208 : decode cL_isStep 208 = .ok (.aload_n 0, 1) := by decide +kernel
theorem dL_isStep_209 : decode cL_isStep 209 = .ok (.iload_n 2, 1) := by decide +kernel
theorem dL_isStep_210 : decode cL_isStep 210 = .ok (.iconst 4, 1) := by decide +kernel
theorem dL_isStep_211 : decode cL_isStep 211 = .ok (.ishr, 1) := by decide +kernel
theorem dL_isStep_212 : decode cL_isStep 212 = .ok (.iconst 1, 1) := by decide +kernel
theorem dL_isStep_213 : decode cL_isStep 213 = .ok (.iand, 1) := by decide +kernel
theorem dL_isStep_214 : decode cL_isStep 214 = .ok (.iconst 1, 1) := by decide +kernel
theorem dL_isStep_215 : decode cL_isStep 215 = .ok (.if_icmp .ne 7, 3) := by decide +kernel
theorem dL_isStep_218 : decode cL_isStep 218 = .ok (.iconst 1, 1) := by decide +kernel
theorem dL_isStep_219 : decode cL_isStep 219 = .ok (.goto 4, 3) := by decide +kernel
theorem dL_isStep_222 : decode cL_isStep 222 = .ok (.iconst 0, 1) := by decide +kernel
theorem dL_isStep_223 : decode cL_isStep 223 = .ok (.invokevirtual 45, 3) := by decide +kernel
theorem dL_isStep_226 : decode cL_isStep 226 = .ok (.aload_n 1, 1) := by decide +kernel
theorem dL_isStep_227 : decode cL_isStep 227 = .ok (.iload_n 2, 1) := by decide +kernel
theorem dL_isStep_228 : decode cL_isStep 228 = .ok (.iconst 4, 1) := by decide +kernel
theorem dL_isStep_229 : decode cL_isStep 229 = .ok (.ishr, 1) := by decide +kernel
theorem dL_isStep_230 : decode cL_isStep 230 = .ok (.iconst 1, 1) := by decide +kernel
theorem dL_isStep_231 : decode cL_isStep 231 = .ok (.iand, 1) := by decide +kernel
theorem dL_isStep_232 : decode cL_isStep 232 = .ok (.iconst 1, 1) := by decide +kernel
theorem dL_isStep_233 : decode cL_isStep 233 = .ok (.if_icmp .ne 7, 3) := by decide +kernel
theorem dL_isStep_236 : decode cL_isStep 236 = .ok (.iconst 1, 1) := by decide +kernel
theorem dL_isStep_237 : decode cL_isStep 237 = .ok (.goto 4, 3) := by decide +kernel
theorem dL_isStep_240 : decode cL_isStep 240 = .ok (.iconst 0, 1) := by decide +kernel
theorem dL_isStep_241 : decode cL_isStep 241 = .ok (.invokevirtual 45, 3) := by decide +kernel
theorem dL_isStep_244 : decode cL_isStep 244 = .ok (.if_icmp .ne 7, 3) := by decide +kernel
theorem dL_isStep_247 : decode cL_isStep 247 = .ok (.iconst 1, 1) := by decide +kernel
theorem dL_isStep_248 : decode cL_isStep 248 = .ok (.goto 4, 3) := by decide +kernel
theorem dL_isStep_251 : decode cL_isStep 251 = .ok (.iconst 0, 1) := by decide +kernel
theorem dL_isStep_252 : decode cL_isStep 252 = .ok (.ireturn, 1) := by decide +kernel
theorem dL_isStep_253 : decode cL_isStep 253 = .ok (.aload_n 0, 1) := by decide +kernel
theorem dL_isStep_254 : decode cL_isStep 254 = .ok (.bipush 7, 2) := by decide +kernel
theorem dL_isStep_256 : decode cL_isStep 256 = .ok (.invokevirtual 33, 3) := by decide +kernel
theorem dL_isStep_259 : decode cL_isStep 259 = .ok (.ifCond .eq 14, 3) := by decide +kernel
theorem dL_isStep_262 : decode cL_isStep 262 = .ok (.aload_n 0, 1) := by decide +kernel
theorem dL_isStep_263 : decode cL_isStep 263 = .ok (.invokevirtual 49, 3) := by decide +kernel
theorem dL_isStep_266 : decode cL_isStep 266 = .ok (.aload_n 1, 1) := by decide +kernel
theorem dL_isStep_267 : decode cL_isStep 267 = .ok (.invokevirtual 49, 3) := by decide +kernel
theorem dL_isStep_270 : decode cL_isStep 270 = .ok (.if_icmp .ne 7, 3) := by decide +kernel
theorem dL_isStep_273 : decode cL_isStep 273 = .ok (.iconst 1, 1) := by decide +kernel
theorem dL_isStep_274 : decode cL_isStep 274 = .ok (.goto 4, 3) := by decide +kernel
theorem dL_isStep_277 : decode cL_isStep 277 = .ok (.iconst 0, 1) := by decide +kernel
theorem dL_isStep_278 : decode cL_isStep 278 = .ok (.ireturn, 1) := by decide +kernel
theorem dL_isStep_279 : decode cL_isStep 279 = .ok (.aload_n 0, 1) := by decide +kernel
theorem dL_isStep_280 : decode cL_isStep 280 = .ok (.invokevirtual 52, 3) := by decide +kernel
theorem dL_isStep_283 : decode cL_isStep 283 = .ok (.aload_n 1, 1) := by decide +kernel
theorem dL_isStep_284 : decode cL_isStep 284 = .ok (.invokevirtual 52, 3) := by decide +kernel
theorem dL_isStep_287 : decode cL_isStep 287 = .ok (.if_icmp .ne 7, 3) := by decide +kernel
theorem dL_isStep_290 : decode cL_isStep 290 = .ok (.iconst 1, 1) := by decide +kernel
theorem dL_isStep_291 : decode cL_isStep 291 = .ok (.goto 4, 3) := by decide +kernel
theorem dL_isStep_294 : decode cL_isStep 294 = .ok (.iconst 0, 1) := by decide +kernel
theorem dL_isStep_295 : decode cL_isStep 295 = .ok (.ireturn, 1) := by decide +kernel
theorem dL_isStep_296 : decode cL_isStep 296 = .ok (.aload_n 0, 1) := by decide +kernel
theorem dL_isStep_297 : decode cL_isStep 297 = .ok (.iload_n 2, 1) := by decide +kernel
theorem dL_isStep_298 : decode cL_isStep 298 = .ok (.iconst 4, 1) := by decide +kernel
theorem dL_isStep_299 : decode cL_isStep 299 = .ok (.ishr, 1) := by decide +kernel
theorem dL_isStep_300 : decode cL_isStep 300 = .ok (.iconst 1, 1) := by decide +kernel
theorem dL_isStep_301 : decode cL_isStep 301 = .ok (.iand, 1) := by decide +kernel
theorem dL_isStep_302 : decode cL_isStep 302 = .ok (.iconst 1, 1) := by decide +kernel
theorem dL_isStep_303 : decode cL_isStep 303 = .ok (.if_icmp .ne 7, 3) := by decide +kernel
theorem dL_isStep_306 : decode cL_isStep 306 = .ok (.iconst 1, 1) := by decide +kernel
theorem dL_isStep_307 : decode cL_isStep 307 = .ok (.goto 4, 3) := by decide +kernel
theorem dL_isStep_310 : decode cL_isStep 310 = .ok (.iconst 0, 1) := by decide +kernel
theorem dL_isStep_311 : decode cL_isStep 311 = .ok (.iconst 1, 1) := by decide +kernel
theorem dL_isStep_312 : decode cL_isStep 312 = .ok (.iload_n 2, 1) := by decide +kernel
theorem dL_isStep_313 : decode cL_isStep 313 = .ok (.iconst 5, 1) := by decide +kernel
theorem dL_isStep_314 : decode cL_isStep 314 = .ok (.ishr, 1) := by decide +kernel
theorem dL_isStep_315 : decode cL_isStep 315 = .ok (.bipush 6, 2) := by decide +kernel
theorem dL_isStep_317 : decode cL_isStep 317 = .ok (.invokestatic 29, 3) := by decide +kernel
theorem dL_isStep_320 : decode cL_isStep 320 = .ok (.iadd, 1) := by decide +kernel
theorem dL_isStep_321 : decode cL_isStep 321 = .ok (.invokevirtual 55, 3) := by decide +kernel
theorem dL_isStep_324 : decode cL_isStep 324 = .ok (.aload_n 1, 1) := by decide +kernel
theorem dL_isStep_325 : decode cL_isStep 325 = .ok (.iload_n 2, 1) := by decide +kernel
theorem dL_isStep_326 : decode cL_isStep 326 = .ok (.iconst 4, 1) := by decide +kernel
theorem dL_isStep_327 : decode cL_isStep 327 = .ok (.ishr, 1) := by decide +kernel
theorem dL_isStep_328 : decode cL_isStep 328 = .ok (.iconst 1, 1) := by decide +kernel
theorem dL_isStep_329 : decode cL_isStep 329 = .ok (.iand, 1) := by decide +kernel
theorem dL_isStep_330 : decode cL_isStep 330 = .ok (.iconst 1, 1) := by decide +kernel
theorem dL_isStep_331 : decode cL_isStep 331 = .ok (.if_icmp .ne 7, 3) := by decide +kernel
theorem dL_isStep_334 : decode cL_isStep 334 = .ok (.iconst 1, 1) := by decide +kernel
theorem dL_isStep_335 : decode cL_isStep 335 = .ok (.goto 4, 3) := by decide +kernel
theorem dL_isStep_338 : decode cL_isStep 338 = .ok (.iconst 0, 1) := by decide +kernel
theorem dL_isStep_339 : decode cL_isStep 339 = .ok (.iconst 1, 1) := by decide +kernel
theorem dL_isStep_340 : decode cL_isStep 340 = .ok (.iload_n 2, 1) := by decide +kernel
theorem dL_isStep_341 : decode cL_isStep 341 = .ok (.iconst 5, 1) := by decide +kernel
theorem dL_isStep_342 : decode cL_isStep 342 = .ok (.ishr, 1) := by decide +kernel
theorem dL_isStep_343 : decode cL_isStep 343 = .ok (.bipush 6, 2) := by decide +kernel
theorem dL_isStep_345 : decode cL_isStep 345 = .ok (.invokestatic 29, 3) := by decide +kernel
theorem dL_isStep_348 : decode cL_isStep 348 = .ok (.iadd, 1) := by decide +kernel
theorem dL_isStep_349 : decode cL_isStep 349 = .ok (.invokevirtual 55, 3) := by decide +kernel
theorem dL_isStep_352 : decode cL_isStep 352 = .ok (.if_icmp .ne 7, 3) := by decide +kernel
theorem dL_isStep_355 : decode cL_isStep 355 = .ok (.iconst 1, 1) := by decide +kernel
theorem dL_isStep_356 : decode cL_isStep 356 = .ok (.goto 4, 3) := by decide +kernel
theorem dL_isStep_359 : decode cL_isStep 359 = .ok (.iconst 0, 1) := by decide +kernel
theorem dL_isStep_360 : decode cL_isStep 360 = .ok (.ireturn, 1) := by decide +kernel
theorem dL_isStep_361 : decode cL_isStep 361 = .ok (.iconst 2, 1) := by decide +kernel
theorem dL_isStep_362 : decode cL_isStep 362 = .ok (.iload_n 2, 1) := by decide +kernel
theorem dL_isStep_363 : decode cL_isStep 363 = .ok (.iconst 4, 1) := by decide +kernel
theorem dL_isStep_364 : decode cL_isStep 364 = .ok (.ishr, 1) := by decide +kernel
theorem dL_isStep_365 : decode cL_isStep 365 = .ok (.iconst 4, 1) := by decide +kernel
theorem dL_isStep_366 : decode cL_isStep 366 = .ok (.invokestatic 29, 3) := by decide +kernel
theorem dL_isStep_369 : decode cL_isStep 369 = .ok (.iadd, 1) := by decide +kernel
theorem dL_isStep_370 : decode cL_isStep 370 = .ok (.istore_n 3, 1) := by decide +kernel
theorem dL_isStep_371 : decode cL_isStep 371 = .ok (.aload_n 0, 1) := by decide +kernel
theorem dL_isStep_372 : decode cL_isStep 372 = .ok (.bipush 6, 2) := by decide +kernel
theorem dL_isStep_374 : decode cL_isStep 374 = .ok (.invokevirtual 33, 3) := by decide +kernel
theorem dL_isStep_377 : decode cL_isStep 377 = .ok (.bipush 10, 2) := by decide +kernel
theorem dL_isStep_379 : decode cL_isStep 379 = .ok (.if_icmp .lt 12, 3) := by decide +kernel
theorem dL_isStep_382 : decode cL_isStep 382 = .ok (.aload_n 0, 1) := by decide +kernel
theorem dL_isStep_383 : decode cL_isStep 383 = .ok (.iconst 5, 1) := by decide +kernel
theorem dL_isStep_384 : decode cL_isStep 384 = .ok (.invokevirtual 33, 3) := by decide +kernel
theorem dL_isStep_387 : decode cL_isStep 387 = .ok (.iload_n 3, 1) := by decide +kernel
theorem dL_isStep_388 : decode cL_isStep 388 = .ok (.if_icmp .ne 7, 3) := by decide +kernel
theorem dL_isStep_391 : decode cL_isStep 391 = .ok (.iconst 1, 1) := by decide +kernel
theorem dL_isStep_392 : decode cL_isStep 392 = .ok (.goto 4, 3) := by decide +kernel
theorem dL_isStep_395 : decode cL_isStep 395 = .ok (.iconst 0, 1) := by decide +kernel
theorem dL_isStep_396 : decode cL_isStep 396 = .ok (.istore 4, 2) := by decide +kernel
theorem dL_isStep_398 : decode cL_isStep 398 = .ok (.iload 4, 2) := by decide +kernel
theorem dL_isStep_400 : decode cL_isStep 400 = .ok (.ifCond .eq 16, 3) := by decide +kernel
theorem dL_isStep_403 : decode cL_isStep 403 = .ok (.aload_n 0, 1) := by decide +kernel
theorem dL_isStep_404 : decode cL_isStep 404 = .ok (.iload_n 3, 1) := by decide +kernel
theorem dL_isStep_405 : decode cL_isStep 405 = .ok (.invokevirtual 59, 3) := by decide +kernel
theorem dL_isStep_408 : decode cL_isStep 408 = .ok (.aload_n 1, 1) := by decide +kernel
theorem dL_isStep_409 : decode cL_isStep 409 = .ok (.iload_n 3, 1) := by decide +kernel
theorem dL_isStep_410 : decode cL_isStep 410 = .ok (.invokevirtual 59, 3) := by decide +kernel
theorem dL_isStep_413 : decode cL_isStep 413 = .ok (.if_icmp .ne 7, 3) := by decide +kernel
theorem dL_isStep_416 : decode cL_isStep 416 = .ok (.iconst 1, 1) := by decide +kernel
theorem dL_isStep_417 : decode cL_isStep 417 = .ok (.goto 4, 3) := by decide +kernel
theorem dL_isStep_420 : decode cL_isStep 420 = .ok (.iconst 0, 1) := by decide +kernel
theorem dL_isStep_421 : decode cL_isStep 421 = .ok (.ireturn, 1) := by decide +kernel
theorem dL_isWord_0 : decode cL_isWord 0 = .ok (.aload_n 0, 1) := by decide +kernel
theorem dL_isWord_1 : decode cL_isWord 1 = .ok (.iload_n 1, 1) := by decide +kernel
theorem dL_isWord_2 : decode cL_isWord 2 = .ok (.iconst 0, 1) := by decide +kernel
theorem dL_isWord_3 : decode cL_isWord 3 = .ok (.invokevirtual 62, 3) := by decide +kernel
theorem dL_isWord_6 : decode cL_isWord 6 = .ok (.aload_n 2, 1) := by decide +kernel
theorem dL_isWord_7 : decode cL_isWord 7 = .ok (.iload_n 3, 1) := by decide +kernel
theorem dL_isWord_8 : decode cL_isWord 8 = .ok (.iconst 0, 1) := by decide +kernel
theorem dL_isWord_9 : decode cL_isWord 9 = .ok (.invokevirtual 62, 3) := by decide +kernel
theorem dL_isWord_12 : decode cL_isWord 12 = .ok (.if_icmp .ne 7, 3) := by decide +kernel
theorem dL_isWord_15 : decode cL_isWord 15 = .ok (.iconst 1, 1) := by decide +kernel
theorem dL_isWord_16 : decode cL_isWord 16 = .ok (.goto 4, 3) := by decide +kernel
theorem dL_isWord_19 : decode cL_isWord 19 = .ok (.iconst 0, 1) := by decide +kernel
theorem dL_isWord_20 : decode cL_isWord 20 = .ok (.istore 4, 2) := by decide +kernel
theorem dL_isWord_22 : decode cL_isWord 22 = .ok (.iconst 0, 1) := by decide +kernel
theorem dL_isWord_23 : decode cL_isWord 23 = .ok (.istore 5, 2) := by decide +kernel
theorem dL_isWord_25 : decode cL_isWord 25 = .ok (.iload 5, 2) := by decide +kernel
theorem dL_isWord_27 : decode cL_isWord 27 = .ok (.aload_n 0, 1) := by decide +kernel
theorem dL_isWord_28 : decode cL_isWord 28 = .ok (.iload_n 1, 1) := by decide +kernel
theorem dL_isWord_29 : decode cL_isWord 29 = .ok (.iconst 0, 1) := by decide +kernel
theorem dL_isWord_30 : decode cL_isWord 30 = .ok (.invokevirtual 62, 3) := by decide +kernel
theorem dL_isWord_33 : decode cL_isWord 33 = .ok (.if_icmp .ge 38, 3) := by decide +kernel
theorem dL_isWord_36 : decode cL_isWord 36 = .ok (.iload 4, 2) := by decide +kernel
theorem dL_isWord_38 : decode cL_isWord 38 = .ok (.ifCond .eq 33, 3) := by decide +kernel
theorem dL_isWord_41 : decode cL_isWord 41 = .ok (.aload_n 0, 1) := by decide +kernel
theorem dL_isWord_42 : decode cL_isWord 42 = .ok (.iload_n 1, 1) := by decide +kernel
theorem dL_isWord_43 : decode cL_isWord 43 = .ok (.iload 5, 2) := by decide +kernel
theorem dL_isWord_45 : decode cL_isWord 45 = .ok (.invokevirtual 65, 3) := by decide +kernel
theorem dL_isWord_48 : decode cL_isWord 48 = .ok (.aload_n 2, 1) := by decide +kernel
theorem dL_isWord_49 : decode cL_isWord 49 = .ok (.iload_n 3, 1) := by decide +kernel
theorem dL_isWord_50 : decode cL_isWord 50 = .ok (.iload 5, 2) := by decide +kernel
theorem dL_isWord_52 : decode cL_isWord 52 = .ok (.invokevirtual 65, 3) := by decide +kernel
theorem dL_isWord_55 : decode cL_isWord 55 = .ok (.if_icmp .ne 7, 3) := by decide +kernel
theorem dL_isWord_58 : decode cL_isWord 58 = .ok (.iconst 1, 1) := by decide +kernel
theorem dL_isWord_59 : decode cL_isWord 59 = .ok (.goto 4, 3) := by decide +kernel
theorem dL_isWord_62 : decode cL_isWord 62 = .ok (.iconst 0, 1) := by decide +kernel
theorem dL_isWord_63 : decode cL_isWord 63 = .ok (.istore 4, 2) := by decide +kernel
theorem dL_isWord_65 : decode cL_isWord 65 = .ok (.iinc 5 1, 3) := by decide +kernel
theorem dL_isWord_68 : decode cL_isWord 68 = .ok (.goto (-43), 3) := by decide +kernel
theorem dL_isWord_71 : decode cL_isWord 71 = .ok (.iload 4, 2) := by decide +kernel
theorem dL_isWord_73 : decode cL_isWord 73 = .ok (.ifCond .eq 93, 3) := by decide +kernel
theorem dL_isWord_76 : decode cL_isWord 76 = .ok (.aload_n 0, 1) := by decide +kernel
theorem dL_isWord_77 : decode cL_isWord 77 = .ok (.iload_n 1, 1) := by decide +kernel
theorem dL_isWord_78 : decode cL_isWord 78 = .ok (.iconst 1, 1) := by decide +kernel
theorem dL_isWord_79 : decode cL_isWord 79 = .ok (.invokevirtual 62, 3) := by decide +kernel
theorem dL_isWord_82 : decode cL_isWord 82 = .ok (.aload_n 2, 1) := by decide +kernel
theorem dL_isWord_83 : decode cL_isWord 83 = .ok (.iload_n 3, 1) := by decide +kernel
theorem dL_isWord_84 : decode cL_isWord 84 = .ok (.iconst 1, 1) := by decide +kernel
theorem dL_isWord_85 : decode cL_isWord 85 = .ok (.invokevirtual 62, 3) := by decide +kernel
theorem dL_isWord_88 : decode cL_isWord 88 = .ok (.if_icmp .ne 78, 3) := by decide +kernel
theorem dL_isWord_91 : decode cL_isWord 91 = .ok (.aload_n 0, 1) := by decide +kernel
theorem dL_isWord_92 : decode cL_isWord 92 = .ok (.iload_n 1, 1) := by decide +kernel
theorem dL_isWord_93 : decode cL_isWord 93 = .ok (.iconst 2, 1) := by decide +kernel
theorem dL_isWord_94 : decode cL_isWord 94 = .ok (.invokevirtual 62, 3) := by decide +kernel
theorem dL_isWord_97 : decode cL_isWord 97 = .ok (.aload_n 2, 1) := by decide +kernel
theorem dL_isWord_98 : decode cL_isWord 98 = .ok (.iload_n 3, 1) := by decide +kernel
theorem dL_isWord_99 : decode cL_isWord 99 = .ok (.iconst 2, 1) := by decide +kernel
theorem dL_isWord_100 : decode cL_isWord 100 = .ok (.invokevirtual 62, 3) := by decide +kernel
theorem dL_isWord_103 : decode cL_isWord 103 = .ok (.if_icmp .ne 63, 3) := by decide +kernel
theorem dL_isWord_106 : decode cL_isWord 106 = .ok (.aload_n 0, 1) := by decide +kernel
theorem dL_isWord_107 : decode cL_isWord 107 = .ok (.iload_n 1, 1) := by decide +kernel
theorem dL_isWord_108 : decode cL_isWord 108 = .ok (.iconst 3, 1) := by decide +kernel
theorem dL_isWord_109 : decode cL_isWord 109 = .ok (.invokevirtual 62, 3) := by decide +kernel
theorem dL_isWord_112 : decode cL_isWord 112 = .ok (.aload_n 2, 1) := by decide +kernel
theorem dL_isWord_113 : decode cL_isWord 113 = .ok (.iload_n 3, 1) := by decide +kernel
theorem dL_isWord_114 : decode cL_isWord 114 = .ok (.iconst 3, 1) := by decide +kernel
theorem dL_isWord_115 : decode cL_isWord 115 = .ok (.invokevirtual 62, 3) := by decide +kernel
theorem dL_isWord_118 : decode cL_isWord 118 = .ok (.if_icmp .ne 48, 3) := by decide +kernel
theorem dL_isWord_121 : decode cL_isWord 121 = .ok (.aload_n 0, 1) := by decide +kernel
theorem dL_isWord_122 : decode cL_isWord 122 = .ok (.iload_n 1, 1) := by decide +kernel
theorem dL_isWord_123 : decode cL_isWord 123 = .ok (.iconst 4, 1) := by decide +kernel
theorem dL_isWord_124 : decode cL_isWord 124 = .ok (.invokevirtual 62, 3) := by decide +kernel
theorem dL_isWord_127 : decode cL_isWord 127 = .ok (.aload_n 2, 1) := by decide +kernel
theorem dL_isWord_128 : decode cL_isWord 128 = .ok (.iload_n 3, 1) := by decide +kernel
theorem dL_isWord_129 : decode cL_isWord 129 = .ok (.iconst 4, 1) := by decide +kernel
theorem dL_isWord_130 : decode cL_isWord 130 = .ok (.invokevirtual 62, 3) := by decide +kernel
theorem dL_isWord_133 : decode cL_isWord 133 = .ok (.if_icmp .ne 33, 3) := by decide +kernel
theorem dL_isWord_136 : decode cL_isWord 136 = .ok (.aload_n 0, 1) := by decide +kernel
theorem dL_isWord_137 : decode cL_isWord 137 = .ok (.iload_n 1, 1) := by decide +kernel
theorem dL_isWord_138 : decode cL_isWord 138 = .ok (.invokevirtual 68, 3) := by decide +kernel
theorem dL_isWord_141 : decode cL_isWord 141 = .ok (.aload_n 2, 1) := by decide +kernel
theorem dL_isWord_142 : decode cL_isWord 142 = .ok (.iload_n 3, 1) := by decide +kernel
theorem dL_isWord_143 : decode cL_isWord 143 = .ok (.invokevirtual 68, 3) := by decide +kernel
theorem dL_isWord_146 : decode cL_isWord 146 = .ok (.if_icmp .ne 20, 3) := by decide +kernel
theorem dL_isWord_149 : decode cL_isWord 149 = .ok (.aload_n 0, 1) := by decide +kernel
theorem dL_isWord_150 : decode cL_isWord 150 = .ok (.iload_n 1, 1) := by decide +kernel
theorem dL_isWord_151 : decode cL_isWord 151 = .ok (.invokevirtual 71, 3) := by decide +kernel
theorem dL_isWord_154 : decode cL_isWord 154 = .ok (.aload_n 2, 1) := by decide +kernel
theorem dL_isWord_155 : decode cL_isWord 155 = .ok (.iload_n 3, 1) := by decide +kernel
theorem dL_isWord_156 : decode cL_isWord 156 = .ok (.invokevirtual 71, 3) := by decide +kernel
theorem dL_isWord_159 : decode cL_isWord 159 = .ok (.if_icmp .ne 7, 3) := by decide +kernel
theorem dL_isWord_162 : decode cL_isWord 162 = .ok (.iconst 1, 1) := by decide +kernel
theorem dL_isWord_163 : decode cL_isWord 163 = .ok (.goto 4, 3) := by decide +kernel
theorem dL_isWord_166 : decode cL_isWord 166 = .ok (.iconst 0, 1) := by decide +kernel
theorem dL_isWord_167 : decode cL_isWord 167 = .ok (.ireturn, 1) := by decide +kernel
theorem dL_areAlike_0 : decode cL_areAlike 0 = .ok (.aload_n 0, 1) := by decide +kernel
theorem dL_areAlike_1 : decode cL_areAlike 1 = .ok (.invokevirtual 74, 3) := by decide +kernel
theorem dL_areAlike_4 : decode cL_areAlike 4 = .ok (.aload_n 1, 1) := by decide +kernel
theorem dL_areAlike_5 : decode cL_areAlike 5 = .ok (.invokevirtual 74, 3) := by decide +kernel
theorem dL_areAlike_8 : decode cL_areAlike 8 = .ok (.if_icmp .ne 19, 3) := by decide +kernel
theorem dL_areAlike_11 : decode cL_areAlike 11 = .ok (.aload_n 0, 1) := by decide +kernel
theorem dL_areAlike_12 : decode cL_areAlike 12 = .ok (.invokevirtual 77, 3) := by decide +kernel
theorem dL_areAlike_15 : decode cL_areAlike 15 = .ok (.aload_n 1, 1) := by decide +kernel
theorem dL_areAlike_16 : decode cL_areAlike 16 = .ok (.invokevirtual 77, 3) := by decide +kernel
theorem dL_areAlike_19 : decode cL_areAlike 19 = .ok (.dcmp .l, 1) := by decide +kernel
theorem dL_areAlike_20 : decode cL_areAlike 20 = .ok (.ifCond .ne 7, 3) := by decide +kernel
theorem dL_areAlike_23 : decode cL_areAlike 23 = .ok (.iconst 1, 1) := by decide +kernel
theorem dL_areAlike_24 : decode cL_areAlike 24 = .ok (.goto 4, 3) := by decide +kernel
theorem dL_areAlike_27 : decode cL_areAlike 27 = .ok (.iconst 0, 1) := by decide +kernel
theorem dL_areAlike_28 : decode cL_areAlike 28 = .ok (.istore_n 2, 1) := by decide +kernel
theorem dL_areAlike_29 : decode cL_areAlike 29 = .ok (.iconst 0, 1) := by decide +kernel
theorem dL_areAlike_30 : decode cL_areAlike 30 = .ok (.istore_n 3, 1) := by decide +kernel
theorem dL_areAlike_31 : decode cL_areAlike 31 = .ok (.iload_n 3, 1) := by decide +kernel
theorem dL_areAlike_32 : decode cL_areAlike 32 = .ok (.bipush 11, 2) := by decide +kernel
theorem dL_areAlike_34 : decode cL_areAlike 34 = .ok (.if_icmp .ge 32, 3) := by decide +kernel
theorem dL_areAlike_37 : decode cL_areAlike 37 = .ok (.iload_n 2, 1) := by decide +kernel
theorem dL_areAlike_38 : decode cL_areAlike 38 = .ok (.ifCond .eq 20, 3) := by decide +kernel
theorem dL_areAlike_41 : decode cL_areAlike 41 = .ok (.aload_n 0, 1) := by decide +kernel
theorem dL_areAlike_42 : decode cL_areAlike 42 = .ok (.iload_n 3, 1) := by decide +kernel
theorem dL_areAlike_43 : decode cL_areAlike 43 = .ok (.invokevirtual 33, 3) := by decide +kernel
theorem dL_areAlike_46 : decode cL_areAlike 46 = .ok (.aload_n 1, 1) := by decide +kernel
theorem dL_areAlike_47 : decode cL_areAlike 47 = .ok (.iload_n 3, 1) := by decide +kernel
theorem dL_areAlike_48 : decode cL_areAlike 48 = .ok (.invokevirtual 33, 3) := by decide +kernel
theorem dL_areAlike_51 : decode cL_areAlike 51 = .ok (.if_icmp .ne 7, 3) := by decide +kernel
theorem dL_areAlike_54 : decode cL_areAlike 54 = .ok (.iconst 1, 1) := by decide +kernel
theorem dL_areAlike_55 : decode cL_areAlike 55 = .ok (.goto 4, 3) := by decide +kernel
theorem dL_areAlike_58 : decode cL_areAlike 58 = .ok (.iconst 0, 1) := by decide +kernel
theorem dL_areAlike_59 : decode cL_areAlike 59 = .ok (.istore_n 2, 1) := by decide +kernel
theorem dL_areAlike_60 : decode cL_areAlike 60 = .ok (.iinc 3 1, 3) := by decide +kernel
theorem dL_areAlike_63 : decode cL_areAlike 63 = .ok (.goto (-32), 3) := by decide +kernel
theorem dL_areAlike_66 : decode cL_areAlike 66 = .ok (.iconst 0, 1) := by decide +kernel
theorem dL_areAlike_67 : decode cL_areAlike 67 = .ok (.istore_n 3, 1) := by decide +kernel
theorem dL_areAlike_68 : decode cL_areAlike 68 = .ok (.iload_n 3, 1) := by decide +kernel
theorem dL_areAlike_69 : decode cL_areAlike 69 = .ok (.aload_n 0, 1) := by decide +kernel
theorem dL_areAlike_70 : decode cL_areAlike 70 = .ok (.bipush 7, 2) := by decide +kernel
theorem dL_areAlike_72 : decode cL_areAlike 72 = .ok (.invokevirtual 33, 3) := by decide +kernel
theorem dL_areAlike_75 : decode cL_areAlike 75 = .ok (.if_icmp .ge 29, 3) := by decide +kernel
theorem dL_areAlike_78 : decode cL_areAlike 78 = .ok (.iload_n 2, 1) := by decide +kernel
theorem dL_areAlike_79 : decode cL_areAlike 79 = .ok (.ifCond .eq 25, 3) := by decide +kernel
theorem dL_areAlike_82 : decode cL_areAlike 82 = .ok (.aload_n 0, 1) := by decide +kernel
theorem dL_areAlike_83 : decode cL_areAlike 83 = .ok (.aload_n 0, 1) := by decide +kernel
theorem dL_areAlike_84 : decode cL_areAlike 84 = .ok (.iload_n 3, 1) := by decide +kernel
theorem dL_areAlike_85 : decode cL_areAlike 85 = .ok (.invokevirtual 81, 3) := by decide +kernel
theorem dL_areAlike_88 : decode cL_areAlike 88 = .ok (.aload_n 1, 1) := by decide +kernel
theorem dL_areAlike_89 : decode cL_areAlike 89 = .ok (.aload_n 1, 1) := by decide +kernel
theorem dL_areAlike_90 : decode cL_areAlike 90 = .ok (.iload_n 3, 1) := by decide +kernel
theorem dL_areAlike_91 : decode cL_areAlike 91 = .ok (.invokevirtual 81, 3) := by decide +kernel
theorem dL_areAlike_94 : decode cL_areAlike 94 = .ok (.invokestatic 84, 3) := by decide +kernel
theorem dL_areAlike_97 : decode cL_areAlike 97 = .ok (.istore_n 2, 1) := by decide +kernel
theorem dL_areAlike_98 : decode cL_areAlike 98 = .ok (.iinc 3 1, 3) := by decide +kernel
theorem dL_areAlike_101 : decode cL_areAlike 101 = .ok (.goto (-33), 3) := by decide +kernel
theorem dL_areAlike_104 : decode cL_areAlike 104 = .ok (.iconst 0, 1) := by decide +kernel
theorem dL_areAlike_105 : decode cL_areAlike 105 = .ok (.istore_n 3, 1) := by decide +kernel
theorem dL_areAlike_106 : decode cL_areAlike 106 = .ok (.iload_n 3, 1) := by decide +kernel
theorem dL_areAlike_107 : decode cL_areAlike 107 = .ok (.bipush 11, 2) := by decide +kernel
theorem dL_areAlike_109 : decode cL_areAlike 109 = .ok (.if_icmp .ge 32, 3) := by decide +kernel
theorem dL_areAlike_112 : decode cL_areAlike 112 = .ok (.iload_n 2, 1) := by decide +kernel
theorem dL_areAlike_113 : decode cL_areAlike 113 = .ok (.ifCond .eq 20, 3) := by decide +kernel
theorem dL_areAlike_116 : decode cL_areAlike 116 = .ok (.aload_n 0, 1) := by decide +kernel
theorem dL_areAlike_117 : decode cL_areAlike 117 = .ok (.iload_n 3, 1) := by decide +kernel
theorem dL_areAlike_118 : decode cL_areAlike 118 = .ok (.invokevirtual 88, 3) := by decide +kernel
theorem dL_areAlike_121 : decode cL_areAlike 121 = .ok (.aload_n 1, 1) := by decide +kernel
theorem dL_areAlike_122 : decode cL_areAlike 122 = .ok (.iload_n 3, 1) := by decide +kernel
theorem dL_areAlike_123 : decode cL_areAlike 123 = .ok (.invokevirtual 88, 3) := by decide +kernel
theorem dL_areAlike_126 : decode cL_areAlike 126 = .ok (.if_icmp .ne 7, 3) := by decide +kernel
theorem dL_areAlike_129 : decode cL_areAlike 129 = .ok (.iconst 1, 1) := by decide +kernel
theorem dL_areAlike_130 : decode cL_areAlike 130 = .ok (.goto 4, 3) := by decide +kernel
theorem dL_areAlike_133 : decode cL_areAlike 133 = .ok (.iconst 0, 1) := by decide +kernel
theorem dL_areAlike_134 : decode cL_areAlike 134 = .ok (.istore_n 2, 1) := by decide +kernel
theorem dL_areAlike_135 : decode cL_areAlike 135 = .ok (.iinc 3 1, 3) := by decide +kernel
theorem dL_areAlike_138 : decode cL_areAlike 138 = .ok (.goto (-32), 3) := by decide +kernel
theorem dL_areAlike_141 : decode cL_areAlike 141 = .ok (.iconst 0, 1) := by decide +kernel
theorem dL_areAlike_142 : decode cL_areAlike 142 = .ok (.istore_n 3, 1) := by decide +kernel
theorem dL_areAlike_143 : decode cL_areAlike 143 = .ok (.iload_n 3, 1) := by decide +kernel
theorem dL_areAlike_144 : decode cL_areAlike 144 = .ok (.aload_n 0, 1) := by decide +kernel
theorem dL_areAlike_145 : decode cL_areAlike 145 = .ok (.bipush 9, 2) := by decide +kernel
theorem dL_areAlike_147 : decode cL_areAlike 147 = .ok (.invokevirtual 33, 3) := by decide +kernel
theorem dL_areAlike_150 : decode cL_areAlike 150 = .ok (.if_icmp .ge 93, 3) := by decide +kernel
theorem dL_areAlike_153 : decode cL_areAlike 153 = .ok (.iload_n 2, 1) := by decide +kernel
theorem dL_areAlike_154 : decode cL_areAlike 154 = .ok (.ifCond .eq 89, 3) := by decide +kernel
theorem dL_areAlike_157 : decode cL_areAlike 157 = .ok (.aload_n 0, 1) := by decide +kernel
theorem dL_areAlike_158 : decode cL_areAlike 158 = .ok (.iload_n 3, 1) := by decide +kernel
theorem dL_areAlike_159 : decode cL_areAlike 159 = .ok (.iconst (-1), 1) := by decide +kernel
theorem dL_areAlike_160 : decode cL_areAlike 160 = .ok (.invokevirtual 91, 3) := by decide +kernel
theorem dL_areAlike_163 : decode cL_areAlike 163 = .ok (.istore 4, 2) := by decide +kernel
theorem dL_areAlike_165 : decode cL_areAlike 165 = .ok (.iload 4, 2) := by decide +kernel
theorem dL_areAlike_167 : decode cL_areAlike 167 = .ok (.aload_n 1, 1) := by decide +kernel
theorem dL_areAlike_168 : decode cL_areAlike 168 = .ok (.iload_n 3, 1) := by decide +kernel
theorem dL_areAlike_169 : decode cL_areAlike 169 = .ok (.iconst (-1), 1) := by decide +kernel
theorem dL_areAlike_170 : decode cL_areAlike 170 = .ok (.invokevirtual 91, 3) := by decide +kernel
theorem dL_areAlike_173 : decode cL_areAlike 173 = .ok (.if_icmp .ne 19, 3) := by decide +kernel
theorem dL_areAlike_176 : decode cL_areAlike 176 = .ok (.iload 4, 2) := by decide +kernel
theorem dL_areAlike_178 : decode cL_areAlike 178 = .ok (.ifCond .le 14, 3) := by decide +kernel
theorem dL_areAlike_181 : decode cL_areAlike 181 = .ok (.iload 4, 2) := by decide +kernel
theorem dL_areAlike_183 : decode cL_areAlike 183 = .ok (.bipush 10, 2) := by decide +kernel
theorem dL_areAlike_185 : decode cL_areAlike 185 = .ok (.if_icmp .gt 7, 3) := by decide +kernel
theorem dL_areAlike_188 : decode cL_areAlike 188 = .ok (.iconst 1, 1) := by decide +kernel
theorem dL_areAlike_189 : decode cL_areAlike 189 = .ok (.goto 4, 3) := by decide +kernel
theorem dL_areAlike_192 : decode cL_areAlike 192 = .ok (.iconst 0, 1) := by decide +kernel
theorem dL_areAlike_193 : decode cL_areAlike 193 = .ok (.istore_n 2, 1) := by decide +kernel
theorem dL_areAlike_194 : decode cL_areAlike 194 = .ok (.iconst 0, 1) := by decide +kernel
theorem dL_areAlike_195 : decode cL_areAlike 195 = .ok (.istore 5, 2) := by decide +kernel
theorem dL_areAlike_197 : decode cL_areAlike 197 = .ok (.iload 5, 2) := by decide +kernel
theorem dL_areAlike_199 : decode cL_areAlike 199 = .ok (.iload 4, 2) := by decide +kernel
theorem dL_areAlike_201 : decode cL_areAlike 201 = .ok (.if_icmp .ge 36, 3) := by decide +kernel
theorem dL_areAlike_204 : decode cL_areAlike 204 = .ok (.iload_n 2, 1) := by decide +kernel
theorem dL_areAlike_205 : decode cL_areAlike 205 = .ok (.ifCond .eq 32, 3) := by decide +kernel
theorem dL_areAlike_208 : decode cL_areAlike 208 = .ok (.aload_n 0, 1) := by decide +kernel
theorem dL_areAlike_209 : decode cL_areAlike 209 = .ok (.iload_n 3, 1) := by decide +kernel
theorem dL_areAlike_210 : decode cL_areAlike 210 = .ok (.iload 5, 2) := by decide +kernel
theorem dL_areAlike_212 : decode cL_areAlike 212 = .ok (.invokevirtual 91, 3) := by decide +kernel
theorem dL_areAlike_215 : decode cL_areAlike 215 = .ok (.aload_n 1, 1) := by decide +kernel
theorem dL_areAlike_216 : decode cL_areAlike 216 = .ok (.iload_n 3, 1) := by decide +kernel
theorem dL_areAlike_217 : decode cL_areAlike 217 = .ok (.iload 5, 2) := by decide +kernel
theorem dL_areAlike_219 : decode cL_areAlike 219 = .ok (.invokevirtual 91, 3) := by decide +kernel
theorem dL_areAlike_222 : decode cL_areAlike 222 = .ok (.if_icmp .ne 7, 3) := by decide +kernel
theorem dL_areAlike_225 : decode cL_areAlike 225 = .ok (.iconst 1, 1) := by decide +kernel
theorem dL_areAlike_226 : decode cL_areAlike 226 = .ok (.goto 4, 3) := by decide +kernel
theorem dL_areAlike_229 : decode cL_areAlike 229 = .ok (.iconst 0, 1) := by decide +kernel
theorem dL_areAlike_230 : decode cL_areAlike 230 = .ok (.istore_n 2, 1) := by decide +kernel
theorem dL_areAlike_231 : decode cL_areAlike 231 = .ok (.iinc 5 1, 3) := by decide +kernel
theorem dL_areAlike_234 : decode cL_areAlike 234 = .ok (.goto (-37), 3) := by decide +kernel
theorem dL_areAlike_237 : decode cL_areAlike 237 = .ok (.iinc 3 1, 3) := by decide +kernel
theorem dL_areAlike_240 : decode cL_areAlike 240 = .ok (.goto (-97), 3) := by decide +kernel
theorem dL_areAlike_243 : decode cL_areAlike 243 = .ok (.iload_n 2, 1) := by decide +kernel
theorem dL_areAlike_244 : decode cL_areAlike 244 = .ok (.ireturn, 1) := by decide +kernel
theorem dL_isSound_0 : decode cL_isSound 0 = .ok (.aload_n 0, 1) := by decide +kernel
theorem dL_isSound_1 : decode cL_isSound 1 = .ok (.iconst 0, 1) := by decide +kernel
theorem dL_isSound_2 : decode cL_isSound 2 = .ok (.invokevirtual 33, 3) := by decide +kernel
theorem dL_isSound_5 : decode cL_isSound 5 = .ok (.bipush 50, 2) := by decide +kernel
theorem dL_isSound_7 : decode cL_isSound 7 = .ok (.if_icmp .gt 24, 3) := by decide +kernel
theorem dL_isSound_10 : decode cL_isSound 10 = .ok (.aload_n 0, 1) := by decide +kernel
theorem dL_isSound_11 : decode cL_isSound 11 = .ok (.invokevirtual 74, 3) := by decide +kernel
theorem dL_isSound_14 : decode cL_isSound 14 = .ok (.iconst 1, 1) := by decide +kernel
theorem dL_isSound_15 : decode cL_isSound 15 = .ok (.if_icmp .eq 16, 3) := by decide +kernel
theorem dL_isSound_18 : decode cL_isSound 18 = .ok (.aload_n 0, 1) := by decide +kernel
theorem dL_isSound_19 : decode cL_isSound 19 = .ok (.invokevirtual 77, 3) := by decide +kernel
theorem dL_isSound_22 : decode cL_isSound 22 = .ok (.dconst 1, 1) := by decide +kernel
theorem dL_isSound_23 : decode cL_isSound 23 = .ok (.dcmp .g, 1) := by decide +kernel
theorem dL_isSound_24 : decode cL_isSound 24 = .ok (.ifCond .gt 7, 3) := by decide +kernel
theorem dL_isSound_27 : decode cL_isSound 27 = .ok (.iconst 1, 1) := by decide +kernel
theorem dL_isSound_28 : decode cL_isSound 28 = .ok (.goto 4, 3) := by decide +kernel
theorem dL_isSound_31 : decode cL_isSound 31 = .ok (.iconst 0, 1) := by decide +kernel
theorem dL_isSound_32 : decode cL_isSound 32 = .ok (.istore_n 1, 1) := by decide +kernel
theorem dL_isSound_33 : decode cL_isSound 33 = .ok (.iconst 0, 1) := by decide +kernel
theorem dL_isSound_34 : decode cL_isSound 34 = .ok (.istore_n 2, 1) := by decide +kernel
theorem dL_isSound_35 : decode cL_isSound 35 = .ok (.iconst 0, 1) := by decide +kernel
theorem dL_isSound_36 : decode cL_isSound 36 = .ok (.istore_n 3, 1) := by decide +kernel
theorem dL_isSound_37 : decode cL_isSound 37 = .ok (.iload_n 3, 1) := by decide +kernel
theorem dL_isSound_38 : decode cL_isSound 38 = .ok (.aload_n 0, 1) := by decide +kernel
theorem dL_isSound_39 : decode cL_isSound 39 = .ok (.iconst 0, 1) := by decide +kernel
theorem dL_isSound_40 : decode cL_isSound 40 = .ok (.invokevirtual 33, 3) := by decide +kernel
theorem dL_isSound_43 : decode cL_isSound 43 = .ok (.if_icmp .ge 130, 3) := by decide +kernel
theorem dL_isSound_46 : decode cL_isSound 46 = .ok (.aload_n 0, 1) := by decide +kernel
theorem dL_isSound_47 : decode cL_isSound 47 = .ok (.iload_n 3, 1) := by decide +kernel
theorem dL_isSound_48 : decode cL_isSound 48 = .ok (.iconst 4, 1) := by decide +kernel
theorem dL_isSound_49 : decode cL_isSound 49 = .ok (.invokevirtual 62, 3) := by decide +kernel
theorem dL_isSound_52 : decode cL_isSound 52 = .ok (.istore 4, 2) := by decide +kernel
theorem dL_isSound_54 : decode cL_isSound 54 = .ok (.iload_n 2, 1) := by decide +kernel
theorem dL_isSound_55 : decode cL_isSound 55 = .ok (.iload 4, 2) := by decide +kernel
theorem dL_isSound_57 : decode cL_isSound 57 = .ok (.iadd, 1) := by decide +kernel
theorem dL_isSound_58 : decode cL_isSound 58 = .ok (.istore_n 2, 1) := by decide +kernel
theorem dL_isSound_59 : decode cL_isSound 59 = .ok (.aload_n 0, 1) := by decide +kernel
theorem dL_isSound_60 : decode cL_isSound 60 = .ok (.iload_n 3, 1) := by decide +kernel
theorem dL_isSound_61 : decode cL_isSound 61 = .ok (.invokevirtual 71, 3) := by decide +kernel
theorem dL_isSound_64 : decode cL_isSound 64 = .ok (.istore 5, 2) := by decide +kernel
theorem dL_isSound_66 : decode cL_isSound 66 = .ok (.iload_n 1, 1) := by decide +kernel
theorem dL_isSound_67 : decode cL_isSound 67 = .ok (.ifCond .eq 98, 3) := by decide +kernel
theorem dL_isSound_70 : decode cL_isSound 70 = .ok (.iload 4, 2) := by decide +kernel
theorem dL_isSound_72 : decode cL_isSound 72 = .ok (.aload_n 0, 1) := by decide +kernel
theorem dL_isSound_73 : decode cL_isSound 73 = .ok (.iconst 0, 1) := by decide +kernel
theorem dL_isSound_74 : decode cL_isSound 74 = .ok (.invokevirtual 33, 3) := by decide +kernel
theorem dL_isSound_77 : decode cL_isSound 77 = .ok (.if_icmp .ge 88, 3) := by decide +kernel
theorem dL_isSound_80 : decode cL_isSound 80 = .ok (.aload_n 0, 1) := by decide +kernel
theorem dL_isSound_81 : decode cL_isSound 81 = .ok (.iload_n 3, 1) := by decide +kernel
theorem dL_isSound_82 : decode cL_isSound 82 = .ok (.iconst 3, 1) := by decide +kernel
theorem dL_isSound_83 : decode cL_isSound 83 = .ok (.invokevirtual 62, 3) := by decide +kernel
theorem dL_isSound_86 : decode cL_isSound 86 = .ok (.ifCond .eq 12, 3) := by decide +kernel
theorem dL_isSound_89 : decode cL_isSound 89 = .ok (.aload_n 0, 1) := by decide +kernel
theorem dL_isSound_90 : decode cL_isSound 90 = .ok (.iload_n 3, 1) := by decide +kernel
theorem dL_isSound_91 : decode cL_isSound 91 = .ok (.iconst 1, 1) := by decide +kernel
theorem dL_isSound_92 : decode cL_isSound 92 = .ok (.invokevirtual 62, 3) := by decide +kernel
theorem dL_isSound_95 : decode cL_isSound 95 = .ok (.ifCond .le 70, 3) := by decide +kernel
theorem dL_isSound_98 : decode cL_isSound 98 = .ok (.aload_n 0, 1) := by decide +kernel
theorem dL_isSound_99 : decode cL_isSound 99 = .ok (.iload_n 3, 1) := by decide +kernel
theorem dL_isSound_100 : decode cL_isSound 100 = .ok (.iconst 0, 1) := by decide +kernel
theorem dL_isSound_101 : decode cL_isSound 101 = .ok (.invokevirtual 94, 3) := by decide +kernel
theorem dL_isSound_104 : decode cL_isSound 104 = .ok (.aload_n 0, 1) := by decide +kernel
theorem dL_isSound_105 : decode cL_isSound 105 = .ok (.iload_n 3, 1) := by decide +kernel
theorem dL_isSound_106 : decode cL_isSound 106 = .ok (.iconst 0, 1) := by decide +kernel
theorem dL_isSound_107 : decode cL_isSound 107 = .ok (.invokevirtual 62, 3) := by decide +kernel
theorem dL_isSound_110 : decode cL_isSound 110 = .ok (.aload_n 0, 1) := by decide +kernel
theorem dL_isSound_111 : decode cL_isSound 111 = .ok (.iload_n 3, 1) := by decide +kernel
theorem dL_isSound_112 : decode cL_isSound 112 = .ok (.invokevirtual 68, 3) := by decide +kernel
theorem dL_isSound_115 : decode cL_isSound 115 = .ok (.iadd, 1) := by decide +kernel
theorem dL_isSound_116 : decode cL_isSound 116 = .ok (.if_icmp .ne 49, 3) := by decide +kernel
theorem dL_isSound_119 : decode cL_isSound 119 = .ok (.aload_n 0, 1) := by decide +kernel
theorem dL_isSound_120 : decode cL_isSound 120 = .ok (.iload_n 3, 1) := by decide +kernel
theorem dL_isSound_121 : decode cL_isSound 121 = .ok (.iconst 1, 1) := by decide +kernel
theorem dL_isSound_122 : decode cL_isSound 122 = .ok (.invokevirtual 94, 3) := by decide +kernel
theorem dL_isSound_125 : decode cL_isSound 125 = .ok (.aload_n 0, 1) := by decide +kernel
theorem dL_isSound_126 : decode cL_isSound 126 = .ok (.iload_n 3, 1) := by decide +kernel
theorem dL_isSound_127 : decode cL_isSound 127 = .ok (.iconst 0, 1) := by decide +kernel
theorem dL_isSound_128 : decode cL_isSound 128 = .ok (.invokevirtual 62, 3) := by decide +kernel
theorem dL_isSound_131 : decode cL_isSound 131 = .ok (.if_icmp .lt 34, 3) := by decide +kernel
theorem dL_isSound_134 : decode cL_isSound 134 = .ok (.iload 5, 2) := by decide +kernel
theorem dL_isSound_136 : decode cL_isSound 136 = .ok (.ifCond .ge 14, 3) := by decide +kernel
theorem dL_isSound_139 : decode cL_isSound 139 = .ok (.aload_n 0, 1) := by decide +kernel
theorem dL_isSound_140 : decode cL_isSound 140 = .ok (.iload_n 3, 1) := by decide +kernel
theorem dL_isSound_141 : decode cL_isSound 141 = .ok (.invokevirtual 68, 3) := by decide +kernel
theorem dL_isSound_144 : decode cL_isSound 144 = .ok (.ifCond .le 21, 3) := by decide +kernel
theorem dL_isSound_147 : decode cL_isSound 147 = .ok (.goto 14, 3) := by decide +kernel
theorem dL_isSound_150 : decode cL_isSound 150 = .ok (.iload 5, 2) := by decide +kernel
theorem dL_isSound_152 : decode cL_isSound 152 = .ok (.aload_n 0, 1) := by decide +kernel
theorem dL_isSound_153 : decode cL_isSound 153 = .ok (.iload_n 3, 1) := by decide +kernel
theorem dL_isSound_154 : decode cL_isSound 154 = .ok (.iconst 0, 1) := by decide +kernel
theorem dL_isSound_155 : decode cL_isSound 155 = .ok (.invokevirtual 62, 3) := by decide +kernel
theorem dL_isSound_158 : decode cL_isSound 158 = .ok (.if_icmp .gt 7, 3) := by decide +kernel
theorem dL_isSound_161 : decode cL_isSound 161 = .ok (.iconst 1, 1) := by decide +kernel
theorem dL_isSound_162 : decode cL_isSound 162 = .ok (.goto 4, 3) := by decide +kernel
theorem dL_isSound_165 : decode cL_isSound 165 = .ok (.iconst 0, 1) := by decide +kernel
theorem dL_isSound_166 : decode cL_isSound 166 = .ok (.istore_n 1, 1) := by decide +kernel
theorem dL_isSound_167 : decode cL_isSound 167 = .ok (.iinc 3 1, 3) := by decide +kernel
theorem dL_isSound_170 : decode cL_isSound 170 = .ok (.goto (-133), 3) := by decide +kernel
theorem dL_isSound_173 : decode cL_isSound 173 = .ok (.iconst 1, 1) := by decide +kernel
theorem dL_isSound_174 : decode cL_isSound 174 = .ok (.istore_n 3, 1) := by decide +kernel
theorem dL_isSound_175 : decode cL_isSound 175 = .ok (.iload_n 3, 1) := by decide +kernel
theorem dL_isSound_176 : decode cL_isSound 176 = .ok (.aload_n 0, 1) := by decide +kernel
theorem dL_isSound_177 : decode cL_isSound 177 = .ok (.bipush 7, 2) := by decide +kernel
theorem dL_isSound_179 : decode cL_isSound 179 = .ok (.invokevirtual 33, 3) := by decide +kernel
theorem dL_isSound_182 : decode cL_isSound 182 = .ok (.if_icmp .ge 84, 3) := by decide +kernel
theorem dL_isSound_185 : decode cL_isSound 185 = .ok (.aload_n 0, 1) := by decide +kernel
theorem dL_isSound_186 : decode cL_isSound 186 = .ok (.iload_n 3, 1) := by decide +kernel
theorem dL_isSound_187 : decode cL_isSound 187 = .ok (.iconst 1, 1) := by decide +kernel
theorem dL_isSound_188 : decode cL_isSound 188 = .ok (.isub, 1) := by decide +kernel
theorem dL_isSound_189 : decode cL_isSound 189 = .ok (.invokevirtual 81, 3) := by decide +kernel
theorem dL_isSound_192 : decode cL_isSound 192 = .ok (.istore 4, 2) := by decide +kernel
theorem dL_isSound_194 : decode cL_isSound 194 = .ok (.aload_n 0, 1) := by decide +kernel
theorem dL_isSound_195 : decode cL_isSound 195 = .ok (.iload_n 3, 1) := by decide +kernel
theorem dL_isSound_196 : decode cL_isSound 196 = .ok (.invokevirtual 81, 3) := by decide +kernel
theorem dL_isSound_199 : decode cL_isSound 199 = .ok (.istore 5, 2) := by decide +kernel
theorem dL_isSound_201 : decode cL_isSound 201 = .ok (.iload_n 1, 1) := by decide +kernel
theorem dL_isSound_202 : decode cL_isSound 202 = .ok (.ifCond .eq 56, 3) := by decide +kernel
theorem dL_isSound_205 : decode cL_isSound 205 = .ok (.aload_n 0, 1) := by decide +kernel
theorem dL_isSound_206 : decode cL_isSound 206 = .ok (.iload 4, 2) := by decide +kernel
theorem dL_isSound_208 : decode cL_isSound 208 = .ok (.iconst 0, 1) := by decide +kernel
theorem dL_isSound_209 : decode cL_isSound 209 = .ok (.invokevirtual 62, 3) := by decide +kernel
theorem dL_isSound_212 : decode cL_isSound 212 = .ok (.aload_n 0, 1) := by decide +kernel
theorem dL_isSound_213 : decode cL_isSound 213 = .ok (.bipush 6, 2) := by decide +kernel
theorem dL_isSound_215 : decode cL_isSound 215 = .ok (.invokevirtual 33, 3) := by decide +kernel
theorem dL_isSound_218 : decode cL_isSound 218 = .ok (.if_icmp .ne 19, 3) := by decide +kernel
theorem dL_isSound_221 : decode cL_isSound 221 = .ok (.aload_n 0, 1) := by decide +kernel
theorem dL_isSound_222 : decode cL_isSound 222 = .ok (.iload 5, 2) := by decide +kernel
theorem dL_isSound_224 : decode cL_isSound 224 = .ok (.iconst 0, 1) := by decide +kernel
theorem dL_isSound_225 : decode cL_isSound 225 = .ok (.invokevirtual 62, 3) := by decide +kernel
theorem dL_isSound_228 : decode cL_isSound 228 = .ok (.aload_n 0, 1) := by decide +kernel
theorem dL_isSound_229 : decode cL_isSound 229 = .ok (.bipush 6, 2) := by decide +kernel
theorem dL_isSound_231 : decode cL_isSound 231 = .ok (.invokevirtual 33, 3) := by decide +kernel
theorem dL_isSound_234 : decode cL_isSound 234 = .ok (.if_icmp .gt 20, 3) := by decide +kernel
theorem dL_isSound_237 : decode cL_isSound 237 = .ok (.aload_n 0, 1) := by decide +kernel
theorem dL_isSound_238 : decode cL_isSound 238 = .ok (.iload 4, 2) := by decide +kernel
theorem dL_isSound_240 : decode cL_isSound 240 = .ok (.iconst 4, 1) := by decide +kernel
theorem dL_isSound_241 : decode cL_isSound 241 = .ok (.invokevirtual 62, 3) := by decide +kernel
theorem dL_isSound_244 : decode cL_isSound 244 = .ok (.aload_n 0, 1) := by decide +kernel
theorem dL_isSound_245 : decode cL_isSound 245 = .ok (.iload 5, 2) := by decide +kernel
theorem dL_isSound_247 : decode cL_isSound 247 = .ok (.iconst 4, 1) := by decide +kernel
theorem dL_isSound_248 : decode cL_isSound 248 = .ok (.invokevirtual 62, 3) := by decide +kernel
theorem dL_isSound_251 : decode cL_isSound 251 = .ok (.if_icmp .ge 7, 3) := by decide +kernel
theorem dL_isSound_254 : decode cL_isSound 254 = .ok (.iconst 1, 1) := by decide +kernel
theorem dL_isSound_255 : decode cL_isSound 255 = .ok (.goto 4, 3) := by decide +kernel
theorem dL_isSound_258 : decode cL_isSound 258 = .ok (.iconst 0, 1) := by decide +kernel
theorem dL_isSound_259 : decode cL_isSound 259 = .ok (.istore_n 1, 1) := by decide +kernel
theorem dL_isSound_260 : decode cL_isSound 260 = .ok (.iinc 3 1, 3) := by decide +kernel
theorem dL_isSound_263 : decode cL_isSound 263 = .ok (.goto (-88), 3) := by decide +kernel
theorem dL_isSound_266 : decode cL_isSound 266 = .ok (.iload_n 1, 1) := by decide +kernel
theorem dL_isSound_267 : decode cL_isSound 267 = .ok (.ifCond .eq 26, 3) := by decide +kernel
theorem dL_isSound_270 : decode cL_isSound 270 = .ok (.iload_n 2, 1) := by decide +kernel
theorem dL_isSound_271 : decode cL_isSound 271 = .ok (.aload_n 0, 1) := by decide +kernel
theorem dL_isSound_272 : decode cL_isSound 272 = .ok (.iconst 0, 1) := by decide +kernel
theorem dL_isSound_273 : decode cL_isSound 273 = .ok (.invokevirtual 33, 3) := by decide +kernel
theorem dL_isSound_276 : decode cL_isSound 276 = .ok (.aload_n 0, 1) := by decide +kernel
theorem dL_isSound_277 : decode cL_isSound 277 = .ok (.iconst 0, 1) := by decide +kernel
theorem dL_isSound_278 : decode cL_isSound 278 = .ok (.invokevirtual 33, 3) := by decide +kernel
theorem dL_isSound_281 : decode cL_isSound 281 = .ok (.iconst 1, 1) := by decide +kernel
theorem dL_isSound_282 : decode cL_isSound 282 = .ok (.isub, 1) := by decide +kernel
theorem dL_isSound_283 : decode cL_isSound 283 = .ok (.imul, 1) := by decide +kernel
theorem dL_isSound_284 : decode cL_isSound 284 = .ok (.iconst 2, 1) := by decide +kernel
theorem dL_isSound_285 : decode cL_isSound 285 = .ok (.idiv, 1) := by decide +kernel
theorem dL_isSound_286 : decode cL_isSound 286 = .ok (.if_icmp .ne 7, 3) := by decide +kernel
theorem dL_isSound_289 : decode cL_isSound 289 = .ok (.iconst 1, 1) := by decide +kernel
theorem dL_isSound_290 : decode cL_isSound 290 = .ok (.goto 4, 3) := by decide +kernel
theorem dL_isSound_293 : decode cL_isSound 293 = .ok (.iconst 0, 1) := by decide +kernel
theorem dL_isSound_294 : decode cL_isSound 294 = .ok (.ireturn, 1) := by decide +kernel
theorem dL_law_0 : decode cL_law 0 = .ok (.new 16, 3) := by decide +kernel
theorem dL_law_3 : decode cL_law 3 = .ok (.dup, 1) := by decide +kernel
theorem dL_law_4 : decode cL_law 4 = .ok (.invokespecial 98, 3) := by decide +kernel
theorem dL_law_7 : decode cL_law 7 = .ok (.astore_n 1, 1) := by decide +kernel
theorem dL_law_8 : decode cL_law 8 = .ok (.new 16, 3) := by decide +kernel
theorem dL_law_11 : decode cL_law 11 = .ok (.dup, 1) := by decide +kernel
theorem dL_law_12 : decode cL_law 12 = .ok (.invokespecial 98, 3) := by decide +kernel
theorem dL_law_15 : decode cL_law 15 = .ok (.astore_n 2, 1) := by decide +kernel
theorem dL_law_16 : decode cL_law 16 = .ok (.iconst 1, 1) := by decide +kernel
theorem dL_law_17 : decode cL_law 17 = .ok (.aload_n 0, 1) := by decide +kernel
theorem dL_law_18 : decode cL_law 18 = .ok (.iconst 0, 1) := by decide +kernel
theorem dL_law_19 : decode cL_law 19 = .ok (.invokestatic 21, 3) := by decide +kernel
theorem dL_law_22 : decode cL_law 22 = .ok (.bipush 20, 2) := by decide +kernel
theorem dL_law_24 : decode cL_law 24 = .ok (.invokestatic 29, 3) := by decide +kernel
theorem dL_law_27 : decode cL_law 27 = .ok (.iadd, 1) := by decide +kernel
theorem dL_law_28 : decode cL_law 28 = .ok (.istore_n 3, 1) := by decide +kernel
theorem dL_law_29 : decode cL_law 29 = .ok (.aload_n 1, 1) := by decide +kernel
theorem dL_law_30 : decode cL_law 30 = .ok (.aload_n 2, 1) := by decide +kernel
theorem dL_law_31 : decode cL_law 31 = .ok (.aload_n 0, 1) := by decide +kernel
theorem dL_law_32 : decode cL_law 32 = .ok (.iload_n 3, 1) := by decide +kernel
theorem dL_law_33 : decode cL_law 33 = .ok (.invokestatic 99, 3) := by decide +kernel
theorem dL_law_36 : decode cL_law 36 = .ok (.ifCond .eq 15, 3) := by decide +kernel
theorem dL_law_39 : decode cL_law 39 = .ok (.aload_n 1, 1) := by decide +kernel
theorem dL_law_40 : decode cL_law 40 = .ok (.aload_n 2, 1) := by decide +kernel
theorem dL_law_41 : decode cL_law 41 = .ok (.invokestatic 103, 3) := by decide +kernel
theorem dL_law_44 : decode cL_law 44 = .ok (.ifCond .eq 7, 3) := by decide +kernel
theorem dL_law_47 : decode cL_law 47 = .ok (.iconst 1, 1) := by decide +kernel
theorem dL_law_48 : decode cL_law 48 = .ok (.goto 4, 3) := by decide +kernel
theorem dL_law_51 : decode cL_law 51 = .ok (.iconst 0, 1) := by decide +kernel
theorem dL_law_52 : decode cL_law 52 = .ok (.istore 4, 2) := by decide +kernel
theorem dL_law_54 : decode cL_law 54 = .ok (.iconst 0, 1) := by decide +kernel
theorem dL_law_55 : decode cL_law 55 = .ok (.istore 5, 2) := by decide +kernel
theorem dL_law_57 : decode cL_law 57 = .ok (.iload 5, 2) := by decide +kernel
theorem dL_law_59 : decode cL_law 59 = .ok (.bipush 40, 2) := by decide +kernel
theorem dL_law_61 : decode cL_law 61 = .ok (.if_icmp .ge 53, 3) := by decide +kernel
theorem dL_law_64 : decode cL_law 64 = .ok (.iload 4, 2) := by decide +kernel
theorem dL_law_66 : decode cL_law 66 = .ok (.ifCond .eq 48, 3) := by decide +kernel
theorem dL_law_69 : decode cL_law 69 = .ok (.aload_n 1, 1) := by decide +kernel
theorem dL_law_70 : decode cL_law 70 = .ok (.aload_n 2, 1) := by decide +kernel
theorem dL_law_71 : decode cL_law 71 = .ok (.aload_n 0, 1) := by decide +kernel
theorem dL_law_72 : decode cL_law 72 = .ok (.bipush 22, 2) := by decide +kernel
theorem dL_law_74 : decode cL_law 74 = .ok (.iload 5, 2) := by decide +kernel
theorem dL_law_76 : decode cL_law 76 = .ok (.iadd, 1) := by decide +kernel
theorem dL_law_77 : decode cL_law 77 = .ok (.invokestatic 21, 3) := by decide +kernel
theorem dL_law_80 : decode cL_law 80 = .ok (.invokestatic 107, 3) := by decide +kernel
theorem dL_law_83 : decode cL_law 83 = .ok (.ifCond .eq 22, 3) := by decide +kernel
theorem dL_law_86 : decode cL_law 86 = .ok (.aload_n 1, 1) := by decide +kernel
theorem dL_law_87 : decode cL_law 87 = .ok (.aload_n 2, 1) := by decide +kernel
theorem dL_law_88 : decode cL_law 88 = .ok (.invokestatic 103, 3) := by decide +kernel
theorem dL_law_91 : decode cL_law 91 = .ok (.ifCond .eq 14, 3) := by decide +kernel
theorem dL_law_94 : decode cL_law 94 = .ok (.aload_n 1, 1) := by decide +kernel
theorem dL_law_95 : decode cL_law 95 = .ok (.invokestatic 111, 3) := by decide +kernel
theorem dL_law_98 : decode cL_law 98 = .ok (.ifCond .eq 7, 3) := by decide +kernel
theorem dL_law_101 : decode cL_law 101 = .ok (.iconst 1, 1) := by decide +kernel
theorem dL_law_102 : decode cL_law 102 = .ok (.goto 4, 3) := by decide +kernel
theorem dL_law_105 : decode cL_law 105 = .ok (.iconst 0, 1) := by decide +kernel
theorem dL_law_106 : decode cL_law 106 = .ok (.istore 4, 2) := by decide +kernel
theorem dL_law_108 : decode cL_law 108 = .ok (.iinc 5 1, 3) := by decide +kernel
theorem dL_law_111 : decode cL_law 111 = .ok (.goto (-54), 3) := by decide +kernel
theorem dL_law_114 : decode cL_law 114 = .ok (.aload_n 1, 1) := by decide +kernel
theorem dL_law_115 : decode cL_law 115 = .ok (.invokevirtual 115, 3) := by decide +kernel
theorem dL_law_118 : decode cL_law 118 = .ok (.lstore 5, 2) := by decide +kernel
theorem dL_law_120 : decode cL_law 120 = .ok (.iload 4, 2) := by decide +kernel
theorem dL_law_122 : decode cL_law 122 = .ok (.ifCond .eq 28, 3) := by decide +kernel
theorem dL_law_125 : decode cL_law 125 = .ok (.aload_n 1, 1) := by decide +kernel
theorem dL_law_126 : decode cL_law 126 = .ok (.iconst 1, 1) := by decide +kernel
theorem dL_law_127 : decode cL_law 127 = .ok (.invokevirtual 45, 3) := by decide +kernel
theorem dL_law_130 : decode cL_law 130 = .ok (.aload_n 1, 1) := by decide +kernel
theorem dL_law_131 : decode cL_law 131 = .ok (.bipush 6, 2) := by decide +kernel
theorem dL_law_133 : decode cL_law 133 = .ok (.invokevirtual 33, 3) := by decide +kernel
theorem dL_law_136 : decode cL_law 136 = .ok (.if_icmp .ne 14, 3) := by decide +kernel
theorem dL_law_139 : decode cL_law 139 = .ok (.aload_n 1, 1) := by decide +kernel
theorem dL_law_140 : decode cL_law 140 = .ok (.invokevirtual 119, 3) := by decide +kernel
theorem dL_law_143 : decode cL_law 143 = .ok (.ifCond .lt 7, 3) := by decide +kernel
theorem dL_law_146 : decode cL_law 146 = .ok (.iconst 1, 1) := by decide +kernel
theorem dL_law_147 : decode cL_law 147 = .ok (.goto 4, 3) := by decide +kernel
theorem dL_law_150 : decode cL_law 150 = .ok (.iconst 0, 1) := by decide +kernel
theorem dL_law_151 : decode cL_law 151 = .ok (.istore 4, 2) := by decide +kernel
theorem dL_law_153 : decode cL_law 153 = .ok (.iload 4, 2) := by decide +kernel
theorem dL_law_155 : decode cL_law 155 = .ok (.ifCond .eq 37, 3) := by decide +kernel
theorem dL_law_158 : decode cL_law 158 = .ok (.aload_n 1, 1) := by decide +kernel
theorem dL_law_159 : decode cL_law 159 = .ok (.invokevirtual 115, 3) := by decide +kernel
theorem dL_law_162 : decode cL_law 162 = .ok (.lload 5, 2) := by decide +kernel
theorem dL_law_164 : decode cL_law 164 = .ok (.lcmp, 1) := by decide +kernel
theorem dL_law_165 : decode cL_law 165 = .ok (.ifCond .eq 15, 3) := by decide +kernel
theorem dL_law_168 : decode cL_law 168 = .ok (.aload_n 1, 1) := by decide +kernel
theorem dL_law_169 : decode cL_law 169 = .ok (.invokevirtual 115, 3) := by decide +kernel
theorem dL_law_172 : decode cL_law 172 = .ok (.lload 5, 2) := by decide +kernel
theorem dL_law_174 : decode cL_law 174 = .ok (.lconst 1, 1) := by decide +kernel
theorem dL_law_175 : decode cL_law 175 = .ok (.lsub, 1) := by decide +kernel
theorem dL_law_176 : decode cL_law 176 = .ok (.lcmp, 1) := by decide +kernel
theorem dL_law_177 : decode cL_law 177 = .ok (.ifCond .ne 15, 3) := by decide +kernel
theorem dL_law_180 : decode cL_law 180 = .ok (.aload_n 1, 1) := by decide +kernel
theorem dL_law_181 : decode cL_law 181 = .ok (.aload_n 2, 1) := by decide +kernel
theorem dL_law_182 : decode cL_law 182 = .ok (.invokestatic 103, 3) := by decide +kernel
theorem dL_law_185 : decode cL_law 185 = .ok (.ifCond .eq 7, 3) := by decide +kernel
theorem dL_law_188 : decode cL_law 188 = .ok (.iconst 1, 1) := by decide +kernel
theorem dL_law_189 : decode cL_law 189 = .ok (.goto 4, 3) := by decide +kernel
theorem dL_law_192 : decode cL_law 192 = .ok (.iconst 0, 1) := by decide +kernel
theorem dL_law_193 : decode cL_law 193 = .ok (.ireturn, 1) := by decide +kernel
