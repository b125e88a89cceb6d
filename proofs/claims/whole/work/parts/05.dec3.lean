theorem dX5_put_59 : decode cX5_put 59 = .ok (.istore 4, 2) := by decide +kernel
theorem dX5_put_61 : decode cX5_put 61 = .ok (.aload_n 0, 1) := by decide +kernel
theorem dX5_put_62 : decode cX5_put 62 = .ok (.getfield 19, 3) := by decide +kernel
theorem dX5_put_65 : decode cX5_put 65 = .ok (.bipush 60, 2) := by decide +kernel
theorem dX5_put_67 : decode cX5_put 67 = .ok (.iload_n 1, 1) := by decide +kernel
theorem dX5_put_68 : decode cX5_put 68 = .ok (.imul, 1) := by decide +kernel
theorem dX5_put_69 : decode cX5_put 69 = .ok (.iload_n 2, 1) := by decide +kernel
theorem dX5_put_70 : decode cX5_put 70 = .ok (.iadd, 1) := by decide +kernel
theorem dX5_put_71 : decode cX5_put 71 = .ok (.iload_n 3, 1) := by decide +kernel
theorem dX5_put_72 : decode cX5_put 72 = .ok (.i2b, 1) := by decide +kernel
theorem dX5_put_73 : decode cX5_put 73 = .ok (.iastore, 1) := by decide +kernel
theorem dX5_put_74 : decode cX5_put 74 = .ok (.iload 4, 2) := by decide +kernel
theorem dX5_put_76 : decode cX5_put 76 = .ok (.sipush 1000, 3) := by decide +kernel
theorem dX5_put_79 : decode cX5_put 79 = .ok (.iadd, 1) := by decide +kernel
theorem dX5_put_80 : decode cX5_put 80 = .ok (.ireturn, 1) := by decide +kernel
theorem dX5_copies_0 : decode cX5_copies 0 = .ok (.iconst 0, 1) := by decide +kernel
theorem dX5_copies_1 : decode cX5_copies 1 = .ok (.istore 5, 2) := by decide +kernel
theorem dX5_copies_3 : decode cX5_copies 3 = .ok (.iload 5, 2) := by decide +kernel
theorem dX5_copies_5 : decode cX5_copies 5 = .ok (.iload 4, 2) := by decide +kernel
theorem dX5_copies_7 : decode cX5_copies 7 = .ok (.if_icmp .ge 21, 3) := by decide +kernel
theorem dX5_copies_10 : decode cX5_copies 10 = .ok (.aload_n 2, 1) := by decide +kernel
theorem dX5_copies_11 : decode cX5_copies 11 = .ok (.iload_n 3, 1) := by decide +kernel
theorem dX5_copies_12 : decode cX5_copies 12 = .ok (.iload 5, 2) := by decide +kernel
theorem dX5_copies_14 : decode cX5_copies 14 = .ok (.iadd, 1) := by decide +kernel
theorem dX5_copies_15 : decode cX5_copies 15 = .ok (.aload_n 0, 1) := by decide +kernel
theorem dX5_copies_16 : decode cX5_copies 16 = .ok (.iload_n 1, 1) := by decide +kernel
theorem dX5_copies_17 : decode cX5_copies 17 = .ok (.iload 5, 2) := by decide +kernel
theorem dX5_copies_19 : decode cX5_copies 19 = .ok (.iadd, 1) := by decide +kernel
theorem dX5_copies_20 : decode cX5_copies 20 = .ok (.iaload, 1) := by decide +kernel
theorem dX5_copies_21 : decode cX5_copies 21 = .ok (.iastore, 1) := by decide +kernel
theorem dX5_copies_22 : decode cX5_copies 22 = .ok (.iinc 5 1, 3) := by decide +kernel
theorem dX5_copies_25 : decode cX5_copies 25 = .ok (.goto (-22), 3) := by decide +kernel
theorem dX5_copies_28 : decode cX5_copies 28 = .ok (.return_, 1) := by decide +kernel
theorem dX5_kindOf_0 : decode cX5_kindOf 0 = .ok (.iload_n 0, 1) := by decide +kernel
theorem dX5_kindOf_1 : decode cX5_kindOf 1 = .ok (.tableswitch 103 98 116 #[101, 103, 103, 97, 103, 103, 103, 103, 103, 103, 93, 103, 103, 103, 91, 103, 103, 99, 95], 91) := by decide +kernel
theorem dX5_kindOf_92 : decode cX5_kindOf 92 = .ok (.iconst 0, 1) := by decide +kernel
theorem dX5_kindOf_93 : decode cX5_kindOf 93 = .ok (.ireturn, 1) := by decide +kernel
theorem dX5_kindOf_94 : decode cX5_kindOf 94 = .ok (.iconst 1, 1) := by decide +kernel
theorem dX5_kindOf_95 : decode cX5_kindOf 95 = .ok (.ireturn, 1) := by decide +kernel
theorem dX5_kindOf_96 : decode cX5_kindOf 96 = .ok (.iconst 2, 1) := by decide +kernel
theorem dX5_kindOf_97 : decode cX5_kindOf 97 = .ok (.ireturn, 1) := by decide +kernel
theorem dX5_kindOf_98 : decode cX5_kindOf 98 = .ok (.iconst 3, 1) := by decide +kernel
theorem dX5_kindOf_99 : decode cX5_kindOf 99 = .ok (.ireturn, 1) := by decide +kernel
theorem dX5_kindOf_100 : decode cX5_kindOf 100 = .ok (.iconst 4, 1) := by decide +kernel
theorem dX5_kindOf_101 : decode cX5_kindOf 101 = .ok (.ireturn, 1) := by decide +kernel
theorem dX5_kindOf_102 : decode cX5_kindOf 102 = .ok (.iconst 5, 1) := by decide +kernel
theorem dX5_kindOf_103 : decode cX5_kindOf 103 = .ok (.ireturn, 1) := by decide +kernel
theorem dX5_kindOf_104 : decode cX5_kindOf 104 = .ok (.bipush (-9), 2) := by decide +kernel
theorem dX5_kindOf_106 : decode cX5_kindOf 106 = .ok (.ireturn, 1) := by decide +kernel
theorem dX5_isFigure_0 : decode cX5_isFigure 0 = .ok (.iload_n 2, 1) := by decide +kernel
theorem dX5_isFigure_1 : decode cX5_isFigure 1 = .ok (.aload_n 0, 1) := by decide +kernel
theorem dX5_isFigure_2 : decode cX5_isFigure 2 = .ok (.getfield 16, 3) := by decide +kernel
theorem dX5_isFigure_5 : decode cX5_isFigure 5 = .ok (.iload_n 1, 1) := by decide +kernel
theorem dX5_isFigure_6 : decode cX5_isFigure 6 = .ok (.iaload, 1) := by decide +kernel
theorem dX5_isFigure_7 : decode cX5_isFigure 7 = .ok (.if_icmp .ge 31, 3) := by decide +kernel
theorem dX5_isFigure_10 : decode cX5_isFigure 10 = .ok (.aload_n 0, 1) := by decide +kernel
theorem dX5_isFigure_11 : decode cX5_isFigure 11 = .ok (.getfield 19, 3) := by decide +kernel
theorem dX5_isFigure_14 : decode cX5_isFigure 14 = .ok (.bipush 60, 2) := by decide +kernel
theorem dX5_isFigure_16 : decode cX5_isFigure 16 = .ok (.iload_n 1, 1) := by decide +kernel
theorem dX5_isFigure_17 : decode cX5_isFigure 17 = .ok (.imul, 1) := by decide +kernel
theorem dX5_isFigure_18 : decode cX5_isFigure 18 = .ok (.iload_n 2, 1) := by decide +kernel
theorem dX5_isFigure_19 : decode cX5_isFigure 19 = .ok (.iadd, 1) := by decide +kernel
theorem dX5_isFigure_20 : decode cX5_isFigure 20 = .ok (.iaload, 1) := by decide +kernel
theorem dX5_isFigure_21 : decode cX5_isFigure 21 = .ok (.i2l, 1) := by decide +kernel
theorem dX5_isFigure_22 : decode cX5_isFigure 22 = .ok (.ldc2_w 95, 3) := by decide +kernel
theorem dX5_isFigure_25 : decode cX5_isFigure 25 = .ok (.ldc2_w 97, 3) := by decide +kernel
theorem dX5_isFigure_28 : decode cX5_isFigure 28 = .ok (.invokestatic 75, 3) := by decide +kernel
theorem dX5_isFigure_31 : decode cX5_isFigure 31 = .ok (.ifCond .eq 7, 3) := by decide +kernel
theorem dX5_isFigure_34 : decode cX5_isFigure 34 = .ok (.iconst 1, 1) := by decide +kernel
theorem dX5_isFigure_35 : decode cX5_isFigure 35 = .ok (.goto 4, 3) := by decide +kernel
theorem dX5_isFigure_38 : decode cX5_isFigure 38 = .ok (.iconst 0, 1) := by decide +kernel
theorem dX5_isFigure_39 : decode cX5_isFigure 39 = .ok (.ireturn, 1) := by decide +kernel
theorem dX5_reads_0 : decode cX5_reads 0 = .ok (.aload_n 0, 1) := by decide +kernel
theorem dX5_reads_1 : decode cX5_reads 1 = .ok (.getfield 16, 3) := by decide +kernel
theorem dX5_reads_4 : decode cX5_reads 4 = .ok (.iload_n 1, 1) := by decide +kernel
theorem dX5_reads_5 : decode cX5_reads 5 = .ok (.iaload, 1) := by decide +kernel
theorem dX5_reads_6 : decode cX5_reads 6 = .ok (.istore_n 2, 1) := by decide +kernel
theorem dX5_reads_7 : decode cX5_reads 7 = .ok (.iconst 0, 1) := by decide +kernel
theorem dX5_reads_8 : decode cX5_reads 8 = .ok (.istore_n 3, 1) := by decide +kernel
theorem dX5_reads_9 : decode cX5_reads 9 = .ok (.aload_n 0, 1) := by decide +kernel
theorem dX5_reads_10 : decode cX5_reads 10 = .ok (.iconst 0, 1) := by decide +kernel
theorem dX5_reads_11 : decode cX5_reads 11 = .ok (.putfield 99, 3) := by decide +kernel
theorem dX5_reads_14 : decode cX5_reads 14 = .ok (.aload_n 0, 1) := by decide +kernel
theorem dX5_reads_15 : decode cX5_reads 15 = .ok (.iconst 0, 1) := by decide +kernel
theorem dX5_reads_16 : decode cX5_reads 16 = .ok (.putfield 102, 3) := by decide +kernel
theorem dX5_reads_19 : decode cX5_reads 19 = .ok (.iload_n 3, 1) := by decide +kernel
theorem dX5_reads_20 : decode cX5_reads 20 = .ok (.iload_n 2, 1) := by decide +kernel
theorem dX5_reads_21 : decode cX5_reads 21 = .ok (.if_icmp .ge 168, 3) := by decide +kernel
theorem dX5_reads_24 : decode cX5_reads 24 = .ok (.aload_n 0, 1) := by decide +kernel
theorem dX5_reads_25 : decode cX5_reads 25 = .ok (.getfield 19, 3) := by decide +kernel
theorem dX5_reads_28 : decode cX5_reads 28 = .ok (.bipush 60, 2) := by decide +kernel
theorem dX5_reads_30 : decode cX5_reads 30 = .ok (.iload_n 1, 1) := by decide +kernel
theorem dX5_reads_31 : decode cX5_reads 31 = .ok (.imul, 1) := by decide +kernel
theorem dX5_reads_32 : decode cX5_reads 32 = .ok (.iload_n 3, 1) := by decide +kernel
theorem dX5_reads_33 : decode cX5_reads 33 = .ok (.iadd, 1) := by decide +kernel
theorem dX5_reads_34 : decode cX5_reads 34 = .ok (.iaload, 1) := by decide +kernel
theorem dX5_reads_35 : decode cX5_reads 35 = .ok (.istore 4, 2) := by decide +kernel
theorem dX5_reads_37 : decode cX5_reads 37 = .ok (.iload 4, 2) := by decide +kernel
theorem dX5_reads_39 : decode cX5_reads 39 = .ok (.bipush 32, 2) := by decide +kernel
theorem dX5_reads_41 : decode cX5_reads 41 = .ok (.if_icmp .eq 33, 3) := by decide +kernel
theorem dX5_reads_44 : decode cX5_reads 44 = .ok (.aload_n 0, 1) := by decide +kernel
theorem dX5_reads_45 : decode cX5_reads 45 = .ok (.getfield 99, 3) := by decide +kernel
theorem dX5_reads_48 : decode cX5_reads 48 = .ok (.ifCond .ne 26, 3) := by decide +kernel
theorem dX5_reads_51 : decode cX5_reads 51 = .ok (.aload_n 0, 1) := by decide +kernel
theorem dX5_reads_52 : decode cX5_reads 52 = .ok (.iload_n 1, 1) := by decide +kernel
theorem dX5_reads_53 : decode cX5_reads 53 = .ok (.iload_n 3, 1) := by decide +kernel
theorem dX5_reads_54 : decode cX5_reads 54 = .ok (.invokevirtual 105, 3) := by decide +kernel
theorem dX5_reads_57 : decode cX5_reads 57 = .ok (.ifCond .ne 5, 3) := by decide +kernel
theorem dX5_reads_60 : decode cX5_reads 60 = .ok (.iload_n 3, 1) := by decide +kernel
theorem dX5_reads_61 : decode cX5_reads 61 = .ok (.ireturn, 1) := by decide +kernel
theorem dX5_reads_62 : decode cX5_reads 62 = .ok (.aload_n 0, 1) := by decide +kernel
theorem dX5_reads_63 : decode cX5_reads 63 = .ok (.iload 4, 2) := by decide +kernel
theorem dX5_reads_65 : decode cX5_reads 65 = .ok (.bipush 48, 2) := by decide +kernel
theorem dX5_reads_67 : decode cX5_reads 67 = .ok (.isub, 1) := by decide +kernel
theorem dX5_reads_68 : decode cX5_reads 68 = .ok (.putfield 99, 3) := by decide +kernel
theorem dX5_reads_71 : decode cX5_reads 71 = .ok (.goto 112, 3) := by decide +kernel
theorem dX5_reads_74 : decode cX5_reads 74 = .ok (.iload 4, 2) := by decide +kernel
theorem dX5_reads_76 : decode cX5_reads 76 = .ok (.bipush 32, 2) := by decide +kernel
theorem dX5_reads_78 : decode cX5_reads 78 = .ok (.if_icmp .eq 105, 3) := by decide +kernel
theorem dX5_reads_81 : decode cX5_reads 81 = .ok (.aload_n 0, 1) := by decide +kernel
theorem dX5_reads_82 : decode cX5_reads 82 = .ok (.getfield 102, 3) := by decide +kernel
theorem dX5_reads_85 : decode cX5_reads 85 = .ok (.bipush 7, 2) := by decide +kernel
theorem dX5_reads_87 : decode cX5_reads 87 = .ok (.if_icmp .eq 13, 3) := by decide +kernel
theorem dX5_reads_90 : decode cX5_reads 90 = .ok (.iload 4, 2) := by decide +kernel
theorem dX5_reads_92 : decode cX5_reads 92 = .ok (.invokestatic 109, 3) := by decide +kernel
theorem dX5_reads_95 : decode cX5_reads 95 = .ok (.bipush (-9), 2) := by decide +kernel
theorem dX5_reads_97 : decode cX5_reads 97 = .ok (.if_icmp .ne 5, 3) := by decide +kernel
theorem dX5_reads_100 : decode cX5_reads 100 = .ok (.iload_n 3, 1) := by decide +kernel
theorem dX5_reads_101 : decode cX5_reads 101 = .ok (.ireturn, 1) := by decide +kernel
theorem dX5_reads_102 : decode cX5_reads 102 = .ok (.aload_n 0, 1) := by decide +kernel
theorem dX5_reads_103 : decode cX5_reads 103 = .ok (.getfield 54, 3) := by decide +kernel
theorem dX5_reads_106 : decode cX5_reads 106 = .ok (.aload_n 0, 1) := by decide +kernel
theorem dX5_reads_107 : decode cX5_reads 107 = .ok (.getfield 102, 3) := by decide +kernel
theorem dX5_reads_110 : decode cX5_reads 110 = .ok (.iload 4, 2) := by decide +kernel
theorem dX5_reads_112 : decode cX5_reads 112 = .ok (.invokestatic 109, 3) := by decide +kernel
theorem dX5_reads_115 : decode cX5_reads 115 = .ok (.iastore, 1) := by decide +kernel
theorem dX5_reads_116 : decode cX5_reads 116 = .ok (.iconst 0, 1) := by decide +kernel
theorem dX5_reads_117 : decode cX5_reads 117 = .ok (.istore 5, 2) := by decide +kernel
theorem dX5_reads_119 : decode cX5_reads 119 = .ok (.iload 5, 2) := by decide +kernel
theorem dX5_reads_121 : decode cX5_reads 121 = .ok (.iconst 2, 1) := by decide +kernel
theorem dX5_reads_122 : decode cX5_reads 122 = .ok (.if_icmp .ge 51, 3) := by decide +kernel
theorem dX5_reads_125 : decode cX5_reads 125 = .ok (.iinc 3 1, 3) := by decide +kernel
theorem dX5_reads_128 : decode cX5_reads 128 = .ok (.aload_n 0, 1) := by decide +kernel
theorem dX5_reads_129 : decode cX5_reads 129 = .ok (.iload_n 1, 1) := by decide +kernel
theorem dX5_reads_130 : decode cX5_reads 130 = .ok (.iload_n 3, 1) := by decide +kernel
theorem dX5_reads_131 : decode cX5_reads 131 = .ok (.invokevirtual 105, 3) := by decide +kernel
theorem dX5_reads_134 : decode cX5_reads 134 = .ok (.ifCond .ne 5, 3) := by decide +kernel
theorem dX5_reads_137 : decode cX5_reads 137 = .ok (.iload_n 3, 1) := by decide +kernel
theorem dX5_reads_138 : decode cX5_reads 138 = .ok (.ireturn, 1) := by decide +kernel
theorem dX5_reads_139 : decode cX5_reads 139 = .ok (.aload_n 0, 1) := by decide +kernel
theorem dX5_reads_140 : decode cX5_reads 140 = .ok (.getfield 57, 3) := by decide +kernel
theorem dX5_reads_143 : decode cX5_reads 143 = .ok (.iconst 2, 1) := by decide +kernel
theorem dX5_reads_144 : decode cX5_reads 144 = .ok (.aload_n 0, 1) := by decide +kernel
theorem dX5_reads_145 : decode cX5_reads 145 = .ok (.getfield 102, 3) := by decide +kernel
theorem dX5_reads_148 : decode cX5_reads 148 = .ok (.imul, 1) := by decide +kernel
theorem dX5_reads_149 : decode cX5_reads 149 = .ok (.iload 5, 2) := by decide +kernel
theorem dX5_reads_151 : decode cX5_reads 151 = .ok (.iadd, 1) := by decide +kernel
theorem dX5_reads_152 : decode cX5_reads 152 = .ok (.aload_n 0, 1) := by decide +kernel
theorem dX5_reads_153 : decode cX5_reads 153 = .ok (.getfield 19, 3) := by decide +kernel
theorem dX5_reads_156 : decode cX5_reads 156 = .ok (.bipush 60, 2) := by decide +kernel
theorem dX5_reads_158 : decode cX5_reads 158 = .ok (.iload_n 1, 1) := by decide +kernel
theorem dX5_reads_159 : decode cX5_reads 159 = .ok (.imul, 1) := by decide +kernel
theorem dX5_reads_160 : decode cX5_reads 160 = .ok (.iload_n 3, 1) := by decide +kernel
theorem dX5_reads_161 : decode cX5_reads 161 = .ok (.iadd, 1) := by decide +kernel
theorem dX5_reads_162 : decode cX5_reads 162 = .ok (.iaload, 1) := by decide +kernel
theorem dX5_reads_163 : decode cX5_reads 163 = .ok (.bipush 48, 2) := by decide +kernel
theorem dX5_reads_165 : decode cX5_reads 165 = .ok (.isub, 1) := by decide +kernel
theorem dX5_reads_166 : decode cX5_reads 166 = .ok (.iastore, 1) := by decide +kernel
theorem dX5_reads_167 : decode cX5_reads 167 = .ok (.iinc 5 1, 3) := by decide +kernel
theorem dX5_reads_170 : decode cX5_reads 170 = .ok (.goto (-51), 3) := by decide +kernel
theorem dX5_reads_173 : decode cX5_reads 173 = .ok (.aload_n 0, 1) := by decide +kernel
theorem dX5_reads_174 : decode cX5_reads 174 = .ok (.dup, 1) := by decide +kernel
theorem dX5_reads_175 : decode cX5_reads 175 = .ok (.getfield 102, 3) := by decide +kernel
theorem dX5_reads_178 : decode cX5_reads 178 = .ok (.iconst 1, 1) := by decide +kernel
theorem dX5_reads_179 : decode cX5_reads 179 = .ok (.iadd, 1) := by decide +kernel
theorem dX5_reads_180 : decode cX5_reads 180 = .ok (.putfield 102, 3) := by decide +kernel
theorem dX5_reads_183 : decode cX5_reads 183 = .ok (.iinc 3 1, 3) := by decide +kernel
theorem dX5_reads_186 : decode cX5_reads 186 = .ok (.goto (-167), 3) := by decide +kernel
theorem dX5_reads_189 : decode cX5_reads 189 = .ok (.aload_n 0, 1) := by decide +kernel
theorem dX5_reads_190 : decode cX5_reads 190 = .ok (.getfield 102, 3) := by decide +kernel
theorem dX5_reads_193 : decode cX5_reads 193 = .ok (.iconst 2, 1) := by decide +kernel
theorem dX5_reads_194 : decode cX5_reads 194 = .ok (.if_icmp .ge 7, 3) := by decide +kernel
theorem dX5_reads_197 : decode cX5_reads 197 = .ok (.iload_n 2, 1) := by decide +kernel
theorem dX5_reads_198 : decode cX5_reads 198 = .ok (.goto 5, 3) := by decide +kernel
theorem dX5_reads_201 : decode cX5_reads 201 = .ok (.bipush (-9), 2) := by decide +kernel
theorem dX5_reads_203 : decode cX5_reads 203 = .ok (.ireturn, 1) := by decide +kernel
theorem dX5_fault_0 : decode cX5_fault 0 = .ok (.iload_n 1, 1) := by decide +kernel
theorem dX5_fault_1 : decode cX5_fault 1 = .ok (.invokestatic 92, 3) := by decide +kernel
theorem dX5_fault_4 : decode cX5_fault 4 = .ok (.ifCond .ne 5, 3) := by decide +kernel
theorem dX5_fault_7 : decode cX5_fault 7 = .ok (.iconst (-1), 1) := by decide +kernel
theorem dX5_fault_8 : decode cX5_fault 8 = .ok (.ireturn, 1) := by decide +kernel
theorem dX5_fault_9 : decode cX5_fault 9 = .ok (.aload_n 0, 1) := by decide +kernel
theorem dX5_fault_10 : decode cX5_fault 10 = .ok (.getfield 16, 3) := by decide +kernel
theorem dX5_fault_13 : decode cX5_fault 13 = .ok (.iload_n 1, 1) := by decide +kernel
theorem dX5_fault_14 : decode cX5_fault 14 = .ok (.iaload, 1) := by decide +kernel
theorem dX5_fault_15 : decode cX5_fault 15 = .ok (.ifCond .ge 11, 3) := by decide +kernel
theorem dX5_fault_18 : decode cX5_fault 18 = .ok (.aload_n 0, 1) := by decide +kernel
theorem dX5_fault_19 : decode cX5_fault 19 = .ok (.iconst 1, 1) := by decide +kernel
theorem dX5_fault_20 : decode cX5_fault 20 = .ok (.invokevirtual 85, 3) := by decide +kernel
theorem dX5_fault_23 : decode cX5_fault 23 = .ok (.goto 8, 3) := by decide +kernel
theorem dX5_fault_26 : decode cX5_fault 26 = .ok (.aload_n 0, 1) := by decide +kernel
theorem dX5_fault_27 : decode cX5_fault 27 = .ok (.iload_n 1, 1) := by decide +kernel
theorem dX5_fault_28 : decode cX5_fault 28 = .ok (.invokevirtual 112, 3) := by decide +kernel
theorem dX5_fault_31 : decode cX5_fault 31 = .ok (.ireturn, 1) := by decide +kernel
theorem dX5_resets_0 : decode cX5_resets 0 = .ok (.aload_n 0, 1) := by decide +kernel
theorem dX5_resets_1 : decode cX5_resets 1 = .ok (.getfield 28, 3) := by decide +kernel
theorem dX5_resets_4 : decode cX5_resets 4 = .ok (.bipush 12, 2) := by decide +kernel
theorem dX5_resets_6 : decode cX5_resets 6 = .ok (.iload_n 1, 1) := by decide +kernel
theorem dX5_resets_7 : decode cX5_resets 7 = .ok (.iadd, 1) := by decide +kernel
theorem dX5_resets_8 : decode cX5_resets 8 = .ok (.iconst 0, 1) := by decide +kernel
theorem dX5_resets_9 : decode cX5_resets 9 = .ok (.iastore, 1) := by decide +kernel
theorem dX5_resets_10 : decode cX5_resets 10 = .ok (.aload_n 0, 1) := by decide +kernel
theorem dX5_resets_11 : decode cX5_resets 11 = .ok (.getfield 28, 3) := by decide +kernel
theorem dX5_resets_14 : decode cX5_resets 14 = .ok (.bipush 19, 2) := by decide +kernel
theorem dX5_resets_16 : decode cX5_resets 16 = .ok (.iload_n 1, 1) := by decide +kernel
theorem dX5_resets_17 : decode cX5_resets 17 = .ok (.iadd, 1) := by decide +kernel
theorem dX5_resets_18 : decode cX5_resets 18 = .ok (.iconst 0, 1) := by decide +kernel
theorem dX5_resets_19 : decode cX5_resets 19 = .ok (.iastore, 1) := by decide +kernel
theorem dX5_resets_20 : decode cX5_resets 20 = .ok (.aload_n 0, 1) := by decide +kernel
theorem dX5_resets_21 : decode cX5_resets 21 = .ok (.getfield 28, 3) := by decide +kernel
theorem dX5_resets_24 : decode cX5_resets 24 = .ok (.bipush 26, 2) := by decide +kernel
theorem dX5_resets_26 : decode cX5_resets 26 = .ok (.iload_n 1, 1) := by decide +kernel
theorem dX5_resets_27 : decode cX5_resets 27 = .ok (.iadd, 1) := by decide +kernel
theorem dX5_resets_28 : decode cX5_resets 28 = .ok (.iconst 0, 1) := by decide +kernel
theorem dX5_resets_29 : decode cX5_resets 29 = .ok (.iastore, 1) := by decide +kernel
theorem dX5_resets_30 : decode cX5_resets 30 = .ok (.aload_n 0, 1) := by decide +kernel
theorem dX5_resets_31 : decode cX5_resets 31 = .ok (.getfield 28, 3) := by decide +kernel
theorem dX5_resets_34 : decode cX5_resets 34 = .ok (.bipush 33, 2) := by decide +kernel
theorem dX5_resets_36 : decode cX5_resets 36 = .ok (.iload_n 1, 1) := by decide +kernel
theorem dX5_resets_37 : decode cX5_resets 37 = .ok (.iadd, 1) := by decide +kernel
theorem dX5_resets_38 : decode cX5_resets 38 = .ok (.aload_n 0, 1) := by decide +kernel
theorem dX5_resets_39 : decode cX5_resets 39 = .ok (.getfield 25, 3) := by decide +kernel
theorem dX5_resets_42 : decode cX5_resets 42 = .ok (.iload_n 1, 1) := by decide +kernel
theorem dX5_resets_43 : decode cX5_resets 43 = .ok (.iaload, 1) := by decide +kernel
theorem dX5_resets_44 : decode cX5_resets 44 = .ok (.iastore, 1) := by decide +kernel
theorem dX5_resets_45 : decode cX5_resets 45 = .ok (.return_, 1) := by decide +kernel
theorem dX5_house_0 : decode cX5_house 0 = .ok (.iload_n 1, 1) := by decide +kernel
theorem dX5_house_1 : decode cX5_house 1 = .ok (.invokestatic 92, 3) := by decide +kernel
theorem dX5_house_4 : decode cX5_house 4 = .ok (.ifCond .ne 5, 3) := by decide +kernel
theorem dX5_house_7 : decode cX5_house 7 = .ok (.iconst (-1), 1) := by decide +kernel
theorem dX5_house_8 : decode cX5_house 8 = .ok (.ireturn, 1) := by decide +kernel
theorem dX5_house_9 : decode cX5_house 9 = .ok (.aload_n 0, 1) := by decide +kernel
theorem dX5_house_10 : decode cX5_house 10 = .ok (.getfield 16, 3) := by decide +kernel
theorem dX5_house_13 : decode cX5_house 13 = .ok (.iload_n 1, 1) := by decide +kernel
theorem dX5_house_14 : decode cX5_house 14 = .ok (.iaload, 1) := by decide +kernel
theorem dX5_house_15 : decode cX5_house 15 = .ok (.ifCond .ge 9, 3) := by decide +kernel
theorem dX5_house_18 : decode cX5_house 18 = .ok (.aload_n 0, 1) := by decide +kernel
theorem dX5_house_19 : decode cX5_house 19 = .ok (.iconst 1, 1) := by decide +kernel
theorem dX5_house_20 : decode cX5_house 20 = .ok (.invokevirtual 85, 3) := by decide +kernel
theorem dX5_house_23 : decode cX5_house 23 = .ok (.ireturn, 1) := by decide +kernel
theorem dX5_house_24 : decode cX5_house 24 = .ok (.aload_n 0, 1) := by decide +kernel
theorem dX5_house_25 : decode cX5_house 25 = .ok (.iload_n 1, 1) := by decide +kernel
theorem dX5_house_26 : decode cX5_house 26 = .ok (.invokevirtual 112, 3) := by decide +kernel
theorem dX5_house_29 : decode cX5_house 29 = .ok (.bipush (-9), 2) := by decide +kernel
theorem dX5_house_31 : decode cX5_house 31 = .ok (.if_icmp .eq 6, 3) := by decide +kernel
theorem dX5_house_34 : decode cX5_house 34 = .ok (.bipush (-4), 2) := by decide +kernel
theorem dX5_house_36 : decode cX5_house 36 = .ok (.ireturn, 1) := by decide +kernel
theorem dX5_house_37 : decode cX5_house 37 = .ok (.aload_n 0, 1) := by decide +kernel
theorem dX5_house_38 : decode cX5_house 38 = .ok (.aload_n 0, 1) := by decide +kernel
theorem dX5_house_39 : decode cX5_house 39 = .ok (.getfield 102, 3) := by decide +kernel
theorem dX5_house_42 : decode cX5_house 42 = .ok (.putfield 115, 3) := by decide +kernel
theorem dX5_house_45 : decode cX5_house 45 = .ok (.aload_n 0, 1) := by decide +kernel
theorem dX5_house_46 : decode cX5_house 46 = .ok (.getfield 54, 3) := by decide +kernel
theorem dX5_house_49 : decode cX5_house 49 = .ok (.iconst 0, 1) := by decide +kernel
theorem dX5_house_50 : decode cX5_house 50 = .ok (.aload_n 0, 1) := by decide +kernel
theorem dX5_house_51 : decode cX5_house 51 = .ok (.getfield 22, 3) := by decide +kernel
theorem dX5_house_54 : decode cX5_house 54 = .ok (.iconst 0, 1) := by decide +kernel
theorem dX5_house_55 : decode cX5_house 55 = .ok (.bipush 7, 2) := by decide +kernel
theorem dX5_house_57 : decode cX5_house 57 = .ok (.invokestatic 118, 3) := by decide +kernel
theorem dX5_house_60 : decode cX5_house 60 = .ok (.iconst 0, 1) := by decide +kernel
theorem dX5_house_61 : decode cX5_house 61 = .ok (.istore_n 2, 1) := by decide +kernel
theorem dX5_house_62 : decode cX5_house 62 = .ok (.iload_n 2, 1) := by decide +kernel
theorem dX5_house_63 : decode cX5_house 63 = .ok (.bipush 40, 2) := by decide +kernel
theorem dX5_house_65 : decode cX5_house 65 = .ok (.if_icmp .ge 16, 3) := by decide +kernel
theorem dX5_house_68 : decode cX5_house 68 = .ok (.aload_n 0, 1) := by decide +kernel
theorem dX5_house_69 : decode cX5_house 69 = .ok (.getfield 28, 3) := by decide +kernel
theorem dX5_house_72 : decode cX5_house 72 = .ok (.iload_n 2, 1) := by decide +kernel
theorem dX5_house_73 : decode cX5_house 73 = .ok (.iconst 0, 1) := by decide +kernel
theorem dX5_house_74 : decode cX5_house 74 = .ok (.iastore, 1) := by decide +kernel
theorem dX5_house_75 : decode cX5_house 75 = .ok (.iinc 2 1, 3) := by decide +kernel
theorem dX5_house_78 : decode cX5_house 78 = .ok (.goto (-16), 3) := by decide +kernel
theorem dX5_house_81 : decode cX5_house 81 = .ok (.aload_n 0, 1) := by decide +kernel
theorem dX5_house_82 : decode cX5_house 82 = .ok (.getfield 28, 3) := by decide +kernel
theorem dX5_house_85 : decode cX5_house 85 = .ok (.iconst 3, 1) := by decide +kernel
theorem dX5_house_86 : decode cX5_house 86 = .ok (.sipush 255, 3) := by decide +kernel
theorem dX5_house_89 : decode cX5_house 89 = .ok (.iastore, 1) := by decide +kernel
theorem dX5_house_90 : decode cX5_house 90 = .ok (.aload_n 0, 1) := by decide +kernel
theorem dX5_house_91 : decode cX5_house 91 = .ok (.getfield 28, 3) := by decide +kernel
theorem dX5_house_94 : decode cX5_house 94 = .ok (.iconst 4, 1) := by decide +kernel
theorem dX5_house_95 : decode cX5_house 95 = .ok (.aload_n 0, 1) := by decide +kernel
theorem dX5_house_96 : decode cX5_house 96 = .ok (.getfield 99, 3) := by decide +kernel
theorem dX5_house_99 : decode cX5_house 99 = .ok (.iastore, 1) := by decide +kernel
theorem dX5_house_100 : decode cX5_house 100 = .ok (.iconst 0, 1) := by decide +kernel
theorem dX5_house_101 : decode cX5_house 101 = .ok (.istore_n 2, 1) := by decide +kernel
theorem dX5_house_102 : decode cX5_house 102 = .ok (.iload_n 2, 1) := by decide +kernel
theorem dX5_house_103 : decode cX5_house 103 = .ok (.aload_n 0, 1) := by decide +kernel
theorem dX5_house_104 : decode cX5_house 104 = .ok (.getfield 115, 3) := by decide +kernel
theorem dX5_house_107 : decode cX5_house 107 = .ok (.if_icmp .ge 46, 3) := by decide +kernel
theorem dX5_house_110 : decode cX5_house 110 = .ok (.aload_n 0, 1) := by decide +kernel
theorem dX5_house_111 : decode cX5_house 111 = .ok (.getfield 28, 3) := by decide +kernel
theorem dX5_house_114 : decode cX5_house 114 = .ok (.iconst 5, 1) := by decide +kernel
theorem dX5_house_115 : decode cX5_house 115 = .ok (.iload_n 2, 1) := by decide +kernel
theorem dX5_house_116 : decode cX5_house 116 = .ok (.iadd, 1) := by decide +kernel
theorem dX5_house_117 : decode cX5_house 117 = .ok (.aload_n 0, 1) := by decide +kernel
theorem dX5_house_118 : decode cX5_house 118 = .ok (.getfield 57, 3) := by decide +kernel
theorem dX5_house_121 : decode cX5_house 121 = .ok (.iconst 2, 1) := by decide +kernel
theorem dX5_house_122 : decode cX5_house 122 = .ok (.iload_n 2, 1) := by decide +kernel
theorem dX5_house_123 : decode cX5_house 123 = .ok (.imul, 1) := by decide +kernel
theorem dX5_house_124 : decode cX5_house 124 = .ok (.iaload, 1) := by decide +kernel
theorem dX5_house_125 : decode cX5_house 125 = .ok (.iastore, 1) := by decide +kernel
theorem dX5_house_126 : decode cX5_house 126 = .ok (.aload_n 0, 1) := by decide +kernel
theorem dX5_house_127 : decode cX5_house 127 = .ok (.getfield 25, 3) := by decide +kernel
theorem dX5_house_130 : decode cX5_house 130 = .ok (.iload_n 2, 1) := by decide +kernel
theorem dX5_house_131 : decode cX5_house 131 = .ok (.aload_n 0, 1) := by decide +kernel
theorem dX5_house_132 : decode cX5_house 132 = .ok (.getfield 57, 3) := by decide +kernel
theorem dX5_house_135 : decode cX5_house 135 = .ok (.iconst 2, 1) := by decide +kernel
theorem dX5_house_136 : decode cX5_house 136 = .ok (.iload_n 2, 1) := by decide +kernel
theorem dX5_house_137 : decode cX5_house 137 = .ok (.imul, 1) := by decide +kernel
theorem dX5_house_138 : decode cX5_house 138 = .ok (.iconst 1, 1) := by decide +kernel
theorem dX5_house_139 : decode cX5_house 139 = .ok (.iadd, 1) := by decide +kernel
theorem dX5_house_140 : decode cX5_house 140 = .ok (.iaload, 1) := by decide +kernel
theorem dX5_house_141 : decode cX5_house 141 = .ok (.iastore, 1) := by decide +kernel
theorem dX5_house_142 : decode cX5_house 142 = .ok (.aload_n 0, 1) := by decide +kernel
theorem dX5_house_143 : decode cX5_house 143 = .ok (.iload_n 2, 1) := by decide +kernel
theorem dX5_house_144 : decode cX5_house 144 = .ok (.invokevirtual 122, 3) := by decide +kernel
theorem dX5_house_147 : decode cX5_house 147 = .ok (.iinc 2 1, 3) := by decide +kernel
theorem dX5_house_150 : decode cX5_house 150 = .ok (.goto (-48), 3) := by decide +kernel
theorem dX5_house_153 : decode cX5_house 153 = .ok (.aload_n 0, 1) := by decide +kernel
theorem dX5_house_154 : decode cX5_house 154 = .ok (.iconst 0, 1) := by decide +kernel
theorem dX5_house_155 : decode cX5_house 155 = .ok (.putfield 126, 3) := by decide +kernel
theorem dX5_house_158 : decode cX5_house 158 = .ok (.iconst 0, 1) := by decide +kernel
theorem dX5_house_159 : decode cX5_house 159 = .ok (.istore_n 2, 1) := by decide +kernel
theorem dX5_house_160 : decode cX5_house 160 = .ok (.iload_n 2, 1) := by decide +kernel
theorem dX5_house_161 : decode cX5_house 161 = .ok (.iconst 3, 1) := by decide +kernel
theorem dX5_house_162 : decode cX5_house 162 = .ok (.if_icmp .ge 16, 3) := by decide +kernel
theorem dX5_house_165 : decode cX5_house 165 = .ok (.aload_n 0, 1) := by decide +kernel
theorem dX5_house_166 : decode cX5_house 166 = .ok (.getfield 43, 3) := by decide +kernel
theorem dX5_house_169 : decode cX5_house 169 = .ok (.iload_n 2, 1) := by decide +kernel
theorem dX5_house_170 : decode cX5_house 170 = .ok (.iconst 0, 1) := by decide +kernel
theorem dX5_house_171 : decode cX5_house 171 = .ok (.bastore, 1) := by decide +kernel
theorem dX5_house_172 : decode cX5_house 172 = .ok (.iinc 2 1, 3) := by decide +kernel
theorem dX5_house_175 : decode cX5_house 175 = .ok (.goto (-15), 3) := by decide +kernel
theorem dX5_house_178 : decode cX5_house 178 = .ok (.aload_n 0, 1) := by decide +kernel
theorem dX5_house_179 : decode cX5_house 179 = .ok (.getfield 115, 3) := by decide +kernel
theorem dX5_house_182 : decode cX5_house 182 = .ok (.ireturn, 1) := by decide +kernel
theorem dX5_isCaller_0 : decode cX5_isCaller 0 = .ok (.iload_n 1, 1) := by decide +kernel
theorem dX5_isCaller_1 : decode cX5_isCaller 1 = .ok (.i2l, 1) := by decide +kernel
theorem dX5_isCaller_2 : decode cX5_isCaller 2 = .ok (.lconst 0, 1) := by decide +kernel
theorem dX5_isCaller_3 : decode cX5_isCaller 3 = .ok (.aload_n 0, 1) := by decide +kernel
theorem dX5_isCaller_4 : decode cX5_isCaller 4 = .ok (.getfield 115, 3) := by decide +kernel
theorem dX5_isCaller_7 : decode cX5_isCaller 7 = .ok (.iconst 1, 1) := by decide +kernel
theorem dX5_isCaller_8 : decode cX5_isCaller 8 = .ok (.isub, 1) := by decide +kernel
theorem dX5_isCaller_9 : decode cX5_isCaller 9 = .ok (.i2l, 1) := by decide +kernel
theorem dX5_isCaller_10 : decode cX5_isCaller 10 = .ok (.invokestatic 75, 3) := by decide +kernel
theorem dX5_isCaller_13 : decode cX5_isCaller 13 = .ok (.ireturn, 1) := by decide +kernel
theorem dX5_tripsOn_0 : decode cX5_tripsOn 0 = .ok (.aload_n 0, 1) := by decide +kernel
theorem dX5_tripsOn_1 : decode cX5_tripsOn 1 = .ok (.getfield 34, 3) := by decide +kernel
theorem dX5_tripsOn_4 : decode cX5_tripsOn 4 = .ok (.iload_n 2, 1) := by decide +kernel
theorem dX5_tripsOn_5 : decode cX5_tripsOn 5 = .ok (.iaload, 1) := by decide +kernel
theorem dX5_tripsOn_6 : decode cX5_tripsOn 6 = .ok (.istore_n 3, 1) := by decide +kernel
theorem dX5_tripsOn_7 : decode cX5_tripsOn 7 = .ok (.iload_n 3, 1) := by decide +kernel
theorem dX5_tripsOn_8 : decode cX5_tripsOn 8 = .ok (.iconst 5, 1) := by decide +kernel
theorem dX5_tripsOn_9 : decode cX5_tripsOn 9 = .ok (.if_icmp .ne 25, 3) := by decide +kernel
theorem dX5_tripsOn_12 : decode cX5_tripsOn 12 = .ok (.aload_n 1, 1) := by decide +kernel
theorem dX5_tripsOn_13 : decode cX5_tripsOn 13 = .ok (.iconst 0, 1) := by decide +kernel
theorem dX5_tripsOn_14 : decode cX5_tripsOn 14 = .ok (.iaload, 1) := by decide +kernel
theorem dX5_tripsOn_15 : decode cX5_tripsOn 15 = .ok (.iconst 4, 1) := by decide +kernel
theorem dX5_tripsOn_16 : decode cX5_tripsOn 16 = .ok (.irem, 1) := by decide +kernel
theorem dX5_tripsOn_17 : decode cX5_tripsOn 17 = .ok (.ifCond .ne 17, 3) := by decide +kernel
theorem dX5_tripsOn_20 : decode cX5_tripsOn 20 = .ok (.aload_n 1, 1) := by decide +kernel
theorem dX5_tripsOn_21 : decode cX5_tripsOn 21 = .ok (.bipush 19, 2) := by decide +kernel
theorem dX5_tripsOn_23 : decode cX5_tripsOn 23 = .ok (.iload_n 2, 1) := by decide +kernel
theorem dX5_tripsOn_24 : decode cX5_tripsOn 24 = .ok (.iadd, 1) := by decide +kernel
theorem dX5_tripsOn_25 : decode cX5_tripsOn 25 = .ok (.aload_n 1, 1) := by decide +kernel
theorem dX5_tripsOn_26 : decode cX5_tripsOn 26 = .ok (.iconst 5, 1) := by decide +kernel
theorem dX5_tripsOn_27 : decode cX5_tripsOn 27 = .ok (.iload_n 2, 1) := by decide +kernel
theorem dX5_tripsOn_28 : decode cX5_tripsOn 28 = .ok (.iadd, 1) := by decide +kernel
theorem dX5_tripsOn_29 : decode cX5_tripsOn 29 = .ok (.iaload, 1) := by decide +kernel
theorem dX5_tripsOn_30 : decode cX5_tripsOn 30 = .ok (.iconst 1, 1) := by decide +kernel
theorem dX5_tripsOn_31 : decode cX5_tripsOn 31 = .ok (.isub, 1) := by decide +kernel
theorem dX5_tripsOn_32 : decode cX5_tripsOn 32 = .ok (.iastore, 1) := by decide +kernel
theorem dX5_tripsOn_33 : decode cX5_tripsOn 33 = .ok (.return_, 1) := by decide +kernel
theorem dX5_tripsOn_34 : decode cX5_tripsOn 34 = .ok (.aload_n 1, 1) := by decide +kernel
theorem dX5_tripsOn_35 : decode cX5_tripsOn 35 = .ok (.bipush 12, 2) := by decide +kernel
theorem dX5_tripsOn_37 : decode cX5_tripsOn 37 = .ok (.iload_n 2, 1) := by decide +kernel
theorem dX5_tripsOn_38 : decode cX5_tripsOn 38 = .ok (.iadd, 1) := by decide +kernel
theorem dX5_tripsOn_39 : decode cX5_tripsOn 39 = .ok (.iconst 1, 1) := by decide +kernel
theorem dX5_tripsOn_40 : decode cX5_tripsOn 40 = .ok (.iastore, 1) := by decide +kernel
theorem dX5_tripsOn_41 : decode cX5_tripsOn 41 = .ok (.aload_n 1, 1) := by decide +kernel
theorem dX5_tripsOn_42 : decode cX5_tripsOn 42 = .ok (.bipush 26, 2) := by decide +kernel
theorem dX5_tripsOn_44 : decode cX5_tripsOn 44 = .ok (.iload_n 2, 1) := by decide +kernel
theorem dX5_tripsOn_45 : decode cX5_tripsOn 45 = .ok (.iadd, 1) := by decide +kernel
theorem dX5_tripsOn_46 : decode cX5_tripsOn 46 = .ok (.aload_n 1, 1) := by decide +kernel
theorem dX5_tripsOn_47 : decode cX5_tripsOn 47 = .ok (.bipush 33, 2) := by decide +kernel
theorem dX5_tripsOn_49 : decode cX5_tripsOn 49 = .ok (.iload_n 2, 1) := by decide +kernel
theorem dX5_tripsOn_50 : decode cX5_tripsOn 50 = .ok (.iadd, 1) := by decide +kernel
theorem dX5_tripsOn_51 : decode cX5_tripsOn 51 = .ok (.iaload, 1) := by decide +kernel
theorem dX5_tripsOn_52 : decode cX5_tripsOn 52 = .ok (.iastore, 1) := by decide +kernel
theorem dX5_tripsOn_53 : decode cX5_tripsOn 53 = .ok (.aload_n 1, 1) := by decide +kernel
theorem dX5_tripsOn_54 : decode cX5_tripsOn 54 = .ok (.bipush 19, 2) := by decide +kernel
theorem dX5_tripsOn_56 : decode cX5_tripsOn 56 = .ok (.iload_n 2, 1) := by decide +kernel
theorem dX5_tripsOn_57 : decode cX5_tripsOn 57 = .ok (.iadd, 1) := by decide +kernel
theorem dX5_tripsOn_58 : decode cX5_tripsOn 58 = .ok (.iconst 0, 1) := by decide +kernel
theorem dX5_tripsOn_59 : decode cX5_tripsOn 59 = .ok (.iastore, 1) := by decide +kernel
theorem dX5_tripsOn_60 : decode cX5_tripsOn 60 = .ok (.aload_n 0, 1) := by decide +kernel
theorem dX5_tripsOn_61 : decode cX5_tripsOn 61 = .ok (.dup, 1) := by decide +kernel
theorem dX5_tripsOn_62 : decode cX5_tripsOn 62 = .ok (.getfield 129, 3) := by decide +kernel
theorem dX5_tripsOn_65 : decode cX5_tripsOn 65 = .ok (.iconst 1, 1) := by decide +kernel
theorem dX5_tripsOn_66 : decode cX5_tripsOn 66 = .ok (.iload_n 2, 1) := by decide +kernel
theorem dX5_tripsOn_67 : decode cX5_tripsOn 67 = .ok (.ishl, 1) := by decide +kernel
theorem dX5_tripsOn_68 : decode cX5_tripsOn 68 = .ok (.ior, 1) := by decide +kernel
theorem dX5_tripsOn_69 : decode cX5_tripsOn 69 = .ok (.putfield 129, 3) := by decide +kernel
theorem dX5_tripsOn_72 : decode cX5_tripsOn 72 = .ok (.iload_n 3, 1) := by decide +kernel
theorem dX5_tripsOn_73 : decode cX5_tripsOn 73 = .ok (.iconst 2, 1) := by decide +kernel
theorem dX5_tripsOn_74 : decode cX5_tripsOn 74 = .ok (.if_icmp .eq 8, 3) := by decide +kernel
theorem dX5_tripsOn_77 : decode cX5_tripsOn 77 = .ok (.iload_n 3, 1) := by decide +kernel
theorem dX5_tripsOn_78 : decode cX5_tripsOn 78 = .ok (.iconst 5, 1) := by decide +kernel
theorem dX5_tripsOn_79 : decode cX5_tripsOn 79 = .ok (.if_icmp .ne 33, 3) := by decide +kernel
theorem dX5_tripsOn_82 : decode cX5_tripsOn 82 = .ok (.aload_n 1, 1) := by decide +kernel
theorem dX5_tripsOn_83 : decode cX5_tripsOn 83 = .ok (.bipush 33, 2) := by decide +kernel
theorem dX5_tripsOn_85 : decode cX5_tripsOn 85 = .ok (.iload_n 2, 1) := by decide +kernel
theorem dX5_tripsOn_86 : decode cX5_tripsOn 86 = .ok (.iadd, 1) := by decide +kernel
theorem dX5_tripsOn_87 : decode cX5_tripsOn 87 = .ok (.aload_n 1, 1) := by decide +kernel
theorem dX5_tripsOn_88 : decode cX5_tripsOn 88 = .ok (.bipush 33, 2) := by decide +kernel
theorem dX5_tripsOn_90 : decode cX5_tripsOn 90 = .ok (.iload_n 2, 1) := by decide +kernel
theorem dX5_tripsOn_91 : decode cX5_tripsOn 91 = .ok (.iadd, 1) := by decide +kernel
theorem dX5_tripsOn_92 : decode cX5_tripsOn 92 = .ok (.iaload, 1) := by decide +kernel
theorem dX5_tripsOn_93 : decode cX5_tripsOn 93 = .ok (.bipush 20, 2) := by decide +kernel
theorem dX5_tripsOn_95 : decode cX5_tripsOn 95 = .ok (.if_icmp .le 8, 3) := by decide +kernel
theorem dX5_tripsOn_98 : decode cX5_tripsOn 98 = .ok (.bipush 40, 2) := by decide +kernel
theorem dX5_tripsOn_100 : decode cX5_tripsOn 100 = .ok (.goto 11, 3) := by decide +kernel
theorem dX5_tripsOn_103 : decode cX5_tripsOn 103 = .ok (.iconst 2, 1) := by decide +kernel
theorem dX5_tripsOn_104 : decode cX5_tripsOn 104 = .ok (.aload_n 1, 1) := by decide +kernel
theorem dX5_tripsOn_105 : decode cX5_tripsOn 105 = .ok (.bipush 33, 2) := by decide +kernel
theorem dX5_tripsOn_107 : decode cX5_tripsOn 107 = .ok (.iload_n 2, 1) := by decide +kernel
theorem dX5_tripsOn_108 : decode cX5_tripsOn 108 = .ok (.iadd, 1) := by decide +kernel
theorem dX5_tripsOn_109 : decode cX5_tripsOn 109 = .ok (.iaload, 1) := by decide +kernel
theorem dX5_tripsOn_110 : decode cX5_tripsOn 110 = .ok (.imul, 1) := by decide +kernel
theorem dX5_tripsOn_111 : decode cX5_tripsOn 111 = .ok (.iastore, 1) := by decide +kernel
theorem dX5_tripsOn_112 : decode cX5_tripsOn 112 = .ok (.return_, 1) := by decide +kernel
theorem dX5_isAnswered_0 : decode cX5_isAnswered 0 = .ok (.aload_n 0, 1) := by decide +kernel
theorem dX5_isAnswered_1 : decode cX5_isAnswered 1 = .ok (.getfield 34, 3) := by decide +kernel
theorem dX5_isAnswered_4 : decode cX5_isAnswered 4 = .ok (.iload_n 2, 1) := by decide +kernel
theorem dX5_isAnswered_5 : decode cX5_isAnswered 5 = .ok (.iaload, 1) := by decide +kernel
theorem dX5_isAnswered_6 : decode cX5_isAnswered 6 = .ok (.istore_n 3, 1) := by decide +kernel
theorem dX5_isAnswered_7 : decode cX5_isAnswered 7 = .ok (.aload_n 0, 1) := by decide +kernel
theorem dX5_isAnswered_8 : decode cX5_isAnswered 8 = .ok (.dup, 1) := by decide +kernel
theorem dX5_isAnswered_9 : decode cX5_isAnswered 9 = .ok (.getfield 132, 3) := by decide +kernel
theorem dX5_isAnswered_12 : decode cX5_isAnswered 12 = .ok (.iconst 1, 1) := by decide +kernel
theorem dX5_isAnswered_13 : decode cX5_isAnswered 13 = .ok (.iload_n 2, 1) := by decide +kernel
theorem dX5_isAnswered_14 : decode cX5_isAnswered 14 = .ok (.ishl, 1) := by decide +kernel
theorem dX5_isAnswered_15 : decode cX5_isAnswered 15 = .ok (.ior, 1) := by decide +kernel
theorem dX5_isAnswered_16 : decode cX5_isAnswered 16 = .ok (.putfield 132, 3) := by decide +kernel
theorem dX5_isAnswered_19 : decode cX5_isAnswered 19 = .ok (.iload_n 3, 1) := by decide +kernel
theorem dX5_isAnswered_20 : decode cX5_isAnswered 20 = .ok (.iconst 1, 1) := by decide +kernel
theorem dX5_isAnswered_21 : decode cX5_isAnswered 21 = .ok (.if_icmp .eq 8, 3) := by decide +kernel
theorem dX5_isAnswered_24 : decode cX5_isAnswered 24 = .ok (.iload_n 3, 1) := by decide +kernel
theorem dX5_isAnswered_25 : decode cX5_isAnswered 25 = .ok (.iconst 4, 1) := by decide +kernel
theorem dX5_isAnswered_26 : decode cX5_isAnswered 26 = .ok (.if_icmp .ne 38, 3) := by decide +kernel
theorem dX5_isAnswered_29 : decode cX5_isAnswered 29 = .ok (.aload_n 1, 1) := by decide +kernel
theorem dX5_isAnswered_30 : decode cX5_isAnswered 30 = .ok (.bipush 12, 2) := by decide +kernel
theorem dX5_isAnswered_32 : decode cX5_isAnswered 32 = .ok (.iload_n 2, 1) := by decide +kernel
theorem dX5_isAnswered_33 : decode cX5_isAnswered 33 = .ok (.iadd, 1) := by decide +kernel
theorem dX5_isAnswered_34 : decode cX5_isAnswered 34 = .ok (.iaload, 1) := by decide +kernel
theorem dX5_isAnswered_35 : decode cX5_isAnswered 35 = .ok (.ifCond .ne 29, 3) := by decide +kernel
theorem dX5_isAnswered_38 : decode cX5_isAnswered 38 = .ok (.aload_n 1, 1) := by decide +kernel
theorem dX5_isAnswered_39 : decode cX5_isAnswered 39 = .ok (.bipush 19, 2) := by decide +kernel
theorem dX5_isAnswered_41 : decode cX5_isAnswered 41 = .ok (.iload_n 2, 1) := by decide +kernel
theorem dX5_isAnswered_42 : decode cX5_isAnswered 42 = .ok (.iadd, 1) := by decide +kernel
theorem dX5_isAnswered_43 : decode cX5_isAnswered 43 = .ok (.dup2, 1) := by decide +kernel
theorem dX5_isAnswered_44 : decode cX5_isAnswered 44 = .ok (.iaload, 1) := by decide +kernel
theorem dX5_isAnswered_45 : decode cX5_isAnswered 45 = .ok (.aload_n 1, 1) := by decide +kernel
theorem dX5_isAnswered_46 : decode cX5_isAnswered 46 = .ok (.bipush 19, 2) := by decide +kernel
theorem dX5_isAnswered_48 : decode cX5_isAnswered 48 = .ok (.iload_n 2, 1) := by decide +kernel
theorem dX5_isAnswered_49 : decode cX5_isAnswered 49 = .ok (.iadd, 1) := by decide +kernel
theorem dX5_isAnswered_50 : decode cX5_isAnswered 50 = .ok (.iaload, 1) := by decide +kernel
theorem dX5_isAnswered_51 : decode cX5_isAnswered 51 = .ok (.ifCond .le 7, 3) := by decide +kernel
theorem dX5_isAnswered_54 : decode cX5_isAnswered 54 = .ok (.iconst 1, 1) := by decide +kernel
theorem dX5_isAnswered_55 : decode cX5_isAnswered 55 = .ok (.goto 4, 3) := by decide +kernel
theorem dX5_isAnswered_58 : decode cX5_isAnswered 58 = .ok (.iconst 0, 1) := by decide +kernel
theorem dX5_isAnswered_59 : decode cX5_isAnswered 59 = .ok (.isub, 1) := by decide +kernel
theorem dX5_isAnswered_60 : decode cX5_isAnswered 60 = .ok (.iastore, 1) := by decide +kernel
theorem dX5_isAnswered_61 : decode cX5_isAnswered 61 = .ok (.goto 17, 3) := by decide +kernel
theorem dX5_isAnswered_64 : decode cX5_isAnswered 64 = .ok (.aload_n 1, 1) := by decide +kernel
theorem dX5_isAnswered_65 : decode cX5_isAnswered 65 = .ok (.bipush 12, 2) := by decide +kernel
theorem dX5_isAnswered_67 : decode cX5_isAnswered 67 = .ok (.iload_n 2, 1) := by decide +kernel
theorem dX5_isAnswered_68 : decode cX5_isAnswered 68 = .ok (.iadd, 1) := by decide +kernel
theorem dX5_isAnswered_69 : decode cX5_isAnswered 69 = .ok (.iconst 0, 1) := by decide +kernel
theorem dX5_isAnswered_70 : decode cX5_isAnswered 70 = .ok (.iastore, 1) := by decide +kernel
theorem dX5_isAnswered_71 : decode cX5_isAnswered 71 = .ok (.aload_n 1, 1) := by decide +kernel
theorem dX5_isAnswered_72 : decode cX5_isAnswered 72 = .ok (.bipush 19, 2) := by decide +kernel
theorem dX5_isAnswered_74 : decode cX5_isAnswered 74 = .ok (.iload_n 2, 1) := by decide +kernel
theorem dX5_isAnswered_75 : decode cX5_isAnswered 75 = .ok (.iadd, 1) := by decide +kernel
theorem dX5_isAnswered_76 : decode cX5_isAnswered 76 = .ok (.iconst 0, 1) := by decide +kernel
theorem dX5_isAnswered_77 : decode cX5_isAnswered 77 = .ok (.iastore, 1) := by decide +kernel
theorem dX5_isAnswered_78 : decode cX5_isAnswered 78 = .ok (.return_, 1) := by decide +kernel
theorem dX5_hasFault_0 : decode cX5_hasFault 0 = .ok (.aload_n 1, 1) := by decide +kernel
theorem dX5_hasFault_1 : decode cX5_hasFault 1 = .ok (.bipush 12, 2) := by decide +kernel
theorem dX5_hasFault_3 : decode cX5_hasFault 3 = .ok (.iload_n 2, 1) := by decide +kernel
theorem dX5_hasFault_4 : decode cX5_hasFault 4 = .ok (.iadd, 1) := by decide +kernel
theorem dX5_hasFault_5 : decode cX5_hasFault 5 = .ok (.iaload, 1) := by decide +kernel
theorem dX5_hasFault_6 : decode cX5_hasFault 6 = .ok (.iconst 2, 1) := by decide +kernel
theorem dX5_hasFault_7 : decode cX5_hasFault 7 = .ok (.if_icmp .ne 12, 3) := by decide +kernel
theorem dX5_hasFault_10 : decode cX5_hasFault 10 = .ok (.aload_n 0, 1) := by decide +kernel
theorem dX5_hasFault_11 : decode cX5_hasFault 11 = .ok (.aload_n 1, 1) := by decide +kernel
theorem dX5_hasFault_12 : decode cX5_hasFault 12 = .ok (.iload_n 2, 1) := by decide +kernel
theorem dX5_hasFault_13 : decode cX5_hasFault 13 = .ok (.invokevirtual 135, 3) := by decide +kernel
theorem dX5_hasFault_16 : decode cX5_hasFault 16 = .ok (.goto 33, 3) := by decide +kernel
theorem dX5_hasFault_19 : decode cX5_hasFault 19 = .ok (.aload_n 1, 1) := by decide +kernel
theorem dX5_hasFault_20 : decode cX5_hasFault 20 = .ok (.bipush 19, 2) := by decide +kernel
theorem dX5_hasFault_22 : decode cX5_hasFault 22 = .ok (.iload_n 2, 1) := by decide +kernel
theorem dX5_hasFault_23 : decode cX5_hasFault 23 = .ok (.iadd, 1) := by decide +kernel
theorem dX5_hasFault_24 : decode cX5_hasFault 24 = .ok (.dup2, 1) := by decide +kernel
theorem dX5_hasFault_25 : decode cX5_hasFault 25 = .ok (.iaload, 1) := by decide +kernel
theorem dX5_hasFault_26 : decode cX5_hasFault 26 = .ok (.iconst 1, 1) := by decide +kernel
theorem dX5_hasFault_27 : decode cX5_hasFault 27 = .ok (.iadd, 1) := by decide +kernel
theorem dX5_hasFault_28 : decode cX5_hasFault 28 = .ok (.iastore, 1) := by decide +kernel
theorem dX5_hasFault_29 : decode cX5_hasFault 29 = .ok (.aload_n 1, 1) := by decide +kernel
theorem dX5_hasFault_30 : decode cX5_hasFault 30 = .ok (.bipush 19, 2) := by decide +kernel
theorem dX5_hasFault_32 : decode cX5_hasFault 32 = .ok (.iload_n 2, 1) := by decide +kernel
theorem dX5_hasFault_33 : decode cX5_hasFault 33 = .ok (.iadd, 1) := by decide +kernel
theorem dX5_hasFault_34 : decode cX5_hasFault 34 = .ok (.iaload, 1) := by decide +kernel
theorem dX5_hasFault_35 : decode cX5_hasFault 35 = .ok (.aload_n 1, 1) := by decide +kernel
theorem dX5_hasFault_36 : decode cX5_hasFault 36 = .ok (.iconst 5, 1) := by decide +kernel
theorem dX5_hasFault_37 : decode cX5_hasFault 37 = .ok (.iload_n 2, 1) := by decide +kernel
theorem dX5_hasFault_38 : decode cX5_hasFault 38 = .ok (.iadd, 1) := by decide +kernel
theorem dX5_hasFault_39 : decode cX5_hasFault 39 = .ok (.iaload, 1) := by decide +kernel
theorem dX5_hasFault_40 : decode cX5_hasFault 40 = .ok (.if_icmp .lt 9, 3) := by decide +kernel
theorem dX5_hasFault_43 : decode cX5_hasFault 43 = .ok (.aload_n 0, 1) := by decide +kernel
theorem dX5_hasFault_44 : decode cX5_hasFault 44 = .ok (.aload_n 1, 1) := by decide +kernel
theorem dX5_hasFault_45 : decode cX5_hasFault 45 = .ok (.iload_n 2, 1) := by decide +kernel
theorem dX5_hasFault_46 : decode cX5_hasFault 46 = .ok (.invokevirtual 135, 3) := by decide +kernel
theorem dX5_hasFault_49 : decode cX5_hasFault 49 = .ok (.return_, 1) := by decide +kernel
theorem dX5_isAtRest_0 : decode cX5_isAtRest 0 = .ok (.aload_n 1, 1) := by decide +kernel
theorem dX5_isAtRest_1 : decode cX5_isAtRest 1 = .ok (.bipush 26, 2) := by decide +kernel
theorem dX5_isAtRest_3 : decode cX5_isAtRest 3 = .ok (.iload_n 2, 1) := by decide +kernel
theorem dX5_isAtRest_4 : decode cX5_isAtRest 4 = .ok (.iadd, 1) := by decide +kernel
theorem dX5_isAtRest_5 : decode cX5_isAtRest 5 = .ok (.dup2, 1) := by decide +kernel
theorem dX5_isAtRest_6 : decode cX5_isAtRest 6 = .ok (.iaload, 1) := by decide +kernel
theorem dX5_isAtRest_7 : decode cX5_isAtRest 7 = .ok (.iconst 1, 1) := by decide +kernel
theorem dX5_isAtRest_8 : decode cX5_isAtRest 8 = .ok (.isub, 1) := by decide +kernel
theorem dX5_isAtRest_9 : decode cX5_isAtRest 9 = .ok (.iastore, 1) := by decide +kernel
theorem dX5_isAtRest_10 : decode cX5_isAtRest 10 = .ok (.aload_n 1, 1) := by decide +kernel
theorem dX5_isAtRest_11 : decode cX5_isAtRest 11 = .ok (.bipush 26, 2) := by decide +kernel
theorem dX5_isAtRest_13 : decode cX5_isAtRest 13 = .ok (.iload_n 2, 1) := by decide +kernel
theorem dX5_isAtRest_14 : decode cX5_isAtRest 14 = .ok (.iadd, 1) := by decide +kernel
theorem dX5_isAtRest_15 : decode cX5_isAtRest 15 = .ok (.iaload, 1) := by decide +kernel
theorem dX5_isAtRest_16 : decode cX5_isAtRest 16 = .ok (.ifCond .ne 55, 3) := by decide +kernel
theorem dX5_isAtRest_19 : decode cX5_isAtRest 19 = .ok (.aload_n 0, 1) := by decide +kernel
theorem dX5_isAtRest_20 : decode cX5_isAtRest 20 = .ok (.getfield 34, 3) := by decide +kernel
theorem dX5_isAtRest_23 : decode cX5_isAtRest 23 = .ok (.iload_n 2, 1) := by decide +kernel
theorem dX5_isAtRest_24 : decode cX5_isAtRest 24 = .ok (.iaload, 1) := by decide +kernel
theorem dX5_isAtRest_25 : decode cX5_isAtRest 25 = .ok (.iconst 3, 1) := by decide +kernel
theorem dX5_isAtRest_26 : decode cX5_isAtRest 26 = .ok (.if_icmp .ne 7, 3) := by decide +kernel
theorem dX5_isAtRest_29 : decode cX5_isAtRest 29 = .ok (.iconst 1, 1) := by decide +kernel
theorem dX5_isAtRest_30 : decode cX5_isAtRest 30 = .ok (.goto 4, 3) := by decide +kernel
theorem dX5_isAtRest_33 : decode cX5_isAtRest 33 = .ok (.iconst 0, 1) := by decide +kernel
theorem dX5_isAtRest_34 : decode cX5_isAtRest 34 = .ok (.istore_n 3, 1) := by decide +kernel
theorem dX5_isAtRest_35 : decode cX5_isAtRest 35 = .ok (.aload_n 1, 1) := by decide +kernel
theorem dX5_isAtRest_36 : decode cX5_isAtRest 36 = .ok (.bipush 12, 2) := by decide +kernel
theorem dX5_isAtRest_38 : decode cX5_isAtRest 38 = .ok (.iload_n 2, 1) := by decide +kernel
theorem dX5_isAtRest_39 : decode cX5_isAtRest 39 = .ok (.iadd, 1) := by decide +kernel
theorem dX5_isAtRest_40 : decode cX5_isAtRest 40 = .ok (.iload_n 3, 1) := by decide +kernel
theorem dX5_isAtRest_41 : decode cX5_isAtRest 41 = .ok (.ifCond .eq 7, 3) := by decide +kernel
theorem dX5_isAtRest_44 : decode cX5_isAtRest 44 = .ok (.iconst 0, 1) := by decide +kernel
theorem dX5_isAtRest_45 : decode cX5_isAtRest 45 = .ok (.goto 4, 3) := by decide +kernel
theorem dX5_isAtRest_48 : decode cX5_isAtRest 48 = .ok (.iconst 2, 1) := by decide +kernel
theorem dX5_isAtRest_49 : decode cX5_isAtRest 49 = .ok (.iastore, 1) := by decide +kernel
theorem dX5_isAtRest_50 : decode cX5_isAtRest 50 = .ok (.aload_n 1, 1) := by decide +kernel
theorem dX5_isAtRest_51 : decode cX5_isAtRest 51 = .ok (.bipush 19, 2) := by decide +kernel
theorem dX5_isAtRest_53 : decode cX5_isAtRest 53 = .ok (.iload_n 2, 1) := by decide +kernel
theorem dX5_isAtRest_54 : decode cX5_isAtRest 54 = .ok (.iadd, 1) := by decide +kernel
theorem dX5_isAtRest_55 : decode cX5_isAtRest 55 = .ok (.iload_n 3, 1) := by decide +kernel
theorem dX5_isAtRest_56 : decode cX5_isAtRest 56 = .ok (.ifCond .eq 13, 3) := by decide +kernel
theorem dX5_isAtRest_59 : decode cX5_isAtRest 59 = .ok (.aload_n 1, 1) := by decide +kernel
theorem dX5_isAtRest_60 : decode cX5_isAtRest 60 = .ok (.iconst 5, 1) := by decide +kernel
theorem dX5_isAtRest_61 : decode cX5_isAtRest 61 = .ok (.iload_n 2, 1) := by decide +kernel
theorem dX5_isAtRest_62 : decode cX5_isAtRest 62 = .ok (.iadd, 1) := by decide +kernel
theorem dX5_isAtRest_63 : decode cX5_isAtRest 63 = .ok (.iaload, 1) := by decide +kernel
theorem dX5_isAtRest_64 : decode cX5_isAtRest 64 = .ok (.iconst 1, 1) := by decide +kernel
theorem dX5_isAtRest_65 : decode cX5_isAtRest 65 = .ok (.isub, 1) := by decide +kernel
theorem dX5_isAtRest_66 : decode cX5_isAtRest 66 = .ok (.goto 4, 3) := by decide +kernel
theorem dX5_isAtRest_69 : decode cX5_isAtRest 69 = .ok (.iconst 0, 1) := by decide +kernel
theorem dX5_isAtRest_70 : decode cX5_isAtRest 70 = .ok (.iastore, 1) := by decide +kernel
theorem dX5_isAtRest_71 : decode cX5_isAtRest 71 = .ok (.return_, 1) := by decide +kernel
theorem dX5_isUp_0 : decode cX5_isUp 0 = .ok (.aload_n 1, 1) := by decide +kernel
theorem dX5_isUp_1 : decode cX5_isUp 1 = .ok (.iconst 3, 1) := by decide +kernel
theorem dX5_isUp_2 : decode cX5_isUp 2 = .ok (.iaload, 1) := by decide +kernel
theorem dX5_isUp_3 : decode cX5_isUp 3 = .ok (.aload_n 1, 1) := by decide +kernel
theorem dX5_isUp_4 : decode cX5_isUp 4 = .ok (.iconst 0, 1) := by decide +kernel
theorem dX5_isUp_5 : decode cX5_isUp 5 = .ok (.iaload, 1) := by decide +kernel
theorem dX5_isUp_6 : decode cX5_isUp 6 = .ok (.bipush 8, 2) := by decide +kernel
theorem dX5_isUp_8 : decode cX5_isUp 8 = .ok (.irem, 1) := by decide +kernel
theorem dX5_isUp_9 : decode cX5_isUp 9 = .ok (.invokestatic 139, 3) := by decide +kernel
theorem dX5_isUp_12 : decode cX5_isUp 12 = .ok (.ireturn, 1) := by decide +kernel
theorem dX5_whoCalls_0 : decode cX5_whoCalls 0 = .ok (.iconst 0, 1) := by decide +kernel
theorem dX5_whoCalls_1 : decode cX5_whoCalls 1 = .ok (.istore_n 3, 1) := by decide +kernel
theorem dX5_whoCalls_2 : decode cX5_whoCalls 2 = .ok (.iconst 0, 1) := by decide +kernel
theorem dX5_whoCalls_3 : decode cX5_whoCalls 3 = .ok (.istore 4, 2) := by decide +kernel
theorem dX5_whoCalls_5 : decode cX5_whoCalls 5 = .ok (.iload 4, 2) := by decide +kernel
theorem dX5_whoCalls_7 : decode cX5_whoCalls 7 = .ok (.aload_n 0, 1) := by decide +kernel
theorem dX5_whoCalls_8 : decode cX5_whoCalls 8 = .ok (.getfield 115, 3) := by decide +kernel
theorem dX5_whoCalls_11 : decode cX5_whoCalls 11 = .ok (.if_icmp .ge 71, 3) := by decide +kernel
theorem dX5_whoCalls_14 : decode cX5_whoCalls 14 = .ok (.aload_n 1, 1) := by decide +kernel
theorem dX5_whoCalls_15 : decode cX5_whoCalls 15 = .ok (.bipush 12, 2) := by decide +kernel
theorem dX5_whoCalls_17 : decode cX5_whoCalls 17 = .ok (.iload 4, 2) := by decide +kernel
theorem dX5_whoCalls_19 : decode cX5_whoCalls 19 = .ok (.iadd, 1) := by decide +kernel
theorem dX5_whoCalls_20 : decode cX5_whoCalls 20 = .ok (.iaload, 1) := by decide +kernel
theorem dX5_whoCalls_21 : decode cX5_whoCalls 21 = .ok (.iconst 1, 1) := by decide +kernel
theorem dX5_whoCalls_22 : decode cX5_whoCalls 22 = .ok (.if_icmp .eq 26, 3) := by decide +kernel
theorem dX5_whoCalls_25 : decode cX5_whoCalls 25 = .ok (.aload_n 0, 1) := by decide +kernel
theorem dX5_whoCalls_26 : decode cX5_whoCalls 26 = .ok (.getfield 34, 3) := by decide +kernel
theorem dX5_whoCalls_29 : decode cX5_whoCalls 29 = .ok (.iload 4, 2) := by decide +kernel
theorem dX5_whoCalls_31 : decode cX5_whoCalls 31 = .ok (.iaload, 1) := by decide +kernel
theorem dX5_whoCalls_32 : decode cX5_whoCalls 32 = .ok (.iconst 4, 1) := by decide +kernel
theorem dX5_whoCalls_33 : decode cX5_whoCalls 33 = .ok (.if_icmp .ne 11, 3) := by decide +kernel
theorem dX5_whoCalls_36 : decode cX5_whoCalls 36 = .ok (.aload_n 1, 1) := by decide +kernel
theorem dX5_whoCalls_37 : decode cX5_whoCalls 37 = .ok (.iconst 0, 1) := by decide +kernel
theorem dX5_whoCalls_38 : decode cX5_whoCalls 38 = .ok (.iaload, 1) := by decide +kernel
theorem dX5_whoCalls_39 : decode cX5_whoCalls 39 = .ok (.iconst 2, 1) := by decide +kernel
theorem dX5_whoCalls_40 : decode cX5_whoCalls 40 = .ok (.irem, 1) := by decide +kernel
theorem dX5_whoCalls_41 : decode cX5_whoCalls 41 = .ok (.ifCond .ne 7, 3) := by decide +kernel
theorem dX5_whoCalls_44 : decode cX5_whoCalls 44 = .ok (.iconst 1, 1) := by decide +kernel
theorem dX5_whoCalls_45 : decode cX5_whoCalls 45 = .ok (.goto 4, 3) := by decide +kernel
theorem dX5_whoCalls_48 : decode cX5_whoCalls 48 = .ok (.iconst 0, 1) := by decide +kernel
theorem dX5_whoCalls_49 : decode cX5_whoCalls 49 = .ok (.istore 5, 2) := by decide +kernel
theorem dX5_whoCalls_51 : decode cX5_whoCalls 51 = .ok (.iload_n 3, 1) := by decide +kernel
theorem dX5_whoCalls_52 : decode cX5_whoCalls 52 = .ok (.iload 5, 2) := by decide +kernel
theorem dX5_whoCalls_54 : decode cX5_whoCalls 54 = .ok (.ifCond .eq 19, 3) := by decide +kernel
theorem dX5_whoCalls_57 : decode cX5_whoCalls 57 = .ok (.iload_n 2, 1) := by decide +kernel
theorem dX5_whoCalls_58 : decode cX5_whoCalls 58 = .ok (.iload 4, 2) := by decide +kernel
theorem dX5_whoCalls_60 : decode cX5_whoCalls 60 = .ok (.invokestatic 139, 3) := by decide +kernel
theorem dX5_whoCalls_63 : decode cX5_whoCalls 63 = .ok (.ifCond .ne 10, 3) := by decide +kernel
theorem dX5_whoCalls_66 : decode cX5_whoCalls 66 = .ok (.iconst 1, 1) := by decide +kernel
theorem dX5_whoCalls_67 : decode cX5_whoCalls 67 = .ok (.iload 4, 2) := by decide +kernel
theorem dX5_whoCalls_69 : decode cX5_whoCalls 69 = .ok (.ishl, 1) := by decide +kernel
theorem dX5_whoCalls_70 : decode cX5_whoCalls 70 = .ok (.goto 4, 3) := by decide +kernel
theorem dX5_whoCalls_73 : decode cX5_whoCalls 73 = .ok (.iconst 0, 1) := by decide +kernel
theorem dX5_whoCalls_74 : decode cX5_whoCalls 74 = .ok (.ior, 1) := by decide +kernel
theorem dX5_whoCalls_75 : decode cX5_whoCalls 75 = .ok (.istore_n 3, 1) := by decide +kernel
theorem dX5_whoCalls_76 : decode cX5_whoCalls 76 = .ok (.iinc 4 1, 3) := by decide +kernel
theorem dX5_whoCalls_79 : decode cX5_whoCalls 79 = .ok (.goto (-74), 3) := by decide +kernel
theorem dX5_whoCalls_82 : decode cX5_whoCalls 82 = .ok (.iload_n 3, 1) := by decide +kernel
theorem dX5_whoCalls_83 : decode cX5_whoCalls 83 = .ok (.ireturn, 1) := by decide +kernel
theorem dX5_goes_0 : decode cX5_goes 0 = .ok (.aload_n 0, 1) := by decide +kernel
theorem dX5_goes_1 : decode cX5_goes 1 = .ok (.aload_n 1, 1) := by decide +kernel
theorem dX5_goes_2 : decode cX5_goes 2 = .ok (.iload_n 2, 1) := by decide +kernel
theorem dX5_goes_3 : decode cX5_goes 3 = .ok (.invokevirtual 142, 3) := by decide +kernel
theorem dX5_goes_6 : decode cX5_goes 6 = .ok (.istore 4, 2) := by decide +kernel
theorem dX5_goes_8 : decode cX5_goes 8 = .ok (.iload_n 3, 1) := by decide +kernel
theorem dX5_goes_9 : decode cX5_goes 9 = .ok (.ifCond .eq 18, 3) := by decide +kernel
theorem dX5_goes_12 : decode cX5_goes 12 = .ok (.iload 4, 2) := by decide +kernel
theorem dX5_goes_14 : decode cX5_goes 14 = .ok (.invokestatic 146, 3) := by decide +kernel
theorem dX5_goes_17 : decode cX5_goes 17 = .ok (.aload_n 1, 1) := by decide +kernel
theorem dX5_goes_18 : decode cX5_goes 18 = .ok (.iconst 4, 1) := by decide +kernel
theorem dX5_goes_19 : decode cX5_goes 19 = .ok (.iaload, 1) := by decide +kernel
theorem dX5_goes_20 : decode cX5_goes 20 = .ok (.if_icmp .gt 7, 3) := by decide +kernel
theorem dX5_goes_23 : decode cX5_goes 23 = .ok (.iconst 1, 1) := by decide +kernel
theorem dX5_goes_24 : decode cX5_goes 24 = .ok (.goto 4, 3) := by decide +kernel
theorem dX5_goes_27 : decode cX5_goes 27 = .ok (.iconst 0, 1) := by decide +kernel
theorem dX5_goes_28 : decode cX5_goes 28 = .ok (.istore 5, 2) := by decide +kernel
theorem dX5_goes_30 : decode cX5_goes 30 = .ok (.aload_n 0, 1) := by decide +kernel
theorem dX5_goes_31 : decode cX5_goes 31 = .ok (.iconst 0, 1) := by decide +kernel
theorem dX5_goes_32 : decode cX5_goes 32 = .ok (.putfield 132, 3) := by decide +kernel
theorem dX5_goes_35 : decode cX5_goes 35 = .ok (.aload_n 0, 1) := by decide +kernel
theorem dX5_goes_36 : decode cX5_goes 36 = .ok (.iconst 0, 1) := by decide +kernel
theorem dX5_goes_37 : decode cX5_goes 37 = .ok (.putfield 129, 3) := by decide +kernel
theorem dX5_goes_40 : decode cX5_goes 40 = .ok (.iconst 0, 1) := by decide +kernel
theorem dX5_goes_41 : decode cX5_goes 41 = .ok (.istore 6, 2) := by decide +kernel
theorem dX5_goes_43 : decode cX5_goes 43 = .ok (.iload 6, 2) := by decide +kernel
theorem dX5_goes_45 : decode cX5_goes 45 = .ok (.aload_n 0, 1) := by decide +kernel
theorem dX5_goes_46 : decode cX5_goes 46 = .ok (.getfield 115, 3) := by decide +kernel
theorem dX5_goes_49 : decode cX5_goes 49 = .ok (.if_icmp .ge 81, 3) := by decide +kernel
theorem dX5_goes_52 : decode cX5_goes 52 = .ok (.iload 4, 2) := by decide +kernel
theorem dX5_goes_54 : decode cX5_goes 54 = .ok (.iload 6, 2) := by decide +kernel
theorem dX5_goes_56 : decode cX5_goes 56 = .ok (.invokestatic 139, 3) := by decide +kernel
theorem dX5_goes_59 : decode cX5_goes 59 = .ok (.ifCond .eq 18, 3) := by decide +kernel
theorem dX5_goes_62 : decode cX5_goes 62 = .ok (.iload 5, 2) := by decide +kernel
theorem dX5_goes_64 : decode cX5_goes 64 = .ok (.ifCond .eq 13, 3) := by decide +kernel
theorem dX5_goes_67 : decode cX5_goes 67 = .ok (.aload_n 0, 1) := by decide +kernel
theorem dX5_goes_68 : decode cX5_goes 68 = .ok (.aload_n 1, 1) := by decide +kernel
theorem dX5_goes_69 : decode cX5_goes 69 = .ok (.iload 6, 2) := by decide +kernel
theorem dX5_goes_71 : decode cX5_goes 71 = .ok (.invokevirtual 149, 3) := by decide +kernel
theorem dX5_goes_74 : decode cX5_goes 74 = .ok (.goto 50, 3) := by decide +kernel
theorem dX5_goes_77 : decode cX5_goes 77 = .ok (.iload 4, 2) := by decide +kernel
theorem dX5_goes_79 : decode cX5_goes 79 = .ok (.iload 6, 2) := by decide +kernel
theorem dX5_goes_81 : decode cX5_goes 81 = .ok (.invokestatic 139, 3) := by decide +kernel
theorem dX5_goes_84 : decode cX5_goes 84 = .ok (.ifCond .eq 13, 3) := by decide +kernel
theorem dX5_goes_87 : decode cX5_goes 87 = .ok (.aload_n 0, 1) := by decide +kernel
theorem dX5_goes_88 : decode cX5_goes 88 = .ok (.aload_n 1, 1) := by decide +kernel
theorem dX5_goes_89 : decode cX5_goes 89 = .ok (.iload 6, 2) := by decide +kernel
theorem dX5_goes_91 : decode cX5_goes 91 = .ok (.invokevirtual 152, 3) := by decide +kernel
theorem dX5_goes_94 : decode cX5_goes 94 = .ok (.goto 30, 3) := by decide +kernel
theorem dX5_goes_97 : decode cX5_goes 97 = .ok (.aload_n 1, 1) := by decide +kernel
theorem dX5_goes_98 : decode cX5_goes 98 = .ok (.bipush 12, 2) := by decide +kernel
theorem dX5_goes_100 : decode cX5_goes 100 = .ok (.iload 6, 2) := by decide +kernel
theorem dX5_goes_102 : decode cX5_goes 102 = .ok (.iadd, 1) := by decide +kernel
theorem dX5_goes_103 : decode cX5_goes 103 = .ok (.iaload, 1) := by decide +kernel
theorem dX5_goes_104 : decode cX5_goes 104 = .ok (.iconst 1, 1) := by decide +kernel
theorem dX5_goes_105 : decode cX5_goes 105 = .ok (.if_icmp .ne 19, 3) := by decide +kernel
theorem dX5_goes_108 : decode cX5_goes 108 = .ok (.iload_n 2, 1) := by decide +kernel
theorem dX5_goes_109 : decode cX5_goes 109 = .ok (.iload 6, 2) := by decide +kernel
theorem dX5_goes_111 : decode cX5_goes 111 = .ok (.invokestatic 139, 3) := by decide +kernel
theorem dX5_goes_114 : decode cX5_goes 114 = .ok (.ifCond .ne 10, 3) := by decide +kernel
theorem dX5_goes_117 : decode cX5_goes 117 = .ok (.aload_n 0, 1) := by decide +kernel
theorem dX5_goes_118 : decode cX5_goes 118 = .ok (.aload_n 1, 1) := by decide +kernel
theorem dX5_goes_119 : decode cX5_goes 119 = .ok (.iload 6, 2) := by decide +kernel
theorem dX5_goes_121 : decode cX5_goes 121 = .ok (.invokevirtual 155, 3) := by decide +kernel
theorem dX5_goes_124 : decode cX5_goes 124 = .ok (.iinc 6 1, 3) := by decide +kernel
theorem dX5_goes_127 : decode cX5_goes 127 = .ok (.goto (-84), 3) := by decide +kernel
theorem dX5_goes_130 : decode cX5_goes 130 = .ok (.aload_n 1, 1) := by decide +kernel
theorem dX5_goes_131 : decode cX5_goes 131 = .ok (.iload 5, 2) := by decide +kernel
theorem dX5_goes_133 : decode cX5_goes 133 = .ok (.ifCond .eq 7, 3) := by decide +kernel
theorem dX5_goes_136 : decode cX5_goes 136 = .ok (.iconst 1, 1) := by decide +kernel
theorem dX5_goes_137 : decode cX5_goes 137 = .ok (.goto 4, 3) := by decide +kernel
theorem dX5_goes_140 : decode cX5_goes 140 = .ok (.iconst 2, 1) := by decide +kernel
theorem dX5_goes_141 : decode cX5_goes 141 = .ok (.dup2, 1) := by decide +kernel
theorem dX5_goes_142 : decode cX5_goes 142 = .ok (.iaload, 1) := by decide +kernel
theorem dX5_goes_143 : decode cX5_goes 143 = .ok (.iload 4, 2) := by decide +kernel
theorem dX5_goes_145 : decode cX5_goes 145 = .ok (.invokestatic 146, 3) := by decide +kernel
theorem dX5_goes_148 : decode cX5_goes 148 = .ok (.iadd, 1) := by decide +kernel
theorem dX5_goes_149 : decode cX5_goes 149 = .ok (.iastore, 1) := by decide +kernel
theorem dX5_goes_150 : decode cX5_goes 150 = .ok (.aload_n 1, 1) := by decide +kernel
theorem dX5_goes_151 : decode cX5_goes 151 = .ok (.iconst 0, 1) := by decide +kernel
theorem dX5_goes_152 : decode cX5_goes 152 = .ok (.dup2, 1) := by decide +kernel
theorem dX5_goes_153 : decode cX5_goes 153 = .ok (.iaload, 1) := by decide +kernel
theorem dX5_goes_154 : decode cX5_goes 154 = .ok (.iconst 1, 1) := by decide +kernel
theorem dX5_goes_155 : decode cX5_goes 155 = .ok (.iadd, 1) := by decide +kernel
theorem dX5_goes_156 : decode cX5_goes 156 = .ok (.iastore, 1) := by decide +kernel
theorem dX5_goes_157 : decode cX5_goes 157 = .ok (.aload_n 0, 1) := by decide +kernel
theorem dX5_goes_158 : decode cX5_goes 158 = .ok (.getfield 132, 3) := by decide +kernel
theorem dX5_goes_161 : decode cX5_goes 161 = .ok (.invokestatic 146, 3) := by decide +kernel
theorem dX5_goes_164 : decode cX5_goes 164 = .ok (.ireturn, 1) := by decide +kernel
theorem dX5_asKinds_0 : decode cX5_asKinds 0 = .ok (.aload_n 0, 1) := by decide +kernel
theorem dX5_asKinds_1 : decode cX5_asKinds 1 = .ok (.getfield 22, 3) := by decide +kernel
theorem dX5_asKinds_4 : decode cX5_asKinds 4 = .ok (.iconst 0, 1) := by decide +kernel
theorem dX5_asKinds_5 : decode cX5_asKinds 5 = .ok (.aload_n 0, 1) := by decide +kernel
theorem dX5_asKinds_6 : decode cX5_asKinds 6 = .ok (.getfield 34, 3) := by decide +kernel
theorem dX5_asKinds_9 : decode cX5_asKinds 9 = .ok (.iconst 0, 1) := by decide +kernel
theorem dX5_asKinds_10 : decode cX5_asKinds 10 = .ok (.bipush 7, 2) := by decide +kernel
theorem dX5_asKinds_12 : decode cX5_asKinds 12 = .ok (.invokestatic 118, 3) := by decide +kernel
theorem dX5_asKinds_15 : decode cX5_asKinds 15 = .ok (.return_, 1) := by decide +kernel
theorem dX5_laysAside_0 : decode cX5_laysAside 0 = .ok (.aload_n 0, 1) := by decide +kernel
theorem dX5_laysAside_1 : decode cX5_laysAside 1 = .ok (.getfield 28, 3) := by decide +kernel
theorem dX5_laysAside_4 : decode cX5_laysAside 4 = .ok (.iconst 0, 1) := by decide +kernel
theorem dX5_laysAside_5 : decode cX5_laysAside 5 = .ok (.aload_n 0, 1) := by decide +kernel
theorem dX5_laysAside_6 : decode cX5_laysAside 6 = .ok (.getfield 31, 3) := by decide +kernel
theorem dX5_laysAside_9 : decode cX5_laysAside 9 = .ok (.iconst 0, 1) := by decide +kernel
theorem dX5_laysAside_10 : decode cX5_laysAside 10 = .ok (.bipush 40, 2) := by decide +kernel
theorem dX5_laysAside_12 : decode cX5_laysAside 12 = .ok (.invokestatic 118, 3) := by decide +kernel
theorem dX5_laysAside_15 : decode cX5_laysAside 15 = .ok (.return_, 1) := by decide +kernel
theorem dX5_goesOn_0 : decode cX5_goesOn 0 = .ok (.iconst 0, 1) := by decide +kernel
theorem dX5_goesOn_1 : decode cX5_goesOn 1 = .ok (.istore_n 3, 1) := by decide +kernel
theorem dX5_goesOn_2 : decode cX5_goesOn 2 = .ok (.iconst 0, 1) := by decide +kernel
theorem dX5_goesOn_3 : decode cX5_goesOn 3 = .ok (.istore 4, 2) := by decide +kernel
theorem dX5_goesOn_5 : decode cX5_goesOn 5 = .ok (.iload 4, 2) := by decide +kernel
theorem dX5_goesOn_7 : decode cX5_goesOn 7 = .ok (.iload_n 1, 1) := by decide +kernel
theorem dX5_goesOn_8 : decode cX5_goesOn 8 = .ok (.if_icmp .ge 29, 3) := by decide +kernel
theorem dX5_goesOn_11 : decode cX5_goesOn 11 = .ok (.iload_n 3, 1) := by decide +kernel
theorem dX5_goesOn_12 : decode cX5_goesOn 12 = .ok (.aload_n 0, 1) := by decide +kernel
theorem dX5_goesOn_13 : decode cX5_goesOn 13 = .ok (.aload_n 0, 1) := by decide +kernel
theorem dX5_goesOn_14 : decode cX5_goesOn 14 = .ok (.getfield 31, 3) := by decide +kernel
theorem dX5_goesOn_17 : decode cX5_goesOn 17 = .ok (.iload_n 2, 1) := by decide +kernel
theorem dX5_goesOn_18 : decode cX5_goesOn 18 = .ok (.aload_n 0, 1) := by decide +kernel
theorem dX5_goesOn_19 : decode cX5_goesOn 19 = .ok (.aload_n 0, 1) := by decide +kernel
theorem dX5_goesOn_20 : decode cX5_goesOn 20 = .ok (.getfield 31, 3) := by decide +kernel
theorem dX5_goesOn_23 : decode cX5_goesOn 23 = .ok (.invokevirtual 158, 3) := by decide +kernel
theorem dX5_goesOn_26 : decode cX5_goesOn 26 = .ok (.invokevirtual 162, 3) := by decide +kernel
theorem dX5_goesOn_29 : decode cX5_goesOn 29 = .ok (.iadd, 1) := by decide +kernel
theorem dX5_goesOn_30 : decode cX5_goesOn 30 = .ok (.istore_n 3, 1) := by decide +kernel
theorem dX5_goesOn_31 : decode cX5_goesOn 31 = .ok (.iinc 4 1, 3) := by decide +kernel
theorem dX5_goesOn_34 : decode cX5_goesOn 34 = .ok (.goto (-29), 3) := by decide +kernel
theorem dX5_goesOn_37 : decode cX5_goesOn 37 = .ok (.iload_n 3, 1) := by decide +kernel
theorem dX5_goesOn_38 : decode cX5_goesOn 38 = .ok (.ireturn, 1) := by decide +kernel
theorem dX5_caller_0 : decode cX5_caller 0 = .ok (.aload_n 0, 1) := by decide +kernel
theorem dX5_caller_1 : decode cX5_caller 1 = .ok (.iload_n 1, 1) := by decide +kernel
theorem dX5_caller_2 : decode cX5_caller 2 = .ok (.invokevirtual 166, 3) := by decide +kernel
theorem dX5_caller_5 : decode cX5_caller 5 = .ok (.ifCond .ne 5, 3) := by decide +kernel
theorem dX5_caller_8 : decode cX5_caller 8 = .ok (.iconst (-1), 1) := by decide +kernel
theorem dX5_caller_9 : decode cX5_caller 9 = .ok (.ireturn, 1) := by decide +kernel
theorem dX5_caller_10 : decode cX5_caller 10 = .ok (.iload_n 2, 1) := by decide +kernel
theorem dX5_caller_11 : decode cX5_caller 11 = .ok (.tableswitch 132 0 6 #[41, 52, 65, 76, 90, 104, 118], 41) := by decide +kernel
theorem dX5_caller_52 : decode cX5_caller 52 = .ok (.aload_n 0, 1) := by decide +kernel
theorem dX5_caller_53 : decode cX5_caller 53 = .ok (.aload_n 0, 1) := by decide +kernel
theorem dX5_caller_54 : decode cX5_caller 54 = .ok (.getfield 22, 3) := by decide +kernel
theorem dX5_caller_57 : decode cX5_caller 57 = .ok (.iload_n 1, 1) := by decide +kernel
theorem dX5_caller_58 : decode cX5_caller 58 = .ok (.iaload, 1) := by decide +kernel
theorem dX5_caller_59 : decode cX5_caller 59 = .ok (.invokevirtual 89, 3) := by decide +kernel
theorem dX5_caller_62 : decode cX5_caller 62 = .ok (.ireturn, 1) := by decide +kernel
theorem dX5_caller_63 : decode cX5_caller 63 = .ok (.aload_n 0, 1) := by decide +kernel
theorem dX5_caller_64 : decode cX5_caller 64 = .ok (.aload_n 0, 1) := by decide +kernel
theorem dX5_caller_65 : decode cX5_caller 65 = .ok (.getfield 28, 3) := by decide +kernel
theorem dX5_caller_68 : decode cX5_caller 68 = .ok (.iconst 5, 1) := by decide +kernel
theorem dX5_caller_69 : decode cX5_caller 69 = .ok (.iload_n 1, 1) := by decide +kernel
theorem dX5_caller_70 : decode cX5_caller 70 = .ok (.iadd, 1) := by decide +kernel
theorem dX5_caller_71 : decode cX5_caller 71 = .ok (.iaload, 1) := by decide +kernel
theorem dX5_caller_72 : decode cX5_caller 72 = .ok (.invokevirtual 89, 3) := by decide +kernel
theorem dX5_caller_75 : decode cX5_caller 75 = .ok (.ireturn, 1) := by decide +kernel
theorem dX5_caller_76 : decode cX5_caller 76 = .ok (.aload_n 0, 1) := by decide +kernel
theorem dX5_caller_77 : decode cX5_caller 77 = .ok (.aload_n 0, 1) := by decide +kernel
theorem dX5_caller_78 : decode cX5_caller 78 = .ok (.getfield 25, 3) := by decide +kernel
theorem dX5_caller_81 : decode cX5_caller 81 = .ok (.iload_n 1, 1) := by decide +kernel
theorem dX5_caller_82 : decode cX5_caller 82 = .ok (.iaload, 1) := by decide +kernel
theorem dX5_caller_83 : decode cX5_caller 83 = .ok (.invokevirtual 89, 3) := by decide +kernel
theorem dX5_caller_86 : decode cX5_caller 86 = .ok (.ireturn, 1) := by decide +kernel
theorem dX5_caller_87 : decode cX5_caller 87 = .ok (.aload_n 0, 1) := by decide +kernel
theorem dX5_caller_88 : decode cX5_caller 88 = .ok (.aload_n 0, 1) := by decide +kernel
theorem dX5_caller_89 : decode cX5_caller 89 = .ok (.getfield 28, 3) := by decide +kernel
theorem dX5_caller_92 : decode cX5_caller 92 = .ok (.bipush 12, 2) := by decide +kernel
theorem dX5_caller_94 : decode cX5_caller 94 = .ok (.iload_n 1, 1) := by decide +kernel
theorem dX5_caller_95 : decode cX5_caller 95 = .ok (.iadd, 1) := by decide +kernel
theorem dX5_caller_96 : decode cX5_caller 96 = .ok (.iaload, 1) := by decide +kernel
theorem dX5_caller_97 : decode cX5_caller 97 = .ok (.invokevirtual 89, 3) := by decide +kernel
theorem dX5_caller_100 : decode cX5_caller 100 = .ok (.ireturn, 1) := by decide +kernel
theorem dX5_caller_101 : decode cX5_caller 101 = .ok (.aload_n 0, 1) := by decide +kernel
theorem dX5_caller_102 : decode cX5_caller 102 = .ok (.aload_n 0, 1) := by decide +kernel
theorem dX5_caller_103 : decode cX5_caller 103 = .ok (.getfield 28, 3) := by decide +kernel
theorem dX5_caller_106 : decode cX5_caller 106 = .ok (.bipush 19, 2) := by decide +kernel
theorem dX5_caller_108 : decode cX5_caller 108 = .ok (.iload_n 1, 1) := by decide +kernel
theorem dX5_caller_109 : decode cX5_caller 109 = .ok (.iadd, 1) := by decide +kernel
theorem dX5_caller_110 : decode cX5_caller 110 = .ok (.iaload, 1) := by decide +kernel
theorem dX5_caller_111 : decode cX5_caller 111 = .ok (.invokevirtual 89, 3) := by decide +kernel
theorem dX5_caller_114 : decode cX5_caller 114 = .ok (.ireturn, 1) := by decide +kernel
theorem dX5_caller_115 : decode cX5_caller 115 = .ok (.aload_n 0, 1) := by decide +kernel
theorem dX5_caller_116 : decode cX5_caller 116 = .ok (.aload_n 0, 1) := by decide +kernel
theorem dX5_caller_117 : decode cX5_caller 117 = .ok (.getfield 28, 3) := by decide +kernel
theorem dX5_caller_120 : decode cX5_caller 120 = .ok (.bipush 26, 2) := by decide +kernel
theorem dX5_caller_122 : decode cX5_caller 122 = .ok (.iload_n 1, 1) := by decide +kernel
theorem dX5_caller_123 : decode cX5_caller 123 = .ok (.iadd, 1) := by decide +kernel
theorem dX5_caller_124 : decode cX5_caller 124 = .ok (.iaload, 1) := by decide +kernel
theorem dX5_caller_125 : decode cX5_caller 125 = .ok (.invokevirtual 89, 3) := by decide +kernel
theorem dX5_caller_128 : decode cX5_caller 128 = .ok (.ireturn, 1) := by decide +kernel
theorem dX5_caller_129 : decode cX5_caller 129 = .ok (.aload_n 0, 1) := by decide +kernel
theorem dX5_caller_130 : decode cX5_caller 130 = .ok (.aload_n 0, 1) := by decide +kernel
theorem dX5_caller_131 : decode cX5_caller 131 = .ok (.getfield 28, 3) := by decide +kernel
theorem dX5_caller_134 : decode cX5_caller 134 = .ok (.bipush 33, 2) := by decide +kernel
theorem dX5_caller_136 : decode cX5_caller 136 = .ok (.iload_n 1, 1) := by decide +kernel
theorem dX5_caller_137 : decode cX5_caller 137 = .ok (.iadd, 1) := by decide +kernel
theorem dX5_caller_138 : decode cX5_caller 138 = .ok (.iaload, 1) := by decide +kernel
theorem dX5_caller_139 : decode cX5_caller 139 = .ok (.invokevirtual 89, 3) := by decide +kernel
theorem dX5_caller_142 : decode cX5_caller 142 = .ok (.ireturn, 1) := by decide +kernel
theorem dX5_caller_143 : decode cX5_caller 143 = .ok (.iconst (-1), 1) := by decide +kernel
theorem dX5_caller_144 : decode cX5_caller 144 = .ok (.ireturn, 1) := by decide +kernel
theorem dX5_mark_0 : decode cX5_mark 0 = .ok (.aload_n 0, 1) := by decide +kernel
theorem dX5_mark_1 : decode cX5_mark 1 = .ok (.iload_n 1, 1) := by decide +kernel
theorem dX5_mark_2 : decode cX5_mark 2 = .ok (.invokevirtual 166, 3) := by decide +kernel
theorem dX5_mark_5 : decode cX5_mark 5 = .ok (.ifCond .eq 15, 3) := by decide +kernel
theorem dX5_mark_8 : decode cX5_mark 8 = .ok (.iload_n 2, 1) := by decide +kernel
theorem dX5_mark_9 : decode cX5_mark 9 = .ok (.i2l, 1) := by decide +kernel
theorem dX5_mark_10 : decode cX5_mark 10 = .ok (.lconst 1, 1) := by decide +kernel
theorem dX5_mark_11 : decode cX5_mark 11 = .ok (.ldc2_w 73, 3) := by decide +kernel
theorem dX5_mark_14 : decode cX5_mark 14 = .ok (.invokestatic 75, 3) := by decide +kernel
theorem dX5_mark_17 : decode cX5_mark 17 = .ok (.ifCond .ne 5, 3) := by decide +kernel
theorem dX5_mark_20 : decode cX5_mark 20 = .ok (.iconst (-1), 1) := by decide +kernel
theorem dX5_mark_21 : decode cX5_mark 21 = .ok (.ireturn, 1) := by decide +kernel
theorem dX5_mark_22 : decode cX5_mark 22 = .ok (.aload_n 0, 1) := by decide +kernel
theorem dX5_mark_23 : decode cX5_mark 23 = .ok (.getfield 22, 3) := by decide +kernel
theorem dX5_mark_26 : decode cX5_mark 26 = .ok (.iload_n 1, 1) := by decide +kernel
theorem dX5_mark_27 : decode cX5_mark 27 = .ok (.iaload, 1) := by decide +kernel
theorem dX5_mark_28 : decode cX5_mark 28 = .ok (.istore_n 3, 1) := by decide +kernel
theorem dX5_mark_29 : decode cX5_mark 29 = .ok (.iload_n 3, 1) := by decide +kernel
theorem dX5_mark_30 : decode cX5_mark 30 = .ok (.iload_n 2, 1) := by decide +kernel
theorem dX5_mark_31 : decode cX5_mark 31 = .ok (.if_icmp .eq 29, 3) := by decide +kernel
theorem dX5_mark_34 : decode cX5_mark 34 = .ok (.iload_n 2, 1) := by decide +kernel
theorem dX5_mark_35 : decode cX5_mark 35 = .ok (.iconst 1, 1) := by decide +kernel
theorem dX5_mark_36 : decode cX5_mark 36 = .ok (.if_icmp .ne 8, 3) := by decide +kernel
theorem dX5_mark_39 : decode cX5_mark 39 = .ok (.iload_n 3, 1) := by decide +kernel
theorem dX5_mark_40 : decode cX5_mark 40 = .ok (.iconst 4, 1) := by decide +kernel
theorem dX5_mark_41 : decode cX5_mark 41 = .ok (.if_icmp .eq 19, 3) := by decide +kernel
theorem dX5_mark_44 : decode cX5_mark 44 = .ok (.iload_n 2, 1) := by decide +kernel
theorem dX5_mark_45 : decode cX5_mark 45 = .ok (.iconst 2, 1) := by decide +kernel
theorem dX5_mark_46 : decode cX5_mark 46 = .ok (.if_icmp .ne 8, 3) := by decide +kernel
theorem dX5_mark_49 : decode cX5_mark 49 = .ok (.iload_n 3, 1) := by decide +kernel
theorem dX5_mark_50 : decode cX5_mark 50 = .ok (.iconst 5, 1) := by decide +kernel
theorem dX5_mark_51 : decode cX5_mark 51 = .ok (.if_icmp .eq 9, 3) := by decide +kernel
theorem dX5_mark_54 : decode cX5_mark 54 = .ok (.aload_n 0, 1) := by decide +kernel
theorem dX5_mark_55 : decode cX5_mark 55 = .ok (.iconst 3, 1) := by decide +kernel
theorem dX5_mark_56 : decode cX5_mark 56 = .ok (.invokevirtual 85, 3) := by decide +kernel
theorem dX5_mark_59 : decode cX5_mark 59 = .ok (.ireturn, 1) := by decide +kernel
theorem dX5_mark_60 : decode cX5_mark 60 = .ok (.iload_n 2, 1) := by decide +kernel
theorem dX5_mark_61 : decode cX5_mark 61 = .ok (.tableswitch 117 1 4 #[31, 59, 76, 87], 31) := by decide +kernel
theorem dX5_mark_92 : decode cX5_mark 92 = .ok (.aload_n 0, 1) := by decide +kernel
theorem dX5_mark_93 : decode cX5_mark 93 = .ok (.getfield 28, 3) := by decide +kernel
theorem dX5_mark_96 : decode cX5_mark 96 = .ok (.bipush 19, 2) := by decide +kernel
theorem dX5_mark_98 : decode cX5_mark 98 = .ok (.iload_n 1, 1) := by decide +kernel
theorem dX5_mark_99 : decode cX5_mark 99 = .ok (.iadd, 1) := by decide +kernel
theorem dX5_mark_100 : decode cX5_mark 100 = .ok (.iaload, 1) := by decide +kernel
theorem dX5_mark_101 : decode cX5_mark 101 = .ok (.ifCond .le 17, 3) := by decide +kernel
theorem dX5_mark_104 : decode cX5_mark 104 = .ok (.aload_n 0, 1) := by decide +kernel
theorem dX5_mark_105 : decode cX5_mark 105 = .ok (.getfield 28, 3) := by decide +kernel
theorem dX5_mark_108 : decode cX5_mark 108 = .ok (.bipush 19, 2) := by decide +kernel
theorem dX5_mark_110 : decode cX5_mark 110 = .ok (.iload_n 1, 1) := by decide +kernel
theorem dX5_mark_111 : decode cX5_mark 111 = .ok (.iadd, 1) := by decide +kernel
theorem dX5_mark_112 : decode cX5_mark 112 = .ok (.iaload, 1) := by decide +kernel
theorem dX5_mark_113 : decode cX5_mark 113 = .ok (.iconst 1, 1) := by decide +kernel
theorem dX5_mark_114 : decode cX5_mark 114 = .ok (.isub, 1) := by decide +kernel
theorem dX5_mark_115 : decode cX5_mark 115 = .ok (.goto 4, 3) := by decide +kernel
theorem dX5_mark_118 : decode cX5_mark 118 = .ok (.iconst 0, 1) := by decide +kernel
theorem dX5_mark_119 : decode cX5_mark 119 = .ok (.ireturn, 1) := by decide +kernel
theorem dX5_mark_120 : decode cX5_mark 120 = .ok (.aload_n 0, 1) := by decide +kernel
theorem dX5_mark_121 : decode cX5_mark 121 = .ok (.getfield 28, 3) := by decide +kernel
theorem dX5_mark_124 : decode cX5_mark 124 = .ok (.bipush 33, 2) := by decide +kernel
theorem dX5_mark_126 : decode cX5_mark 126 = .ok (.iload_n 1, 1) := by decide +kernel
theorem dX5_mark_127 : decode cX5_mark 127 = .ok (.iadd, 1) := by decide +kernel
theorem dX5_mark_128 : decode cX5_mark 128 = .ok (.iaload, 1) := by decide +kernel
theorem dX5_mark_129 : decode cX5_mark 129 = .ok (.aload_n 0, 1) := by decide +kernel
theorem dX5_mark_130 : decode cX5_mark 130 = .ok (.getfield 25, 3) := by decide +kernel
theorem dX5_mark_133 : decode cX5_mark 133 = .ok (.iload_n 1, 1) := by decide +kernel
theorem dX5_mark_134 : decode cX5_mark 134 = .ok (.iaload, 1) := by decide +kernel
theorem dX5_mark_135 : decode cX5_mark 135 = .ok (.isub, 1) := by decide +kernel
theorem dX5_mark_136 : decode cX5_mark 136 = .ok (.ireturn, 1) := by decide +kernel
theorem dX5_mark_137 : decode cX5_mark 137 = .ok (.aload_n 0, 1) := by decide +kernel
theorem dX5_mark_138 : decode cX5_mark 138 = .ok (.getfield 28, 3) := by decide +kernel
theorem dX5_mark_141 : decode cX5_mark 141 = .ok (.iconst 5, 1) := by decide +kernel
theorem dX5_mark_142 : decode cX5_mark 142 = .ok (.iload_n 1, 1) := by decide +kernel
theorem dX5_mark_143 : decode cX5_mark 143 = .ok (.iadd, 1) := by decide +kernel
theorem dX5_mark_144 : decode cX5_mark 144 = .ok (.iaload, 1) := by decide +kernel
theorem dX5_mark_145 : decode cX5_mark 145 = .ok (.iconst 1, 1) := by decide +kernel
theorem dX5_mark_146 : decode cX5_mark 146 = .ok (.isub, 1) := by decide +kernel
theorem dX5_mark_147 : decode cX5_mark 147 = .ok (.ireturn, 1) := by decide +kernel
theorem dX5_mark_148 : decode cX5_mark 148 = .ok (.aload_n 0, 1) := by decide +kernel
theorem dX5_mark_149 : decode cX5_mark 149 = .ok (.getfield 28, 3) := by decide +kernel
theorem dX5_mark_152 : decode cX5_mark 152 = .ok (.bipush 12, 2) := by decide +kernel
theorem dX5_mark_154 : decode cX5_mark 154 = .ok (.iload_n 1, 1) := by decide +kernel
theorem dX5_mark_155 : decode cX5_mark 155 = .ok (.iadd, 1) := by decide +kernel
theorem dX5_mark_156 : decode cX5_mark 156 = .ok (.iaload, 1) := by decide +kernel
theorem dX5_mark_157 : decode cX5_mark 157 = .ok (.iconst 1, 1) := by decide +kernel
theorem dX5_mark_158 : decode cX5_mark 158 = .ok (.if_icmp .eq 18, 3) := by decide +kernel
theorem dX5_mark_161 : decode cX5_mark 161 = .ok (.aload_n 0, 1) := by decide +kernel
theorem dX5_mark_162 : decode cX5_mark 162 = .ok (.getfield 28, 3) := by decide +kernel
theorem dX5_mark_165 : decode cX5_mark 165 = .ok (.iconst 0, 1) := by decide +kernel
theorem dX5_mark_166 : decode cX5_mark 166 = .ok (.iaload, 1) := by decide +kernel
theorem dX5_mark_167 : decode cX5_mark 167 = .ok (.iconst 2, 1) := by decide +kernel
theorem dX5_mark_168 : decode cX5_mark 168 = .ok (.irem, 1) := by decide +kernel
theorem dX5_mark_169 : decode cX5_mark 169 = .ok (.ifCond .ne 7, 3) := by decide +kernel
theorem dX5_mark_172 : decode cX5_mark 172 = .ok (.iconst 1, 1) := by decide +kernel
theorem dX5_mark_173 : decode cX5_mark 173 = .ok (.goto 4, 3) := by decide +kernel
theorem dX5_mark_176 : decode cX5_mark 176 = .ok (.iconst 0, 1) := by decide +kernel
theorem dX5_mark_177 : decode cX5_mark 177 = .ok (.ireturn, 1) := by decide +kernel
theorem dX5_mark_178 : decode cX5_mark 178 = .ok (.iconst 4, 1) := by decide +kernel
theorem dX5_mark_179 : decode cX5_mark 179 = .ok (.aload_n 0, 1) := by decide +kernel
theorem dX5_mark_180 : decode cX5_mark 180 = .ok (.getfield 28, 3) := by decide +kernel
theorem dX5_mark_183 : decode cX5_mark 183 = .ok (.iconst 0, 1) := by decide +kernel
theorem dX5_mark_184 : decode cX5_mark 184 = .ok (.iaload, 1) := by decide +kernel
theorem dX5_mark_185 : decode cX5_mark 185 = .ok (.iconst 4, 1) := by decide +kernel
theorem dX5_mark_186 : decode cX5_mark 186 = .ok (.irem, 1) := by decide +kernel
theorem dX5_mark_187 : decode cX5_mark 187 = .ok (.isub, 1) := by decide +kernel
theorem dX5_mark_188 : decode cX5_mark 188 = .ok (.iconst 4, 1) := by decide +kernel
theorem dX5_mark_189 : decode cX5_mark 189 = .ok (.irem, 1) := by decide +kernel
theorem dX5_mark_190 : decode cX5_mark 190 = .ok (.ireturn, 1) := by decide +kernel
theorem dX5_up_0 : decode cX5_up 0 = .ok (.iload_n 1, 1) := by decide +kernel
theorem dX5_up_1 : decode cX5_up 1 = .ok (.i2l, 1) := by decide +kernel
theorem dX5_up_2 : decode cX5_up 2 = .ok (.lconst 0, 1) := by decide +kernel
theorem dX5_up_3 : decode cX5_up 3 = .ok (.ldc2_w 169, 3) := by decide +kernel
theorem dX5_up_6 : decode cX5_up 6 = .ok (.invokestatic 75, 3) := by decide +kernel
theorem dX5_up_9 : decode cX5_up 9 = .ok (.ifCond .ne 5, 3) := by decide +kernel
theorem dX5_up_12 : decode cX5_up 12 = .ok (.iconst (-1), 1) := by decide +kernel
theorem dX5_up_13 : decode cX5_up 13 = .ok (.ireturn, 1) := by decide +kernel
theorem dX5_up_14 : decode cX5_up 14 = .ok (.aload_n 0, 1) := by decide +kernel
theorem dX5_up_15 : decode cX5_up 15 = .ok (.getfield 115, 3) := by decide +kernel
theorem dX5_up_18 : decode cX5_up 18 = .ok (.ifCond .le 23, 3) := by decide +kernel
theorem dX5_up_21 : decode cX5_up 21 = .ok (.aload_n 0, 1) := by decide +kernel
theorem dX5_up_22 : decode cX5_up 22 = .ok (.getfield 28, 3) := by decide +kernel
theorem dX5_up_25 : decode cX5_up 25 = .ok (.iconst 3, 1) := by decide +kernel
theorem dX5_up_26 : decode cX5_up 26 = .ok (.iaload, 1) := by decide +kernel
theorem dX5_up_27 : decode cX5_up 27 = .ok (.iload_n 1, 1) := by decide +kernel
theorem dX5_up_28 : decode cX5_up 28 = .ok (.bipush 8, 2) := by decide +kernel
theorem dX5_up_30 : decode cX5_up 30 = .ok (.irem, 1) := by decide +kernel
theorem dX5_up_31 : decode cX5_up 31 = .ok (.invokestatic 139, 3) := by decide +kernel
theorem dX5_up_34 : decode cX5_up 34 = .ok (.ifCond .eq 7, 3) := by decide +kernel
theorem dX5_up_37 : decode cX5_up 37 = .ok (.iconst 1, 1) := by decide +kernel
theorem dX5_up_38 : decode cX5_up 38 = .ok (.goto 4, 3) := by decide +kernel
theorem dX5_up_41 : decode cX5_up 41 = .ok (.iconst 0, 1) := by decide +kernel
theorem dX5_up_42 : decode cX5_up 42 = .ok (.ireturn, 1) := by decide +kernel
theorem dX5_remembers_0 : decode cX5_remembers 0 = .ok (.aload_n 0, 1) := by decide +kernel
theorem dX5_remembers_1 : decode cX5_remembers 1 = .ok (.getfield 28, 3) := by decide +kernel
theorem dX5_remembers_4 : decode cX5_remembers 4 = .ok (.iconst 0, 1) := by decide +kernel
theorem dX5_remembers_5 : decode cX5_remembers 5 = .ok (.aload_n 0, 1) := by decide +kernel
theorem dX5_remembers_6 : decode cX5_remembers 6 = .ok (.getfield 37, 3) := by decide +kernel
theorem dX5_remembers_9 : decode cX5_remembers 9 = .ok (.bipush 40, 2) := by decide +kernel
theorem dX5_remembers_11 : decode cX5_remembers 11 = .ok (.aload_n 0, 1) := by decide +kernel
theorem dX5_remembers_12 : decode cX5_remembers 12 = .ok (.getfield 126, 3) := by decide +kernel
theorem dX5_remembers_15 : decode cX5_remembers 15 = .ok (.imul, 1) := by decide +kernel
theorem dX5_remembers_16 : decode cX5_remembers 16 = .ok (.bipush 40, 2) := by decide +kernel
theorem dX5_remembers_18 : decode cX5_remembers 18 = .ok (.invokestatic 118, 3) := by decide +kernel
theorem dX5_remembers_21 : decode cX5_remembers 21 = .ok (.aload_n 0, 1) := by decide +kernel
theorem dX5_remembers_22 : decode cX5_remembers 22 = .ok (.dup, 1) := by decide +kernel
theorem dX5_remembers_23 : decode cX5_remembers 23 = .ok (.getfield 126, 3) := by decide +kernel
theorem dX5_remembers_26 : decode cX5_remembers 26 = .ok (.iconst 1, 1) := by decide +kernel
theorem dX5_remembers_27 : decode cX5_remembers 27 = .ok (.iadd, 1) := by decide +kernel
theorem dX5_remembers_28 : decode cX5_remembers 28 = .ok (.putfield 126, 3) := by decide +kernel
theorem dX5_remembers_31 : decode cX5_remembers 31 = .ok (.return_, 1) := by decide +kernel
theorem dX5_step_0 : decode cX5_step 0 = .ok (.aload_n 0, 1) := by decide +kernel
theorem dX5_step_1 : decode cX5_step 1 = .ok (.getfield 115, 3) := by decide +kernel
theorem dX5_step_4 : decode cX5_step 4 = .ok (.ifCond .eq 14, 3) := by decide +kernel
theorem dX5_step_7 : decode cX5_step 7 = .ok (.aload_n 0, 1) := by decide +kernel
theorem dX5_step_8 : decode cX5_step 8 = .ok (.getfield 28, 3) := by decide +kernel
theorem dX5_step_11 : decode cX5_step 11 = .ok (.iconst 0, 1) := by decide +kernel
theorem dX5_step_12 : decode cX5_step 12 = .ok (.iaload, 1) := by decide +kernel
theorem dX5_step_13 : decode cX5_step 13 = .ok (.bipush 99, 2) := by decide +kernel
theorem dX5_step_15 : decode cX5_step 15 = .ok (.if_icmp .ne 6, 3) := by decide +kernel
theorem dX5_step_18 : decode cX5_step 18 = .ok (.bipush (-4), 2) := by decide +kernel
theorem dX5_step_20 : decode cX5_step 20 = .ok (.ireturn, 1) := by decide +kernel
theorem dX5_step_21 : decode cX5_step 21 = .ok (.aload_n 0, 1) := by decide +kernel
theorem dX5_step_22 : decode cX5_step 22 = .ok (.getfield 126, 3) := by decide +kernel
theorem dX5_step_25 : decode cX5_step 25 = .ok (.bipush 40, 2) := by decide +kernel
theorem dX5_step_27 : decode cX5_step 27 = .ok (.if_icmp .ne 6, 3) := by decide +kernel
theorem dX5_step_30 : decode cX5_step 30 = .ok (.bipush (-2), 2) := by decide +kernel
theorem dX5_step_32 : decode cX5_step 32 = .ok (.ireturn, 1) := by decide +kernel
theorem dX5_step_33 : decode cX5_step 33 = .ok (.aload_n 0, 1) := by decide +kernel
theorem dX5_step_34 : decode cX5_step 34 = .ok (.invokevirtual 171, 3) := by decide +kernel
theorem dX5_step_37 : decode cX5_step 37 = .ok (.aload_n 0, 1) := by decide +kernel
theorem dX5_step_38 : decode cX5_step 38 = .ok (.invokevirtual 174, 3) := by decide +kernel
theorem dX5_step_41 : decode cX5_step 41 = .ok (.aload_n 0, 1) := by decide +kernel
theorem dX5_step_42 : decode cX5_step 42 = .ok (.aload_n 0, 1) := by decide +kernel
theorem dX5_step_43 : decode cX5_step 43 = .ok (.getfield 28, 3) := by decide +kernel
theorem dX5_step_46 : decode cX5_step 46 = .ok (.iconst 0, 1) := by decide +kernel
theorem dX5_step_47 : decode cX5_step 47 = .ok (.aload_n 0, 1) := by decide +kernel
theorem dX5_step_48 : decode cX5_step 48 = .ok (.aload_n 0, 1) := by decide +kernel
theorem dX5_step_49 : decode cX5_step 49 = .ok (.getfield 28, 3) := by decide +kernel
theorem dX5_step_52 : decode cX5_step 52 = .ok (.invokevirtual 158, 3) := by decide +kernel
theorem dX5_step_55 : decode cX5_step 55 = .ok (.invokevirtual 162, 3) := by decide +kernel
theorem dX5_step_58 : decode cX5_step 58 = .ok (.ireturn, 1) := by decide +kernel
theorem dX5_flip_0 : decode cX5_flip 0 = .ok (.iload_n 1, 1) := by decide +kernel
theorem dX5_flip_1 : decode cX5_flip 1 = .ok (.i2l, 1) := by decide +kernel
theorem dX5_flip_2 : decode cX5_flip 2 = .ok (.lconst 0, 1) := by decide +kernel
theorem dX5_flip_3 : decode cX5_flip 3 = .ok (.ldc2_w 177, 3) := by decide +kernel
theorem dX5_flip_6 : decode cX5_flip 6 = .ok (.invokestatic 75, 3) := by decide +kernel
theorem dX5_flip_9 : decode cX5_flip 9 = .ok (.ifCond .ne 5, 3) := by decide +kernel
theorem dX5_flip_12 : decode cX5_flip 12 = .ok (.iconst (-1), 1) := by decide +kernel
theorem dX5_flip_13 : decode cX5_flip 13 = .ok (.ireturn, 1) := by decide +kernel
theorem dX5_flip_14 : decode cX5_flip 14 = .ok (.aload_n 0, 1) := by decide +kernel
theorem dX5_flip_15 : decode cX5_flip 15 = .ok (.getfield 115, 3) := by decide +kernel
theorem dX5_flip_18 : decode cX5_flip 18 = .ok (.ifCond .ne 6, 3) := by decide +kernel
theorem dX5_flip_21 : decode cX5_flip 21 = .ok (.bipush (-4), 2) := by decide +kernel
theorem dX5_flip_23 : decode cX5_flip 23 = .ok (.ireturn, 1) := by decide +kernel
theorem dX5_flip_24 : decode cX5_flip 24 = .ok (.aload_n 0, 1) := by decide +kernel
theorem dX5_flip_25 : decode cX5_flip 25 = .ok (.getfield 126, 3) := by decide +kernel
theorem dX5_flip_28 : decode cX5_flip 28 = .ok (.bipush 40, 2) := by decide +kernel
theorem dX5_flip_30 : decode cX5_flip 30 = .ok (.if_icmp .ne 6, 3) := by decide +kernel
theorem dX5_flip_33 : decode cX5_flip 33 = .ok (.bipush (-2), 2) := by decide +kernel
theorem dX5_flip_35 : decode cX5_flip 35 = .ok (.ireturn, 1) := by decide +kernel
theorem dX5_flip_36 : decode cX5_flip 36 = .ok (.aload_n 0, 1) := by decide +kernel
theorem dX5_flip_37 : decode cX5_flip 37 = .ok (.invokevirtual 171, 3) := by decide +kernel
theorem dX5_flip_40 : decode cX5_flip 40 = .ok (.aload_n 0, 1) := by decide +kernel
theorem dX5_flip_41 : decode cX5_flip 41 = .ok (.getfield 28, 3) := by decide +kernel
theorem dX5_flip_44 : decode cX5_flip 44 = .ok (.iconst 3, 1) := by decide +kernel
theorem dX5_flip_45 : decode cX5_flip 45 = .ok (.dup2, 1) := by decide +kernel
theorem dX5_flip_46 : decode cX5_flip 46 = .ok (.iaload, 1) := by decide +kernel
theorem dX5_flip_47 : decode cX5_flip 47 = .ok (.iconst 1, 1) := by decide +kernel
theorem dX5_flip_48 : decode cX5_flip 48 = .ok (.iload_n 1, 1) := by decide +kernel
theorem dX5_flip_49 : decode cX5_flip 49 = .ok (.ishl, 1) := by decide +kernel
theorem dX5_flip_50 : decode cX5_flip 50 = .ok (.ixor, 1) := by decide +kernel
theorem dX5_flip_51 : decode cX5_flip 51 = .ok (.iastore, 1) := by decide +kernel
theorem dX5_flip_52 : decode cX5_flip 52 = .ok (.aload_n 0, 1) := by decide +kernel
theorem dX5_flip_53 : decode cX5_flip 53 = .ok (.getfield 28, 3) := by decide +kernel
theorem dX5_flip_56 : decode cX5_flip 56 = .ok (.iconst 3, 1) := by decide +kernel
theorem dX5_flip_57 : decode cX5_flip 57 = .ok (.iaload, 1) := by decide +kernel
theorem dX5_flip_58 : decode cX5_flip 58 = .ok (.invokestatic 146, 3) := by decide +kernel
theorem dX5_flip_61 : decode cX5_flip 61 = .ok (.ireturn, 1) := by decide +kernel
theorem dX5_isNumber_0 : decode cX5_isNumber 0 = .ok (.iload_n 0, 1) := by decide +kernel
theorem dX5_isNumber_1 : decode cX5_isNumber 1 = .ok (.i2l, 1) := by decide +kernel
theorem dX5_isNumber_2 : decode cX5_isNumber 2 = .ok (.lconst 1, 1) := by decide +kernel
theorem dX5_isNumber_3 : decode cX5_isNumber 3 = .ok (.ldc2_w 179, 3) := by decide +kernel
theorem dX5_isNumber_6 : decode cX5_isNumber 6 = .ok (.invokestatic 75, 3) := by decide +kernel
theorem dX5_isNumber_9 : decode cX5_isNumber 9 = .ok (.ireturn, 1) := by decide +kernel
theorem dX5_room_0 : decode cX5_room 0 = .ok (.iload_n 1, 1) := by decide +kernel
theorem dX5_room_1 : decode cX5_room 1 = .ok (.invokestatic 181, 3) := by decide +kernel
theorem dX5_room_4 : decode cX5_room 4 = .ok (.ifCond .ne 5, 3) := by decide +kernel
theorem dX5_room_7 : decode cX5_room 7 = .ok (.iconst (-1), 1) := by decide +kernel
theorem dX5_room_8 : decode cX5_room 8 = .ok (.ireturn, 1) := by decide +kernel
theorem dX5_room_9 : decode cX5_room 9 = .ok (.aload_n 0, 1) := by decide +kernel
theorem dX5_room_10 : decode cX5_room 10 = .ok (.getfield 115, 3) := by decide +kernel
theorem dX5_room_13 : decode cX5_room 13 = .ok (.ifCond .eq 13, 3) := by decide +kernel
theorem dX5_room_16 : decode cX5_room 16 = .ok (.aload_n 0, 1) := by decide +kernel
theorem dX5_room_17 : decode cX5_room 17 = .ok (.getfield 28, 3) := by decide +kernel
theorem dX5_room_20 : decode cX5_room 20 = .ok (.iconst 4, 1) := by decide +kernel
theorem dX5_room_21 : decode cX5_room 21 = .ok (.iaload, 1) := by decide +kernel
theorem dX5_room_22 : decode cX5_room 22 = .ok (.iload_n 1, 1) := by decide +kernel
theorem dX5_room_23 : decode cX5_room 23 = .ok (.if_icmp .ne 6, 3) := by decide +kernel
theorem dX5_room_26 : decode cX5_room 26 = .ok (.bipush (-4), 2) := by decide +kernel
theorem dX5_room_28 : decode cX5_room 28 = .ok (.ireturn, 1) := by decide +kernel
theorem dX5_room_29 : decode cX5_room 29 = .ok (.aload_n 0, 1) := by decide +kernel
theorem dX5_room_30 : decode cX5_room 30 = .ok (.getfield 126, 3) := by decide +kernel
theorem dX5_room_33 : decode cX5_room 33 = .ok (.bipush 40, 2) := by decide +kernel
theorem dX5_room_35 : decode cX5_room 35 = .ok (.if_icmp .ne 6, 3) := by decide +kernel
theorem dX5_room_38 : decode cX5_room 38 = .ok (.bipush (-2), 2) := by decide +kernel
theorem dX5_room_40 : decode cX5_room 40 = .ok (.ireturn, 1) := by decide +kernel
theorem dX5_room_41 : decode cX5_room 41 = .ok (.aload_n 0, 1) := by decide +kernel
theorem dX5_room_42 : decode cX5_room 42 = .ok (.invokevirtual 171, 3) := by decide +kernel
theorem dX5_room_45 : decode cX5_room 45 = .ok (.aload_n 0, 1) := by decide +kernel
theorem dX5_room_46 : decode cX5_room 46 = .ok (.getfield 28, 3) := by decide +kernel
theorem dX5_room_49 : decode cX5_room 49 = .ok (.iconst 4, 1) := by decide +kernel
theorem dX5_room_50 : decode cX5_room 50 = .ok (.iaload, 1) := by decide +kernel
theorem dX5_room_51 : decode cX5_room 51 = .ok (.istore_n 2, 1) := by decide +kernel
theorem dX5_room_52 : decode cX5_room 52 = .ok (.aload_n 0, 1) := by decide +kernel
theorem dX5_room_53 : decode cX5_room 53 = .ok (.getfield 28, 3) := by decide +kernel
theorem dX5_room_56 : decode cX5_room 56 = .ok (.iconst 4, 1) := by decide +kernel
theorem dX5_room_57 : decode cX5_room 57 = .ok (.iload_n 1, 1) := by decide +kernel
theorem dX5_room_58 : decode cX5_room 58 = .ok (.iastore, 1) := by decide +kernel
theorem dX5_room_59 : decode cX5_room 59 = .ok (.iload_n 2, 1) := by decide +kernel
theorem dX5_room_60 : decode cX5_room 60 = .ok (.ireturn, 1) := by decide +kernel
theorem dX5_limit_0 : decode cX5_limit 0 = .ok (.aload_n 0, 1) := by decide +kernel
theorem dX5_limit_1 : decode cX5_limit 1 = .ok (.iload_n 1, 1) := by decide +kernel
theorem dX5_limit_2 : decode cX5_limit 2 = .ok (.invokevirtual 166, 3) := by decide +kernel
theorem dX5_limit_5 : decode cX5_limit 5 = .ok (.ifCond .eq 10, 3) := by decide +kernel
theorem dX5_limit_8 : decode cX5_limit 8 = .ok (.iload_n 2, 1) := by decide +kernel
theorem dX5_limit_9 : decode cX5_limit 9 = .ok (.invokestatic 181, 3) := by decide +kernel
theorem dX5_limit_12 : decode cX5_limit 12 = .ok (.ifCond .ne 5, 3) := by decide +kernel
theorem dX5_limit_15 : decode cX5_limit 15 = .ok (.iconst (-1), 1) := by decide +kernel
theorem dX5_limit_16 : decode cX5_limit 16 = .ok (.ireturn, 1) := by decide +kernel
theorem dX5_limit_17 : decode cX5_limit 17 = .ok (.aload_n 0, 1) := by decide +kernel
theorem dX5_limit_18 : decode cX5_limit 18 = .ok (.getfield 28, 3) := by decide +kernel
theorem dX5_limit_21 : decode cX5_limit 21 = .ok (.iconst 5, 1) := by decide +kernel
theorem dX5_limit_22 : decode cX5_limit 22 = .ok (.iload_n 1, 1) := by decide +kernel
theorem dX5_limit_23 : decode cX5_limit 23 = .ok (.iadd, 1) := by decide +kernel
theorem dX5_limit_24 : decode cX5_limit 24 = .ok (.iaload, 1) := by decide +kernel
theorem dX5_limit_25 : decode cX5_limit 25 = .ok (.iload_n 2, 1) := by decide +kernel
theorem dX5_limit_26 : decode cX5_limit 26 = .ok (.if_icmp .ne 6, 3) := by decide +kernel
theorem dX5_limit_29 : decode cX5_limit 29 = .ok (.bipush (-4), 2) := by decide +kernel
theorem dX5_limit_31 : decode cX5_limit 31 = .ok (.ireturn, 1) := by decide +kernel
theorem dX5_limit_32 : decode cX5_limit 32 = .ok (.aload_n 0, 1) := by decide +kernel
theorem dX5_limit_33 : decode cX5_limit 33 = .ok (.getfield 126, 3) := by decide +kernel
theorem dX5_limit_36 : decode cX5_limit 36 = .ok (.bipush 40, 2) := by decide +kernel
theorem dX5_limit_38 : decode cX5_limit 38 = .ok (.if_icmp .ne 6, 3) := by decide +kernel
theorem dX5_limit_41 : decode cX5_limit 41 = .ok (.bipush (-2), 2) := by decide +kernel
theorem dX5_limit_43 : decode cX5_limit 43 = .ok (.ireturn, 1) := by decide +kernel
theorem dX5_limit_44 : decode cX5_limit 44 = .ok (.aload_n 0, 1) := by decide +kernel
theorem dX5_limit_45 : decode cX5_limit 45 = .ok (.invokevirtual 171, 3) := by decide +kernel
theorem dX5_limit_48 : decode cX5_limit 48 = .ok (.aload_n 0, 1) := by decide +kernel
theorem dX5_limit_49 : decode cX5_limit 49 = .ok (.getfield 28, 3) := by decide +kernel
theorem dX5_limit_52 : decode cX5_limit 52 = .ok (.iconst 5, 1) := by decide +kernel
theorem dX5_limit_53 : decode cX5_limit 53 = .ok (.iload_n 1, 1) := by decide +kernel
theorem dX5_limit_54 : decode cX5_limit 54 = .ok (.iadd, 1) := by decide +kernel
theorem dX5_limit_55 : decode cX5_limit 55 = .ok (.iaload, 1) := by decide +kernel
theorem dX5_limit_56 : decode cX5_limit 56 = .ok (.istore_n 3, 1) := by decide +kernel
theorem dX5_limit_57 : decode cX5_limit 57 = .ok (.aload_n 0, 1) := by decide +kernel
theorem dX5_limit_58 : decode cX5_limit 58 = .ok (.getfield 28, 3) := by decide +kernel
theorem dX5_limit_61 : decode cX5_limit 61 = .ok (.iconst 5, 1) := by decide +kernel
theorem dX5_limit_62 : decode cX5_limit 62 = .ok (.iload_n 1, 1) := by decide +kernel
theorem dX5_limit_63 : decode cX5_limit 63 = .ok (.iadd, 1) := by decide +kernel
theorem dX5_limit_64 : decode cX5_limit 64 = .ok (.iload_n 2, 1) := by decide +kernel
theorem dX5_limit_65 : decode cX5_limit 65 = .ok (.iastore, 1) := by decide +kernel
theorem dX5_limit_66 : decode cX5_limit 66 = .ok (.iload_n 3, 1) := by decide +kernel
theorem dX5_limit_67 : decode cX5_limit 67 = .ok (.ireturn, 1) := by decide +kernel
theorem dX5_reset_0 : decode cX5_reset 0 = .ok (.aload_n 0, 1) := by decide +kernel
theorem dX5_reset_1 : decode cX5_reset 1 = .ok (.iload_n 1, 1) := by decide +kernel
theorem dX5_reset_2 : decode cX5_reset 2 = .ok (.invokevirtual 166, 3) := by decide +kernel
theorem dX5_reset_5 : decode cX5_reset 5 = .ok (.ifCond .ne 5, 3) := by decide +kernel
theorem dX5_reset_8 : decode cX5_reset 8 = .ok (.iconst (-1), 1) := by decide +kernel
theorem dX5_reset_9 : decode cX5_reset 9 = .ok (.ireturn, 1) := by decide +kernel
theorem dX5_reset_10 : decode cX5_reset 10 = .ok (.aload_n 0, 1) := by decide +kernel
theorem dX5_reset_11 : decode cX5_reset 11 = .ok (.getfield 126, 3) := by decide +kernel
theorem dX5_reset_14 : decode cX5_reset 14 = .ok (.bipush 40, 2) := by decide +kernel
theorem dX5_reset_16 : decode cX5_reset 16 = .ok (.if_icmp .ne 6, 3) := by decide +kernel
theorem dX5_reset_19 : decode cX5_reset 19 = .ok (.bipush (-2), 2) := by decide +kernel
theorem dX5_reset_21 : decode cX5_reset 21 = .ok (.ireturn, 1) := by decide +kernel
theorem dX5_reset_22 : decode cX5_reset 22 = .ok (.aload_n 0, 1) := by decide +kernel
theorem dX5_reset_23 : decode cX5_reset 23 = .ok (.invokevirtual 171, 3) := by decide +kernel
theorem dX5_reset_26 : decode cX5_reset 26 = .ok (.aload_n 0, 1) := by decide +kernel
theorem dX5_reset_27 : decode cX5_reset 27 = .ok (.getfield 28, 3) := by decide +kernel
theorem dX5_reset_30 : decode cX5_reset 30 = .ok (.bipush 12, 2) := by decide +kernel
theorem dX5_reset_32 : decode cX5_reset 32 = .ok (.iload_n 1, 1) := by decide +kernel
theorem dX5_reset_33 : decode cX5_reset 33 = .ok (.iadd, 1) := by decide +kernel
theorem dX5_reset_34 : decode cX5_reset 34 = .ok (.iaload, 1) := by decide +kernel
theorem dX5_reset_35 : decode cX5_reset 35 = .ok (.istore_n 2, 1) := by decide +kernel
theorem dX5_reset_36 : decode cX5_reset 36 = .ok (.aload_n 0, 1) := by decide +kernel
theorem dX5_reset_37 : decode cX5_reset 37 = .ok (.iload_n 1, 1) := by decide +kernel
theorem dX5_reset_38 : decode cX5_reset 38 = .ok (.invokevirtual 122, 3) := by decide +kernel
theorem dX5_reset_41 : decode cX5_reset 41 = .ok (.iload_n 2, 1) := by decide +kernel
theorem dX5_reset_42 : decode cX5_reset 42 = .ok (.ireturn, 1) := by decide +kernel
theorem dX5_undo_0 : decode cX5_undo 0 = .ok (.iload_n 1, 1) := by decide +kernel
theorem dX5_undo_1 : decode cX5_undo 1 = .ok (.i2l, 1) := by decide +kernel
theorem dX5_undo_2 : decode cX5_undo 2 = .ok (.lconst 0, 1) := by decide +kernel
theorem dX5_undo_3 : decode cX5_undo 3 = .ok (.aload_n 0, 1) := by decide +kernel
theorem dX5_undo_4 : decode cX5_undo 4 = .ok (.getfield 126, 3) := by decide +kernel
theorem dX5_undo_7 : decode cX5_undo 7 = .ok (.i2l, 1) := by decide +kernel
theorem dX5_undo_8 : decode cX5_undo 8 = .ok (.invokestatic 75, 3) := by decide +kernel
theorem dX5_undo_11 : decode cX5_undo 11 = .ok (.ifCond .ne 5, 3) := by decide +kernel
theorem dX5_undo_14 : decode cX5_undo 14 = .ok (.iconst (-1), 1) := by decide +kernel
theorem dX5_undo_15 : decode cX5_undo 15 = .ok (.ireturn, 1) := by decide +kernel
theorem dX5_undo_16 : decode cX5_undo 16 = .ok (.aload_n 0, 1) := by decide +kernel
theorem dX5_undo_17 : decode cX5_undo 17 = .ok (.getfield 126, 3) := by decide +kernel
theorem dX5_undo_20 : decode cX5_undo 20 = .ok (.iload_n 1, 1) := by decide +kernel
theorem dX5_undo_21 : decode cX5_undo 21 = .ok (.isub, 1) := by decide +kernel
theorem dX5_undo_22 : decode cX5_undo 22 = .ok (.istore_n 2, 1) := by decide +kernel
theorem dX5_undo_23 : decode cX5_undo 23 = .ok (.iload_n 2, 1) := by decide +kernel
theorem dX5_undo_24 : decode cX5_undo 24 = .ok (.ifCond .le 21, 3) := by decide +kernel
theorem dX5_undo_27 : decode cX5_undo 27 = .ok (.aload_n 0, 1) := by decide +kernel
theorem dX5_undo_28 : decode cX5_undo 28 = .ok (.getfield 37, 3) := by decide +kernel
theorem dX5_undo_31 : decode cX5_undo 31 = .ok (.bipush 40, 2) := by decide +kernel
theorem dX5_undo_33 : decode cX5_undo 33 = .ok (.iload_n 1, 1) := by decide +kernel
theorem dX5_undo_34 : decode cX5_undo 34 = .ok (.imul, 1) := by decide +kernel
theorem dX5_undo_35 : decode cX5_undo 35 = .ok (.aload_n 0, 1) := by decide +kernel
theorem dX5_undo_36 : decode cX5_undo 36 = .ok (.getfield 28, 3) := by decide +kernel
theorem dX5_undo_39 : decode cX5_undo 39 = .ok (.iconst 0, 1) := by decide +kernel
theorem dX5_undo_40 : decode cX5_undo 40 = .ok (.bipush 40, 2) := by decide +kernel
theorem dX5_undo_42 : decode cX5_undo 42 = .ok (.invokestatic 118, 3) := by decide +kernel
theorem dX5_undo_45 : decode cX5_undo 45 = .ok (.aload_n 0, 1) := by decide +kernel
theorem dX5_undo_46 : decode cX5_undo 46 = .ok (.iload_n 1, 1) := by decide +kernel
theorem dX5_undo_47 : decode cX5_undo 47 = .ok (.putfield 126, 3) := by decide +kernel
theorem dX5_undo_50 : decode cX5_undo 50 = .ok (.iload_n 2, 1) := by decide +kernel
theorem dX5_undo_51 : decode cX5_undo 51 = .ok (.ireturn, 1) := by decide +kernel
theorem dX5_isPlace_0 : decode cX5_isPlace 0 = .ok (.iload_n 0, 1) := by decide +kernel
theorem dX5_isPlace_1 : decode cX5_isPlace 1 = .ok (.i2l, 1) := by decide +kernel
theorem dX5_isPlace_2 : decode cX5_isPlace 2 = .ok (.lconst 0, 1) := by decide +kernel
theorem dX5_isPlace_3 : decode cX5_isPlace 3 = .ok (.ldc2_w 184, 3) := by decide +kernel
theorem dX5_isPlace_6 : decode cX5_isPlace 6 = .ok (.invokestatic 75, 3) := by decide +kernel
theorem dX5_isPlace_9 : decode cX5_isPlace 9 = .ok (.ireturn, 1) := by decide +kernel
theorem dX5_keep_0 : decode cX5_keep 0 = .ok (.iload_n 1, 1) := by decide +kernel
theorem dX5_keep_1 : decode cX5_keep 1 = .ok (.invokestatic 186, 3) := by decide +kernel
theorem dX5_keep_4 : decode cX5_keep 4 = .ok (.ifCond .ne 5, 3) := by decide +kernel
theorem dX5_keep_7 : decode cX5_keep 7 = .ok (.iconst (-1), 1) := by decide +kernel
theorem dX5_keep_8 : decode cX5_keep 8 = .ok (.ireturn, 1) := by decide +kernel
theorem dX5_keep_9 : decode cX5_keep 9 = .ok (.aload_n 0, 1) := by decide +kernel
theorem dX5_keep_10 : decode cX5_keep 10 = .ok (.getfield 115, 3) := by decide +kernel
theorem dX5_keep_13 : decode cX5_keep 13 = .ok (.ifCond .ne 6, 3) := by decide +kernel
theorem dX5_keep_16 : decode cX5_keep 16 = .ok (.bipush (-4), 2) := by decide +kernel
theorem dX5_keep_18 : decode cX5_keep 18 = .ok (.ireturn, 1) := by decide +kernel
theorem dX5_keep_19 : decode cX5_keep 19 = .ok (.aload_n 0, 1) := by decide +kernel
theorem dX5_keep_20 : decode cX5_keep 20 = .ok (.getfield 28, 3) := by decide +kernel
theorem dX5_keep_23 : decode cX5_keep 23 = .ok (.iconst 0, 1) := by decide +kernel
theorem dX5_keep_24 : decode cX5_keep 24 = .ok (.aload_n 0, 1) := by decide +kernel
theorem dX5_keep_25 : decode cX5_keep 25 = .ok (.getfield 40, 3) := by decide +kernel
theorem dX5_keep_28 : decode cX5_keep 28 = .ok (.sipush 1641, 3) := by decide +kernel
theorem dX5_keep_31 : decode cX5_keep 31 = .ok (.iload_n 1, 1) := by decide +kernel
theorem dX5_keep_32 : decode cX5_keep 32 = .ok (.imul, 1) := by decide +kernel
theorem dX5_keep_33 : decode cX5_keep 33 = .ok (.bipush 40, 2) := by decide +kernel
theorem dX5_keep_35 : decode cX5_keep 35 = .ok (.invokestatic 118, 3) := by decide +kernel
theorem dX5_keep_38 : decode cX5_keep 38 = .ok (.aload_n 0, 1) := by decide +kernel
theorem dX5_keep_39 : decode cX5_keep 39 = .ok (.getfield 40, 3) := by decide +kernel
theorem dX5_keep_42 : decode cX5_keep 42 = .ok (.sipush 1641, 3) := by decide +kernel
theorem dX5_keep_45 : decode cX5_keep 45 = .ok (.iload_n 1, 1) := by decide +kernel
theorem dX5_keep_46 : decode cX5_keep 46 = .ok (.imul, 1) := by decide +kernel
theorem dX5_keep_47 : decode cX5_keep 47 = .ok (.bipush 40, 2) := by decide +kernel
theorem dX5_keep_49 : decode cX5_keep 49 = .ok (.iadd, 1) := by decide +kernel
theorem dX5_keep_50 : decode cX5_keep 50 = .ok (.aload_n 0, 1) := by decide +kernel
theorem dX5_keep_51 : decode cX5_keep 51 = .ok (.getfield 126, 3) := by decide +kernel
theorem dX5_keep_54 : decode cX5_keep 54 = .ok (.iastore, 1) := by decide +kernel
theorem dX5_keep_55 : decode cX5_keep 55 = .ok (.aload_n 0, 1) := by decide +kernel
theorem dX5_keep_56 : decode cX5_keep 56 = .ok (.getfield 37, 3) := by decide +kernel
theorem dX5_keep_59 : decode cX5_keep 59 = .ok (.iconst 0, 1) := by decide +kernel
theorem dX5_keep_60 : decode cX5_keep 60 = .ok (.aload_n 0, 1) := by decide +kernel
theorem dX5_keep_61 : decode cX5_keep 61 = .ok (.getfield 40, 3) := by decide +kernel
theorem dX5_keep_64 : decode cX5_keep 64 = .ok (.sipush 1641, 3) := by decide +kernel
theorem dX5_keep_67 : decode cX5_keep 67 = .ok (.iload_n 1, 1) := by decide +kernel
theorem dX5_keep_68 : decode cX5_keep 68 = .ok (.imul, 1) := by decide +kernel
theorem dX5_keep_69 : decode cX5_keep 69 = .ok (.bipush 40, 2) := by decide +kernel
theorem dX5_keep_71 : decode cX5_keep 71 = .ok (.iadd, 1) := by decide +kernel
theorem dX5_keep_72 : decode cX5_keep 72 = .ok (.iconst 1, 1) := by decide +kernel
theorem dX5_keep_73 : decode cX5_keep 73 = .ok (.iadd, 1) := by decide +kernel
theorem dX5_keep_74 : decode cX5_keep 74 = .ok (.sipush 1600, 3) := by decide +kernel
theorem dX5_keep_77 : decode cX5_keep 77 = .ok (.invokestatic 118, 3) := by decide +kernel
theorem dX5_keep_80 : decode cX5_keep 80 = .ok (.aload_n 0, 1) := by decide +kernel
theorem dX5_keep_81 : decode cX5_keep 81 = .ok (.getfield 43, 3) := by decide +kernel
theorem dX5_keep_84 : decode cX5_keep 84 = .ok (.iload_n 1, 1) := by decide +kernel
theorem dX5_keep_85 : decode cX5_keep 85 = .ok (.iconst 1, 1) := by decide +kernel
theorem dX5_keep_86 : decode cX5_keep 86 = .ok (.bastore, 1) := by decide +kernel
theorem dX5_keep_87 : decode cX5_keep 87 = .ok (.aload_n 0, 1) := by decide +kernel
theorem dX5_keep_88 : decode cX5_keep 88 = .ok (.getfield 126, 3) := by decide +kernel
theorem dX5_keep_91 : decode cX5_keep 91 = .ok (.ireturn, 1) := by decide +kernel
theorem dX5_on_0 : decode cX5_on 0 = .ok (.iload_n 1, 1) := by decide +kernel
theorem dX5_on_1 : decode cX5_on 1 = .ok (.invokestatic 186, 3) := by decide +kernel
theorem dX5_on_4 : decode cX5_on 4 = .ok (.ifCond .ne 5, 3) := by decide +kernel
theorem dX5_on_7 : decode cX5_on 7 = .ok (.iconst (-1), 1) := by decide +kernel
theorem dX5_on_8 : decode cX5_on 8 = .ok (.ireturn, 1) := by decide +kernel
theorem dX5_on_9 : decode cX5_on 9 = .ok (.aload_n 0, 1) := by decide +kernel
theorem dX5_on_10 : decode cX5_on 10 = .ok (.getfield 43, 3) := by decide +kernel
theorem dX5_on_13 : decode cX5_on 13 = .ok (.iload_n 1, 1) := by decide +kernel
theorem dX5_on_14 : decode cX5_on 14 = .ok (.baload, 1) := by decide +kernel
theorem dX5_on_15 : decode cX5_on 15 = .ok (.ifCond .ne 9, 3) := by decide +kernel
theorem dX5_on_18 : decode cX5_on 18 = .ok (.aload_n 0, 1) := by decide +kernel
theorem dX5_on_19 : decode cX5_on 19 = .ok (.iconst 1, 1) := by decide +kernel
theorem dX5_on_20 : decode cX5_on 20 = .ok (.invokevirtual 85, 3) := by decide +kernel
theorem dX5_on_23 : decode cX5_on 23 = .ok (.ireturn, 1) := by decide +kernel
theorem dX5_on_24 : decode cX5_on 24 = .ok (.aload_n 0, 1) := by decide +kernel
theorem dX5_on_25 : decode cX5_on 25 = .ok (.getfield 40, 3) := by decide +kernel
theorem dX5_on_28 : decode cX5_on 28 = .ok (.sipush 1641, 3) := by decide +kernel
theorem dX5_on_31 : decode cX5_on 31 = .ok (.iload_n 1, 1) := by decide +kernel
theorem dX5_on_32 : decode cX5_on 32 = .ok (.imul, 1) := by decide +kernel
theorem dX5_on_33 : decode cX5_on 33 = .ok (.aload_n 0, 1) := by decide +kernel
theorem dX5_on_34 : decode cX5_on 34 = .ok (.getfield 28, 3) := by decide +kernel
theorem dX5_on_37 : decode cX5_on 37 = .ok (.iconst 0, 1) := by decide +kernel
theorem dX5_on_38 : decode cX5_on 38 = .ok (.bipush 40, 2) := by decide +kernel
theorem dX5_on_40 : decode cX5_on 40 = .ok (.invokestatic 118, 3) := by decide +kernel
theorem dX5_on_43 : decode cX5_on 43 = .ok (.aload_n 0, 1) := by decide +kernel
theorem dX5_on_44 : decode cX5_on 44 = .ok (.aload_n 0, 1) := by decide +kernel
theorem dX5_on_45 : decode cX5_on 45 = .ok (.getfield 40, 3) := by decide +kernel
theorem dX5_on_48 : decode cX5_on 48 = .ok (.sipush 1641, 3) := by decide +kernel
theorem dX5_on_51 : decode cX5_on 51 = .ok (.iload_n 1, 1) := by decide +kernel
theorem dX5_on_52 : decode cX5_on 52 = .ok (.imul, 1) := by decide +kernel
theorem dX5_on_53 : decode cX5_on 53 = .ok (.bipush 40, 2) := by decide +kernel
theorem dX5_on_55 : decode cX5_on 55 = .ok (.iadd, 1) := by decide +kernel
theorem dX5_on_56 : decode cX5_on 56 = .ok (.iaload, 1) := by decide +kernel
theorem dX5_on_57 : decode cX5_on 57 = .ok (.putfield 126, 3) := by decide +kernel
theorem dX5_on_60 : decode cX5_on 60 = .ok (.aload_n 0, 1) := by decide +kernel
theorem dX5_on_61 : decode cX5_on 61 = .ok (.getfield 40, 3) := by decide +kernel
theorem dX5_on_64 : decode cX5_on 64 = .ok (.sipush 1641, 3) := by decide +kernel
theorem dX5_on_67 : decode cX5_on 67 = .ok (.iload_n 1, 1) := by decide +kernel
theorem dX5_on_68 : decode cX5_on 68 = .ok (.imul, 1) := by decide +kernel
theorem dX5_on_69 : decode cX5_on 69 = .ok (.bipush 40, 2) := by decide +kernel
theorem dX5_on_71 : decode cX5_on 71 = .ok (.iadd, 1) := by decide +kernel
theorem dX5_on_72 : decode cX5_on 72 = .ok (.iconst 1, 1) := by decide +kernel
theorem dX5_on_73 : decode cX5_on 73 = .ok (.iadd, 1) := by decide +kernel
theorem dX5_on_74 : decode cX5_on 74 = .ok (.aload_n 0, 1) := by decide +kernel
theorem dX5_on_75 : decode cX5_on 75 = .ok (.getfield 37, 3) := by decide +kernel
theorem dX5_on_78 : decode cX5_on 78 = .ok (.iconst 0, 1) := by decide +kernel
theorem dX5_on_79 : decode cX5_on 79 = .ok (.sipush 1600, 3) := by decide +kernel
theorem dX5_on_82 : decode cX5_on 82 = .ok (.invokestatic 118, 3) := by decide +kernel
theorem dX5_on_85 : decode cX5_on 85 = .ok (.aload_n 0, 1) := by decide +kernel
theorem dX5_on_86 : decode cX5_on 86 = .ok (.getfield 126, 3) := by decide +kernel
theorem dX5_on_89 : decode cX5_on 89 = .ok (.ireturn, 1) := by decide +kernel
theorem dX5_calls_0 : decode cX5_calls 0 = .ok (.aload_n 0, 1) := by decide +kernel
theorem dX5_calls_1 : decode cX5_calls 1 = .ok (.invokevirtual 174, 3) := by decide +kernel
theorem dX5_calls_4 : decode cX5_calls 4 = .ok (.aload_n 0, 1) := by decide +kernel
theorem dX5_calls_5 : decode cX5_calls 5 = .ok (.aload_n 0, 1) := by decide +kernel
theorem dX5_calls_6 : decode cX5_calls 6 = .ok (.getfield 28, 3) := by decide +kernel
theorem dX5_calls_9 : decode cX5_calls 9 = .ok (.iconst 0, 1) := by decide +kernel
theorem dX5_calls_10 : decode cX5_calls 10 = .ok (.invokevirtual 142, 3) := by decide +kernel
theorem dX5_calls_13 : decode cX5_calls 13 = .ok (.istore_n 1, 1) := by decide +kernel
theorem dX5_calls_14 : decode cX5_calls 14 = .ok (.aload_n 0, 1) := by decide +kernel
theorem dX5_calls_15 : decode cX5_calls 15 = .ok (.iload_n 1, 1) := by decide +kernel
theorem dX5_calls_16 : decode cX5_calls 16 = .ok (.aload_n 0, 1) := by decide +kernel
theorem dX5_calls_17 : decode cX5_calls 17 = .ok (.aload_n 0, 1) := by decide +kernel
theorem dX5_calls_18 : decode cX5_calls 18 = .ok (.getfield 28, 3) := by decide +kernel
theorem dX5_calls_21 : decode cX5_calls 21 = .ok (.invokevirtual 158, 3) := by decide +kernel
theorem dX5_calls_24 : decode cX5_calls 24 = .ok (.ifCond .eq 20, 3) := by decide +kernel
theorem dX5_calls_27 : decode cX5_calls 27 = .ok (.iload_n 1, 1) := by decide +kernel
theorem dX5_calls_28 : decode cX5_calls 28 = .ok (.invokestatic 146, 3) := by decide +kernel
theorem dX5_calls_31 : decode cX5_calls 31 = .ok (.aload_n 0, 1) := by decide +kernel
theorem dX5_calls_32 : decode cX5_calls 32 = .ok (.getfield 28, 3) := by decide +kernel
theorem dX5_calls_35 : decode cX5_calls 35 = .ok (.iconst 4, 1) := by decide +kernel
theorem dX5_calls_36 : decode cX5_calls 36 = .ok (.iaload, 1) := by decide +kernel
theorem dX5_calls_37 : decode cX5_calls 37 = .ok (.if_icmp .gt 7, 3) := by decide +kernel
theorem dX5_calls_40 : decode cX5_calls 40 = .ok (.iconst 1, 1) := by decide +kernel
theorem dX5_calls_41 : decode cX5_calls 41 = .ok (.goto 4, 3) := by decide +kernel
theorem dX5_calls_44 : decode cX5_calls 44 = .ok (.iconst 0, 1) := by decide +kernel
theorem dX5_calls_45 : decode cX5_calls 45 = .ok (.invokevirtual 189, 3) := by decide +kernel
theorem dX5_calls_48 : decode cX5_calls 48 = .ok (.ireturn, 1) := by decide +kernel
theorem dX5_later_0 : decode cX5_later 0 = .ok (.aload_n 0, 1) := by decide +kernel
theorem dX5_later_1 : decode cX5_later 1 = .ok (.iload_n 1, 1) := by decide +kernel
theorem dX5_later_2 : decode cX5_later 2 = .ok (.invokevirtual 166, 3) := by decide +kernel
theorem dX5_later_5 : decode cX5_later 5 = .ok (.ifCond .eq 15, 3) := by decide +kernel
theorem dX5_later_8 : decode cX5_later 8 = .ok (.iload_n 2, 1) := by decide +kernel
theorem dX5_later_9 : decode cX5_later 9 = .ok (.i2l, 1) := by decide +kernel
theorem dX5_later_10 : decode cX5_later 10 = .ok (.lconst 0, 1) := by decide +kernel
theorem dX5_later_11 : decode cX5_later 11 = .ok (.ldc2_w 193, 3) := by decide +kernel
theorem dX5_later_14 : decode cX5_later 14 = .ok (.invokestatic 75, 3) := by decide +kernel
theorem dX5_later_17 : decode cX5_later 17 = .ok (.ifCond .ne 5, 3) := by decide +kernel
theorem dX5_later_20 : decode cX5_later 20 = .ok (.iconst (-1), 1) := by decide +kernel
theorem dX5_later_21 : decode cX5_later 21 = .ok (.ireturn, 1) := by decide +kernel
theorem dX5_later_22 : decode cX5_later 22 = .ok (.aload_n 0, 1) := by decide +kernel
theorem dX5_later_23 : decode cX5_later 23 = .ok (.invokevirtual 174, 3) := by decide +kernel
theorem dX5_later_26 : decode cX5_later 26 = .ok (.aload_n 0, 1) := by decide +kernel
theorem dX5_later_27 : decode cX5_later 27 = .ok (.invokevirtual 195, 3) := by decide +kernel
theorem dX5_later_30 : decode cX5_later 30 = .ok (.aload_n 0, 1) := by decide +kernel
theorem dX5_later_31 : decode cX5_later 31 = .ok (.iload_n 2, 1) := by decide +kernel
theorem dX5_later_32 : decode cX5_later 32 = .ok (.iconst 0, 1) := by decide +kernel
theorem dX5_later_33 : decode cX5_later 33 = .ok (.invokevirtual 198, 3) := by decide +kernel
theorem dX5_later_36 : decode cX5_later 36 = .ok (.istore_n 3, 1) := by decide +kernel
theorem dX5_later_37 : decode cX5_later 37 = .ok (.aload_n 0, 1) := by decide +kernel
theorem dX5_later_38 : decode cX5_later 38 = .ok (.aload_n 0, 1) := by decide +kernel
theorem dX5_later_39 : decode cX5_later 39 = .ok (.getfield 31, 3) := by decide +kernel
theorem dX5_later_42 : decode cX5_later 42 = .ok (.bipush 12, 2) := by decide +kernel
theorem dX5_later_44 : decode cX5_later 44 = .ok (.iload_n 1, 1) := by decide +kernel
theorem dX5_later_45 : decode cX5_later 45 = .ok (.iadd, 1) := by decide +kernel
theorem dX5_later_46 : decode cX5_later 46 = .ok (.iaload, 1) := by decide +kernel
theorem dX5_later_47 : decode cX5_later 47 = .ok (.iload_n 3, 1) := by decide +kernel
theorem dX5_later_48 : decode cX5_later 48 = .ok (.invokevirtual 189, 3) := by decide +kernel
theorem dX5_later_51 : decode cX5_later 51 = .ok (.ireturn, 1) := by decide +kernel
theorem dX5_trips_0 : decode cX5_trips 0 = .ok (.aload_n 0, 1) := by decide +kernel
theorem dX5_trips_1 : decode cX5_trips 1 = .ok (.iload_n 1, 1) := by decide +kernel
theorem dX5_trips_2 : decode cX5_trips 2 = .ok (.invokevirtual 166, 3) := by decide +kernel
theorem dX5_trips_5 : decode cX5_trips 5 = .ok (.ifCond .ne 5, 3) := by decide +kernel
theorem dX5_trips_8 : decode cX5_trips 8 = .ok (.iconst (-1), 1) := by decide +kernel
theorem dX5_trips_9 : decode cX5_trips 9 = .ok (.ireturn, 1) := by decide +kernel
theorem dX5_trips_10 : decode cX5_trips 10 = .ok (.aload_n 0, 1) := by decide +kernel
theorem dX5_trips_11 : decode cX5_trips 11 = .ok (.invokevirtual 174, 3) := by decide +kernel
theorem dX5_trips_14 : decode cX5_trips 14 = .ok (.aload_n 0, 1) := by decide +kernel
theorem dX5_trips_15 : decode cX5_trips 15 = .ok (.invokevirtual 195, 3) := by decide +kernel
theorem dX5_trips_18 : decode cX5_trips 18 = .ok (.iconst 0, 1) := by decide +kernel
theorem dX5_trips_19 : decode cX5_trips 19 = .ok (.istore_n 2, 1) := by decide +kernel
theorem dX5_trips_20 : decode cX5_trips 20 = .ok (.iconst 1, 1) := by decide +kernel
theorem dX5_trips_21 : decode cX5_trips 21 = .ok (.istore_n 3, 1) := by decide +kernel
theorem dX5_trips_22 : decode cX5_trips 22 = .ok (.iload_n 3, 1) := by decide +kernel
theorem dX5_trips_23 : decode cX5_trips 23 = .ok (.bipush 61, 2) := by decide +kernel
theorem dX5_trips_25 : decode cX5_trips 25 = .ok (.if_icmp .ge 54, 3) := by decide +kernel
theorem dX5_trips_28 : decode cX5_trips 28 = .ok (.aload_n 0, 1) := by decide +kernel
theorem dX5_trips_29 : decode cX5_trips 29 = .ok (.iconst 1, 1) := by decide +kernel
theorem dX5_trips_30 : decode cX5_trips 30 = .ok (.iconst 0, 1) := by decide +kernel
theorem dX5_trips_31 : decode cX5_trips 31 = .ok (.invokevirtual 198, 3) := by decide +kernel
theorem dX5_trips_34 : decode cX5_trips 34 = .ok (.istore 4, 2) := by decide +kernel
theorem dX5_trips_36 : decode cX5_trips 36 = .ok (.iload_n 2, 1) := by decide +kernel
theorem dX5_trips_37 : decode cX5_trips 37 = .ok (.aload_n 0, 1) := by decide +kernel
theorem dX5_trips_38 : decode cX5_trips 38 = .ok (.getfield 132, 3) := by decide +kernel
theorem dX5_trips_41 : decode cX5_trips 41 = .ok (.iload_n 1, 1) := by decide +kernel
theorem dX5_trips_42 : decode cX5_trips 42 = .ok (.invokestatic 139, 3) := by decide +kernel
theorem dX5_trips_45 : decode cX5_trips 45 = .ok (.ifCond .eq 7, 3) := by decide +kernel
theorem dX5_trips_48 : decode cX5_trips 48 = .ok (.iconst 1, 1) := by decide +kernel
theorem dX5_trips_49 : decode cX5_trips 49 = .ok (.goto 4, 3) := by decide +kernel
theorem dX5_trips_52 : decode cX5_trips 52 = .ok (.iconst 0, 1) := by decide +kernel
theorem dX5_trips_53 : decode cX5_trips 53 = .ok (.iadd, 1) := by decide +kernel
theorem dX5_trips_54 : decode cX5_trips 54 = .ok (.istore_n 2, 1) := by decide +kernel
theorem dX5_trips_55 : decode cX5_trips 55 = .ok (.aload_n 0, 1) := by decide +kernel
theorem dX5_trips_56 : decode cX5_trips 56 = .ok (.getfield 129, 3) := by decide +kernel
theorem dX5_trips_59 : decode cX5_trips 59 = .ok (.iload_n 1, 1) := by decide +kernel
theorem dX5_trips_60 : decode cX5_trips 60 = .ok (.invokestatic 139, 3) := by decide +kernel
theorem dX5_trips_63 : decode cX5_trips 63 = .ok (.ifCond .eq 10, 3) := by decide +kernel
theorem dX5_trips_66 : decode cX5_trips 66 = .ok (.aload_n 0, 1) := by decide +kernel
theorem dX5_trips_67 : decode cX5_trips 67 = .ok (.iload_n 3, 1) := by decide +kernel
theorem dX5_trips_68 : decode cX5_trips 68 = .ok (.iload_n 2, 1) := by decide +kernel
theorem dX5_trips_69 : decode cX5_trips 69 = .ok (.invokevirtual 189, 3) := by decide +kernel
theorem dX5_trips_72 : decode cX5_trips 72 = .ok (.ireturn, 1) := by decide +kernel
theorem dX5_trips_73 : decode cX5_trips 73 = .ok (.iinc 3 1, 3) := by decide +kernel
theorem dX5_trips_76 : decode cX5_trips 76 = .ok (.goto (-54), 3) := by decide +kernel
theorem dX5_trips_79 : decode cX5_trips 79 = .ok (.bipush (-9), 2) := by decide +kernel
theorem dX5_trips_81 : decode cX5_trips 81 = .ok (.ireturn, 1) := by decide +kernel
theorem dX5_worst_0 : decode cX5_worst 0 = .ok (.aload_n 0, 1) := by decide +kernel
theorem dX5_worst_1 : decode cX5_worst 1 = .ok (.getfield 115, 3) := by decide +kernel
theorem dX5_worst_4 : decode cX5_worst 4 = .ok (.ifCond .ne 6, 3) := by decide +kernel
theorem dX5_worst_7 : decode cX5_worst 7 = .ok (.bipush (-4), 2) := by decide +kernel
theorem dX5_worst_9 : decode cX5_worst 9 = .ok (.ireturn, 1) := by decide +kernel
theorem dX5_worst_10 : decode cX5_worst 10 = .ok (.aload_n 0, 1) := by decide +kernel
theorem dX5_worst_11 : decode cX5_worst 11 = .ok (.invokevirtual 174, 3) := by decide +kernel
theorem dX5_worst_14 : decode cX5_worst 14 = .ok (.aload_n 0, 1) := by decide +kernel
theorem dX5_worst_15 : decode cX5_worst 15 = .ok (.invokevirtual 195, 3) := by decide +kernel
theorem dX5_worst_18 : decode cX5_worst 18 = .ok (.iconst 0, 1) := by decide +kernel
theorem dX5_worst_19 : decode cX5_worst 19 = .ok (.istore_n 1, 1) := by decide +kernel
theorem dX5_worst_20 : decode cX5_worst 20 = .ok (.bipush 8, 2) := by decide +kernel
theorem dX5_worst_22 : decode cX5_worst 22 = .ok (.istore_n 2, 1) := by decide +kernel
theorem dX5_worst_23 : decode cX5_worst 23 = .ok (.iconst 0, 1) := by decide +kernel
theorem dX5_worst_24 : decode cX5_worst 24 = .ok (.istore_n 3, 1) := by decide +kernel
theorem dX5_worst_25 : decode cX5_worst 25 = .ok (.iload_n 3, 1) := by decide +kernel
theorem dX5_worst_26 : decode cX5_worst 26 = .ok (.bipush 61, 2) := by decide +kernel
theorem dX5_worst_28 : decode cX5_worst 28 = .ok (.if_icmp .ge 87, 3) := by decide +kernel
theorem dX5_worst_31 : decode cX5_worst 31 = .ok (.iconst 0, 1) := by decide +kernel
theorem dX5_worst_32 : decode cX5_worst 32 = .ok (.istore 4, 2) := by decide +kernel
theorem dX5_worst_34 : decode cX5_worst 34 = .ok (.iconst 0, 1) := by decide +kernel
theorem dX5_worst_35 : decode cX5_worst 35 = .ok (.istore 5, 2) := by decide +kernel
theorem dX5_worst_37 : decode cX5_worst 37 = .ok (.iload 5, 2) := by decide +kernel
theorem dX5_worst_39 : decode cX5_worst 39 = .ok (.aload_n 0, 1) := by decide +kernel
theorem dX5_worst_40 : decode cX5_worst 40 = .ok (.getfield 115, 3) := by decide +kernel
theorem dX5_worst_43 : decode cX5_worst 43 = .ok (.if_icmp .ge 33, 3) := by decide +kernel
theorem dX5_worst_46 : decode cX5_worst 46 = .ok (.iload 4, 2) := by decide +kernel
theorem dX5_worst_48 : decode cX5_worst 48 = .ok (.aload_n 0, 1) := by decide +kernel
theorem dX5_worst_49 : decode cX5_worst 49 = .ok (.getfield 31, 3) := by decide +kernel
theorem dX5_worst_52 : decode cX5_worst 52 = .ok (.bipush 12, 2) := by decide +kernel
theorem dX5_worst_54 : decode cX5_worst 54 = .ok (.iload 5, 2) := by decide +kernel
theorem dX5_worst_56 : decode cX5_worst 56 = .ok (.iadd, 1) := by decide +kernel
theorem dX5_worst_57 : decode cX5_worst 57 = .ok (.iaload, 1) := by decide +kernel
theorem dX5_worst_58 : decode cX5_worst 58 = .ok (.iconst 1, 1) := by decide +kernel
theorem dX5_worst_59 : decode cX5_worst 59 = .ok (.if_icmp .ne 7, 3) := by decide +kernel
theorem dX5_worst_62 : decode cX5_worst 62 = .ok (.iconst 0, 1) := by decide +kernel
theorem dX5_worst_63 : decode cX5_worst 63 = .ok (.goto 4, 3) := by decide +kernel
theorem dX5_worst_66 : decode cX5_worst 66 = .ok (.iconst 1, 1) := by decide +kernel
theorem dX5_worst_67 : decode cX5_worst 67 = .ok (.iadd, 1) := by decide +kernel
theorem dX5_worst_68 : decode cX5_worst 68 = .ok (.istore 4, 2) := by decide +kernel
theorem dX5_worst_70 : decode cX5_worst 70 = .ok (.iinc 5 1, 3) := by decide +kernel
theorem dX5_worst_73 : decode cX5_worst 73 = .ok (.goto (-36), 3) := by decide +kernel
theorem dX5_worst_76 : decode cX5_worst 76 = .ok (.iload 4, 2) := by decide +kernel
theorem dX5_worst_78 : decode cX5_worst 78 = .ok (.iload_n 2, 1) := by decide +kernel
theorem dX5_worst_79 : decode cX5_worst 79 = .ok (.if_icmp .ge 7, 3) := by decide +kernel
theorem dX5_worst_82 : decode cX5_worst 82 = .ok (.iload_n 3, 1) := by decide +kernel
theorem dX5_worst_83 : decode cX5_worst 83 = .ok (.goto 4, 3) := by decide +kernel
theorem dX5_worst_86 : decode cX5_worst 86 = .ok (.iload_n 1, 1) := by decide +kernel
theorem dX5_worst_87 : decode cX5_worst 87 = .ok (.istore_n 1, 1) := by decide +kernel
theorem dX5_worst_88 : decode cX5_worst 88 = .ok (.iload 4, 2) := by decide +kernel
theorem dX5_worst_90 : decode cX5_worst 90 = .ok (.iload_n 2, 1) := by decide +kernel
theorem dX5_worst_91 : decode cX5_worst 91 = .ok (.if_icmp .ge 8, 3) := by decide +kernel
theorem dX5_worst_94 : decode cX5_worst 94 = .ok (.iload 4, 2) := by decide +kernel
theorem dX5_worst_96 : decode cX5_worst 96 = .ok (.goto 4, 3) := by decide +kernel
theorem dX5_worst_99 : decode cX5_worst 99 = .ok (.iload_n 2, 1) := by decide +kernel
theorem dX5_worst_100 : decode cX5_worst 100 = .ok (.istore_n 2, 1) := by decide +kernel
theorem dX5_worst_101 : decode cX5_worst 101 = .ok (.aload_n 0, 1) := by decide +kernel
theorem dX5_worst_102 : decode cX5_worst 102 = .ok (.iconst 1, 1) := by decide +kernel
theorem dX5_worst_103 : decode cX5_worst 103 = .ok (.iconst 0, 1) := by decide +kernel
theorem dX5_worst_104 : decode cX5_worst 104 = .ok (.invokevirtual 198, 3) := by decide +kernel
theorem dX5_worst_107 : decode cX5_worst 107 = .ok (.istore 5, 2) := by decide +kernel
theorem dX5_worst_109 : decode cX5_worst 109 = .ok (.iinc 3 1, 3) := by decide +kernel
theorem dX5_worst_112 : decode cX5_worst 112 = .ok (.goto (-87), 3) := by decide +kernel
theorem dX5_worst_115 : decode cX5_worst 115 = .ok (.aload_n 0, 1) := by decide +kernel
theorem dX5_worst_116 : decode cX5_worst 116 = .ok (.iload_n 1, 1) := by decide +kernel
theorem dX5_worst_117 : decode cX5_worst 117 = .ok (.iload_n 2, 1) := by decide +kernel
theorem dX5_worst_118 : decode cX5_worst 118 = .ok (.invokevirtual 189, 3) := by decide +kernel
theorem dX5_worst_121 : decode cX5_worst 121 = .ok (.ireturn, 1) := by decide +kernel
theorem dX5_bestOf_0 : decode cX5_bestOf 0 = .ok (.aload_n 0, 1) := by decide +kernel
theorem dX5_bestOf_1 : decode cX5_bestOf 1 = .ok (.invokevirtual 174, 3) := by decide +kernel
theorem dX5_bestOf_4 : decode cX5_bestOf 4 = .ok (.iconst 0, 1) := by decide +kernel
theorem dX5_bestOf_5 : decode cX5_bestOf 5 = .ok (.istore_n 3, 1) := by decide +kernel
theorem dX5_bestOf_6 : decode cX5_bestOf 6 = .ok (.iconst (-1), 1) := by decide +kernel
theorem dX5_bestOf_7 : decode cX5_bestOf 7 = .ok (.istore 4, 2) := by decide +kernel
theorem dX5_bestOf_9 : decode cX5_bestOf 9 = .ok (.iconst 1, 1) := by decide +kernel
theorem dX5_bestOf_10 : decode cX5_bestOf 10 = .ok (.istore 5, 2) := by decide +kernel
theorem dX5_bestOf_12 : decode cX5_bestOf 12 = .ok (.iload 5, 2) := by decide +kernel
theorem dX5_bestOf_14 : decode cX5_bestOf 14 = .ok (.bipush 10, 2) := by decide +kernel
theorem dX5_bestOf_16 : decode cX5_bestOf 16 = .ok (.if_icmp .ge 59, 3) := by decide +kernel
theorem dX5_bestOf_19 : decode cX5_bestOf 19 = .ok (.aload_n 0, 1) := by decide +kernel
theorem dX5_bestOf_20 : decode cX5_bestOf 20 = .ok (.invokevirtual 195, 3) := by decide +kernel
theorem dX5_bestOf_23 : decode cX5_bestOf 23 = .ok (.aload_n 0, 1) := by decide +kernel
theorem dX5_bestOf_24 : decode cX5_bestOf 24 = .ok (.getfield 31, 3) := by decide +kernel
theorem dX5_bestOf_27 : decode cX5_bestOf 27 = .ok (.iload_n 1, 1) := by decide +kernel
theorem dX5_bestOf_28 : decode cX5_bestOf 28 = .ok (.iload 5, 2) := by decide +kernel
theorem dX5_bestOf_30 : decode cX5_bestOf 30 = .ok (.iastore, 1) := by decide +kernel
theorem dX5_bestOf_31 : decode cX5_bestOf 31 = .ok (.aload_n 0, 1) := by decide +kernel
theorem dX5_bestOf_32 : decode cX5_bestOf 32 = .ok (.iload_n 2, 1) := by decide +kernel
theorem dX5_bestOf_33 : decode cX5_bestOf 33 = .ok (.iconst 0, 1) := by decide +kernel
theorem dX5_bestOf_34 : decode cX5_bestOf 34 = .ok (.invokevirtual 198, 3) := by decide +kernel
theorem dX5_bestOf_37 : decode cX5_bestOf 37 = .ok (.istore 6, 2) := by decide +kernel
theorem dX5_bestOf_39 : decode cX5_bestOf 39 = .ok (.iload 6, 2) := by decide +kernel
theorem dX5_bestOf_41 : decode cX5_bestOf 41 = .ok (.iload 4, 2) := by decide +kernel
theorem dX5_bestOf_43 : decode cX5_bestOf 43 = .ok (.if_icmp .le 8, 3) := by decide +kernel
theorem dX5_bestOf_46 : decode cX5_bestOf 46 = .ok (.iload 5, 2) := by decide +kernel
theorem dX5_bestOf_48 : decode cX5_bestOf 48 = .ok (.goto 4, 3) := by decide +kernel
theorem dX5_bestOf_51 : decode cX5_bestOf 51 = .ok (.iload_n 3, 1) := by decide +kernel
theorem dX5_bestOf_52 : decode cX5_bestOf 52 = .ok (.istore_n 3, 1) := by decide +kernel
theorem dX5_bestOf_53 : decode cX5_bestOf 53 = .ok (.iload 6, 2) := by decide +kernel
theorem dX5_bestOf_55 : decode cX5_bestOf 55 = .ok (.iload 4, 2) := by decide +kernel
theorem dX5_bestOf_57 : decode cX5_bestOf 57 = .ok (.if_icmp .le 8, 3) := by decide +kernel
theorem dX5_bestOf_60 : decode cX5_bestOf 60 = .ok (.iload 6, 2) := by decide +kernel
theorem dX5_bestOf_62 : decode cX5_bestOf 62 = .ok (.goto 5, 3) := by decide +kernel
theorem dX5_bestOf_65 : decode cX5_bestOf 65 = .ok (.iload 4, 2) := by decide +kernel
theorem dX5_bestOf_67 : decode cX5_bestOf 67 = .ok (.istore 4, 2) := by decide +kernel
theorem dX5_bestOf_69 : decode cX5_bestOf 69 = .ok (.iinc 5 1, 3) := by decide +kernel
theorem dX5_bestOf_72 : decode cX5_bestOf 72 = .ok (.goto (-60), 3) := by decide +kernel
theorem dX5_bestOf_75 : decode cX5_bestOf 75 = .ok (.aload_n 0, 1) := by decide +kernel
theorem dX5_bestOf_76 : decode cX5_bestOf 76 = .ok (.iload_n 3, 1) := by decide +kernel
theorem dX5_bestOf_77 : decode cX5_bestOf 77 = .ok (.iload 4, 2) := by decide +kernel
theorem dX5_bestOf_79 : decode cX5_bestOf 79 = .ok (.invokevirtual 189, 3) := by decide +kernel
theorem dX5_bestOf_82 : decode cX5_bestOf 82 = .ok (.ireturn, 1) := by decide +kernel
theorem dX5_best_0 : decode cX5_best 0 = .ok (.iload_n 1, 1) := by decide +kernel
theorem dX5_best_1 : decode cX5_best 1 = .ok (.i2l, 1) := by decide +kernel
theorem dX5_best_2 : decode cX5_best 2 = .ok (.lconst 1, 1) := by decide +kernel
theorem dX5_best_3 : decode cX5_best 3 = .ok (.ldc2_w 201, 3) := by decide +kernel
theorem dX5_best_6 : decode cX5_best 6 = .ok (.invokestatic 75, 3) := by decide +kernel
theorem dX5_best_9 : decode cX5_best 9 = .ok (.ifCond .ne 5, 3) := by decide +kernel
theorem dX5_best_12 : decode cX5_best 12 = .ok (.iconst (-1), 1) := by decide +kernel
theorem dX5_best_13 : decode cX5_best 13 = .ok (.ireturn, 1) := by decide +kernel
theorem dX5_best_14 : decode cX5_best 14 = .ok (.aload_n 0, 1) := by decide +kernel
theorem dX5_best_15 : decode cX5_best 15 = .ok (.getfield 115, 3) := by decide +kernel
theorem dX5_best_18 : decode cX5_best 18 = .ok (.ifCond .ne 8, 3) := by decide +kernel
theorem dX5_best_21 : decode cX5_best 21 = .ok (.bipush (-4), 2) := by decide +kernel
theorem dX5_best_23 : decode cX5_best 23 = .ok (.goto 9, 3) := by decide +kernel
theorem dX5_best_26 : decode cX5_best 26 = .ok (.aload_n 0, 1) := by decide +kernel
theorem dX5_best_27 : decode cX5_best 27 = .ok (.iconst 4, 1) := by decide +kernel
theorem dX5_best_28 : decode cX5_best 28 = .ok (.iload_n 1, 1) := by decide +kernel
theorem dX5_best_29 : decode cX5_best 29 = .ok (.invokevirtual 203, 3) := by decide +kernel
theorem dX5_best_32 : decode cX5_best 32 = .ok (.ireturn, 1) := by decide +kernel
theorem dX5_mend_0 : decode cX5_mend 0 = .ok (.iload_n 1, 1) := by decide +kernel
theorem dX5_mend_1 : decode cX5_mend 1 = .ok (.i2l, 1) := by decide +kernel
theorem dX5_mend_2 : decode cX5_mend 2 = .ok (.lconst 1, 1) := by decide +kernel
theorem dX5_mend_3 : decode cX5_mend 3 = .ok (.ldc2_w 201, 3) := by decide +kernel
theorem dX5_mend_6 : decode cX5_mend 6 = .ok (.invokestatic 75, 3) := by decide +kernel
theorem dX5_mend_9 : decode cX5_mend 9 = .ok (.ifCond .ne 5, 3) := by decide +kernel
theorem dX5_mend_12 : decode cX5_mend 12 = .ok (.iconst (-1), 1) := by decide +kernel
theorem dX5_mend_13 : decode cX5_mend 13 = .ok (.ireturn, 1) := by decide +kernel
theorem dX5_mend_14 : decode cX5_mend 14 = .ok (.aload_n 0, 1) := by decide +kernel
theorem dX5_mend_15 : decode cX5_mend 15 = .ok (.getfield 115, 3) := by decide +kernel
theorem dX5_mend_18 : decode cX5_mend 18 = .ok (.ifCond .ne 6, 3) := by decide +kernel
theorem dX5_mend_21 : decode cX5_mend 21 = .ok (.bipush (-4), 2) := by decide +kernel
theorem dX5_mend_23 : decode cX5_mend 23 = .ok (.ireturn, 1) := by decide +kernel
theorem dX5_mend_24 : decode cX5_mend 24 = .ok (.aload_n 0, 1) := by decide +kernel
theorem dX5_mend_25 : decode cX5_mend 25 = .ok (.invokevirtual 174, 3) := by decide +kernel
theorem dX5_mend_28 : decode cX5_mend 28 = .ok (.aload_n 0, 1) := by decide +kernel
theorem dX5_mend_29 : decode cX5_mend 29 = .ok (.invokevirtual 195, 3) := by decide +kernel
theorem dX5_mend_32 : decode cX5_mend 32 = .ok (.aload_n 0, 1) := by decide +kernel
theorem dX5_mend_33 : decode cX5_mend 33 = .ok (.iload_n 1, 1) := by decide +kernel
theorem dX5_mend_34 : decode cX5_mend 34 = .ok (.iconst 0, 1) := by decide +kernel
theorem dX5_mend_35 : decode cX5_mend 35 = .ok (.invokevirtual 198, 3) := by decide +kernel
theorem dX5_mend_38 : decode cX5_mend 38 = .ok (.istore_n 2, 1) := by decide +kernel
theorem dX5_mend_39 : decode cX5_mend 39 = .ok (.bipush (-9), 2) := by decide +kernel
theorem dX5_mend_41 : decode cX5_mend 41 = .ok (.istore_n 3, 1) := by decide +kernel
theorem dX5_mend_42 : decode cX5_mend 42 = .ok (.iconst 0, 1) := by decide +kernel
theorem dX5_mend_43 : decode cX5_mend 43 = .ok (.istore 4, 2) := by decide +kernel
theorem dX5_mend_45 : decode cX5_mend 45 = .ok (.iload 4, 2) := by decide +kernel
theorem dX5_mend_47 : decode cX5_mend 47 = .ok (.bipush 8, 2) := by decide +kernel
theorem dX5_mend_49 : decode cX5_mend 49 = .ok (.if_icmp .ge 60, 3) := by decide +kernel
theorem dX5_mend_52 : decode cX5_mend 52 = .ok (.aload_n 0, 1) := by decide +kernel
theorem dX5_mend_53 : decode cX5_mend 53 = .ok (.invokevirtual 195, 3) := by decide +kernel
theorem dX5_mend_56 : decode cX5_mend 56 = .ok (.aload_n 0, 1) := by decide +kernel
theorem dX5_mend_57 : decode cX5_mend 57 = .ok (.getfield 31, 3) := by decide +kernel
theorem dX5_mend_60 : decode cX5_mend 60 = .ok (.iconst 3, 1) := by decide +kernel
theorem dX5_mend_61 : decode cX5_mend 61 = .ok (.dup2, 1) := by decide +kernel
theorem dX5_mend_62 : decode cX5_mend 62 = .ok (.iaload, 1) := by decide +kernel
theorem dX5_mend_63 : decode cX5_mend 63 = .ok (.iconst 1, 1) := by decide +kernel
theorem dX5_mend_64 : decode cX5_mend 64 = .ok (.iload 4, 2) := by decide +kernel
theorem dX5_mend_66 : decode cX5_mend 66 = .ok (.ishl, 1) := by decide +kernel
theorem dX5_mend_67 : decode cX5_mend 67 = .ok (.ixor, 1) := by decide +kernel
theorem dX5_mend_68 : decode cX5_mend 68 = .ok (.iastore, 1) := by decide +kernel
theorem dX5_mend_69 : decode cX5_mend 69 = .ok (.aload_n 0, 1) := by decide +kernel
theorem dX5_mend_70 : decode cX5_mend 70 = .ok (.iload_n 1, 1) := by decide +kernel
theorem dX5_mend_71 : decode cX5_mend 71 = .ok (.iconst 0, 1) := by decide +kernel
theorem dX5_mend_72 : decode cX5_mend 72 = .ok (.invokevirtual 198, 3) := by decide +kernel
theorem dX5_mend_75 : decode cX5_mend 75 = .ok (.istore 5, 2) := by decide +kernel
theorem dX5_mend_77 : decode cX5_mend 77 = .ok (.iload 5, 2) := by decide +kernel
theorem dX5_mend_79 : decode cX5_mend 79 = .ok (.iload_n 2, 1) := by decide +kernel
theorem dX5_mend_80 : decode cX5_mend 80 = .ok (.if_icmp .le 8, 3) := by decide +kernel
theorem dX5_mend_83 : decode cX5_mend 83 = .ok (.iload 4, 2) := by decide +kernel
theorem dX5_mend_85 : decode cX5_mend 85 = .ok (.goto 4, 3) := by decide +kernel
theorem dX5_mend_88 : decode cX5_mend 88 = .ok (.iload_n 3, 1) := by decide +kernel
theorem dX5_mend_89 : decode cX5_mend 89 = .ok (.istore_n 3, 1) := by decide +kernel
theorem dX5_mend_90 : decode cX5_mend 90 = .ok (.iload 5, 2) := by decide +kernel
theorem dX5_mend_92 : decode cX5_mend 92 = .ok (.iload_n 2, 1) := by decide +kernel
theorem dX5_mend_93 : decode cX5_mend 93 = .ok (.if_icmp .le 8, 3) := by decide +kernel
theorem dX5_mend_96 : decode cX5_mend 96 = .ok (.iload 5, 2) := by decide +kernel
theorem dX5_mend_98 : decode cX5_mend 98 = .ok (.goto 4, 3) := by decide +kernel
theorem dX5_mend_101 : decode cX5_mend 101 = .ok (.iload_n 2, 1) := by decide +kernel
theorem dX5_mend_102 : decode cX5_mend 102 = .ok (.istore_n 2, 1) := by decide +kernel
theorem dX5_mend_103 : decode cX5_mend 103 = .ok (.iinc 4 1, 3) := by decide +kernel
theorem dX5_mend_106 : decode cX5_mend 106 = .ok (.goto (-61), 3) := by decide +kernel
theorem dX5_mend_109 : decode cX5_mend 109 = .ok (.iload_n 3, 1) := by decide +kernel
theorem dX5_mend_110 : decode cX5_mend 110 = .ok (.bipush (-9), 2) := by decide +kernel
theorem dX5_mend_112 : decode cX5_mend 112 = .ok (.if_icmp .ne 8, 3) := by decide +kernel
theorem dX5_mend_115 : decode cX5_mend 115 = .ok (.bipush (-9), 2) := by decide +kernel
theorem dX5_mend_117 : decode cX5_mend 117 = .ok (.goto 9, 3) := by decide +kernel
theorem dX5_mend_120 : decode cX5_mend 120 = .ok (.aload_n 0, 1) := by decide +kernel
theorem dX5_mend_121 : decode cX5_mend 121 = .ok (.iload_n 3, 1) := by decide +kernel
theorem dX5_mend_122 : decode cX5_mend 122 = .ok (.iload_n 2, 1) := by decide +kernel
theorem dX5_mend_123 : decode cX5_mend 123 = .ok (.invokevirtual 189, 3) := by decide +kernel
theorem dX5_mend_126 : decode cX5_mend 126 = .ok (.ireturn, 1) := by decide +kernel
theorem dX5_tune_0 : decode cX5_tune 0 = .ok (.aload_n 0, 1) := by decide +kernel
theorem dX5_tune_1 : decode cX5_tune 1 = .ok (.iload_n 1, 1) := by decide +kernel
theorem dX5_tune_2 : decode cX5_tune 2 = .ok (.invokevirtual 166, 3) := by decide +kernel
theorem dX5_tune_5 : decode cX5_tune 5 = .ok (.ifCond .eq 26, 3) := by decide +kernel
theorem dX5_tune_8 : decode cX5_tune 8 = .ok (.iload_n 2, 1) := by decide +kernel
theorem dX5_tune_9 : decode cX5_tune 9 = .ok (.i2l, 1) := by decide +kernel
theorem dX5_tune_10 : decode cX5_tune 10 = .ok (.lconst 1, 1) := by decide +kernel
theorem dX5_tune_11 : decode cX5_tune 11 = .ok (.ldc2_w 201, 3) := by decide +kernel
theorem dX5_tune_14 : decode cX5_tune 14 = .ok (.invokestatic 75, 3) := by decide +kernel
theorem dX5_tune_17 : decode cX5_tune 17 = .ok (.ifCond .eq 14, 3) := by decide +kernel
theorem dX5_tune_20 : decode cX5_tune 20 = .ok (.aload_n 0, 1) := by decide +kernel
theorem dX5_tune_21 : decode cX5_tune 21 = .ok (.iconst 5, 1) := by decide +kernel
theorem dX5_tune_22 : decode cX5_tune 22 = .ok (.iload_n 1, 1) := by decide +kernel
theorem dX5_tune_23 : decode cX5_tune 23 = .ok (.iadd, 1) := by decide +kernel
theorem dX5_tune_24 : decode cX5_tune 24 = .ok (.iload_n 2, 1) := by decide +kernel
theorem dX5_tune_25 : decode cX5_tune 25 = .ok (.invokevirtual 203, 3) := by decide +kernel
theorem dX5_tune_28 : decode cX5_tune 28 = .ok (.goto 4, 3) := by decide +kernel
theorem dX5_tune_31 : decode cX5_tune 31 = .ok (.iconst (-1), 1) := by decide +kernel
theorem dX5_tune_32 : decode cX5_tune 32 = .ok (.ireturn, 1) := by decide +kernel
theorem dX5_hush_0 : decode cX5_hush 0 = .ok (.iload_n 1, 1) := by decide +kernel
theorem dX5_hush_1 : decode cX5_hush 1 = .ok (.i2l, 1) := by decide +kernel
theorem dX5_hush_2 : decode cX5_hush 2 = .ok (.lconst 1, 1) := by decide +kernel
theorem dX5_hush_3 : decode cX5_hush 3 = .ok (.ldc2_w 206, 3) := by decide +kernel
theorem dX5_hush_6 : decode cX5_hush 6 = .ok (.invokestatic 75, 3) := by decide +kernel
theorem dX5_hush_9 : decode cX5_hush 9 = .ok (.ifCond .ne 5, 3) := by decide +kernel
theorem dX5_hush_12 : decode cX5_hush 12 = .ok (.iconst (-1), 1) := by decide +kernel
theorem dX5_hush_13 : decode cX5_hush 13 = .ok (.ireturn, 1) := by decide +kernel
theorem dX5_hush_14 : decode cX5_hush 14 = .ok (.aload_n 0, 1) := by decide +kernel
theorem dX5_hush_15 : decode cX5_hush 15 = .ok (.getfield 115, 3) := by decide +kernel
theorem dX5_hush_18 : decode cX5_hush 18 = .ok (.ifCond .ne 6, 3) := by decide +kernel
theorem dX5_hush_21 : decode cX5_hush 21 = .ok (.bipush (-4), 2) := by decide +kernel
theorem dX5_hush_23 : decode cX5_hush 23 = .ok (.ireturn, 1) := by decide +kernel
theorem dX5_hush_24 : decode cX5_hush 24 = .ok (.aload_n 0, 1) := by decide +kernel
theorem dX5_hush_25 : decode cX5_hush 25 = .ok (.invokevirtual 174, 3) := by decide +kernel
theorem dX5_hush_28 : decode cX5_hush 28 = .ok (.iconst 0, 1) := by decide +kernel
theorem dX5_hush_29 : decode cX5_hush 29 = .ok (.istore_n 2, 1) := by decide +kernel
theorem dX5_hush_30 : decode cX5_hush 30 = .ok (.iconst (-1), 1) := by decide +kernel
theorem dX5_hush_31 : decode cX5_hush 31 = .ok (.istore_n 3, 1) := by decide +kernel
theorem dX5_hush_32 : decode cX5_hush 32 = .ok (.iconst 0, 1) := by decide +kernel
theorem dX5_hush_33 : decode cX5_hush 33 = .ok (.istore 4, 2) := by decide +kernel
theorem dX5_hush_35 : decode cX5_hush 35 = .ok (.iload 4, 2) := by decide +kernel
theorem dX5_hush_37 : decode cX5_hush 37 = .ok (.iconst 1, 1) := by decide +kernel
theorem dX5_hush_38 : decode cX5_hush 38 = .ok (.aload_n 0, 1) := by decide +kernel
theorem dX5_hush_39 : decode cX5_hush 39 = .ok (.getfield 115, 3) := by decide +kernel
theorem dX5_hush_42 : decode cX5_hush 42 = .ok (.ishl, 1) := by decide +kernel
theorem dX5_hush_43 : decode cX5_hush 43 = .ok (.if_icmp .ge 52, 3) := by decide +kernel
theorem dX5_hush_46 : decode cX5_hush 46 = .ok (.aload_n 0, 1) := by decide +kernel
theorem dX5_hush_47 : decode cX5_hush 47 = .ok (.invokevirtual 195, 3) := by decide +kernel
theorem dX5_hush_50 : decode cX5_hush 50 = .ok (.aload_n 0, 1) := by decide +kernel
theorem dX5_hush_51 : decode cX5_hush 51 = .ok (.iload_n 1, 1) := by decide +kernel
theorem dX5_hush_52 : decode cX5_hush 52 = .ok (.iload 4, 2) := by decide +kernel
theorem dX5_hush_54 : decode cX5_hush 54 = .ok (.invokevirtual 198, 3) := by decide +kernel
theorem dX5_hush_57 : decode cX5_hush 57 = .ok (.istore 5, 2) := by decide +kernel
theorem dX5_hush_59 : decode cX5_hush 59 = .ok (.iload 5, 2) := by decide +kernel
theorem dX5_hush_61 : decode cX5_hush 61 = .ok (.iload_n 3, 1) := by decide +kernel
theorem dX5_hush_62 : decode cX5_hush 62 = .ok (.if_icmp .gt 21, 3) := by decide +kernel
theorem dX5_hush_65 : decode cX5_hush 65 = .ok (.iload 5, 2) := by decide +kernel
theorem dX5_hush_67 : decode cX5_hush 67 = .ok (.iload_n 3, 1) := by decide +kernel
theorem dX5_hush_68 : decode cX5_hush 68 = .ok (.if_icmp .ne 21, 3) := by decide +kernel
theorem dX5_hush_71 : decode cX5_hush 71 = .ok (.iload 4, 2) := by decide +kernel
theorem dX5_hush_73 : decode cX5_hush 73 = .ok (.invokestatic 146, 3) := by decide +kernel
theorem dX5_hush_76 : decode cX5_hush 76 = .ok (.iload_n 2, 1) := by decide +kernel
theorem dX5_hush_77 : decode cX5_hush 77 = .ok (.invokestatic 146, 3) := by decide +kernel
theorem dX5_hush_80 : decode cX5_hush 80 = .ok (.if_icmp .ge 9, 3) := by decide +kernel
theorem dX5_hush_83 : decode cX5_hush 83 = .ok (.iload 4, 2) := by decide +kernel
theorem dX5_hush_85 : decode cX5_hush 85 = .ok (.istore_n 2, 1) := by decide +kernel
theorem dX5_hush_86 : decode cX5_hush 86 = .ok (.iload 5, 2) := by decide +kernel
theorem dX5_hush_88 : decode cX5_hush 88 = .ok (.istore_n 3, 1) := by decide +kernel
theorem dX5_hush_89 : decode cX5_hush 89 = .ok (.iinc 4 1, 3) := by decide +kernel
theorem dX5_hush_92 : decode cX5_hush 92 = .ok (.goto (-57), 3) := by decide +kernel
theorem dX5_hush_95 : decode cX5_hush 95 = .ok (.aload_n 0, 1) := by decide +kernel
theorem dX5_hush_96 : decode cX5_hush 96 = .ok (.iload_n 2, 1) := by decide +kernel
theorem dX5_hush_97 : decode cX5_hush 97 = .ok (.iload_n 3, 1) := by decide +kernel
theorem dX5_hush_98 : decode cX5_hush 98 = .ok (.invokevirtual 189, 3) := by decide +kernel
theorem dX5_hush_101 : decode cX5_hush 101 = .ok (.ireturn, 1) := by decide +kernel
theorem dX5_seen_0 : decode cX5_seen 0 = .ok (.aload_n 0, 1) := by decide +kernel
theorem dX5_seen_1 : decode cX5_seen 1 = .ok (.getfield 7, 3) := by decide +kernel
theorem dX5_seen_4 : decode cX5_seen 4 = .ok (.iload_n 1, 1) := by decide +kernel
theorem dX5_seen_5 : decode cX5_seen 5 = .ok (.iaload, 1) := by decide +kernel
theorem dX5_seen_6 : decode cX5_seen 6 = .ok (.ifCond .ge 5, 3) := by decide +kernel
theorem dX5_seen_9 : decode cX5_seen 9 = .ok (.iconst 1, 1) := by decide +kernel
theorem dX5_seen_10 : decode cX5_seen 10 = .ok (.ireturn, 1) := by decide +kernel
theorem dX5_seen_11 : decode cX5_seen 11 = .ok (.aload_n 0, 1) := by decide +kernel
theorem dX5_seen_12 : decode cX5_seen 12 = .ok (.getfield 7, 3) := by decide +kernel
theorem dX5_seen_15 : decode cX5_seen 15 = .ok (.iload_n 1, 1) := by decide +kernel
theorem dX5_seen_16 : decode cX5_seen 16 = .ok (.iaload, 1) := by decide +kernel
theorem dX5_seen_17 : decode cX5_seen 17 = .ok (.i2l, 1) := by decide +kernel
theorem dX5_seen_18 : decode cX5_seen 18 = .ok (.lconst 1, 1) := by decide +kernel
theorem dX5_seen_19 : decode cX5_seen 19 = .ok (.ldc2_w 206, 3) := by decide +kernel
theorem dX5_seen_22 : decode cX5_seen 22 = .ok (.invokestatic 75, 3) := by decide +kernel
theorem dX5_seen_25 : decode cX5_seen 25 = .ok (.ifCond .ne 5, 3) := by decide +kernel
theorem dX5_seen_28 : decode cX5_seen 28 = .ok (.iconst 5, 1) := by decide +kernel
theorem dX5_seen_29 : decode cX5_seen 29 = .ok (.ireturn, 1) := by decide +kernel
theorem dX5_seen_30 : decode cX5_seen 30 = .ok (.iconst 0, 1) := by decide +kernel
theorem dX5_seen_31 : decode cX5_seen 31 = .ok (.istore_n 2, 1) := by decide +kernel
theorem dX5_seen_32 : decode cX5_seen 32 = .ok (.iload_n 2, 1) := by decide +kernel
theorem dX5_seen_33 : decode cX5_seen 33 = .ok (.aload_n 0, 1) := by decide +kernel
theorem dX5_seen_34 : decode cX5_seen 34 = .ok (.getfield 7, 3) := by decide +kernel
theorem dX5_seen_37 : decode cX5_seen 37 = .ok (.iload_n 1, 1) := by decide +kernel
theorem dX5_seen_38 : decode cX5_seen 38 = .ok (.iaload, 1) := by decide +kernel
theorem dX5_seen_39 : decode cX5_seen 39 = .ok (.if_icmp .ge 33, 3) := by decide +kernel
theorem dX5_seen_42 : decode cX5_seen 42 = .ok (.aload_n 0, 1) := by decide +kernel
theorem dX5_seen_43 : decode cX5_seen 43 = .ok (.getfield 13, 3) := by decide +kernel
theorem dX5_seen_46 : decode cX5_seen 46 = .ok (.bipush 40, 2) := by decide +kernel
theorem dX5_seen_48 : decode cX5_seen 48 = .ok (.iload_n 1, 1) := by decide +kernel
theorem dX5_seen_49 : decode cX5_seen 49 = .ok (.imul, 1) := by decide +kernel
theorem dX5_seen_50 : decode cX5_seen 50 = .ok (.iload_n 2, 1) := by decide +kernel
theorem dX5_seen_51 : decode cX5_seen 51 = .ok (.iadd, 1) := by decide +kernel
theorem dX5_seen_52 : decode cX5_seen 52 = .ok (.iaload, 1) := by decide +kernel
theorem dX5_seen_53 : decode cX5_seen 53 = .ok (.i2l, 1) := by decide +kernel
theorem dX5_seen_54 : decode cX5_seen 54 = .ok (.lconst 0, 1) := by decide +kernel
theorem dX5_seen_55 : decode cX5_seen 55 = .ok (.ldc2_w 177, 3) := by decide +kernel
theorem dX5_seen_58 : decode cX5_seen 58 = .ok (.invokestatic 75, 3) := by decide +kernel
theorem dX5_seen_61 : decode cX5_seen 61 = .ok (.ifCond .ne 5, 3) := by decide +kernel
theorem dX5_seen_64 : decode cX5_seen 64 = .ok (.iconst 3, 1) := by decide +kernel
theorem dX5_seen_65 : decode cX5_seen 65 = .ok (.ireturn, 1) := by decide +kernel
theorem dX5_seen_66 : decode cX5_seen 66 = .ok (.iinc 2 1, 3) := by decide +kernel
theorem dX5_seen_69 : decode cX5_seen 69 = .ok (.goto (-37), 3) := by decide +kernel
theorem dX5_seen_72 : decode cX5_seen 72 = .ok (.iconst 0, 1) := by decide +kernel
theorem dX5_seen_73 : decode cX5_seen 73 = .ok (.ireturn, 1) := by decide +kernel
theorem dX5_comesSo_0 : decode cX5_comesSo 0 = .ok (.iconst 0, 1) := by decide +kernel
theorem dX5_comesSo_1 : decode cX5_comesSo 1 = .ok (.istore_n 2, 1) := by decide +kernel
theorem dX5_comesSo_2 : decode cX5_comesSo 2 = .ok (.iload_n 2, 1) := by decide +kernel
theorem dX5_comesSo_3 : decode cX5_comesSo 3 = .ok (.aload_n 0, 1) := by decide +kernel
theorem dX5_comesSo_4 : decode cX5_comesSo 4 = .ok (.getfield 7, 3) := by decide +kernel
theorem dX5_comesSo_7 : decode cX5_comesSo 7 = .ok (.iload_n 1, 1) := by decide +kernel
theorem dX5_comesSo_8 : decode cX5_comesSo 8 = .ok (.iaload, 1) := by decide +kernel
theorem dX5_comesSo_9 : decode cX5_comesSo 9 = .ok (.if_icmp .ge 31, 3) := by decide +kernel
theorem dX5_comesSo_12 : decode cX5_comesSo 12 = .ok (.aload_n 0, 1) := by decide +kernel
theorem dX5_comesSo_13 : decode cX5_comesSo 13 = .ok (.iconst 1, 1) := by decide +kernel
theorem dX5_comesSo_14 : decode cX5_comesSo 14 = .ok (.iconst 0, 1) := by decide +kernel
theorem dX5_comesSo_15 : decode cX5_comesSo 15 = .ok (.invokevirtual 198, 3) := by decide +kernel
theorem dX5_comesSo_18 : decode cX5_comesSo 18 = .ok (.aload_n 0, 1) := by decide +kernel
theorem dX5_comesSo_19 : decode cX5_comesSo 19 = .ok (.getfield 13, 3) := by decide +kernel
theorem dX5_comesSo_22 : decode cX5_comesSo 22 = .ok (.bipush 40, 2) := by decide +kernel
theorem dX5_comesSo_24 : decode cX5_comesSo 24 = .ok (.iload_n 1, 1) := by decide +kernel
theorem dX5_comesSo_25 : decode cX5_comesSo 25 = .ok (.imul, 1) := by decide +kernel
theorem dX5_comesSo_26 : decode cX5_comesSo 26 = .ok (.iload_n 2, 1) := by decide +kernel
theorem dX5_comesSo_27 : decode cX5_comesSo 27 = .ok (.iadd, 1) := by decide +kernel
theorem dX5_comesSo_28 : decode cX5_comesSo 28 = .ok (.iaload, 1) := by decide +kernel
theorem dX5_comesSo_29 : decode cX5_comesSo 29 = .ok (.if_icmp .eq 5, 3) := by decide +kernel
theorem dX5_comesSo_32 : decode cX5_comesSo 32 = .ok (.iconst 0, 1) := by decide +kernel
theorem dX5_comesSo_33 : decode cX5_comesSo 33 = .ok (.ireturn, 1) := by decide +kernel
theorem dX5_comesSo_34 : decode cX5_comesSo 34 = .ok (.iinc 2 1, 3) := by decide +kernel
theorem dX5_comesSo_37 : decode cX5_comesSo 37 = .ok (.goto (-35), 3) := by decide +kernel
theorem dX5_comesSo_40 : decode cX5_comesSo 40 = .ok (.iconst 1, 1) := by decide +kernel
theorem dX5_comesSo_41 : decode cX5_comesSo 41 = .ok (.ireturn, 1) := by decide +kernel
theorem dX5_patterns_0 : decode cX5_patterns 0 = .ok (.iload_n 1, 1) := by decide +kernel
theorem dX5_patterns_1 : decode cX5_patterns 1 = .ok (.invokestatic 81, 3) := by decide +kernel
theorem dX5_patterns_4 : decode cX5_patterns 4 = .ok (.ifCond .ne 5, 3) := by decide +kernel
theorem dX5_patterns_7 : decode cX5_patterns 7 = .ok (.iconst (-1), 1) := by decide +kernel
theorem dX5_patterns_8 : decode cX5_patterns 8 = .ok (.ireturn, 1) := by decide +kernel
theorem dX5_patterns_9 : decode cX5_patterns 9 = .ok (.aload_n 0, 1) := by decide +kernel
theorem dX5_patterns_10 : decode cX5_patterns 10 = .ok (.getfield 115, 3) := by decide +kernel
theorem dX5_patterns_13 : decode cX5_patterns 13 = .ok (.ifCond .ne 6, 3) := by decide +kernel
theorem dX5_patterns_16 : decode cX5_patterns 16 = .ok (.bipush (-4), 2) := by decide +kernel
theorem dX5_patterns_18 : decode cX5_patterns 18 = .ok (.ireturn, 1) := by decide +kernel
theorem dX5_patterns_19 : decode cX5_patterns 19 = .ok (.aload_n 0, 1) := by decide +kernel
theorem dX5_patterns_20 : decode cX5_patterns 20 = .ok (.iload_n 1, 1) := by decide +kernel
theorem dX5_patterns_21 : decode cX5_patterns 21 = .ok (.invokevirtual 208, 3) := by decide +kernel
theorem dX5_patterns_24 : decode cX5_patterns 24 = .ok (.istore_n 2, 1) := by decide +kernel
theorem dX5_patterns_25 : decode cX5_patterns 25 = .ok (.iload_n 2, 1) := by decide +kernel
theorem dX5_patterns_26 : decode cX5_patterns 26 = .ok (.ifCond .le 9, 3) := by decide +kernel
theorem dX5_patterns_29 : decode cX5_patterns 29 = .ok (.aload_n 0, 1) := by decide +kernel
theorem dX5_patterns_30 : decode cX5_patterns 30 = .ok (.iload_n 2, 1) := by decide +kernel
theorem dX5_patterns_31 : decode cX5_patterns 31 = .ok (.invokevirtual 85, 3) := by decide +kernel
theorem dX5_patterns_34 : decode cX5_patterns 34 = .ok (.ireturn, 1) := by decide +kernel
theorem dX5_patterns_35 : decode cX5_patterns 35 = .ok (.aload_n 0, 1) := by decide +kernel
theorem dX5_patterns_36 : decode cX5_patterns 36 = .ok (.invokevirtual 174, 3) := by decide +kernel
theorem dX5_patterns_39 : decode cX5_patterns 39 = .ok (.iconst 0, 1) := by decide +kernel
theorem dX5_patterns_40 : decode cX5_patterns 40 = .ok (.istore_n 3, 1) := by decide +kernel
theorem dX5_patterns_41 : decode cX5_patterns 41 = .ok (.iconst 0, 1) := by decide +kernel
theorem dX5_patterns_42 : decode cX5_patterns 42 = .ok (.istore 4, 2) := by decide +kernel
theorem dX5_patterns_44 : decode cX5_patterns 44 = .ok (.sipush 255, 3) := by decide +kernel
theorem dX5_patterns_47 : decode cX5_patterns 47 = .ok (.istore 5, 2) := by decide +kernel
theorem dX5_patterns_49 : decode cX5_patterns 49 = .ok (.iload 5, 2) := by decide +kernel
theorem dX5_patterns_51 : decode cX5_patterns 51 = .ok (.ifCond .lt 36, 3) := by decide +kernel
theorem dX5_patterns_54 : decode cX5_patterns 54 = .ok (.aload_n 0, 1) := by decide +kernel
theorem dX5_patterns_55 : decode cX5_patterns 55 = .ok (.invokevirtual 195, 3) := by decide +kernel
theorem dX5_patterns_58 : decode cX5_patterns 58 = .ok (.aload_n 0, 1) := by decide +kernel
theorem dX5_patterns_59 : decode cX5_patterns 59 = .ok (.getfield 31, 3) := by decide +kernel
theorem dX5_patterns_62 : decode cX5_patterns 62 = .ok (.iconst 3, 1) := by decide +kernel
theorem dX5_patterns_63 : decode cX5_patterns 63 = .ok (.iload 5, 2) := by decide +kernel
theorem dX5_patterns_65 : decode cX5_patterns 65 = .ok (.iastore, 1) := by decide +kernel
theorem dX5_patterns_66 : decode cX5_patterns 66 = .ok (.aload_n 0, 1) := by decide +kernel
theorem dX5_patterns_67 : decode cX5_patterns 67 = .ok (.iload_n 1, 1) := by decide +kernel
theorem dX5_patterns_68 : decode cX5_patterns 68 = .ok (.invokevirtual 211, 3) := by decide +kernel
theorem dX5_patterns_71 : decode cX5_patterns 71 = .ok (.ifCond .eq 10, 3) := by decide +kernel
theorem dX5_patterns_74 : decode cX5_patterns 74 = .ok (.iinc 3 1, 3) := by decide +kernel
theorem dX5_patterns_77 : decode cX5_patterns 77 = .ok (.iload 5, 2) := by decide +kernel
theorem dX5_patterns_79 : decode cX5_patterns 79 = .ok (.istore 4, 2) := by decide +kernel
theorem dX5_patterns_81 : decode cX5_patterns 81 = .ok (.iinc 5 (-1), 3) := by decide +kernel
theorem dX5_patterns_84 : decode cX5_patterns 84 = .ok (.goto (-35), 3) := by decide +kernel
theorem dX5_patterns_87 : decode cX5_patterns 87 = .ok (.iload_n 3, 1) := by decide +kernel
theorem dX5_patterns_88 : decode cX5_patterns 88 = .ok (.ifCond .ne 8, 3) := by decide +kernel
theorem dX5_patterns_91 : decode cX5_patterns 91 = .ok (.bipush (-9), 2) := by decide +kernel
theorem dX5_patterns_93 : decode cX5_patterns 93 = .ok (.goto 10, 3) := by decide +kernel
theorem dX5_patterns_96 : decode cX5_patterns 96 = .ok (.aload_n 0, 1) := by decide +kernel
theorem dX5_patterns_97 : decode cX5_patterns 97 = .ok (.iload_n 3, 1) := by decide +kernel
theorem dX5_patterns_98 : decode cX5_patterns 98 = .ok (.iload 4, 2) := by decide +kernel
theorem dX5_patterns_100 : decode cX5_patterns 100 = .ok (.invokevirtual 189, 3) := by decide +kernel
theorem dX5_patterns_103 : decode cX5_patterns 103 = .ok (.ireturn, 1) := by decide +kernel
theorem dX5_kindsBy_0 : decode cX5_kindsBy 0 = .ok (.aload_n 0, 1) := by decide +kernel
theorem dX5_kindsBy_1 : decode cX5_kindsBy 1 = .ok (.invokevirtual 174, 3) := by decide +kernel
theorem dX5_kindsBy_4 : decode cX5_kindsBy 4 = .ok (.iconst 0, 1) := by decide +kernel
theorem dX5_kindsBy_5 : decode cX5_kindsBy 5 = .ok (.istore_n 3, 1) := by decide +kernel
theorem dX5_kindsBy_6 : decode cX5_kindsBy 6 = .ok (.iconst 0, 1) := by decide +kernel
theorem dX5_kindsBy_7 : decode cX5_kindsBy 7 = .ok (.istore 4, 2) := by decide +kernel
theorem dX5_kindsBy_9 : decode cX5_kindsBy 9 = .ok (.iload 4, 2) := by decide +kernel
theorem dX5_kindsBy_11 : decode cX5_kindsBy 11 = .ok (.bipush 6, 2) := by decide +kernel
theorem dX5_kindsBy_13 : decode cX5_kindsBy 13 = .ok (.if_icmp .ge 40, 3) := by decide +kernel
theorem dX5_kindsBy_16 : decode cX5_kindsBy 16 = .ok (.aload_n 0, 1) := by decide +kernel
theorem dX5_kindsBy_17 : decode cX5_kindsBy 17 = .ok (.getfield 34, 3) := by decide +kernel
theorem dX5_kindsBy_20 : decode cX5_kindsBy 20 = .ok (.iload_n 1, 1) := by decide +kernel
theorem dX5_kindsBy_21 : decode cX5_kindsBy 21 = .ok (.iload 4, 2) := by decide +kernel
theorem dX5_kindsBy_23 : decode cX5_kindsBy 23 = .ok (.iastore, 1) := by decide +kernel
theorem dX5_kindsBy_24 : decode cX5_kindsBy 24 = .ok (.aload_n 0, 1) := by decide +kernel
theorem dX5_kindsBy_25 : decode cX5_kindsBy 25 = .ok (.invokevirtual 195, 3) := by decide +kernel
theorem dX5_kindsBy_28 : decode cX5_kindsBy 28 = .ok (.iload_n 3, 1) := by decide +kernel
theorem dX5_kindsBy_29 : decode cX5_kindsBy 29 = .ok (.aload_n 0, 1) := by decide +kernel
theorem dX5_kindsBy_30 : decode cX5_kindsBy 30 = .ok (.iload_n 2, 1) := by decide +kernel
theorem dX5_kindsBy_31 : decode cX5_kindsBy 31 = .ok (.invokevirtual 211, 3) := by decide +kernel
theorem dX5_kindsBy_34 : decode cX5_kindsBy 34 = .ok (.ifCond .eq 10, 3) := by decide +kernel
theorem dX5_kindsBy_37 : decode cX5_kindsBy 37 = .ok (.iconst 1, 1) := by decide +kernel
theorem dX5_kindsBy_38 : decode cX5_kindsBy 38 = .ok (.iload 4, 2) := by decide +kernel
theorem dX5_kindsBy_40 : decode cX5_kindsBy 40 = .ok (.ishl, 1) := by decide +kernel
theorem dX5_kindsBy_41 : decode cX5_kindsBy 41 = .ok (.goto 4, 3) := by decide +kernel
theorem dX5_kindsBy_44 : decode cX5_kindsBy 44 = .ok (.iconst 0, 1) := by decide +kernel
theorem dX5_kindsBy_45 : decode cX5_kindsBy 45 = .ok (.ior, 1) := by decide +kernel
theorem dX5_kindsBy_46 : decode cX5_kindsBy 46 = .ok (.istore_n 3, 1) := by decide +kernel
theorem dX5_kindsBy_47 : decode cX5_kindsBy 47 = .ok (.iinc 4 1, 3) := by decide +kernel
theorem dX5_kindsBy_50 : decode cX5_kindsBy 50 = .ok (.goto (-41), 3) := by decide +kernel
theorem dX5_kindsBy_53 : decode cX5_kindsBy 53 = .ok (.iload_n 3, 1) := by decide +kernel
theorem dX5_kindsBy_54 : decode cX5_kindsBy 54 = .ok (.ireturn, 1) := by decide +kernel
theorem dX5_kinds_0 : decode cX5_kinds 0 = .ok (.aload_n 0, 1) := by decide +kernel
theorem dX5_kinds_1 : decode cX5_kinds 1 = .ok (.iload_n 1, 1) := by decide +kernel
theorem dX5_kinds_2 : decode cX5_kinds 2 = .ok (.invokevirtual 166, 3) := by decide +kernel
theorem dX5_kinds_5 : decode cX5_kinds 5 = .ok (.ifCond .eq 10, 3) := by decide +kernel
theorem dX5_kinds_8 : decode cX5_kinds 8 = .ok (.iload_n 2, 1) := by decide +kernel
theorem dX5_kinds_9 : decode cX5_kinds 9 = .ok (.invokestatic 81, 3) := by decide +kernel
theorem dX5_kinds_12 : decode cX5_kinds 12 = .ok (.ifCond .ne 5, 3) := by decide +kernel
theorem dX5_kinds_15 : decode cX5_kinds 15 = .ok (.iconst (-1), 1) := by decide +kernel
theorem dX5_kinds_16 : decode cX5_kinds 16 = .ok (.ireturn, 1) := by decide +kernel
theorem dX5_kinds_17 : decode cX5_kinds 17 = .ok (.aload_n 0, 1) := by decide +kernel
theorem dX5_kinds_18 : decode cX5_kinds 18 = .ok (.iload_n 2, 1) := by decide +kernel
theorem dX5_kinds_19 : decode cX5_kinds 19 = .ok (.invokevirtual 208, 3) := by decide +kernel
theorem dX5_kinds_22 : decode cX5_kinds 22 = .ok (.istore_n 3, 1) := by decide +kernel
theorem dX5_kinds_23 : decode cX5_kinds 23 = .ok (.iload_n 3, 1) := by decide +kernel
theorem dX5_kinds_24 : decode cX5_kinds 24 = .ok (.ifCond .le 11, 3) := by decide +kernel
theorem dX5_kinds_27 : decode cX5_kinds 27 = .ok (.aload_n 0, 1) := by decide +kernel
theorem dX5_kinds_28 : decode cX5_kinds 28 = .ok (.iload_n 3, 1) := by decide +kernel
theorem dX5_kinds_29 : decode cX5_kinds 29 = .ok (.invokevirtual 85, 3) := by decide +kernel
theorem dX5_kinds_32 : decode cX5_kinds 32 = .ok (.goto 9, 3) := by decide +kernel
theorem dX5_kinds_35 : decode cX5_kinds 35 = .ok (.aload_n 0, 1) := by decide +kernel
theorem dX5_kinds_36 : decode cX5_kinds 36 = .ok (.iload_n 1, 1) := by decide +kernel
theorem dX5_kinds_37 : decode cX5_kinds 37 = .ok (.iload_n 2, 1) := by decide +kernel
theorem dX5_kinds_38 : decode cX5_kinds 38 = .ok (.invokevirtual 214, 3) := by decide +kernel
theorem dX5_kinds_41 : decode cX5_kinds 41 = .ok (.ireturn, 1) := by decide +kernel
theorem dX5_test_0 : decode cX5_test 0 = .ok (.aload_n 0, 1) := by decide +kernel
theorem dX5_test_1 : decode cX5_test 1 = .ok (.iload_n 1, 1) := by decide +kernel
theorem dX5_test_2 : decode cX5_test 2 = .ok (.invokevirtual 166, 3) := by decide +kernel
theorem dX5_test_5 : decode cX5_test 5 = .ok (.ifCond .eq 10, 3) := by decide +kernel
theorem dX5_test_8 : decode cX5_test 8 = .ok (.iload_n 2, 1) := by decide +kernel
theorem dX5_test_9 : decode cX5_test 9 = .ok (.invokestatic 81, 3) := by decide +kernel
theorem dX5_test_12 : decode cX5_test 12 = .ok (.ifCond .ne 5, 3) := by decide +kernel
theorem dX5_test_15 : decode cX5_test 15 = .ok (.iconst (-1), 1) := by decide +kernel
theorem dX5_test_16 : decode cX5_test 16 = .ok (.ireturn, 1) := by decide +kernel
theorem dX5_test_17 : decode cX5_test 17 = .ok (.aload_n 0, 1) := by decide +kernel
theorem dX5_test_18 : decode cX5_test 18 = .ok (.iload_n 2, 1) := by decide +kernel
theorem dX5_test_19 : decode cX5_test 19 = .ok (.invokevirtual 208, 3) := by decide +kernel
theorem dX5_test_22 : decode cX5_test 22 = .ok (.istore_n 3, 1) := by decide +kernel
theorem dX5_test_23 : decode cX5_test 23 = .ok (.iload_n 3, 1) := by decide +kernel
theorem dX5_test_24 : decode cX5_test 24 = .ok (.ifCond .le 9, 3) := by decide +kernel
theorem dX5_test_27 : decode cX5_test 27 = .ok (.aload_n 0, 1) := by decide +kernel
theorem dX5_test_28 : decode cX5_test 28 = .ok (.iload_n 3, 1) := by decide +kernel
theorem dX5_test_29 : decode cX5_test 29 = .ok (.invokevirtual 85, 3) := by decide +kernel
theorem dX5_test_32 : decode cX5_test 32 = .ok (.ireturn, 1) := by decide +kernel
theorem dX5_test_33 : decode cX5_test 33 = .ok (.aload_n 0, 1) := by decide +kernel
theorem dX5_test_34 : decode cX5_test 34 = .ok (.iload_n 1, 1) := by decide +kernel
theorem dX5_test_35 : decode cX5_test 35 = .ok (.iload_n 2, 1) := by decide +kernel
theorem dX5_test_36 : decode cX5_test 36 = .ok (.invokevirtual 214, 3) := by decide +kernel
theorem dX5_test_39 : decode cX5_test 39 = .ok (.istore 4, 2) := by decide +kernel
theorem dX5_test_41 : decode cX5_test 41 = .ok (.iload 4, 2) := by decide +kernel
theorem dX5_test_43 : decode cX5_test 43 = .ok (.ifCond .ne 6, 3) := by decide +kernel
theorem dX5_test_46 : decode cX5_test 46 = .ok (.bipush (-9), 2) := by decide +kernel
theorem dX5_test_48 : decode cX5_test 48 = .ok (.ireturn, 1) := by decide +kernel
theorem dX5_test_49 : decode cX5_test 49 = .ok (.iconst 0, 1) := by decide +kernel
theorem dX5_test_50 : decode cX5_test 50 = .ok (.istore 5, 2) := by decide +kernel
theorem dX5_test_52 : decode cX5_test 52 = .ok (.iload 5, 2) := by decide +kernel
theorem dX5_test_54 : decode cX5_test 54 = .ok (.bipush 6, 2) := by decide +kernel
theorem dX5_test_56 : decode cX5_test 56 = .ok (.if_icmp .ge 67, 3) := by decide +kernel
theorem dX5_test_59 : decode cX5_test 59 = .ok (.aload_n 0, 1) := by decide +kernel
theorem dX5_test_60 : decode cX5_test 60 = .ok (.getfield 34, 3) := by decide +kernel
theorem dX5_test_63 : decode cX5_test 63 = .ok (.iload_n 1, 1) := by decide +kernel
theorem dX5_test_64 : decode cX5_test 64 = .ok (.iload 5, 2) := by decide +kernel
theorem dX5_test_66 : decode cX5_test 66 = .ok (.iastore, 1) := by decide +kernel
theorem dX5_test_67 : decode cX5_test 67 = .ok (.aload_n 0, 1) := by decide +kernel
theorem dX5_test_68 : decode cX5_test 68 = .ok (.invokevirtual 195, 3) := by decide +kernel
theorem dX5_test_71 : decode cX5_test 71 = .ok (.iconst 1, 1) := by decide +kernel
theorem dX5_test_72 : decode cX5_test 72 = .ok (.istore 6, 2) := by decide +kernel
theorem dX5_test_74 : decode cX5_test 74 = .ok (.iload 6, 2) := by decide +kernel
theorem dX5_test_76 : decode cX5_test 76 = .ok (.bipush 21, 2) := by decide +kernel
theorem dX5_test_78 : decode cX5_test 78 = .ok (.if_icmp .ge 39, 3) := by decide +kernel
theorem dX5_test_81 : decode cX5_test 81 = .ok (.aload_n 0, 1) := by decide +kernel
theorem dX5_test_82 : decode cX5_test 82 = .ok (.iconst 1, 1) := by decide +kernel
theorem dX5_test_83 : decode cX5_test 83 = .ok (.iconst 0, 1) := by decide +kernel
theorem dX5_test_84 : decode cX5_test 84 = .ok (.invokevirtual 198, 3) := by decide +kernel
theorem dX5_test_87 : decode cX5_test 87 = .ok (.istore 7, 2) := by decide +kernel
theorem dX5_test_89 : decode cX5_test 89 = .ok (.aload_n 0, 1) := by decide +kernel
theorem dX5_test_90 : decode cX5_test 90 = .ok (.getfield 60, 3) := by decide +kernel
theorem dX5_test_93 : decode cX5_test 93 = .ok (.bipush 21, 2) := by decide +kernel
theorem dX5_test_95 : decode cX5_test 95 = .ok (.iload 5, 2) := by decide +kernel
theorem dX5_test_97 : decode cX5_test 97 = .ok (.imul, 1) := by decide +kernel
theorem dX5_test_98 : decode cX5_test 98 = .ok (.iload 6, 2) := by decide +kernel
