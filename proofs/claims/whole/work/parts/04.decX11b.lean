theorem dX11_nextOf_118 : decode cX11_nextOf 118 = .ok (.if_icmp .ne 7, 3) := by decide +kernel
theorem dX11_nextOf_121 : decode cX11_nextOf 121 = .ok (.iconst 0, 1) := by decide +kernel
theorem dX11_nextOf_122 : decode cX11_nextOf 122 = .ok (.goto 4, 3) := by decide +kernel
theorem dX11_nextOf_125 : decode cX11_nextOf 125 = .ok (.iconst 1, 1) := by decide +kernel
theorem dX11_nextOf_126 : decode cX11_nextOf 126 = .ok (.iadd, 1) := by decide +kernel
theorem dX11_nextOf_127 : decode cX11_nextOf 127 = .ok (.iload 4, 2) := by decide +kernel
theorem dX11_nextOf_129 : decode cX11_nextOf 129 = .ok (.ifCond .eq 8, 3) := by decide +kernel
theorem dX11_nextOf_132 : decode cX11_nextOf 132 = .ok (.bipush 20, 2) := by decide +kernel
theorem dX11_nextOf_134 : decode cX11_nextOf 134 = .ok (.goto 4, 3) := by decide +kernel
theorem dX11_nextOf_137 : decode cX11_nextOf 137 = .ok (.iconst 0, 1) := by decide +kernel
theorem dX11_nextOf_138 : decode cX11_nextOf 138 = .ok (.iadd, 1) := by decide +kernel
theorem dX11_nextOf_139 : decode cX11_nextOf 139 = .ok (.ireturn, 1) := by decide +kernel
theorem dX11_traces_0 : decode cX11_traces 0 = .ok (.iconst 0, 1) := by decide +kernel
theorem dX11_traces_1 : decode cX11_traces 1 = .ok (.istore_n 2, 1) := by decide +kernel
theorem dX11_traces_2 : decode cX11_traces 2 = .ok (.iload_n 2, 1) := by decide +kernel
theorem dX11_traces_3 : decode cX11_traces 3 = .ok (.bipush 40, 2) := by decide +kernel
theorem dX11_traces_5 : decode cX11_traces 5 = .ok (.if_icmp .ge 16, 3) := by decide +kernel
theorem dX11_traces_8 : decode cX11_traces 8 = .ok (.aload_n 0, 1) := by decide +kernel
theorem dX11_traces_9 : decode cX11_traces 9 = .ok (.getfield 59, 3) := by decide +kernel
theorem dX11_traces_12 : decode cX11_traces 12 = .ok (.iload_n 2, 1) := by decide +kernel
theorem dX11_traces_13 : decode cX11_traces 13 = .ok (.iconst (-1), 1) := by decide +kernel
theorem dX11_traces_14 : decode cX11_traces 14 = .ok (.iastore, 1) := by decide +kernel
theorem dX11_traces_15 : decode cX11_traces 15 = .ok (.iinc 2 1, 3) := by decide +kernel
theorem dX11_traces_18 : decode cX11_traces 18 = .ok (.goto (-16), 3) := by decide +kernel
theorem dX11_traces_21 : decode cX11_traces 21 = .ok (.iconst 0, 1) := by decide +kernel
theorem dX11_traces_22 : decode cX11_traces 22 = .ok (.istore_n 2, 1) := by decide +kernel
theorem dX11_traces_23 : decode cX11_traces 23 = .ok (.iconst 0, 1) := by decide +kernel
theorem dX11_traces_24 : decode cX11_traces 24 = .ok (.istore_n 3, 1) := by decide +kernel
theorem dX11_traces_25 : decode cX11_traces 25 = .ok (.iload_n 3, 1) := by decide +kernel
theorem dX11_traces_26 : decode cX11_traces 26 = .ok (.iconst 4, 1) := by decide +kernel
theorem dX11_traces_27 : decode cX11_traces 27 = .ok (.aload_n 1, 1) := by decide +kernel
theorem dX11_traces_28 : decode cX11_traces 28 = .ok (.iconst 1, 1) := by decide +kernel
theorem dX11_traces_29 : decode cX11_traces 29 = .ok (.iaload, 1) := by decide +kernel
theorem dX11_traces_30 : decode cX11_traces 30 = .ok (.imul, 1) := by decide +kernel
theorem dX11_traces_31 : decode cX11_traces 31 = .ok (.if_icmp .ge 120, 3) := by decide +kernel
theorem dX11_traces_34 : decode cX11_traces 34 = .ok (.iload_n 3, 1) := by decide +kernel
theorem dX11_traces_35 : decode cX11_traces 35 = .ok (.iconst 2, 1) := by decide +kernel
theorem dX11_traces_36 : decode cX11_traces 36 = .ok (.aload_n 1, 1) := by decide +kernel
theorem dX11_traces_37 : decode cX11_traces 37 = .ok (.iconst 1, 1) := by decide +kernel
theorem dX11_traces_38 : decode cX11_traces 38 = .ok (.iaload, 1) := by decide +kernel
theorem dX11_traces_39 : decode cX11_traces 39 = .ok (.imul, 1) := by decide +kernel
theorem dX11_traces_40 : decode cX11_traces 40 = .ok (.if_icmp .ge 7, 3) := by decide +kernel
theorem dX11_traces_43 : decode cX11_traces 43 = .ok (.iload_n 3, 1) := by decide +kernel
theorem dX11_traces_44 : decode cX11_traces 44 = .ok (.goto 13, 3) := by decide +kernel
theorem dX11_traces_47 : decode cX11_traces 47 = .ok (.iload_n 3, 1) := by decide +kernel
theorem dX11_traces_48 : decode cX11_traces 48 = .ok (.iconst 2, 1) := by decide +kernel
theorem dX11_traces_49 : decode cX11_traces 49 = .ok (.aload_n 1, 1) := by decide +kernel
theorem dX11_traces_50 : decode cX11_traces 50 = .ok (.iconst 1, 1) := by decide +kernel
theorem dX11_traces_51 : decode cX11_traces 51 = .ok (.iaload, 1) := by decide +kernel
theorem dX11_traces_52 : decode cX11_traces 52 = .ok (.imul, 1) := by decide +kernel
theorem dX11_traces_53 : decode cX11_traces 53 = .ok (.isub, 1) := by decide +kernel
theorem dX11_traces_54 : decode cX11_traces 54 = .ok (.bipush 20, 2) := by decide +kernel
theorem dX11_traces_56 : decode cX11_traces 56 = .ok (.iadd, 1) := by decide +kernel
theorem dX11_traces_57 : decode cX11_traces 57 = .ok (.istore 4, 2) := by decide +kernel
theorem dX11_traces_59 : decode cX11_traces 59 = .ok (.aload_n 0, 1) := by decide +kernel
theorem dX11_traces_60 : decode cX11_traces 60 = .ok (.getfield 59, 3) := by decide +kernel
theorem dX11_traces_63 : decode cX11_traces 63 = .ok (.iload 4, 2) := by decide +kernel
theorem dX11_traces_65 : decode cX11_traces 65 = .ok (.iaload, 1) := by decide +kernel
theorem dX11_traces_66 : decode cX11_traces 66 = .ok (.ifCond .lt 6, 3) := by decide +kernel
theorem dX11_traces_69 : decode cX11_traces 69 = .ok (.goto 76, 3) := by decide +kernel
theorem dX11_traces_72 : decode cX11_traces 72 = .ok (.aload_n 0, 1) := by decide +kernel
theorem dX11_traces_73 : decode cX11_traces 73 = .ok (.getfield 62, 3) := by decide +kernel
theorem dX11_traces_76 : decode cX11_traces 76 = .ok (.iload_n 2, 1) := by decide +kernel
theorem dX11_traces_77 : decode cX11_traces 77 = .ok (.iload 4, 2) := by decide +kernel
theorem dX11_traces_79 : decode cX11_traces 79 = .ok (.iastore, 1) := by decide +kernel
theorem dX11_traces_80 : decode cX11_traces 80 = .ok (.aload_n 0, 1) := by decide +kernel
theorem dX11_traces_81 : decode cX11_traces 81 = .ok (.getfield 65, 3) := by decide +kernel
theorem dX11_traces_84 : decode cX11_traces 84 = .ok (.iload_n 2, 1) := by decide +kernel
theorem dX11_traces_85 : decode cX11_traces 85 = .ok (.iconst 0, 1) := by decide +kernel
theorem dX11_traces_86 : decode cX11_traces 86 = .ok (.iastore, 1) := by decide +kernel
theorem dX11_traces_87 : decode cX11_traces 87 = .ok (.iload 4, 2) := by decide +kernel
theorem dX11_traces_89 : decode cX11_traces 89 = .ok (.istore 5, 2) := by decide +kernel
theorem dX11_traces_91 : decode cX11_traces 91 = .ok (.aload_n 0, 1) := by decide +kernel
theorem dX11_traces_92 : decode cX11_traces 92 = .ok (.getfield 59, 3) := by decide +kernel
theorem dX11_traces_95 : decode cX11_traces 95 = .ok (.iload 5, 2) := by decide +kernel
theorem dX11_traces_97 : decode cX11_traces 97 = .ok (.iaload, 1) := by decide +kernel
theorem dX11_traces_98 : decode cX11_traces 98 = .ok (.ifCond .ge 44, 3) := by decide +kernel
theorem dX11_traces_101 : decode cX11_traces 101 = .ok (.aload_n 0, 1) := by decide +kernel
theorem dX11_traces_102 : decode cX11_traces 102 = .ok (.getfield 59, 3) := by decide +kernel
theorem dX11_traces_105 : decode cX11_traces 105 = .ok (.iload 5, 2) := by decide +kernel
theorem dX11_traces_107 : decode cX11_traces 107 = .ok (.iload_n 2, 1) := by decide +kernel
theorem dX11_traces_108 : decode cX11_traces 108 = .ok (.iastore, 1) := by decide +kernel
theorem dX11_traces_109 : decode cX11_traces 109 = .ok (.aload_n 0, 1) := by decide +kernel
theorem dX11_traces_110 : decode cX11_traces 110 = .ok (.getfield 59, 3) := by decide +kernel
theorem dX11_traces_113 : decode cX11_traces 113 = .ok (.aload_n 1, 1) := by decide +kernel
theorem dX11_traces_114 : decode cX11_traces 114 = .ok (.iload 5, 2) := by decide +kernel
theorem dX11_traces_116 : decode cX11_traces 116 = .ok (.invokestatic 250, 3) := by decide +kernel
theorem dX11_traces_119 : decode cX11_traces 119 = .ok (.iload_n 2, 1) := by decide +kernel
theorem dX11_traces_120 : decode cX11_traces 120 = .ok (.iastore, 1) := by decide +kernel
theorem dX11_traces_121 : decode cX11_traces 121 = .ok (.aload_n 0, 1) := by decide +kernel
theorem dX11_traces_122 : decode cX11_traces 122 = .ok (.getfield 65, 3) := by decide +kernel
theorem dX11_traces_125 : decode cX11_traces 125 = .ok (.iload_n 2, 1) := by decide +kernel
theorem dX11_traces_126 : decode cX11_traces 126 = .ok (.dup2, 1) := by decide +kernel
theorem dX11_traces_127 : decode cX11_traces 127 = .ok (.iaload, 1) := by decide +kernel
theorem dX11_traces_128 : decode cX11_traces 128 = .ok (.iconst 1, 1) := by decide +kernel
theorem dX11_traces_129 : decode cX11_traces 129 = .ok (.iadd, 1) := by decide +kernel
theorem dX11_traces_130 : decode cX11_traces 130 = .ok (.iastore, 1) := by decide +kernel
theorem dX11_traces_131 : decode cX11_traces 131 = .ok (.aload_n 1, 1) := by decide +kernel
theorem dX11_traces_132 : decode cX11_traces 132 = .ok (.iload 5, 2) := by decide +kernel
theorem dX11_traces_134 : decode cX11_traces 134 = .ok (.invokestatic 254, 3) := by decide +kernel
theorem dX11_traces_137 : decode cX11_traces 137 = .ok (.istore 5, 2) := by decide +kernel
theorem dX11_traces_139 : decode cX11_traces 139 = .ok (.goto (-48), 3) := by decide +kernel
theorem dX11_traces_142 : decode cX11_traces 142 = .ok (.iinc 2 1, 3) := by decide +kernel
theorem dX11_traces_145 : decode cX11_traces 145 = .ok (.iinc 3 1, 3) := by decide +kernel
theorem dX11_traces_148 : decode cX11_traces 148 = .ok (.goto (-123), 3) := by decide +kernel
theorem dX11_traces_151 : decode cX11_traces 151 = .ok (.iconst 0, 1) := by decide +kernel
theorem dX11_traces_152 : decode cX11_traces 152 = .ok (.istore_n 3, 1) := by decide +kernel
theorem dX11_traces_153 : decode cX11_traces 153 = .ok (.iload_n 3, 1) := by decide +kernel
theorem dX11_traces_154 : decode cX11_traces 154 = .ok (.aload_n 1, 1) := by decide +kernel
theorem dX11_traces_155 : decode cX11_traces 155 = .ok (.iconst 0, 1) := by decide +kernel
theorem dX11_traces_156 : decode cX11_traces 156 = .ok (.iaload, 1) := by decide +kernel
theorem dX11_traces_157 : decode cX11_traces 157 = .ok (.if_icmp .ge 38, 3) := by decide +kernel
theorem dX11_traces_160 : decode cX11_traces 160 = .ok (.aload_n 1, 1) := by decide +kernel
theorem dX11_traces_161 : decode cX11_traces 161 = .ok (.bipush 32, 2) := by decide +kernel
theorem dX11_traces_163 : decode cX11_traces 163 = .ok (.iload_n 3, 1) := by decide +kernel
theorem dX11_traces_164 : decode cX11_traces 164 = .ok (.iadd, 1) := by decide +kernel
theorem dX11_traces_165 : decode cX11_traces 165 = .ok (.iaload, 1) := by decide +kernel
theorem dX11_traces_166 : decode cX11_traces 166 = .ok (.ifCond .le 6, 3) := by decide +kernel
theorem dX11_traces_169 : decode cX11_traces 169 = .ok (.goto 20, 3) := by decide +kernel
theorem dX11_traces_172 : decode cX11_traces 172 = .ok (.aload_n 0, 1) := by decide +kernel
theorem dX11_traces_173 : decode cX11_traces 173 = .ok (.getfield 62, 3) := by decide +kernel
theorem dX11_traces_176 : decode cX11_traces 176 = .ok (.iload_n 2, 1) := by decide +kernel
theorem dX11_traces_177 : decode cX11_traces 177 = .ok (.iconst (-1), 1) := by decide +kernel
theorem dX11_traces_178 : decode cX11_traces 178 = .ok (.iastore, 1) := by decide +kernel
theorem dX11_traces_179 : decode cX11_traces 179 = .ok (.aload_n 0, 1) := by decide +kernel
theorem dX11_traces_180 : decode cX11_traces 180 = .ok (.getfield 65, 3) := by decide +kernel
theorem dX11_traces_183 : decode cX11_traces 183 = .ok (.iload_n 2, 1) := by decide +kernel
theorem dX11_traces_184 : decode cX11_traces 184 = .ok (.iconst 0, 1) := by decide +kernel
theorem dX11_traces_185 : decode cX11_traces 185 = .ok (.iastore, 1) := by decide +kernel
theorem dX11_traces_186 : decode cX11_traces 186 = .ok (.iinc 2 1, 3) := by decide +kernel
theorem dX11_traces_189 : decode cX11_traces 189 = .ok (.iinc 3 1, 3) := by decide +kernel
theorem dX11_traces_192 : decode cX11_traces 192 = .ok (.goto (-39), 3) := by decide +kernel
theorem dX11_traces_195 : decode cX11_traces 195 = .ok (.iload_n 2, 1) := by decide +kernel
theorem dX11_traces_196 : decode cX11_traces 196 = .ok (.ireturn, 1) := by decide +kernel
theorem dX11_partsOf_0 : decode cX11_partsOf 0 = .ok (.aload_n 1, 1) := by decide +kernel
theorem dX11_partsOf_1 : decode cX11_partsOf 1 = .ok (.iconst 0, 1) := by decide +kernel
theorem dX11_partsOf_2 : decode cX11_partsOf 2 = .ok (.iaload, 1) := by decide +kernel
theorem dX11_partsOf_3 : decode cX11_partsOf 3 = .ok (.istore_n 2, 1) := by decide +kernel
theorem dX11_partsOf_4 : decode cX11_partsOf 4 = .ok (.iconst 0, 1) := by decide +kernel
theorem dX11_partsOf_5 : decode cX11_partsOf 5 = .ok (.istore_n 3, 1) := by decide +kernel
theorem dX11_partsOf_6 : decode cX11_partsOf 6 = .ok (.iload_n 3, 1) := by decide +kernel
theorem dX11_partsOf_7 : decode cX11_partsOf 7 = .ok (.aload_n 1, 1) := by decide +kernel
theorem dX11_partsOf_8 : decode cX11_partsOf 8 = .ok (.iconst 0, 1) := by decide +kernel
theorem dX11_partsOf_9 : decode cX11_partsOf 9 = .ok (.iaload, 1) := by decide +kernel
theorem dX11_partsOf_10 : decode cX11_partsOf 10 = .ok (.if_icmp .ge 16, 3) := by decide +kernel
theorem dX11_partsOf_13 : decode cX11_partsOf 13 = .ok (.aload_n 0, 1) := by decide +kernel
theorem dX11_partsOf_14 : decode cX11_partsOf 14 = .ok (.getfield 68, 3) := by decide +kernel
theorem dX11_partsOf_17 : decode cX11_partsOf 17 = .ok (.iload_n 3, 1) := by decide +kernel
theorem dX11_partsOf_18 : decode cX11_partsOf 18 = .ok (.iload_n 3, 1) := by decide +kernel
theorem dX11_partsOf_19 : decode cX11_partsOf 19 = .ok (.iastore, 1) := by decide +kernel
theorem dX11_partsOf_20 : decode cX11_partsOf 20 = .ok (.iinc 3 1, 3) := by decide +kernel
theorem dX11_partsOf_23 : decode cX11_partsOf 23 = .ok (.goto (-17), 3) := by decide +kernel
theorem dX11_partsOf_26 : decode cX11_partsOf 26 = .ok (.iconst 0, 1) := by decide +kernel
theorem dX11_partsOf_27 : decode cX11_partsOf 27 = .ok (.istore_n 3, 1) := by decide +kernel
theorem dX11_partsOf_28 : decode cX11_partsOf 28 = .ok (.iload_n 3, 1) := by decide +kernel
theorem dX11_partsOf_29 : decode cX11_partsOf 29 = .ok (.aload_n 1, 1) := by decide +kernel
theorem dX11_partsOf_30 : decode cX11_partsOf 30 = .ok (.iconst 1, 1) := by decide +kernel
theorem dX11_partsOf_31 : decode cX11_partsOf 31 = .ok (.iaload, 1) := by decide +kernel
theorem dX11_partsOf_32 : decode cX11_partsOf 32 = .ok (.if_icmp .ge 90, 3) := by decide +kernel
theorem dX11_partsOf_35 : decode cX11_partsOf 35 = .ok (.aload_n 0, 1) := by decide +kernel
theorem dX11_partsOf_36 : decode cX11_partsOf 36 = .ok (.getfield 68, 3) := by decide +kernel
theorem dX11_partsOf_39 : decode cX11_partsOf 39 = .ok (.aload_n 1, 1) := by decide +kernel
theorem dX11_partsOf_40 : decode cX11_partsOf 40 = .ok (.iconst 2, 1) := by decide +kernel
theorem dX11_partsOf_41 : decode cX11_partsOf 41 = .ok (.iconst 2, 1) := by decide +kernel
theorem dX11_partsOf_42 : decode cX11_partsOf 42 = .ok (.iload_n 3, 1) := by decide +kernel
theorem dX11_partsOf_43 : decode cX11_partsOf 43 = .ok (.imul, 1) := by decide +kernel
theorem dX11_partsOf_44 : decode cX11_partsOf 44 = .ok (.iadd, 1) := by decide +kernel
theorem dX11_partsOf_45 : decode cX11_partsOf 45 = .ok (.iaload, 1) := by decide +kernel
theorem dX11_partsOf_46 : decode cX11_partsOf 46 = .ok (.iaload, 1) := by decide +kernel
theorem dX11_partsOf_47 : decode cX11_partsOf 47 = .ok (.istore 4, 2) := by decide +kernel
theorem dX11_partsOf_49 : decode cX11_partsOf 49 = .ok (.aload_n 0, 1) := by decide +kernel
theorem dX11_partsOf_50 : decode cX11_partsOf 50 = .ok (.getfield 68, 3) := by decide +kernel
theorem dX11_partsOf_53 : decode cX11_partsOf 53 = .ok (.aload_n 1, 1) := by decide +kernel
theorem dX11_partsOf_54 : decode cX11_partsOf 54 = .ok (.iconst 2, 1) := by decide +kernel
theorem dX11_partsOf_55 : decode cX11_partsOf 55 = .ok (.iconst 2, 1) := by decide +kernel
theorem dX11_partsOf_56 : decode cX11_partsOf 56 = .ok (.iload_n 3, 1) := by decide +kernel
theorem dX11_partsOf_57 : decode cX11_partsOf 57 = .ok (.imul, 1) := by decide +kernel
theorem dX11_partsOf_58 : decode cX11_partsOf 58 = .ok (.iadd, 1) := by decide +kernel
theorem dX11_partsOf_59 : decode cX11_partsOf 59 = .ok (.iconst 1, 1) := by decide +kernel
theorem dX11_partsOf_60 : decode cX11_partsOf 60 = .ok (.iadd, 1) := by decide +kernel
theorem dX11_partsOf_61 : decode cX11_partsOf 61 = .ok (.iaload, 1) := by decide +kernel
theorem dX11_partsOf_62 : decode cX11_partsOf 62 = .ok (.iaload, 1) := by decide +kernel
theorem dX11_partsOf_63 : decode cX11_partsOf 63 = .ok (.istore 5, 2) := by decide +kernel
theorem dX11_partsOf_65 : decode cX11_partsOf 65 = .ok (.iload 4, 2) := by decide +kernel
theorem dX11_partsOf_67 : decode cX11_partsOf 67 = .ok (.iload 5, 2) := by decide +kernel
theorem dX11_partsOf_69 : decode cX11_partsOf 69 = .ok (.if_icmp .ne 6, 3) := by decide +kernel
theorem dX11_partsOf_72 : decode cX11_partsOf 72 = .ok (.goto 44, 3) := by decide +kernel
theorem dX11_partsOf_75 : decode cX11_partsOf 75 = .ok (.iinc 2 (-1), 3) := by decide +kernel
theorem dX11_partsOf_78 : decode cX11_partsOf 78 = .ok (.iconst 0, 1) := by decide +kernel
theorem dX11_partsOf_79 : decode cX11_partsOf 79 = .ok (.istore 6, 2) := by decide +kernel
theorem dX11_partsOf_81 : decode cX11_partsOf 81 = .ok (.iload 6, 2) := by decide +kernel
theorem dX11_partsOf_83 : decode cX11_partsOf 83 = .ok (.aload_n 1, 1) := by decide +kernel
theorem dX11_partsOf_84 : decode cX11_partsOf 84 = .ok (.iconst 0, 1) := by decide +kernel
theorem dX11_partsOf_85 : decode cX11_partsOf 85 = .ok (.iaload, 1) := by decide +kernel
theorem dX11_partsOf_86 : decode cX11_partsOf 86 = .ok (.if_icmp .ge 30, 3) := by decide +kernel
theorem dX11_partsOf_89 : decode cX11_partsOf 89 = .ok (.aload_n 0, 1) := by decide +kernel
theorem dX11_partsOf_90 : decode cX11_partsOf 90 = .ok (.getfield 68, 3) := by decide +kernel
theorem dX11_partsOf_93 : decode cX11_partsOf 93 = .ok (.iload 6, 2) := by decide +kernel
theorem dX11_partsOf_95 : decode cX11_partsOf 95 = .ok (.iaload, 1) := by decide +kernel
theorem dX11_partsOf_96 : decode cX11_partsOf 96 = .ok (.iload 4, 2) := by decide +kernel
theorem dX11_partsOf_98 : decode cX11_partsOf 98 = .ok (.if_icmp .ne 12, 3) := by decide +kernel
theorem dX11_partsOf_101 : decode cX11_partsOf 101 = .ok (.aload_n 0, 1) := by decide +kernel
theorem dX11_partsOf_102 : decode cX11_partsOf 102 = .ok (.getfield 68, 3) := by decide +kernel
theorem dX11_partsOf_105 : decode cX11_partsOf 105 = .ok (.iload 6, 2) := by decide +kernel
theorem dX11_partsOf_107 : decode cX11_partsOf 107 = .ok (.iload 5, 2) := by decide +kernel
theorem dX11_partsOf_109 : decode cX11_partsOf 109 = .ok (.iastore, 1) := by decide +kernel
theorem dX11_partsOf_110 : decode cX11_partsOf 110 = .ok (.iinc 6 1, 3) := by decide +kernel
theorem dX11_partsOf_113 : decode cX11_partsOf 113 = .ok (.goto (-32), 3) := by decide +kernel
theorem dX11_partsOf_116 : decode cX11_partsOf 116 = .ok (.iinc 3 1, 3) := by decide +kernel
theorem dX11_partsOf_119 : decode cX11_partsOf 119 = .ok (.goto (-91), 3) := by decide +kernel
theorem dX11_partsOf_122 : decode cX11_partsOf 122 = .ok (.iload_n 2, 1) := by decide +kernel
theorem dX11_partsOf_123 : decode cX11_partsOf 123 = .ok (.ireturn, 1) := by decide +kernel
theorem dX11_euler_0 : decode cX11_euler 0 = .ok (.aload_n 1, 1) := by decide +kernel
theorem dX11_euler_1 : decode cX11_euler 1 = .ok (.iconst 0, 1) := by decide +kernel
theorem dX11_euler_2 : decode cX11_euler 2 = .ok (.iaload, 1) := by decide +kernel
theorem dX11_euler_3 : decode cX11_euler 3 = .ok (.aload_n 1, 1) := by decide +kernel
theorem dX11_euler_4 : decode cX11_euler 4 = .ok (.iconst 1, 1) := by decide +kernel
theorem dX11_euler_5 : decode cX11_euler 5 = .ok (.iaload, 1) := by decide +kernel
theorem dX11_euler_6 : decode cX11_euler 6 = .ok (.isub, 1) := by decide +kernel
theorem dX11_euler_7 : decode cX11_euler 7 = .ok (.aload_n 0, 1) := by decide +kernel
theorem dX11_euler_8 : decode cX11_euler 8 = .ok (.aload_n 1, 1) := by decide +kernel
theorem dX11_euler_9 : decode cX11_euler 9 = .ok (.invokevirtual 257, 3) := by decide +kernel
theorem dX11_euler_12 : decode cX11_euler 12 = .ok (.iadd, 1) := by decide +kernel
theorem dX11_euler_13 : decode cX11_euler 13 = .ok (.ireturn, 1) := by decide +kernel
theorem dX11_turnsRight_0 : decode cX11_turnsRight 0 = .ok (.iconst 0, 1) := by decide +kernel
theorem dX11_turnsRight_1 : decode cX11_turnsRight 1 = .ok (.istore_n 1, 1) := by decide +kernel
theorem dX11_turnsRight_2 : decode cX11_turnsRight 2 = .ok (.iload_n 1, 1) := by decide +kernel
theorem dX11_turnsRight_3 : decode cX11_turnsRight 3 = .ok (.iconst 1, 1) := by decide +kernel
theorem dX11_turnsRight_4 : decode cX11_turnsRight 4 = .ok (.aload_n 0, 1) := by decide +kernel
theorem dX11_turnsRight_5 : decode cX11_turnsRight 5 = .ok (.getfield 40, 3) := by decide +kernel
theorem dX11_turnsRight_8 : decode cX11_turnsRight 8 = .ok (.iconst 0, 1) := by decide +kernel
theorem dX11_turnsRight_9 : decode cX11_turnsRight 9 = .ok (.iaload, 1) := by decide +kernel
theorem dX11_turnsRight_10 : decode cX11_turnsRight 10 = .ok (.ishl, 1) := by decide +kernel
theorem dX11_turnsRight_11 : decode cX11_turnsRight 11 = .ok (.if_icmp .ge 100, 3) := by decide +kernel
theorem dX11_turnsRight_14 : decode cX11_turnsRight 14 = .ok (.iconst 1, 1) := by decide +kernel
theorem dX11_turnsRight_15 : decode cX11_turnsRight 15 = .ok (.istore_n 2, 1) := by decide +kernel
theorem dX11_turnsRight_16 : decode cX11_turnsRight 16 = .ok (.iconst 0, 1) := by decide +kernel
theorem dX11_turnsRight_17 : decode cX11_turnsRight 17 = .ok (.istore_n 3, 1) := by decide +kernel
theorem dX11_turnsRight_18 : decode cX11_turnsRight 18 = .ok (.iload_n 3, 1) := by decide +kernel
theorem dX11_turnsRight_19 : decode cX11_turnsRight 19 = .ok (.aload_n 0, 1) := by decide +kernel
theorem dX11_turnsRight_20 : decode cX11_turnsRight 20 = .ok (.getfield 40, 3) := by decide +kernel
theorem dX11_turnsRight_23 : decode cX11_turnsRight 23 = .ok (.iconst 1, 1) := by decide +kernel
theorem dX11_turnsRight_24 : decode cX11_turnsRight 24 = .ok (.iaload, 1) := by decide +kernel
theorem dX11_turnsRight_25 : decode cX11_turnsRight 25 = .ok (.if_icmp .ge 74, 3) := by decide +kernel
theorem dX11_turnsRight_28 : decode cX11_turnsRight 28 = .ok (.iload_n 1, 1) := by decide +kernel
theorem dX11_turnsRight_29 : decode cX11_turnsRight 29 = .ok (.aload_n 0, 1) := by decide +kernel
theorem dX11_turnsRight_30 : decode cX11_turnsRight 30 = .ok (.getfield 40, 3) := by decide +kernel
theorem dX11_turnsRight_33 : decode cX11_turnsRight 33 = .ok (.iconst 2, 1) := by decide +kernel
theorem dX11_turnsRight_34 : decode cX11_turnsRight 34 = .ok (.iconst 2, 1) := by decide +kernel
theorem dX11_turnsRight_35 : decode cX11_turnsRight 35 = .ok (.iload_n 3, 1) := by decide +kernel
theorem dX11_turnsRight_36 : decode cX11_turnsRight 36 = .ok (.imul, 1) := by decide +kernel
theorem dX11_turnsRight_37 : decode cX11_turnsRight 37 = .ok (.iadd, 1) := by decide +kernel
theorem dX11_turnsRight_38 : decode cX11_turnsRight 38 = .ok (.iaload, 1) := by decide +kernel
theorem dX11_turnsRight_39 : decode cX11_turnsRight 39 = .ok (.invokestatic 200, 3) := by decide +kernel
theorem dX11_turnsRight_42 : decode cX11_turnsRight 42 = .ok (.iload_n 1, 1) := by decide +kernel
theorem dX11_turnsRight_43 : decode cX11_turnsRight 43 = .ok (.aload_n 0, 1) := by decide +kernel
theorem dX11_turnsRight_44 : decode cX11_turnsRight 44 = .ok (.getfield 40, 3) := by decide +kernel
theorem dX11_turnsRight_47 : decode cX11_turnsRight 47 = .ok (.iconst 2, 1) := by decide +kernel
theorem dX11_turnsRight_48 : decode cX11_turnsRight 48 = .ok (.iconst 2, 1) := by decide +kernel
theorem dX11_turnsRight_49 : decode cX11_turnsRight 49 = .ok (.iload_n 3, 1) := by decide +kernel
theorem dX11_turnsRight_50 : decode cX11_turnsRight 50 = .ok (.imul, 1) := by decide +kernel
theorem dX11_turnsRight_51 : decode cX11_turnsRight 51 = .ok (.iadd, 1) := by decide +kernel
theorem dX11_turnsRight_52 : decode cX11_turnsRight 52 = .ok (.iconst 1, 1) := by decide +kernel
theorem dX11_turnsRight_53 : decode cX11_turnsRight 53 = .ok (.iadd, 1) := by decide +kernel
theorem dX11_turnsRight_54 : decode cX11_turnsRight 54 = .ok (.iaload, 1) := by decide +kernel
theorem dX11_turnsRight_55 : decode cX11_turnsRight 55 = .ok (.invokestatic 200, 3) := by decide +kernel
theorem dX11_turnsRight_58 : decode cX11_turnsRight 58 = .ok (.if_icmp .eq 7, 3) := by decide +kernel
theorem dX11_turnsRight_61 : decode cX11_turnsRight 61 = .ok (.iconst 1, 1) := by decide +kernel
theorem dX11_turnsRight_62 : decode cX11_turnsRight 62 = .ok (.goto 4, 3) := by decide +kernel
theorem dX11_turnsRight_65 : decode cX11_turnsRight 65 = .ok (.iconst 0, 1) := by decide +kernel
theorem dX11_turnsRight_66 : decode cX11_turnsRight 66 = .ok (.istore 4, 2) := by decide +kernel
theorem dX11_turnsRight_68 : decode cX11_turnsRight 68 = .ok (.iload 4, 2) := by decide +kernel
theorem dX11_turnsRight_70 : decode cX11_turnsRight 70 = .ok (.aload_n 0, 1) := by decide +kernel
theorem dX11_turnsRight_71 : decode cX11_turnsRight 71 = .ok (.getfield 40, 3) := by decide +kernel
theorem dX11_turnsRight_74 : decode cX11_turnsRight 74 = .ok (.bipush 22, 2) := by decide +kernel
theorem dX11_turnsRight_76 : decode cX11_turnsRight 76 = .ok (.iload_n 3, 1) := by decide +kernel
theorem dX11_turnsRight_77 : decode cX11_turnsRight 77 = .ok (.iadd, 1) := by decide +kernel
theorem dX11_turnsRight_78 : decode cX11_turnsRight 78 = .ok (.iaload, 1) := by decide +kernel
theorem dX11_turnsRight_79 : decode cX11_turnsRight 79 = .ok (.iconst 1, 1) := by decide +kernel
theorem dX11_turnsRight_80 : decode cX11_turnsRight 80 = .ok (.if_icmp .ne 7, 3) := by decide +kernel
theorem dX11_turnsRight_83 : decode cX11_turnsRight 83 = .ok (.iconst 1, 1) := by decide +kernel
theorem dX11_turnsRight_84 : decode cX11_turnsRight 84 = .ok (.goto 4, 3) := by decide +kernel
theorem dX11_turnsRight_87 : decode cX11_turnsRight 87 = .ok (.iconst 0, 1) := by decide +kernel
theorem dX11_turnsRight_88 : decode cX11_turnsRight 88 = .ok (.if_icmp .eq 5, 3) := by decide +kernel
theorem dX11_turnsRight_91 : decode cX11_turnsRight 91 = .ok (.iconst 0, 1) := by decide +kernel
theorem dX11_turnsRight_92 : decode cX11_turnsRight 92 = .ok (.istore_n 2, 1) := by decide +kernel
theorem dX11_turnsRight_93 : decode cX11_turnsRight 93 = .ok (.iinc 3 1, 3) := by decide +kernel
theorem dX11_turnsRight_96 : decode cX11_turnsRight 96 = .ok (.goto (-78), 3) := by decide +kernel
theorem dX11_turnsRight_99 : decode cX11_turnsRight 99 = .ok (.iload_n 2, 1) := by decide +kernel
theorem dX11_turnsRight_100 : decode cX11_turnsRight 100 = .ok (.ifCond .eq 5, 3) := by decide +kernel
theorem dX11_turnsRight_103 : decode cX11_turnsRight 103 = .ok (.iconst 1, 1) := by decide +kernel
theorem dX11_turnsRight_104 : decode cX11_turnsRight 104 = .ok (.ireturn, 1) := by decide +kernel
theorem dX11_turnsRight_105 : decode cX11_turnsRight 105 = .ok (.iinc 1 1, 3) := by decide +kernel
theorem dX11_turnsRight_108 : decode cX11_turnsRight 108 = .ok (.goto (-106), 3) := by decide +kernel
theorem dX11_turnsRight_111 : decode cX11_turnsRight 111 = .ok (.iconst 0, 1) := by decide +kernel
theorem dX11_turnsRight_112 : decode cX11_turnsRight 112 = .ok (.ireturn, 1) := by decide +kernel
theorem dX11_line_0 : decode cX11_line 0 = .ok (.aload_n 0, 1) := by decide +kernel
theorem dX11_line_1 : decode cX11_line 1 = .ok (.iload_n 1, 1) := by decide +kernel
theorem dX11_line_2 : decode cX11_line 2 = .ok (.invokevirtual 235, 3) := by decide +kernel
theorem dX11_line_5 : decode cX11_line 5 = .ok (.ifCond .eq 12, 3) := by decide +kernel
theorem dX11_line_8 : decode cX11_line 8 = .ok (.iload_n 2, 1) := by decide +kernel
theorem dX11_line_9 : decode cX11_line 9 = .ok (.iconst 0, 1) := by decide +kernel
theorem dX11_line_10 : decode cX11_line 10 = .ok (.iconst 4, 1) := by decide +kernel
theorem dX11_line_11 : decode cX11_line 11 = .ok (.invokestatic 204, 3) := by decide +kernel
theorem dX11_line_14 : decode cX11_line 14 = .ok (.ifCond .ne 5, 3) := by decide +kernel
theorem dX11_line_17 : decode cX11_line 17 = .ok (.iconst (-1), 1) := by decide +kernel
theorem dX11_line_18 : decode cX11_line 18 = .ok (.ireturn, 1) := by decide +kernel
theorem dX11_line_19 : decode cX11_line 19 = .ok (.iload_n 2, 1) := by decide +kernel
theorem dX11_line_20 : decode cX11_line 20 = .ok (.iconst 2, 1) := by decide +kernel
theorem dX11_line_21 : decode cX11_line 21 = .ok (.if_icmp .ge 16, 3) := by decide +kernel
theorem dX11_line_24 : decode cX11_line 24 = .ok (.aload_n 0, 1) := by decide +kernel
theorem dX11_line_25 : decode cX11_line 25 = .ok (.getfield 40, 3) := by decide +kernel
theorem dX11_line_28 : decode cX11_line 28 = .ok (.iconst 2, 1) := by decide +kernel
theorem dX11_line_29 : decode cX11_line 29 = .ok (.iconst 2, 1) := by decide +kernel
theorem dX11_line_30 : decode cX11_line 30 = .ok (.iload_n 1, 1) := by decide +kernel
theorem dX11_line_31 : decode cX11_line 31 = .ok (.imul, 1) := by decide +kernel
theorem dX11_line_32 : decode cX11_line 32 = .ok (.iadd, 1) := by decide +kernel
theorem dX11_line_33 : decode cX11_line 33 = .ok (.iload_n 2, 1) := by decide +kernel
theorem dX11_line_34 : decode cX11_line 34 = .ok (.iadd, 1) := by decide +kernel
theorem dX11_line_35 : decode cX11_line 35 = .ok (.iaload, 1) := by decide +kernel
theorem dX11_line_36 : decode cX11_line 36 = .ok (.ireturn, 1) := by decide +kernel
theorem dX11_line_37 : decode cX11_line 37 = .ok (.iload_n 2, 1) := by decide +kernel
theorem dX11_line_38 : decode cX11_line 38 = .ok (.iconst 2, 1) := by decide +kernel
theorem dX11_line_39 : decode cX11_line 39 = .ok (.if_icmp .ne 13, 3) := by decide +kernel
theorem dX11_line_42 : decode cX11_line 42 = .ok (.aload_n 0, 1) := by decide +kernel
theorem dX11_line_43 : decode cX11_line 43 = .ok (.getfield 40, 3) := by decide +kernel
theorem dX11_line_46 : decode cX11_line 46 = .ok (.bipush 22, 2) := by decide +kernel
theorem dX11_line_48 : decode cX11_line 48 = .ok (.iload_n 1, 1) := by decide +kernel
theorem dX11_line_49 : decode cX11_line 49 = .ok (.iadd, 1) := by decide +kernel
theorem dX11_line_50 : decode cX11_line 50 = .ok (.iaload, 1) := by decide +kernel
theorem dX11_line_51 : decode cX11_line 51 = .ok (.ireturn, 1) := by decide +kernel
theorem dX11_line_52 : decode cX11_line 52 = .ok (.aload_n 0, 1) := by decide +kernel
theorem dX11_line_53 : decode cX11_line 53 = .ok (.aload_n 0, 1) := by decide +kernel
theorem dX11_line_54 : decode cX11_line 54 = .ok (.getfield 40, 3) := by decide +kernel
theorem dX11_line_57 : decode cX11_line 57 = .ok (.invokevirtual 257, 3) := by decide +kernel
theorem dX11_line_60 : decode cX11_line 60 = .ok (.istore_n 3, 1) := by decide +kernel
theorem dX11_line_61 : decode cX11_line 61 = .ok (.aload_n 0, 1) := by decide +kernel
theorem dX11_line_62 : decode cX11_line 62 = .ok (.getfield 59, 3) := by decide +kernel
theorem dX11_line_65 : decode cX11_line 65 = .ok (.iconst 2, 1) := by decide +kernel
theorem dX11_line_66 : decode cX11_line 66 = .ok (.iload_n 1, 1) := by decide +kernel
theorem dX11_line_67 : decode cX11_line 67 = .ok (.imul, 1) := by decide +kernel
theorem dX11_line_68 : decode cX11_line 68 = .ok (.iaload, 1) := by decide +kernel
theorem dX11_line_69 : decode cX11_line 69 = .ok (.istore 4, 2) := by decide +kernel
theorem dX11_line_71 : decode cX11_line 71 = .ok (.aload_n 0, 1) := by decide +kernel
theorem dX11_line_72 : decode cX11_line 72 = .ok (.getfield 59, 3) := by decide +kernel
theorem dX11_line_75 : decode cX11_line 75 = .ok (.iconst 2, 1) := by decide +kernel
theorem dX11_line_76 : decode cX11_line 76 = .ok (.iload_n 1, 1) := by decide +kernel
theorem dX11_line_77 : decode cX11_line 77 = .ok (.imul, 1) := by decide +kernel
theorem dX11_line_78 : decode cX11_line 78 = .ok (.bipush 20, 2) := by decide +kernel
theorem dX11_line_80 : decode cX11_line 80 = .ok (.iadd, 1) := by decide +kernel
theorem dX11_line_81 : decode cX11_line 81 = .ok (.iaload, 1) := by decide +kernel
theorem dX11_line_82 : decode cX11_line 82 = .ok (.istore 5, 2) := by decide +kernel
theorem dX11_line_84 : decode cX11_line 84 = .ok (.iload_n 2, 1) := by decide +kernel
theorem dX11_line_85 : decode cX11_line 85 = .ok (.iconst 3, 1) := by decide +kernel
theorem dX11_line_86 : decode cX11_line 86 = .ok (.if_icmp .ne 7, 3) := by decide +kernel
theorem dX11_line_89 : decode cX11_line 89 = .ok (.iconst 1, 1) := by decide +kernel
theorem dX11_line_90 : decode cX11_line 90 = .ok (.goto 4, 3) := by decide +kernel
theorem dX11_line_93 : decode cX11_line 93 = .ok (.iconst 0, 1) := by decide +kernel
theorem dX11_line_94 : decode cX11_line 94 = .ok (.iload 4, 2) := by decide +kernel
theorem dX11_line_96 : decode cX11_line 96 = .ok (.iload 5, 2) := by decide +kernel
theorem dX11_line_98 : decode cX11_line 98 = .ok (.if_icmp .ge 7, 3) := by decide +kernel
theorem dX11_line_101 : decode cX11_line 101 = .ok (.iconst 1, 1) := by decide +kernel
theorem dX11_line_102 : decode cX11_line 102 = .ok (.goto 4, 3) := by decide +kernel
theorem dX11_line_105 : decode cX11_line 105 = .ok (.iconst 0, 1) := by decide +kernel
theorem dX11_line_106 : decode cX11_line 106 = .ok (.if_icmp .ne 8, 3) := by decide +kernel
theorem dX11_line_109 : decode cX11_line 109 = .ok (.iload 4, 2) := by decide +kernel
theorem dX11_line_111 : decode cX11_line 111 = .ok (.goto 5, 3) := by decide +kernel
theorem dX11_line_114 : decode cX11_line 114 = .ok (.iload 5, 2) := by decide +kernel
theorem dX11_line_116 : decode cX11_line 116 = .ok (.ireturn, 1) := by decide +kernel
theorem dX11_round_0 : decode cX11_round 0 = .ok (.aload_n 0, 1) := by decide +kernel
theorem dX11_round_1 : decode cX11_round 1 = .ok (.iload_n 1, 1) := by decide +kernel
theorem dX11_round_2 : decode cX11_round 2 = .ok (.invokevirtual 215, 3) := by decide +kernel
theorem dX11_round_5 : decode cX11_round 5 = .ok (.ifCond .ne 5, 3) := by decide +kernel
theorem dX11_round_8 : decode cX11_round 8 = .ok (.iconst (-1), 1) := by decide +kernel
theorem dX11_round_9 : decode cX11_round 9 = .ok (.ireturn, 1) := by decide +kernel
theorem dX11_round_10 : decode cX11_round 10 = .ok (.iload_n 2, 1) := by decide +kernel
theorem dX11_round_11 : decode cX11_round 11 = .ok (.iconst (-1), 1) := by decide +kernel
theorem dX11_round_12 : decode cX11_round 12 = .ok (.if_icmp .ne 13, 3) := by decide +kernel
theorem dX11_round_15 : decode cX11_round 15 = .ok (.aload_n 0, 1) := by decide +kernel
theorem dX11_round_16 : decode cX11_round 16 = .ok (.getfield 40, 3) := by decide +kernel
theorem dX11_round_19 : decode cX11_round 19 = .ok (.bipush 32, 2) := by decide +kernel
theorem dX11_round_21 : decode cX11_round 21 = .ok (.iload_n 1, 1) := by decide +kernel
theorem dX11_round_22 : decode cX11_round 22 = .ok (.iadd, 1) := by decide +kernel
theorem dX11_round_23 : decode cX11_round 23 = .ok (.iaload, 1) := by decide +kernel
theorem dX11_round_24 : decode cX11_round 24 = .ok (.ireturn, 1) := by decide +kernel
theorem dX11_round_25 : decode cX11_round 25 = .ok (.iload_n 2, 1) := by decide +kernel
theorem dX11_round_26 : decode cX11_round 26 = .ok (.iconst 0, 1) := by decide +kernel
theorem dX11_round_27 : decode cX11_round 27 = .ok (.aload_n 0, 1) := by decide +kernel
theorem dX11_round_28 : decode cX11_round 28 = .ok (.getfield 40, 3) := by decide +kernel
theorem dX11_round_31 : decode cX11_round 31 = .ok (.bipush 32, 2) := by decide +kernel
theorem dX11_round_33 : decode cX11_round 33 = .ok (.iload_n 1, 1) := by decide +kernel
theorem dX11_round_34 : decode cX11_round 34 = .ok (.iadd, 1) := by decide +kernel
theorem dX11_round_35 : decode cX11_round 35 = .ok (.iaload, 1) := by decide +kernel
theorem dX11_round_36 : decode cX11_round 36 = .ok (.iconst 1, 1) := by decide +kernel
theorem dX11_round_37 : decode cX11_round 37 = .ok (.isub, 1) := by decide +kernel
theorem dX11_round_38 : decode cX11_round 38 = .ok (.invokestatic 204, 3) := by decide +kernel
theorem dX11_round_41 : decode cX11_round 41 = .ok (.ifCond .eq 20, 3) := by decide +kernel
theorem dX11_round_44 : decode cX11_round 44 = .ok (.aload_n 0, 1) := by decide +kernel
theorem dX11_round_45 : decode cX11_round 45 = .ok (.getfield 40, 3) := by decide +kernel
theorem dX11_round_48 : decode cX11_round 48 = .ok (.bipush 38, 2) := by decide +kernel
theorem dX11_round_50 : decode cX11_round 50 = .ok (.bipush 10, 2) := by decide +kernel
theorem dX11_round_52 : decode cX11_round 52 = .ok (.iload_n 1, 1) := by decide +kernel
theorem dX11_round_53 : decode cX11_round 53 = .ok (.imul, 1) := by decide +kernel
theorem dX11_round_54 : decode cX11_round 54 = .ok (.iadd, 1) := by decide +kernel
theorem dX11_round_55 : decode cX11_round 55 = .ok (.iload_n 2, 1) := by decide +kernel
theorem dX11_round_56 : decode cX11_round 56 = .ok (.iadd, 1) := by decide +kernel
theorem dX11_round_57 : decode cX11_round 57 = .ok (.iaload, 1) := by decide +kernel
theorem dX11_round_58 : decode cX11_round 58 = .ok (.goto 4, 3) := by decide +kernel
theorem dX11_round_61 : decode cX11_round 61 = .ok (.iconst (-1), 1) := by decide +kernel
theorem dX11_round_62 : decode cX11_round 62 = .ok (.ireturn, 1) := by decide +kernel
theorem dX11_face_0 : decode cX11_face 0 = .ok (.aload_n 0, 1) := by decide +kernel
theorem dX11_face_1 : decode cX11_face 1 = .ok (.aload_n 0, 1) := by decide +kernel
theorem dX11_face_2 : decode cX11_face 2 = .ok (.getfield 40, 3) := by decide +kernel
theorem dX11_face_5 : decode cX11_face 5 = .ok (.invokevirtual 257, 3) := by decide +kernel
theorem dX11_face_8 : decode cX11_face 8 = .ok (.istore_n 3, 1) := by decide +kernel
theorem dX11_face_9 : decode cX11_face 9 = .ok (.iload_n 1, 1) := by decide +kernel
theorem dX11_face_10 : decode cX11_face 10 = .ok (.iconst (-1), 1) := by decide +kernel
theorem dX11_face_11 : decode cX11_face 11 = .ok (.if_icmp .ne 5, 3) := by decide +kernel
theorem dX11_face_14 : decode cX11_face 14 = .ok (.iload_n 3, 1) := by decide +kernel
theorem dX11_face_15 : decode cX11_face 15 = .ok (.ireturn, 1) := by decide +kernel
theorem dX11_face_16 : decode cX11_face 16 = .ok (.iload_n 1, 1) := by decide +kernel
theorem dX11_face_17 : decode cX11_face 17 = .ok (.iconst 0, 1) := by decide +kernel
theorem dX11_face_18 : decode cX11_face 18 = .ok (.iload_n 3, 1) := by decide +kernel
theorem dX11_face_19 : decode cX11_face 19 = .ok (.iconst 1, 1) := by decide +kernel
theorem dX11_face_20 : decode cX11_face 20 = .ok (.isub, 1) := by decide +kernel
theorem dX11_face_21 : decode cX11_face 21 = .ok (.invokestatic 204, 3) := by decide +kernel
theorem dX11_face_24 : decode cX11_face 24 = .ok (.ifCond .ne 5, 3) := by decide +kernel
theorem dX11_face_27 : decode cX11_face 27 = .ok (.iconst (-1), 1) := by decide +kernel
theorem dX11_face_28 : decode cX11_face 28 = .ok (.ireturn, 1) := by decide +kernel
theorem dX11_face_29 : decode cX11_face 29 = .ok (.iload_n 2, 1) := by decide +kernel
theorem dX11_face_30 : decode cX11_face 30 = .ok (.iconst (-1), 1) := by decide +kernel
theorem dX11_face_31 : decode cX11_face 31 = .ok (.if_icmp .ne 10, 3) := by decide +kernel
theorem dX11_face_34 : decode cX11_face 34 = .ok (.aload_n 0, 1) := by decide +kernel
theorem dX11_face_35 : decode cX11_face 35 = .ok (.getfield 65, 3) := by decide +kernel
theorem dX11_face_38 : decode cX11_face 38 = .ok (.iload_n 1, 1) := by decide +kernel
theorem dX11_face_39 : decode cX11_face 39 = .ok (.iaload, 1) := by decide +kernel
theorem dX11_face_40 : decode cX11_face 40 = .ok (.ireturn, 1) := by decide +kernel
theorem dX11_face_41 : decode cX11_face 41 = .ok (.iload_n 2, 1) := by decide +kernel
theorem dX11_face_42 : decode cX11_face 42 = .ok (.iconst 0, 1) := by decide +kernel
theorem dX11_face_43 : decode cX11_face 43 = .ok (.aload_n 0, 1) := by decide +kernel
theorem dX11_face_44 : decode cX11_face 44 = .ok (.getfield 65, 3) := by decide +kernel
theorem dX11_face_47 : decode cX11_face 47 = .ok (.iload_n 1, 1) := by decide +kernel
theorem dX11_face_48 : decode cX11_face 48 = .ok (.iaload, 1) := by decide +kernel
theorem dX11_face_49 : decode cX11_face 49 = .ok (.iconst 1, 1) := by decide +kernel
theorem dX11_face_50 : decode cX11_face 50 = .ok (.isub, 1) := by decide +kernel
theorem dX11_face_51 : decode cX11_face 51 = .ok (.invokestatic 204, 3) := by decide +kernel
theorem dX11_face_54 : decode cX11_face 54 = .ok (.ifCond .ne 5, 3) := by decide +kernel
theorem dX11_face_57 : decode cX11_face 57 = .ok (.iconst (-1), 1) := by decide +kernel
theorem dX11_face_58 : decode cX11_face 58 = .ok (.ireturn, 1) := by decide +kernel
theorem dX11_face_59 : decode cX11_face 59 = .ok (.aload_n 0, 1) := by decide +kernel
theorem dX11_face_60 : decode cX11_face 60 = .ok (.getfield 62, 3) := by decide +kernel
theorem dX11_face_63 : decode cX11_face 63 = .ok (.iload_n 1, 1) := by decide +kernel
theorem dX11_face_64 : decode cX11_face 64 = .ok (.iaload, 1) := by decide +kernel
theorem dX11_face_65 : decode cX11_face 65 = .ok (.istore 4, 2) := by decide +kernel
theorem dX11_face_67 : decode cX11_face 67 = .ok (.iconst 0, 1) := by decide +kernel
theorem dX11_face_68 : decode cX11_face 68 = .ok (.istore 5, 2) := by decide +kernel
theorem dX11_face_70 : decode cX11_face 70 = .ok (.iload 5, 2) := by decide +kernel
theorem dX11_face_72 : decode cX11_face 72 = .ok (.iload_n 2, 1) := by decide +kernel
theorem dX11_face_73 : decode cX11_face 73 = .ok (.if_icmp .ge 20, 3) := by decide +kernel
theorem dX11_face_76 : decode cX11_face 76 = .ok (.aload_n 0, 1) := by decide +kernel
theorem dX11_face_77 : decode cX11_face 77 = .ok (.getfield 40, 3) := by decide +kernel
theorem dX11_face_80 : decode cX11_face 80 = .ok (.iload 4, 2) := by decide +kernel
theorem dX11_face_82 : decode cX11_face 82 = .ok (.invokestatic 254, 3) := by decide +kernel
theorem dX11_face_85 : decode cX11_face 85 = .ok (.istore 4, 2) := by decide +kernel
theorem dX11_face_87 : decode cX11_face 87 = .ok (.iinc 5 1, 3) := by decide +kernel
theorem dX11_face_90 : decode cX11_face 90 = .ok (.goto (-20), 3) := by decide +kernel
theorem dX11_face_93 : decode cX11_face 93 = .ok (.iload 4, 2) := by decide +kernel
theorem dX11_face_95 : decode cX11_face 95 = .ok (.bipush 20, 2) := by decide +kernel
theorem dX11_face_97 : decode cX11_face 97 = .ok (.irem, 1) := by decide +kernel
theorem dX11_face_98 : decode cX11_face 98 = .ok (.iconst 2, 1) := by decide +kernel
theorem dX11_face_99 : decode cX11_face 99 = .ok (.idiv, 1) := by decide +kernel
theorem dX11_face_100 : decode cX11_face 100 = .ok (.ireturn, 1) := by decide +kernel
theorem dX11_surface_0 : decode cX11_surface 0 = .ok (.iload_n 1, 1) := by decide +kernel
theorem dX11_surface_1 : decode cX11_surface 1 = .ok (.iconst 0, 1) := by decide +kernel
theorem dX11_surface_2 : decode cX11_surface 2 = .ok (.iconst 3, 1) := by decide +kernel
theorem dX11_surface_3 : decode cX11_surface 3 = .ok (.invokestatic 204, 3) := by decide +kernel
theorem dX11_surface_6 : decode cX11_surface 6 = .ok (.ifCond .ne 7, 3) := by decide +kernel
theorem dX11_surface_9 : decode cX11_surface 9 = .ok (.ldc_w 261, 3) := by decide +kernel
theorem dX11_surface_12 : decode cX11_surface 12 = .ok (.ireturn, 1) := by decide +kernel
theorem dX11_surface_13 : decode cX11_surface 13 = .ok (.aload_n 0, 1) := by decide +kernel
theorem dX11_surface_14 : decode cX11_surface 14 = .ok (.aload_n 0, 1) := by decide +kernel
theorem dX11_surface_15 : decode cX11_surface 15 = .ok (.getfield 40, 3) := by decide +kernel
theorem dX11_surface_18 : decode cX11_surface 18 = .ok (.invokevirtual 262, 3) := by decide +kernel
theorem dX11_surface_21 : decode cX11_surface 21 = .ok (.istore_n 2, 1) := by decide +kernel
theorem dX11_surface_22 : decode cX11_surface 22 = .ok (.aload_n 0, 1) := by decide +kernel
theorem dX11_surface_23 : decode cX11_surface 23 = .ok (.aload_n 0, 1) := by decide +kernel
theorem dX11_surface_24 : decode cX11_surface 24 = .ok (.getfield 40, 3) := by decide +kernel
theorem dX11_surface_27 : decode cX11_surface 27 = .ok (.invokevirtual 265, 3) := by decide +kernel
theorem dX11_surface_30 : decode cX11_surface 30 = .ok (.istore_n 3, 1) := by decide +kernel
theorem dX11_surface_31 : decode cX11_surface 31 = .ok (.aload_n 0, 1) := by decide +kernel
theorem dX11_surface_32 : decode cX11_surface 32 = .ok (.invokevirtual 268, 3) := by decide +kernel
theorem dX11_surface_35 : decode cX11_surface 35 = .ok (.istore 4, 2) := by decide +kernel
theorem dX11_surface_37 : decode cX11_surface 37 = .ok (.iload_n 1, 1) := by decide +kernel
theorem dX11_surface_38 : decode cX11_surface 38 = .ok (.ifCond .ne 16, 3) := by decide +kernel
theorem dX11_surface_41 : decode cX11_surface 41 = .ok (.iload 4, 2) := by decide +kernel
theorem dX11_surface_43 : decode cX11_surface 43 = .ok (.ifCond .eq 7, 3) := by decide +kernel
theorem dX11_surface_46 : decode cX11_surface 46 = .ok (.iconst 1, 1) := by decide +kernel
theorem dX11_surface_47 : decode cX11_surface 47 = .ok (.goto 43, 3) := by decide +kernel
theorem dX11_surface_50 : decode cX11_surface 50 = .ok (.iconst 0, 1) := by decide +kernel
theorem dX11_surface_51 : decode cX11_surface 51 = .ok (.goto 39, 3) := by decide +kernel
theorem dX11_surface_54 : decode cX11_surface 54 = .ok (.iload_n 1, 1) := by decide +kernel
theorem dX11_surface_55 : decode cX11_surface 55 = .ok (.iconst 1, 1) := by decide +kernel
theorem dX11_surface_56 : decode cX11_surface 56 = .ok (.if_icmp .ne 24, 3) := by decide +kernel
theorem dX11_surface_59 : decode cX11_surface 59 = .ok (.iload 4, 2) := by decide +kernel
theorem dX11_surface_61 : decode cX11_surface 61 = .ok (.ifCond .eq 11, 3) := by decide +kernel
theorem dX11_surface_64 : decode cX11_surface 64 = .ok (.iload_n 2, 1) := by decide +kernel
theorem dX11_surface_65 : decode cX11_surface 65 = .ok (.iload_n 3, 1) := by decide +kernel
theorem dX11_surface_66 : decode cX11_surface 66 = .ok (.iconst 2, 1) := by decide +kernel
theorem dX11_surface_67 : decode cX11_surface 67 = .ok (.idiv, 1) := by decide +kernel
theorem dX11_surface_68 : decode cX11_surface 68 = .ok (.isub, 1) := by decide +kernel
theorem dX11_surface_69 : decode cX11_surface 69 = .ok (.goto 21, 3) := by decide +kernel
theorem dX11_surface_72 : decode cX11_surface 72 = .ok (.iconst 2, 1) := by decide +kernel
theorem dX11_surface_73 : decode cX11_surface 73 = .ok (.iload_n 2, 1) := by decide +kernel
theorem dX11_surface_74 : decode cX11_surface 74 = .ok (.imul, 1) := by decide +kernel
theorem dX11_surface_75 : decode cX11_surface 75 = .ok (.iload_n 3, 1) := by decide +kernel
theorem dX11_surface_76 : decode cX11_surface 76 = .ok (.isub, 1) := by decide +kernel
theorem dX11_surface_77 : decode cX11_surface 77 = .ok (.goto 13, 3) := by decide +kernel
theorem dX11_surface_80 : decode cX11_surface 80 = .ok (.iload_n 1, 1) := by decide +kernel
theorem dX11_surface_81 : decode cX11_surface 81 = .ok (.iconst 2, 1) := by decide +kernel
theorem dX11_surface_82 : decode cX11_surface 82 = .ok (.if_icmp .ne 7, 3) := by decide +kernel
theorem dX11_surface_85 : decode cX11_surface 85 = .ok (.iload_n 3, 1) := by decide +kernel
theorem dX11_surface_86 : decode cX11_surface 86 = .ok (.goto 4, 3) := by decide +kernel
theorem dX11_surface_89 : decode cX11_surface 89 = .ok (.iload_n 2, 1) := by decide +kernel
theorem dX11_surface_90 : decode cX11_surface 90 = .ok (.ireturn, 1) := by decide +kernel
theorem dX11_orders_0 : decode cX11_orders 0 = .ok (.lconst 1, 1) := by decide +kernel
theorem dX11_orders_1 : decode cX11_orders 1 = .ok (.lstore_n 1, 1) := by decide +kernel
theorem dX11_orders_2 : decode cX11_orders 2 = .ok (.iconst 2, 1) := by decide +kernel
theorem dX11_orders_3 : decode cX11_orders 3 = .ok (.istore_n 3, 1) := by decide +kernel
theorem dX11_orders_4 : decode cX11_orders 4 = .ok (.iload_n 3, 1) := by decide +kernel
theorem dX11_orders_5 : decode cX11_orders 5 = .ok (.iload_n 0, 1) := by decide +kernel
theorem dX11_orders_6 : decode cX11_orders 6 = .ok (.if_icmp .ge 14, 3) := by decide +kernel
theorem dX11_orders_9 : decode cX11_orders 9 = .ok (.lload_n 1, 1) := by decide +kernel
theorem dX11_orders_10 : decode cX11_orders 10 = .ok (.iload_n 3, 1) := by decide +kernel
theorem dX11_orders_11 : decode cX11_orders 11 = .ok (.i2l, 1) := by decide +kernel
theorem dX11_orders_12 : decode cX11_orders 12 = .ok (.lmul, 1) := by decide +kernel
theorem dX11_orders_13 : decode cX11_orders 13 = .ok (.lstore_n 1, 1) := by decide +kernel
theorem dX11_orders_14 : decode cX11_orders 14 = .ok (.iinc 3 1, 3) := by decide +kernel
theorem dX11_orders_17 : decode cX11_orders 17 = .ok (.goto (-13), 3) := by decide +kernel
theorem dX11_orders_20 : decode cX11_orders 20 = .ok (.lload_n 1, 1) := by decide +kernel
theorem dX11_orders_21 : decode cX11_orders 21 = .ok (.lreturn, 1) := by decide +kernel
theorem dX11_allRounds_0 : decode cX11_allRounds 0 = .ok (.lconst 1, 1) := by decide +kernel
theorem dX11_allRounds_1 : decode cX11_allRounds 1 = .ok (.lstore_n 1, 1) := by decide +kernel
theorem dX11_allRounds_2 : decode cX11_allRounds 2 = .ok (.iconst 0, 1) := by decide +kernel
theorem dX11_allRounds_3 : decode cX11_allRounds 3 = .ok (.istore_n 3, 1) := by decide +kernel
theorem dX11_allRounds_4 : decode cX11_allRounds 4 = .ok (.iload_n 3, 1) := by decide +kernel
theorem dX11_allRounds_5 : decode cX11_allRounds 5 = .ok (.aload_n 0, 1) := by decide +kernel
theorem dX11_allRounds_6 : decode cX11_allRounds 6 = .ok (.getfield 40, 3) := by decide +kernel
theorem dX11_allRounds_9 : decode cX11_allRounds 9 = .ok (.iconst 0, 1) := by decide +kernel
theorem dX11_allRounds_10 : decode cX11_allRounds 10 = .ok (.iaload, 1) := by decide +kernel
theorem dX11_allRounds_11 : decode cX11_allRounds 11 = .ok (.if_icmp .ge 24, 3) := by decide +kernel
theorem dX11_allRounds_14 : decode cX11_allRounds 14 = .ok (.lload_n 1, 1) := by decide +kernel
theorem dX11_allRounds_15 : decode cX11_allRounds 15 = .ok (.aload_n 0, 1) := by decide +kernel
theorem dX11_allRounds_16 : decode cX11_allRounds 16 = .ok (.getfield 40, 3) := by decide +kernel
theorem dX11_allRounds_19 : decode cX11_allRounds 19 = .ok (.bipush 32, 2) := by decide +kernel
theorem dX11_allRounds_21 : decode cX11_allRounds 21 = .ok (.iload_n 3, 1) := by decide +kernel
theorem dX11_allRounds_22 : decode cX11_allRounds 22 = .ok (.iadd, 1) := by decide +kernel
theorem dX11_allRounds_23 : decode cX11_allRounds 23 = .ok (.iaload, 1) := by decide +kernel
theorem dX11_allRounds_24 : decode cX11_allRounds 24 = .ok (.invokestatic 272, 3) := by decide +kernel
theorem dX11_allRounds_27 : decode cX11_allRounds 27 = .ok (.lmul, 1) := by decide +kernel
theorem dX11_allRounds_28 : decode cX11_allRounds 28 = .ok (.lstore_n 1, 1) := by decide +kernel
theorem dX11_allRounds_29 : decode cX11_allRounds 29 = .ok (.iinc 3 1, 3) := by decide +kernel
theorem dX11_allRounds_32 : decode cX11_allRounds 32 = .ok (.goto (-28), 3) := by decide +kernel
theorem dX11_allRounds_35 : decode cX11_allRounds 35 = .ok (.lload_n 1, 1) := by decide +kernel
theorem dX11_allRounds_36 : decode cX11_allRounds 36 = .ok (.lreturn, 1) := by decide +kernel
theorem dX11_ordersPost_0 : decode cX11_ordersPost 0 = .ok (.iconst 0, 1) := by decide +kernel
theorem dX11_ordersPost_1 : decode cX11_ordersPost 1 = .ok (.istore 4, 2) := by decide +kernel
theorem dX11_ordersPost_3 : decode cX11_ordersPost 3 = .ok (.iconst 0, 1) := by decide +kernel
theorem dX11_ordersPost_4 : decode cX11_ordersPost 4 = .ok (.istore 5, 2) := by decide +kernel
theorem dX11_ordersPost_6 : decode cX11_ordersPost 6 = .ok (.iload 5, 2) := by decide +kernel
theorem dX11_ordersPost_8 : decode cX11_ordersPost 8 = .ok (.aload_n 0, 1) := by decide +kernel
theorem dX11_ordersPost_9 : decode cX11_ordersPost 9 = .ok (.getfield 40, 3) := by decide +kernel
theorem dX11_ordersPost_12 : decode cX11_ordersPost 12 = .ok (.bipush 32, 2) := by decide +kernel
theorem dX11_ordersPost_14 : decode cX11_ordersPost 14 = .ok (.iload_n 1, 1) := by decide +kernel
theorem dX11_ordersPost_15 : decode cX11_ordersPost 15 = .ok (.iadd, 1) := by decide +kernel
theorem dX11_ordersPost_16 : decode cX11_ordersPost 16 = .ok (.iaload, 1) := by decide +kernel
theorem dX11_ordersPost_17 : decode cX11_ordersPost 17 = .ok (.if_icmp .ge 31, 3) := by decide +kernel
theorem dX11_ordersPost_20 : decode cX11_ordersPost 20 = .ok (.iload 4, 2) := by decide +kernel
theorem dX11_ordersPost_22 : decode cX11_ordersPost 22 = .ok (.iconst 1, 1) := by decide +kernel
theorem dX11_ordersPost_23 : decode cX11_ordersPost 23 = .ok (.aload_n 0, 1) := by decide +kernel
theorem dX11_ordersPost_24 : decode cX11_ordersPost 24 = .ok (.getfield 40, 3) := by decide +kernel
theorem dX11_ordersPost_27 : decode cX11_ordersPost 27 = .ok (.bipush 38, 2) := by decide +kernel
theorem dX11_ordersPost_29 : decode cX11_ordersPost 29 = .ok (.bipush 10, 2) := by decide +kernel
theorem dX11_ordersPost_31 : decode cX11_ordersPost 31 = .ok (.iload_n 1, 1) := by decide +kernel
theorem dX11_ordersPost_32 : decode cX11_ordersPost 32 = .ok (.imul, 1) := by decide +kernel
theorem dX11_ordersPost_33 : decode cX11_ordersPost 33 = .ok (.iadd, 1) := by decide +kernel
theorem dX11_ordersPost_34 : decode cX11_ordersPost 34 = .ok (.iload 5, 2) := by decide +kernel
theorem dX11_ordersPost_36 : decode cX11_ordersPost 36 = .ok (.iadd, 1) := by decide +kernel
theorem dX11_ordersPost_37 : decode cX11_ordersPost 37 = .ok (.iaload, 1) := by decide +kernel
theorem dX11_ordersPost_38 : decode cX11_ordersPost 38 = .ok (.ishl, 1) := by decide +kernel
theorem dX11_ordersPost_39 : decode cX11_ordersPost 39 = .ok (.ior, 1) := by decide +kernel
theorem dX11_ordersPost_40 : decode cX11_ordersPost 40 = .ok (.istore 4, 2) := by decide +kernel
theorem dX11_ordersPost_42 : decode cX11_ordersPost 42 = .ok (.iinc 5 1, 3) := by decide +kernel
theorem dX11_ordersPost_45 : decode cX11_ordersPost 45 = .ok (.goto (-39), 3) := by decide +kernel
theorem dX11_ordersPost_48 : decode cX11_ordersPost 48 = .ok (.aload_n 0, 1) := by decide +kernel
theorem dX11_ordersPost_49 : decode cX11_ordersPost 49 = .ok (.getfield 71, 3) := by decide +kernel
theorem dX11_ordersPost_52 : decode cX11_ordersPost 52 = .ok (.bipush 32, 2) := by decide +kernel
theorem dX11_ordersPost_54 : decode cX11_ordersPost 54 = .ok (.iload_n 1, 1) := by decide +kernel
theorem dX11_ordersPost_55 : decode cX11_ordersPost 55 = .ok (.iadd, 1) := by decide +kernel
theorem dX11_ordersPost_56 : decode cX11_ordersPost 56 = .ok (.iconst 0, 1) := by decide +kernel
theorem dX11_ordersPost_57 : decode cX11_ordersPost 57 = .ok (.iastore, 1) := by decide +kernel
theorem dX11_ordersPost_58 : decode cX11_ordersPost 58 = .ok (.lload_n 2, 1) := by decide +kernel
theorem dX11_ordersPost_59 : decode cX11_ordersPost 59 = .ok (.lstore 5, 2) := by decide +kernel
theorem dX11_ordersPost_61 : decode cX11_ordersPost 61 = .ok (.iconst 0, 1) := by decide +kernel
theorem dX11_ordersPost_62 : decode cX11_ordersPost 62 = .ok (.istore 7, 2) := by decide +kernel
theorem dX11_ordersPost_64 : decode cX11_ordersPost 64 = .ok (.iload 7, 2) := by decide +kernel
theorem dX11_ordersPost_66 : decode cX11_ordersPost 66 = .ok (.aload_n 0, 1) := by decide +kernel
theorem dX11_ordersPost_67 : decode cX11_ordersPost 67 = .ok (.getfield 40, 3) := by decide +kernel
theorem dX11_ordersPost_70 : decode cX11_ordersPost 70 = .ok (.bipush 32, 2) := by decide +kernel
theorem dX11_ordersPost_72 : decode cX11_ordersPost 72 = .ok (.iload_n 1, 1) := by decide +kernel
theorem dX11_ordersPost_73 : decode cX11_ordersPost 73 = .ok (.iadd, 1) := by decide +kernel
theorem dX11_ordersPost_74 : decode cX11_ordersPost 74 = .ok (.iaload, 1) := by decide +kernel
theorem dX11_ordersPost_75 : decode cX11_ordersPost 75 = .ok (.if_icmp .ge 113, 3) := by decide +kernel
theorem dX11_ordersPost_78 : decode cX11_ordersPost 78 = .ok (.aload_n 0, 1) := by decide +kernel
theorem dX11_ordersPost_79 : decode cX11_ordersPost 79 = .ok (.getfield 40, 3) := by decide +kernel
theorem dX11_ordersPost_82 : decode cX11_ordersPost 82 = .ok (.bipush 32, 2) := by decide +kernel
theorem dX11_ordersPost_84 : decode cX11_ordersPost 84 = .ok (.iload_n 1, 1) := by decide +kernel
theorem dX11_ordersPost_85 : decode cX11_ordersPost 85 = .ok (.iadd, 1) := by decide +kernel
theorem dX11_ordersPost_86 : decode cX11_ordersPost 86 = .ok (.iaload, 1) := by decide +kernel
theorem dX11_ordersPost_87 : decode cX11_ordersPost 87 = .ok (.iload 7, 2) := by decide +kernel
theorem dX11_ordersPost_89 : decode cX11_ordersPost 89 = .ok (.isub, 1) := by decide +kernel
theorem dX11_ordersPost_90 : decode cX11_ordersPost 90 = .ok (.invokestatic 272, 3) := by decide +kernel
theorem dX11_ordersPost_93 : decode cX11_ordersPost 93 = .ok (.lstore 8, 2) := by decide +kernel
theorem dX11_ordersPost_95 : decode cX11_ordersPost 95 = .ok (.iload 7, 2) := by decide +kernel
theorem dX11_ordersPost_97 : decode cX11_ordersPost 97 = .ok (.ifCond .ne 7, 3) := by decide +kernel
theorem dX11_ordersPost_100 : decode cX11_ordersPost 100 = .ok (.iconst 0, 1) := by decide +kernel
theorem dX11_ordersPost_101 : decode cX11_ordersPost 101 = .ok (.goto 9, 3) := by decide +kernel
theorem dX11_ordersPost_104 : decode cX11_ordersPost 104 = .ok (.lload 5, 2) := by decide +kernel
theorem dX11_ordersPost_106 : decode cX11_ordersPost 106 = .ok (.lload 8, 2) := by decide +kernel
theorem dX11_ordersPost_108 : decode cX11_ordersPost 108 = .ok (.ldiv, 1) := by decide +kernel
theorem dX11_ordersPost_109 : decode cX11_ordersPost 109 = .ok (.l2i, 1) := by decide +kernel
theorem dX11_ordersPost_110 : decode cX11_ordersPost 110 = .ok (.istore 10, 2) := by decide +kernel
theorem dX11_ordersPost_112 : decode cX11_ordersPost 112 = .ok (.iload 7, 2) := by decide +kernel
theorem dX11_ordersPost_114 : decode cX11_ordersPost 114 = .ok (.ifCond .le 10, 3) := by decide +kernel
theorem dX11_ordersPost_117 : decode cX11_ordersPost 117 = .ok (.lload 5, 2) := by decide +kernel
theorem dX11_ordersPost_119 : decode cX11_ordersPost 119 = .ok (.lload 8, 2) := by decide +kernel
theorem dX11_ordersPost_121 : decode cX11_ordersPost 121 = .ok (.lrem, 1) := by decide +kernel
theorem dX11_ordersPost_122 : decode cX11_ordersPost 122 = .ok (.lstore 5, 2) := by decide +kernel
theorem dX11_ordersPost_124 : decode cX11_ordersPost 124 = .ok (.iconst 0, 1) := by decide +kernel
theorem dX11_ordersPost_125 : decode cX11_ordersPost 125 = .ok (.istore 11, 2) := by decide +kernel
theorem dX11_ordersPost_127 : decode cX11_ordersPost 127 = .ok (.iload 4, 2) := by decide +kernel
theorem dX11_ordersPost_129 : decode cX11_ordersPost 129 = .ok (.iload 11, 2) := by decide +kernel
theorem dX11_ordersPost_131 : decode cX11_ordersPost 131 = .ok (.invokestatic 200, 3) := by decide +kernel
theorem dX11_ordersPost_134 : decode cX11_ordersPost 134 = .ok (.ifCond .eq 8, 3) := by decide +kernel
theorem dX11_ordersPost_137 : decode cX11_ordersPost 137 = .ok (.iload 10, 2) := by decide +kernel
theorem dX11_ordersPost_139 : decode cX11_ordersPost 139 = .ok (.ifCond .le 22, 3) := by decide +kernel
theorem dX11_ordersPost_142 : decode cX11_ordersPost 142 = .ok (.iload 4, 2) := by decide +kernel
theorem dX11_ordersPost_144 : decode cX11_ordersPost 144 = .ok (.iload 11, 2) := by decide +kernel
theorem dX11_ordersPost_146 : decode cX11_ordersPost 146 = .ok (.invokestatic 200, 3) := by decide +kernel
theorem dX11_ordersPost_149 : decode cX11_ordersPost 149 = .ok (.ifCond .eq 6, 3) := by decide +kernel
theorem dX11_ordersPost_152 : decode cX11_ordersPost 152 = .ok (.iinc 10 (-1), 3) := by decide +kernel
theorem dX11_ordersPost_155 : decode cX11_ordersPost 155 = .ok (.iinc 11 1, 3) := by decide +kernel
theorem dX11_ordersPost_158 : decode cX11_ordersPost 158 = .ok (.goto (-31), 3) := by decide +kernel
theorem dX11_ordersPost_161 : decode cX11_ordersPost 161 = .ok (.iload 4, 2) := by decide +kernel
theorem dX11_ordersPost_163 : decode cX11_ordersPost 163 = .ok (.iconst 1, 1) := by decide +kernel
theorem dX11_ordersPost_164 : decode cX11_ordersPost 164 = .ok (.iload 11, 2) := by decide +kernel
theorem dX11_ordersPost_166 : decode cX11_ordersPost 166 = .ok (.ishl, 1) := by decide +kernel
theorem dX11_ordersPost_167 : decode cX11_ordersPost 167 = .ok (.iconst (-1), 1) := by decide +kernel
theorem dX11_ordersPost_168 : decode cX11_ordersPost 168 = .ok (.ixor, 1) := by decide +kernel
theorem dX11_ordersPost_169 : decode cX11_ordersPost 169 = .ok (.iand, 1) := by decide +kernel
theorem dX11_ordersPost_170 : decode cX11_ordersPost 170 = .ok (.istore 4, 2) := by decide +kernel
theorem dX11_ordersPost_172 : decode cX11_ordersPost 172 = .ok (.aload_n 0, 1) := by decide +kernel
theorem dX11_ordersPost_173 : decode cX11_ordersPost 173 = .ok (.getfield 71, 3) := by decide +kernel
theorem dX11_ordersPost_176 : decode cX11_ordersPost 176 = .ok (.iload_n 1, 1) := by decide +kernel
theorem dX11_ordersPost_177 : decode cX11_ordersPost 177 = .ok (.iload 11, 2) := by decide +kernel
theorem dX11_ordersPost_179 : decode cX11_ordersPost 179 = .ok (.invokestatic 193, 3) := by decide +kernel
theorem dX11_ordersPost_182 : decode cX11_ordersPost 182 = .ok (.iinc 7 1, 3) := by decide +kernel
theorem dX11_ordersPost_185 : decode cX11_ordersPost 185 = .ok (.goto (-121), 3) := by decide +kernel
theorem dX11_ordersPost_188 : decode cX11_ordersPost 188 = .ok (.return_, 1) := by decide +kernel
theorem dX11_triesOrder_0 : decode cX11_triesOrder 0 = .ok (.iconst 0, 1) := by decide +kernel
theorem dX11_triesOrder_1 : decode cX11_triesOrder 1 = .ok (.istore_n 3, 1) := by decide +kernel
theorem dX11_triesOrder_2 : decode cX11_triesOrder 2 = .ok (.iload_n 3, 1) := by decide +kernel
theorem dX11_triesOrder_3 : decode cX11_triesOrder 3 = .ok (.bipush 98, 2) := by decide +kernel
theorem dX11_triesOrder_5 : decode cX11_triesOrder 5 = .ok (.if_icmp .ge 21, 3) := by decide +kernel
theorem dX11_triesOrder_8 : decode cX11_triesOrder 8 = .ok (.aload_n 0, 1) := by decide +kernel
theorem dX11_triesOrder_9 : decode cX11_triesOrder 9 = .ok (.getfield 71, 3) := by decide +kernel
theorem dX11_triesOrder_12 : decode cX11_triesOrder 12 = .ok (.iload_n 3, 1) := by decide +kernel
theorem dX11_triesOrder_13 : decode cX11_triesOrder 13 = .ok (.aload_n 0, 1) := by decide +kernel
theorem dX11_triesOrder_14 : decode cX11_triesOrder 14 = .ok (.getfield 40, 3) := by decide +kernel
theorem dX11_triesOrder_17 : decode cX11_triesOrder 17 = .ok (.iload_n 3, 1) := by decide +kernel
theorem dX11_triesOrder_18 : decode cX11_triesOrder 18 = .ok (.iaload, 1) := by decide +kernel
theorem dX11_triesOrder_19 : decode cX11_triesOrder 19 = .ok (.iastore, 1) := by decide +kernel
theorem dX11_triesOrder_20 : decode cX11_triesOrder 20 = .ok (.iinc 3 1, 3) := by decide +kernel
theorem dX11_triesOrder_23 : decode cX11_triesOrder 23 = .ok (.goto (-21), 3) := by decide +kernel
theorem dX11_triesOrder_26 : decode cX11_triesOrder 26 = .ok (.iconst 0, 1) := by decide +kernel
theorem dX11_triesOrder_27 : decode cX11_triesOrder 27 = .ok (.istore_n 3, 1) := by decide +kernel
theorem dX11_triesOrder_28 : decode cX11_triesOrder 28 = .ok (.iload_n 3, 1) := by decide +kernel
theorem dX11_triesOrder_29 : decode cX11_triesOrder 29 = .ok (.aload_n 0, 1) := by decide +kernel
theorem dX11_triesOrder_30 : decode cX11_triesOrder 30 = .ok (.getfield 40, 3) := by decide +kernel
theorem dX11_triesOrder_33 : decode cX11_triesOrder 33 = .ok (.iconst 1, 1) := by decide +kernel
theorem dX11_triesOrder_34 : decode cX11_triesOrder 34 = .ok (.iaload, 1) := by decide +kernel
theorem dX11_triesOrder_35 : decode cX11_triesOrder 35 = .ok (.if_icmp .ge 19, 3) := by decide +kernel
theorem dX11_triesOrder_38 : decode cX11_triesOrder 38 = .ok (.aload_n 0, 1) := by decide +kernel
theorem dX11_triesOrder_39 : decode cX11_triesOrder 39 = .ok (.getfield 71, 3) := by decide +kernel
theorem dX11_triesOrder_42 : decode cX11_triesOrder 42 = .ok (.bipush 22, 2) := by decide +kernel
theorem dX11_triesOrder_44 : decode cX11_triesOrder 44 = .ok (.iload_n 3, 1) := by decide +kernel
theorem dX11_triesOrder_45 : decode cX11_triesOrder 45 = .ok (.iadd, 1) := by decide +kernel
theorem dX11_triesOrder_46 : decode cX11_triesOrder 46 = .ok (.iconst 0, 1) := by decide +kernel
theorem dX11_triesOrder_47 : decode cX11_triesOrder 47 = .ok (.iastore, 1) := by decide +kernel
theorem dX11_triesOrder_48 : decode cX11_triesOrder 48 = .ok (.iinc 3 1, 3) := by decide +kernel
theorem dX11_triesOrder_51 : decode cX11_triesOrder 51 = .ok (.goto (-23), 3) := by decide +kernel
theorem dX11_triesOrder_54 : decode cX11_triesOrder 54 = .ok (.lload_n 1, 1) := by decide +kernel
theorem dX11_triesOrder_55 : decode cX11_triesOrder 55 = .ok (.lstore_n 3, 1) := by decide +kernel
theorem dX11_triesOrder_56 : decode cX11_triesOrder 56 = .ok (.aload_n 0, 1) := by decide +kernel
theorem dX11_triesOrder_57 : decode cX11_triesOrder 57 = .ok (.getfield 40, 3) := by decide +kernel
theorem dX11_triesOrder_60 : decode cX11_triesOrder 60 = .ok (.iconst 0, 1) := by decide +kernel
theorem dX11_triesOrder_61 : decode cX11_triesOrder 61 = .ok (.iaload, 1) := by decide +kernel
theorem dX11_triesOrder_62 : decode cX11_triesOrder 62 = .ok (.iconst 1, 1) := by decide +kernel
theorem dX11_triesOrder_63 : decode cX11_triesOrder 63 = .ok (.isub, 1) := by decide +kernel
theorem dX11_triesOrder_64 : decode cX11_triesOrder 64 = .ok (.istore 5, 2) := by decide +kernel
theorem dX11_triesOrder_66 : decode cX11_triesOrder 66 = .ok (.iload 5, 2) := by decide +kernel
theorem dX11_triesOrder_68 : decode cX11_triesOrder 68 = .ok (.ifCond .lt 39, 3) := by decide +kernel
theorem dX11_triesOrder_71 : decode cX11_triesOrder 71 = .ok (.aload_n 0, 1) := by decide +kernel
theorem dX11_triesOrder_72 : decode cX11_triesOrder 72 = .ok (.getfield 40, 3) := by decide +kernel
theorem dX11_triesOrder_75 : decode cX11_triesOrder 75 = .ok (.bipush 32, 2) := by decide +kernel
theorem dX11_triesOrder_77 : decode cX11_triesOrder 77 = .ok (.iload 5, 2) := by decide +kernel
theorem dX11_triesOrder_79 : decode cX11_triesOrder 79 = .ok (.iadd, 1) := by decide +kernel
theorem dX11_triesOrder_80 : decode cX11_triesOrder 80 = .ok (.iaload, 1) := by decide +kernel
theorem dX11_triesOrder_81 : decode cX11_triesOrder 81 = .ok (.invokestatic 272, 3) := by decide +kernel
theorem dX11_triesOrder_84 : decode cX11_triesOrder 84 = .ok (.lstore 6, 2) := by decide +kernel
theorem dX11_triesOrder_86 : decode cX11_triesOrder 86 = .ok (.aload_n 0, 1) := by decide +kernel
theorem dX11_triesOrder_87 : decode cX11_triesOrder 87 = .ok (.iload 5, 2) := by decide +kernel
theorem dX11_triesOrder_89 : decode cX11_triesOrder 89 = .ok (.lload_n 3, 1) := by decide +kernel
theorem dX11_triesOrder_90 : decode cX11_triesOrder 90 = .ok (.lload 6, 2) := by decide +kernel
theorem dX11_triesOrder_92 : decode cX11_triesOrder 92 = .ok (.lrem, 1) := by decide +kernel
theorem dX11_triesOrder_93 : decode cX11_triesOrder 93 = .ok (.invokevirtual 276, 3) := by decide +kernel
theorem dX11_triesOrder_96 : decode cX11_triesOrder 96 = .ok (.lload_n 3, 1) := by decide +kernel
theorem dX11_triesOrder_97 : decode cX11_triesOrder 97 = .ok (.lload 6, 2) := by decide +kernel
theorem dX11_triesOrder_99 : decode cX11_triesOrder 99 = .ok (.ldiv, 1) := by decide +kernel
theorem dX11_triesOrder_100 : decode cX11_triesOrder 100 = .ok (.lstore_n 3, 1) := by decide +kernel
theorem dX11_triesOrder_101 : decode cX11_triesOrder 101 = .ok (.iinc 5 (-1), 3) := by decide +kernel
theorem dX11_triesOrder_104 : decode cX11_triesOrder 104 = .ok (.goto (-38), 3) := by decide +kernel
theorem dX11_triesOrder_107 : decode cX11_triesOrder 107 = .ok (.return_, 1) := by decide +kernel
theorem dX11_triesAll_0 : decode cX11_triesAll 0 = .ok (.aload_n 0, 1) := by decide +kernel
theorem dX11_triesAll_1 : decode cX11_triesAll 1 = .ok (.invokevirtual 280, 3) := by decide +kernel
theorem dX11_triesAll_4 : decode cX11_triesAll 4 = .ok (.lstore_n 1, 1) := by decide +kernel
theorem dX11_triesAll_5 : decode cX11_triesAll 5 = .ok (.lload_n 1, 1) := by decide +kernel
theorem dX11_triesAll_6 : decode cX11_triesAll 6 = .ok (.ldc2_w 284, 3) := by decide +kernel
theorem dX11_triesAll_9 : decode cX11_triesAll 9 = .ok (.lcmp, 1) := by decide +kernel
theorem dX11_triesAll_10 : decode cX11_triesAll 10 = .ok (.ifCond .le 5, 3) := by decide +kernel
theorem dX11_triesAll_13 : decode cX11_triesAll 13 = .ok (.iconst 0, 1) := by decide +kernel
theorem dX11_triesAll_14 : decode cX11_triesAll 14 = .ok (.ireturn, 1) := by decide +kernel
theorem dX11_triesAll_15 : decode cX11_triesAll 15 = .ok (.iconst 0, 1) := by decide +kernel
theorem dX11_triesAll_16 : decode cX11_triesAll 16 = .ok (.istore_n 3, 1) := by decide +kernel
theorem dX11_triesAll_17 : decode cX11_triesAll 17 = .ok (.iload_n 3, 1) := by decide +kernel
theorem dX11_triesAll_18 : decode cX11_triesAll 18 = .ok (.bipush 20, 2) := by decide +kernel
theorem dX11_triesAll_20 : decode cX11_triesAll 20 = .ok (.if_icmp .ge 16, 3) := by decide +kernel
theorem dX11_triesAll_23 : decode cX11_triesAll 23 = .ok (.aload_n 0, 1) := by decide +kernel
theorem dX11_triesAll_24 : decode cX11_triesAll 24 = .ok (.getfield 74, 3) := by decide +kernel
theorem dX11_triesAll_27 : decode cX11_triesAll 27 = .ok (.iload_n 3, 1) := by decide +kernel
theorem dX11_triesAll_28 : decode cX11_triesAll 28 = .ok (.iconst 0, 1) := by decide +kernel
theorem dX11_triesAll_29 : decode cX11_triesAll 29 = .ok (.iastore, 1) := by decide +kernel
theorem dX11_triesAll_30 : decode cX11_triesAll 30 = .ok (.iinc 3 1, 3) := by decide +kernel
theorem dX11_triesAll_33 : decode cX11_triesAll 33 = .ok (.goto (-16), 3) := by decide +kernel
theorem dX11_triesAll_36 : decode cX11_triesAll 36 = .ok (.aload_n 0, 1) := by decide +kernel
theorem dX11_triesAll_37 : decode cX11_triesAll 37 = .ok (.aload_n 0, 1) := by decide +kernel
theorem dX11_triesAll_38 : decode cX11_triesAll 38 = .ok (.getfield 40, 3) := by decide +kernel
theorem dX11_triesAll_41 : decode cX11_triesAll 41 = .ok (.invokevirtual 262, 3) := by decide +kernel
theorem dX11_triesAll_44 : decode cX11_triesAll 44 = .ok (.istore_n 3, 1) := by decide +kernel
theorem dX11_triesAll_45 : decode cX11_triesAll 45 = .ok (.aload_n 0, 1) := by decide +kernel
theorem dX11_triesAll_46 : decode cX11_triesAll 46 = .ok (.bipush 100, 2) := by decide +kernel
theorem dX11_triesAll_48 : decode cX11_triesAll 48 = .ok (.putfield 286, 3) := by decide +kernel
theorem dX11_triesAll_51 : decode cX11_triesAll 51 = .ok (.aload_n 0, 1) := by decide +kernel
theorem dX11_triesAll_52 : decode cX11_triesAll 52 = .ok (.iconst 0, 1) := by decide +kernel
theorem dX11_triesAll_53 : decode cX11_triesAll 53 = .ok (.putfield 289, 3) := by decide +kernel
theorem dX11_triesAll_56 : decode cX11_triesAll 56 = .ok (.iconst 0, 1) := by decide +kernel
theorem dX11_triesAll_57 : decode cX11_triesAll 57 = .ok (.istore 4, 2) := by decide +kernel
theorem dX11_triesAll_59 : decode cX11_triesAll 59 = .ok (.iload 4, 2) := by decide +kernel
theorem dX11_triesAll_61 : decode cX11_triesAll 61 = .ok (.i2l, 1) := by decide +kernel
theorem dX11_triesAll_62 : decode cX11_triesAll 62 = .ok (.lload_n 1, 1) := by decide +kernel
theorem dX11_triesAll_63 : decode cX11_triesAll 63 = .ok (.lcmp, 1) := by decide +kernel
theorem dX11_triesAll_64 : decode cX11_triesAll 64 = .ok (.ifCond .ge 80, 3) := by decide +kernel
theorem dX11_triesAll_67 : decode cX11_triesAll 67 = .ok (.aload_n 0, 1) := by decide +kernel
theorem dX11_triesAll_68 : decode cX11_triesAll 68 = .ok (.iload 4, 2) := by decide +kernel
theorem dX11_triesAll_70 : decode cX11_triesAll 70 = .ok (.i2l, 1) := by decide +kernel
theorem dX11_triesAll_71 : decode cX11_triesAll 71 = .ok (.invokevirtual 292, 3) := by decide +kernel
theorem dX11_triesAll_74 : decode cX11_triesAll 74 = .ok (.iload_n 3, 1) := by decide +kernel
theorem dX11_triesAll_75 : decode cX11_triesAll 75 = .ok (.aload_n 0, 1) := by decide +kernel
theorem dX11_triesAll_76 : decode cX11_triesAll 76 = .ok (.aload_n 0, 1) := by decide +kernel
theorem dX11_triesAll_77 : decode cX11_triesAll 77 = .ok (.getfield 71, 3) := by decide +kernel
theorem dX11_triesAll_80 : decode cX11_triesAll 80 = .ok (.invokevirtual 265, 3) := by decide +kernel
theorem dX11_triesAll_83 : decode cX11_triesAll 83 = .ok (.iconst 2, 1) := by decide +kernel
theorem dX11_triesAll_84 : decode cX11_triesAll 84 = .ok (.idiv, 1) := by decide +kernel
theorem dX11_triesAll_85 : decode cX11_triesAll 85 = .ok (.isub, 1) := by decide +kernel
theorem dX11_triesAll_86 : decode cX11_triesAll 86 = .ok (.istore 5, 2) := by decide +kernel
theorem dX11_triesAll_88 : decode cX11_triesAll 88 = .ok (.aload_n 0, 1) := by decide +kernel
theorem dX11_triesAll_89 : decode cX11_triesAll 89 = .ok (.getfield 74, 3) := by decide +kernel
theorem dX11_triesAll_92 : decode cX11_triesAll 92 = .ok (.iload 5, 2) := by decide +kernel
theorem dX11_triesAll_94 : decode cX11_triesAll 94 = .ok (.dup2, 1) := by decide +kernel
theorem dX11_triesAll_95 : decode cX11_triesAll 95 = .ok (.iaload, 1) := by decide +kernel
theorem dX11_triesAll_96 : decode cX11_triesAll 96 = .ok (.iconst 1, 1) := by decide +kernel
theorem dX11_triesAll_97 : decode cX11_triesAll 97 = .ok (.iadd, 1) := by decide +kernel
theorem dX11_triesAll_98 : decode cX11_triesAll 98 = .ok (.iastore, 1) := by decide +kernel
theorem dX11_triesAll_99 : decode cX11_triesAll 99 = .ok (.iload 5, 2) := by decide +kernel
theorem dX11_triesAll_101 : decode cX11_triesAll 101 = .ok (.aload_n 0, 1) := by decide +kernel
theorem dX11_triesAll_102 : decode cX11_triesAll 102 = .ok (.getfield 289, 3) := by decide +kernel
theorem dX11_triesAll_105 : decode cX11_triesAll 105 = .ok (.if_icmp .le 9, 3) := by decide +kernel
theorem dX11_triesAll_108 : decode cX11_triesAll 108 = .ok (.aload_n 0, 1) := by decide +kernel
theorem dX11_triesAll_109 : decode cX11_triesAll 109 = .ok (.iload 5, 2) := by decide +kernel
theorem dX11_triesAll_111 : decode cX11_triesAll 111 = .ok (.putfield 289, 3) := by decide +kernel
theorem dX11_triesAll_114 : decode cX11_triesAll 114 = .ok (.iload 5, 2) := by decide +kernel
theorem dX11_triesAll_116 : decode cX11_triesAll 116 = .ok (.aload_n 0, 1) := by decide +kernel
theorem dX11_triesAll_117 : decode cX11_triesAll 117 = .ok (.getfield 286, 3) := by decide +kernel
theorem dX11_triesAll_120 : decode cX11_triesAll 120 = .ok (.if_icmp .lt 6, 3) := by decide +kernel
theorem dX11_triesAll_123 : decode cX11_triesAll 123 = .ok (.goto 15, 3) := by decide +kernel
theorem dX11_triesAll_126 : decode cX11_triesAll 126 = .ok (.aload_n 0, 1) := by decide +kernel
theorem dX11_triesAll_127 : decode cX11_triesAll 127 = .ok (.iload 5, 2) := by decide +kernel
theorem dX11_triesAll_129 : decode cX11_triesAll 129 = .ok (.putfield 286, 3) := by decide +kernel
theorem dX11_triesAll_132 : decode cX11_triesAll 132 = .ok (.aload_n 0, 1) := by decide +kernel
theorem dX11_triesAll_133 : decode cX11_triesAll 133 = .ok (.iload 4, 2) := by decide +kernel
theorem dX11_triesAll_135 : decode cX11_triesAll 135 = .ok (.putfield 296, 3) := by decide +kernel
theorem dX11_triesAll_138 : decode cX11_triesAll 138 = .ok (.iinc 4 1, 3) := by decide +kernel
theorem dX11_triesAll_141 : decode cX11_triesAll 141 = .ok (.goto (-82), 3) := by decide +kernel
theorem dX11_triesAll_144 : decode cX11_triesAll 144 = .ok (.iconst 1, 1) := by decide +kernel
theorem dX11_triesAll_145 : decode cX11_triesAll 145 = .ok (.ireturn, 1) := by decide +kernel
theorem dX11_all_0 : decode cX11_all 0 = .ok (.iload_n 1, 1) := by decide +kernel
theorem dX11_all_1 : decode cX11_all 1 = .ok (.iconst 0, 1) := by decide +kernel
theorem dX11_all_2 : decode cX11_all 2 = .ok (.iconst 3, 1) := by decide +kernel
theorem dX11_all_3 : decode cX11_all 3 = .ok (.invokestatic 204, 3) := by decide +kernel
theorem dX11_all_6 : decode cX11_all 6 = .ok (.ifCond .ne 7, 3) := by decide +kernel
theorem dX11_all_9 : decode cX11_all 9 = .ok (.ldc2_w 299, 3) := by decide +kernel
theorem dX11_all_12 : decode cX11_all 12 = .ok (.lreturn, 1) := by decide +kernel
theorem dX11_all_13 : decode cX11_all 13 = .ok (.iload_n 1, 1) := by decide +kernel
theorem dX11_all_14 : decode cX11_all 14 = .ok (.ifCond .ne 8, 3) := by decide +kernel
theorem dX11_all_17 : decode cX11_all 17 = .ok (.aload_n 0, 1) := by decide +kernel
theorem dX11_all_18 : decode cX11_all 18 = .ok (.invokevirtual 280, 3) := by decide +kernel
theorem dX11_all_21 : decode cX11_all 21 = .ok (.lreturn, 1) := by decide +kernel
theorem dX11_all_22 : decode cX11_all 22 = .ok (.aload_n 0, 1) := by decide +kernel
theorem dX11_all_23 : decode cX11_all 23 = .ok (.invokevirtual 301, 3) := by decide +kernel
theorem dX11_all_26 : decode cX11_all 26 = .ok (.ifCond .ne 7, 3) := by decide +kernel
theorem dX11_all_29 : decode cX11_all 29 = .ok (.ldc2_w 304, 3) := by decide +kernel
theorem dX11_all_32 : decode cX11_all 32 = .ok (.lreturn, 1) := by decide +kernel
theorem dX11_all_33 : decode cX11_all 33 = .ok (.iload_n 1, 1) := by decide +kernel
theorem dX11_all_34 : decode cX11_all 34 = .ok (.iconst 1, 1) := by decide +kernel
theorem dX11_all_35 : decode cX11_all 35 = .ok (.if_icmp .ne 11, 3) := by decide +kernel
theorem dX11_all_38 : decode cX11_all 38 = .ok (.aload_n 0, 1) := by decide +kernel
theorem dX11_all_39 : decode cX11_all 39 = .ok (.getfield 286, 3) := by decide +kernel
theorem dX11_all_42 : decode cX11_all 42 = .ok (.i2l, 1) := by decide +kernel
theorem dX11_all_43 : decode cX11_all 43 = .ok (.goto 21, 3) := by decide +kernel
theorem dX11_all_46 : decode cX11_all 46 = .ok (.iload_n 1, 1) := by decide +kernel
theorem dX11_all_47 : decode cX11_all 47 = .ok (.iconst 2, 1) := by decide +kernel
theorem dX11_all_48 : decode cX11_all 48 = .ok (.if_icmp .ne 11, 3) := by decide +kernel
theorem dX11_all_51 : decode cX11_all 51 = .ok (.aload_n 0, 1) := by decide +kernel
theorem dX11_all_52 : decode cX11_all 52 = .ok (.getfield 289, 3) := by decide +kernel
theorem dX11_all_55 : decode cX11_all 55 = .ok (.i2l, 1) := by decide +kernel
theorem dX11_all_56 : decode cX11_all 56 = .ok (.goto 8, 3) := by decide +kernel
theorem dX11_all_59 : decode cX11_all 59 = .ok (.aload_n 0, 1) := by decide +kernel
theorem dX11_all_60 : decode cX11_all 60 = .ok (.getfield 296, 3) := by decide +kernel
theorem dX11_all_63 : decode cX11_all 63 = .ok (.i2l, 1) := by decide +kernel
theorem dX11_all_64 : decode cX11_all 64 = .ok (.lreturn, 1) := by decide +kernel
theorem dX11_needing_0 : decode cX11_needing 0 = .ok (.aload_n 0, 1) := by decide +kernel
theorem dX11_needing_1 : decode cX11_needing 1 = .ok (.invokevirtual 301, 3) := by decide +kernel
theorem dX11_needing_4 : decode cX11_needing 4 = .ok (.ifCond .ne 6, 3) := by decide +kernel
theorem dX11_needing_7 : decode cX11_needing 7 = .ok (.bipush (-2), 2) := by decide +kernel
theorem dX11_needing_9 : decode cX11_needing 9 = .ok (.ireturn, 1) := by decide +kernel
theorem dX11_needing_10 : decode cX11_needing 10 = .ok (.iload_n 1, 1) := by decide +kernel
theorem dX11_needing_11 : decode cX11_needing 11 = .ok (.iconst 0, 1) := by decide +kernel
theorem dX11_needing_12 : decode cX11_needing 12 = .ok (.bipush 19, 2) := by decide +kernel
theorem dX11_needing_14 : decode cX11_needing 14 = .ok (.invokestatic 204, 3) := by decide +kernel
theorem dX11_needing_17 : decode cX11_needing 17 = .ok (.ifCond .eq 12, 3) := by decide +kernel
theorem dX11_needing_20 : decode cX11_needing 20 = .ok (.aload_n 0, 1) := by decide +kernel
theorem dX11_needing_21 : decode cX11_needing 21 = .ok (.getfield 74, 3) := by decide +kernel
theorem dX11_needing_24 : decode cX11_needing 24 = .ok (.iload_n 1, 1) := by decide +kernel
theorem dX11_needing_25 : decode cX11_needing 25 = .ok (.iaload, 1) := by decide +kernel
theorem dX11_needing_26 : decode cX11_needing 26 = .ok (.goto 4, 3) := by decide +kernel
theorem dX11_needing_29 : decode cX11_needing 29 = .ok (.iconst 0, 1) := by decide +kernel
theorem dX11_needing_30 : decode cX11_needing 30 = .ok (.ireturn, 1) := by decide +kernel
theorem dX11_ordered_0 : decode cX11_ordered 0 = .ok (.aload_n 0, 1) := by decide +kernel
theorem dX11_ordered_1 : decode cX11_ordered 1 = .ok (.iload_n 2, 1) := by decide +kernel
theorem dX11_ordered_2 : decode cX11_ordered 2 = .ok (.invokevirtual 215, 3) := by decide +kernel
theorem dX11_ordered_5 : decode cX11_ordered 5 = .ok (.ifCond .eq 36, 3) := by decide +kernel
theorem dX11_ordered_8 : decode cX11_ordered 8 = .ok (.iload_n 1, 1) := by decide +kernel
theorem dX11_ordered_9 : decode cX11_ordered 9 = .ok (.ifCond .lt 32, 3) := by decide +kernel
theorem dX11_ordered_12 : decode cX11_ordered 12 = .ok (.iload_n 1, 1) := by decide +kernel
theorem dX11_ordered_13 : decode cX11_ordered 13 = .ok (.i2l, 1) := by decide +kernel
theorem dX11_ordered_14 : decode cX11_ordered 14 = .ok (.aload_n 0, 1) := by decide +kernel
theorem dX11_ordered_15 : decode cX11_ordered 15 = .ok (.invokevirtual 280, 3) := by decide +kernel
theorem dX11_ordered_18 : decode cX11_ordered 18 = .ok (.lcmp, 1) := by decide +kernel
theorem dX11_ordered_19 : decode cX11_ordered 19 = .ok (.ifCond .ge 22, 3) := by decide +kernel
theorem dX11_ordered_22 : decode cX11_ordered 22 = .ok (.iload_n 3, 1) := by decide +kernel
theorem dX11_ordered_23 : decode cX11_ordered 23 = .ok (.iconst 0, 1) := by decide +kernel
theorem dX11_ordered_24 : decode cX11_ordered 24 = .ok (.aload_n 0, 1) := by decide +kernel
theorem dX11_ordered_25 : decode cX11_ordered 25 = .ok (.getfield 40, 3) := by decide +kernel
theorem dX11_ordered_28 : decode cX11_ordered 28 = .ok (.bipush 32, 2) := by decide +kernel
theorem dX11_ordered_30 : decode cX11_ordered 30 = .ok (.iload_n 2, 1) := by decide +kernel
theorem dX11_ordered_31 : decode cX11_ordered 31 = .ok (.iadd, 1) := by decide +kernel
theorem dX11_ordered_32 : decode cX11_ordered 32 = .ok (.iaload, 1) := by decide +kernel
theorem dX11_ordered_33 : decode cX11_ordered 33 = .ok (.iconst 1, 1) := by decide +kernel
theorem dX11_ordered_34 : decode cX11_ordered 34 = .ok (.isub, 1) := by decide +kernel
theorem dX11_ordered_35 : decode cX11_ordered 35 = .ok (.invokestatic 204, 3) := by decide +kernel
theorem dX11_ordered_38 : decode cX11_ordered 38 = .ok (.ifCond .ne 5, 3) := by decide +kernel
theorem dX11_ordered_41 : decode cX11_ordered 41 = .ok (.iconst (-1), 1) := by decide +kernel
theorem dX11_ordered_42 : decode cX11_ordered 42 = .ok (.ireturn, 1) := by decide +kernel
theorem dX11_ordered_43 : decode cX11_ordered 43 = .ok (.aload_n 0, 1) := by decide +kernel
theorem dX11_ordered_44 : decode cX11_ordered 44 = .ok (.iload_n 1, 1) := by decide +kernel
theorem dX11_ordered_45 : decode cX11_ordered 45 = .ok (.i2l, 1) := by decide +kernel
theorem dX11_ordered_46 : decode cX11_ordered 46 = .ok (.invokevirtual 292, 3) := by decide +kernel
theorem dX11_ordered_49 : decode cX11_ordered 49 = .ok (.aload_n 0, 1) := by decide +kernel
theorem dX11_ordered_50 : decode cX11_ordered 50 = .ok (.getfield 71, 3) := by decide +kernel
theorem dX11_ordered_53 : decode cX11_ordered 53 = .ok (.bipush 38, 2) := by decide +kernel
theorem dX11_ordered_55 : decode cX11_ordered 55 = .ok (.bipush 10, 2) := by decide +kernel
theorem dX11_ordered_57 : decode cX11_ordered 57 = .ok (.iload_n 2, 1) := by decide +kernel
theorem dX11_ordered_58 : decode cX11_ordered 58 = .ok (.imul, 1) := by decide +kernel
theorem dX11_ordered_59 : decode cX11_ordered 59 = .ok (.iadd, 1) := by decide +kernel
theorem dX11_ordered_60 : decode cX11_ordered 60 = .ok (.iload_n 3, 1) := by decide +kernel
theorem dX11_ordered_61 : decode cX11_ordered 61 = .ok (.iadd, 1) := by decide +kernel
theorem dX11_ordered_62 : decode cX11_ordered 62 = .ok (.iaload, 1) := by decide +kernel
theorem dX11_ordered_63 : decode cX11_ordered 63 = .ok (.ireturn, 1) := by decide +kernel
theorem dX11_lessen_0 : decode cX11_lessen 0 = .ok (.aload_n 0, 1) := by decide +kernel
theorem dX11_lessen_1 : decode cX11_lessen 1 = .ok (.invokevirtual 301, 3) := by decide +kernel
theorem dX11_lessen_4 : decode cX11_lessen 4 = .ok (.ifCond .ne 5, 3) := by decide +kernel
theorem dX11_lessen_7 : decode cX11_lessen 7 = .ok (.iconst (-1), 1) := by decide +kernel
theorem dX11_lessen_8 : decode cX11_lessen 8 = .ok (.ireturn, 1) := by decide +kernel
theorem dX11_lessen_9 : decode cX11_lessen 9 = .ok (.aload_n 0, 1) := by decide +kernel
theorem dX11_lessen_10 : decode cX11_lessen 10 = .ok (.getfield 286, 3) := by decide +kernel
theorem dX11_lessen_13 : decode cX11_lessen 13 = .ok (.istore_n 1, 1) := by decide +kernel
theorem dX11_lessen_14 : decode cX11_lessen 14 = .ok (.aload_n 0, 1) := by decide +kernel
theorem dX11_lessen_15 : decode cX11_lessen 15 = .ok (.aload_n 0, 1) := by decide +kernel
theorem dX11_lessen_16 : decode cX11_lessen 16 = .ok (.getfield 296, 3) := by decide +kernel
theorem dX11_lessen_19 : decode cX11_lessen 19 = .ok (.i2l, 1) := by decide +kernel
theorem dX11_lessen_20 : decode cX11_lessen 20 = .ok (.invokevirtual 292, 3) := by decide +kernel
theorem dX11_lessen_23 : decode cX11_lessen 23 = .ok (.aload_n 0, 1) := by decide +kernel
theorem dX11_lessen_24 : decode cX11_lessen 24 = .ok (.invokevirtual 221, 3) := by decide +kernel
theorem dX11_lessen_27 : decode cX11_lessen 27 = .ok (.iconst 0, 1) := by decide +kernel
theorem dX11_lessen_28 : decode cX11_lessen 28 = .ok (.istore_n 2, 1) := by decide +kernel
theorem dX11_lessen_29 : decode cX11_lessen 29 = .ok (.iload_n 2, 1) := by decide +kernel
theorem dX11_lessen_30 : decode cX11_lessen 30 = .ok (.bipush 98, 2) := by decide +kernel
theorem dX11_lessen_32 : decode cX11_lessen 32 = .ok (.if_icmp .ge 21, 3) := by decide +kernel
theorem dX11_lessen_35 : decode cX11_lessen 35 = .ok (.aload_n 0, 1) := by decide +kernel
theorem dX11_lessen_36 : decode cX11_lessen 36 = .ok (.getfield 40, 3) := by decide +kernel
theorem dX11_lessen_39 : decode cX11_lessen 39 = .ok (.iload_n 2, 1) := by decide +kernel
theorem dX11_lessen_40 : decode cX11_lessen 40 = .ok (.aload_n 0, 1) := by decide +kernel
theorem dX11_lessen_41 : decode cX11_lessen 41 = .ok (.getfield 71, 3) := by decide +kernel
theorem dX11_lessen_44 : decode cX11_lessen 44 = .ok (.iload_n 2, 1) := by decide +kernel
theorem dX11_lessen_45 : decode cX11_lessen 45 = .ok (.iaload, 1) := by decide +kernel
theorem dX11_lessen_46 : decode cX11_lessen 46 = .ok (.iastore, 1) := by decide +kernel
theorem dX11_lessen_47 : decode cX11_lessen 47 = .ok (.iinc 2 1, 3) := by decide +kernel
theorem dX11_lessen_50 : decode cX11_lessen 50 = .ok (.goto (-21), 3) := by decide +kernel
theorem dX11_lessen_53 : decode cX11_lessen 53 = .ok (.iload_n 1, 1) := by decide +kernel
theorem dX11_lessen_54 : decode cX11_lessen 54 = .ok (.ireturn, 1) := by decide +kernel
theorem dX11_forest_0 : decode cX11_forest 0 = .ok (.iconst 0, 1) := by decide +kernel
theorem dX11_forest_1 : decode cX11_forest 1 = .ok (.istore_n 1, 1) := by decide +kernel
theorem dX11_forest_2 : decode cX11_forest 2 = .ok (.iconst 0, 1) := by decide +kernel
theorem dX11_forest_3 : decode cX11_forest 3 = .ok (.istore_n 2, 1) := by decide +kernel
theorem dX11_forest_4 : decode cX11_forest 4 = .ok (.iload_n 2, 1) := by decide +kernel
theorem dX11_forest_5 : decode cX11_forest 5 = .ok (.aload_n 0, 1) := by decide +kernel
theorem dX11_forest_6 : decode cX11_forest 6 = .ok (.getfield 40, 3) := by decide +kernel
theorem dX11_forest_9 : decode cX11_forest 9 = .ok (.iconst 0, 1) := by decide +kernel
theorem dX11_forest_10 : decode cX11_forest 10 = .ok (.iaload, 1) := by decide +kernel
theorem dX11_forest_11 : decode cX11_forest 11 = .ok (.if_icmp .ge 16, 3) := by decide +kernel
theorem dX11_forest_14 : decode cX11_forest 14 = .ok (.aload_n 0, 1) := by decide +kernel
theorem dX11_forest_15 : decode cX11_forest 15 = .ok (.getfield 68, 3) := by decide +kernel
theorem dX11_forest_18 : decode cX11_forest 18 = .ok (.iload_n 2, 1) := by decide +kernel
theorem dX11_forest_19 : decode cX11_forest 19 = .ok (.iload_n 2, 1) := by decide +kernel
theorem dX11_forest_20 : decode cX11_forest 20 = .ok (.iastore, 1) := by decide +kernel
theorem dX11_forest_21 : decode cX11_forest 21 = .ok (.iinc 2 1, 3) := by decide +kernel
theorem dX11_forest_24 : decode cX11_forest 24 = .ok (.goto (-20), 3) := by decide +kernel
theorem dX11_forest_27 : decode cX11_forest 27 = .ok (.iconst 0, 1) := by decide +kernel
theorem dX11_forest_28 : decode cX11_forest 28 = .ok (.istore_n 2, 1) := by decide +kernel
theorem dX11_forest_29 : decode cX11_forest 29 = .ok (.iload_n 2, 1) := by decide +kernel
theorem dX11_forest_30 : decode cX11_forest 30 = .ok (.aload_n 0, 1) := by decide +kernel
theorem dX11_forest_31 : decode cX11_forest 31 = .ok (.getfield 40, 3) := by decide +kernel
theorem dX11_forest_34 : decode cX11_forest 34 = .ok (.iconst 1, 1) := by decide +kernel
theorem dX11_forest_35 : decode cX11_forest 35 = .ok (.iaload, 1) := by decide +kernel
theorem dX11_forest_36 : decode cX11_forest 36 = .ok (.if_icmp .ge 99, 3) := by decide +kernel
theorem dX11_forest_39 : decode cX11_forest 39 = .ok (.aload_n 0, 1) := by decide +kernel
theorem dX11_forest_40 : decode cX11_forest 40 = .ok (.getfield 68, 3) := by decide +kernel
theorem dX11_forest_43 : decode cX11_forest 43 = .ok (.aload_n 0, 1) := by decide +kernel
theorem dX11_forest_44 : decode cX11_forest 44 = .ok (.getfield 40, 3) := by decide +kernel
theorem dX11_forest_47 : decode cX11_forest 47 = .ok (.iconst 2, 1) := by decide +kernel
theorem dX11_forest_48 : decode cX11_forest 48 = .ok (.iconst 2, 1) := by decide +kernel
theorem dX11_forest_49 : decode cX11_forest 49 = .ok (.iload_n 2, 1) := by decide +kernel
theorem dX11_forest_50 : decode cX11_forest 50 = .ok (.imul, 1) := by decide +kernel
theorem dX11_forest_51 : decode cX11_forest 51 = .ok (.iadd, 1) := by decide +kernel
theorem dX11_forest_52 : decode cX11_forest 52 = .ok (.iaload, 1) := by decide +kernel
theorem dX11_forest_53 : decode cX11_forest 53 = .ok (.iaload, 1) := by decide +kernel
theorem dX11_forest_54 : decode cX11_forest 54 = .ok (.istore_n 3, 1) := by decide +kernel
theorem dX11_forest_55 : decode cX11_forest 55 = .ok (.aload_n 0, 1) := by decide +kernel
theorem dX11_forest_56 : decode cX11_forest 56 = .ok (.getfield 68, 3) := by decide +kernel
theorem dX11_forest_59 : decode cX11_forest 59 = .ok (.aload_n 0, 1) := by decide +kernel
theorem dX11_forest_60 : decode cX11_forest 60 = .ok (.getfield 40, 3) := by decide +kernel
theorem dX11_forest_63 : decode cX11_forest 63 = .ok (.iconst 2, 1) := by decide +kernel
theorem dX11_forest_64 : decode cX11_forest 64 = .ok (.iconst 2, 1) := by decide +kernel
theorem dX11_forest_65 : decode cX11_forest 65 = .ok (.iload_n 2, 1) := by decide +kernel
theorem dX11_forest_66 : decode cX11_forest 66 = .ok (.imul, 1) := by decide +kernel
theorem dX11_forest_67 : decode cX11_forest 67 = .ok (.iadd, 1) := by decide +kernel
theorem dX11_forest_68 : decode cX11_forest 68 = .ok (.iconst 1, 1) := by decide +kernel
theorem dX11_forest_69 : decode cX11_forest 69 = .ok (.iadd, 1) := by decide +kernel
theorem dX11_forest_70 : decode cX11_forest 70 = .ok (.iaload, 1) := by decide +kernel
theorem dX11_forest_71 : decode cX11_forest 71 = .ok (.iaload, 1) := by decide +kernel
theorem dX11_forest_72 : decode cX11_forest 72 = .ok (.istore 4, 2) := by decide +kernel
theorem dX11_forest_74 : decode cX11_forest 74 = .ok (.iload_n 3, 1) := by decide +kernel
theorem dX11_forest_75 : decode cX11_forest 75 = .ok (.iload 4, 2) := by decide +kernel
theorem dX11_forest_77 : decode cX11_forest 77 = .ok (.if_icmp .ne 6, 3) := by decide +kernel
theorem dX11_forest_80 : decode cX11_forest 80 = .ok (.goto 49, 3) := by decide +kernel
theorem dX11_forest_83 : decode cX11_forest 83 = .ok (.iload_n 1, 1) := by decide +kernel
theorem dX11_forest_84 : decode cX11_forest 84 = .ok (.iconst 1, 1) := by decide +kernel
theorem dX11_forest_85 : decode cX11_forest 85 = .ok (.iload_n 2, 1) := by decide +kernel
theorem dX11_forest_86 : decode cX11_forest 86 = .ok (.ishl, 1) := by decide +kernel
theorem dX11_forest_87 : decode cX11_forest 87 = .ok (.ior, 1) := by decide +kernel
theorem dX11_forest_88 : decode cX11_forest 88 = .ok (.istore_n 1, 1) := by decide +kernel
theorem dX11_forest_89 : decode cX11_forest 89 = .ok (.iconst 0, 1) := by decide +kernel
theorem dX11_forest_90 : decode cX11_forest 90 = .ok (.istore 5, 2) := by decide +kernel
theorem dX11_forest_92 : decode cX11_forest 92 = .ok (.iload 5, 2) := by decide +kernel
theorem dX11_forest_94 : decode cX11_forest 94 = .ok (.aload_n 0, 1) := by decide +kernel
theorem dX11_forest_95 : decode cX11_forest 95 = .ok (.getfield 40, 3) := by decide +kernel
theorem dX11_forest_98 : decode cX11_forest 98 = .ok (.iconst 0, 1) := by decide +kernel
theorem dX11_forest_99 : decode cX11_forest 99 = .ok (.iaload, 1) := by decide +kernel
theorem dX11_forest_100 : decode cX11_forest 100 = .ok (.if_icmp .ge 29, 3) := by decide +kernel
theorem dX11_forest_103 : decode cX11_forest 103 = .ok (.aload_n 0, 1) := by decide +kernel
theorem dX11_forest_104 : decode cX11_forest 104 = .ok (.getfield 68, 3) := by decide +kernel
theorem dX11_forest_107 : decode cX11_forest 107 = .ok (.iload 5, 2) := by decide +kernel
theorem dX11_forest_109 : decode cX11_forest 109 = .ok (.iaload, 1) := by decide +kernel
theorem dX11_forest_110 : decode cX11_forest 110 = .ok (.iload_n 3, 1) := by decide +kernel
theorem dX11_forest_111 : decode cX11_forest 111 = .ok (.if_icmp .ne 12, 3) := by decide +kernel
theorem dX11_forest_114 : decode cX11_forest 114 = .ok (.aload_n 0, 1) := by decide +kernel
theorem dX11_forest_115 : decode cX11_forest 115 = .ok (.getfield 68, 3) := by decide +kernel
theorem dX11_forest_118 : decode cX11_forest 118 = .ok (.iload 5, 2) := by decide +kernel
theorem dX11_forest_120 : decode cX11_forest 120 = .ok (.iload 4, 2) := by decide +kernel
theorem dX11_forest_122 : decode cX11_forest 122 = .ok (.iastore, 1) := by decide +kernel
theorem dX11_forest_123 : decode cX11_forest 123 = .ok (.iinc 5 1, 3) := by decide +kernel
theorem dX11_forest_126 : decode cX11_forest 126 = .ok (.goto (-34), 3) := by decide +kernel
theorem dX11_forest_129 : decode cX11_forest 129 = .ok (.iinc 2 1, 3) := by decide +kernel
theorem dX11_forest_132 : decode cX11_forest 132 = .ok (.goto (-103), 3) := by decide +kernel
theorem dX11_forest_135 : decode cX11_forest 135 = .ok (.iload_n 1, 1) := by decide +kernel
theorem dX11_forest_136 : decode cX11_forest 136 = .ok (.ireturn, 1) := by decide +kernel
theorem dX11_capped_0 : decode cX11_capped 0 = .ok (.aload_n 0, 1) := by decide +kernel
theorem dX11_capped_1 : decode cX11_capped 1 = .ok (.aload_n 0, 1) := by decide +kernel
theorem dX11_capped_2 : decode cX11_capped 2 = .ok (.getfield 40, 3) := by decide +kernel
theorem dX11_capped_5 : decode cX11_capped 5 = .ok (.invokevirtual 262, 3) := by decide +kernel
theorem dX11_capped_8 : decode cX11_capped 8 = .ok (.istore_n 1, 1) := by decide +kernel
theorem dX11_capped_9 : decode cX11_capped 9 = .ok (.aload_n 0, 1) := by decide +kernel
theorem dX11_capped_10 : decode cX11_capped 10 = .ok (.getfield 40, 3) := by decide +kernel
theorem dX11_capped_13 : decode cX11_capped 13 = .ok (.iconst 1, 1) := by decide +kernel
theorem dX11_capped_14 : decode cX11_capped 14 = .ok (.iaload, 1) := by decide +kernel
theorem dX11_capped_15 : decode cX11_capped 15 = .ok (.aload_n 0, 1) := by decide +kernel
theorem dX11_capped_16 : decode cX11_capped 16 = .ok (.getfield 40, 3) := by decide +kernel
theorem dX11_capped_19 : decode cX11_capped 19 = .ok (.iconst 0, 1) := by decide +kernel
theorem dX11_capped_20 : decode cX11_capped 20 = .ok (.iaload, 1) := by decide +kernel
theorem dX11_capped_21 : decode cX11_capped 21 = .ok (.isub, 1) := by decide +kernel
theorem dX11_capped_22 : decode cX11_capped 22 = .ok (.iload_n 1, 1) := by decide +kernel
theorem dX11_capped_23 : decode cX11_capped 23 = .ok (.iadd, 1) := by decide +kernel
theorem dX11_capped_24 : decode cX11_capped 24 = .ok (.istore_n 2, 1) := by decide +kernel
theorem dX11_capped_25 : decode cX11_capped 25 = .ok (.aload_n 0, 1) := by decide +kernel
theorem dX11_capped_26 : decode cX11_capped 26 = .ok (.invokevirtual 280, 3) := by decide +kernel
theorem dX11_capped_29 : decode cX11_capped 29 = .ok (.lstore_n 3, 1) := by decide +kernel
theorem dX11_capped_30 : decode cX11_capped 30 = .ok (.lload_n 3, 1) := by decide +kernel
theorem dX11_capped_31 : decode cX11_capped 31 = .ok (.ldc2_w 284, 3) := by decide +kernel
theorem dX11_capped_34 : decode cX11_capped 34 = .ok (.lcmp, 1) := by decide +kernel
theorem dX11_capped_35 : decode cX11_capped 35 = .ok (.ifCond .gt 13, 3) := by decide +kernel
theorem dX11_capped_38 : decode cX11_capped 38 = .ok (.lload_n 3, 1) := by decide +kernel
theorem dX11_capped_39 : decode cX11_capped 39 = .ok (.iload_n 2, 1) := by decide +kernel
theorem dX11_capped_40 : decode cX11_capped 40 = .ok (.lshl, 1) := by decide +kernel
theorem dX11_capped_41 : decode cX11_capped 41 = .ok (.ldc2_w 284, 3) := by decide +kernel
theorem dX11_capped_44 : decode cX11_capped 44 = .ok (.lcmp, 1) := by decide +kernel
theorem dX11_capped_45 : decode cX11_capped 45 = .ok (.ifCond .le 6, 3) := by decide +kernel
theorem dX11_capped_48 : decode cX11_capped 48 = .ok (.bipush (-2), 2) := by decide +kernel
theorem dX11_capped_50 : decode cX11_capped 50 = .ok (.ireturn, 1) := by decide +kernel
theorem dX11_capped_51 : decode cX11_capped 51 = .ok (.aload_n 0, 1) := by decide +kernel
theorem dX11_capped_52 : decode cX11_capped 52 = .ok (.invokevirtual 306, 3) := by decide +kernel
theorem dX11_capped_55 : decode cX11_capped 55 = .ok (.istore 5, 2) := by decide +kernel
theorem dX11_capped_57 : decode cX11_capped 57 = .ok (.sipush 1000, 3) := by decide +kernel
theorem dX11_capped_60 : decode cX11_capped 60 = .ok (.istore 6, 2) := by decide +kernel
theorem dX11_capped_62 : decode cX11_capped 62 = .ok (.iconst 0, 1) := by decide +kernel
theorem dX11_capped_63 : decode cX11_capped 63 = .ok (.istore 7, 2) := by decide +kernel
theorem dX11_capped_65 : decode cX11_capped 65 = .ok (.iload 7, 2) := by decide +kernel
theorem dX11_capped_67 : decode cX11_capped 67 = .ok (.i2l, 1) := by decide +kernel
theorem dX11_capped_68 : decode cX11_capped 68 = .ok (.lload_n 3, 1) := by decide +kernel
theorem dX11_capped_69 : decode cX11_capped 69 = .ok (.lcmp, 1) := by decide +kernel
theorem dX11_capped_70 : decode cX11_capped 70 = .ok (.ifCond .ge 114, 3) := by decide +kernel
theorem dX11_capped_73 : decode cX11_capped 73 = .ok (.aload_n 0, 1) := by decide +kernel
theorem dX11_capped_74 : decode cX11_capped 74 = .ok (.iload 7, 2) := by decide +kernel
theorem dX11_capped_76 : decode cX11_capped 76 = .ok (.i2l, 1) := by decide +kernel
theorem dX11_capped_77 : decode cX11_capped 77 = .ok (.invokevirtual 292, 3) := by decide +kernel
theorem dX11_capped_80 : decode cX11_capped 80 = .ok (.iconst 0, 1) := by decide +kernel
theorem dX11_capped_81 : decode cX11_capped 81 = .ok (.istore 8, 2) := by decide +kernel
theorem dX11_capped_83 : decode cX11_capped 83 = .ok (.iload 8, 2) := by decide +kernel
theorem dX11_capped_85 : decode cX11_capped 85 = .ok (.iconst 1, 1) := by decide +kernel
theorem dX11_capped_86 : decode cX11_capped 86 = .ok (.iload_n 2, 1) := by decide +kernel
theorem dX11_capped_87 : decode cX11_capped 87 = .ok (.ishl, 1) := by decide +kernel
theorem dX11_capped_88 : decode cX11_capped 88 = .ok (.if_icmp .ge 90, 3) := by decide +kernel
theorem dX11_capped_91 : decode cX11_capped 91 = .ok (.iconst 0, 1) := by decide +kernel
theorem dX11_capped_92 : decode cX11_capped 92 = .ok (.istore 9, 2) := by decide +kernel
theorem dX11_capped_94 : decode cX11_capped 94 = .ok (.iconst 0, 1) := by decide +kernel
theorem dX11_capped_95 : decode cX11_capped 95 = .ok (.istore 10, 2) := by decide +kernel
theorem dX11_capped_97 : decode cX11_capped 97 = .ok (.iload 10, 2) := by decide +kernel
theorem dX11_capped_99 : decode cX11_capped 99 = .ok (.aload_n 0, 1) := by decide +kernel
theorem dX11_capped_100 : decode cX11_capped 100 = .ok (.getfield 40, 3) := by decide +kernel
theorem dX11_capped_103 : decode cX11_capped 103 = .ok (.iconst 1, 1) := by decide +kernel
theorem dX11_capped_104 : decode cX11_capped 104 = .ok (.iaload, 1) := by decide +kernel
theorem dX11_capped_105 : decode cX11_capped 105 = .ok (.if_icmp .ge 42, 3) := by decide +kernel
theorem dX11_capped_108 : decode cX11_capped 108 = .ok (.iload 5, 2) := by decide +kernel
theorem dX11_capped_110 : decode cX11_capped 110 = .ok (.iload 10, 2) := by decide +kernel
theorem dX11_capped_112 : decode cX11_capped 112 = .ok (.invokestatic 200, 3) := by decide +kernel
theorem dX11_capped_115 : decode cX11_capped 115 = .ok (.ifCond .eq 6, 3) := by decide +kernel
theorem dX11_capped_118 : decode cX11_capped 118 = .ok (.goto 23, 3) := by decide +kernel
theorem dX11_capped_121 : decode cX11_capped 121 = .ok (.aload_n 0, 1) := by decide +kernel
theorem dX11_capped_122 : decode cX11_capped 122 = .ok (.getfield 71, 3) := by decide +kernel
theorem dX11_capped_125 : decode cX11_capped 125 = .ok (.bipush 22, 2) := by decide +kernel
theorem dX11_capped_127 : decode cX11_capped 127 = .ok (.iload 10, 2) := by decide +kernel
theorem dX11_capped_129 : decode cX11_capped 129 = .ok (.iadd, 1) := by decide +kernel
theorem dX11_capped_130 : decode cX11_capped 130 = .ok (.iload 8, 2) := by decide +kernel
theorem dX11_capped_132 : decode cX11_capped 132 = .ok (.iload 9, 2) := by decide +kernel
theorem dX11_capped_134 : decode cX11_capped 134 = .ok (.ishr, 1) := by decide +kernel
theorem dX11_capped_135 : decode cX11_capped 135 = .ok (.iconst 1, 1) := by decide +kernel
theorem dX11_capped_136 : decode cX11_capped 136 = .ok (.iand, 1) := by decide +kernel
theorem dX11_capped_137 : decode cX11_capped 137 = .ok (.iastore, 1) := by decide +kernel
theorem dX11_capped_138 : decode cX11_capped 138 = .ok (.iinc 9 1, 3) := by decide +kernel
theorem dX11_capped_141 : decode cX11_capped 141 = .ok (.iinc 10 1, 3) := by decide +kernel
theorem dX11_capped_144 : decode cX11_capped 144 = .ok (.goto (-47), 3) := by decide +kernel
theorem dX11_capped_147 : decode cX11_capped 147 = .ok (.iconst 2, 1) := by decide +kernel
theorem dX11_capped_148 : decode cX11_capped 148 = .ok (.iload_n 1, 1) := by decide +kernel
theorem dX11_capped_149 : decode cX11_capped 149 = .ok (.imul, 1) := by decide +kernel
theorem dX11_capped_150 : decode cX11_capped 150 = .ok (.aload_n 0, 1) := by decide +kernel
theorem dX11_capped_151 : decode cX11_capped 151 = .ok (.aload_n 0, 1) := by decide +kernel
theorem dX11_capped_152 : decode cX11_capped 152 = .ok (.getfield 71, 3) := by decide +kernel
theorem dX11_capped_155 : decode cX11_capped 155 = .ok (.invokevirtual 265, 3) := by decide +kernel
theorem dX11_capped_158 : decode cX11_capped 158 = .ok (.isub, 1) := by decide +kernel
theorem dX11_capped_159 : decode cX11_capped 159 = .ok (.istore 10, 2) := by decide +kernel
theorem dX11_capped_161 : decode cX11_capped 161 = .ok (.iload 10, 2) := by decide +kernel
theorem dX11_capped_163 : decode cX11_capped 163 = .ok (.iload 6, 2) := by decide +kernel
theorem dX11_capped_165 : decode cX11_capped 165 = .ok (.if_icmp .ge 7, 3) := by decide +kernel
theorem dX11_capped_168 : decode cX11_capped 168 = .ok (.iload 10, 2) := by decide +kernel
theorem dX11_capped_170 : decode cX11_capped 170 = .ok (.istore 6, 2) := by decide +kernel
theorem dX11_capped_172 : decode cX11_capped 172 = .ok (.iinc 8 1, 3) := by decide +kernel
theorem dX11_capped_175 : decode cX11_capped 175 = .ok (.goto (-92), 3) := by decide +kernel
theorem dX11_capped_178 : decode cX11_capped 178 = .ok (.iinc 7 1, 3) := by decide +kernel
theorem dX11_capped_181 : decode cX11_capped 181 = .ok (.goto (-116), 3) := by decide +kernel
theorem dX11_capped_184 : decode cX11_capped 184 = .ok (.iload 6, 2) := by decide +kernel
theorem dX11_capped_186 : decode cX11_capped 186 = .ok (.ireturn, 1) := by decide +kernel
theorem dX11_ringLong_0 : decode cX11_ringLong 0 = .ok (.iconst 0, 1) := by decide +kernel
theorem dX11_ringLong_1 : decode cX11_ringLong 1 = .ok (.istore_n 2, 1) := by decide +kernel
theorem dX11_ringLong_2 : decode cX11_ringLong 2 = .ok (.iconst 0, 1) := by decide +kernel
theorem dX11_ringLong_3 : decode cX11_ringLong 3 = .ok (.istore_n 3, 1) := by decide +kernel
theorem dX11_ringLong_4 : decode cX11_ringLong 4 = .ok (.iconst 0, 1) := by decide +kernel
theorem dX11_ringLong_5 : decode cX11_ringLong 5 = .ok (.istore 4, 2) := by decide +kernel
theorem dX11_ringLong_7 : decode cX11_ringLong 7 = .ok (.iload 4, 2) := by decide +kernel
theorem dX11_ringLong_9 : decode cX11_ringLong 9 = .ok (.aload_n 0, 1) := by decide +kernel
theorem dX11_ringLong_10 : decode cX11_ringLong 10 = .ok (.getfield 40, 3) := by decide +kernel
theorem dX11_ringLong_13 : decode cX11_ringLong 13 = .ok (.iconst 0, 1) := by decide +kernel
theorem dX11_ringLong_14 : decode cX11_ringLong 14 = .ok (.iaload, 1) := by decide +kernel
theorem dX11_ringLong_15 : decode cX11_ringLong 15 = .ok (.if_icmp .ge 91, 3) := by decide +kernel
theorem dX11_ringLong_18 : decode cX11_ringLong 18 = .ok (.iconst 0, 1) := by decide +kernel
theorem dX11_ringLong_19 : decode cX11_ringLong 19 = .ok (.istore 5, 2) := by decide +kernel
theorem dX11_ringLong_21 : decode cX11_ringLong 21 = .ok (.iconst 0, 1) := by decide +kernel
theorem dX11_ringLong_22 : decode cX11_ringLong 22 = .ok (.istore 6, 2) := by decide +kernel
theorem dX11_ringLong_24 : decode cX11_ringLong 24 = .ok (.iload 6, 2) := by decide +kernel
theorem dX11_ringLong_26 : decode cX11_ringLong 26 = .ok (.aload_n 0, 1) := by decide +kernel
theorem dX11_ringLong_27 : decode cX11_ringLong 27 = .ok (.getfield 40, 3) := by decide +kernel
theorem dX11_ringLong_30 : decode cX11_ringLong 30 = .ok (.iconst 1, 1) := by decide +kernel
theorem dX11_ringLong_31 : decode cX11_ringLong 31 = .ok (.iaload, 1) := by decide +kernel
theorem dX11_ringLong_32 : decode cX11_ringLong 32 = .ok (.if_icmp .ge 35, 3) := by decide +kernel
theorem dX11_ringLong_35 : decode cX11_ringLong 35 = .ok (.iload_n 1, 1) := by decide +kernel
theorem dX11_ringLong_36 : decode cX11_ringLong 36 = .ok (.iload 6, 2) := by decide +kernel
theorem dX11_ringLong_38 : decode cX11_ringLong 38 = .ok (.invokestatic 200, 3) := by decide +kernel
theorem dX11_ringLong_41 : decode cX11_ringLong 41 = .ok (.ifCond .eq 20, 3) := by decide +kernel
theorem dX11_ringLong_44 : decode cX11_ringLong 44 = .ok (.aload_n 0, 1) := by decide +kernel
theorem dX11_ringLong_45 : decode cX11_ringLong 45 = .ok (.getfield 40, 3) := by decide +kernel
theorem dX11_ringLong_48 : decode cX11_ringLong 48 = .ok (.iload 6, 2) := by decide +kernel
theorem dX11_ringLong_50 : decode cX11_ringLong 50 = .ok (.iload 4, 2) := by decide +kernel
theorem dX11_ringLong_52 : decode cX11_ringLong 52 = .ok (.invokestatic 244, 3) := by decide +kernel
theorem dX11_ringLong_55 : decode cX11_ringLong 55 = .ok (.ifCond .lt 6, 3) := by decide +kernel
theorem dX11_ringLong_58 : decode cX11_ringLong 58 = .ok (.iinc 5 1, 3) := by decide +kernel
theorem dX11_ringLong_61 : decode cX11_ringLong 61 = .ok (.iinc 6 1, 3) := by decide +kernel
theorem dX11_ringLong_64 : decode cX11_ringLong 64 = .ok (.goto (-40), 3) := by decide +kernel
theorem dX11_ringLong_67 : decode cX11_ringLong 67 = .ok (.iload 5, 2) := by decide +kernel
theorem dX11_ringLong_69 : decode cX11_ringLong 69 = .ok (.ifCond .eq 11, 3) := by decide +kernel
theorem dX11_ringLong_72 : decode cX11_ringLong 72 = .ok (.iload 5, 2) := by decide +kernel
theorem dX11_ringLong_74 : decode cX11_ringLong 74 = .ok (.iconst 2, 1) := by decide +kernel
theorem dX11_ringLong_75 : decode cX11_ringLong 75 = .ok (.if_icmp .eq 5, 3) := by decide +kernel
theorem dX11_ringLong_78 : decode cX11_ringLong 78 = .ok (.iconst 0, 1) := by decide +kernel
theorem dX11_ringLong_79 : decode cX11_ringLong 79 = .ok (.ireturn, 1) := by decide +kernel
theorem dX11_ringLong_80 : decode cX11_ringLong 80 = .ok (.iload 5, 2) := by decide +kernel
theorem dX11_ringLong_82 : decode cX11_ringLong 82 = .ok (.iconst 2, 1) := by decide +kernel
theorem dX11_ringLong_83 : decode cX11_ringLong 83 = .ok (.if_icmp .ne 10, 3) := by decide +kernel
theorem dX11_ringLong_86 : decode cX11_ringLong 86 = .ok (.iload_n 3, 1) := by decide +kernel
theorem dX11_ringLong_87 : decode cX11_ringLong 87 = .ok (.iconst 1, 1) := by decide +kernel
theorem dX11_ringLong_88 : decode cX11_ringLong 88 = .ok (.iload 4, 2) := by decide +kernel
theorem dX11_ringLong_90 : decode cX11_ringLong 90 = .ok (.ishl, 1) := by decide +kernel
theorem dX11_ringLong_91 : decode cX11_ringLong 91 = .ok (.ior, 1) := by decide +kernel
theorem dX11_ringLong_92 : decode cX11_ringLong 92 = .ok (.istore_n 3, 1) := by decide +kernel
theorem dX11_ringLong_93 : decode cX11_ringLong 93 = .ok (.iload_n 2, 1) := by decide +kernel
theorem dX11_ringLong_94 : decode cX11_ringLong 94 = .ok (.iload 5, 2) := by decide +kernel
theorem dX11_ringLong_96 : decode cX11_ringLong 96 = .ok (.iconst 2, 1) := by decide +kernel
theorem dX11_ringLong_97 : decode cX11_ringLong 97 = .ok (.idiv, 1) := by decide +kernel
theorem dX11_ringLong_98 : decode cX11_ringLong 98 = .ok (.iadd, 1) := by decide +kernel
theorem dX11_ringLong_99 : decode cX11_ringLong 99 = .ok (.istore_n 2, 1) := by decide +kernel
theorem dX11_ringLong_100 : decode cX11_ringLong 100 = .ok (.iinc 4 1, 3) := by decide +kernel
theorem dX11_ringLong_103 : decode cX11_ringLong 103 = .ok (.goto (-96), 3) := by decide +kernel
theorem dX11_ringLong_106 : decode cX11_ringLong 106 = .ok (.iload_n 3, 1) := by decide +kernel
theorem dX11_ringLong_107 : decode cX11_ringLong 107 = .ok (.iload_n 3, 1) := by decide +kernel
theorem dX11_ringLong_108 : decode cX11_ringLong 108 = .ok (.ineg, 1) := by decide +kernel
theorem dX11_ringLong_109 : decode cX11_ringLong 109 = .ok (.iand, 1) := by decide +kernel
theorem dX11_ringLong_110 : decode cX11_ringLong 110 = .ok (.istore 4, 2) := by decide +kernel
theorem dX11_ringLong_112 : decode cX11_ringLong 112 = .ok (.iconst 0, 1) := by decide +kernel
theorem dX11_ringLong_113 : decode cX11_ringLong 113 = .ok (.istore 5, 2) := by decide +kernel
theorem dX11_ringLong_115 : decode cX11_ringLong 115 = .ok (.iload 4, 2) := by decide +kernel
theorem dX11_ringLong_117 : decode cX11_ringLong 117 = .ok (.iload 5, 2) := by decide +kernel
theorem dX11_ringLong_119 : decode cX11_ringLong 119 = .ok (.if_icmp .eq 88, 3) := by decide +kernel
theorem dX11_ringLong_122 : decode cX11_ringLong 122 = .ok (.iload 4, 2) := by decide +kernel
theorem dX11_ringLong_124 : decode cX11_ringLong 124 = .ok (.istore 5, 2) := by decide +kernel
theorem dX11_ringLong_126 : decode cX11_ringLong 126 = .ok (.iconst 0, 1) := by decide +kernel
theorem dX11_ringLong_127 : decode cX11_ringLong 127 = .ok (.istore 6, 2) := by decide +kernel
theorem dX11_ringLong_129 : decode cX11_ringLong 129 = .ok (.iload 6, 2) := by decide +kernel
theorem dX11_ringLong_131 : decode cX11_ringLong 131 = .ok (.aload_n 0, 1) := by decide +kernel
theorem dX11_ringLong_132 : decode cX11_ringLong 132 = .ok (.getfield 40, 3) := by decide +kernel
theorem dX11_ringLong_135 : decode cX11_ringLong 135 = .ok (.iconst 1, 1) := by decide +kernel
theorem dX11_ringLong_136 : decode cX11_ringLong 136 = .ok (.iaload, 1) := by decide +kernel
theorem dX11_ringLong_137 : decode cX11_ringLong 137 = .ok (.if_icmp .ge 67, 3) := by decide +kernel
theorem dX11_ringLong_140 : decode cX11_ringLong 140 = .ok (.iload_n 1, 1) := by decide +kernel
theorem dX11_ringLong_141 : decode cX11_ringLong 141 = .ok (.iload 6, 2) := by decide +kernel
theorem dX11_ringLong_143 : decode cX11_ringLong 143 = .ok (.invokestatic 200, 3) := by decide +kernel
theorem dX11_ringLong_146 : decode cX11_ringLong 146 = .ok (.ifCond .ne 6, 3) := by decide +kernel
theorem dX11_ringLong_149 : decode cX11_ringLong 149 = .ok (.goto 49, 3) := by decide +kernel
theorem dX11_ringLong_152 : decode cX11_ringLong 152 = .ok (.iconst 1, 1) := by decide +kernel
theorem dX11_ringLong_153 : decode cX11_ringLong 153 = .ok (.aload_n 0, 1) := by decide +kernel
theorem dX11_ringLong_154 : decode cX11_ringLong 154 = .ok (.getfield 40, 3) := by decide +kernel
theorem dX11_ringLong_157 : decode cX11_ringLong 157 = .ok (.iconst 2, 1) := by decide +kernel
theorem dX11_ringLong_158 : decode cX11_ringLong 158 = .ok (.iconst 2, 1) := by decide +kernel
theorem dX11_ringLong_159 : decode cX11_ringLong 159 = .ok (.iload 6, 2) := by decide +kernel
theorem dX11_ringLong_161 : decode cX11_ringLong 161 = .ok (.imul, 1) := by decide +kernel
theorem dX11_ringLong_162 : decode cX11_ringLong 162 = .ok (.iadd, 1) := by decide +kernel
theorem dX11_ringLong_163 : decode cX11_ringLong 163 = .ok (.iaload, 1) := by decide +kernel
theorem dX11_ringLong_164 : decode cX11_ringLong 164 = .ok (.ishl, 1) := by decide +kernel
theorem dX11_ringLong_165 : decode cX11_ringLong 165 = .ok (.iconst 1, 1) := by decide +kernel
theorem dX11_ringLong_166 : decode cX11_ringLong 166 = .ok (.aload_n 0, 1) := by decide +kernel
theorem dX11_ringLong_167 : decode cX11_ringLong 167 = .ok (.getfield 40, 3) := by decide +kernel
theorem dX11_ringLong_170 : decode cX11_ringLong 170 = .ok (.iconst 2, 1) := by decide +kernel
theorem dX11_ringLong_171 : decode cX11_ringLong 171 = .ok (.iconst 2, 1) := by decide +kernel
theorem dX11_ringLong_172 : decode cX11_ringLong 172 = .ok (.iload 6, 2) := by decide +kernel
theorem dX11_ringLong_174 : decode cX11_ringLong 174 = .ok (.imul, 1) := by decide +kernel
theorem dX11_ringLong_175 : decode cX11_ringLong 175 = .ok (.iadd, 1) := by decide +kernel
theorem dX11_ringLong_176 : decode cX11_ringLong 176 = .ok (.iconst 1, 1) := by decide +kernel
theorem dX11_ringLong_177 : decode cX11_ringLong 177 = .ok (.iadd, 1) := by decide +kernel
theorem dX11_ringLong_178 : decode cX11_ringLong 178 = .ok (.iaload, 1) := by decide +kernel
theorem dX11_ringLong_179 : decode cX11_ringLong 179 = .ok (.ishl, 1) := by decide +kernel
theorem dX11_ringLong_180 : decode cX11_ringLong 180 = .ok (.ior, 1) := by decide +kernel
theorem dX11_ringLong_181 : decode cX11_ringLong 181 = .ok (.istore 7, 2) := by decide +kernel
theorem dX11_ringLong_183 : decode cX11_ringLong 183 = .ok (.iload 4, 2) := by decide +kernel
theorem dX11_ringLong_185 : decode cX11_ringLong 185 = .ok (.iload 7, 2) := by decide +kernel
theorem dX11_ringLong_187 : decode cX11_ringLong 187 = .ok (.iand, 1) := by decide +kernel
theorem dX11_ringLong_188 : decode cX11_ringLong 188 = .ok (.ifCond .eq 10, 3) := by decide +kernel
theorem dX11_ringLong_191 : decode cX11_ringLong 191 = .ok (.iload 4, 2) := by decide +kernel
theorem dX11_ringLong_193 : decode cX11_ringLong 193 = .ok (.iload 7, 2) := by decide +kernel
theorem dX11_ringLong_195 : decode cX11_ringLong 195 = .ok (.ior, 1) := by decide +kernel
theorem dX11_ringLong_196 : decode cX11_ringLong 196 = .ok (.istore 4, 2) := by decide +kernel
theorem dX11_ringLong_198 : decode cX11_ringLong 198 = .ok (.iinc 6 1, 3) := by decide +kernel
theorem dX11_ringLong_201 : decode cX11_ringLong 201 = .ok (.goto (-72), 3) := by decide +kernel
theorem dX11_ringLong_204 : decode cX11_ringLong 204 = .ok (.goto (-89), 3) := by decide +kernel
theorem dX11_ringLong_207 : decode cX11_ringLong 207 = .ok (.iload 4, 2) := by decide +kernel
theorem dX11_ringLong_209 : decode cX11_ringLong 209 = .ok (.iload_n 3, 1) := by decide +kernel
theorem dX11_ringLong_210 : decode cX11_ringLong 210 = .ok (.if_icmp .ne 7, 3) := by decide +kernel
theorem dX11_ringLong_213 : decode cX11_ringLong 213 = .ok (.iload_n 2, 1) := by decide +kernel
theorem dX11_ringLong_214 : decode cX11_ringLong 214 = .ok (.goto 4, 3) := by decide +kernel
theorem dX11_ringLong_217 : decode cX11_ringLong 217 = .ok (.iconst 0, 1) := by decide +kernel
theorem dX11_ringLong_218 : decode cX11_ringLong 218 = .ok (.ireturn, 1) := by decide +kernel
theorem dX11_rings_0 : decode cX11_rings 0 = .ok (.iconst 0, 1) := by decide +kernel
theorem dX11_rings_1 : decode cX11_rings 1 = .ok (.istore_n 1, 1) := by decide +kernel
theorem dX11_rings_2 : decode cX11_rings 2 = .ok (.iconst 1, 1) := by decide +kernel
theorem dX11_rings_3 : decode cX11_rings 3 = .ok (.istore_n 2, 1) := by decide +kernel
theorem dX11_rings_4 : decode cX11_rings 4 = .ok (.iload_n 2, 1) := by decide +kernel
theorem dX11_rings_5 : decode cX11_rings 5 = .ok (.iconst 1, 1) := by decide +kernel
theorem dX11_rings_6 : decode cX11_rings 6 = .ok (.aload_n 0, 1) := by decide +kernel
theorem dX11_rings_7 : decode cX11_rings 7 = .ok (.getfield 40, 3) := by decide +kernel
theorem dX11_rings_10 : decode cX11_rings 10 = .ok (.iconst 1, 1) := by decide +kernel
theorem dX11_rings_11 : decode cX11_rings 11 = .ok (.iaload, 1) := by decide +kernel
theorem dX11_rings_12 : decode cX11_rings 12 = .ok (.ishl, 1) := by decide +kernel
theorem dX11_rings_13 : decode cX11_rings 13 = .ok (.if_icmp .ge 20, 3) := by decide +kernel
theorem dX11_rings_16 : decode cX11_rings 16 = .ok (.aload_n 0, 1) := by decide +kernel
theorem dX11_rings_17 : decode cX11_rings 17 = .ok (.iload_n 2, 1) := by decide +kernel
theorem dX11_rings_18 : decode cX11_rings 18 = .ok (.invokevirtual 310, 3) := by decide +kernel
theorem dX11_rings_21 : decode cX11_rings 21 = .ok (.ifCond .le 6, 3) := by decide +kernel
theorem dX11_rings_24 : decode cX11_rings 24 = .ok (.iinc 1 1, 3) := by decide +kernel
theorem dX11_rings_27 : decode cX11_rings 27 = .ok (.iinc 2 1, 3) := by decide +kernel
theorem dX11_rings_30 : decode cX11_rings 30 = .ok (.goto (-26), 3) := by decide +kernel
theorem dX11_rings_33 : decode cX11_rings 33 = .ok (.iload_n 1, 1) := by decide +kernel
theorem dX11_rings_34 : decode cX11_rings 34 = .ok (.ireturn, 1) := by decide +kernel
theorem dX11_girth_0 : decode cX11_girth 0 = .ok (.bipush 100, 2) := by decide +kernel
theorem dX11_girth_2 : decode cX11_girth 2 = .ok (.istore_n 1, 1) := by decide +kernel
theorem dX11_girth_3 : decode cX11_girth 3 = .ok (.iconst 1, 1) := by decide +kernel
theorem dX11_girth_4 : decode cX11_girth 4 = .ok (.istore_n 2, 1) := by decide +kernel
theorem dX11_girth_5 : decode cX11_girth 5 = .ok (.iload_n 2, 1) := by decide +kernel
theorem dX11_girth_6 : decode cX11_girth 6 = .ok (.iconst 1, 1) := by decide +kernel
theorem dX11_girth_7 : decode cX11_girth 7 = .ok (.aload_n 0, 1) := by decide +kernel
theorem dX11_girth_8 : decode cX11_girth 8 = .ok (.getfield 40, 3) := by decide +kernel
theorem dX11_girth_11 : decode cX11_girth 11 = .ok (.iconst 1, 1) := by decide +kernel
theorem dX11_girth_12 : decode cX11_girth 12 = .ok (.iaload, 1) := by decide +kernel
theorem dX11_girth_13 : decode cX11_girth 13 = .ok (.ishl, 1) := by decide +kernel
theorem dX11_girth_14 : decode cX11_girth 14 = .ok (.if_icmp .ge 32, 3) := by decide +kernel
theorem dX11_girth_17 : decode cX11_girth 17 = .ok (.aload_n 0, 1) := by decide +kernel
theorem dX11_girth_18 : decode cX11_girth 18 = .ok (.iload_n 2, 1) := by decide +kernel
theorem dX11_girth_19 : decode cX11_girth 19 = .ok (.invokevirtual 310, 3) := by decide +kernel
theorem dX11_girth_22 : decode cX11_girth 22 = .ok (.ifCond .le 18, 3) := by decide +kernel
theorem dX11_girth_25 : decode cX11_girth 25 = .ok (.aload_n 0, 1) := by decide +kernel
theorem dX11_girth_26 : decode cX11_girth 26 = .ok (.iload_n 2, 1) := by decide +kernel
theorem dX11_girth_27 : decode cX11_girth 27 = .ok (.invokevirtual 310, 3) := by decide +kernel
theorem dX11_girth_30 : decode cX11_girth 30 = .ok (.iload_n 1, 1) := by decide +kernel
theorem dX11_girth_31 : decode cX11_girth 31 = .ok (.if_icmp .ge 9, 3) := by decide +kernel
theorem dX11_girth_34 : decode cX11_girth 34 = .ok (.aload_n 0, 1) := by decide +kernel
theorem dX11_girth_35 : decode cX11_girth 35 = .ok (.iload_n 2, 1) := by decide +kernel
theorem dX11_girth_36 : decode cX11_girth 36 = .ok (.invokevirtual 310, 3) := by decide +kernel
theorem dX11_girth_39 : decode cX11_girth 39 = .ok (.istore_n 1, 1) := by decide +kernel
theorem dX11_girth_40 : decode cX11_girth 40 = .ok (.iinc 2 1, 3) := by decide +kernel
theorem dX11_girth_43 : decode cX11_girth 43 = .ok (.goto (-38), 3) := by decide +kernel
theorem dX11_girth_46 : decode cX11_girth 46 = .ok (.iload_n 1, 1) := by decide +kernel
theorem dX11_girth_47 : decode cX11_girth 47 = .ok (.bipush 100, 2) := by decide +kernel
theorem dX11_girth_49 : decode cX11_girth 49 = .ok (.if_icmp .ne 8, 3) := by decide +kernel
theorem dX11_girth_52 : decode cX11_girth 52 = .ok (.bipush (-2), 2) := by decide +kernel
theorem dX11_girth_54 : decode cX11_girth 54 = .ok (.goto 4, 3) := by decide +kernel
theorem dX11_girth_57 : decode cX11_girth 57 = .ok (.iload_n 1, 1) := by decide +kernel
theorem dX11_girth_58 : decode cX11_girth 58 = .ok (.ireturn, 1) := by decide +kernel
theorem dX11_bound_0 : decode cX11_bound 0 = .ok (.iload_n 1, 1) := by decide +kernel
theorem dX11_bound_1 : decode cX11_bound 1 = .ok (.iconst 0, 1) := by decide +kernel
theorem dX11_bound_2 : decode cX11_bound 2 = .ok (.iconst 1, 1) := by decide +kernel
theorem dX11_bound_3 : decode cX11_bound 3 = .ok (.invokestatic 204, 3) := by decide +kernel
theorem dX11_bound_6 : decode cX11_bound 6 = .ok (.ifCond .ne 5, 3) := by decide +kernel
theorem dX11_bound_9 : decode cX11_bound 9 = .ok (.iconst (-1), 1) := by decide +kernel
theorem dX11_bound_10 : decode cX11_bound 10 = .ok (.ireturn, 1) := by decide +kernel
theorem dX11_bound_11 : decode cX11_bound 11 = .ok (.aload_n 0, 1) := by decide +kernel
theorem dX11_bound_12 : decode cX11_bound 12 = .ok (.invokevirtual 313, 3) := by decide +kernel
theorem dX11_bound_15 : decode cX11_bound 15 = .ok (.istore_n 2, 1) := by decide +kernel
theorem dX11_bound_16 : decode cX11_bound 16 = .ok (.iload_n 1, 1) := by decide +kernel
theorem dX11_bound_17 : decode cX11_bound 17 = .ok (.iconst 1, 1) := by decide +kernel
theorem dX11_bound_18 : decode cX11_bound 18 = .ok (.if_icmp .ne 5, 3) := by decide +kernel
theorem dX11_bound_21 : decode cX11_bound 21 = .ok (.iload_n 2, 1) := by decide +kernel
theorem dX11_bound_22 : decode cX11_bound 22 = .ok (.ireturn, 1) := by decide +kernel
theorem dX11_bound_23 : decode cX11_bound 23 = .ok (.iload_n 2, 1) := by decide +kernel
theorem dX11_bound_24 : decode cX11_bound 24 = .ok (.ifCond .lt 15, 3) := by decide +kernel
theorem dX11_bound_27 : decode cX11_bound 27 = .ok (.aload_n 0, 1) := by decide +kernel
theorem dX11_bound_28 : decode cX11_bound 28 = .ok (.aload_n 0, 1) := by decide +kernel
theorem dX11_bound_29 : decode cX11_bound 29 = .ok (.getfield 40, 3) := by decide +kernel
theorem dX11_bound_32 : decode cX11_bound 32 = .ok (.invokevirtual 262, 3) := by decide +kernel
theorem dX11_bound_35 : decode cX11_bound 35 = .ok (.iconst 1, 1) := by decide +kernel
theorem dX11_bound_36 : decode cX11_bound 36 = .ok (.if_icmp .eq 5, 3) := by decide +kernel
theorem dX11_bound_39 : decode cX11_bound 39 = .ok (.iconst 0, 1) := by decide +kernel
theorem dX11_bound_40 : decode cX11_bound 40 = .ok (.ireturn, 1) := by decide +kernel
theorem dX11_bound_41 : decode cX11_bound 41 = .ok (.iconst 2, 1) := by decide +kernel
theorem dX11_bound_42 : decode cX11_bound 42 = .ok (.aload_n 0, 1) := by decide +kernel
theorem dX11_bound_43 : decode cX11_bound 43 = .ok (.getfield 40, 3) := by decide +kernel
theorem dX11_bound_46 : decode cX11_bound 46 = .ok (.iconst 0, 1) := by decide +kernel
theorem dX11_bound_47 : decode cX11_bound 47 = .ok (.iaload, 1) := by decide +kernel
theorem dX11_bound_48 : decode cX11_bound 48 = .ok (.isub, 1) := by decide +kernel
theorem dX11_bound_49 : decode cX11_bound 49 = .ok (.aload_n 0, 1) := by decide +kernel
theorem dX11_bound_50 : decode cX11_bound 50 = .ok (.getfield 40, 3) := by decide +kernel
theorem dX11_bound_53 : decode cX11_bound 53 = .ok (.iconst 1, 1) := by decide +kernel
theorem dX11_bound_54 : decode cX11_bound 54 = .ok (.iaload, 1) := by decide +kernel
theorem dX11_bound_55 : decode cX11_bound 55 = .ok (.iadd, 1) := by decide +kernel
theorem dX11_bound_56 : decode cX11_bound 56 = .ok (.iconst 2, 1) := by decide +kernel
theorem dX11_bound_57 : decode cX11_bound 57 = .ok (.aload_n 0, 1) := by decide +kernel
theorem dX11_bound_58 : decode cX11_bound 58 = .ok (.getfield 40, 3) := by decide +kernel
theorem dX11_bound_61 : decode cX11_bound 61 = .ok (.iconst 1, 1) := by decide +kernel
theorem dX11_bound_62 : decode cX11_bound 62 = .ok (.iaload, 1) := by decide +kernel
theorem dX11_bound_63 : decode cX11_bound 63 = .ok (.imul, 1) := by decide +kernel
theorem dX11_bound_64 : decode cX11_bound 64 = .ok (.iload_n 2, 1) := by decide +kernel
theorem dX11_bound_65 : decode cX11_bound 65 = .ok (.idiv, 1) := by decide +kernel
theorem dX11_bound_66 : decode cX11_bound 66 = .ok (.isub, 1) := by decide +kernel
theorem dX11_bound_67 : decode cX11_bound 67 = .ok (.istore_n 3, 1) := by decide +kernel
theorem dX11_bound_68 : decode cX11_bound 68 = .ok (.iload_n 3, 1) := by decide +kernel
theorem dX11_bound_69 : decode cX11_bound 69 = .ok (.ifCond .gt 7, 3) := by decide +kernel
theorem dX11_bound_72 : decode cX11_bound 72 = .ok (.iconst 0, 1) := by decide +kernel
theorem dX11_bound_73 : decode cX11_bound 73 = .ok (.goto 8, 3) := by decide +kernel
theorem dX11_bound_76 : decode cX11_bound 76 = .ok (.iload_n 3, 1) := by decide +kernel
theorem dX11_bound_77 : decode cX11_bound 77 = .ok (.iconst 1, 1) := by decide +kernel
theorem dX11_bound_78 : decode cX11_bound 78 = .ok (.iadd, 1) := by decide +kernel
theorem dX11_bound_79 : decode cX11_bound 79 = .ok (.iconst 2, 1) := by decide +kernel
theorem dX11_bound_80 : decode cX11_bound 80 = .ok (.idiv, 1) := by decide +kernel
theorem dX11_bound_81 : decode cX11_bound 81 = .ok (.ireturn, 1) := by decide +kernel
theorem dX11_without_0 : decode cX11_without 0 = .ok (.aload_n 0, 1) := by decide +kernel
theorem dX11_without_1 : decode cX11_without 1 = .ok (.iload_n 1, 1) := by decide +kernel
theorem dX11_without_2 : decode cX11_without 2 = .ok (.invokevirtual 235, 3) := by decide +kernel
theorem dX11_without_5 : decode cX11_without 5 = .ok (.ifCond .eq 12, 3) := by decide +kernel
theorem dX11_without_8 : decode cX11_without 8 = .ok (.iload_n 2, 1) := by decide +kernel
theorem dX11_without_9 : decode cX11_without 9 = .ok (.iconst 0, 1) := by decide +kernel
theorem dX11_without_10 : decode cX11_without 10 = .ok (.iconst 2, 1) := by decide +kernel
theorem dX11_without_11 : decode cX11_without 11 = .ok (.invokestatic 204, 3) := by decide +kernel
theorem dX11_without_14 : decode cX11_without 14 = .ok (.ifCond .ne 7, 3) := by decide +kernel
theorem dX11_without_17 : decode cX11_without 17 = .ok (.ldc_w 261, 3) := by decide +kernel
theorem dX11_without_20 : decode cX11_without 20 = .ok (.ireturn, 1) := by decide +kernel
theorem dX11_without_21 : decode cX11_without 21 = .ok (.iconst 0, 1) := by decide +kernel
theorem dX11_without_22 : decode cX11_without 22 = .ok (.istore_n 3, 1) := by decide +kernel
theorem dX11_without_23 : decode cX11_without 23 = .ok (.iload_n 3, 1) := by decide +kernel
theorem dX11_without_24 : decode cX11_without 24 = .ok (.bipush 98, 2) := by decide +kernel
theorem dX11_without_26 : decode cX11_without 26 = .ok (.if_icmp .ge 21, 3) := by decide +kernel
theorem dX11_without_29 : decode cX11_without 29 = .ok (.aload_n 0, 1) := by decide +kernel
theorem dX11_without_30 : decode cX11_without 30 = .ok (.getfield 71, 3) := by decide +kernel
theorem dX11_without_33 : decode cX11_without 33 = .ok (.iload_n 3, 1) := by decide +kernel
theorem dX11_without_34 : decode cX11_without 34 = .ok (.aload_n 0, 1) := by decide +kernel
theorem dX11_without_35 : decode cX11_without 35 = .ok (.getfield 40, 3) := by decide +kernel
theorem dX11_without_38 : decode cX11_without 38 = .ok (.iload_n 3, 1) := by decide +kernel
theorem dX11_without_39 : decode cX11_without 39 = .ok (.iaload, 1) := by decide +kernel
theorem dX11_without_40 : decode cX11_without 40 = .ok (.iastore, 1) := by decide +kernel
theorem dX11_without_41 : decode cX11_without 41 = .ok (.iinc 3 1, 3) := by decide +kernel
theorem dX11_without_44 : decode cX11_without 44 = .ok (.goto (-21), 3) := by decide +kernel
theorem dX11_without_47 : decode cX11_without 47 = .ok (.aload_n 0, 1) := by decide +kernel
theorem dX11_without_48 : decode cX11_without 48 = .ok (.getfield 71, 3) := by decide +kernel
theorem dX11_without_51 : decode cX11_without 51 = .ok (.iload_n 1, 1) := by decide +kernel
theorem dX11_without_52 : decode cX11_without 52 = .ok (.invokestatic 238, 3) := by decide +kernel
theorem dX11_without_55 : decode cX11_without 55 = .ok (.iload_n 2, 1) := by decide +kernel
theorem dX11_without_56 : decode cX11_without 56 = .ok (.ifCond .ne 14, 3) := by decide +kernel
theorem dX11_without_59 : decode cX11_without 59 = .ok (.aload_n 0, 1) := by decide +kernel
theorem dX11_without_60 : decode cX11_without 60 = .ok (.aload_n 0, 1) := by decide +kernel
theorem dX11_without_61 : decode cX11_without 61 = .ok (.getfield 71, 3) := by decide +kernel
theorem dX11_without_64 : decode cX11_without 64 = .ok (.invokevirtual 257, 3) := by decide +kernel
theorem dX11_without_67 : decode cX11_without 67 = .ok (.goto 27, 3) := by decide +kernel
theorem dX11_without_70 : decode cX11_without 70 = .ok (.iload_n 2, 1) := by decide +kernel
theorem dX11_without_71 : decode cX11_without 71 = .ok (.iconst 1, 1) := by decide +kernel
theorem dX11_without_72 : decode cX11_without 72 = .ok (.if_icmp .ne 14, 3) := by decide +kernel
theorem dX11_without_75 : decode cX11_without 75 = .ok (.aload_n 0, 1) := by decide +kernel
theorem dX11_without_76 : decode cX11_without 76 = .ok (.aload_n 0, 1) := by decide +kernel
theorem dX11_without_77 : decode cX11_without 77 = .ok (.getfield 71, 3) := by decide +kernel
theorem dX11_without_80 : decode cX11_without 80 = .ok (.invokevirtual 262, 3) := by decide +kernel
theorem dX11_without_83 : decode cX11_without 83 = .ok (.goto 11, 3) := by decide +kernel
theorem dX11_without_86 : decode cX11_without 86 = .ok (.aload_n 0, 1) := by decide +kernel
theorem dX11_without_87 : decode cX11_without 87 = .ok (.aload_n 0, 1) := by decide +kernel
theorem dX11_without_88 : decode cX11_without 88 = .ok (.getfield 71, 3) := by decide +kernel
theorem dX11_without_91 : decode cX11_without 91 = .ok (.invokevirtual 265, 3) := by decide +kernel
theorem dX11_without_94 : decode cX11_without 94 = .ok (.ireturn, 1) := by decide +kernel
theorem dX11_laysBesides_0 : decode cX11_laysBesides 0 = .ok (.aload_n 0, 1) := by decide +kernel
theorem dX11_laysBesides_1 : decode cX11_laysBesides 1 = .ok (.aload_n 0, 1) := by decide +kernel
theorem dX11_laysBesides_2 : decode cX11_laysBesides 2 = .ok (.getfield 40, 3) := by decide +kernel
theorem dX11_laysBesides_5 : decode cX11_laysBesides 5 = .ok (.invokevirtual 257, 3) := by decide +kernel
theorem dX11_laysBesides_8 : decode cX11_laysBesides 8 = .ok (.istore_n 1, 1) := by decide +kernel
theorem dX11_laysBesides_9 : decode cX11_laysBesides 9 = .ok (.iconst 0, 1) := by decide +kernel
theorem dX11_laysBesides_10 : decode cX11_laysBesides 10 = .ok (.istore_n 2, 1) := by decide +kernel
theorem dX11_laysBesides_11 : decode cX11_laysBesides 11 = .ok (.iload_n 2, 1) := by decide +kernel
theorem dX11_laysBesides_12 : decode cX11_laysBesides 12 = .ok (.iload_n 1, 1) := by decide +kernel
theorem dX11_laysBesides_13 : decode cX11_laysBesides 13 = .ok (.if_icmp .ge 16, 3) := by decide +kernel
theorem dX11_laysBesides_16 : decode cX11_laysBesides 16 = .ok (.aload_n 0, 1) := by decide +kernel
theorem dX11_laysBesides_17 : decode cX11_laysBesides 17 = .ok (.getfield 77, 3) := by decide +kernel
theorem dX11_laysBesides_20 : decode cX11_laysBesides 20 = .ok (.iload_n 2, 1) := by decide +kernel
theorem dX11_laysBesides_21 : decode cX11_laysBesides 21 = .ok (.iconst 0, 1) := by decide +kernel
theorem dX11_laysBesides_22 : decode cX11_laysBesides 22 = .ok (.iastore, 1) := by decide +kernel
theorem dX11_laysBesides_23 : decode cX11_laysBesides 23 = .ok (.iinc 2 1, 3) := by decide +kernel
theorem dX11_laysBesides_26 : decode cX11_laysBesides 26 = .ok (.goto (-15), 3) := by decide +kernel
theorem dX11_laysBesides_29 : decode cX11_laysBesides 29 = .ok (.iconst 0, 1) := by decide +kernel
theorem dX11_laysBesides_30 : decode cX11_laysBesides 30 = .ok (.istore_n 2, 1) := by decide +kernel
theorem dX11_laysBesides_31 : decode cX11_laysBesides 31 = .ok (.iload_n 2, 1) := by decide +kernel
theorem dX11_laysBesides_32 : decode cX11_laysBesides 32 = .ok (.aload_n 0, 1) := by decide +kernel
theorem dX11_laysBesides_33 : decode cX11_laysBesides 33 = .ok (.getfield 40, 3) := by decide +kernel
theorem dX11_laysBesides_36 : decode cX11_laysBesides 36 = .ok (.iconst 1, 1) := by decide +kernel
theorem dX11_laysBesides_37 : decode cX11_laysBesides 37 = .ok (.iaload, 1) := by decide +kernel
theorem dX11_laysBesides_38 : decode cX11_laysBesides 38 = .ok (.if_icmp .ge 57, 3) := by decide +kernel
theorem dX11_laysBesides_41 : decode cX11_laysBesides 41 = .ok (.aload_n 0, 1) := by decide +kernel
theorem dX11_laysBesides_42 : decode cX11_laysBesides 42 = .ok (.getfield 59, 3) := by decide +kernel
theorem dX11_laysBesides_45 : decode cX11_laysBesides 45 = .ok (.iconst 2, 1) := by decide +kernel
theorem dX11_laysBesides_46 : decode cX11_laysBesides 46 = .ok (.iload_n 2, 1) := by decide +kernel
theorem dX11_laysBesides_47 : decode cX11_laysBesides 47 = .ok (.imul, 1) := by decide +kernel
theorem dX11_laysBesides_48 : decode cX11_laysBesides 48 = .ok (.iaload, 1) := by decide +kernel
theorem dX11_laysBesides_49 : decode cX11_laysBesides 49 = .ok (.istore_n 3, 1) := by decide +kernel
theorem dX11_laysBesides_50 : decode cX11_laysBesides 50 = .ok (.aload_n 0, 1) := by decide +kernel
theorem dX11_laysBesides_51 : decode cX11_laysBesides 51 = .ok (.getfield 59, 3) := by decide +kernel
theorem dX11_laysBesides_54 : decode cX11_laysBesides 54 = .ok (.iconst 2, 1) := by decide +kernel
theorem dX11_laysBesides_55 : decode cX11_laysBesides 55 = .ok (.iload_n 2, 1) := by decide +kernel
theorem dX11_laysBesides_56 : decode cX11_laysBesides 56 = .ok (.imul, 1) := by decide +kernel
theorem dX11_laysBesides_57 : decode cX11_laysBesides 57 = .ok (.bipush 20, 2) := by decide +kernel
theorem dX11_laysBesides_59 : decode cX11_laysBesides 59 = .ok (.iadd, 1) := by decide +kernel
theorem dX11_laysBesides_60 : decode cX11_laysBesides 60 = .ok (.iaload, 1) := by decide +kernel
theorem dX11_laysBesides_61 : decode cX11_laysBesides 61 = .ok (.istore 4, 2) := by decide +kernel
theorem dX11_laysBesides_63 : decode cX11_laysBesides 63 = .ok (.aload_n 0, 1) := by decide +kernel
theorem dX11_laysBesides_64 : decode cX11_laysBesides 64 = .ok (.getfield 77, 3) := by decide +kernel
theorem dX11_laysBesides_67 : decode cX11_laysBesides 67 = .ok (.iload_n 3, 1) := by decide +kernel
theorem dX11_laysBesides_68 : decode cX11_laysBesides 68 = .ok (.dup2, 1) := by decide +kernel
theorem dX11_laysBesides_69 : decode cX11_laysBesides 69 = .ok (.iaload, 1) := by decide +kernel
theorem dX11_laysBesides_70 : decode cX11_laysBesides 70 = .ok (.iconst 1, 1) := by decide +kernel
theorem dX11_laysBesides_71 : decode cX11_laysBesides 71 = .ok (.iload 4, 2) := by decide +kernel
theorem dX11_laysBesides_73 : decode cX11_laysBesides 73 = .ok (.ishl, 1) := by decide +kernel
theorem dX11_laysBesides_74 : decode cX11_laysBesides 74 = .ok (.ior, 1) := by decide +kernel
theorem dX11_laysBesides_75 : decode cX11_laysBesides 75 = .ok (.iastore, 1) := by decide +kernel
theorem dX11_laysBesides_76 : decode cX11_laysBesides 76 = .ok (.aload_n 0, 1) := by decide +kernel
theorem dX11_laysBesides_77 : decode cX11_laysBesides 77 = .ok (.getfield 77, 3) := by decide +kernel
theorem dX11_laysBesides_80 : decode cX11_laysBesides 80 = .ok (.iload 4, 2) := by decide +kernel
theorem dX11_laysBesides_82 : decode cX11_laysBesides 82 = .ok (.dup2, 1) := by decide +kernel
theorem dX11_laysBesides_83 : decode cX11_laysBesides 83 = .ok (.iaload, 1) := by decide +kernel
theorem dX11_laysBesides_84 : decode cX11_laysBesides 84 = .ok (.iconst 1, 1) := by decide +kernel
theorem dX11_laysBesides_85 : decode cX11_laysBesides 85 = .ok (.iload_n 3, 1) := by decide +kernel
theorem dX11_laysBesides_86 : decode cX11_laysBesides 86 = .ok (.ishl, 1) := by decide +kernel
theorem dX11_laysBesides_87 : decode cX11_laysBesides 87 = .ok (.ior, 1) := by decide +kernel
theorem dX11_laysBesides_88 : decode cX11_laysBesides 88 = .ok (.iastore, 1) := by decide +kernel
theorem dX11_laysBesides_89 : decode cX11_laysBesides 89 = .ok (.iinc 2 1, 3) := by decide +kernel
theorem dX11_laysBesides_92 : decode cX11_laysBesides 92 = .ok (.goto (-61), 3) := by decide +kernel
theorem dX11_laysBesides_95 : decode cX11_laysBesides 95 = .ok (.iload_n 1, 1) := by decide +kernel
theorem dX11_laysBesides_96 : decode cX11_laysBesides 96 = .ok (.ireturn, 1) := by decide +kernel
theorem dX11_beside_0 : decode cX11_beside 0 = .ok (.aload_n 0, 1) := by decide +kernel
theorem dX11_beside_1 : decode cX11_beside 1 = .ok (.invokevirtual 316, 3) := by decide +kernel
theorem dX11_beside_4 : decode cX11_beside 4 = .ok (.istore_n 2, 1) := by decide +kernel
theorem dX11_beside_5 : decode cX11_beside 5 = .ok (.iload_n 1, 1) := by decide +kernel
theorem dX11_beside_6 : decode cX11_beside 6 = .ok (.iconst 0, 1) := by decide +kernel
theorem dX11_beside_7 : decode cX11_beside 7 = .ok (.iload_n 2, 1) := by decide +kernel
theorem dX11_beside_8 : decode cX11_beside 8 = .ok (.iconst 1, 1) := by decide +kernel
theorem dX11_beside_9 : decode cX11_beside 9 = .ok (.isub, 1) := by decide +kernel
theorem dX11_beside_10 : decode cX11_beside 10 = .ok (.invokestatic 204, 3) := by decide +kernel
theorem dX11_beside_13 : decode cX11_beside 13 = .ok (.ifCond .eq 12, 3) := by decide +kernel
theorem dX11_beside_16 : decode cX11_beside 16 = .ok (.aload_n 0, 1) := by decide +kernel
theorem dX11_beside_17 : decode cX11_beside 17 = .ok (.getfield 77, 3) := by decide +kernel
theorem dX11_beside_20 : decode cX11_beside 20 = .ok (.iload_n 1, 1) := by decide +kernel
theorem dX11_beside_21 : decode cX11_beside 21 = .ok (.iaload, 1) := by decide +kernel
theorem dX11_beside_22 : decode cX11_beside 22 = .ok (.goto 4, 3) := by decide +kernel
theorem dX11_beside_25 : decode cX11_beside 25 = .ok (.iconst (-1), 1) := by decide +kernel
theorem dX11_beside_26 : decode cX11_beside 26 = .ok (.ireturn, 1) := by decide +kernel
theorem dX11_areEnough_0 : decode cX11_areEnough 0 = .ok (.iconst 0, 1) := by decide +kernel
theorem dX11_areEnough_1 : decode cX11_areEnough 1 = .ok (.istore_n 3, 1) := by decide +kernel
theorem dX11_areEnough_2 : decode cX11_areEnough 2 = .ok (.iload_n 1, 1) := by decide +kernel
theorem dX11_areEnough_3 : decode cX11_areEnough 3 = .ok (.ifCond .le 10, 3) := by decide +kernel
theorem dX11_areEnough_6 : decode cX11_areEnough 6 = .ok (.aload_n 0, 1) := by decide +kernel
theorem dX11_areEnough_7 : decode cX11_areEnough 7 = .ok (.getfield 80, 3) := by decide +kernel
theorem dX11_areEnough_10 : decode cX11_areEnough 10 = .ok (.iconst 0, 1) := by decide +kernel
theorem dX11_areEnough_11 : decode cX11_areEnough 11 = .ok (.iconst (-1), 1) := by decide +kernel
theorem dX11_areEnough_12 : decode cX11_areEnough 12 = .ok (.iastore, 1) := by decide +kernel
theorem dX11_areEnough_13 : decode cX11_areEnough 13 = .ok (.iload_n 3, 1) := by decide +kernel
theorem dX11_areEnough_14 : decode cX11_areEnough 14 = .ok (.ifCond .lt 83, 3) := by decide +kernel
theorem dX11_areEnough_17 : decode cX11_areEnough 17 = .ok (.iload_n 3, 1) := by decide +kernel
theorem dX11_areEnough_18 : decode cX11_areEnough 18 = .ok (.iload_n 1, 1) := by decide +kernel
theorem dX11_areEnough_19 : decode cX11_areEnough 19 = .ok (.if_icmp .ge 78, 3) := by decide +kernel
theorem dX11_areEnough_22 : decode cX11_areEnough 22 = .ok (.aload_n 0, 1) := by decide +kernel
theorem dX11_areEnough_23 : decode cX11_areEnough 23 = .ok (.getfield 80, 3) := by decide +kernel
theorem dX11_areEnough_26 : decode cX11_areEnough 26 = .ok (.iload_n 3, 1) := by decide +kernel
theorem dX11_areEnough_27 : decode cX11_areEnough 27 = .ok (.dup2, 1) := by decide +kernel
theorem dX11_areEnough_28 : decode cX11_areEnough 28 = .ok (.iaload, 1) := by decide +kernel
theorem dX11_areEnough_29 : decode cX11_areEnough 29 = .ok (.iconst 1, 1) := by decide +kernel
theorem dX11_areEnough_30 : decode cX11_areEnough 30 = .ok (.iadd, 1) := by decide +kernel
theorem dX11_areEnough_31 : decode cX11_areEnough 31 = .ok (.iastore, 1) := by decide +kernel
theorem dX11_areEnough_32 : decode cX11_areEnough 32 = .ok (.aload_n 0, 1) := by decide +kernel
theorem dX11_areEnough_33 : decode cX11_areEnough 33 = .ok (.getfield 80, 3) := by decide +kernel
theorem dX11_areEnough_36 : decode cX11_areEnough 36 = .ok (.iload_n 3, 1) := by decide +kernel
theorem dX11_areEnough_37 : decode cX11_areEnough 37 = .ok (.iaload, 1) := by decide +kernel
theorem dX11_areEnough_38 : decode cX11_areEnough 38 = .ok (.iload_n 2, 1) := by decide +kernel
theorem dX11_areEnough_39 : decode cX11_areEnough 39 = .ok (.if_icmp .ge 24, 3) := by decide +kernel
theorem dX11_areEnough_42 : decode cX11_areEnough 42 = .ok (.aload_n 0, 1) := by decide +kernel
theorem dX11_areEnough_43 : decode cX11_areEnough 43 = .ok (.iload_n 3, 1) := by decide +kernel
theorem dX11_areEnough_44 : decode cX11_areEnough 44 = .ok (.invokevirtual 319, 3) := by decide +kernel
theorem dX11_areEnough_47 : decode cX11_areEnough 47 = .ok (.ifCond .eq 16, 3) := by decide +kernel
theorem dX11_areEnough_50 : decode cX11_areEnough 50 = .ok (.aload_n 0, 1) := by decide +kernel
theorem dX11_areEnough_51 : decode cX11_areEnough 51 = .ok (.getfield 80, 3) := by decide +kernel
theorem dX11_areEnough_54 : decode cX11_areEnough 54 = .ok (.iload_n 3, 1) := by decide +kernel
theorem dX11_areEnough_55 : decode cX11_areEnough 55 = .ok (.dup2, 1) := by decide +kernel
theorem dX11_areEnough_56 : decode cX11_areEnough 56 = .ok (.iaload, 1) := by decide +kernel
theorem dX11_areEnough_57 : decode cX11_areEnough 57 = .ok (.iconst 1, 1) := by decide +kernel
theorem dX11_areEnough_58 : decode cX11_areEnough 58 = .ok (.iadd, 1) := by decide +kernel
theorem dX11_areEnough_59 : decode cX11_areEnough 59 = .ok (.iastore, 1) := by decide +kernel
theorem dX11_areEnough_60 : decode cX11_areEnough 60 = .ok (.goto (-28), 3) := by decide +kernel
theorem dX11_areEnough_63 : decode cX11_areEnough 63 = .ok (.aload_n 0, 1) := by decide +kernel
theorem dX11_areEnough_64 : decode cX11_areEnough 64 = .ok (.getfield 80, 3) := by decide +kernel
theorem dX11_areEnough_67 : decode cX11_areEnough 67 = .ok (.iload_n 3, 1) := by decide +kernel
theorem dX11_areEnough_68 : decode cX11_areEnough 68 = .ok (.iaload, 1) := by decide +kernel
theorem dX11_areEnough_69 : decode cX11_areEnough 69 = .ok (.iload_n 2, 1) := by decide +kernel
theorem dX11_areEnough_70 : decode cX11_areEnough 70 = .ok (.if_icmp .ne 9, 3) := by decide +kernel
theorem dX11_areEnough_73 : decode cX11_areEnough 73 = .ok (.iinc 3 (-1), 3) := by decide +kernel
theorem dX11_areEnough_76 : decode cX11_areEnough 76 = .ok (.goto (-63), 3) := by decide +kernel
theorem dX11_areEnough_79 : decode cX11_areEnough 79 = .ok (.iinc 3 1, 3) := by decide +kernel
theorem dX11_areEnough_82 : decode cX11_areEnough 82 = .ok (.iload_n 3, 1) := by decide +kernel
theorem dX11_areEnough_83 : decode cX11_areEnough 83 = .ok (.iload_n 1, 1) := by decide +kernel
theorem dX11_areEnough_84 : decode cX11_areEnough 84 = .ok (.if_icmp .ge (-71), 3) := by decide +kernel
theorem dX11_areEnough_87 : decode cX11_areEnough 87 = .ok (.aload_n 0, 1) := by decide +kernel
theorem dX11_areEnough_88 : decode cX11_areEnough 88 = .ok (.getfield 80, 3) := by decide +kernel
theorem dX11_areEnough_91 : decode cX11_areEnough 91 = .ok (.iload_n 3, 1) := by decide +kernel
theorem dX11_areEnough_92 : decode cX11_areEnough 92 = .ok (.iconst (-1), 1) := by decide +kernel
theorem dX11_areEnough_93 : decode cX11_areEnough 93 = .ok (.iastore, 1) := by decide +kernel
theorem dX11_areEnough_94 : decode cX11_areEnough 94 = .ok (.goto (-81), 3) := by decide +kernel
theorem dX11_areEnough_97 : decode cX11_areEnough 97 = .ok (.iload_n 3, 1) := by decide +kernel
theorem dX11_areEnough_98 : decode cX11_areEnough 98 = .ok (.iload_n 1, 1) := by decide +kernel
theorem dX11_areEnough_99 : decode cX11_areEnough 99 = .ok (.if_icmp .ne 7, 3) := by decide +kernel
theorem dX11_areEnough_102 : decode cX11_areEnough 102 = .ok (.iconst 1, 1) := by decide +kernel
theorem dX11_areEnough_103 : decode cX11_areEnough 103 = .ok (.goto 4, 3) := by decide +kernel
theorem dX11_areEnough_106 : decode cX11_areEnough 106 = .ok (.iconst 0, 1) := by decide +kernel
theorem dX11_areEnough_107 : decode cX11_areEnough 107 = .ok (.ireturn, 1) := by decide +kernel
theorem dX11_isClash_0 : decode cX11_isClash 0 = .ok (.iconst 0, 1) := by decide +kernel
theorem dX11_isClash_1 : decode cX11_isClash 1 = .ok (.istore_n 2, 1) := by decide +kernel
theorem dX11_isClash_2 : decode cX11_isClash 2 = .ok (.iload_n 2, 1) := by decide +kernel
theorem dX11_isClash_3 : decode cX11_isClash 3 = .ok (.iload_n 1, 1) := by decide +kernel
theorem dX11_isClash_4 : decode cX11_isClash 4 = .ok (.if_icmp .ge 39, 3) := by decide +kernel
theorem dX11_isClash_7 : decode cX11_isClash 7 = .ok (.aload_n 0, 1) := by decide +kernel
theorem dX11_isClash_8 : decode cX11_isClash 8 = .ok (.getfield 77, 3) := by decide +kernel
theorem dX11_isClash_11 : decode cX11_isClash 11 = .ok (.iload_n 1, 1) := by decide +kernel
theorem dX11_isClash_12 : decode cX11_isClash 12 = .ok (.iaload, 1) := by decide +kernel
theorem dX11_isClash_13 : decode cX11_isClash 13 = .ok (.iload_n 2, 1) := by decide +kernel
theorem dX11_isClash_14 : decode cX11_isClash 14 = .ok (.invokestatic 200, 3) := by decide +kernel
theorem dX11_isClash_17 : decode cX11_isClash 17 = .ok (.ifCond .eq 20, 3) := by decide +kernel
theorem dX11_isClash_20 : decode cX11_isClash 20 = .ok (.aload_n 0, 1) := by decide +kernel
theorem dX11_isClash_21 : decode cX11_isClash 21 = .ok (.getfield 80, 3) := by decide +kernel
theorem dX11_isClash_24 : decode cX11_isClash 24 = .ok (.iload_n 2, 1) := by decide +kernel
theorem dX11_isClash_25 : decode cX11_isClash 25 = .ok (.iaload, 1) := by decide +kernel
theorem dX11_isClash_26 : decode cX11_isClash 26 = .ok (.aload_n 0, 1) := by decide +kernel
theorem dX11_isClash_27 : decode cX11_isClash 27 = .ok (.getfield 80, 3) := by decide +kernel
theorem dX11_isClash_30 : decode cX11_isClash 30 = .ok (.iload_n 1, 1) := by decide +kernel
theorem dX11_isClash_31 : decode cX11_isClash 31 = .ok (.iaload, 1) := by decide +kernel
theorem dX11_isClash_32 : decode cX11_isClash 32 = .ok (.if_icmp .ne 5, 3) := by decide +kernel
theorem dX11_isClash_35 : decode cX11_isClash 35 = .ok (.iconst 1, 1) := by decide +kernel
theorem dX11_isClash_36 : decode cX11_isClash 36 = .ok (.ireturn, 1) := by decide +kernel
theorem dX11_isClash_37 : decode cX11_isClash 37 = .ok (.iinc 2 1, 3) := by decide +kernel
theorem dX11_isClash_40 : decode cX11_isClash 40 = .ok (.goto (-38), 3) := by decide +kernel
theorem dX11_isClash_43 : decode cX11_isClash 43 = .ok (.iconst 0, 1) := by decide +kernel
theorem dX11_isClash_44 : decode cX11_isClash 44 = .ok (.ireturn, 1) := by decide +kernel
theorem dX11_colours_0 : decode cX11_colours 0 = .ok (.aload_n 0, 1) := by decide +kernel
theorem dX11_colours_1 : decode cX11_colours 1 = .ok (.invokevirtual 316, 3) := by decide +kernel
theorem dX11_colours_4 : decode cX11_colours 4 = .ok (.istore_n 1, 1) := by decide +kernel
theorem dX11_colours_5 : decode cX11_colours 5 = .ok (.iconst 0, 1) := by decide +kernel
theorem dX11_colours_6 : decode cX11_colours 6 = .ok (.istore_n 2, 1) := by decide +kernel
theorem dX11_colours_7 : decode cX11_colours 7 = .ok (.iload_n 2, 1) := by decide +kernel
theorem dX11_colours_8 : decode cX11_colours 8 = .ok (.iload_n 1, 1) := by decide +kernel
theorem dX11_colours_9 : decode cX11_colours 9 = .ok (.if_icmp .ge 25, 3) := by decide +kernel
theorem dX11_colours_12 : decode cX11_colours 12 = .ok (.aload_n 0, 1) := by decide +kernel
theorem dX11_colours_13 : decode cX11_colours 13 = .ok (.getfield 77, 3) := by decide +kernel
theorem dX11_colours_16 : decode cX11_colours 16 = .ok (.iload_n 2, 1) := by decide +kernel
theorem dX11_colours_17 : decode cX11_colours 17 = .ok (.iaload, 1) := by decide +kernel
theorem dX11_colours_18 : decode cX11_colours 18 = .ok (.iload_n 2, 1) := by decide +kernel
theorem dX11_colours_19 : decode cX11_colours 19 = .ok (.invokestatic 200, 3) := by decide +kernel
theorem dX11_colours_22 : decode cX11_colours 22 = .ok (.ifCond .eq 6, 3) := by decide +kernel
theorem dX11_colours_25 : decode cX11_colours 25 = .ok (.bipush (-2), 2) := by decide +kernel
theorem dX11_colours_27 : decode cX11_colours 27 = .ok (.ireturn, 1) := by decide +kernel
theorem dX11_colours_28 : decode cX11_colours 28 = .ok (.iinc 2 1, 3) := by decide +kernel
theorem dX11_colours_31 : decode cX11_colours 31 = .ok (.goto (-24), 3) := by decide +kernel
theorem dX11_colours_34 : decode cX11_colours 34 = .ok (.iconst 0, 1) := by decide +kernel
theorem dX11_colours_35 : decode cX11_colours 35 = .ok (.istore_n 2, 1) := by decide +kernel
theorem dX11_colours_36 : decode cX11_colours 36 = .ok (.aload_n 0, 1) := by decide +kernel
theorem dX11_colours_37 : decode cX11_colours 37 = .ok (.iload_n 1, 1) := by decide +kernel
theorem dX11_colours_38 : decode cX11_colours 38 = .ok (.iload_n 2, 1) := by decide +kernel
theorem dX11_colours_39 : decode cX11_colours 39 = .ok (.invokevirtual 322, 3) := by decide +kernel
theorem dX11_colours_42 : decode cX11_colours 42 = .ok (.ifCond .ne 9, 3) := by decide +kernel
theorem dX11_colours_45 : decode cX11_colours 45 = .ok (.iinc 2 1, 3) := by decide +kernel
theorem dX11_colours_48 : decode cX11_colours 48 = .ok (.goto (-12), 3) := by decide +kernel
theorem dX11_colours_51 : decode cX11_colours 51 = .ok (.iload_n 2, 1) := by decide +kernel
theorem dX11_colours_52 : decode cX11_colours 52 = .ok (.ireturn, 1) := by decide +kernel
theorem dX11_hasDual_0 : decode cX11_hasDual 0 = .ok (.iload_n 1, 1) := by decide +kernel
theorem dX11_hasDual_1 : decode cX11_hasDual 1 = .ok (.bipush 6, 2) := by decide +kernel
theorem dX11_hasDual_3 : decode cX11_hasDual 3 = .ok (.if_icmp .le 5, 3) := by decide +kernel
theorem dX11_hasDual_6 : decode cX11_hasDual 6 = .ok (.iconst 0, 1) := by decide +kernel
theorem dX11_hasDual_7 : decode cX11_hasDual 7 = .ok (.ireturn, 1) := by decide +kernel
theorem dX11_hasDual_8 : decode cX11_hasDual 8 = .ok (.iconst 0, 1) := by decide +kernel
theorem dX11_hasDual_9 : decode cX11_hasDual 9 = .ok (.istore_n 2, 1) := by decide +kernel
theorem dX11_hasDual_10 : decode cX11_hasDual 10 = .ok (.iload_n 2, 1) := by decide +kernel
theorem dX11_hasDual_11 : decode cX11_hasDual 11 = .ok (.aload_n 0, 1) := by decide +kernel
theorem dX11_hasDual_12 : decode cX11_hasDual 12 = .ok (.getfield 40, 3) := by decide +kernel
theorem dX11_hasDual_15 : decode cX11_hasDual 15 = .ok (.iconst 0, 1) := by decide +kernel
theorem dX11_hasDual_16 : decode cX11_hasDual 16 = .ok (.iaload, 1) := by decide +kernel
theorem dX11_hasDual_17 : decode cX11_hasDual 17 = .ok (.if_icmp .ge 23, 3) := by decide +kernel
theorem dX11_hasDual_20 : decode cX11_hasDual 20 = .ok (.aload_n 0, 1) := by decide +kernel
theorem dX11_hasDual_21 : decode cX11_hasDual 21 = .ok (.getfield 40, 3) := by decide +kernel
theorem dX11_hasDual_24 : decode cX11_hasDual 24 = .ok (.bipush 32, 2) := by decide +kernel
theorem dX11_hasDual_26 : decode cX11_hasDual 26 = .ok (.iload_n 2, 1) := by decide +kernel
theorem dX11_hasDual_27 : decode cX11_hasDual 27 = .ok (.iadd, 1) := by decide +kernel
theorem dX11_hasDual_28 : decode cX11_hasDual 28 = .ok (.iaload, 1) := by decide +kernel
theorem dX11_hasDual_29 : decode cX11_hasDual 29 = .ok (.ifCond .ne 5, 3) := by decide +kernel
theorem dX11_hasDual_32 : decode cX11_hasDual 32 = .ok (.iconst 0, 1) := by decide +kernel
theorem dX11_hasDual_33 : decode cX11_hasDual 33 = .ok (.ireturn, 1) := by decide +kernel
theorem dX11_hasDual_34 : decode cX11_hasDual 34 = .ok (.iinc 2 1, 3) := by decide +kernel
theorem dX11_hasDual_37 : decode cX11_hasDual 37 = .ok (.goto (-27), 3) := by decide +kernel
theorem dX11_hasDual_40 : decode cX11_hasDual 40 = .ok (.iconst 0, 1) := by decide +kernel
theorem dX11_hasDual_41 : decode cX11_hasDual 41 = .ok (.istore_n 2, 1) := by decide +kernel
theorem dX11_hasDual_42 : decode cX11_hasDual 42 = .ok (.iload_n 2, 1) := by decide +kernel
theorem dX11_hasDual_43 : decode cX11_hasDual 43 = .ok (.aload_n 0, 1) := by decide +kernel
theorem dX11_hasDual_44 : decode cX11_hasDual 44 = .ok (.getfield 40, 3) := by decide +kernel
theorem dX11_hasDual_47 : decode cX11_hasDual 47 = .ok (.iconst 1, 1) := by decide +kernel
theorem dX11_hasDual_48 : decode cX11_hasDual 48 = .ok (.iaload, 1) := by decide +kernel
theorem dX11_hasDual_49 : decode cX11_hasDual 49 = .ok (.if_icmp .ge 33, 3) := by decide +kernel
theorem dX11_hasDual_52 : decode cX11_hasDual 52 = .ok (.aload_n 0, 1) := by decide +kernel
theorem dX11_hasDual_53 : decode cX11_hasDual 53 = .ok (.getfield 59, 3) := by decide +kernel
theorem dX11_hasDual_56 : decode cX11_hasDual 56 = .ok (.iconst 2, 1) := by decide +kernel
theorem dX11_hasDual_57 : decode cX11_hasDual 57 = .ok (.iload_n 2, 1) := by decide +kernel
theorem dX11_hasDual_58 : decode cX11_hasDual 58 = .ok (.imul, 1) := by decide +kernel
theorem dX11_hasDual_59 : decode cX11_hasDual 59 = .ok (.iaload, 1) := by decide +kernel
theorem dX11_hasDual_60 : decode cX11_hasDual 60 = .ok (.aload_n 0, 1) := by decide +kernel
theorem dX11_hasDual_61 : decode cX11_hasDual 61 = .ok (.getfield 59, 3) := by decide +kernel
theorem dX11_hasDual_64 : decode cX11_hasDual 64 = .ok (.iconst 2, 1) := by decide +kernel
theorem dX11_hasDual_65 : decode cX11_hasDual 65 = .ok (.iload_n 2, 1) := by decide +kernel
theorem dX11_hasDual_66 : decode cX11_hasDual 66 = .ok (.imul, 1) := by decide +kernel
theorem dX11_hasDual_67 : decode cX11_hasDual 67 = .ok (.bipush 20, 2) := by decide +kernel
theorem dX11_hasDual_69 : decode cX11_hasDual 69 = .ok (.iadd, 1) := by decide +kernel
theorem dX11_hasDual_70 : decode cX11_hasDual 70 = .ok (.iaload, 1) := by decide +kernel
theorem dX11_hasDual_71 : decode cX11_hasDual 71 = .ok (.if_icmp .ne 5, 3) := by decide +kernel
theorem dX11_hasDual_74 : decode cX11_hasDual 74 = .ok (.iconst 0, 1) := by decide +kernel
theorem dX11_hasDual_75 : decode cX11_hasDual 75 = .ok (.ireturn, 1) := by decide +kernel
theorem dX11_hasDual_76 : decode cX11_hasDual 76 = .ok (.iinc 2 1, 3) := by decide +kernel
theorem dX11_hasDual_79 : decode cX11_hasDual 79 = .ok (.goto (-37), 3) := by decide +kernel
theorem dX11_hasDual_82 : decode cX11_hasDual 82 = .ok (.iconst 1, 1) := by decide +kernel
theorem dX11_hasDual_83 : decode cX11_hasDual 83 = .ok (.ireturn, 1) := by decide +kernel
theorem dX11_dual_0 : decode cX11_dual 0 = .ok (.aload_n 0, 1) := by decide +kernel
theorem dX11_dual_1 : decode cX11_dual 1 = .ok (.aload_n 0, 1) := by decide +kernel
theorem dX11_dual_2 : decode cX11_dual 2 = .ok (.getfield 40, 3) := by decide +kernel
theorem dX11_dual_5 : decode cX11_dual 5 = .ok (.invokevirtual 257, 3) := by decide +kernel
theorem dX11_dual_8 : decode cX11_dual 8 = .ok (.istore_n 1, 1) := by decide +kernel
theorem dX11_dual_9 : decode cX11_dual 9 = .ok (.aload_n 0, 1) := by decide +kernel
theorem dX11_dual_10 : decode cX11_dual 10 = .ok (.iload_n 1, 1) := by decide +kernel
theorem dX11_dual_11 : decode cX11_dual 11 = .ok (.invokevirtual 325, 3) := by decide +kernel
theorem dX11_dual_14 : decode cX11_dual 14 = .ok (.ifCond .ne 5, 3) := by decide +kernel
theorem dX11_dual_17 : decode cX11_dual 17 = .ok (.iconst (-1), 1) := by decide +kernel
theorem dX11_dual_18 : decode cX11_dual 18 = .ok (.ireturn, 1) := by decide +kernel
theorem dX11_dual_19 : decode cX11_dual 19 = .ok (.iconst 0, 1) := by decide +kernel
theorem dX11_dual_20 : decode cX11_dual 20 = .ok (.istore_n 2, 1) := by decide +kernel
theorem dX11_dual_21 : decode cX11_dual 21 = .ok (.iload_n 2, 1) := by decide +kernel
theorem dX11_dual_22 : decode cX11_dual 22 = .ok (.bipush 98, 2) := by decide +kernel
theorem dX11_dual_24 : decode cX11_dual 24 = .ok (.if_icmp .ge 16, 3) := by decide +kernel
theorem dX11_dual_27 : decode cX11_dual 27 = .ok (.aload_n 0, 1) := by decide +kernel
theorem dX11_dual_28 : decode cX11_dual 28 = .ok (.getfield 71, 3) := by decide +kernel
theorem dX11_dual_31 : decode cX11_dual 31 = .ok (.iload_n 2, 1) := by decide +kernel
theorem dX11_dual_32 : decode cX11_dual 32 = .ok (.iconst 0, 1) := by decide +kernel
theorem dX11_dual_33 : decode cX11_dual 33 = .ok (.iastore, 1) := by decide +kernel
theorem dX11_dual_34 : decode cX11_dual 34 = .ok (.iinc 2 1, 3) := by decide +kernel
theorem dX11_dual_37 : decode cX11_dual 37 = .ok (.goto (-16), 3) := by decide +kernel
theorem dX11_dual_40 : decode cX11_dual 40 = .ok (.aload_n 0, 1) := by decide +kernel
theorem dX11_dual_41 : decode cX11_dual 41 = .ok (.getfield 71, 3) := by decide +kernel
theorem dX11_dual_44 : decode cX11_dual 44 = .ok (.iconst 0, 1) := by decide +kernel
theorem dX11_dual_45 : decode cX11_dual 45 = .ok (.iload_n 1, 1) := by decide +kernel
theorem dX11_dual_46 : decode cX11_dual 46 = .ok (.iastore, 1) := by decide +kernel
theorem dX11_dual_47 : decode cX11_dual 47 = .ok (.aload_n 0, 1) := by decide +kernel
theorem dX11_dual_48 : decode cX11_dual 48 = .ok (.getfield 71, 3) := by decide +kernel
theorem dX11_dual_51 : decode cX11_dual 51 = .ok (.iconst 1, 1) := by decide +kernel
theorem dX11_dual_52 : decode cX11_dual 52 = .ok (.aload_n 0, 1) := by decide +kernel
theorem dX11_dual_53 : decode cX11_dual 53 = .ok (.getfield 40, 3) := by decide +kernel
theorem dX11_dual_56 : decode cX11_dual 56 = .ok (.iconst 1, 1) := by decide +kernel
theorem dX11_dual_57 : decode cX11_dual 57 = .ok (.iaload, 1) := by decide +kernel
theorem dX11_dual_58 : decode cX11_dual 58 = .ok (.iastore, 1) := by decide +kernel
theorem dX11_dual_59 : decode cX11_dual 59 = .ok (.iconst 0, 1) := by decide +kernel
theorem dX11_dual_60 : decode cX11_dual 60 = .ok (.istore_n 2, 1) := by decide +kernel
theorem dX11_dual_61 : decode cX11_dual 61 = .ok (.iload_n 2, 1) := by decide +kernel
theorem dX11_dual_62 : decode cX11_dual 62 = .ok (.aload_n 0, 1) := by decide +kernel
theorem dX11_dual_63 : decode cX11_dual 63 = .ok (.getfield 40, 3) := by decide +kernel
theorem dX11_dual_66 : decode cX11_dual 66 = .ok (.iconst 1, 1) := by decide +kernel
theorem dX11_dual_67 : decode cX11_dual 67 = .ok (.iaload, 1) := by decide +kernel
theorem dX11_dual_68 : decode cX11_dual 68 = .ok (.if_icmp .ge 16, 3) := by decide +kernel
theorem dX11_dual_71 : decode cX11_dual 71 = .ok (.aload_n 0, 1) := by decide +kernel
theorem dX11_dual_72 : decode cX11_dual 72 = .ok (.getfield 83, 3) := by decide +kernel
theorem dX11_dual_75 : decode cX11_dual 75 = .ok (.iload_n 2, 1) := by decide +kernel
theorem dX11_dual_76 : decode cX11_dual 76 = .ok (.iconst (-1), 1) := by decide +kernel
theorem dX11_dual_77 : decode cX11_dual 77 = .ok (.iastore, 1) := by decide +kernel
theorem dX11_dual_78 : decode cX11_dual 78 = .ok (.iinc 2 1, 3) := by decide +kernel
theorem dX11_dual_81 : decode cX11_dual 81 = .ok (.goto (-20), 3) := by decide +kernel
theorem dX11_dual_84 : decode cX11_dual 84 = .ok (.iconst 0, 1) := by decide +kernel
theorem dX11_dual_85 : decode cX11_dual 85 = .ok (.istore_n 2, 1) := by decide +kernel
theorem dX11_dual_86 : decode cX11_dual 86 = .ok (.iload_n 2, 1) := by decide +kernel
theorem dX11_dual_87 : decode cX11_dual 87 = .ok (.iload_n 1, 1) := by decide +kernel
theorem dX11_dual_88 : decode cX11_dual 88 = .ok (.if_icmp .ge 136, 3) := by decide +kernel
theorem dX11_dual_91 : decode cX11_dual 91 = .ok (.aload_n 0, 1) := by decide +kernel
theorem dX11_dual_92 : decode cX11_dual 92 = .ok (.getfield 62, 3) := by decide +kernel
theorem dX11_dual_95 : decode cX11_dual 95 = .ok (.iload_n 2, 1) := by decide +kernel
theorem dX11_dual_96 : decode cX11_dual 96 = .ok (.iaload, 1) := by decide +kernel
theorem dX11_dual_97 : decode cX11_dual 97 = .ok (.istore_n 3, 1) := by decide +kernel
theorem dX11_dual_98 : decode cX11_dual 98 = .ok (.iconst 0, 1) := by decide +kernel
theorem dX11_dual_99 : decode cX11_dual 99 = .ok (.istore 4, 2) := by decide +kernel
theorem dX11_dual_101 : decode cX11_dual 101 = .ok (.iload 4, 2) := by decide +kernel
theorem dX11_dual_103 : decode cX11_dual 103 = .ok (.aload_n 0, 1) := by decide +kernel
theorem dX11_dual_104 : decode cX11_dual 104 = .ok (.getfield 65, 3) := by decide +kernel
theorem dX11_dual_107 : decode cX11_dual 107 = .ok (.iload_n 2, 1) := by decide +kernel
theorem dX11_dual_108 : decode cX11_dual 108 = .ok (.iaload, 1) := by decide +kernel
theorem dX11_dual_109 : decode cX11_dual 109 = .ok (.if_icmp .ge 109, 3) := by decide +kernel
theorem dX11_dual_112 : decode cX11_dual 112 = .ok (.iload_n 3, 1) := by decide +kernel
theorem dX11_dual_113 : decode cX11_dual 113 = .ok (.bipush 20, 2) := by decide +kernel
theorem dX11_dual_115 : decode cX11_dual 115 = .ok (.irem, 1) := by decide +kernel
theorem dX11_dual_116 : decode cX11_dual 116 = .ok (.iconst 2, 1) := by decide +kernel
theorem dX11_dual_117 : decode cX11_dual 117 = .ok (.idiv, 1) := by decide +kernel
theorem dX11_dual_118 : decode cX11_dual 118 = .ok (.istore 5, 2) := by decide +kernel
theorem dX11_dual_120 : decode cX11_dual 120 = .ok (.aload_n 0, 1) := by decide +kernel
theorem dX11_dual_121 : decode cX11_dual 121 = .ok (.getfield 71, 3) := by decide +kernel
theorem dX11_dual_124 : decode cX11_dual 124 = .ok (.iload_n 2, 1) := by decide +kernel
theorem dX11_dual_125 : decode cX11_dual 125 = .ok (.iload 5, 2) := by decide +kernel
theorem dX11_dual_127 : decode cX11_dual 127 = .ok (.invokestatic 193, 3) := by decide +kernel
theorem dX11_dual_130 : decode cX11_dual 130 = .ok (.aload_n 0, 1) := by decide +kernel
theorem dX11_dual_131 : decode cX11_dual 131 = .ok (.getfield 83, 3) := by decide +kernel
theorem dX11_dual_134 : decode cX11_dual 134 = .ok (.iload 5, 2) := by decide +kernel
theorem dX11_dual_136 : decode cX11_dual 136 = .ok (.iaload, 1) := by decide +kernel
theorem dX11_dual_137 : decode cX11_dual 137 = .ok (.ifCond .ge 18, 3) := by decide +kernel
theorem dX11_dual_140 : decode cX11_dual 140 = .ok (.aload_n 0, 1) := by decide +kernel
theorem dX11_dual_141 : decode cX11_dual 141 = .ok (.getfield 71, 3) := by decide +kernel
theorem dX11_dual_144 : decode cX11_dual 144 = .ok (.iconst 2, 1) := by decide +kernel
theorem dX11_dual_145 : decode cX11_dual 145 = .ok (.iconst 2, 1) := by decide +kernel
theorem dX11_dual_146 : decode cX11_dual 146 = .ok (.iload 5, 2) := by decide +kernel
theorem dX11_dual_148 : decode cX11_dual 148 = .ok (.imul, 1) := by decide +kernel
theorem dX11_dual_149 : decode cX11_dual 149 = .ok (.iadd, 1) := by decide +kernel
theorem dX11_dual_150 : decode cX11_dual 150 = .ok (.iload_n 2, 1) := by decide +kernel
theorem dX11_dual_151 : decode cX11_dual 151 = .ok (.iastore, 1) := by decide +kernel
theorem dX11_dual_152 : decode cX11_dual 152 = .ok (.goto 17, 3) := by decide +kernel
theorem dX11_dual_155 : decode cX11_dual 155 = .ok (.aload_n 0, 1) := by decide +kernel
theorem dX11_dual_156 : decode cX11_dual 156 = .ok (.getfield 71, 3) := by decide +kernel
theorem dX11_dual_159 : decode cX11_dual 159 = .ok (.iconst 2, 1) := by decide +kernel
theorem dX11_dual_160 : decode cX11_dual 160 = .ok (.iconst 2, 1) := by decide +kernel
theorem dX11_dual_161 : decode cX11_dual 161 = .ok (.iload 5, 2) := by decide +kernel
theorem dX11_dual_163 : decode cX11_dual 163 = .ok (.imul, 1) := by decide +kernel
theorem dX11_dual_164 : decode cX11_dual 164 = .ok (.iadd, 1) := by decide +kernel
theorem dX11_dual_165 : decode cX11_dual 165 = .ok (.iconst 1, 1) := by decide +kernel
theorem dX11_dual_166 : decode cX11_dual 166 = .ok (.iadd, 1) := by decide +kernel
theorem dX11_dual_167 : decode cX11_dual 167 = .ok (.iload_n 2, 1) := by decide +kernel
theorem dX11_dual_168 : decode cX11_dual 168 = .ok (.iastore, 1) := by decide +kernel
theorem dX11_dual_169 : decode cX11_dual 169 = .ok (.aload_n 0, 1) := by decide +kernel
theorem dX11_dual_170 : decode cX11_dual 170 = .ok (.getfield 83, 3) := by decide +kernel
theorem dX11_dual_173 : decode cX11_dual 173 = .ok (.iload 5, 2) := by decide +kernel
theorem dX11_dual_175 : decode cX11_dual 175 = .ok (.iaload, 1) := by decide +kernel
theorem dX11_dual_176 : decode cX11_dual 176 = .ok (.iload_n 3, 1) := by decide +kernel
theorem dX11_dual_177 : decode cX11_dual 177 = .ok (.iconst 2, 1) := by decide +kernel
theorem dX11_dual_178 : decode cX11_dual 178 = .ok (.irem, 1) := by decide +kernel
theorem dX11_dual_179 : decode cX11_dual 179 = .ok (.if_icmp .ne 14, 3) := by decide +kernel
theorem dX11_dual_182 : decode cX11_dual 182 = .ok (.aload_n 0, 1) := by decide +kernel
theorem dX11_dual_183 : decode cX11_dual 183 = .ok (.getfield 71, 3) := by decide +kernel
theorem dX11_dual_186 : decode cX11_dual 186 = .ok (.bipush 22, 2) := by decide +kernel
theorem dX11_dual_188 : decode cX11_dual 188 = .ok (.iload 5, 2) := by decide +kernel
theorem dX11_dual_190 : decode cX11_dual 190 = .ok (.iadd, 1) := by decide +kernel
theorem dX11_dual_191 : decode cX11_dual 191 = .ok (.iconst 1, 1) := by decide +kernel
theorem dX11_dual_192 : decode cX11_dual 192 = .ok (.iastore, 1) := by decide +kernel
theorem dX11_dual_193 : decode cX11_dual 193 = .ok (.aload_n 0, 1) := by decide +kernel
theorem dX11_dual_194 : decode cX11_dual 194 = .ok (.getfield 83, 3) := by decide +kernel
theorem dX11_dual_197 : decode cX11_dual 197 = .ok (.iload 5, 2) := by decide +kernel
theorem dX11_dual_199 : decode cX11_dual 199 = .ok (.iload_n 3, 1) := by decide +kernel
theorem dX11_dual_200 : decode cX11_dual 200 = .ok (.iconst 2, 1) := by decide +kernel
theorem dX11_dual_201 : decode cX11_dual 201 = .ok (.irem, 1) := by decide +kernel
theorem dX11_dual_202 : decode cX11_dual 202 = .ok (.iastore, 1) := by decide +kernel
theorem dX11_dual_203 : decode cX11_dual 203 = .ok (.aload_n 0, 1) := by decide +kernel
theorem dX11_dual_204 : decode cX11_dual 204 = .ok (.getfield 40, 3) := by decide +kernel
theorem dX11_dual_207 : decode cX11_dual 207 = .ok (.iload_n 3, 1) := by decide +kernel
theorem dX11_dual_208 : decode cX11_dual 208 = .ok (.invokestatic 254, 3) := by decide +kernel
theorem dX11_dual_211 : decode cX11_dual 211 = .ok (.istore_n 3, 1) := by decide +kernel
theorem dX11_dual_212 : decode cX11_dual 212 = .ok (.iinc 4 1, 3) := by decide +kernel
theorem dX11_dual_215 : decode cX11_dual 215 = .ok (.goto (-114), 3) := by decide +kernel
theorem dX11_dual_218 : decode cX11_dual 218 = .ok (.iinc 2 1, 3) := by decide +kernel
theorem dX11_dual_221 : decode cX11_dual 221 = .ok (.goto (-135), 3) := by decide +kernel
theorem dX11_dual_224 : decode cX11_dual 224 = .ok (.aload_n 0, 1) := by decide +kernel
theorem dX11_dual_225 : decode cX11_dual 225 = .ok (.invokevirtual 221, 3) := by decide +kernel
theorem dX11_dual_228 : decode cX11_dual 228 = .ok (.iconst 0, 1) := by decide +kernel
theorem dX11_dual_229 : decode cX11_dual 229 = .ok (.istore_n 2, 1) := by decide +kernel
theorem dX11_dual_230 : decode cX11_dual 230 = .ok (.iload_n 2, 1) := by decide +kernel
theorem dX11_dual_231 : decode cX11_dual 231 = .ok (.bipush 98, 2) := by decide +kernel
theorem dX11_dual_233 : decode cX11_dual 233 = .ok (.if_icmp .ge 21, 3) := by decide +kernel
theorem dX11_dual_236 : decode cX11_dual 236 = .ok (.aload_n 0, 1) := by decide +kernel
theorem dX11_dual_237 : decode cX11_dual 237 = .ok (.getfield 40, 3) := by decide +kernel
theorem dX11_dual_240 : decode cX11_dual 240 = .ok (.iload_n 2, 1) := by decide +kernel
theorem dX11_dual_241 : decode cX11_dual 241 = .ok (.aload_n 0, 1) := by decide +kernel
theorem dX11_dual_242 : decode cX11_dual 242 = .ok (.getfield 71, 3) := by decide +kernel
theorem dX11_dual_245 : decode cX11_dual 245 = .ok (.iload_n 2, 1) := by decide +kernel
theorem dX11_dual_246 : decode cX11_dual 246 = .ok (.iaload, 1) := by decide +kernel
theorem dX11_dual_247 : decode cX11_dual 247 = .ok (.iastore, 1) := by decide +kernel
theorem dX11_dual_248 : decode cX11_dual 248 = .ok (.iinc 2 1, 3) := by decide +kernel
theorem dX11_dual_251 : decode cX11_dual 251 = .ok (.goto (-21), 3) := by decide +kernel
theorem dX11_dual_254 : decode cX11_dual 254 = .ok (.iload_n 1, 1) := by decide +kernel
theorem dX11_dual_255 : decode cX11_dual 255 = .ok (.ireturn, 1) := by decide +kernel
theorem dX11_sends_0 : decode cX11_sends 0 = .ok (.aload_n 0, 1) := by decide +kernel
theorem dX11_sends_1 : decode cX11_sends 1 = .ok (.getfield 86, 3) := by decide +kernel
theorem dX11_sends_4 : decode cX11_sends 4 = .ok (.iload_n 1, 1) := by decide +kernel
theorem dX11_sends_5 : decode cX11_sends 5 = .ok (.iaload, 1) := by decide +kernel
theorem dX11_sends_6 : decode cX11_sends 6 = .ok (.ifCond .ge 12, 3) := by decide +kernel
theorem dX11_sends_9 : decode cX11_sends 9 = .ok (.aload_n 0, 1) := by decide +kernel
theorem dX11_sends_10 : decode cX11_sends 10 = .ok (.getfield 89, 3) := by decide +kernel
theorem dX11_sends_13 : decode cX11_sends 13 = .ok (.iload_n 2, 1) := by decide +kernel
theorem dX11_sends_14 : decode cX11_sends 14 = .ok (.iaload, 1) := by decide +kernel
theorem dX11_sends_15 : decode cX11_sends 15 = .ok (.ifCond .lt 19, 3) := by decide +kernel
theorem dX11_sends_18 : decode cX11_sends 18 = .ok (.aload_n 0, 1) := by decide +kernel
theorem dX11_sends_19 : decode cX11_sends 19 = .ok (.getfield 86, 3) := by decide +kernel
theorem dX11_sends_22 : decode cX11_sends 22 = .ok (.iload_n 1, 1) := by decide +kernel
theorem dX11_sends_23 : decode cX11_sends 23 = .ok (.iaload, 1) := by decide +kernel
theorem dX11_sends_24 : decode cX11_sends 24 = .ok (.iload_n 2, 1) := by decide +kernel
theorem dX11_sends_25 : decode cX11_sends 25 = .ok (.if_icmp .ne 7, 3) := by decide +kernel
theorem dX11_sends_28 : decode cX11_sends 28 = .ok (.iconst 1, 1) := by decide +kernel
theorem dX11_sends_29 : decode cX11_sends 29 = .ok (.goto 4, 3) := by decide +kernel
theorem dX11_sends_32 : decode cX11_sends 32 = .ok (.iconst 0, 1) := by decide +kernel
theorem dX11_sends_33 : decode cX11_sends 33 = .ok (.ireturn, 1) := by decide +kernel
theorem dX11_sends_34 : decode cX11_sends 34 = .ok (.aload_n 0, 1) := by decide +kernel
theorem dX11_sends_35 : decode cX11_sends 35 = .ok (.getfield 86, 3) := by decide +kernel
theorem dX11_sends_38 : decode cX11_sends 38 = .ok (.iload_n 1, 1) := by decide +kernel
theorem dX11_sends_39 : decode cX11_sends 39 = .ok (.iload_n 2, 1) := by decide +kernel
theorem dX11_sends_40 : decode cX11_sends 40 = .ok (.iastore, 1) := by decide +kernel
theorem dX11_sends_41 : decode cX11_sends 41 = .ok (.aload_n 0, 1) := by decide +kernel
theorem dX11_sends_42 : decode cX11_sends 42 = .ok (.getfield 89, 3) := by decide +kernel
theorem dX11_sends_45 : decode cX11_sends 45 = .ok (.iload_n 2, 1) := by decide +kernel
theorem dX11_sends_46 : decode cX11_sends 46 = .ok (.iload_n 1, 1) := by decide +kernel
theorem dX11_sends_47 : decode cX11_sends 47 = .ok (.iastore, 1) := by decide +kernel
theorem dX11_sends_48 : decode cX11_sends 48 = .ok (.aload_n 0, 1) := by decide +kernel
theorem dX11_sends_49 : decode cX11_sends 49 = .ok (.getfield 92, 3) := by decide +kernel
theorem dX11_sends_52 : decode cX11_sends 52 = .ok (.aload_n 0, 1) := by decide +kernel
theorem dX11_sends_53 : decode cX11_sends 53 = .ok (.getfield 328, 3) := by decide +kernel
theorem dX11_sends_56 : decode cX11_sends 56 = .ok (.iload_n 1, 1) := by decide +kernel
theorem dX11_sends_57 : decode cX11_sends 57 = .ok (.iastore, 1) := by decide +kernel
theorem dX11_sends_58 : decode cX11_sends 58 = .ok (.aload_n 0, 1) := by decide +kernel
theorem dX11_sends_59 : decode cX11_sends 59 = .ok (.dup, 1) := by decide +kernel
theorem dX11_sends_60 : decode cX11_sends 60 = .ok (.getfield 328, 3) := by decide +kernel
theorem dX11_sends_63 : decode cX11_sends 63 = .ok (.iconst 1, 1) := by decide +kernel
theorem dX11_sends_64 : decode cX11_sends 64 = .ok (.iadd, 1) := by decide +kernel
theorem dX11_sends_65 : decode cX11_sends 65 = .ok (.putfield 328, 3) := by decide +kernel
theorem dX11_sends_68 : decode cX11_sends 68 = .ok (.iconst 1, 1) := by decide +kernel
theorem dX11_sends_69 : decode cX11_sends 69 = .ok (.ireturn, 1) := by decide +kernel
theorem dX11_turnedAt_0 : decode cX11_turnedAt 0 = .ok (.iload_n 0, 1) := by decide +kernel
theorem dX11_turnedAt_1 : decode cX11_turnedAt 1 = .ok (.bipush 20, 2) := by decide +kernel
theorem dX11_turnedAt_3 : decode cX11_turnedAt 3 = .ok (.if_icmp .lt 10, 3) := by decide +kernel
theorem dX11_turnedAt_6 : decode cX11_turnedAt 6 = .ok (.iload_n 0, 1) := by decide +kernel
theorem dX11_turnedAt_7 : decode cX11_turnedAt 7 = .ok (.bipush 20, 2) := by decide +kernel
theorem dX11_turnedAt_9 : decode cX11_turnedAt 9 = .ok (.isub, 1) := by decide +kernel
theorem dX11_turnedAt_10 : decode cX11_turnedAt 10 = .ok (.goto 7, 3) := by decide +kernel
theorem dX11_turnedAt_13 : decode cX11_turnedAt 13 = .ok (.iload_n 0, 1) := by decide +kernel
theorem dX11_turnedAt_14 : decode cX11_turnedAt 14 = .ok (.bipush 20, 2) := by decide +kernel
theorem dX11_turnedAt_16 : decode cX11_turnedAt 16 = .ok (.iadd, 1) := by decide +kernel
theorem dX11_turnedAt_17 : decode cX11_turnedAt 17 = .ok (.ireturn, 1) := by decide +kernel
theorem dX11_canSend_0 : decode cX11_canSend 0 = .ok (.iconst 0, 1) := by decide +kernel
theorem dX11_canSend_1 : decode cX11_canSend 1 = .ok (.istore_n 3, 1) := by decide +kernel
theorem dX11_canSend_2 : decode cX11_canSend 2 = .ok (.iload_n 3, 1) := by decide +kernel
theorem dX11_canSend_3 : decode cX11_canSend 3 = .ok (.bipush 40, 2) := by decide +kernel
theorem dX11_canSend_5 : decode cX11_canSend 5 = .ok (.if_icmp .ge 23, 3) := by decide +kernel
theorem dX11_canSend_8 : decode cX11_canSend 8 = .ok (.aload_n 0, 1) := by decide +kernel
theorem dX11_canSend_9 : decode cX11_canSend 9 = .ok (.getfield 86, 3) := by decide +kernel
theorem dX11_canSend_12 : decode cX11_canSend 12 = .ok (.iload_n 3, 1) := by decide +kernel
theorem dX11_canSend_13 : decode cX11_canSend 13 = .ok (.iconst (-1), 1) := by decide +kernel
theorem dX11_canSend_14 : decode cX11_canSend 14 = .ok (.iastore, 1) := by decide +kernel
theorem dX11_canSend_15 : decode cX11_canSend 15 = .ok (.aload_n 0, 1) := by decide +kernel
theorem dX11_canSend_16 : decode cX11_canSend 16 = .ok (.getfield 89, 3) := by decide +kernel
theorem dX11_canSend_19 : decode cX11_canSend 19 = .ok (.iload_n 3, 1) := by decide +kernel
theorem dX11_canSend_20 : decode cX11_canSend 20 = .ok (.iconst (-1), 1) := by decide +kernel
theorem dX11_canSend_21 : decode cX11_canSend 21 = .ok (.iastore, 1) := by decide +kernel
theorem dX11_canSend_22 : decode cX11_canSend 22 = .ok (.iinc 3 1, 3) := by decide +kernel
theorem dX11_canSend_25 : decode cX11_canSend 25 = .ok (.goto (-23), 3) := by decide +kernel
theorem dX11_canSend_28 : decode cX11_canSend 28 = .ok (.aload_n 0, 1) := by decide +kernel
theorem dX11_canSend_29 : decode cX11_canSend 29 = .ok (.iconst 0, 1) := by decide +kernel
theorem dX11_canSend_30 : decode cX11_canSend 30 = .ok (.putfield 328, 3) := by decide +kernel
theorem dX11_canSend_33 : decode cX11_canSend 33 = .ok (.aload_n 0, 1) := by decide +kernel
theorem dX11_canSend_34 : decode cX11_canSend 34 = .ok (.iconst 0, 1) := by decide +kernel
theorem dX11_canSend_35 : decode cX11_canSend 35 = .ok (.iload_n 2, 1) := by decide +kernel
theorem dX11_canSend_36 : decode cX11_canSend 36 = .ok (.invokevirtual 331, 3) := by decide +kernel
theorem dX11_canSend_39 : decode cX11_canSend 39 = .ok (.istore_n 3, 1) := by decide +kernel
theorem dX11_canSend_40 : decode cX11_canSend 40 = .ok (.iconst 0, 1) := by decide +kernel
theorem dX11_canSend_41 : decode cX11_canSend 41 = .ok (.istore 4, 2) := by decide +kernel
theorem dX11_canSend_43 : decode cX11_canSend 43 = .ok (.iload 4, 2) := by decide +kernel
theorem dX11_canSend_45 : decode cX11_canSend 45 = .ok (.aload_n 0, 1) := by decide +kernel
theorem dX11_canSend_46 : decode cX11_canSend 46 = .ok (.getfield 328, 3) := by decide +kernel
theorem dX11_canSend_49 : decode cX11_canSend 49 = .ok (.if_icmp .ge 98, 3) := by decide +kernel
theorem dX11_canSend_52 : decode cX11_canSend 52 = .ok (.iload_n 3, 1) := by decide +kernel
theorem dX11_canSend_53 : decode cX11_canSend 53 = .ok (.ifCond .eq 94, 3) := by decide +kernel
theorem dX11_canSend_56 : decode cX11_canSend 56 = .ok (.aload_n 0, 1) := by decide +kernel
theorem dX11_canSend_57 : decode cX11_canSend 57 = .ok (.getfield 92, 3) := by decide +kernel
theorem dX11_canSend_60 : decode cX11_canSend 60 = .ok (.iload 4, 2) := by decide +kernel
theorem dX11_canSend_62 : decode cX11_canSend 62 = .ok (.iaload, 1) := by decide +kernel
theorem dX11_canSend_63 : decode cX11_canSend 63 = .ok (.istore 5, 2) := by decide +kernel
theorem dX11_canSend_65 : decode cX11_canSend 65 = .ok (.aload_n 0, 1) := by decide +kernel
theorem dX11_canSend_66 : decode cX11_canSend 66 = .ok (.getfield 86, 3) := by decide +kernel
theorem dX11_canSend_69 : decode cX11_canSend 69 = .ok (.iload 5, 2) := by decide +kernel
theorem dX11_canSend_71 : decode cX11_canSend 71 = .ok (.iaload, 1) := by decide +kernel
theorem dX11_canSend_72 : decode cX11_canSend 72 = .ok (.istore 6, 2) := by decide +kernel
theorem dX11_canSend_74 : decode cX11_canSend 74 = .ok (.aload_n 0, 1) := by decide +kernel
theorem dX11_canSend_75 : decode cX11_canSend 75 = .ok (.iload 5, 2) := by decide +kernel
theorem dX11_canSend_77 : decode cX11_canSend 77 = .ok (.invokestatic 334, 3) := by decide +kernel
theorem dX11_canSend_80 : decode cX11_canSend 80 = .ok (.iload 6, 2) := by decide +kernel
theorem dX11_canSend_82 : decode cX11_canSend 82 = .ok (.invokestatic 334, 3) := by decide +kernel
theorem dX11_canSend_85 : decode cX11_canSend 85 = .ok (.invokevirtual 331, 3) := by decide +kernel
theorem dX11_canSend_88 : decode cX11_canSend 88 = .ok (.ifCond .eq 51, 3) := by decide +kernel
theorem dX11_canSend_91 : decode cX11_canSend 91 = .ok (.aload_n 0, 1) := by decide +kernel
theorem dX11_canSend_92 : decode cX11_canSend 92 = .ok (.aload_n 0, 1) := by decide +kernel
theorem dX11_canSend_93 : decode cX11_canSend 93 = .ok (.getfield 40, 3) := by decide +kernel
theorem dX11_canSend_96 : decode cX11_canSend 96 = .ok (.iload 5, 2) := by decide +kernel
theorem dX11_canSend_98 : decode cX11_canSend 98 = .ok (.invokestatic 254, 3) := by decide +kernel
theorem dX11_canSend_101 : decode cX11_canSend 101 = .ok (.aload_n 1, 1) := by decide +kernel
theorem dX11_canSend_102 : decode cX11_canSend 102 = .ok (.iload 6, 2) := by decide +kernel
theorem dX11_canSend_104 : decode cX11_canSend 104 = .ok (.invokestatic 254, 3) := by decide +kernel
theorem dX11_canSend_107 : decode cX11_canSend 107 = .ok (.invokevirtual 331, 3) := by decide +kernel
theorem dX11_canSend_110 : decode cX11_canSend 110 = .ok (.ifCond .eq 29, 3) := by decide +kernel
theorem dX11_canSend_113 : decode cX11_canSend 113 = .ok (.aload_n 0, 1) := by decide +kernel
theorem dX11_canSend_114 : decode cX11_canSend 114 = .ok (.aload_n 0, 1) := by decide +kernel
theorem dX11_canSend_115 : decode cX11_canSend 115 = .ok (.getfield 40, 3) := by decide +kernel
theorem dX11_canSend_118 : decode cX11_canSend 118 = .ok (.iload 5, 2) := by decide +kernel
theorem dX11_canSend_120 : decode cX11_canSend 120 = .ok (.invokestatic 250, 3) := by decide +kernel
theorem dX11_canSend_123 : decode cX11_canSend 123 = .ok (.aload_n 1, 1) := by decide +kernel
theorem dX11_canSend_124 : decode cX11_canSend 124 = .ok (.iload 6, 2) := by decide +kernel
theorem dX11_canSend_126 : decode cX11_canSend 126 = .ok (.invokestatic 250, 3) := by decide +kernel
theorem dX11_canSend_129 : decode cX11_canSend 129 = .ok (.invokevirtual 331, 3) := by decide +kernel
theorem dX11_canSend_132 : decode cX11_canSend 132 = .ok (.ifCond .eq 7, 3) := by decide +kernel
theorem dX11_canSend_135 : decode cX11_canSend 135 = .ok (.iconst 1, 1) := by decide +kernel
theorem dX11_canSend_136 : decode cX11_canSend 136 = .ok (.goto 4, 3) := by decide +kernel
theorem dX11_canSend_139 : decode cX11_canSend 139 = .ok (.iconst 0, 1) := by decide +kernel
theorem dX11_canSend_140 : decode cX11_canSend 140 = .ok (.istore_n 3, 1) := by decide +kernel
theorem dX11_canSend_141 : decode cX11_canSend 141 = .ok (.iinc 4 1, 3) := by decide +kernel
theorem dX11_canSend_144 : decode cX11_canSend 144 = .ok (.goto (-101), 3) := by decide +kernel
theorem dX11_canSend_147 : decode cX11_canSend 147 = .ok (.iload_n 3, 1) := by decide +kernel
theorem dX11_canSend_148 : decode cX11_canSend 148 = .ok (.ireturn, 1) := by decide +kernel
theorem dX11_likes_0 : decode cX11_likes 0 = .ok (.aload_n 0, 1) := by decide +kernel
theorem dX11_likes_1 : decode cX11_likes 1 = .ok (.getfield 40, 3) := by decide +kernel
theorem dX11_likes_4 : decode cX11_likes 4 = .ok (.iconst 1, 1) := by decide +kernel
theorem dX11_likes_5 : decode cX11_likes 5 = .ok (.iaload, 1) := by decide +kernel
theorem dX11_likes_6 : decode cX11_likes 6 = .ok (.ifCond .eq 30, 3) := by decide +kernel
theorem dX11_likes_9 : decode cX11_likes 9 = .ok (.aload_n 1, 1) := by decide +kernel
theorem dX11_likes_10 : decode cX11_likes 10 = .ok (.iconst 1, 1) := by decide +kernel
theorem dX11_likes_11 : decode cX11_likes 11 = .ok (.iaload, 1) := by decide +kernel
theorem dX11_likes_12 : decode cX11_likes 12 = .ok (.ifCond .eq 24, 3) := by decide +kernel
theorem dX11_likes_15 : decode cX11_likes 15 = .ok (.aload_n 0, 1) := by decide +kernel
theorem dX11_likes_16 : decode cX11_likes 16 = .ok (.aload_n 0, 1) := by decide +kernel
theorem dX11_likes_17 : decode cX11_likes 17 = .ok (.getfield 40, 3) := by decide +kernel
theorem dX11_likes_20 : decode cX11_likes 20 = .ok (.invokevirtual 262, 3) := by decide +kernel
theorem dX11_likes_23 : decode cX11_likes 23 = .ok (.iconst 1, 1) := by decide +kernel
theorem dX11_likes_24 : decode cX11_likes 24 = .ok (.if_icmp .ne 12, 3) := by decide +kernel
theorem dX11_likes_27 : decode cX11_likes 27 = .ok (.aload_n 0, 1) := by decide +kernel
theorem dX11_likes_28 : decode cX11_likes 28 = .ok (.aload_n 1, 1) := by decide +kernel
theorem dX11_likes_29 : decode cX11_likes 29 = .ok (.invokevirtual 262, 3) := by decide +kernel
theorem dX11_likes_32 : decode cX11_likes 32 = .ok (.iconst 1, 1) := by decide +kernel
theorem dX11_likes_33 : decode cX11_likes 33 = .ok (.if_icmp .eq 6, 3) := by decide +kernel
theorem dX11_likes_36 : decode cX11_likes 36 = .ok (.bipush (-2), 2) := by decide +kernel
theorem dX11_likes_38 : decode cX11_likes 38 = .ok (.ireturn, 1) := by decide +kernel
theorem dX11_likes_39 : decode cX11_likes 39 = .ok (.aload_n 0, 1) := by decide +kernel
theorem dX11_likes_40 : decode cX11_likes 40 = .ok (.getfield 40, 3) := by decide +kernel
theorem dX11_likes_43 : decode cX11_likes 43 = .ok (.iconst 1, 1) := by decide +kernel
theorem dX11_likes_44 : decode cX11_likes 44 = .ok (.iaload, 1) := by decide +kernel
theorem dX11_likes_45 : decode cX11_likes 45 = .ok (.aload_n 1, 1) := by decide +kernel
theorem dX11_likes_46 : decode cX11_likes 46 = .ok (.iconst 1, 1) := by decide +kernel
theorem dX11_likes_47 : decode cX11_likes 47 = .ok (.iaload, 1) := by decide +kernel
theorem dX11_likes_48 : decode cX11_likes 48 = .ok (.if_icmp .ne 15, 3) := by decide +kernel
theorem dX11_likes_51 : decode cX11_likes 51 = .ok (.aload_n 0, 1) := by decide +kernel
theorem dX11_likes_52 : decode cX11_likes 52 = .ok (.getfield 40, 3) := by decide +kernel
theorem dX11_likes_55 : decode cX11_likes 55 = .ok (.iconst 0, 1) := by decide +kernel
theorem dX11_likes_56 : decode cX11_likes 56 = .ok (.iaload, 1) := by decide +kernel
theorem dX11_likes_57 : decode cX11_likes 57 = .ok (.aload_n 1, 1) := by decide +kernel
theorem dX11_likes_58 : decode cX11_likes 58 = .ok (.iconst 0, 1) := by decide +kernel
theorem dX11_likes_59 : decode cX11_likes 59 = .ok (.iaload, 1) := by decide +kernel
theorem dX11_likes_60 : decode cX11_likes 60 = .ok (.if_icmp .eq 5, 3) := by decide +kernel
theorem dX11_likes_63 : decode cX11_likes 63 = .ok (.iconst 0, 1) := by decide +kernel
theorem dX11_likes_64 : decode cX11_likes 64 = .ok (.ireturn, 1) := by decide +kernel
theorem dX11_likes_65 : decode cX11_likes 65 = .ok (.iconst 0, 1) := by decide +kernel
theorem dX11_likes_66 : decode cX11_likes 66 = .ok (.istore_n 2, 1) := by decide +kernel
theorem dX11_likes_67 : decode cX11_likes 67 = .ok (.iconst 0, 1) := by decide +kernel
theorem dX11_likes_68 : decode cX11_likes 68 = .ok (.istore_n 3, 1) := by decide +kernel
theorem dX11_likes_69 : decode cX11_likes 69 = .ok (.iload_n 3, 1) := by decide +kernel
theorem dX11_likes_70 : decode cX11_likes 70 = .ok (.iconst 2, 1) := by decide +kernel
theorem dX11_likes_71 : decode cX11_likes 71 = .ok (.aload_n 0, 1) := by decide +kernel
theorem dX11_likes_72 : decode cX11_likes 72 = .ok (.getfield 40, 3) := by decide +kernel
theorem dX11_likes_75 : decode cX11_likes 75 = .ok (.iconst 1, 1) := by decide +kernel
theorem dX11_likes_76 : decode cX11_likes 76 = .ok (.iaload, 1) := by decide +kernel
theorem dX11_likes_77 : decode cX11_likes 77 = .ok (.imul, 1) := by decide +kernel
theorem dX11_likes_78 : decode cX11_likes 78 = .ok (.if_icmp .ge 36, 3) := by decide +kernel
theorem dX11_likes_81 : decode cX11_likes 81 = .ok (.aload_n 0, 1) := by decide +kernel
theorem dX11_likes_82 : decode cX11_likes 82 = .ok (.aload_n 1, 1) := by decide +kernel
theorem dX11_likes_83 : decode cX11_likes 83 = .ok (.iload_n 3, 1) := by decide +kernel
theorem dX11_likes_84 : decode cX11_likes 84 = .ok (.invokevirtual 337, 3) := by decide +kernel
theorem dX11_likes_87 : decode cX11_likes 87 = .ok (.ifCond .eq 6, 3) := by decide +kernel
theorem dX11_likes_90 : decode cX11_likes 90 = .ok (.iinc 2 1, 3) := by decide +kernel
theorem dX11_likes_93 : decode cX11_likes 93 = .ok (.aload_n 0, 1) := by decide +kernel
theorem dX11_likes_94 : decode cX11_likes 94 = .ok (.aload_n 1, 1) := by decide +kernel
theorem dX11_likes_95 : decode cX11_likes 95 = .ok (.iload_n 3, 1) := by decide +kernel
theorem dX11_likes_96 : decode cX11_likes 96 = .ok (.bipush 20, 2) := by decide +kernel
theorem dX11_likes_98 : decode cX11_likes 98 = .ok (.iadd, 1) := by decide +kernel
theorem dX11_likes_99 : decode cX11_likes 99 = .ok (.invokevirtual 337, 3) := by decide +kernel
theorem dX11_likes_102 : decode cX11_likes 102 = .ok (.ifCond .eq 6, 3) := by decide +kernel
theorem dX11_likes_105 : decode cX11_likes 105 = .ok (.iinc 2 1, 3) := by decide +kernel
theorem dX11_likes_108 : decode cX11_likes 108 = .ok (.iinc 3 1, 3) := by decide +kernel
theorem dX11_likes_111 : decode cX11_likes 111 = .ok (.goto (-42), 3) := by decide +kernel
theorem dX11_likes_114 : decode cX11_likes 114 = .ok (.iload_n 2, 1) := by decide +kernel
theorem dX11_likes_115 : decode cX11_likes 115 = .ok (.ireturn, 1) := by decide +kernel
theorem dX11_like_0 : decode cX11_like 0 = .ok (.iload_n 1, 1) := by decide +kernel
theorem dX11_like_1 : decode cX11_like 1 = .ok (.iconst 0, 1) := by decide +kernel
theorem dX11_like_2 : decode cX11_like 2 = .ok (.iconst 2, 1) := by decide +kernel
theorem dX11_like_3 : decode cX11_like 3 = .ok (.invokestatic 204, 3) := by decide +kernel
theorem dX11_like_6 : decode cX11_like 6 = .ok (.ifCond .eq 12, 3) := by decide +kernel
theorem dX11_like_9 : decode cX11_like 9 = .ok (.aload_n 0, 1) := by decide +kernel
theorem dX11_like_10 : decode cX11_like 10 = .ok (.getfield 55, 3) := by decide +kernel
theorem dX11_like_13 : decode cX11_like 13 = .ok (.iload_n 1, 1) := by decide +kernel
theorem dX11_like_14 : decode cX11_like 14 = .ok (.baload, 1) := by decide +kernel
theorem dX11_like_15 : decode cX11_like 15 = .ok (.ifCond .ne 5, 3) := by decide +kernel
theorem dX11_like_18 : decode cX11_like 18 = .ok (.iconst (-1), 1) := by decide +kernel
theorem dX11_like_19 : decode cX11_like 19 = .ok (.ireturn, 1) := by decide +kernel
theorem dX11_like_20 : decode cX11_like 20 = .ok (.iconst 0, 1) := by decide +kernel
theorem dX11_like_21 : decode cX11_like 21 = .ok (.istore_n 2, 1) := by decide +kernel
theorem dX11_like_22 : decode cX11_like 22 = .ok (.iload_n 2, 1) := by decide +kernel
theorem dX11_like_23 : decode cX11_like 23 = .ok (.bipush 98, 2) := by decide +kernel
theorem dX11_like_25 : decode cX11_like 25 = .ok (.if_icmp .ge 26, 3) := by decide +kernel
theorem dX11_like_28 : decode cX11_like 28 = .ok (.aload_n 0, 1) := by decide +kernel
theorem dX11_like_29 : decode cX11_like 29 = .ok (.getfield 71, 3) := by decide +kernel
theorem dX11_like_32 : decode cX11_like 32 = .ok (.iload_n 2, 1) := by decide +kernel
theorem dX11_like_33 : decode cX11_like 33 = .ok (.aload_n 0, 1) := by decide +kernel
theorem dX11_like_34 : decode cX11_like 34 = .ok (.getfield 52, 3) := by decide +kernel
theorem dX11_like_37 : decode cX11_like 37 = .ok (.bipush 98, 2) := by decide +kernel
theorem dX11_like_39 : decode cX11_like 39 = .ok (.iload_n 1, 1) := by decide +kernel
theorem dX11_like_40 : decode cX11_like 40 = .ok (.imul, 1) := by decide +kernel
theorem dX11_like_41 : decode cX11_like 41 = .ok (.iload_n 2, 1) := by decide +kernel
theorem dX11_like_42 : decode cX11_like 42 = .ok (.iadd, 1) := by decide +kernel
theorem dX11_like_43 : decode cX11_like 43 = .ok (.iaload, 1) := by decide +kernel
theorem dX11_like_44 : decode cX11_like 44 = .ok (.iastore, 1) := by decide +kernel
theorem dX11_like_45 : decode cX11_like 45 = .ok (.iinc 2 1, 3) := by decide +kernel
theorem dX11_like_48 : decode cX11_like 48 = .ok (.goto (-26), 3) := by decide +kernel
theorem dX11_like_51 : decode cX11_like 51 = .ok (.aload_n 0, 1) := by decide +kernel
theorem dX11_like_52 : decode cX11_like 52 = .ok (.aload_n 0, 1) := by decide +kernel
theorem dX11_like_53 : decode cX11_like 53 = .ok (.getfield 71, 3) := by decide +kernel
theorem dX11_like_56 : decode cX11_like 56 = .ok (.invokevirtual 341, 3) := by decide +kernel
theorem dX11_like_59 : decode cX11_like 59 = .ok (.ireturn, 1) := by decide +kernel
theorem dX11_straights_0 : decode cX11_straights 0 = .ok (.iconst 0, 1) := by decide +kernel
theorem dX11_straights_1 : decode cX11_straights 1 = .ok (.istore_n 1, 1) := by decide +kernel
theorem dX11_straights_2 : decode cX11_straights 2 = .ok (.iload_n 1, 1) := by decide +kernel
theorem dX11_straights_3 : decode cX11_straights 3 = .ok (.aload_n 0, 1) := by decide +kernel
theorem dX11_straights_4 : decode cX11_straights 4 = .ok (.getfield 40, 3) := by decide +kernel
theorem dX11_straights_7 : decode cX11_straights 7 = .ok (.iconst 0, 1) := by decide +kernel
theorem dX11_straights_8 : decode cX11_straights 8 = .ok (.iaload, 1) := by decide +kernel
theorem dX11_straights_9 : decode cX11_straights 9 = .ok (.if_icmp .ge 27, 3) := by decide +kernel
theorem dX11_straights_12 : decode cX11_straights 12 = .ok (.aload_n 0, 1) := by decide +kernel
theorem dX11_straights_13 : decode cX11_straights 13 = .ok (.getfield 40, 3) := by decide +kernel
theorem dX11_straights_16 : decode cX11_straights 16 = .ok (.bipush 32, 2) := by decide +kernel
theorem dX11_straights_18 : decode cX11_straights 18 = .ok (.iload_n 1, 1) := by decide +kernel
theorem dX11_straights_19 : decode cX11_straights 19 = .ok (.iadd, 1) := by decide +kernel
theorem dX11_straights_20 : decode cX11_straights 20 = .ok (.iaload, 1) := by decide +kernel
theorem dX11_straights_21 : decode cX11_straights 21 = .ok (.iconst 2, 1) := by decide +kernel
theorem dX11_straights_22 : decode cX11_straights 22 = .ok (.irem, 1) := by decide +kernel
theorem dX11_straights_23 : decode cX11_straights 23 = .ok (.iconst 1, 1) := by decide +kernel
theorem dX11_straights_24 : decode cX11_straights 24 = .ok (.if_icmp .ne 6, 3) := by decide +kernel
theorem dX11_straights_27 : decode cX11_straights 27 = .ok (.bipush (-2), 2) := by decide +kernel
theorem dX11_straights_29 : decode cX11_straights 29 = .ok (.ireturn, 1) := by decide +kernel
theorem dX11_straights_30 : decode cX11_straights 30 = .ok (.iinc 1 1, 3) := by decide +kernel
theorem dX11_straights_33 : decode cX11_straights 33 = .ok (.goto (-31), 3) := by decide +kernel
theorem dX11_straights_36 : decode cX11_straights 36 = .ok (.iconst 0, 1) := by decide +kernel
theorem dX11_straights_37 : decode cX11_straights 37 = .ok (.istore_n 1, 1) := by decide +kernel
theorem dX11_straights_38 : decode cX11_straights 38 = .ok (.iconst 0, 1) := by decide +kernel
theorem dX11_straights_39 : decode cX11_straights 39 = .ok (.istore_n 2, 1) := by decide +kernel
theorem dX11_straights_40 : decode cX11_straights 40 = .ok (.iconst 0, 1) := by decide +kernel
theorem dX11_straights_41 : decode cX11_straights 41 = .ok (.istore_n 3, 1) := by decide +kernel
theorem dX11_straights_42 : decode cX11_straights 42 = .ok (.iload_n 3, 1) := by decide +kernel
theorem dX11_straights_43 : decode cX11_straights 43 = .ok (.iconst 2, 1) := by decide +kernel
theorem dX11_straights_44 : decode cX11_straights 44 = .ok (.aload_n 0, 1) := by decide +kernel
theorem dX11_straights_45 : decode cX11_straights 45 = .ok (.getfield 40, 3) := by decide +kernel
theorem dX11_straights_48 : decode cX11_straights 48 = .ok (.iconst 1, 1) := by decide +kernel
theorem dX11_straights_49 : decode cX11_straights 49 = .ok (.iaload, 1) := by decide +kernel
theorem dX11_straights_50 : decode cX11_straights 50 = .ok (.imul, 1) := by decide +kernel
theorem dX11_straights_51 : decode cX11_straights 51 = .ok (.if_icmp .ge 142, 3) := by decide +kernel
theorem dX11_straights_54 : decode cX11_straights 54 = .ok (.iload_n 1, 1) := by decide +kernel
theorem dX11_straights_55 : decode cX11_straights 55 = .ok (.iload_n 3, 1) := by decide +kernel
theorem dX11_straights_56 : decode cX11_straights 56 = .ok (.invokestatic 200, 3) := by decide +kernel
theorem dX11_straights_59 : decode cX11_straights 59 = .ok (.ifCond .eq 6, 3) := by decide +kernel
theorem dX11_straights_62 : decode cX11_straights 62 = .ok (.goto 125, 3) := by decide +kernel
theorem dX11_straights_65 : decode cX11_straights 65 = .ok (.iinc 2 1, 3) := by decide +kernel
theorem dX11_straights_68 : decode cX11_straights 68 = .ok (.iload_n 3, 1) := by decide +kernel
theorem dX11_straights_69 : decode cX11_straights 69 = .ok (.istore 4, 2) := by decide +kernel
theorem dX11_straights_71 : decode cX11_straights 71 = .ok (.iload_n 1, 1) := by decide +kernel
theorem dX11_straights_72 : decode cX11_straights 72 = .ok (.iload 4, 2) := by decide +kernel
theorem dX11_straights_74 : decode cX11_straights 74 = .ok (.invokestatic 200, 3) := by decide +kernel
theorem dX11_straights_77 : decode cX11_straights 77 = .ok (.ifCond .ne 110, 3) := by decide +kernel
theorem dX11_straights_80 : decode cX11_straights 80 = .ok (.iload_n 1, 1) := by decide +kernel
theorem dX11_straights_81 : decode cX11_straights 81 = .ok (.iconst 1, 1) := by decide +kernel
theorem dX11_straights_82 : decode cX11_straights 82 = .ok (.iload 4, 2) := by decide +kernel
theorem dX11_straights_84 : decode cX11_straights 84 = .ok (.ishl, 1) := by decide +kernel
theorem dX11_straights_85 : decode cX11_straights 85 = .ok (.iconst 1, 1) := by decide +kernel
theorem dX11_straights_86 : decode cX11_straights 86 = .ok (.iload 4, 2) := by decide +kernel
theorem dX11_straights_88 : decode cX11_straights 88 = .ok (.iconst 1, 1) := by decide +kernel
theorem dX11_straights_89 : decode cX11_straights 89 = .ok (.ixor, 1) := by decide +kernel
theorem dX11_straights_90 : decode cX11_straights 90 = .ok (.ishl, 1) := by decide +kernel
theorem dX11_straights_91 : decode cX11_straights 91 = .ok (.ior, 1) := by decide +kernel
theorem dX11_straights_92 : decode cX11_straights 92 = .ok (.ior, 1) := by decide +kernel
theorem dX11_straights_93 : decode cX11_straights 93 = .ok (.istore_n 1, 1) := by decide +kernel
theorem dX11_straights_94 : decode cX11_straights 94 = .ok (.aload_n 0, 1) := by decide +kernel
theorem dX11_straights_95 : decode cX11_straights 95 = .ok (.getfield 40, 3) := by decide +kernel
theorem dX11_straights_98 : decode cX11_straights 98 = .ok (.iconst 2, 1) := by decide +kernel
theorem dX11_straights_99 : decode cX11_straights 99 = .ok (.iload 4, 2) := by decide +kernel
theorem dX11_straights_101 : decode cX11_straights 101 = .ok (.iconst 1, 1) := by decide +kernel
theorem dX11_straights_102 : decode cX11_straights 102 = .ok (.ixor, 1) := by decide +kernel
theorem dX11_straights_103 : decode cX11_straights 103 = .ok (.iadd, 1) := by decide +kernel
theorem dX11_straights_104 : decode cX11_straights 104 = .ok (.iaload, 1) := by decide +kernel
theorem dX11_straights_105 : decode cX11_straights 105 = .ok (.istore 5, 2) := by decide +kernel
theorem dX11_straights_107 : decode cX11_straights 107 = .ok (.aload_n 0, 1) := by decide +kernel
theorem dX11_straights_108 : decode cX11_straights 108 = .ok (.getfield 40, 3) := by decide +kernel
theorem dX11_straights_111 : decode cX11_straights 111 = .ok (.bipush 32, 2) := by decide +kernel
theorem dX11_straights_113 : decode cX11_straights 113 = .ok (.iload 5, 2) := by decide +kernel
theorem dX11_straights_115 : decode cX11_straights 115 = .ok (.iadd, 1) := by decide +kernel
theorem dX11_straights_116 : decode cX11_straights 116 = .ok (.iaload, 1) := by decide +kernel
theorem dX11_straights_117 : decode cX11_straights 117 = .ok (.istore 6, 2) := by decide +kernel
theorem dX11_straights_119 : decode cX11_straights 119 = .ok (.aload_n 0, 1) := by decide +kernel
theorem dX11_straights_120 : decode cX11_straights 120 = .ok (.getfield 40, 3) := by decide +kernel
theorem dX11_straights_123 : decode cX11_straights 123 = .ok (.bipush 38, 2) := by decide +kernel
theorem dX11_straights_125 : decode cX11_straights 125 = .ok (.bipush 10, 2) := by decide +kernel
theorem dX11_straights_127 : decode cX11_straights 127 = .ok (.iload 5, 2) := by decide +kernel
theorem dX11_straights_129 : decode cX11_straights 129 = .ok (.imul, 1) := by decide +kernel
theorem dX11_straights_130 : decode cX11_straights 130 = .ok (.iadd, 1) := by decide +kernel
theorem dX11_straights_131 : decode cX11_straights 131 = .ok (.aload_n 0, 1) := by decide +kernel
theorem dX11_straights_132 : decode cX11_straights 132 = .ok (.getfield 40, 3) := by decide +kernel
theorem dX11_straights_135 : decode cX11_straights 135 = .ok (.iload 5, 2) := by decide +kernel
theorem dX11_straights_137 : decode cX11_straights 137 = .ok (.iload 4, 2) := by decide +kernel
theorem dX11_straights_139 : decode cX11_straights 139 = .ok (.iconst 2, 1) := by decide +kernel
theorem dX11_straights_140 : decode cX11_straights 140 = .ok (.idiv, 1) := by decide +kernel
theorem dX11_straights_141 : decode cX11_straights 141 = .ok (.invokestatic 211, 3) := by decide +kernel
theorem dX11_straights_144 : decode cX11_straights 144 = .ok (.iload 6, 2) := by decide +kernel
theorem dX11_straights_146 : decode cX11_straights 146 = .ok (.iconst 2, 1) := by decide +kernel
theorem dX11_straights_147 : decode cX11_straights 147 = .ok (.idiv, 1) := by decide +kernel
theorem dX11_straights_148 : decode cX11_straights 148 = .ok (.iadd, 1) := by decide +kernel
theorem dX11_straights_149 : decode cX11_straights 149 = .ok (.iload 6, 2) := by decide +kernel
theorem dX11_straights_151 : decode cX11_straights 151 = .ok (.irem, 1) := by decide +kernel
theorem dX11_straights_152 : decode cX11_straights 152 = .ok (.iadd, 1) := by decide +kernel
theorem dX11_straights_153 : decode cX11_straights 153 = .ok (.iaload, 1) := by decide +kernel
theorem dX11_straights_154 : decode cX11_straights 154 = .ok (.istore 7, 2) := by decide +kernel
theorem dX11_straights_156 : decode cX11_straights 156 = .ok (.iconst 2, 1) := by decide +kernel
theorem dX11_straights_157 : decode cX11_straights 157 = .ok (.iload 7, 2) := by decide +kernel
theorem dX11_straights_159 : decode cX11_straights 159 = .ok (.imul, 1) := by decide +kernel
theorem dX11_straights_160 : decode cX11_straights 160 = .ok (.aload_n 0, 1) := by decide +kernel
theorem dX11_straights_161 : decode cX11_straights 161 = .ok (.getfield 40, 3) := by decide +kernel
theorem dX11_straights_164 : decode cX11_straights 164 = .ok (.iconst 2, 1) := by decide +kernel
theorem dX11_straights_165 : decode cX11_straights 165 = .ok (.iconst 2, 1) := by decide +kernel
theorem dX11_straights_166 : decode cX11_straights 166 = .ok (.iload 7, 2) := by decide +kernel
theorem dX11_straights_168 : decode cX11_straights 168 = .ok (.imul, 1) := by decide +kernel
theorem dX11_straights_169 : decode cX11_straights 169 = .ok (.iadd, 1) := by decide +kernel
theorem dX11_straights_170 : decode cX11_straights 170 = .ok (.iaload, 1) := by decide +kernel
theorem dX11_straights_171 : decode cX11_straights 171 = .ok (.iload 5, 2) := by decide +kernel
theorem dX11_straights_173 : decode cX11_straights 173 = .ok (.if_icmp .ne 7, 3) := by decide +kernel
theorem dX11_straights_176 : decode cX11_straights 176 = .ok (.iconst 0, 1) := by decide +kernel
theorem dX11_straights_177 : decode cX11_straights 177 = .ok (.goto 4, 3) := by decide +kernel
theorem dX11_straights_180 : decode cX11_straights 180 = .ok (.iconst 1, 1) := by decide +kernel
theorem dX11_straights_181 : decode cX11_straights 181 = .ok (.iadd, 1) := by decide +kernel
theorem dX11_straights_182 : decode cX11_straights 182 = .ok (.istore 4, 2) := by decide +kernel
theorem dX11_straights_184 : decode cX11_straights 184 = .ok (.goto (-113), 3) := by decide +kernel
theorem dX11_straights_187 : decode cX11_straights 187 = .ok (.iinc 3 1, 3) := by decide +kernel
theorem dX11_straights_190 : decode cX11_straights 190 = .ok (.goto (-148), 3) := by decide +kernel
theorem dX11_straights_193 : decode cX11_straights 193 = .ok (.iload_n 2, 1) := by decide +kernel
theorem dX11_straights_194 : decode cX11_straights 194 = .ok (.ireturn, 1) := by decide +kernel
theorem dX11_longest_0 : decode cX11_longest 0 = .ok (.aload_n 0, 1) := by decide +kernel
theorem dX11_longest_1 : decode cX11_longest 1 = .ok (.aload_n 0, 1) := by decide +kernel
theorem dX11_longest_2 : decode cX11_longest 2 = .ok (.getfield 40, 3) := by decide +kernel
theorem dX11_longest_5 : decode cX11_longest 5 = .ok (.invokevirtual 257, 3) := by decide +kernel
theorem dX11_longest_8 : decode cX11_longest 8 = .ok (.istore_n 2, 1) := by decide +kernel
theorem dX11_longest_9 : decode cX11_longest 9 = .ok (.iload_n 2, 1) := by decide +kernel
theorem dX11_longest_10 : decode cX11_longest 10 = .ok (.ifCond .ne 7, 3) := by decide +kernel
theorem dX11_longest_13 : decode cX11_longest 13 = .ok (.iconst 0, 1) := by decide +kernel
theorem dX11_longest_14 : decode cX11_longest 14 = .ok (.goto 9, 3) := by decide +kernel
theorem dX11_longest_17 : decode cX11_longest 17 = .ok (.aload_n 0, 1) := by decide +kernel
theorem dX11_longest_18 : decode cX11_longest 18 = .ok (.getfield 65, 3) := by decide +kernel
theorem dX11_longest_21 : decode cX11_longest 21 = .ok (.iconst 0, 1) := by decide +kernel
theorem dX11_longest_22 : decode cX11_longest 22 = .ok (.iaload, 1) := by decide +kernel
theorem dX11_longest_23 : decode cX11_longest 23 = .ok (.istore_n 3, 1) := by decide +kernel
theorem dX11_longest_24 : decode cX11_longest 24 = .ok (.iconst 1, 1) := by decide +kernel
theorem dX11_longest_25 : decode cX11_longest 25 = .ok (.istore 4, 2) := by decide +kernel
theorem dX11_longest_27 : decode cX11_longest 27 = .ok (.iload 4, 2) := by decide +kernel
theorem dX11_longest_29 : decode cX11_longest 29 = .ok (.iload_n 2, 1) := by decide +kernel
theorem dX11_longest_30 : decode cX11_longest 30 = .ok (.if_icmp .ge 46, 3) := by decide +kernel
theorem dX11_longest_33 : decode cX11_longest 33 = .ok (.iload_n 1, 1) := by decide +kernel
theorem dX11_longest_34 : decode cX11_longest 34 = .ok (.ifCond .eq 17, 3) := by decide +kernel
theorem dX11_longest_37 : decode cX11_longest 37 = .ok (.aload_n 0, 1) := by decide +kernel
theorem dX11_longest_38 : decode cX11_longest 38 = .ok (.getfield 65, 3) := by decide +kernel
theorem dX11_longest_41 : decode cX11_longest 41 = .ok (.iload 4, 2) := by decide +kernel
theorem dX11_longest_43 : decode cX11_longest 43 = .ok (.iaload, 1) := by decide +kernel
theorem dX11_longest_44 : decode cX11_longest 44 = .ok (.iload_n 3, 1) := by decide +kernel
theorem dX11_longest_45 : decode cX11_longest 45 = .ok (.if_icmp .le 25, 3) := by decide +kernel
theorem dX11_longest_48 : decode cX11_longest 48 = .ok (.goto 14, 3) := by decide +kernel
theorem dX11_longest_51 : decode cX11_longest 51 = .ok (.aload_n 0, 1) := by decide +kernel
theorem dX11_longest_52 : decode cX11_longest 52 = .ok (.getfield 65, 3) := by decide +kernel
theorem dX11_longest_55 : decode cX11_longest 55 = .ok (.iload 4, 2) := by decide +kernel
theorem dX11_longest_57 : decode cX11_longest 57 = .ok (.iaload, 1) := by decide +kernel
theorem dX11_longest_58 : decode cX11_longest 58 = .ok (.iload_n 3, 1) := by decide +kernel
theorem dX11_longest_59 : decode cX11_longest 59 = .ok (.if_icmp .ge 11, 3) := by decide +kernel
theorem dX11_longest_62 : decode cX11_longest 62 = .ok (.aload_n 0, 1) := by decide +kernel
theorem dX11_longest_63 : decode cX11_longest 63 = .ok (.getfield 65, 3) := by decide +kernel
theorem dX11_longest_66 : decode cX11_longest 66 = .ok (.iload 4, 2) := by decide +kernel
theorem dX11_longest_68 : decode cX11_longest 68 = .ok (.iaload, 1) := by decide +kernel
theorem dX11_longest_69 : decode cX11_longest 69 = .ok (.istore_n 3, 1) := by decide +kernel
theorem dX11_longest_70 : decode cX11_longest 70 = .ok (.iinc 4 1, 3) := by decide +kernel
theorem dX11_longest_73 : decode cX11_longest 73 = .ok (.goto (-46), 3) := by decide +kernel
theorem dX11_longest_76 : decode cX11_longest 76 = .ok (.iload_n 3, 1) := by decide +kernel
theorem dX11_longest_77 : decode cX11_longest 77 = .ok (.ireturn, 1) := by decide +kernel
theorem dX11_twisted_0 : decode cX11_twisted 0 = .ok (.iconst 0, 1) := by decide +kernel
theorem dX11_twisted_1 : decode cX11_twisted 1 = .ok (.istore_n 1, 1) := by decide +kernel
theorem dX11_twisted_2 : decode cX11_twisted 2 = .ok (.iconst 0, 1) := by decide +kernel
theorem dX11_twisted_3 : decode cX11_twisted 3 = .ok (.istore_n 2, 1) := by decide +kernel
theorem dX11_twisted_4 : decode cX11_twisted 4 = .ok (.iload_n 2, 1) := by decide +kernel
theorem dX11_twisted_5 : decode cX11_twisted 5 = .ok (.aload_n 0, 1) := by decide +kernel
theorem dX11_twisted_6 : decode cX11_twisted 6 = .ok (.getfield 40, 3) := by decide +kernel
theorem dX11_twisted_9 : decode cX11_twisted 9 = .ok (.iconst 1, 1) := by decide +kernel
theorem dX11_twisted_10 : decode cX11_twisted 10 = .ok (.iaload, 1) := by decide +kernel
theorem dX11_twisted_11 : decode cX11_twisted 11 = .ok (.if_icmp .ge 28, 3) := by decide +kernel
theorem dX11_twisted_14 : decode cX11_twisted 14 = .ok (.aload_n 0, 1) := by decide +kernel
theorem dX11_twisted_15 : decode cX11_twisted 15 = .ok (.getfield 40, 3) := by decide +kernel
theorem dX11_twisted_18 : decode cX11_twisted 18 = .ok (.bipush 22, 2) := by decide +kernel
theorem dX11_twisted_20 : decode cX11_twisted 20 = .ok (.iload_n 2, 1) := by decide +kernel
theorem dX11_twisted_21 : decode cX11_twisted 21 = .ok (.iadd, 1) := by decide +kernel
theorem dX11_twisted_22 : decode cX11_twisted 22 = .ok (.iaload, 1) := by decide +kernel
theorem dX11_twisted_23 : decode cX11_twisted 23 = .ok (.iconst 1, 1) := by decide +kernel
theorem dX11_twisted_24 : decode cX11_twisted 24 = .ok (.if_icmp .ne 9, 3) := by decide +kernel
theorem dX11_twisted_27 : decode cX11_twisted 27 = .ok (.iload_n 1, 1) := by decide +kernel
theorem dX11_twisted_28 : decode cX11_twisted 28 = .ok (.iconst 1, 1) := by decide +kernel
theorem dX11_twisted_29 : decode cX11_twisted 29 = .ok (.iload_n 2, 1) := by decide +kernel
theorem dX11_twisted_30 : decode cX11_twisted 30 = .ok (.ishl, 1) := by decide +kernel
theorem dX11_twisted_31 : decode cX11_twisted 31 = .ok (.ior, 1) := by decide +kernel
theorem dX11_twisted_32 : decode cX11_twisted 32 = .ok (.istore_n 1, 1) := by decide +kernel
theorem dX11_twisted_33 : decode cX11_twisted 33 = .ok (.iinc 2 1, 3) := by decide +kernel
theorem dX11_twisted_36 : decode cX11_twisted 36 = .ok (.goto (-32), 3) := by decide +kernel
theorem dX11_twisted_39 : decode cX11_twisted 39 = .ok (.iload_n 1, 1) := by decide +kernel
theorem dX11_twisted_40 : decode cX11_twisted 40 = .ok (.ireturn, 1) := by decide +kernel
theorem dX11_oneSided_0 : decode cX11_oneSided 0 = .ok (.aload_n 0, 1) := by decide +kernel
theorem dX11_oneSided_1 : decode cX11_oneSided 1 = .ok (.aload_n 0, 1) := by decide +kernel
theorem dX11_oneSided_2 : decode cX11_oneSided 2 = .ok (.getfield 40, 3) := by decide +kernel
theorem dX11_oneSided_5 : decode cX11_oneSided 5 = .ok (.invokevirtual 257, 3) := by decide +kernel
theorem dX11_oneSided_8 : decode cX11_oneSided 8 = .ok (.istore_n 1, 1) := by decide +kernel
theorem dX11_oneSided_9 : decode cX11_oneSided 9 = .ok (.iconst 0, 1) := by decide +kernel
theorem dX11_oneSided_10 : decode cX11_oneSided 10 = .ok (.istore_n 2, 1) := by decide +kernel
theorem dX11_oneSided_11 : decode cX11_oneSided 11 = .ok (.iconst 0, 1) := by decide +kernel
theorem dX11_oneSided_12 : decode cX11_oneSided 12 = .ok (.istore_n 3, 1) := by decide +kernel
theorem dX11_oneSided_13 : decode cX11_oneSided 13 = .ok (.iload_n 3, 1) := by decide +kernel
theorem dX11_oneSided_14 : decode cX11_oneSided 14 = .ok (.aload_n 0, 1) := by decide +kernel
theorem dX11_oneSided_15 : decode cX11_oneSided 15 = .ok (.getfield 40, 3) := by decide +kernel
theorem dX11_oneSided_18 : decode cX11_oneSided 18 = .ok (.iconst 1, 1) := by decide +kernel
theorem dX11_oneSided_19 : decode cX11_oneSided 19 = .ok (.iaload, 1) := by decide +kernel
theorem dX11_oneSided_20 : decode cX11_oneSided 20 = .ok (.if_icmp .ge 37, 3) := by decide +kernel
theorem dX11_oneSided_23 : decode cX11_oneSided 23 = .ok (.aload_n 0, 1) := by decide +kernel
theorem dX11_oneSided_24 : decode cX11_oneSided 24 = .ok (.getfield 59, 3) := by decide +kernel
theorem dX11_oneSided_27 : decode cX11_oneSided 27 = .ok (.iconst 2, 1) := by decide +kernel
theorem dX11_oneSided_28 : decode cX11_oneSided 28 = .ok (.iload_n 3, 1) := by decide +kernel
theorem dX11_oneSided_29 : decode cX11_oneSided 29 = .ok (.imul, 1) := by decide +kernel
theorem dX11_oneSided_30 : decode cX11_oneSided 30 = .ok (.iaload, 1) := by decide +kernel
theorem dX11_oneSided_31 : decode cX11_oneSided 31 = .ok (.aload_n 0, 1) := by decide +kernel
theorem dX11_oneSided_32 : decode cX11_oneSided 32 = .ok (.getfield 59, 3) := by decide +kernel
theorem dX11_oneSided_35 : decode cX11_oneSided 35 = .ok (.iconst 2, 1) := by decide +kernel
theorem dX11_oneSided_36 : decode cX11_oneSided 36 = .ok (.iload_n 3, 1) := by decide +kernel
theorem dX11_oneSided_37 : decode cX11_oneSided 37 = .ok (.imul, 1) := by decide +kernel
theorem dX11_oneSided_38 : decode cX11_oneSided 38 = .ok (.bipush 20, 2) := by decide +kernel
theorem dX11_oneSided_40 : decode cX11_oneSided 40 = .ok (.iadd, 1) := by decide +kernel
theorem dX11_oneSided_41 : decode cX11_oneSided 41 = .ok (.iaload, 1) := by decide +kernel
theorem dX11_oneSided_42 : decode cX11_oneSided 42 = .ok (.if_icmp .ne 9, 3) := by decide +kernel
theorem dX11_oneSided_45 : decode cX11_oneSided 45 = .ok (.iload_n 2, 1) := by decide +kernel
theorem dX11_oneSided_46 : decode cX11_oneSided 46 = .ok (.iconst 1, 1) := by decide +kernel
theorem dX11_oneSided_47 : decode cX11_oneSided 47 = .ok (.iload_n 3, 1) := by decide +kernel
theorem dX11_oneSided_48 : decode cX11_oneSided 48 = .ok (.ishl, 1) := by decide +kernel
theorem dX11_oneSided_49 : decode cX11_oneSided 49 = .ok (.ior, 1) := by decide +kernel
theorem dX11_oneSided_50 : decode cX11_oneSided 50 = .ok (.istore_n 2, 1) := by decide +kernel
theorem dX11_oneSided_51 : decode cX11_oneSided 51 = .ok (.iinc 3 1, 3) := by decide +kernel
theorem dX11_oneSided_54 : decode cX11_oneSided 54 = .ok (.goto (-41), 3) := by decide +kernel
theorem dX11_oneSided_57 : decode cX11_oneSided 57 = .ok (.iload_n 2, 1) := by decide +kernel
theorem dX11_oneSided_58 : decode cX11_oneSided 58 = .ok (.ireturn, 1) := by decide +kernel
theorem dX11_ownLikes_0 : decode cX11_ownLikes 0 = .ok (.iconst 0, 1) := by decide +kernel
theorem dX11_ownLikes_1 : decode cX11_ownLikes 1 = .ok (.istore_n 1, 1) := by decide +kernel
theorem dX11_ownLikes_2 : decode cX11_ownLikes 2 = .ok (.iload_n 1, 1) := by decide +kernel
theorem dX11_ownLikes_3 : decode cX11_ownLikes 3 = .ok (.bipush 98, 2) := by decide +kernel
theorem dX11_ownLikes_5 : decode cX11_ownLikes 5 = .ok (.if_icmp .ge 21, 3) := by decide +kernel
theorem dX11_ownLikes_8 : decode cX11_ownLikes 8 = .ok (.aload_n 0, 1) := by decide +kernel
theorem dX11_ownLikes_9 : decode cX11_ownLikes 9 = .ok (.getfield 71, 3) := by decide +kernel
theorem dX11_ownLikes_12 : decode cX11_ownLikes 12 = .ok (.iload_n 1, 1) := by decide +kernel
theorem dX11_ownLikes_13 : decode cX11_ownLikes 13 = .ok (.aload_n 0, 1) := by decide +kernel
theorem dX11_ownLikes_14 : decode cX11_ownLikes 14 = .ok (.getfield 40, 3) := by decide +kernel
theorem dX11_ownLikes_17 : decode cX11_ownLikes 17 = .ok (.iload_n 1, 1) := by decide +kernel
theorem dX11_ownLikes_18 : decode cX11_ownLikes 18 = .ok (.iaload, 1) := by decide +kernel
theorem dX11_ownLikes_19 : decode cX11_ownLikes 19 = .ok (.iastore, 1) := by decide +kernel
theorem dX11_ownLikes_20 : decode cX11_ownLikes 20 = .ok (.iinc 1 1, 3) := by decide +kernel
theorem dX11_ownLikes_23 : decode cX11_ownLikes 23 = .ok (.goto (-21), 3) := by decide +kernel
theorem dX11_ownLikes_26 : decode cX11_ownLikes 26 = .ok (.aload_n 0, 1) := by decide +kernel
theorem dX11_ownLikes_27 : decode cX11_ownLikes 27 = .ok (.aload_n 0, 1) := by decide +kernel
theorem dX11_ownLikes_28 : decode cX11_ownLikes 28 = .ok (.getfield 71, 3) := by decide +kernel
theorem dX11_ownLikes_31 : decode cX11_ownLikes 31 = .ok (.invokevirtual 341, 3) := by decide +kernel
theorem dX11_ownLikes_34 : decode cX11_ownLikes 34 = .ok (.ireturn, 1) := by decide +kernel
theorem dX11_count_0 : decode cX11_count 0 = .ok (.iload_n 1, 1) := by decide +kernel
theorem dX11_count_1 : decode cX11_count 1 = .ok (.tableswitch 182 0 12 #[67, 74, 81, 90, 95, 101, 107, 112, 117, 122, 127, 132, 177], 67) := by decide +kernel
theorem dX11_count_68 : decode cX11_count 68 = .ok (.aload_n 0, 1) := by decide +kernel
theorem dX11_count_69 : decode cX11_count 69 = .ok (.getfield 40, 3) := by decide +kernel
theorem dX11_count_72 : decode cX11_count 72 = .ok (.iconst 0, 1) := by decide +kernel
theorem dX11_count_73 : decode cX11_count 73 = .ok (.iaload, 1) := by decide +kernel
theorem dX11_count_74 : decode cX11_count 74 = .ok (.ireturn, 1) := by decide +kernel
theorem dX11_count_75 : decode cX11_count 75 = .ok (.aload_n 0, 1) := by decide +kernel
theorem dX11_count_76 : decode cX11_count 76 = .ok (.getfield 40, 3) := by decide +kernel
theorem dX11_count_79 : decode cX11_count 79 = .ok (.iconst 1, 1) := by decide +kernel
theorem dX11_count_80 : decode cX11_count 80 = .ok (.iaload, 1) := by decide +kernel
theorem dX11_count_81 : decode cX11_count 81 = .ok (.ireturn, 1) := by decide +kernel
theorem dX11_count_82 : decode cX11_count 82 = .ok (.aload_n 0, 1) := by decide +kernel
theorem dX11_count_83 : decode cX11_count 83 = .ok (.aload_n 0, 1) := by decide +kernel
theorem dX11_count_84 : decode cX11_count 84 = .ok (.getfield 40, 3) := by decide +kernel
theorem dX11_count_87 : decode cX11_count 87 = .ok (.invokevirtual 257, 3) := by decide +kernel
theorem dX11_count_90 : decode cX11_count 90 = .ok (.ireturn, 1) := by decide +kernel
theorem dX11_count_91 : decode cX11_count 91 = .ok (.aload_n 0, 1) := by decide +kernel
theorem dX11_count_92 : decode cX11_count 92 = .ok (.invokevirtual 344, 3) := by decide +kernel
theorem dX11_count_95 : decode cX11_count 95 = .ok (.ireturn, 1) := by decide +kernel
theorem dX11_count_96 : decode cX11_count 96 = .ok (.aload_n 0, 1) := by decide +kernel
theorem dX11_count_97 : decode cX11_count 97 = .ok (.iconst 1, 1) := by decide +kernel
theorem dX11_count_98 : decode cX11_count 98 = .ok (.invokevirtual 347, 3) := by decide +kernel
theorem dX11_count_101 : decode cX11_count 101 = .ok (.ireturn, 1) := by decide +kernel
theorem dX11_count_102 : decode cX11_count 102 = .ok (.aload_n 0, 1) := by decide +kernel
theorem dX11_count_103 : decode cX11_count 103 = .ok (.iconst 0, 1) := by decide +kernel
theorem dX11_count_104 : decode cX11_count 104 = .ok (.invokevirtual 347, 3) := by decide +kernel
theorem dX11_count_107 : decode cX11_count 107 = .ok (.ireturn, 1) := by decide +kernel
theorem dX11_count_108 : decode cX11_count 108 = .ok (.aload_n 0, 1) := by decide +kernel
theorem dX11_count_109 : decode cX11_count 109 = .ok (.invokevirtual 351, 3) := by decide +kernel
theorem dX11_count_112 : decode cX11_count 112 = .ok (.ireturn, 1) := by decide +kernel
theorem dX11_count_113 : decode cX11_count 113 = .ok (.aload_n 0, 1) := by decide +kernel
theorem dX11_count_114 : decode cX11_count 114 = .ok (.invokevirtual 354, 3) := by decide +kernel
theorem dX11_count_117 : decode cX11_count 117 = .ok (.ireturn, 1) := by decide +kernel
theorem dX11_count_118 : decode cX11_count 118 = .ok (.aload_n 0, 1) := by decide +kernel
theorem dX11_count_119 : decode cX11_count 119 = .ok (.invokevirtual 357, 3) := by decide +kernel
theorem dX11_count_122 : decode cX11_count 122 = .ok (.ireturn, 1) := by decide +kernel
theorem dX11_count_123 : decode cX11_count 123 = .ok (.aload_n 0, 1) := by decide +kernel
theorem dX11_count_124 : decode cX11_count 124 = .ok (.getfield 99, 3) := by decide +kernel
theorem dX11_count_127 : decode cX11_count 127 = .ok (.ireturn, 1) := by decide +kernel
theorem dX11_count_128 : decode cX11_count 128 = .ok (.aload_n 0, 1) := by decide +kernel
theorem dX11_count_129 : decode cX11_count 129 = .ok (.getfield 176, 3) := by decide +kernel
theorem dX11_count_132 : decode cX11_count 132 = .ok (.ireturn, 1) := by decide +kernel
theorem dX11_count_133 : decode cX11_count 133 = .ok (.aload_n 0, 1) := by decide +kernel
theorem dX11_count_134 : decode cX11_count 134 = .ok (.getfield 55, 3) := by decide +kernel
theorem dX11_count_137 : decode cX11_count 137 = .ok (.iconst 0, 1) := by decide +kernel
theorem dX11_count_138 : decode cX11_count 138 = .ok (.baload, 1) := by decide +kernel
theorem dX11_count_139 : decode cX11_count 139 = .ok (.ifCond .eq 7, 3) := by decide +kernel
theorem dX11_count_142 : decode cX11_count 142 = .ok (.iconst 1, 1) := by decide +kernel
theorem dX11_count_143 : decode cX11_count 143 = .ok (.goto 4, 3) := by decide +kernel
theorem dX11_count_146 : decode cX11_count 146 = .ok (.iconst 0, 1) := by decide +kernel
theorem dX11_count_147 : decode cX11_count 147 = .ok (.aload_n 0, 1) := by decide +kernel
theorem dX11_count_148 : decode cX11_count 148 = .ok (.getfield 55, 3) := by decide +kernel
theorem dX11_count_151 : decode cX11_count 151 = .ok (.iconst 1, 1) := by decide +kernel
theorem dX11_count_152 : decode cX11_count 152 = .ok (.baload, 1) := by decide +kernel
theorem dX11_count_153 : decode cX11_count 153 = .ok (.ifCond .eq 7, 3) := by decide +kernel
theorem dX11_count_156 : decode cX11_count 156 = .ok (.iconst 1, 1) := by decide +kernel
theorem dX11_count_157 : decode cX11_count 157 = .ok (.goto 4, 3) := by decide +kernel
theorem dX11_count_160 : decode cX11_count 160 = .ok (.iconst 0, 1) := by decide +kernel
theorem dX11_count_161 : decode cX11_count 161 = .ok (.iadd, 1) := by decide +kernel
theorem dX11_count_162 : decode cX11_count 162 = .ok (.aload_n 0, 1) := by decide +kernel
theorem dX11_count_163 : decode cX11_count 163 = .ok (.getfield 55, 3) := by decide +kernel
theorem dX11_count_166 : decode cX11_count 166 = .ok (.iconst 2, 1) := by decide +kernel
theorem dX11_count_167 : decode cX11_count 167 = .ok (.baload, 1) := by decide +kernel
theorem dX11_count_168 : decode cX11_count 168 = .ok (.ifCond .eq 7, 3) := by decide +kernel
theorem dX11_count_171 : decode cX11_count 171 = .ok (.iconst 1, 1) := by decide +kernel
theorem dX11_count_172 : decode cX11_count 172 = .ok (.goto 4, 3) := by decide +kernel
theorem dX11_count_175 : decode cX11_count 175 = .ok (.iconst 0, 1) := by decide +kernel
theorem dX11_count_176 : decode cX11_count 176 = .ok (.iadd, 1) := by decide +kernel
theorem dX11_count_177 : decode cX11_count 177 = .ok (.ireturn, 1) := by decide +kernel
theorem dX11_count_178 : decode cX11_count 178 = .ok (.aload_n 0, 1) := by decide +kernel
theorem dX11_count_179 : decode cX11_count 179 = .ok (.invokevirtual 360, 3) := by decide +kernel
theorem dX11_count_182 : decode cX11_count 182 = .ok (.ireturn, 1) := by decide +kernel
theorem dX11_count_183 : decode cX11_count 183 = .ok (.iconst (-1), 1) := by decide +kernel
theorem dX11_count_184 : decode cX11_count 184 = .ok (.ireturn, 1) := by decide +kernel
