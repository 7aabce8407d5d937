theorem dX10_init_0 : decode cX10_init 0 = .ok (.aload_n 0, 1) := by decide +kernel
theorem dX10_init_1 : decode cX10_init 1 = .ok (.invokespecial 3, 3) := by decide +kernel
theorem dX10_init_4 : decode cX10_init 4 = .ok (.aload_n 0, 1) := by decide +kernel
theorem dX10_init_5 : decode cX10_init 5 = .ok (.new 9, 3) := by decide +kernel
theorem dX10_init_8 : decode cX10_init 8 = .ok (.dup, 1) := by decide +kernel
theorem dX10_init_9 : decode cX10_init 9 = .ok (.invokespecial 11, 3) := by decide +kernel
theorem dX10_init_12 : decode cX10_init 12 = .ok (.putfield 12, 3) := by decide +kernel
theorem dX10_init_15 : decode cX10_init 15 = .ok (.aload_n 0, 1) := by decide +kernel
theorem dX10_init_16 : decode cX10_init 16 = .ok (.new 9, 3) := by decide +kernel
theorem dX10_init_19 : decode cX10_init 19 = .ok (.dup, 1) := by decide +kernel
theorem dX10_init_20 : decode cX10_init 20 = .ok (.invokespecial 11, 3) := by decide +kernel
theorem dX10_init_23 : decode cX10_init 23 = .ok (.putfield 16, 3) := by decide +kernel
theorem dX10_init_26 : decode cX10_init 26 = .ok (.aload_n 0, 1) := by decide +kernel
theorem dX10_init_27 : decode cX10_init 27 = .ok (.new 19, 3) := by decide +kernel
theorem dX10_init_30 : decode cX10_init 30 = .ok (.dup, 1) := by decide +kernel
theorem dX10_init_31 : decode cX10_init 31 = .ok (.invokespecial 21, 3) := by decide +kernel
theorem dX10_init_34 : decode cX10_init 34 = .ok (.putfield 22, 3) := by decide +kernel
theorem dX10_init_37 : decode cX10_init 37 = .ok (.aload_n 0, 1) := by decide +kernel
theorem dX10_init_38 : decode cX10_init 38 = .ok (.new 26, 3) := by decide +kernel
theorem dX10_init_41 : decode cX10_init 41 = .ok (.dup, 1) := by decide +kernel
theorem dX10_init_42 : decode cX10_init 42 = .ok (.invokespecial 28, 3) := by decide +kernel
theorem dX10_init_45 : decode cX10_init 45 = .ok (.putfield 29, 3) := by decide +kernel
theorem dX10_init_48 : decode cX10_init 48 = .ok (.aload_n 0, 1) := by decide +kernel
theorem dX10_init_49 : decode cX10_init 49 = .ok (.new 33, 3) := by decide +kernel
theorem dX10_init_52 : decode cX10_init 52 = .ok (.dup, 1) := by decide +kernel
theorem dX10_init_53 : decode cX10_init 53 = .ok (.invokespecial 35, 3) := by decide +kernel
theorem dX10_init_56 : decode cX10_init 56 = .ok (.putfield 36, 3) := by decide +kernel
theorem dX10_init_59 : decode cX10_init 59 = .ok (.aload_n 0, 1) := by decide +kernel
theorem dX10_init_60 : decode cX10_init 60 = .ok (.new 33, 3) := by decide +kernel
theorem dX10_init_63 : decode cX10_init 63 = .ok (.dup, 1) := by decide +kernel
theorem dX10_init_64 : decode cX10_init 64 = .ok (.invokespecial 35, 3) := by decide +kernel
theorem dX10_init_67 : decode cX10_init 67 = .ok (.putfield 40, 3) := by decide +kernel
theorem dX10_init_70 : decode cX10_init 70 = .ok (.aload_n 0, 1) := by decide +kernel
theorem dX10_init_71 : decode cX10_init 71 = .ok (.new 43, 3) := by decide +kernel
theorem dX10_init_74 : decode cX10_init 74 = .ok (.dup, 1) := by decide +kernel
theorem dX10_init_75 : decode cX10_init 75 = .ok (.invokespecial 45, 3) := by decide +kernel
theorem dX10_init_78 : decode cX10_init 78 = .ok (.putfield 46, 3) := by decide +kernel
theorem dX10_init_81 : decode cX10_init 81 = .ok (.aload_n 0, 1) := by decide +kernel
theorem dX10_init_82 : decode cX10_init 82 = .ok (.new 50, 3) := by decide +kernel
theorem dX10_init_85 : decode cX10_init 85 = .ok (.dup, 1) := by decide +kernel
theorem dX10_init_86 : decode cX10_init 86 = .ok (.invokespecial 52, 3) := by decide +kernel
theorem dX10_init_89 : decode cX10_init 89 = .ok (.putfield 53, 3) := by decide +kernel
theorem dX10_init_92 : decode cX10_init 92 = .ok (.aload_n 0, 1) := by decide +kernel
theorem dX10_init_93 : decode cX10_init 93 = .ok (.new 57, 3) := by decide +kernel
theorem dX10_init_96 : decode cX10_init 96 = .ok (.dup, 1) := by decide +kernel
theorem dX10_init_97 : decode cX10_init 97 = .ok (.invokespecial 59, 3) := by decide +kernel
theorem dX10_init_100 : decode cX10_init 100 = .ok (.putfield 60, 3) := by decide +kernel
theorem dX10_init_103 : decode cX10_init 103 = .ok (.aload_n 0, 1) := by decide +kernel
theorem dX10_init_104 : decode cX10_init 104 = .ok (.new 64, 3) := by decide +kernel
theorem dX10_init_107 : decode cX10_init 107 = .ok (.dup, 1) := by decide +kernel
theorem dX10_init_108 : decode cX10_init 108 = .ok (.invokespecial 66, 3) := by decide +kernel
theorem dX10_init_111 : decode cX10_init 111 = .ok (.putfield 67, 3) := by decide +kernel
theorem dX10_init_114 : decode cX10_init 114 = .ok (.aload_n 0, 1) := by decide +kernel
theorem dX10_init_115 : decode cX10_init 115 = .ok (.new 71, 3) := by decide +kernel
theorem dX10_init_118 : decode cX10_init 118 = .ok (.dup, 1) := by decide +kernel
theorem dX10_init_119 : decode cX10_init 119 = .ok (.invokespecial 73, 3) := by decide +kernel
theorem dX10_init_122 : decode cX10_init 122 = .ok (.putfield 74, 3) := by decide +kernel
theorem dX10_init_125 : decode cX10_init 125 = .ok (.aload_n 0, 1) := by decide +kernel
theorem dX10_init_126 : decode cX10_init 126 = .ok (.new 78, 3) := by decide +kernel
theorem dX10_init_129 : decode cX10_init 129 = .ok (.dup, 1) := by decide +kernel
theorem dX10_init_130 : decode cX10_init 130 = .ok (.bipush 40, 2) := by decide +kernel
theorem dX10_init_132 : decode cX10_init 132 = .ok (.invokespecial 80, 3) := by decide +kernel
theorem dX10_init_135 : decode cX10_init 135 = .ok (.putfield 83, 3) := by decide +kernel
theorem dX10_init_138 : decode cX10_init 138 = .ok (.aload_n 0, 1) := by decide +kernel
theorem dX10_init_139 : decode cX10_init 139 = .ok (.new 78, 3) := by decide +kernel
theorem dX10_init_142 : decode cX10_init 142 = .ok (.dup, 1) := by decide +kernel
theorem dX10_init_143 : decode cX10_init 143 = .ok (.iconst 3, 1) := by decide +kernel
theorem dX10_init_144 : decode cX10_init 144 = .ok (.invokespecial 80, 3) := by decide +kernel
theorem dX10_init_147 : decode cX10_init 147 = .ok (.putfield 87, 3) := by decide +kernel
theorem dX10_init_150 : decode cX10_init 150 = .ok (.aload_n 0, 1) := by decide +kernel
theorem dX10_init_151 : decode cX10_init 151 = .ok (.iconst 0, 1) := by decide +kernel
theorem dX10_init_152 : decode cX10_init 152 = .ok (.putfield 90, 3) := by decide +kernel
theorem dX10_init_155 : decode cX10_init 155 = .ok (.aload_n 0, 1) := by decide +kernel
theorem dX10_init_156 : decode cX10_init 156 = .ok (.iconst 0, 1) := by decide +kernel
theorem dX10_init_157 : decode cX10_init 157 = .ok (.putfield 94, 3) := by decide +kernel
theorem dX10_init_160 : decode cX10_init 160 = .ok (.aload_n 0, 1) := by decide +kernel
theorem dX10_init_161 : decode cX10_init 161 = .ok (.iconst 0, 1) := by decide +kernel
theorem dX10_init_162 : decode cX10_init 162 = .ok (.putfield 97, 3) := by decide +kernel
theorem dX10_init_165 : decode cX10_init 165 = .ok (.aload_n 0, 1) := by decide +kernel
theorem dX10_init_166 : decode cX10_init 166 = .ok (.iconst (-1), 1) := by decide +kernel
theorem dX10_init_167 : decode cX10_init 167 = .ok (.putfield 100, 3) := by decide +kernel
theorem dX10_init_170 : decode cX10_init 170 = .ok (.aload_n 0, 1) := by decide +kernel
theorem dX10_init_171 : decode cX10_init 171 = .ok (.iconst 0, 1) := by decide +kernel
theorem dX10_init_172 : decode cX10_init 172 = .ok (.putfield 103, 3) := by decide +kernel
theorem dX10_init_175 : decode cX10_init 175 = .ok (.return_, 1) := by decide +kernel
theorem dX10_feed_0 : decode cX10_feed 0 = .ok (.aload_n 0, 1) := by decide +kernel
theorem dX10_feed_1 : decode cX10_feed 1 = .ok (.getfield 22, 3) := by decide +kernel
theorem dX10_feed_4 : decode cX10_feed 4 = .ok (.getfield 107, 3) := by decide +kernel
theorem dX10_feed_7 : decode cX10_feed 7 = .ok (.bipush 20, 2) := by decide +kernel
theorem dX10_feed_9 : decode cX10_feed 9 = .ok (.iadd, 1) := by decide +kernel
theorem dX10_feed_10 : decode cX10_feed 10 = .ok (.sipush 2000, 3) := by decide +kernel
theorem dX10_feed_13 : decode cX10_feed 13 = .ok (.if_icmp .le 5, 3) := by decide +kernel
theorem dX10_feed_16 : decode cX10_feed 16 = .ok (.iconst (-1), 1) := by decide +kernel
theorem dX10_feed_17 : decode cX10_feed 17 = .ok (.ireturn, 1) := by decide +kernel
theorem dX10_feed_18 : decode cX10_feed 18 = .ok (.aload_n 0, 1) := by decide +kernel
theorem dX10_feed_19 : decode cX10_feed 19 = .ok (.getfield 22, 3) := by decide +kernel
theorem dX10_feed_22 : decode cX10_feed 22 = .ok (.iload_n 1, 1) := by decide +kernel
theorem dX10_feed_23 : decode cX10_feed 23 = .ok (.invokevirtual 110, 3) := by decide +kernel
theorem dX10_feed_26 : decode cX10_feed 26 = .ok (.aload_n 0, 1) := by decide +kernel
theorem dX10_feed_27 : decode cX10_feed 27 = .ok (.getfield 22, 3) := by decide +kernel
theorem dX10_feed_30 : decode cX10_feed 30 = .ok (.iload_n 2, 1) := by decide +kernel
theorem dX10_feed_31 : decode cX10_feed 31 = .ok (.invokevirtual 110, 3) := by decide +kernel
theorem dX10_feed_34 : decode cX10_feed 34 = .ok (.aload_n 0, 1) := by decide +kernel
theorem dX10_feed_35 : decode cX10_feed 35 = .ok (.getfield 22, 3) := by decide +kernel
theorem dX10_feed_38 : decode cX10_feed 38 = .ok (.iload_n 3, 1) := by decide +kernel
theorem dX10_feed_39 : decode cX10_feed 39 = .ok (.invokevirtual 110, 3) := by decide +kernel
theorem dX10_feed_42 : decode cX10_feed 42 = .ok (.aload_n 0, 1) := by decide +kernel
theorem dX10_feed_43 : decode cX10_feed 43 = .ok (.getfield 22, 3) := by decide +kernel
theorem dX10_feed_46 : decode cX10_feed 46 = .ok (.iload 4, 2) := by decide +kernel
theorem dX10_feed_48 : decode cX10_feed 48 = .ok (.invokevirtual 110, 3) := by decide +kernel
theorem dX10_feed_51 : decode cX10_feed 51 = .ok (.aload_n 0, 1) := by decide +kernel
theorem dX10_feed_52 : decode cX10_feed 52 = .ok (.getfield 22, 3) := by decide +kernel
theorem dX10_feed_55 : decode cX10_feed 55 = .ok (.iload 5, 2) := by decide +kernel
theorem dX10_feed_57 : decode cX10_feed 57 = .ok (.invokevirtual 110, 3) := by decide +kernel
theorem dX10_feed_60 : decode cX10_feed 60 = .ok (.aload_n 0, 1) := by decide +kernel
theorem dX10_feed_61 : decode cX10_feed 61 = .ok (.getfield 22, 3) := by decide +kernel
theorem dX10_feed_64 : decode cX10_feed 64 = .ok (.getfield 107, 3) := by decide +kernel
theorem dX10_feed_67 : decode cX10_feed 67 = .ok (.ireturn, 1) := by decide +kernel
theorem dX10_back_0 : decode cX10_back 0 = .ok (.iload_n 1, 1) := by decide +kernel
theorem dX10_back_1 : decode cX10_back 1 = .ok (.ifCond .lt 14, 3) := by decide +kernel
theorem dX10_back_4 : decode cX10_back 4 = .ok (.iload_n 1, 1) := by decide +kernel
theorem dX10_back_5 : decode cX10_back 5 = .ok (.aload_n 0, 1) := by decide +kernel
theorem dX10_back_6 : decode cX10_back 6 = .ok (.getfield 22, 3) := by decide +kernel
theorem dX10_back_9 : decode cX10_back 9 = .ok (.getfield 107, 3) := by decide +kernel
theorem dX10_back_12 : decode cX10_back 12 = .ok (.if_icmp .le 5, 3) := by decide +kernel
theorem dX10_back_15 : decode cX10_back 15 = .ok (.iconst (-1), 1) := by decide +kernel
theorem dX10_back_16 : decode cX10_back 16 = .ok (.ireturn, 1) := by decide +kernel
theorem dX10_back_17 : decode cX10_back 17 = .ok (.aload_n 0, 1) := by decide +kernel
theorem dX10_back_18 : decode cX10_back 18 = .ok (.getfield 22, 3) := by decide +kernel
theorem dX10_back_21 : decode cX10_back 21 = .ok (.dup, 1) := by decide +kernel
theorem dX10_back_22 : decode cX10_back 22 = .ok (.getfield 107, 3) := by decide +kernel
theorem dX10_back_25 : decode cX10_back 25 = .ok (.iload_n 1, 1) := by decide +kernel
theorem dX10_back_26 : decode cX10_back 26 = .ok (.isub, 1) := by decide +kernel
theorem dX10_back_27 : decode cX10_back 27 = .ok (.putfield 107, 3) := by decide +kernel
theorem dX10_back_30 : decode cX10_back 30 = .ok (.aload_n 0, 1) := by decide +kernel
theorem dX10_back_31 : decode cX10_back 31 = .ok (.getfield 22, 3) := by decide +kernel
theorem dX10_back_34 : decode cX10_back 34 = .ok (.getfield 107, 3) := by decide +kernel
theorem dX10_back_37 : decode cX10_back 37 = .ok (.ireturn, 1) := by decide +kernel
theorem dX10_read_0 : decode cX10_read 0 = .ok (.aload_n 0, 1) := by decide +kernel
theorem dX10_read_1 : decode cX10_read 1 = .ok (.getfield 22, 3) := by decide +kernel
theorem dX10_read_4 : decode cX10_read 4 = .ok (.invokevirtual 113, 3) := by decide +kernel
theorem dX10_read_7 : decode cX10_read 7 = .ok (.aload_n 0, 1) := by decide +kernel
theorem dX10_read_8 : decode cX10_read 8 = .ok (.getfield 22, 3) := by decide +kernel
theorem dX10_read_11 : decode cX10_read 11 = .ok (.getfield 116, 3) := by decide +kernel
theorem dX10_read_14 : decode cX10_read 14 = .ok (.istore_n 1, 1) := by decide +kernel
theorem dX10_read_15 : decode cX10_read 15 = .ok (.aload_n 0, 1) := by decide +kernel
theorem dX10_read_16 : decode cX10_read 16 = .ok (.aload_n 0, 1) := by decide +kernel
theorem dX10_read_17 : decode cX10_read 17 = .ok (.getfield 22, 3) := by decide +kernel
theorem dX10_read_20 : decode cX10_read 20 = .ok (.getfield 119, 3) := by decide +kernel
theorem dX10_read_23 : decode cX10_read 23 = .ok (.putfield 100, 3) := by decide +kernel
theorem dX10_read_26 : decode cX10_read 26 = .ok (.iload_n 1, 1) := by decide +kernel
theorem dX10_read_27 : decode cX10_read 27 = .ok (.ifCond .ne 26, 3) := by decide +kernel
theorem dX10_read_30 : decode cX10_read 30 = .ok (.aload_n 0, 1) := by decide +kernel
theorem dX10_read_31 : decode cX10_read 31 = .ok (.getfield 29, 3) := by decide +kernel
theorem dX10_read_34 : decode cX10_read 34 = .ok (.aload_n 0, 1) := by decide +kernel
theorem dX10_read_35 : decode cX10_read 35 = .ok (.getfield 22, 3) := by decide +kernel
theorem dX10_read_38 : decode cX10_read 38 = .ok (.invokevirtual 120, 3) := by decide +kernel
theorem dX10_read_41 : decode cX10_read 41 = .ok (.istore_n 1, 1) := by decide +kernel
theorem dX10_read_42 : decode cX10_read 42 = .ok (.aload_n 0, 1) := by decide +kernel
theorem dX10_read_43 : decode cX10_read 43 = .ok (.aload_n 0, 1) := by decide +kernel
theorem dX10_read_44 : decode cX10_read 44 = .ok (.getfield 29, 3) := by decide +kernel
theorem dX10_read_47 : decode cX10_read 47 = .ok (.getfield 124, 3) := by decide +kernel
theorem dX10_read_50 : decode cX10_read 50 = .ok (.putfield 100, 3) := by decide +kernel
theorem dX10_read_53 : decode cX10_read 53 = .ok (.iload_n 1, 1) := by decide +kernel
theorem dX10_read_54 : decode cX10_read 54 = .ok (.ifCond .ne 32, 3) := by decide +kernel
theorem dX10_read_57 : decode cX10_read 57 = .ok (.aload_n 0, 1) := by decide +kernel
theorem dX10_read_58 : decode cX10_read 58 = .ok (.getfield 29, 3) := by decide +kernel
theorem dX10_read_61 : decode cX10_read 61 = .ok (.aload_n 0, 1) := by decide +kernel
theorem dX10_read_62 : decode cX10_read 62 = .ok (.getfield 22, 3) := by decide +kernel
theorem dX10_read_65 : decode cX10_read 65 = .ok (.aload_n 0, 1) := by decide +kernel
theorem dX10_read_66 : decode cX10_read 66 = .ok (.getfield 12, 3) := by decide +kernel
theorem dX10_read_69 : decode cX10_read 69 = .ok (.invokevirtual 125, 3) := by decide +kernel
theorem dX10_read_72 : decode cX10_read 72 = .ok (.aload_n 0, 1) := by decide +kernel
theorem dX10_read_73 : decode cX10_read 73 = .ok (.invokevirtual 129, 3) := by decide +kernel
theorem dX10_read_76 : decode cX10_read 76 = .ok (.aload_n 0, 1) := by decide +kernel
theorem dX10_read_77 : decode cX10_read 77 = .ok (.iconst 0, 1) := by decide +kernel
theorem dX10_read_78 : decode cX10_read 78 = .ok (.putfield 97, 3) := by decide +kernel
theorem dX10_read_81 : decode cX10_read 81 = .ok (.aload_n 0, 1) := by decide +kernel
theorem dX10_read_82 : decode cX10_read 82 = .ok (.iconst 0, 1) := by decide +kernel
theorem dX10_read_83 : decode cX10_read 83 = .ok (.putfield 103, 3) := by decide +kernel
theorem dX10_read_86 : decode cX10_read 86 = .ok (.aload_n 0, 1) := by decide +kernel
theorem dX10_read_87 : decode cX10_read 87 = .ok (.getfield 22, 3) := by decide +kernel
theorem dX10_read_90 : decode cX10_read 90 = .ok (.iconst 0, 1) := by decide +kernel
theorem dX10_read_91 : decode cX10_read 91 = .ok (.putfield 107, 3) := by decide +kernel
theorem dX10_read_94 : decode cX10_read 94 = .ok (.iload_n 1, 1) := by decide +kernel
theorem dX10_read_95 : decode cX10_read 95 = .ok (.ireturn, 1) := by decide +kernel
theorem dX10_place_0 : decode cX10_place 0 = .ok (.aload_n 0, 1) := by decide +kernel
theorem dX10_place_1 : decode cX10_place 1 = .ok (.getfield 100, 3) := by decide +kernel
theorem dX10_place_4 : decode cX10_place 4 = .ok (.ireturn, 1) := by decide +kernel
theorem dX10_lay_0 : decode cX10_lay 0 = .ok (.aload_n 0, 1) := by decide +kernel
theorem dX10_lay_1 : decode cX10_lay 1 = .ok (.getfield 12, 3) := by decide +kernel
theorem dX10_lay_4 : decode cX10_lay 4 = .ok (.getfield 132, 3) := by decide +kernel
theorem dX10_lay_7 : decode cX10_lay 7 = .ok (.bipush 10, 2) := by decide +kernel
theorem dX10_lay_9 : decode cX10_lay 9 = .ok (.if_icmp .ge 33, 3) := by decide +kernel
theorem dX10_lay_12 : decode cX10_lay 12 = .ok (.iload_n 1, 1) := by decide +kernel
theorem dX10_lay_13 : decode cX10_lay 13 = .ok (.iload_n 3, 1) := by decide +kernel
theorem dX10_lay_14 : decode cX10_lay 14 = .ok (.if_icmp .eq 28, 3) := by decide +kernel
theorem dX10_lay_17 : decode cX10_lay 17 = .ok (.aload_n 0, 1) := by decide +kernel
theorem dX10_lay_18 : decode cX10_lay 18 = .ok (.getfield 12, 3) := by decide +kernel
theorem dX10_lay_21 : decode cX10_lay 21 = .ok (.iload_n 1, 1) := by decide +kernel
theorem dX10_lay_22 : decode cX10_lay 22 = .ok (.iload_n 2, 1) := by decide +kernel
theorem dX10_lay_23 : decode cX10_lay 23 = .ok (.invokevirtual 135, 3) := by decide +kernel
theorem dX10_lay_26 : decode cX10_lay 26 = .ok (.ifCond .eq 16, 3) := by decide +kernel
theorem dX10_lay_29 : decode cX10_lay 29 = .ok (.aload_n 0, 1) := by decide +kernel
theorem dX10_lay_30 : decode cX10_lay 30 = .ok (.getfield 12, 3) := by decide +kernel
theorem dX10_lay_33 : decode cX10_lay 33 = .ok (.iload_n 3, 1) := by decide +kernel
theorem dX10_lay_34 : decode cX10_lay 34 = .ok (.iload 4, 2) := by decide +kernel
theorem dX10_lay_36 : decode cX10_lay 36 = .ok (.invokevirtual 135, 3) := by decide +kernel
theorem dX10_lay_39 : decode cX10_lay 39 = .ok (.ifCond .ne 5, 3) := by decide +kernel
theorem dX10_lay_42 : decode cX10_lay 42 = .ok (.iconst (-1), 1) := by decide +kernel
theorem dX10_lay_43 : decode cX10_lay 43 = .ok (.ireturn, 1) := by decide +kernel
theorem dX10_lay_44 : decode cX10_lay 44 = .ok (.aload_n 0, 1) := by decide +kernel
theorem dX10_lay_45 : decode cX10_lay 45 = .ok (.invokevirtual 139, 3) := by decide +kernel
theorem dX10_lay_48 : decode cX10_lay 48 = .ok (.aload_n 0, 1) := by decide +kernel
theorem dX10_lay_49 : decode cX10_lay 49 = .ok (.getfield 12, 3) := by decide +kernel
theorem dX10_lay_52 : decode cX10_lay 52 = .ok (.iload_n 1, 1) := by decide +kernel
theorem dX10_lay_53 : decode cX10_lay 53 = .ok (.iload_n 2, 1) := by decide +kernel
theorem dX10_lay_54 : decode cX10_lay 54 = .ok (.iload_n 3, 1) := by decide +kernel
theorem dX10_lay_55 : decode cX10_lay 55 = .ok (.iload 4, 2) := by decide +kernel
theorem dX10_lay_57 : decode cX10_lay 57 = .ok (.iload 5, 2) := by decide +kernel
theorem dX10_lay_59 : decode cX10_lay 59 = .ok (.invokevirtual 142, 3) := by decide +kernel
theorem dX10_lay_62 : decode cX10_lay 62 = .ok (.ireturn, 1) := by decide +kernel
theorem dX10_goes_0 : decode cX10_goes 0 = .ok (.aload_n 0, 1) := by decide +kernel
theorem dX10_goes_1 : decode cX10_goes 1 = .ok (.getfield 12, 3) := by decide +kernel
theorem dX10_goes_4 : decode cX10_goes 4 = .ok (.iload_n 1, 1) := by decide +kernel
theorem dX10_goes_5 : decode cX10_goes 5 = .ok (.invokevirtual 146, 3) := by decide +kernel
theorem dX10_goes_8 : decode cX10_goes 8 = .ok (.ifCond .ne 5, 3) := by decide +kernel
theorem dX10_goes_11 : decode cX10_goes 11 = .ok (.iconst 0, 1) := by decide +kernel
theorem dX10_goes_12 : decode cX10_goes 12 = .ok (.ireturn, 1) := by decide +kernel
theorem dX10_goes_13 : decode cX10_goes 13 = .ok (.aload_n 0, 1) := by decide +kernel
theorem dX10_goes_14 : decode cX10_goes 14 = .ok (.invokevirtual 139, 3) := by decide +kernel
theorem dX10_goes_17 : decode cX10_goes 17 = .ok (.aload_n 0, 1) := by decide +kernel
theorem dX10_goes_18 : decode cX10_goes 18 = .ok (.getfield 12, 3) := by decide +kernel
theorem dX10_goes_21 : decode cX10_goes 21 = .ok (.iload_n 1, 1) := by decide +kernel
theorem dX10_goes_22 : decode cX10_goes 22 = .ok (.invokevirtual 150, 3) := by decide +kernel
theorem dX10_goes_25 : decode cX10_goes 25 = .ok (.iconst 1, 1) := by decide +kernel
theorem dX10_goes_26 : decode cX10_goes 26 = .ok (.ireturn, 1) := by decide +kernel
theorem dX10_twist_0 : decode cX10_twist 0 = .ok (.aload_n 0, 1) := by decide +kernel
theorem dX10_twist_1 : decode cX10_twist 1 = .ok (.getfield 12, 3) := by decide +kernel
theorem dX10_twist_4 : decode cX10_twist 4 = .ok (.iload_n 1, 1) := by decide +kernel
theorem dX10_twist_5 : decode cX10_twist 5 = .ok (.invokevirtual 146, 3) := by decide +kernel
theorem dX10_twist_8 : decode cX10_twist 8 = .ok (.ifCond .ne 5, 3) := by decide +kernel
theorem dX10_twist_11 : decode cX10_twist 11 = .ok (.iconst 0, 1) := by decide +kernel
theorem dX10_twist_12 : decode cX10_twist 12 = .ok (.ireturn, 1) := by decide +kernel
theorem dX10_twist_13 : decode cX10_twist 13 = .ok (.aload_n 0, 1) := by decide +kernel
theorem dX10_twist_14 : decode cX10_twist 14 = .ok (.invokevirtual 139, 3) := by decide +kernel
theorem dX10_twist_17 : decode cX10_twist 17 = .ok (.aload_n 0, 1) := by decide +kernel
theorem dX10_twist_18 : decode cX10_twist 18 = .ok (.getfield 12, 3) := by decide +kernel
theorem dX10_twist_21 : decode cX10_twist 21 = .ok (.dup, 1) := by decide +kernel
theorem dX10_twist_22 : decode cX10_twist 22 = .ok (.getfield 153, 3) := by decide +kernel
theorem dX10_twist_25 : decode cX10_twist 25 = .ok (.iconst 1, 1) := by decide +kernel
theorem dX10_twist_26 : decode cX10_twist 26 = .ok (.iload_n 1, 1) := by decide +kernel
theorem dX10_twist_27 : decode cX10_twist 27 = .ok (.ishl, 1) := by decide +kernel
theorem dX10_twist_28 : decode cX10_twist 28 = .ok (.ixor, 1) := by decide +kernel
theorem dX10_twist_29 : decode cX10_twist 29 = .ok (.putfield 153, 3) := by decide +kernel
theorem dX10_twist_32 : decode cX10_twist 32 = .ok (.iconst 1, 1) := by decide +kernel
theorem dX10_twist_33 : decode cX10_twist 33 = .ok (.ireturn, 1) := by decide +kernel
theorem dX10_flip_0 : decode cX10_flip 0 = .ok (.aload_n 0, 1) := by decide +kernel
theorem dX10_flip_1 : decode cX10_flip 1 = .ok (.getfield 12, 3) := by decide +kernel
theorem dX10_flip_4 : decode cX10_flip 4 = .ok (.iload_n 1, 1) := by decide +kernel
theorem dX10_flip_5 : decode cX10_flip 5 = .ok (.invokevirtual 156, 3) := by decide +kernel
theorem dX10_flip_8 : decode cX10_flip 8 = .ok (.ifCond .ne 5, 3) := by decide +kernel
theorem dX10_flip_11 : decode cX10_flip 11 = .ok (.iconst 0, 1) := by decide +kernel
theorem dX10_flip_12 : decode cX10_flip 12 = .ok (.ireturn, 1) := by decide +kernel
theorem dX10_flip_13 : decode cX10_flip 13 = .ok (.aload_n 0, 1) := by decide +kernel
theorem dX10_flip_14 : decode cX10_flip 14 = .ok (.invokevirtual 139, 3) := by decide +kernel
theorem dX10_flip_17 : decode cX10_flip 17 = .ok (.aload_n 0, 1) := by decide +kernel
theorem dX10_flip_18 : decode cX10_flip 18 = .ok (.getfield 12, 3) := by decide +kernel
theorem dX10_flip_21 : decode cX10_flip 21 = .ok (.iload_n 1, 1) := by decide +kernel
theorem dX10_flip_22 : decode cX10_flip 22 = .ok (.invokevirtual 159, 3) := by decide +kernel
theorem dX10_flip_25 : decode cX10_flip 25 = .ok (.iconst 1, 1) := by decide +kernel
theorem dX10_flip_26 : decode cX10_flip 26 = .ok (.ireturn, 1) := by decide +kernel
theorem dX10_exchange_0 : decode cX10_exchange 0 = .ok (.aload_n 0, 1) := by decide +kernel
theorem dX10_exchange_1 : decode cX10_exchange 1 = .ok (.getfield 12, 3) := by decide +kernel
theorem dX10_exchange_4 : decode cX10_exchange 4 = .ok (.iload_n 1, 1) := by decide +kernel
theorem dX10_exchange_5 : decode cX10_exchange 5 = .ok (.invokevirtual 156, 3) := by decide +kernel
theorem dX10_exchange_8 : decode cX10_exchange 8 = .ok (.ifCond .eq 33, 3) := by decide +kernel
theorem dX10_exchange_11 : decode cX10_exchange 11 = .ok (.aload_n 0, 1) := by decide +kernel
theorem dX10_exchange_12 : decode cX10_exchange 12 = .ok (.getfield 12, 3) := by decide +kernel
theorem dX10_exchange_15 : decode cX10_exchange 15 = .ok (.getfield 162, 3) := by decide +kernel
theorem dX10_exchange_18 : decode cX10_exchange 18 = .ok (.iload_n 1, 1) := by decide +kernel
theorem dX10_exchange_19 : decode cX10_exchange 19 = .ok (.iaload, 1) := by decide +kernel
theorem dX10_exchange_20 : decode cX10_exchange 20 = .ok (.iconst 3, 1) := by decide +kernel
theorem dX10_exchange_21 : decode cX10_exchange 21 = .ok (.if_icmp .lt 20, 3) := by decide +kernel
theorem dX10_exchange_24 : decode cX10_exchange 24 = .ok (.iload_n 2, 1) := by decide +kernel
theorem dX10_exchange_25 : decode cX10_exchange 25 = .ok (.ifCond .lt 16, 3) := by decide +kernel
theorem dX10_exchange_28 : decode cX10_exchange 28 = .ok (.iload_n 2, 1) := by decide +kernel
theorem dX10_exchange_29 : decode cX10_exchange 29 = .ok (.aload_n 0, 1) := by decide +kernel
theorem dX10_exchange_30 : decode cX10_exchange 30 = .ok (.getfield 12, 3) := by decide +kernel
theorem dX10_exchange_33 : decode cX10_exchange 33 = .ok (.getfield 162, 3) := by decide +kernel
theorem dX10_exchange_36 : decode cX10_exchange 36 = .ok (.iload_n 1, 1) := by decide +kernel
theorem dX10_exchange_37 : decode cX10_exchange 37 = .ok (.iaload, 1) := by decide +kernel
theorem dX10_exchange_38 : decode cX10_exchange 38 = .ok (.if_icmp .lt 5, 3) := by decide +kernel
theorem dX10_exchange_41 : decode cX10_exchange 41 = .ok (.iconst 0, 1) := by decide +kernel
theorem dX10_exchange_42 : decode cX10_exchange 42 = .ok (.ireturn, 1) := by decide +kernel
theorem dX10_exchange_43 : decode cX10_exchange 43 = .ok (.aload_n 0, 1) := by decide +kernel
theorem dX10_exchange_44 : decode cX10_exchange 44 = .ok (.invokevirtual 139, 3) := by decide +kernel
theorem dX10_exchange_47 : decode cX10_exchange 47 = .ok (.aload_n 0, 1) := by decide +kernel
theorem dX10_exchange_48 : decode cX10_exchange 48 = .ok (.getfield 12, 3) := by decide +kernel
theorem dX10_exchange_51 : decode cX10_exchange 51 = .ok (.iload_n 1, 1) := by decide +kernel
theorem dX10_exchange_52 : decode cX10_exchange 52 = .ok (.iload_n 2, 1) := by decide +kernel
theorem dX10_exchange_53 : decode cX10_exchange 53 = .ok (.invokevirtual 166, 3) := by decide +kernel
theorem dX10_exchange_56 : decode cX10_exchange 56 = .ok (.iconst 1, 1) := by decide +kernel
theorem dX10_exchange_57 : decode cX10_exchange 57 = .ok (.ireturn, 1) := by decide +kernel
theorem dX10_lessen_0 : decode cX10_lessen 0 = .ok (.aload_n 0, 1) := by decide +kernel
theorem dX10_lessen_1 : decode cX10_lessen 1 = .ok (.getfield 12, 3) := by decide +kernel
theorem dX10_lessen_4 : decode cX10_lessen 4 = .ok (.invokestatic 170, 3) := by decide +kernel
theorem dX10_lessen_7 : decode cX10_lessen 7 = .ok (.ldc2_w 174, 3) := by decide +kernel
theorem dX10_lessen_10 : decode cX10_lessen 10 = .ok (.lcmp, 1) := by decide +kernel
theorem dX10_lessen_11 : decode cX10_lessen 11 = .ok (.ifCond .le 5, 3) := by decide +kernel
theorem dX10_lessen_14 : decode cX10_lessen 14 = .ok (.iconst (-1), 1) := by decide +kernel
theorem dX10_lessen_15 : decode cX10_lessen 15 = .ok (.ireturn, 1) := by decide +kernel
theorem dX10_lessen_16 : decode cX10_lessen 16 = .ok (.aload_n 0, 1) := by decide +kernel
theorem dX10_lessen_17 : decode cX10_lessen 17 = .ok (.invokevirtual 139, 3) := by decide +kernel
theorem dX10_lessen_20 : decode cX10_lessen 20 = .ok (.aload_n 0, 1) := by decide +kernel
theorem dX10_lessen_21 : decode cX10_lessen 21 = .ok (.getfield 53, 3) := by decide +kernel
theorem dX10_lessen_24 : decode cX10_lessen 24 = .ok (.aload_n 0, 1) := by decide +kernel
theorem dX10_lessen_25 : decode cX10_lessen 25 = .ok (.getfield 12, 3) := by decide +kernel
theorem dX10_lessen_28 : decode cX10_lessen 28 = .ok (.invokevirtual 176, 3) := by decide +kernel
theorem dX10_lessen_31 : decode cX10_lessen 31 = .ok (.aload_n 0, 1) := by decide +kernel
theorem dX10_lessen_32 : decode cX10_lessen 32 = .ok (.getfield 53, 3) := by decide +kernel
theorem dX10_lessen_35 : decode cX10_lessen 35 = .ok (.aload_n 0, 1) := by decide +kernel
theorem dX10_lessen_36 : decode cX10_lessen 36 = .ok (.getfield 12, 3) := by decide +kernel
theorem dX10_lessen_39 : decode cX10_lessen 39 = .ok (.aload_n 0, 1) := by decide +kernel
theorem dX10_lessen_40 : decode cX10_lessen 40 = .ok (.getfield 53, 3) := by decide +kernel
theorem dX10_lessen_43 : decode cX10_lessen 43 = .ok (.getfield 180, 3) := by decide +kernel
theorem dX10_lessen_46 : decode cX10_lessen 46 = .ok (.invokevirtual 183, 3) := by decide +kernel
theorem dX10_lessen_49 : decode cX10_lessen 49 = .ok (.aload_n 0, 1) := by decide +kernel
theorem dX10_lessen_50 : decode cX10_lessen 50 = .ok (.getfield 53, 3) := by decide +kernel
theorem dX10_lessen_53 : decode cX10_lessen 53 = .ok (.getfield 187, 3) := by decide +kernel
theorem dX10_lessen_56 : decode cX10_lessen 56 = .ok (.ireturn, 1) := by decide +kernel
theorem dX10_dual_0 : decode cX10_dual 0 = .ok (.aload_n 0, 1) := by decide +kernel
theorem dX10_dual_1 : decode cX10_dual 1 = .ok (.invokevirtual 190, 3) := by decide +kernel
theorem dX10_dual_4 : decode cX10_dual 4 = .ok (.astore_n 1, 1) := by decide +kernel
theorem dX10_dual_5 : decode cX10_dual 5 = .ok (.aload_n 0, 1) := by decide +kernel
theorem dX10_dual_6 : decode cX10_dual 6 = .ok (.aload_n 1, 1) := by decide +kernel
theorem dX10_dual_7 : decode cX10_dual 7 = .ok (.invokevirtual 194, 3) := by decide +kernel
theorem dX10_dual_10 : decode cX10_dual 10 = .ok (.ifCond .ne 5, 3) := by decide +kernel
theorem dX10_dual_13 : decode cX10_dual 13 = .ok (.iconst (-1), 1) := by decide +kernel
theorem dX10_dual_14 : decode cX10_dual 14 = .ok (.ireturn, 1) := by decide +kernel
theorem dX10_dual_15 : decode cX10_dual 15 = .ok (.aload_n 0, 1) := by decide +kernel
theorem dX10_dual_16 : decode cX10_dual 16 = .ok (.aload_n 1, 1) := by decide +kernel
theorem dX10_dual_17 : decode cX10_dual 17 = .ok (.aload_n 0, 1) := by decide +kernel
theorem dX10_dual_18 : decode cX10_dual 18 = .ok (.getfield 16, 3) := by decide +kernel
theorem dX10_dual_21 : decode cX10_dual 21 = .ok (.invokevirtual 198, 3) := by decide +kernel
theorem dX10_dual_24 : decode cX10_dual 24 = .ok (.aload_n 0, 1) := by decide +kernel
theorem dX10_dual_25 : decode cX10_dual 25 = .ok (.invokevirtual 139, 3) := by decide +kernel
theorem dX10_dual_28 : decode cX10_dual 28 = .ok (.aload_n 0, 1) := by decide +kernel
theorem dX10_dual_29 : decode cX10_dual 29 = .ok (.getfield 12, 3) := by decide +kernel
theorem dX10_dual_32 : decode cX10_dual 32 = .ok (.aload_n 0, 1) := by decide +kernel
theorem dX10_dual_33 : decode cX10_dual 33 = .ok (.getfield 16, 3) := by decide +kernel
theorem dX10_dual_36 : decode cX10_dual 36 = .ok (.invokevirtual 202, 3) := by decide +kernel
theorem dX10_dual_39 : decode cX10_dual 39 = .ok (.aload_n 0, 1) := by decide +kernel
theorem dX10_dual_40 : decode cX10_dual 40 = .ok (.getfield 12, 3) := by decide +kernel
theorem dX10_dual_43 : decode cX10_dual 43 = .ok (.getfield 205, 3) := by decide +kernel
theorem dX10_dual_46 : decode cX10_dual 46 = .ok (.ireturn, 1) := by decide +kernel
theorem dX10_shrink_0 : decode cX10_shrink 0 = .ok (.aload_n 0, 1) := by decide +kernel
theorem dX10_shrink_1 : decode cX10_shrink 1 = .ok (.getfield 12, 3) := by decide +kernel
theorem dX10_shrink_4 : decode cX10_shrink 4 = .ok (.iload_n 1, 1) := by decide +kernel
theorem dX10_shrink_5 : decode cX10_shrink 5 = .ok (.invokevirtual 146, 3) := by decide +kernel
theorem dX10_shrink_8 : decode cX10_shrink 8 = .ok (.ifCond .eq 14, 3) := by decide +kernel
theorem dX10_shrink_11 : decode cX10_shrink 11 = .ok (.aload_n 0, 1) := by decide +kernel
theorem dX10_shrink_12 : decode cX10_shrink 12 = .ok (.getfield 12, 3) := by decide +kernel
theorem dX10_shrink_15 : decode cX10_shrink 15 = .ok (.iload_n 1, 1) := by decide +kernel
theorem dX10_shrink_16 : decode cX10_shrink 16 = .ok (.invokevirtual 208, 3) := by decide +kernel
theorem dX10_shrink_19 : decode cX10_shrink 19 = .ok (.ifCond .eq 5, 3) := by decide +kernel
theorem dX10_shrink_22 : decode cX10_shrink 22 = .ok (.iconst 0, 1) := by decide +kernel
theorem dX10_shrink_23 : decode cX10_shrink 23 = .ok (.ireturn, 1) := by decide +kernel
theorem dX10_shrink_24 : decode cX10_shrink 24 = .ok (.aload_n 0, 1) := by decide +kernel
theorem dX10_shrink_25 : decode cX10_shrink 25 = .ok (.invokevirtual 139, 3) := by decide +kernel
theorem dX10_shrink_28 : decode cX10_shrink 28 = .ok (.aload_n 0, 1) := by decide +kernel
theorem dX10_shrink_29 : decode cX10_shrink 29 = .ok (.getfield 12, 3) := by decide +kernel
theorem dX10_shrink_32 : decode cX10_shrink 32 = .ok (.iload_n 1, 1) := by decide +kernel
theorem dX10_shrink_33 : decode cX10_shrink 33 = .ok (.invokevirtual 211, 3) := by decide +kernel
theorem dX10_shrink_36 : decode cX10_shrink 36 = .ok (.iconst 1, 1) := by decide +kernel
theorem dX10_shrink_37 : decode cX10_shrink 37 = .ok (.ireturn, 1) := by decide +kernel
theorem dX10_undo_0 : decode cX10_undo 0 = .ok (.aload_n 0, 1) := by decide +kernel
theorem dX10_undo_1 : decode cX10_undo 1 = .ok (.getfield 94, 3) := by decide +kernel
theorem dX10_undo_4 : decode cX10_undo 4 = .ok (.ifCond .ne 5, 3) := by decide +kernel
theorem dX10_undo_7 : decode cX10_undo 7 = .ok (.iconst 0, 1) := by decide +kernel
theorem dX10_undo_8 : decode cX10_undo 8 = .ok (.ireturn, 1) := by decide +kernel
theorem dX10_undo_9 : decode cX10_undo 9 = .ok (.aload_n 0, 1) := by decide +kernel
theorem dX10_undo_10 : decode cX10_undo 10 = .ok (.aload_n 0, 1) := by decide +kernel
theorem dX10_undo_11 : decode cX10_undo 11 = .ok (.getfield 90, 3) := by decide +kernel
theorem dX10_undo_14 : decode cX10_undo 14 = .ok (.ifCond .ne 8, 3) := by decide +kernel
theorem dX10_undo_17 : decode cX10_undo 17 = .ok (.bipush 39, 2) := by decide +kernel
theorem dX10_undo_19 : decode cX10_undo 19 = .ok (.goto 9, 3) := by decide +kernel
theorem dX10_undo_22 : decode cX10_undo 22 = .ok (.aload_n 0, 1) := by decide +kernel
theorem dX10_undo_23 : decode cX10_undo 23 = .ok (.getfield 90, 3) := by decide +kernel
theorem dX10_undo_26 : decode cX10_undo 26 = .ok (.iconst 1, 1) := by decide +kernel
theorem dX10_undo_27 : decode cX10_undo 27 = .ok (.isub, 1) := by decide +kernel
theorem dX10_undo_28 : decode cX10_undo 28 = .ok (.putfield 90, 3) := by decide +kernel
theorem dX10_undo_31 : decode cX10_undo 31 = .ok (.aload_n 0, 1) := by decide +kernel
theorem dX10_undo_32 : decode cX10_undo 32 = .ok (.dup, 1) := by decide +kernel
theorem dX10_undo_33 : decode cX10_undo 33 = .ok (.getfield 94, 3) := by decide +kernel
theorem dX10_undo_36 : decode cX10_undo 36 = .ok (.iconst 1, 1) := by decide +kernel
theorem dX10_undo_37 : decode cX10_undo 37 = .ok (.isub, 1) := by decide +kernel
theorem dX10_undo_38 : decode cX10_undo 38 = .ok (.putfield 94, 3) := by decide +kernel
theorem dX10_undo_41 : decode cX10_undo 41 = .ok (.aload_n 0, 1) := by decide +kernel
theorem dX10_undo_42 : decode cX10_undo 42 = .ok (.getfield 83, 3) := by decide +kernel
theorem dX10_undo_45 : decode cX10_undo 45 = .ok (.aload_n 0, 1) := by decide +kernel
theorem dX10_undo_46 : decode cX10_undo 46 = .ok (.getfield 90, 3) := by decide +kernel
theorem dX10_undo_49 : decode cX10_undo 49 = .ok (.aload_n 0, 1) := by decide +kernel
theorem dX10_undo_50 : decode cX10_undo 50 = .ok (.getfield 12, 3) := by decide +kernel
theorem dX10_undo_53 : decode cX10_undo 53 = .ok (.invokevirtual 214, 3) := by decide +kernel
theorem dX10_undo_56 : decode cX10_undo 56 = .ok (.aload_n 0, 1) := by decide +kernel
theorem dX10_undo_57 : decode cX10_undo 57 = .ok (.iconst 0, 1) := by decide +kernel
theorem dX10_undo_58 : decode cX10_undo 58 = .ok (.putfield 103, 3) := by decide +kernel
theorem dX10_undo_61 : decode cX10_undo 61 = .ok (.iconst 1, 1) := by decide +kernel
theorem dX10_undo_62 : decode cX10_undo 62 = .ok (.ireturn, 1) := by decide +kernel
theorem dX10_line_0 : decode cX10_line 0 = .ok (.aload_n 0, 1) := by decide +kernel
theorem dX10_line_1 : decode cX10_line 1 = .ok (.getfield 12, 3) := by decide +kernel
theorem dX10_line_4 : decode cX10_line 4 = .ok (.iload_n 1, 1) := by decide +kernel
theorem dX10_line_5 : decode cX10_line 5 = .ok (.invokevirtual 146, 3) := by decide +kernel
theorem dX10_line_8 : decode cX10_line 8 = .ok (.ifCond .ne 5, 3) := by decide +kernel
theorem dX10_line_11 : decode cX10_line 11 = .ok (.iconst (-1), 1) := by decide +kernel
theorem dX10_line_12 : decode cX10_line 12 = .ok (.ireturn, 1) := by decide +kernel
theorem dX10_line_13 : decode cX10_line 13 = .ok (.iload_n 2, 1) := by decide +kernel
theorem dX10_line_14 : decode cX10_line 14 = .ok (.tableswitch 103 0 4 #[34, 46, 60, 77, 89], 34) := by decide +kernel
theorem dX10_line_48 : decode cX10_line 48 = .ok (.aload_n 0, 1) := by decide +kernel
theorem dX10_line_49 : decode cX10_line 49 = .ok (.getfield 12, 3) := by decide +kernel
theorem dX10_line_52 : decode cX10_line 52 = .ok (.getfield 218, 3) := by decide +kernel
theorem dX10_line_55 : decode cX10_line 55 = .ok (.iconst 2, 1) := by decide +kernel
theorem dX10_line_56 : decode cX10_line 56 = .ok (.iload_n 1, 1) := by decide +kernel
theorem dX10_line_57 : decode cX10_line 57 = .ok (.imul, 1) := by decide +kernel
theorem dX10_line_58 : decode cX10_line 58 = .ok (.iaload, 1) := by decide +kernel
theorem dX10_line_59 : decode cX10_line 59 = .ok (.ireturn, 1) := by decide +kernel
theorem dX10_line_60 : decode cX10_line 60 = .ok (.aload_n 0, 1) := by decide +kernel
theorem dX10_line_61 : decode cX10_line 61 = .ok (.getfield 12, 3) := by decide +kernel
theorem dX10_line_64 : decode cX10_line 64 = .ok (.getfield 218, 3) := by decide +kernel
theorem dX10_line_67 : decode cX10_line 67 = .ok (.iconst 2, 1) := by decide +kernel
theorem dX10_line_68 : decode cX10_line 68 = .ok (.iload_n 1, 1) := by decide +kernel
theorem dX10_line_69 : decode cX10_line 69 = .ok (.imul, 1) := by decide +kernel
theorem dX10_line_70 : decode cX10_line 70 = .ok (.iconst 1, 1) := by decide +kernel
theorem dX10_line_71 : decode cX10_line 71 = .ok (.iadd, 1) := by decide +kernel
theorem dX10_line_72 : decode cX10_line 72 = .ok (.iaload, 1) := by decide +kernel
theorem dX10_line_73 : decode cX10_line 73 = .ok (.ireturn, 1) := by decide +kernel
theorem dX10_line_74 : decode cX10_line 74 = .ok (.aload_n 0, 1) := by decide +kernel
theorem dX10_line_75 : decode cX10_line 75 = .ok (.getfield 12, 3) := by decide +kernel
theorem dX10_line_78 : decode cX10_line 78 = .ok (.iload_n 1, 1) := by decide +kernel
theorem dX10_line_79 : decode cX10_line 79 = .ok (.invokevirtual 221, 3) := by decide +kernel
theorem dX10_line_82 : decode cX10_line 82 = .ok (.ifCond .eq 7, 3) := by decide +kernel
theorem dX10_line_85 : decode cX10_line 85 = .ok (.iconst 1, 1) := by decide +kernel
theorem dX10_line_86 : decode cX10_line 86 = .ok (.goto 4, 3) := by decide +kernel
theorem dX10_line_89 : decode cX10_line 89 = .ok (.iconst 0, 1) := by decide +kernel
theorem dX10_line_90 : decode cX10_line 90 = .ok (.ireturn, 1) := by decide +kernel
theorem dX10_line_91 : decode cX10_line 91 = .ok (.aload_n 0, 1) := by decide +kernel
theorem dX10_line_92 : decode cX10_line 92 = .ok (.invokevirtual 190, 3) := by decide +kernel
theorem dX10_line_95 : decode cX10_line 95 = .ok (.getfield 224, 3) := by decide +kernel
theorem dX10_line_98 : decode cX10_line 98 = .ok (.iconst 2, 1) := by decide +kernel
theorem dX10_line_99 : decode cX10_line 99 = .ok (.iload_n 1, 1) := by decide +kernel
theorem dX10_line_100 : decode cX10_line 100 = .ok (.imul, 1) := by decide +kernel
theorem dX10_line_101 : decode cX10_line 101 = .ok (.iaload, 1) := by decide +kernel
theorem dX10_line_102 : decode cX10_line 102 = .ok (.ireturn, 1) := by decide +kernel
theorem dX10_line_103 : decode cX10_line 103 = .ok (.aload_n 0, 1) := by decide +kernel
theorem dX10_line_104 : decode cX10_line 104 = .ok (.invokevirtual 190, 3) := by decide +kernel
theorem dX10_line_107 : decode cX10_line 107 = .ok (.getfield 224, 3) := by decide +kernel
theorem dX10_line_110 : decode cX10_line 110 = .ok (.iconst 2, 1) := by decide +kernel
theorem dX10_line_111 : decode cX10_line 111 = .ok (.iload_n 1, 1) := by decide +kernel
theorem dX10_line_112 : decode cX10_line 112 = .ok (.imul, 1) := by decide +kernel
theorem dX10_line_113 : decode cX10_line 113 = .ok (.iconst 1, 1) := by decide +kernel
theorem dX10_line_114 : decode cX10_line 114 = .ok (.iadd, 1) := by decide +kernel
theorem dX10_line_115 : decode cX10_line 115 = .ok (.iaload, 1) := by decide +kernel
theorem dX10_line_116 : decode cX10_line 116 = .ok (.ireturn, 1) := by decide +kernel
theorem dX10_line_117 : decode cX10_line 117 = .ok (.iconst (-1), 1) := by decide +kernel
theorem dX10_line_118 : decode cX10_line 118 = .ok (.ireturn, 1) := by decide +kernel
theorem dX10_round_0 : decode cX10_round 0 = .ok (.aload_n 0, 1) := by decide +kernel
theorem dX10_round_1 : decode cX10_round 1 = .ok (.getfield 12, 3) := by decide +kernel
theorem dX10_round_4 : decode cX10_round 4 = .ok (.iload_n 1, 1) := by decide +kernel
theorem dX10_round_5 : decode cX10_round 5 = .ok (.invokevirtual 156, 3) := by decide +kernel
theorem dX10_round_8 : decode cX10_round 8 = .ok (.ifCond .ne 5, 3) := by decide +kernel
theorem dX10_round_11 : decode cX10_round 11 = .ok (.iconst (-1), 1) := by decide +kernel
theorem dX10_round_12 : decode cX10_round 12 = .ok (.ireturn, 1) := by decide +kernel
theorem dX10_round_13 : decode cX10_round 13 = .ok (.aload_n 0, 1) := by decide +kernel
theorem dX10_round_14 : decode cX10_round 14 = .ok (.getfield 12, 3) := by decide +kernel
theorem dX10_round_17 : decode cX10_round 17 = .ok (.getfield 162, 3) := by decide +kernel
theorem dX10_round_20 : decode cX10_round 20 = .ok (.iload_n 1, 1) := by decide +kernel
theorem dX10_round_21 : decode cX10_round 21 = .ok (.iaload, 1) := by decide +kernel
theorem dX10_round_22 : decode cX10_round 22 = .ok (.istore_n 3, 1) := by decide +kernel
theorem dX10_round_23 : decode cX10_round 23 = .ok (.iload_n 2, 1) := by decide +kernel
theorem dX10_round_24 : decode cX10_round 24 = .ok (.iconst (-1), 1) := by decide +kernel
theorem dX10_round_25 : decode cX10_round 25 = .ok (.if_icmp .ne 5, 3) := by decide +kernel
theorem dX10_round_28 : decode cX10_round 28 = .ok (.iload_n 3, 1) := by decide +kernel
theorem dX10_round_29 : decode cX10_round 29 = .ok (.ireturn, 1) := by decide +kernel
theorem dX10_round_30 : decode cX10_round 30 = .ok (.iload_n 2, 1) := by decide +kernel
theorem dX10_round_31 : decode cX10_round 31 = .ok (.ifCond .lt 20, 3) := by decide +kernel
theorem dX10_round_34 : decode cX10_round 34 = .ok (.iload_n 2, 1) := by decide +kernel
theorem dX10_round_35 : decode cX10_round 35 = .ok (.iload_n 3, 1) := by decide +kernel
theorem dX10_round_36 : decode cX10_round 36 = .ok (.if_icmp .ge 15, 3) := by decide +kernel
theorem dX10_round_39 : decode cX10_round 39 = .ok (.aload_n 0, 1) := by decide +kernel
theorem dX10_round_40 : decode cX10_round 40 = .ok (.getfield 12, 3) := by decide +kernel
theorem dX10_round_43 : decode cX10_round 43 = .ok (.iload_n 1, 1) := by decide +kernel
theorem dX10_round_44 : decode cX10_round 44 = .ok (.iload_n 2, 1) := by decide +kernel
theorem dX10_round_45 : decode cX10_round 45 = .ok (.invokevirtual 227, 3) := by decide +kernel
theorem dX10_round_48 : decode cX10_round 48 = .ok (.goto 4, 3) := by decide +kernel
theorem dX10_round_51 : decode cX10_round 51 = .ok (.iconst (-1), 1) := by decide +kernel
theorem dX10_round_52 : decode cX10_round 52 = .ok (.ireturn, 1) := by decide +kernel
theorem dX10_face_0 : decode cX10_face 0 = .ok (.aload_n 0, 1) := by decide +kernel
theorem dX10_face_1 : decode cX10_face 1 = .ok (.invokevirtual 190, 3) := by decide +kernel
theorem dX10_face_4 : decode cX10_face 4 = .ok (.astore_n 3, 1) := by decide +kernel
theorem dX10_face_5 : decode cX10_face 5 = .ok (.iload_n 1, 1) := by decide +kernel
theorem dX10_face_6 : decode cX10_face 6 = .ok (.iconst (-1), 1) := by decide +kernel
theorem dX10_face_7 : decode cX10_face 7 = .ok (.if_icmp .ne 8, 3) := by decide +kernel
theorem dX10_face_10 : decode cX10_face 10 = .ok (.aload_n 3, 1) := by decide +kernel
theorem dX10_face_11 : decode cX10_face 11 = .ok (.getfield 231, 3) := by decide +kernel
theorem dX10_face_14 : decode cX10_face 14 = .ok (.ireturn, 1) := by decide +kernel
theorem dX10_face_15 : decode cX10_face 15 = .ok (.aload_n 3, 1) := by decide +kernel
theorem dX10_face_16 : decode cX10_face 16 = .ok (.iload_n 1, 1) := by decide +kernel
theorem dX10_face_17 : decode cX10_face 17 = .ok (.invokevirtual 234, 3) := by decide +kernel
theorem dX10_face_20 : decode cX10_face 20 = .ok (.ifCond .ne 5, 3) := by decide +kernel
theorem dX10_face_23 : decode cX10_face 23 = .ok (.iconst (-1), 1) := by decide +kernel
theorem dX10_face_24 : decode cX10_face 24 = .ok (.ireturn, 1) := by decide +kernel
theorem dX10_face_25 : decode cX10_face 25 = .ok (.aload_n 3, 1) := by decide +kernel
theorem dX10_face_26 : decode cX10_face 26 = .ok (.getfield 237, 3) := by decide +kernel
theorem dX10_face_29 : decode cX10_face 29 = .ok (.iload_n 1, 1) := by decide +kernel
theorem dX10_face_30 : decode cX10_face 30 = .ok (.iaload, 1) := by decide +kernel
theorem dX10_face_31 : decode cX10_face 31 = .ok (.istore 4, 2) := by decide +kernel
theorem dX10_face_33 : decode cX10_face 33 = .ok (.iload_n 2, 1) := by decide +kernel
theorem dX10_face_34 : decode cX10_face 34 = .ok (.iconst (-1), 1) := by decide +kernel
theorem dX10_face_35 : decode cX10_face 35 = .ok (.if_icmp .ne 6, 3) := by decide +kernel
theorem dX10_face_38 : decode cX10_face 38 = .ok (.iload 4, 2) := by decide +kernel
theorem dX10_face_40 : decode cX10_face 40 = .ok (.ireturn, 1) := by decide +kernel
theorem dX10_face_41 : decode cX10_face 41 = .ok (.iload_n 2, 1) := by decide +kernel
theorem dX10_face_42 : decode cX10_face 42 = .ok (.ifCond .lt 20, 3) := by decide +kernel
theorem dX10_face_45 : decode cX10_face 45 = .ok (.iload_n 2, 1) := by decide +kernel
theorem dX10_face_46 : decode cX10_face 46 = .ok (.iload 4, 2) := by decide +kernel
theorem dX10_face_48 : decode cX10_face 48 = .ok (.if_icmp .ge 14, 3) := by decide +kernel
theorem dX10_face_51 : decode cX10_face 51 = .ok (.aload_n 3, 1) := by decide +kernel
theorem dX10_face_52 : decode cX10_face 52 = .ok (.iload_n 1, 1) := by decide +kernel
theorem dX10_face_53 : decode cX10_face 53 = .ok (.iload_n 2, 1) := by decide +kernel
theorem dX10_face_54 : decode cX10_face 54 = .ok (.invokevirtual 240, 3) := by decide +kernel
theorem dX10_face_57 : decode cX10_face 57 = .ok (.iconst 1, 1) := by decide +kernel
theorem dX10_face_58 : decode cX10_face 58 = .ok (.ishr, 1) := by decide +kernel
theorem dX10_face_59 : decode cX10_face 59 = .ok (.goto 4, 3) := by decide +kernel
theorem dX10_face_62 : decode cX10_face 62 = .ok (.iconst (-1), 1) := by decide +kernel
theorem dX10_face_63 : decode cX10_face 63 = .ok (.ireturn, 1) := by decide +kernel
theorem dX10_surface_0 : decode cX10_surface 0 = .ok (.aload_n 0, 1) := by decide +kernel
theorem dX10_surface_1 : decode cX10_surface 1 = .ok (.getfield 12, 3) := by decide +kernel
theorem dX10_surface_4 : decode cX10_surface 4 = .ok (.getfield 205, 3) := by decide +kernel
theorem dX10_surface_7 : decode cX10_surface 7 = .ok (.aload_n 0, 1) := by decide +kernel
theorem dX10_surface_8 : decode cX10_surface 8 = .ok (.getfield 12, 3) := by decide +kernel
theorem dX10_surface_11 : decode cX10_surface 11 = .ok (.getfield 132, 3) := by decide +kernel
theorem dX10_surface_14 : decode cX10_surface 14 = .ok (.isub, 1) := by decide +kernel
theorem dX10_surface_15 : decode cX10_surface 15 = .ok (.aload_n 0, 1) := by decide +kernel
theorem dX10_surface_16 : decode cX10_surface 16 = .ok (.invokevirtual 190, 3) := by decide +kernel
theorem dX10_surface_19 : decode cX10_surface 19 = .ok (.getfield 231, 3) := by decide +kernel
theorem dX10_surface_22 : decode cX10_surface 22 = .ok (.iadd, 1) := by decide +kernel
theorem dX10_surface_23 : decode cX10_surface 23 = .ok (.istore_n 2, 1) := by decide +kernel
theorem dX10_surface_24 : decode cX10_surface 24 = .ok (.iload_n 1, 1) := by decide +kernel
theorem dX10_surface_25 : decode cX10_surface 25 = .ok (.tableswitch 93 0 3 #[31, 47, 83, 85], 31) := by decide +kernel
theorem dX10_surface_56 : decode cX10_surface 56 = .ok (.aload_n 0, 1) := by decide +kernel
theorem dX10_surface_57 : decode cX10_surface 57 = .ok (.getfield 12, 3) := by decide +kernel
theorem dX10_surface_60 : decode cX10_surface 60 = .ok (.invokevirtual 243, 3) := by decide +kernel
theorem dX10_surface_63 : decode cX10_surface 63 = .ok (.ifCond .eq 7, 3) := by decide +kernel
theorem dX10_surface_66 : decode cX10_surface 66 = .ok (.iconst 1, 1) := by decide +kernel
theorem dX10_surface_67 : decode cX10_surface 67 = .ok (.goto 4, 3) := by decide +kernel
theorem dX10_surface_70 : decode cX10_surface 70 = .ok (.iconst 0, 1) := by decide +kernel
theorem dX10_surface_71 : decode cX10_surface 71 = .ok (.ireturn, 1) := by decide +kernel
theorem dX10_surface_72 : decode cX10_surface 72 = .ok (.aload_n 0, 1) := by decide +kernel
theorem dX10_surface_73 : decode cX10_surface 73 = .ok (.getfield 12, 3) := by decide +kernel
theorem dX10_surface_76 : decode cX10_surface 76 = .ok (.invokevirtual 243, 3) := by decide +kernel
theorem dX10_surface_79 : decode cX10_surface 79 = .ok (.ifCond .eq 17, 3) := by decide +kernel
theorem dX10_surface_82 : decode cX10_surface 82 = .ok (.aload_n 0, 1) := by decide +kernel
theorem dX10_surface_83 : decode cX10_surface 83 = .ok (.getfield 12, 3) := by decide +kernel
theorem dX10_surface_86 : decode cX10_surface 86 = .ok (.invokevirtual 247, 3) := by decide +kernel
theorem dX10_surface_89 : decode cX10_surface 89 = .ok (.iload_n 2, 1) := by decide +kernel
theorem dX10_surface_90 : decode cX10_surface 90 = .ok (.iconst 2, 1) := by decide +kernel
theorem dX10_surface_91 : decode cX10_surface 91 = .ok (.idiv, 1) := by decide +kernel
theorem dX10_surface_92 : decode cX10_surface 92 = .ok (.isub, 1) := by decide +kernel
theorem dX10_surface_93 : decode cX10_surface 93 = .ok (.goto 14, 3) := by decide +kernel
theorem dX10_surface_96 : decode cX10_surface 96 = .ok (.iconst 2, 1) := by decide +kernel
theorem dX10_surface_97 : decode cX10_surface 97 = .ok (.aload_n 0, 1) := by decide +kernel
theorem dX10_surface_98 : decode cX10_surface 98 = .ok (.getfield 12, 3) := by decide +kernel
theorem dX10_surface_101 : decode cX10_surface 101 = .ok (.invokevirtual 247, 3) := by decide +kernel
theorem dX10_surface_104 : decode cX10_surface 104 = .ok (.imul, 1) := by decide +kernel
theorem dX10_surface_105 : decode cX10_surface 105 = .ok (.iload_n 2, 1) := by decide +kernel
theorem dX10_surface_106 : decode cX10_surface 106 = .ok (.isub, 1) := by decide +kernel
theorem dX10_surface_107 : decode cX10_surface 107 = .ok (.ireturn, 1) := by decide +kernel
theorem dX10_surface_108 : decode cX10_surface 108 = .ok (.iload_n 2, 1) := by decide +kernel
theorem dX10_surface_109 : decode cX10_surface 109 = .ok (.ireturn, 1) := by decide +kernel
theorem dX10_surface_110 : decode cX10_surface 110 = .ok (.aload_n 0, 1) := by decide +kernel
theorem dX10_surface_111 : decode cX10_surface 111 = .ok (.getfield 12, 3) := by decide +kernel
theorem dX10_surface_114 : decode cX10_surface 114 = .ok (.invokevirtual 247, 3) := by decide +kernel
theorem dX10_surface_117 : decode cX10_surface 117 = .ok (.ireturn, 1) := by decide +kernel
theorem dX10_surface_118 : decode cX10_surface 118 = .ok (.ldc 251, 2) := by decide +kernel
theorem dX10_surface_120 : decode cX10_surface 120 = .ok (.ireturn, 1) := by decide +kernel
theorem dX10_all_0 : decode cX10_all 0 = .ok (.iload_n 1, 1) := by decide +kernel
theorem dX10_all_1 : decode cX10_all 1 = .ok (.ifCond .lt 8, 3) := by decide +kernel
theorem dX10_all_4 : decode cX10_all 4 = .ok (.iload_n 1, 1) := by decide +kernel
theorem dX10_all_5 : decode cX10_all 5 = .ok (.iconst 3, 1) := by decide +kernel
theorem dX10_all_6 : decode cX10_all 6 = .ok (.if_icmp .le 7, 3) := by decide +kernel
theorem dX10_all_9 : decode cX10_all 9 = .ok (.ldc2_w 252, 3) := by decide +kernel
theorem dX10_all_12 : decode cX10_all 12 = .ok (.lreturn, 1) := by decide +kernel
theorem dX10_all_13 : decode cX10_all 13 = .ok (.aload_n 0, 1) := by decide +kernel
theorem dX10_all_14 : decode cX10_all 14 = .ok (.getfield 12, 3) := by decide +kernel
theorem dX10_all_17 : decode cX10_all 17 = .ok (.invokestatic 170, 3) := by decide +kernel
theorem dX10_all_20 : decode cX10_all 20 = .ok (.lstore_n 2, 1) := by decide +kernel
theorem dX10_all_21 : decode cX10_all 21 = .ok (.iload_n 1, 1) := by decide +kernel
theorem dX10_all_22 : decode cX10_all 22 = .ok (.ifCond .ne 5, 3) := by decide +kernel
theorem dX10_all_25 : decode cX10_all 25 = .ok (.lload_n 2, 1) := by decide +kernel
theorem dX10_all_26 : decode cX10_all 26 = .ok (.lreturn, 1) := by decide +kernel
theorem dX10_all_27 : decode cX10_all 27 = .ok (.lload_n 2, 1) := by decide +kernel
theorem dX10_all_28 : decode cX10_all 28 = .ok (.ldc2_w 174, 3) := by decide +kernel
theorem dX10_all_31 : decode cX10_all 31 = .ok (.lcmp, 1) := by decide +kernel
theorem dX10_all_32 : decode cX10_all 32 = .ok (.ifCond .le 7, 3) := by decide +kernel
theorem dX10_all_35 : decode cX10_all 35 = .ok (.ldc2_w 254, 3) := by decide +kernel
theorem dX10_all_38 : decode cX10_all 38 = .ok (.lreturn, 1) := by decide +kernel
theorem dX10_all_39 : decode cX10_all 39 = .ok (.aload_n 0, 1) := by decide +kernel
theorem dX10_all_40 : decode cX10_all 40 = .ok (.getfield 53, 3) := by decide +kernel
theorem dX10_all_43 : decode cX10_all 43 = .ok (.aload_n 0, 1) := by decide +kernel
theorem dX10_all_44 : decode cX10_all 44 = .ok (.getfield 12, 3) := by decide +kernel
theorem dX10_all_47 : decode cX10_all 47 = .ok (.invokevirtual 176, 3) := by decide +kernel
theorem dX10_all_50 : decode cX10_all 50 = .ok (.iload_n 1, 1) := by decide +kernel
theorem dX10_all_51 : decode cX10_all 51 = .ok (.iconst 1, 1) := by decide +kernel
theorem dX10_all_52 : decode cX10_all 52 = .ok (.if_icmp .ne 12, 3) := by decide +kernel
theorem dX10_all_55 : decode cX10_all 55 = .ok (.aload_n 0, 1) := by decide +kernel
theorem dX10_all_56 : decode cX10_all 56 = .ok (.getfield 53, 3) := by decide +kernel
theorem dX10_all_59 : decode cX10_all 59 = .ok (.getfield 187, 3) := by decide +kernel
theorem dX10_all_62 : decode cX10_all 62 = .ok (.i2l, 1) := by decide +kernel
theorem dX10_all_63 : decode cX10_all 63 = .ok (.lreturn, 1) := by decide +kernel
theorem dX10_all_64 : decode cX10_all 64 = .ok (.iload_n 1, 1) := by decide +kernel
theorem dX10_all_65 : decode cX10_all 65 = .ok (.iconst 2, 1) := by decide +kernel
theorem dX10_all_66 : decode cX10_all 66 = .ok (.if_icmp .ne 14, 3) := by decide +kernel
theorem dX10_all_69 : decode cX10_all 69 = .ok (.aload_n 0, 1) := by decide +kernel
theorem dX10_all_70 : decode cX10_all 70 = .ok (.getfield 53, 3) := by decide +kernel
theorem dX10_all_73 : decode cX10_all 73 = .ok (.getfield 256, 3) := by decide +kernel
theorem dX10_all_76 : decode cX10_all 76 = .ok (.i2l, 1) := by decide +kernel
theorem dX10_all_77 : decode cX10_all 77 = .ok (.goto 11, 3) := by decide +kernel
theorem dX10_all_80 : decode cX10_all 80 = .ok (.aload_n 0, 1) := by decide +kernel
theorem dX10_all_81 : decode cX10_all 81 = .ok (.getfield 53, 3) := by decide +kernel
theorem dX10_all_84 : decode cX10_all 84 = .ok (.getfield 180, 3) := by decide +kernel
theorem dX10_all_87 : decode cX10_all 87 = .ok (.i2l, 1) := by decide +kernel
theorem dX10_all_88 : decode cX10_all 88 = .ok (.lreturn, 1) := by decide +kernel
theorem dX10_needing_0 : decode cX10_needing 0 = .ok (.aload_n 0, 1) := by decide +kernel
theorem dX10_needing_1 : decode cX10_needing 1 = .ok (.getfield 12, 3) := by decide +kernel
theorem dX10_needing_4 : decode cX10_needing 4 = .ok (.invokestatic 170, 3) := by decide +kernel
theorem dX10_needing_7 : decode cX10_needing 7 = .ok (.ldc2_w 174, 3) := by decide +kernel
theorem dX10_needing_10 : decode cX10_needing 10 = .ok (.lcmp, 1) := by decide +kernel
theorem dX10_needing_11 : decode cX10_needing 11 = .ok (.ifCond .le 6, 3) := by decide +kernel
theorem dX10_needing_14 : decode cX10_needing 14 = .ok (.bipush (-2), 2) := by decide +kernel
theorem dX10_needing_16 : decode cX10_needing 16 = .ok (.ireturn, 1) := by decide +kernel
theorem dX10_needing_17 : decode cX10_needing 17 = .ok (.iload_n 1, 1) := by decide +kernel
theorem dX10_needing_18 : decode cX10_needing 18 = .ok (.ifCond .lt 8, 3) := by decide +kernel
theorem dX10_needing_21 : decode cX10_needing 21 = .ok (.iload_n 1, 1) := by decide +kernel
theorem dX10_needing_22 : decode cX10_needing 22 = .ok (.iconst 5, 1) := by decide +kernel
theorem dX10_needing_23 : decode cX10_needing 23 = .ok (.if_icmp .le 5, 3) := by decide +kernel
theorem dX10_needing_26 : decode cX10_needing 26 = .ok (.iconst 0, 1) := by decide +kernel
theorem dX10_needing_27 : decode cX10_needing 27 = .ok (.ireturn, 1) := by decide +kernel
theorem dX10_needing_28 : decode cX10_needing 28 = .ok (.aload_n 0, 1) := by decide +kernel
theorem dX10_needing_29 : decode cX10_needing 29 = .ok (.getfield 53, 3) := by decide +kernel
theorem dX10_needing_32 : decode cX10_needing 32 = .ok (.aload_n 0, 1) := by decide +kernel
theorem dX10_needing_33 : decode cX10_needing 33 = .ok (.getfield 12, 3) := by decide +kernel
theorem dX10_needing_36 : decode cX10_needing 36 = .ok (.invokevirtual 176, 3) := by decide +kernel
theorem dX10_needing_39 : decode cX10_needing 39 = .ok (.aload_n 0, 1) := by decide +kernel
theorem dX10_needing_40 : decode cX10_needing 40 = .ok (.getfield 53, 3) := by decide +kernel
theorem dX10_needing_43 : decode cX10_needing 43 = .ok (.getfield 259, 3) := by decide +kernel
theorem dX10_needing_46 : decode cX10_needing 46 = .ok (.iload_n 1, 1) := by decide +kernel
theorem dX10_needing_47 : decode cX10_needing 47 = .ok (.iaload, 1) := by decide +kernel
theorem dX10_needing_48 : decode cX10_needing 48 = .ok (.ireturn, 1) := by decide +kernel
theorem dX10_ordered_0 : decode cX10_ordered 0 = .ok (.iload_n 1, 1) := by decide +kernel
theorem dX10_ordered_1 : decode cX10_ordered 1 = .ok (.ifCond .lt 27, 3) := by decide +kernel
theorem dX10_ordered_4 : decode cX10_ordered 4 = .ok (.iload_n 1, 1) := by decide +kernel
theorem dX10_ordered_5 : decode cX10_ordered 5 = .ok (.i2l, 1) := by decide +kernel
theorem dX10_ordered_6 : decode cX10_ordered 6 = .ok (.aload_n 0, 1) := by decide +kernel
theorem dX10_ordered_7 : decode cX10_ordered 7 = .ok (.getfield 12, 3) := by decide +kernel
theorem dX10_ordered_10 : decode cX10_ordered 10 = .ok (.invokestatic 170, 3) := by decide +kernel
theorem dX10_ordered_13 : decode cX10_ordered 13 = .ok (.lcmp, 1) := by decide +kernel
theorem dX10_ordered_14 : decode cX10_ordered 14 = .ok (.ifCond .ge 14, 3) := by decide +kernel
theorem dX10_ordered_17 : decode cX10_ordered 17 = .ok (.aload_n 0, 1) := by decide +kernel
theorem dX10_ordered_18 : decode cX10_ordered 18 = .ok (.getfield 12, 3) := by decide +kernel
theorem dX10_ordered_21 : decode cX10_ordered 21 = .ok (.iload_n 2, 1) := by decide +kernel
theorem dX10_ordered_22 : decode cX10_ordered 22 = .ok (.invokevirtual 156, 3) := by decide +kernel
theorem dX10_ordered_25 : decode cX10_ordered 25 = .ok (.ifCond .ne 5, 3) := by decide +kernel
theorem dX10_ordered_28 : decode cX10_ordered 28 = .ok (.iconst (-1), 1) := by decide +kernel
theorem dX10_ordered_29 : decode cX10_ordered 29 = .ok (.ireturn, 1) := by decide +kernel
theorem dX10_ordered_30 : decode cX10_ordered 30 = .ok (.iload_n 3, 1) := by decide +kernel
theorem dX10_ordered_31 : decode cX10_ordered 31 = .ok (.ifCond .lt 16, 3) := by decide +kernel
theorem dX10_ordered_34 : decode cX10_ordered 34 = .ok (.iload_n 3, 1) := by decide +kernel
theorem dX10_ordered_35 : decode cX10_ordered 35 = .ok (.aload_n 0, 1) := by decide +kernel
theorem dX10_ordered_36 : decode cX10_ordered 36 = .ok (.getfield 12, 3) := by decide +kernel
theorem dX10_ordered_39 : decode cX10_ordered 39 = .ok (.getfield 162, 3) := by decide +kernel
theorem dX10_ordered_42 : decode cX10_ordered 42 = .ok (.iload_n 2, 1) := by decide +kernel
theorem dX10_ordered_43 : decode cX10_ordered 43 = .ok (.iaload, 1) := by decide +kernel
theorem dX10_ordered_44 : decode cX10_ordered 44 = .ok (.if_icmp .lt 5, 3) := by decide +kernel
theorem dX10_ordered_47 : decode cX10_ordered 47 = .ok (.iconst (-1), 1) := by decide +kernel
theorem dX10_ordered_48 : decode cX10_ordered 48 = .ok (.ireturn, 1) := by decide +kernel
theorem dX10_ordered_49 : decode cX10_ordered 49 = .ok (.aload_n 0, 1) := by decide +kernel
theorem dX10_ordered_50 : decode cX10_ordered 50 = .ok (.getfield 12, 3) := by decide +kernel
theorem dX10_ordered_53 : decode cX10_ordered 53 = .ok (.iload_n 1, 1) := by decide +kernel
theorem dX10_ordered_54 : decode cX10_ordered 54 = .ok (.iload_n 2, 1) := by decide +kernel
theorem dX10_ordered_55 : decode cX10_ordered 55 = .ok (.iload_n 3, 1) := by decide +kernel
theorem dX10_ordered_56 : decode cX10_ordered 56 = .ok (.invokestatic 262, 3) := by decide +kernel
theorem dX10_ordered_59 : decode cX10_ordered 59 = .ok (.ireturn, 1) := by decide +kernel
theorem dX10_capped_0 : decode cX10_capped 0 = .ok (.aload_n 0, 1) := by decide +kernel
theorem dX10_capped_1 : decode cX10_capped 1 = .ok (.getfield 53, 3) := by decide +kernel
theorem dX10_capped_4 : decode cX10_capped 4 = .ok (.aload_n 0, 1) := by decide +kernel
theorem dX10_capped_5 : decode cX10_capped 5 = .ok (.getfield 12, 3) := by decide +kernel
theorem dX10_capped_8 : decode cX10_capped 8 = .ok (.invokevirtual 266, 3) := by decide +kernel
theorem dX10_capped_11 : decode cX10_capped 11 = .ok (.ireturn, 1) := by decide +kernel
theorem dX10_bound_0 : decode cX10_bound 0 = .ok (.iload_n 1, 1) := by decide +kernel
theorem dX10_bound_1 : decode cX10_bound 1 = .ok (.ifCond .eq 10, 3) := by decide +kernel
theorem dX10_bound_4 : decode cX10_bound 4 = .ok (.iload_n 1, 1) := by decide +kernel
theorem dX10_bound_5 : decode cX10_bound 5 = .ok (.iconst 1, 1) := by decide +kernel
theorem dX10_bound_6 : decode cX10_bound 6 = .ok (.if_icmp .eq 5, 3) := by decide +kernel
theorem dX10_bound_9 : decode cX10_bound 9 = .ok (.iconst (-1), 1) := by decide +kernel
theorem dX10_bound_10 : decode cX10_bound 10 = .ok (.ireturn, 1) := by decide +kernel
theorem dX10_bound_11 : decode cX10_bound 11 = .ok (.aload_n 0, 1) := by decide +kernel
theorem dX10_bound_12 : decode cX10_bound 12 = .ok (.getfield 60, 3) := by decide +kernel
theorem dX10_bound_15 : decode cX10_bound 15 = .ok (.aload_n 0, 1) := by decide +kernel
theorem dX10_bound_16 : decode cX10_bound 16 = .ok (.getfield 12, 3) := by decide +kernel
theorem dX10_bound_19 : decode cX10_bound 19 = .ok (.invokevirtual 270, 3) := by decide +kernel
theorem dX10_bound_22 : decode cX10_bound 22 = .ok (.iload_n 1, 1) := by decide +kernel
theorem dX10_bound_23 : decode cX10_bound 23 = .ok (.iconst 1, 1) := by decide +kernel
theorem dX10_bound_24 : decode cX10_bound 24 = .ok (.if_icmp .ne 26, 3) := by decide +kernel
theorem dX10_bound_27 : decode cX10_bound 27 = .ok (.aload_n 0, 1) := by decide +kernel
theorem dX10_bound_28 : decode cX10_bound 28 = .ok (.getfield 60, 3) := by decide +kernel
theorem dX10_bound_31 : decode cX10_bound 31 = .ok (.getfield 273, 3) := by decide +kernel
theorem dX10_bound_34 : decode cX10_bound 34 = .ok (.ifCond .ne 8, 3) := by decide +kernel
theorem dX10_bound_37 : decode cX10_bound 37 = .ok (.bipush (-2), 2) := by decide +kernel
theorem dX10_bound_39 : decode cX10_bound 39 = .ok (.goto 10, 3) := by decide +kernel
theorem dX10_bound_42 : decode cX10_bound 42 = .ok (.aload_n 0, 1) := by decide +kernel
theorem dX10_bound_43 : decode cX10_bound 43 = .ok (.getfield 60, 3) := by decide +kernel
theorem dX10_bound_46 : decode cX10_bound 46 = .ok (.getfield 273, 3) := by decide +kernel
theorem dX10_bound_49 : decode cX10_bound 49 = .ok (.ireturn, 1) := by decide +kernel
theorem dX10_bound_50 : decode cX10_bound 50 = .ok (.aload_n 0, 1) := by decide +kernel
theorem dX10_bound_51 : decode cX10_bound 51 = .ok (.getfield 60, 3) := by decide +kernel
theorem dX10_bound_54 : decode cX10_bound 54 = .ok (.getfield 273, 3) := by decide +kernel
theorem dX10_bound_57 : decode cX10_bound 57 = .ok (.ifCond .eq 14, 3) := by decide +kernel
theorem dX10_bound_60 : decode cX10_bound 60 = .ok (.aload_n 0, 1) := by decide +kernel
theorem dX10_bound_61 : decode cX10_bound 61 = .ok (.getfield 12, 3) := by decide +kernel
theorem dX10_bound_64 : decode cX10_bound 64 = .ok (.invokevirtual 247, 3) := by decide +kernel
theorem dX10_bound_67 : decode cX10_bound 67 = .ok (.iconst 1, 1) := by decide +kernel
theorem dX10_bound_68 : decode cX10_bound 68 = .ok (.if_icmp .eq 5, 3) := by decide +kernel
theorem dX10_bound_71 : decode cX10_bound 71 = .ok (.iconst 0, 1) := by decide +kernel
theorem dX10_bound_72 : decode cX10_bound 72 = .ok (.ireturn, 1) := by decide +kernel
theorem dX10_bound_73 : decode cX10_bound 73 = .ok (.iconst 2, 1) := by decide +kernel
theorem dX10_bound_74 : decode cX10_bound 74 = .ok (.aload_n 0, 1) := by decide +kernel
theorem dX10_bound_75 : decode cX10_bound 75 = .ok (.getfield 12, 3) := by decide +kernel
theorem dX10_bound_78 : decode cX10_bound 78 = .ok (.getfield 205, 3) := by decide +kernel
theorem dX10_bound_81 : decode cX10_bound 81 = .ok (.isub, 1) := by decide +kernel
theorem dX10_bound_82 : decode cX10_bound 82 = .ok (.aload_n 0, 1) := by decide +kernel
theorem dX10_bound_83 : decode cX10_bound 83 = .ok (.getfield 12, 3) := by decide +kernel
theorem dX10_bound_86 : decode cX10_bound 86 = .ok (.getfield 132, 3) := by decide +kernel
theorem dX10_bound_89 : decode cX10_bound 89 = .ok (.iadd, 1) := by decide +kernel
theorem dX10_bound_90 : decode cX10_bound 90 = .ok (.iconst 2, 1) := by decide +kernel
theorem dX10_bound_91 : decode cX10_bound 91 = .ok (.aload_n 0, 1) := by decide +kernel
theorem dX10_bound_92 : decode cX10_bound 92 = .ok (.getfield 12, 3) := by decide +kernel
theorem dX10_bound_95 : decode cX10_bound 95 = .ok (.getfield 132, 3) := by decide +kernel
theorem dX10_bound_98 : decode cX10_bound 98 = .ok (.imul, 1) := by decide +kernel
theorem dX10_bound_99 : decode cX10_bound 99 = .ok (.aload_n 0, 1) := by decide +kernel
theorem dX10_bound_100 : decode cX10_bound 100 = .ok (.getfield 60, 3) := by decide +kernel
theorem dX10_bound_103 : decode cX10_bound 103 = .ok (.getfield 273, 3) := by decide +kernel
theorem dX10_bound_106 : decode cX10_bound 106 = .ok (.idiv, 1) := by decide +kernel
theorem dX10_bound_107 : decode cX10_bound 107 = .ok (.isub, 1) := by decide +kernel
theorem dX10_bound_108 : decode cX10_bound 108 = .ok (.istore_n 2, 1) := by decide +kernel
theorem dX10_bound_109 : decode cX10_bound 109 = .ok (.iload_n 2, 1) := by decide +kernel
theorem dX10_bound_110 : decode cX10_bound 110 = .ok (.ifCond .gt 7, 3) := by decide +kernel
theorem dX10_bound_113 : decode cX10_bound 113 = .ok (.iconst 0, 1) := by decide +kernel
theorem dX10_bound_114 : decode cX10_bound 114 = .ok (.goto 8, 3) := by decide +kernel
theorem dX10_bound_117 : decode cX10_bound 117 = .ok (.iload_n 2, 1) := by decide +kernel
theorem dX10_bound_118 : decode cX10_bound 118 = .ok (.iconst 1, 1) := by decide +kernel
theorem dX10_bound_119 : decode cX10_bound 119 = .ok (.iadd, 1) := by decide +kernel
theorem dX10_bound_120 : decode cX10_bound 120 = .ok (.iconst 2, 1) := by decide +kernel
theorem dX10_bound_121 : decode cX10_bound 121 = .ok (.idiv, 1) := by decide +kernel
theorem dX10_bound_122 : decode cX10_bound 122 = .ok (.ireturn, 1) := by decide +kernel
theorem dX10_without_0 : decode cX10_without 0 = .ok (.aload_n 0, 1) := by decide +kernel
theorem dX10_without_1 : decode cX10_without 1 = .ok (.getfield 12, 3) := by decide +kernel
theorem dX10_without_4 : decode cX10_without 4 = .ok (.iload_n 1, 1) := by decide +kernel
theorem dX10_without_5 : decode cX10_without 5 = .ok (.invokevirtual 146, 3) := by decide +kernel
theorem dX10_without_8 : decode cX10_without 8 = .ok (.ifCond .eq 12, 3) := by decide +kernel
theorem dX10_without_11 : decode cX10_without 11 = .ok (.iload_n 2, 1) := by decide +kernel
theorem dX10_without_12 : decode cX10_without 12 = .ok (.ifCond .lt 8, 3) := by decide +kernel
theorem dX10_without_15 : decode cX10_without 15 = .ok (.iload_n 2, 1) := by decide +kernel
theorem dX10_without_16 : decode cX10_without 16 = .ok (.iconst 2, 1) := by decide +kernel
theorem dX10_without_17 : decode cX10_without 17 = .ok (.if_icmp .le 6, 3) := by decide +kernel
theorem dX10_without_20 : decode cX10_without 20 = .ok (.ldc 251, 2) := by decide +kernel
theorem dX10_without_22 : decode cX10_without 22 = .ok (.ireturn, 1) := by decide +kernel
theorem dX10_without_23 : decode cX10_without 23 = .ok (.aload_n 0, 1) := by decide +kernel
theorem dX10_without_24 : decode cX10_without 24 = .ok (.getfield 16, 3) := by decide +kernel
theorem dX10_without_27 : decode cX10_without 27 = .ok (.aload_n 0, 1) := by decide +kernel
theorem dX10_without_28 : decode cX10_without 28 = .ok (.getfield 12, 3) := by decide +kernel
theorem dX10_without_31 : decode cX10_without 31 = .ok (.invokevirtual 202, 3) := by decide +kernel
theorem dX10_without_34 : decode cX10_without 34 = .ok (.aload_n 0, 1) := by decide +kernel
theorem dX10_without_35 : decode cX10_without 35 = .ok (.getfield 16, 3) := by decide +kernel
theorem dX10_without_38 : decode cX10_without 38 = .ok (.iload_n 1, 1) := by decide +kernel
theorem dX10_without_39 : decode cX10_without 39 = .ok (.invokevirtual 150, 3) := by decide +kernel
theorem dX10_without_42 : decode cX10_without 42 = .ok (.iload_n 2, 1) := by decide +kernel
theorem dX10_without_43 : decode cX10_without 43 = .ok (.iconst 1, 1) := by decide +kernel
theorem dX10_without_44 : decode cX10_without 44 = .ok (.if_icmp .ne 11, 3) := by decide +kernel
theorem dX10_without_47 : decode cX10_without 47 = .ok (.aload_n 0, 1) := by decide +kernel
theorem dX10_without_48 : decode cX10_without 48 = .ok (.getfield 16, 3) := by decide +kernel
theorem dX10_without_51 : decode cX10_without 51 = .ok (.invokevirtual 247, 3) := by decide +kernel
theorem dX10_without_54 : decode cX10_without 54 = .ok (.ireturn, 1) := by decide +kernel
theorem dX10_without_55 : decode cX10_without 55 = .ok (.aload_n 0, 1) := by decide +kernel
theorem dX10_without_56 : decode cX10_without 56 = .ok (.getfield 40, 3) := by decide +kernel
theorem dX10_without_59 : decode cX10_without 59 = .ok (.aload_n 0, 1) := by decide +kernel
theorem dX10_without_60 : decode cX10_without 60 = .ok (.getfield 16, 3) := by decide +kernel
theorem dX10_without_63 : decode cX10_without 63 = .ok (.invokevirtual 276, 3) := by decide +kernel
theorem dX10_without_66 : decode cX10_without 66 = .ok (.iload_n 2, 1) := by decide +kernel
theorem dX10_without_67 : decode cX10_without 67 = .ok (.ifCond .ne 13, 3) := by decide +kernel
theorem dX10_without_70 : decode cX10_without 70 = .ok (.aload_n 0, 1) := by decide +kernel
theorem dX10_without_71 : decode cX10_without 71 = .ok (.getfield 40, 3) := by decide +kernel
theorem dX10_without_74 : decode cX10_without 74 = .ok (.getfield 231, 3) := by decide +kernel
theorem dX10_without_77 : decode cX10_without 77 = .ok (.goto 26, 3) := by decide +kernel
theorem dX10_without_80 : decode cX10_without 80 = .ok (.aload_n 0, 1) := by decide +kernel
theorem dX10_without_81 : decode cX10_without 81 = .ok (.getfield 16, 3) := by decide +kernel
theorem dX10_without_84 : decode cX10_without 84 = .ok (.getfield 205, 3) := by decide +kernel
theorem dX10_without_87 : decode cX10_without 87 = .ok (.aload_n 0, 1) := by decide +kernel
theorem dX10_without_88 : decode cX10_without 88 = .ok (.getfield 16, 3) := by decide +kernel
theorem dX10_without_91 : decode cX10_without 91 = .ok (.getfield 132, 3) := by decide +kernel
theorem dX10_without_94 : decode cX10_without 94 = .ok (.isub, 1) := by decide +kernel
theorem dX10_without_95 : decode cX10_without 95 = .ok (.aload_n 0, 1) := by decide +kernel
theorem dX10_without_96 : decode cX10_without 96 = .ok (.getfield 40, 3) := by decide +kernel
theorem dX10_without_99 : decode cX10_without 99 = .ok (.getfield 231, 3) := by decide +kernel
theorem dX10_without_102 : decode cX10_without 102 = .ok (.iadd, 1) := by decide +kernel
theorem dX10_without_103 : decode cX10_without 103 = .ok (.ireturn, 1) := by decide +kernel
theorem dX10_beside_0 : decode cX10_beside 0 = .ok (.aload_n 0, 1) := by decide +kernel
theorem dX10_beside_1 : decode cX10_beside 1 = .ok (.invokevirtual 190, 3) := by decide +kernel
theorem dX10_beside_4 : decode cX10_beside 4 = .ok (.astore_n 2, 1) := by decide +kernel
theorem dX10_beside_5 : decode cX10_beside 5 = .ok (.aload_n 2, 1) := by decide +kernel
theorem dX10_beside_6 : decode cX10_beside 6 = .ok (.iload_n 1, 1) := by decide +kernel
theorem dX10_beside_7 : decode cX10_beside 7 = .ok (.invokevirtual 234, 3) := by decide +kernel
theorem dX10_beside_10 : decode cX10_beside 10 = .ok (.ifCond .eq 12, 3) := by decide +kernel
theorem dX10_beside_13 : decode cX10_beside 13 = .ok (.aload_n 2, 1) := by decide +kernel
theorem dX10_beside_14 : decode cX10_beside 14 = .ok (.getfield 279, 3) := by decide +kernel
theorem dX10_beside_17 : decode cX10_beside 17 = .ok (.iload_n 1, 1) := by decide +kernel
theorem dX10_beside_18 : decode cX10_beside 18 = .ok (.iaload, 1) := by decide +kernel
theorem dX10_beside_19 : decode cX10_beside 19 = .ok (.goto 4, 3) := by decide +kernel
theorem dX10_beside_22 : decode cX10_beside 22 = .ok (.iconst (-1), 1) := by decide +kernel
theorem dX10_beside_23 : decode cX10_beside 23 = .ok (.ireturn, 1) := by decide +kernel
theorem dX10_colours_0 : decode cX10_colours 0 = .ok (.aload_n 0, 1) := by decide +kernel
theorem dX10_colours_1 : decode cX10_colours 1 = .ok (.invokevirtual 190, 3) := by decide +kernel
theorem dX10_colours_4 : decode cX10_colours 4 = .ok (.astore_n 1, 1) := by decide +kernel
theorem dX10_colours_5 : decode cX10_colours 5 = .ok (.aload_n 1, 1) := by decide +kernel
theorem dX10_colours_6 : decode cX10_colours 6 = .ok (.aload_n 0, 1) := by decide +kernel
theorem dX10_colours_7 : decode cX10_colours 7 = .ok (.getfield 12, 3) := by decide +kernel
theorem dX10_colours_10 : decode cX10_colours 10 = .ok (.getfield 132, 3) := by decide +kernel
theorem dX10_colours_13 : decode cX10_colours 13 = .ok (.invokevirtual 282, 3) := by decide +kernel
theorem dX10_colours_16 : decode cX10_colours 16 = .ok (.ifCond .eq 6, 3) := by decide +kernel
theorem dX10_colours_19 : decode cX10_colours 19 = .ok (.bipush (-2), 2) := by decide +kernel
theorem dX10_colours_21 : decode cX10_colours 21 = .ok (.ireturn, 1) := by decide +kernel
theorem dX10_colours_22 : decode cX10_colours 22 = .ok (.aload_n 0, 1) := by decide +kernel
theorem dX10_colours_23 : decode cX10_colours 23 = .ok (.getfield 74, 3) := by decide +kernel
theorem dX10_colours_26 : decode cX10_colours 26 = .ok (.aload_n 1, 1) := by decide +kernel
theorem dX10_colours_27 : decode cX10_colours 27 = .ok (.invokevirtual 286, 3) := by decide +kernel
theorem dX10_colours_30 : decode cX10_colours 30 = .ok (.ireturn, 1) := by decide +kernel
theorem dX10_like_0 : decode cX10_like 0 = .ok (.aload_n 0, 1) := by decide +kernel
theorem dX10_like_1 : decode cX10_like 1 = .ok (.iload_n 1, 1) := by decide +kernel
theorem dX10_like_2 : decode cX10_like 2 = .ok (.invokevirtual 290, 3) := by decide +kernel
theorem dX10_like_5 : decode cX10_like 5 = .ok (.ifCond .ne 5, 3) := by decide +kernel
theorem dX10_like_8 : decode cX10_like 8 = .ok (.iconst (-1), 1) := by decide +kernel
theorem dX10_like_9 : decode cX10_like 9 = .ok (.ireturn, 1) := by decide +kernel
theorem dX10_like_10 : decode cX10_like 10 = .ok (.aload_n 0, 1) := by decide +kernel
theorem dX10_like_11 : decode cX10_like 11 = .ok (.getfield 87, 3) := by decide +kernel
theorem dX10_like_14 : decode cX10_like 14 = .ok (.iload_n 1, 1) := by decide +kernel
theorem dX10_like_15 : decode cX10_like 15 = .ok (.aload_n 0, 1) := by decide +kernel
theorem dX10_like_16 : decode cX10_like 16 = .ok (.getfield 16, 3) := by decide +kernel
theorem dX10_like_19 : decode cX10_like 19 = .ok (.invokevirtual 214, 3) := by decide +kernel
theorem dX10_like_22 : decode cX10_like 22 = .ok (.aload_n 0, 1) := by decide +kernel
theorem dX10_like_23 : decode cX10_like 23 = .ok (.getfield 67, 3) := by decide +kernel
theorem dX10_like_26 : decode cX10_like 26 = .ok (.aload_n 0, 1) := by decide +kernel
theorem dX10_like_27 : decode cX10_like 27 = .ok (.getfield 12, 3) := by decide +kernel
theorem dX10_like_30 : decode cX10_like 30 = .ok (.aload_n 0, 1) := by decide +kernel
theorem dX10_like_31 : decode cX10_like 31 = .ok (.getfield 16, 3) := by decide +kernel
theorem dX10_like_34 : decode cX10_like 34 = .ok (.invokevirtual 293, 3) := by decide +kernel
theorem dX10_like_37 : decode cX10_like 37 = .ok (.ireturn, 1) := by decide +kernel
theorem dX10_hold_0 : decode cX10_hold 0 = .ok (.iload_n 1, 1) := by decide +kernel
theorem dX10_hold_1 : decode cX10_hold 1 = .ok (.ifCond .lt 8, 3) := by decide +kernel
theorem dX10_hold_4 : decode cX10_hold 4 = .ok (.iload_n 1, 1) := by decide +kernel
theorem dX10_hold_5 : decode cX10_hold 5 = .ok (.iconst 3, 1) := by decide +kernel
theorem dX10_hold_6 : decode cX10_hold 6 = .ok (.if_icmp .lt 5, 3) := by decide +kernel
theorem dX10_hold_9 : decode cX10_hold 9 = .ok (.iconst 0, 1) := by decide +kernel
theorem dX10_hold_10 : decode cX10_hold 10 = .ok (.ireturn, 1) := by decide +kernel
theorem dX10_hold_11 : decode cX10_hold 11 = .ok (.aload_n 0, 1) := by decide +kernel
theorem dX10_hold_12 : decode cX10_hold 12 = .ok (.getfield 87, 3) := by decide +kernel
theorem dX10_hold_15 : decode cX10_hold 15 = .ok (.iload_n 1, 1) := by decide +kernel
theorem dX10_hold_16 : decode cX10_hold 16 = .ok (.aload_n 0, 1) := by decide +kernel
theorem dX10_hold_17 : decode cX10_hold 17 = .ok (.getfield 12, 3) := by decide +kernel
theorem dX10_hold_20 : decode cX10_hold 20 = .ok (.invokevirtual 297, 3) := by decide +kernel
theorem dX10_hold_23 : decode cX10_hold 23 = .ok (.aload_n 0, 1) := by decide +kernel
theorem dX10_hold_24 : decode cX10_hold 24 = .ok (.dup, 1) := by decide +kernel
theorem dX10_hold_25 : decode cX10_hold 25 = .ok (.getfield 97, 3) := by decide +kernel
theorem dX10_hold_28 : decode cX10_hold 28 = .ok (.iconst 1, 1) := by decide +kernel
theorem dX10_hold_29 : decode cX10_hold 29 = .ok (.iload_n 1, 1) := by decide +kernel
theorem dX10_hold_30 : decode cX10_hold 30 = .ok (.ishl, 1) := by decide +kernel
theorem dX10_hold_31 : decode cX10_hold 31 = .ok (.ior, 1) := by decide +kernel
theorem dX10_hold_32 : decode cX10_hold 32 = .ok (.putfield 97, 3) := by decide +kernel
theorem dX10_hold_35 : decode cX10_hold 35 = .ok (.iconst 1, 1) := by decide +kernel
theorem dX10_hold_36 : decode cX10_hold 36 = .ok (.ireturn, 1) := by decide +kernel
theorem dX10_restore_0 : decode cX10_restore 0 = .ok (.aload_n 0, 1) := by decide +kernel
theorem dX10_restore_1 : decode cX10_restore 1 = .ok (.iload_n 1, 1) := by decide +kernel
theorem dX10_restore_2 : decode cX10_restore 2 = .ok (.invokevirtual 290, 3) := by decide +kernel
theorem dX10_restore_5 : decode cX10_restore 5 = .ok (.ifCond .ne 5, 3) := by decide +kernel
theorem dX10_restore_8 : decode cX10_restore 8 = .ok (.iconst 0, 1) := by decide +kernel
theorem dX10_restore_9 : decode cX10_restore 9 = .ok (.ireturn, 1) := by decide +kernel
theorem dX10_restore_10 : decode cX10_restore 10 = .ok (.aload_n 0, 1) := by decide +kernel
theorem dX10_restore_11 : decode cX10_restore 11 = .ok (.getfield 87, 3) := by decide +kernel
theorem dX10_restore_14 : decode cX10_restore 14 = .ok (.iload_n 1, 1) := by decide +kernel
theorem dX10_restore_15 : decode cX10_restore 15 = .ok (.aload_n 0, 1) := by decide +kernel
theorem dX10_restore_16 : decode cX10_restore 16 = .ok (.getfield 12, 3) := by decide +kernel
theorem dX10_restore_19 : decode cX10_restore 19 = .ok (.invokevirtual 214, 3) := by decide +kernel
theorem dX10_restore_22 : decode cX10_restore 22 = .ok (.aload_n 0, 1) := by decide +kernel
theorem dX10_restore_23 : decode cX10_restore 23 = .ok (.invokevirtual 129, 3) := by decide +kernel
theorem dX10_restore_26 : decode cX10_restore 26 = .ok (.aload_n 0, 1) := by decide +kernel
theorem dX10_restore_27 : decode cX10_restore 27 = .ok (.iconst 0, 1) := by decide +kernel
theorem dX10_restore_28 : decode cX10_restore 28 = .ok (.putfield 103, 3) := by decide +kernel
theorem dX10_restore_31 : decode cX10_restore 31 = .ok (.iconst 1, 1) := by decide +kernel
theorem dX10_restore_32 : decode cX10_restore 32 = .ok (.ireturn, 1) := by decide +kernel
theorem dX10_count_0 : decode cX10_count 0 = .ok (.iload_n 1, 1) := by decide +kernel
theorem dX10_count_1 : decode cX10_count 1 = .ok (.tableswitch 198 0 12 #[67, 75, 83, 91, 99, 107, 115, 130, 149, 165, 173, 178, 186], 67) := by decide +kernel
theorem dX10_count_68 : decode cX10_count 68 = .ok (.aload_n 0, 1) := by decide +kernel
theorem dX10_count_69 : decode cX10_count 69 = .ok (.getfield 12, 3) := by decide +kernel
theorem dX10_count_72 : decode cX10_count 72 = .ok (.getfield 205, 3) := by decide +kernel
theorem dX10_count_75 : decode cX10_count 75 = .ok (.ireturn, 1) := by decide +kernel
theorem dX10_count_76 : decode cX10_count 76 = .ok (.aload_n 0, 1) := by decide +kernel
theorem dX10_count_77 : decode cX10_count 77 = .ok (.getfield 12, 3) := by decide +kernel
theorem dX10_count_80 : decode cX10_count 80 = .ok (.getfield 132, 3) := by decide +kernel
theorem dX10_count_83 : decode cX10_count 83 = .ok (.ireturn, 1) := by decide +kernel
theorem dX10_count_84 : decode cX10_count 84 = .ok (.aload_n 0, 1) := by decide +kernel
theorem dX10_count_85 : decode cX10_count 85 = .ok (.invokevirtual 190, 3) := by decide +kernel
theorem dX10_count_88 : decode cX10_count 88 = .ok (.getfield 231, 3) := by decide +kernel
theorem dX10_count_91 : decode cX10_count 91 = .ok (.ireturn, 1) := by decide +kernel
theorem dX10_count_92 : decode cX10_count 92 = .ok (.aload_n 0, 1) := by decide +kernel
theorem dX10_count_93 : decode cX10_count 93 = .ok (.getfield 12, 3) := by decide +kernel
theorem dX10_count_96 : decode cX10_count 96 = .ok (.getfield 153, 3) := by decide +kernel
theorem dX10_count_99 : decode cX10_count 99 = .ok (.ireturn, 1) := by decide +kernel
theorem dX10_count_100 : decode cX10_count 100 = .ok (.aload_n 0, 1) := by decide +kernel
theorem dX10_count_101 : decode cX10_count 101 = .ok (.invokevirtual 190, 3) := by decide +kernel
theorem dX10_count_104 : decode cX10_count 104 = .ok (.invokevirtual 300, 3) := by decide +kernel
theorem dX10_count_107 : decode cX10_count 107 = .ok (.ireturn, 1) := by decide +kernel
theorem dX10_count_108 : decode cX10_count 108 = .ok (.aload_n 0, 1) := by decide +kernel
theorem dX10_count_109 : decode cX10_count 109 = .ok (.invokevirtual 190, 3) := by decide +kernel
theorem dX10_count_112 : decode cX10_count 112 = .ok (.invokevirtual 303, 3) := by decide +kernel
theorem dX10_count_115 : decode cX10_count 115 = .ok (.ireturn, 1) := by decide +kernel
theorem dX10_count_116 : decode cX10_count 116 = .ok (.aload_n 0, 1) := by decide +kernel
theorem dX10_count_117 : decode cX10_count 117 = .ok (.invokevirtual 190, 3) := by decide +kernel
theorem dX10_count_120 : decode cX10_count 120 = .ok (.aload_n 0, 1) := by decide +kernel
theorem dX10_count_121 : decode cX10_count 121 = .ok (.getfield 12, 3) := by decide +kernel
theorem dX10_count_124 : decode cX10_count 124 = .ok (.getfield 132, 3) := by decide +kernel
theorem dX10_count_127 : decode cX10_count 127 = .ok (.invokevirtual 282, 3) := by decide +kernel
theorem dX10_count_130 : decode cX10_count 130 = .ok (.ireturn, 1) := by decide +kernel
theorem dX10_count_131 : decode cX10_count 131 = .ok (.aload_n 0, 1) := by decide +kernel
theorem dX10_count_132 : decode cX10_count 132 = .ok (.getfield 60, 3) := by decide +kernel
theorem dX10_count_135 : decode cX10_count 135 = .ok (.aload_n 0, 1) := by decide +kernel
theorem dX10_count_136 : decode cX10_count 136 = .ok (.getfield 12, 3) := by decide +kernel
theorem dX10_count_139 : decode cX10_count 139 = .ok (.invokevirtual 270, 3) := by decide +kernel
theorem dX10_count_142 : decode cX10_count 142 = .ok (.aload_n 0, 1) := by decide +kernel
theorem dX10_count_143 : decode cX10_count 143 = .ok (.getfield 60, 3) := by decide +kernel
theorem dX10_count_146 : decode cX10_count 146 = .ok (.getfield 306, 3) := by decide +kernel
theorem dX10_count_149 : decode cX10_count 149 = .ok (.ireturn, 1) := by decide +kernel
theorem dX10_count_150 : decode cX10_count 150 = .ok (.aload_n 0, 1) := by decide +kernel
theorem dX10_count_151 : decode cX10_count 151 = .ok (.getfield 67, 3) := by decide +kernel
theorem dX10_count_154 : decode cX10_count 154 = .ok (.aload_n 0, 1) := by decide +kernel
theorem dX10_count_155 : decode cX10_count 155 = .ok (.getfield 12, 3) := by decide +kernel
theorem dX10_count_158 : decode cX10_count 158 = .ok (.aload_n 0, 1) := by decide +kernel
theorem dX10_count_159 : decode cX10_count 159 = .ok (.getfield 12, 3) := by decide +kernel
theorem dX10_count_162 : decode cX10_count 162 = .ok (.invokevirtual 293, 3) := by decide +kernel
theorem dX10_count_165 : decode cX10_count 165 = .ok (.ireturn, 1) := by decide +kernel
theorem dX10_count_166 : decode cX10_count 166 = .ok (.aload_n 0, 1) := by decide +kernel
theorem dX10_count_167 : decode cX10_count 167 = .ok (.getfield 22, 3) := by decide +kernel
theorem dX10_count_170 : decode cX10_count 170 = .ok (.getfield 107, 3) := by decide +kernel
theorem dX10_count_173 : decode cX10_count 173 = .ok (.ireturn, 1) := by decide +kernel
theorem dX10_count_174 : decode cX10_count 174 = .ok (.aload_n 0, 1) := by decide +kernel
theorem dX10_count_175 : decode cX10_count 175 = .ok (.getfield 94, 3) := by decide +kernel
theorem dX10_count_178 : decode cX10_count 178 = .ok (.ireturn, 1) := by decide +kernel
theorem dX10_count_179 : decode cX10_count 179 = .ok (.aload_n 0, 1) := by decide +kernel
theorem dX10_count_180 : decode cX10_count 180 = .ok (.getfield 97, 3) := by decide +kernel
theorem dX10_count_183 : decode cX10_count 183 = .ok (.invokestatic 307, 3) := by decide +kernel
theorem dX10_count_186 : decode cX10_count 186 = .ok (.ireturn, 1) := by decide +kernel
theorem dX10_count_187 : decode cX10_count 187 = .ok (.aload_n 0, 1) := by decide +kernel
theorem dX10_count_188 : decode cX10_count 188 = .ok (.getfield 46, 3) := by decide +kernel
theorem dX10_count_191 : decode cX10_count 191 = .ok (.aload_n 0, 1) := by decide +kernel
theorem dX10_count_192 : decode cX10_count 192 = .ok (.getfield 12, 3) := by decide +kernel
theorem dX10_count_195 : decode cX10_count 195 = .ok (.invokevirtual 312, 3) := by decide +kernel
theorem dX10_count_198 : decode cX10_count 198 = .ok (.ireturn, 1) := by decide +kernel
theorem dX10_count_199 : decode cX10_count 199 = .ok (.iconst (-1), 1) := by decide +kernel
theorem dX10_count_200 : decode cX10_count 200 = .ok (.ireturn, 1) := by decide +kernel
theorem dX10_keepPast_0 : decode cX10_keepPast 0 = .ok (.aload_n 0, 1) := by decide +kernel
theorem dX10_keepPast_1 : decode cX10_keepPast 1 = .ok (.getfield 83, 3) := by decide +kernel
theorem dX10_keepPast_4 : decode cX10_keepPast 4 = .ok (.aload_n 0, 1) := by decide +kernel
theorem dX10_keepPast_5 : decode cX10_keepPast 5 = .ok (.getfield 90, 3) := by decide +kernel
theorem dX10_keepPast_8 : decode cX10_keepPast 8 = .ok (.aload_n 0, 1) := by decide +kernel
theorem dX10_keepPast_9 : decode cX10_keepPast 9 = .ok (.getfield 12, 3) := by decide +kernel
theorem dX10_keepPast_12 : decode cX10_keepPast 12 = .ok (.invokevirtual 297, 3) := by decide +kernel
theorem dX10_keepPast_15 : decode cX10_keepPast 15 = .ok (.aload_n 0, 1) := by decide +kernel
theorem dX10_keepPast_16 : decode cX10_keepPast 16 = .ok (.aload_n 0, 1) := by decide +kernel
theorem dX10_keepPast_17 : decode cX10_keepPast 17 = .ok (.getfield 90, 3) := by decide +kernel
theorem dX10_keepPast_20 : decode cX10_keepPast 20 = .ok (.iconst 1, 1) := by decide +kernel
theorem dX10_keepPast_21 : decode cX10_keepPast 21 = .ok (.iadd, 1) := by decide +kernel
theorem dX10_keepPast_22 : decode cX10_keepPast 22 = .ok (.bipush 40, 2) := by decide +kernel
theorem dX10_keepPast_24 : decode cX10_keepPast 24 = .ok (.if_icmp .ne 7, 3) := by decide +kernel
theorem dX10_keepPast_27 : decode cX10_keepPast 27 = .ok (.iconst 0, 1) := by decide +kernel
theorem dX10_keepPast_28 : decode cX10_keepPast 28 = .ok (.goto 9, 3) := by decide +kernel
theorem dX10_keepPast_31 : decode cX10_keepPast 31 = .ok (.aload_n 0, 1) := by decide +kernel
theorem dX10_keepPast_32 : decode cX10_keepPast 32 = .ok (.getfield 90, 3) := by decide +kernel
theorem dX10_keepPast_35 : decode cX10_keepPast 35 = .ok (.iconst 1, 1) := by decide +kernel
theorem dX10_keepPast_36 : decode cX10_keepPast 36 = .ok (.iadd, 1) := by decide +kernel
theorem dX10_keepPast_37 : decode cX10_keepPast 37 = .ok (.putfield 90, 3) := by decide +kernel
theorem dX10_keepPast_40 : decode cX10_keepPast 40 = .ok (.aload_n 0, 1) := by decide +kernel
theorem dX10_keepPast_41 : decode cX10_keepPast 41 = .ok (.aload_n 0, 1) := by decide +kernel
theorem dX10_keepPast_42 : decode cX10_keepPast 42 = .ok (.getfield 94, 3) := by decide +kernel
theorem dX10_keepPast_45 : decode cX10_keepPast 45 = .ok (.iconst 1, 1) := by decide +kernel
theorem dX10_keepPast_46 : decode cX10_keepPast 46 = .ok (.iadd, 1) := by decide +kernel
theorem dX10_keepPast_47 : decode cX10_keepPast 47 = .ok (.bipush 40, 2) := by decide +kernel
theorem dX10_keepPast_49 : decode cX10_keepPast 49 = .ok (.invokestatic 315, 3) := by decide +kernel
theorem dX10_keepPast_52 : decode cX10_keepPast 52 = .ok (.putfield 94, 3) := by decide +kernel
theorem dX10_keepPast_55 : decode cX10_keepPast 55 = .ok (.aload_n 0, 1) := by decide +kernel
theorem dX10_keepPast_56 : decode cX10_keepPast 56 = .ok (.iconst 0, 1) := by decide +kernel
theorem dX10_keepPast_57 : decode cX10_keepPast 57 = .ok (.putfield 103, 3) := by decide +kernel
theorem dX10_keepPast_60 : decode cX10_keepPast 60 = .ok (.return_, 1) := by decide +kernel
theorem dX10_forgetPast_0 : decode cX10_forgetPast 0 = .ok (.aload_n 0, 1) := by decide +kernel
theorem dX10_forgetPast_1 : decode cX10_forgetPast 1 = .ok (.iconst 0, 1) := by decide +kernel
theorem dX10_forgetPast_2 : decode cX10_forgetPast 2 = .ok (.putfield 90, 3) := by decide +kernel
theorem dX10_forgetPast_5 : decode cX10_forgetPast 5 = .ok (.aload_n 0, 1) := by decide +kernel
theorem dX10_forgetPast_6 : decode cX10_forgetPast 6 = .ok (.iconst 0, 1) := by decide +kernel
theorem dX10_forgetPast_7 : decode cX10_forgetPast 7 = .ok (.putfield 94, 3) := by decide +kernel
theorem dX10_forgetPast_10 : decode cX10_forgetPast 10 = .ok (.return_, 1) := by decide +kernel
theorem dX10_holdsSlot_0 : decode cX10_holdsSlot 0 = .ok (.iload_n 1, 1) := by decide +kernel
theorem dX10_holdsSlot_1 : decode cX10_holdsSlot 1 = .ok (.ifCond .lt 23, 3) := by decide +kernel
theorem dX10_holdsSlot_4 : decode cX10_holdsSlot 4 = .ok (.iload_n 1, 1) := by decide +kernel
theorem dX10_holdsSlot_5 : decode cX10_holdsSlot 5 = .ok (.iconst 3, 1) := by decide +kernel
theorem dX10_holdsSlot_6 : decode cX10_holdsSlot 6 = .ok (.if_icmp .ge 18, 3) := by decide +kernel
theorem dX10_holdsSlot_9 : decode cX10_holdsSlot 9 = .ok (.aload_n 0, 1) := by decide +kernel
theorem dX10_holdsSlot_10 : decode cX10_holdsSlot 10 = .ok (.getfield 97, 3) := by decide +kernel
theorem dX10_holdsSlot_13 : decode cX10_holdsSlot 13 = .ok (.iload_n 1, 1) := by decide +kernel
theorem dX10_holdsSlot_14 : decode cX10_holdsSlot 14 = .ok (.ishr, 1) := by decide +kernel
theorem dX10_holdsSlot_15 : decode cX10_holdsSlot 15 = .ok (.iconst 1, 1) := by decide +kernel
theorem dX10_holdsSlot_16 : decode cX10_holdsSlot 16 = .ok (.iand, 1) := by decide +kernel
theorem dX10_holdsSlot_17 : decode cX10_holdsSlot 17 = .ok (.ifCond .eq 7, 3) := by decide +kernel
theorem dX10_holdsSlot_20 : decode cX10_holdsSlot 20 = .ok (.iconst 1, 1) := by decide +kernel
theorem dX10_holdsSlot_21 : decode cX10_holdsSlot 21 = .ok (.goto 4, 3) := by decide +kernel
theorem dX10_holdsSlot_24 : decode cX10_holdsSlot 24 = .ok (.iconst 0, 1) := by decide +kernel
theorem dX10_holdsSlot_25 : decode cX10_holdsSlot 25 = .ok (.ireturn, 1) := by decide +kernel
theorem dX10_freshTracing_0 : decode cX10_freshTracing 0 = .ok (.aload_n 0, 1) := by decide +kernel
theorem dX10_freshTracing_1 : decode cX10_freshTracing 1 = .ok (.getfield 103, 3) := by decide +kernel
theorem dX10_freshTracing_4 : decode cX10_freshTracing 4 = .ok (.ifCond .ne 19, 3) := by decide +kernel
theorem dX10_freshTracing_7 : decode cX10_freshTracing 7 = .ok (.aload_n 0, 1) := by decide +kernel
theorem dX10_freshTracing_8 : decode cX10_freshTracing 8 = .ok (.getfield 36, 3) := by decide +kernel
theorem dX10_freshTracing_11 : decode cX10_freshTracing 11 = .ok (.aload_n 0, 1) := by decide +kernel
theorem dX10_freshTracing_12 : decode cX10_freshTracing 12 = .ok (.getfield 12, 3) := by decide +kernel
theorem dX10_freshTracing_15 : decode cX10_freshTracing 15 = .ok (.invokevirtual 276, 3) := by decide +kernel
theorem dX10_freshTracing_18 : decode cX10_freshTracing 18 = .ok (.aload_n 0, 1) := by decide +kernel
theorem dX10_freshTracing_19 : decode cX10_freshTracing 19 = .ok (.iconst 1, 1) := by decide +kernel
theorem dX10_freshTracing_20 : decode cX10_freshTracing 20 = .ok (.putfield 103, 3) := by decide +kernel
theorem dX10_freshTracing_23 : decode cX10_freshTracing 23 = .ok (.aload_n 0, 1) := by decide +kernel
theorem dX10_freshTracing_24 : decode cX10_freshTracing 24 = .ok (.getfield 36, 3) := by decide +kernel
theorem dX10_freshTracing_27 : decode cX10_freshTracing 27 = .ok (.areturn, 1) := by decide +kernel
theorem dX10_hasDual_0 : decode cX10_hasDual 0 = .ok (.aload_n 1, 1) := by decide +kernel
theorem dX10_hasDual_1 : decode cX10_hasDual 1 = .ok (.getfield 231, 3) := by decide +kernel
theorem dX10_hasDual_4 : decode cX10_hasDual 4 = .ok (.bipush 6, 2) := by decide +kernel
theorem dX10_hasDual_6 : decode cX10_hasDual 6 = .ok (.if_icmp .gt 31, 3) := by decide +kernel
theorem dX10_hasDual_9 : decode cX10_hasDual 9 = .ok (.aload_n 0, 1) := by decide +kernel
theorem dX10_hasDual_10 : decode cX10_hasDual 10 = .ok (.getfield 12, 3) := by decide +kernel
theorem dX10_hasDual_13 : decode cX10_hasDual 13 = .ok (.invokevirtual 320, 3) := by decide +kernel
theorem dX10_hasDual_16 : decode cX10_hasDual 16 = .ok (.ifCond .ne 21, 3) := by decide +kernel
theorem dX10_hasDual_19 : decode cX10_hasDual 19 = .ok (.aload_n 1, 1) := by decide +kernel
theorem dX10_hasDual_20 : decode cX10_hasDual 20 = .ok (.aload_n 0, 1) := by decide +kernel
theorem dX10_hasDual_21 : decode cX10_hasDual 21 = .ok (.getfield 12, 3) := by decide +kernel
theorem dX10_hasDual_24 : decode cX10_hasDual 24 = .ok (.getfield 132, 3) := by decide +kernel
theorem dX10_hasDual_27 : decode cX10_hasDual 27 = .ok (.invokevirtual 282, 3) := by decide +kernel
theorem dX10_hasDual_30 : decode cX10_hasDual 30 = .ok (.ifCond .ne 7, 3) := by decide +kernel
theorem dX10_hasDual_33 : decode cX10_hasDual 33 = .ok (.iconst 1, 1) := by decide +kernel
theorem dX10_hasDual_34 : decode cX10_hasDual 34 = .ok (.goto 4, 3) := by decide +kernel
theorem dX10_hasDual_37 : decode cX10_hasDual 37 = .ok (.iconst 0, 1) := by decide +kernel
theorem dX10_hasDual_38 : decode cX10_hasDual 38 = .ok (.ireturn, 1) := by decide +kernel
theorem dX10_buildDual_0 : decode cX10_buildDual 0 = .ok (.aload_n 2, 1) := by decide +kernel
theorem dX10_buildDual_1 : decode cX10_buildDual 1 = .ok (.aload_n 1, 1) := by decide +kernel
theorem dX10_buildDual_2 : decode cX10_buildDual 2 = .ok (.getfield 231, 3) := by decide +kernel
theorem dX10_buildDual_5 : decode cX10_buildDual 5 = .ok (.bipush 6, 2) := by decide +kernel
theorem dX10_buildDual_7 : decode cX10_buildDual 7 = .ok (.invokestatic 315, 3) := by decide +kernel
theorem dX10_buildDual_10 : decode cX10_buildDual 10 = .ok (.putfield 205, 3) := by decide +kernel
theorem dX10_buildDual_13 : decode cX10_buildDual 13 = .ok (.aload_n 2, 1) := by decide +kernel
theorem dX10_buildDual_14 : decode cX10_buildDual 14 = .ok (.aload_n 0, 1) := by decide +kernel
theorem dX10_buildDual_15 : decode cX10_buildDual 15 = .ok (.getfield 12, 3) := by decide +kernel
theorem dX10_buildDual_18 : decode cX10_buildDual 18 = .ok (.getfield 132, 3) := by decide +kernel
theorem dX10_buildDual_21 : decode cX10_buildDual 21 = .ok (.putfield 132, 3) := by decide +kernel
theorem dX10_buildDual_24 : decode cX10_buildDual 24 = .ok (.aload_n 2, 1) := by decide +kernel
theorem dX10_buildDual_25 : decode cX10_buildDual 25 = .ok (.iconst 0, 1) := by decide +kernel
theorem dX10_buildDual_26 : decode cX10_buildDual 26 = .ok (.putfield 153, 3) := by decide +kernel
theorem dX10_buildDual_29 : decode cX10_buildDual 29 = .ok (.iconst 0, 1) := by decide +kernel
theorem dX10_buildDual_30 : decode cX10_buildDual 30 = .ok (.istore_n 3, 1) := by decide +kernel
theorem dX10_buildDual_31 : decode cX10_buildDual 31 = .ok (.iload_n 3, 1) := by decide +kernel
theorem dX10_buildDual_32 : decode cX10_buildDual 32 = .ok (.aload_n 0, 1) := by decide +kernel
theorem dX10_buildDual_33 : decode cX10_buildDual 33 = .ok (.getfield 12, 3) := by decide +kernel
theorem dX10_buildDual_36 : decode cX10_buildDual 36 = .ok (.getfield 132, 3) := by decide +kernel
theorem dX10_buildDual_39 : decode cX10_buildDual 39 = .ok (.if_icmp .ge 78, 3) := by decide +kernel
theorem dX10_buildDual_42 : decode cX10_buildDual 42 = .ok (.aload_n 2, 1) := by decide +kernel
theorem dX10_buildDual_43 : decode cX10_buildDual 43 = .ok (.getfield 218, 3) := by decide +kernel
theorem dX10_buildDual_46 : decode cX10_buildDual 46 = .ok (.iconst 2, 1) := by decide +kernel
theorem dX10_buildDual_47 : decode cX10_buildDual 47 = .ok (.iload_n 3, 1) := by decide +kernel
theorem dX10_buildDual_48 : decode cX10_buildDual 48 = .ok (.imul, 1) := by decide +kernel
theorem dX10_buildDual_49 : decode cX10_buildDual 49 = .ok (.aload_n 1, 1) := by decide +kernel
theorem dX10_buildDual_50 : decode cX10_buildDual 50 = .ok (.getfield 224, 3) := by decide +kernel
theorem dX10_buildDual_53 : decode cX10_buildDual 53 = .ok (.iconst 2, 1) := by decide +kernel
theorem dX10_buildDual_54 : decode cX10_buildDual 54 = .ok (.iload_n 3, 1) := by decide +kernel
theorem dX10_buildDual_55 : decode cX10_buildDual 55 = .ok (.imul, 1) := by decide +kernel
theorem dX10_buildDual_56 : decode cX10_buildDual 56 = .ok (.iaload, 1) := by decide +kernel
theorem dX10_buildDual_57 : decode cX10_buildDual 57 = .ok (.iastore, 1) := by decide +kernel
theorem dX10_buildDual_58 : decode cX10_buildDual 58 = .ok (.aload_n 2, 1) := by decide +kernel
theorem dX10_buildDual_59 : decode cX10_buildDual 59 = .ok (.getfield 218, 3) := by decide +kernel
theorem dX10_buildDual_62 : decode cX10_buildDual 62 = .ok (.iconst 2, 1) := by decide +kernel
theorem dX10_buildDual_63 : decode cX10_buildDual 63 = .ok (.iload_n 3, 1) := by decide +kernel
theorem dX10_buildDual_64 : decode cX10_buildDual 64 = .ok (.imul, 1) := by decide +kernel
theorem dX10_buildDual_65 : decode cX10_buildDual 65 = .ok (.iconst 1, 1) := by decide +kernel
theorem dX10_buildDual_66 : decode cX10_buildDual 66 = .ok (.iadd, 1) := by decide +kernel
theorem dX10_buildDual_67 : decode cX10_buildDual 67 = .ok (.aload_n 1, 1) := by decide +kernel
theorem dX10_buildDual_68 : decode cX10_buildDual 68 = .ok (.getfield 224, 3) := by decide +kernel
theorem dX10_buildDual_71 : decode cX10_buildDual 71 = .ok (.iconst 2, 1) := by decide +kernel
theorem dX10_buildDual_72 : decode cX10_buildDual 72 = .ok (.iload_n 3, 1) := by decide +kernel
theorem dX10_buildDual_73 : decode cX10_buildDual 73 = .ok (.imul, 1) := by decide +kernel
theorem dX10_buildDual_74 : decode cX10_buildDual 74 = .ok (.iconst 1, 1) := by decide +kernel
theorem dX10_buildDual_75 : decode cX10_buildDual 75 = .ok (.iadd, 1) := by decide +kernel
theorem dX10_buildDual_76 : decode cX10_buildDual 76 = .ok (.iaload, 1) := by decide +kernel
theorem dX10_buildDual_77 : decode cX10_buildDual 77 = .ok (.iastore, 1) := by decide +kernel
theorem dX10_buildDual_78 : decode cX10_buildDual 78 = .ok (.aload_n 1, 1) := by decide +kernel
theorem dX10_buildDual_79 : decode cX10_buildDual 79 = .ok (.getfield 323, 3) := by decide +kernel
theorem dX10_buildDual_82 : decode cX10_buildDual 82 = .ok (.iconst 2, 1) := by decide +kernel
theorem dX10_buildDual_83 : decode cX10_buildDual 83 = .ok (.iload_n 3, 1) := by decide +kernel
theorem dX10_buildDual_84 : decode cX10_buildDual 84 = .ok (.imul, 1) := by decide +kernel
theorem dX10_buildDual_85 : decode cX10_buildDual 85 = .ok (.iaload, 1) := by decide +kernel
theorem dX10_buildDual_86 : decode cX10_buildDual 86 = .ok (.aload_n 1, 1) := by decide +kernel
theorem dX10_buildDual_87 : decode cX10_buildDual 87 = .ok (.getfield 323, 3) := by decide +kernel
theorem dX10_buildDual_90 : decode cX10_buildDual 90 = .ok (.iconst 2, 1) := by decide +kernel
theorem dX10_buildDual_91 : decode cX10_buildDual 91 = .ok (.iload_n 3, 1) := by decide +kernel
theorem dX10_buildDual_92 : decode cX10_buildDual 92 = .ok (.imul, 1) := by decide +kernel
theorem dX10_buildDual_93 : decode cX10_buildDual 93 = .ok (.iconst 1, 1) := by decide +kernel
theorem dX10_buildDual_94 : decode cX10_buildDual 94 = .ok (.iadd, 1) := by decide +kernel
theorem dX10_buildDual_95 : decode cX10_buildDual 95 = .ok (.iaload, 1) := by decide +kernel
theorem dX10_buildDual_96 : decode cX10_buildDual 96 = .ok (.if_icmp .ne 15, 3) := by decide +kernel
theorem dX10_buildDual_99 : decode cX10_buildDual 99 = .ok (.aload_n 2, 1) := by decide +kernel
theorem dX10_buildDual_100 : decode cX10_buildDual 100 = .ok (.dup, 1) := by decide +kernel
theorem dX10_buildDual_101 : decode cX10_buildDual 101 = .ok (.getfield 153, 3) := by decide +kernel
theorem dX10_buildDual_104 : decode cX10_buildDual 104 = .ok (.iconst 1, 1) := by decide +kernel
theorem dX10_buildDual_105 : decode cX10_buildDual 105 = .ok (.iload_n 3, 1) := by decide +kernel
theorem dX10_buildDual_106 : decode cX10_buildDual 106 = .ok (.ishl, 1) := by decide +kernel
theorem dX10_buildDual_107 : decode cX10_buildDual 107 = .ok (.ior, 1) := by decide +kernel
theorem dX10_buildDual_108 : decode cX10_buildDual 108 = .ok (.putfield 153, 3) := by decide +kernel
theorem dX10_buildDual_111 : decode cX10_buildDual 111 = .ok (.iinc 3 1, 3) := by decide +kernel
theorem dX10_buildDual_114 : decode cX10_buildDual 114 = .ok (.goto (-83), 3) := by decide +kernel
theorem dX10_buildDual_117 : decode cX10_buildDual 117 = .ok (.iconst 0, 1) := by decide +kernel
theorem dX10_buildDual_118 : decode cX10_buildDual 118 = .ok (.istore_n 3, 1) := by decide +kernel
theorem dX10_buildDual_119 : decode cX10_buildDual 119 = .ok (.iload_n 3, 1) := by decide +kernel
theorem dX10_buildDual_120 : decode cX10_buildDual 120 = .ok (.aload_n 2, 1) := by decide +kernel
theorem dX10_buildDual_121 : decode cX10_buildDual 121 = .ok (.getfield 205, 3) := by decide +kernel
theorem dX10_buildDual_124 : decode cX10_buildDual 124 = .ok (.if_icmp .ge 52, 3) := by decide +kernel
theorem dX10_buildDual_127 : decode cX10_buildDual 127 = .ok (.aload_n 2, 1) := by decide +kernel
theorem dX10_buildDual_128 : decode cX10_buildDual 128 = .ok (.getfield 162, 3) := by decide +kernel
theorem dX10_buildDual_131 : decode cX10_buildDual 131 = .ok (.iload_n 3, 1) := by decide +kernel
theorem dX10_buildDual_132 : decode cX10_buildDual 132 = .ok (.iconst 0, 1) := by decide +kernel
theorem dX10_buildDual_133 : decode cX10_buildDual 133 = .ok (.iastore, 1) := by decide +kernel
theorem dX10_buildDual_134 : decode cX10_buildDual 134 = .ok (.iconst 0, 1) := by decide +kernel
theorem dX10_buildDual_135 : decode cX10_buildDual 135 = .ok (.istore 4, 2) := by decide +kernel
theorem dX10_buildDual_137 : decode cX10_buildDual 137 = .ok (.iload 4, 2) := by decide +kernel
theorem dX10_buildDual_139 : decode cX10_buildDual 139 = .ok (.aload_n 1, 1) := by decide +kernel
theorem dX10_buildDual_140 : decode cX10_buildDual 140 = .ok (.getfield 237, 3) := by decide +kernel
theorem dX10_buildDual_143 : decode cX10_buildDual 143 = .ok (.iload_n 3, 1) := by decide +kernel
theorem dX10_buildDual_144 : decode cX10_buildDual 144 = .ok (.iaload, 1) := by decide +kernel
theorem dX10_buildDual_145 : decode cX10_buildDual 145 = .ok (.if_icmp .ge 25, 3) := by decide +kernel
theorem dX10_buildDual_148 : decode cX10_buildDual 148 = .ok (.aload_n 2, 1) := by decide +kernel
theorem dX10_buildDual_149 : decode cX10_buildDual 149 = .ok (.iload_n 3, 1) := by decide +kernel
theorem dX10_buildDual_150 : decode cX10_buildDual 150 = .ok (.iload 4, 2) := by decide +kernel
theorem dX10_buildDual_152 : decode cX10_buildDual 152 = .ok (.aload_n 1, 1) := by decide +kernel
theorem dX10_buildDual_153 : decode cX10_buildDual 153 = .ok (.iload_n 3, 1) := by decide +kernel
theorem dX10_buildDual_154 : decode cX10_buildDual 154 = .ok (.iload 4, 2) := by decide +kernel
theorem dX10_buildDual_156 : decode cX10_buildDual 156 = .ok (.invokevirtual 240, 3) := by decide +kernel
theorem dX10_buildDual_159 : decode cX10_buildDual 159 = .ok (.iconst 1, 1) := by decide +kernel
theorem dX10_buildDual_160 : decode cX10_buildDual 160 = .ok (.ishr, 1) := by decide +kernel
theorem dX10_buildDual_161 : decode cX10_buildDual 161 = .ok (.invokevirtual 326, 3) := by decide +kernel
theorem dX10_buildDual_164 : decode cX10_buildDual 164 = .ok (.iinc 4 1, 3) := by decide +kernel
theorem dX10_buildDual_167 : decode cX10_buildDual 167 = .ok (.goto (-30), 3) := by decide +kernel
theorem dX10_buildDual_170 : decode cX10_buildDual 170 = .ok (.iinc 3 1, 3) := by decide +kernel
theorem dX10_buildDual_173 : decode cX10_buildDual 173 = .ok (.goto (-54), 3) := by decide +kernel
theorem dX10_buildDual_176 : decode cX10_buildDual 176 = .ok (.return_, 1) := by decide +kernel
