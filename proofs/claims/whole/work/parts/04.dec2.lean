theorem dX10_init_0 : decode cX10_init 0 = .ok (.aload_n 0, 1) := by decide +kernel
theorem dX10_init_1 : decode cX10_init 1 = .ok (.invokespecial 3, 3) := by decide +kernel
theorem dX10_init_4 : decode cX10_init 4 = .ok (.aload_n 0, 1) := by decide +kernel
theorem dX10_init_5 : decode cX10_init 5 = .ok (.new 9, 3) := by decide +kernel
theorem dX10_init_8 : decode cX10_init 8 = .ok (.dup, 1) := by decide +kernel
theorem dX10_init_9 : decode cX10_init 9 = .ok (.invokespecial 11, 3) := by decide +kernel
theorem dX10_init_12 : decode cX10_init 12 = .ok (.putfield 12, 3) := by decide +kernel
theorem dX10_init_15 : decode cX10_init 15 = .ok (.aload_n 0, 1) := by decide +kernel
theorem dX10_init_16 : decode cX10_init 16 = .ok (.new 16, 3) := by decide +kernel
theorem dX10_init_19 : decode cX10_init 19 = .ok (.dup, 1) := by decide +kernel
theorem dX10_init_20 : decode cX10_init 20 = .ok (.aload_n 0, 1) := by decide +kernel
theorem dX10_init_21 : decode cX10_init 21 = .ok (.getfield 12, 3) := by decide +kernel
theorem dX10_init_24 : decode cX10_init 24 = .ok (.invokespecial 18, 3) := by decide +kernel
theorem dX10_init_27 : decode cX10_init 27 = .ok (.putfield 21, 3) := by decide +kernel
theorem dX10_init_30 : decode cX10_init 30 = .ok (.aload_n 0, 1) := by decide +kernel
theorem dX10_init_31 : decode cX10_init 31 = .ok (.new 25, 3) := by decide +kernel
theorem dX10_init_34 : decode cX10_init 34 = .ok (.dup, 1) := by decide +kernel
theorem dX10_init_35 : decode cX10_init 35 = .ok (.invokespecial 27, 3) := by decide +kernel
theorem dX10_init_38 : decode cX10_init 38 = .ok (.putfield 28, 3) := by decide +kernel
theorem dX10_init_41 : decode cX10_init 41 = .ok (.aload_n 0, 1) := by decide +kernel
theorem dX10_init_42 : decode cX10_init 42 = .ok (.new 32, 3) := by decide +kernel
theorem dX10_init_45 : decode cX10_init 45 = .ok (.dup, 1) := by decide +kernel
theorem dX10_init_46 : decode cX10_init 46 = .ok (.invokespecial 34, 3) := by decide +kernel
theorem dX10_init_49 : decode cX10_init 49 = .ok (.putfield 35, 3) := by decide +kernel
theorem dX10_init_52 : decode cX10_init 52 = .ok (.aload_n 0, 1) := by decide +kernel
theorem dX10_init_53 : decode cX10_init 53 = .ok (.iconst 2, 1) := by decide +kernel
theorem dX10_init_54 : decode cX10_init 54 = .ok (.anewarray 32, 3) := by decide +kernel
theorem dX10_init_57 : decode cX10_init 57 = .ok (.putfield 39, 3) := by decide +kernel
theorem dX10_init_60 : decode cX10_init 60 = .ok (.iconst 0, 1) := by decide +kernel
theorem dX10_init_61 : decode cX10_init 61 = .ok (.istore_n 1, 1) := by decide +kernel
theorem dX10_init_62 : decode cX10_init 62 = .ok (.iload_n 1, 1) := by decide +kernel
theorem dX10_init_63 : decode cX10_init 63 = .ok (.iconst 2, 1) := by decide +kernel
theorem dX10_init_64 : decode cX10_init 64 = .ok (.if_icmp .ge 22, 3) := by decide +kernel
theorem dX10_init_67 : decode cX10_init 67 = .ok (.aload_n 0, 1) := by decide +kernel
theorem dX10_init_68 : decode cX10_init 68 = .ok (.getfield 39, 3) := by decide +kernel
theorem dX10_init_71 : decode cX10_init 71 = .ok (.iload_n 1, 1) := by decide +kernel
theorem dX10_init_72 : decode cX10_init 72 = .ok (.new 32, 3) := by decide +kernel
theorem dX10_init_75 : decode cX10_init 75 = .ok (.dup, 1) := by decide +kernel
theorem dX10_init_76 : decode cX10_init 76 = .ok (.invokespecial 34, 3) := by decide +kernel
theorem dX10_init_79 : decode cX10_init 79 = .ok (.aastore, 1) := by decide +kernel
theorem dX10_init_80 : decode cX10_init 80 = .ok (.iinc 1 1, 3) := by decide +kernel
theorem dX10_init_83 : decode cX10_init 83 = .ok (.goto (-21), 3) := by decide +kernel
theorem dX10_init_86 : decode cX10_init 86 = .ok (.aload_n 0, 1) := by decide +kernel
theorem dX10_init_87 : decode cX10_init 87 = .ok (.iconst 2, 1) := by decide +kernel
theorem dX10_init_88 : decode cX10_init 88 = .ok (.newarray .boolean, 2) := by decide +kernel
theorem dX10_init_90 : decode cX10_init 90 = .ok (.putfield 43, 3) := by decide +kernel
theorem dX10_init_93 : decode cX10_init 93 = .ok (.aload_n 0, 1) := by decide +kernel
theorem dX10_init_94 : decode cX10_init 94 = .ok (.new 47, 3) := by decide +kernel
theorem dX10_init_97 : decode cX10_init 97 = .ok (.dup, 1) := by decide +kernel
theorem dX10_init_98 : decode cX10_init 98 = .ok (.invokespecial 49, 3) := by decide +kernel
theorem dX10_init_101 : decode cX10_init 101 = .ok (.putfield 50, 3) := by decide +kernel
theorem dX10_init_104 : decode cX10_init 104 = .ok (.aload_n 0, 1) := by decide +kernel
theorem dX10_init_105 : decode cX10_init 105 = .ok (.new 54, 3) := by decide +kernel
theorem dX10_init_108 : decode cX10_init 108 = .ok (.dup, 1) := by decide +kernel
theorem dX10_init_109 : decode cX10_init 109 = .ok (.aload_n 0, 1) := by decide +kernel
theorem dX10_init_110 : decode cX10_init 110 = .ok (.getfield 28, 3) := by decide +kernel
theorem dX10_init_113 : decode cX10_init 113 = .ok (.aload_n 0, 1) := by decide +kernel
theorem dX10_init_114 : decode cX10_init 114 = .ok (.getfield 35, 3) := by decide +kernel
theorem dX10_init_117 : decode cX10_init 117 = .ok (.invokespecial 56, 3) := by decide +kernel
theorem dX10_init_120 : decode cX10_init 120 = .ok (.putfield 59, 3) := by decide +kernel
theorem dX10_init_123 : decode cX10_init 123 = .ok (.aload_n 0, 1) := by decide +kernel
theorem dX10_init_124 : decode cX10_init 124 = .ok (.new 63, 3) := by decide +kernel
theorem dX10_init_127 : decode cX10_init 127 = .ok (.dup, 1) := by decide +kernel
theorem dX10_init_128 : decode cX10_init 128 = .ok (.aload_n 0, 1) := by decide +kernel
theorem dX10_init_129 : decode cX10_init 129 = .ok (.getfield 28, 3) := by decide +kernel
theorem dX10_init_132 : decode cX10_init 132 = .ok (.aload_n 0, 1) := by decide +kernel
theorem dX10_init_133 : decode cX10_init 133 = .ok (.getfield 35, 3) := by decide +kernel
theorem dX10_init_136 : decode cX10_init 136 = .ok (.invokespecial 65, 3) := by decide +kernel
theorem dX10_init_139 : decode cX10_init 139 = .ok (.putfield 66, 3) := by decide +kernel
theorem dX10_init_142 : decode cX10_init 142 = .ok (.aload_n 0, 1) := by decide +kernel
theorem dX10_init_143 : decode cX10_init 143 = .ok (.new 70, 3) := by decide +kernel
theorem dX10_init_146 : decode cX10_init 146 = .ok (.dup, 1) := by decide +kernel
theorem dX10_init_147 : decode cX10_init 147 = .ok (.aload_n 0, 1) := by decide +kernel
theorem dX10_init_148 : decode cX10_init 148 = .ok (.getfield 28, 3) := by decide +kernel
theorem dX10_init_151 : decode cX10_init 151 = .ok (.aload_n 0, 1) := by decide +kernel
theorem dX10_init_152 : decode cX10_init 152 = .ok (.getfield 35, 3) := by decide +kernel
theorem dX10_init_155 : decode cX10_init 155 = .ok (.aload_n 0, 1) := by decide +kernel
theorem dX10_init_156 : decode cX10_init 156 = .ok (.getfield 59, 3) := by decide +kernel
theorem dX10_init_159 : decode cX10_init 159 = .ok (.invokespecial 72, 3) := by decide +kernel
theorem dX10_init_162 : decode cX10_init 162 = .ok (.putfield 75, 3) := by decide +kernel
theorem dX10_init_165 : decode cX10_init 165 = .ok (.aload_n 0, 1) := by decide +kernel
theorem dX10_init_166 : decode cX10_init 166 = .ok (.new 79, 3) := by decide +kernel
theorem dX10_init_169 : decode cX10_init 169 = .ok (.dup, 1) := by decide +kernel
theorem dX10_init_170 : decode cX10_init 170 = .ok (.aload_n 0, 1) := by decide +kernel
theorem dX10_init_171 : decode cX10_init 171 = .ok (.getfield 28, 3) := by decide +kernel
theorem dX10_init_174 : decode cX10_init 174 = .ok (.aload_n 0, 1) := by decide +kernel
theorem dX10_init_175 : decode cX10_init 175 = .ok (.getfield 35, 3) := by decide +kernel
theorem dX10_init_178 : decode cX10_init 178 = .ok (.aload_n 0, 1) := by decide +kernel
theorem dX10_init_179 : decode cX10_init 179 = .ok (.getfield 59, 3) := by decide +kernel
theorem dX10_init_182 : decode cX10_init 182 = .ok (.invokespecial 81, 3) := by decide +kernel
theorem dX10_init_185 : decode cX10_init 185 = .ok (.putfield 82, 3) := by decide +kernel
theorem dX10_init_188 : decode cX10_init 188 = .ok (.aload_n 0, 1) := by decide +kernel
theorem dX10_init_189 : decode cX10_init 189 = .ok (.new 86, 3) := by decide +kernel
theorem dX10_init_192 : decode cX10_init 192 = .ok (.dup, 1) := by decide +kernel
theorem dX10_init_193 : decode cX10_init 193 = .ok (.aload_n 0, 1) := by decide +kernel
theorem dX10_init_194 : decode cX10_init 194 = .ok (.getfield 28, 3) := by decide +kernel
theorem dX10_init_197 : decode cX10_init 197 = .ok (.aload_n 0, 1) := by decide +kernel
theorem dX10_init_198 : decode cX10_init 198 = .ok (.getfield 50, 3) := by decide +kernel
theorem dX10_init_201 : decode cX10_init 201 = .ok (.aload_n 0, 1) := by decide +kernel
theorem dX10_init_202 : decode cX10_init 202 = .ok (.getfield 59, 3) := by decide +kernel
theorem dX10_init_205 : decode cX10_init 205 = .ok (.invokespecial 88, 3) := by decide +kernel
theorem dX10_init_208 : decode cX10_init 208 = .ok (.putfield 91, 3) := by decide +kernel
theorem dX10_init_211 : decode cX10_init 211 = .ok (.aload_n 0, 1) := by decide +kernel
theorem dX10_init_212 : decode cX10_init 212 = .ok (.iconst (-1), 1) := by decide +kernel
theorem dX10_init_213 : decode cX10_init 213 = .ok (.putfield 95, 3) := by decide +kernel
theorem dX10_init_216 : decode cX10_init 216 = .ok (.return_, 1) := by decide +kernel
theorem dX10_feed_0 : decode cX10_feed 0 = .ok (.iload_n 1, 1) := by decide +kernel
theorem dX10_feed_1 : decode cX10_feed 1 = .ok (.iconst 1, 1) := by decide +kernel
theorem dX10_feed_2 : decode cX10_feed 2 = .ok (.bipush 8, 2) := by decide +kernel
theorem dX10_feed_4 : decode cX10_feed 4 = .ok (.invokestatic 99, 3) := by decide +kernel
theorem dX10_feed_7 : decode cX10_feed 7 = .ok (.ifCond .ne 7, 3) := by decide +kernel
theorem dX10_feed_10 : decode cX10_feed 10 = .ok (.sipush (-1002), 3) := by decide +kernel
theorem dX10_feed_13 : decode cX10_feed 13 = .ok (.ireturn, 1) := by decide +kernel
theorem dX10_feed_14 : decode cX10_feed 14 = .ok (.aload_n 0, 1) := by decide +kernel
theorem dX10_feed_15 : decode cX10_feed 15 = .ok (.getfield 12, 3) := by decide +kernel
theorem dX10_feed_18 : decode cX10_feed 18 = .ok (.getfield 103, 3) := by decide +kernel
theorem dX10_feed_21 : decode cX10_feed 21 = .ok (.iload_n 1, 1) := by decide +kernel
theorem dX10_feed_22 : decode cX10_feed 22 = .ok (.iadd, 1) := by decide +kernel
theorem dX10_feed_23 : decode cX10_feed 23 = .ok (.sipush 400, 3) := by decide +kernel
theorem dX10_feed_26 : decode cX10_feed 26 = .ok (.if_icmp .le 7, 3) := by decide +kernel
theorem dX10_feed_29 : decode cX10_feed 29 = .ok (.sipush (-1004), 3) := by decide +kernel
theorem dX10_feed_32 : decode cX10_feed 32 = .ok (.ireturn, 1) := by decide +kernel
theorem dX10_feed_33 : decode cX10_feed 33 = .ok (.aload_n 0, 1) := by decide +kernel
theorem dX10_feed_34 : decode cX10_feed 34 = .ok (.getfield 12, 3) := by decide +kernel
theorem dX10_feed_37 : decode cX10_feed 37 = .ok (.iload_n 1, 1) := by decide +kernel
theorem dX10_feed_38 : decode cX10_feed 38 = .ok (.lload_n 2, 1) := by decide +kernel
theorem dX10_feed_39 : decode cX10_feed 39 = .ok (.invokevirtual 106, 3) := by decide +kernel
theorem dX10_feed_42 : decode cX10_feed 42 = .ok (.aload_n 0, 1) := by decide +kernel
theorem dX10_feed_43 : decode cX10_feed 43 = .ok (.getfield 12, 3) := by decide +kernel
theorem dX10_feed_46 : decode cX10_feed 46 = .ok (.getfield 103, 3) := by decide +kernel
theorem dX10_feed_49 : decode cX10_feed 49 = .ok (.ireturn, 1) := by decide +kernel
theorem dX10_pit_0 : decode cX10_pit 0 = .ok (.aload_n 0, 1) := by decide +kernel
theorem dX10_pit_1 : decode cX10_pit 1 = .ok (.getfield 21, 3) := by decide +kernel
theorem dX10_pit_4 : decode cX10_pit 4 = .ok (.invokevirtual 110, 3) := by decide +kernel
theorem dX10_pit_7 : decode cX10_pit 7 = .ok (.istore_n 1, 1) := by decide +kernel
theorem dX10_pit_8 : decode cX10_pit 8 = .ok (.aload_n 0, 1) := by decide +kernel
theorem dX10_pit_9 : decode cX10_pit 9 = .ok (.getfield 12, 3) := by decide +kernel
theorem dX10_pit_12 : decode cX10_pit 12 = .ok (.iconst 0, 1) := by decide +kernel
theorem dX10_pit_13 : decode cX10_pit 13 = .ok (.putfield 103, 3) := by decide +kernel
theorem dX10_pit_16 : decode cX10_pit 16 = .ok (.aload_n 0, 1) := by decide +kernel
theorem dX10_pit_17 : decode cX10_pit 17 = .ok (.aload_n 0, 1) := by decide +kernel
theorem dX10_pit_18 : decode cX10_pit 18 = .ok (.getfield 21, 3) := by decide +kernel
theorem dX10_pit_21 : decode cX10_pit 21 = .ok (.getfield 114, 3) := by decide +kernel
theorem dX10_pit_24 : decode cX10_pit 24 = .ok (.putfield 95, 3) := by decide +kernel
theorem dX10_pit_27 : decode cX10_pit 27 = .ok (.iload_n 1, 1) := by decide +kernel
theorem dX10_pit_28 : decode cX10_pit 28 = .ok (.ifCond .eq 8, 3) := by decide +kernel
theorem dX10_pit_31 : decode cX10_pit 31 = .ok (.bipush (-10), 2) := by decide +kernel
theorem dX10_pit_33 : decode cX10_pit 33 = .ok (.iload_n 1, 1) := by decide +kernel
theorem dX10_pit_34 : decode cX10_pit 34 = .ok (.isub, 1) := by decide +kernel
theorem dX10_pit_35 : decode cX10_pit 35 = .ok (.ireturn, 1) := by decide +kernel
theorem dX10_pit_36 : decode cX10_pit 36 = .ok (.aload_n 0, 1) := by decide +kernel
theorem dX10_pit_37 : decode cX10_pit 37 = .ok (.getfield 28, 3) := by decide +kernel
theorem dX10_pit_40 : decode cX10_pit 40 = .ok (.aload_n 0, 1) := by decide +kernel
theorem dX10_pit_41 : decode cX10_pit 41 = .ok (.getfield 21, 3) := by decide +kernel
theorem dX10_pit_44 : decode cX10_pit 44 = .ok (.getfield 115, 3) := by decide +kernel
theorem dX10_pit_47 : decode cX10_pit 47 = .ok (.invokevirtual 118, 3) := by decide +kernel
theorem dX10_pit_50 : decode cX10_pit 50 = .ok (.aload_n 0, 1) := by decide +kernel
theorem dX10_pit_51 : decode cX10_pit 51 = .ok (.getfield 35, 3) := by decide +kernel
theorem dX10_pit_54 : decode cX10_pit 54 = .ok (.invokevirtual 122, 3) := by decide +kernel
theorem dX10_pit_57 : decode cX10_pit 57 = .ok (.aload_n 0, 1) := by decide +kernel
theorem dX10_pit_58 : decode cX10_pit 58 = .ok (.getfield 50, 3) := by decide +kernel
theorem dX10_pit_61 : decode cX10_pit 61 = .ok (.iconst 0, 1) := by decide +kernel
theorem dX10_pit_62 : decode cX10_pit 62 = .ok (.putfield 125, 3) := by decide +kernel
theorem dX10_pit_65 : decode cX10_pit 65 = .ok (.iconst 0, 1) := by decide +kernel
theorem dX10_pit_66 : decode cX10_pit 66 = .ok (.istore_n 2, 1) := by decide +kernel
theorem dX10_pit_67 : decode cX10_pit 67 = .ok (.iload_n 2, 1) := by decide +kernel
theorem dX10_pit_68 : decode cX10_pit 68 = .ok (.iconst 2, 1) := by decide +kernel
theorem dX10_pit_69 : decode cX10_pit 69 = .ok (.if_icmp .ge 16, 3) := by decide +kernel
theorem dX10_pit_72 : decode cX10_pit 72 = .ok (.aload_n 0, 1) := by decide +kernel
theorem dX10_pit_73 : decode cX10_pit 73 = .ok (.getfield 43, 3) := by decide +kernel
theorem dX10_pit_76 : decode cX10_pit 76 = .ok (.iload_n 2, 1) := by decide +kernel
theorem dX10_pit_77 : decode cX10_pit 77 = .ok (.iconst 0, 1) := by decide +kernel
theorem dX10_pit_78 : decode cX10_pit 78 = .ok (.bastore, 1) := by decide +kernel
theorem dX10_pit_79 : decode cX10_pit 79 = .ok (.iinc 2 1, 3) := by decide +kernel
theorem dX10_pit_82 : decode cX10_pit 82 = .ok (.goto (-15), 3) := by decide +kernel
theorem dX10_pit_85 : decode cX10_pit 85 = .ok (.aload_n 0, 1) := by decide +kernel
theorem dX10_pit_86 : decode cX10_pit 86 = .ok (.getfield 28, 3) := by decide +kernel
theorem dX10_pit_89 : decode cX10_pit 89 = .ok (.getfield 126, 3) := by decide +kernel
theorem dX10_pit_92 : decode cX10_pit 92 = .ok (.ireturn, 1) := by decide +kernel
theorem dX10_fault_0 : decode cX10_fault 0 = .ok (.aload_n 0, 1) := by decide +kernel
theorem dX10_fault_1 : decode cX10_fault 1 = .ok (.getfield 95, 3) := by decide +kernel
theorem dX10_fault_4 : decode cX10_fault 4 = .ok (.ireturn, 1) := by decide +kernel
theorem dX10_way_0 : decode cX10_way 0 = .ok (.aload_n 0, 1) := by decide +kernel
theorem dX10_way_1 : decode cX10_way 1 = .ok (.iload_n 1, 1) := by decide +kernel
theorem dX10_way_2 : decode cX10_way 2 = .ok (.invokevirtual 129, 3) := by decide +kernel
theorem dX10_way_5 : decode cX10_way 5 = .ok (.ifCond .ne 7, 3) := by decide +kernel
theorem dX10_way_8 : decode cX10_way 8 = .ok (.sipush (-1001), 3) := by decide +kernel
theorem dX10_way_11 : decode cX10_way 11 = .ok (.ireturn, 1) := by decide +kernel
theorem dX10_way_12 : decode cX10_way 12 = .ok (.iload_n 2, 1) := by decide +kernel
theorem dX10_way_13 : decode cX10_way 13 = .ok (.iconst 0, 1) := by decide +kernel
theorem dX10_way_14 : decode cX10_way 14 = .ok (.bipush 7, 2) := by decide +kernel
theorem dX10_way_16 : decode cX10_way 16 = .ok (.invokestatic 99, 3) := by decide +kernel
theorem dX10_way_19 : decode cX10_way 19 = .ok (.ifCond .ne 7, 3) := by decide +kernel
theorem dX10_way_22 : decode cX10_way 22 = .ok (.sipush (-1002), 3) := by decide +kernel
theorem dX10_way_25 : decode cX10_way 25 = .ok (.ireturn, 1) := by decide +kernel
theorem dX10_way_26 : decode cX10_way 26 = .ok (.iload_n 2, 1) := by decide +kernel
theorem dX10_way_27 : decode cX10_way 27 = .ok (.bipush 7, 2) := by decide +kernel
theorem dX10_way_29 : decode cX10_way 29 = .ok (.if_icmp .ne 16, 3) := by decide +kernel
theorem dX10_way_32 : decode cX10_way 32 = .ok (.aload_n 0, 1) := by decide +kernel
theorem dX10_way_33 : decode cX10_way 33 = .ok (.getfield 35, 3) := by decide +kernel
theorem dX10_way_36 : decode cX10_way 36 = .ok (.getfield 133, 3) := by decide +kernel
theorem dX10_way_39 : decode cX10_way 39 = .ok (.iload_n 1, 1) := by decide +kernel
theorem dX10_way_40 : decode cX10_way 40 = .ok (.baload, 1) := by decide +kernel
theorem dX10_way_41 : decode cX10_way 41 = .ok (.invokestatic 136, 3) := by decide +kernel
theorem dX10_way_44 : decode cX10_way 44 = .ok (.ireturn, 1) := by decide +kernel
theorem dX10_way_45 : decode cX10_way 45 = .ok (.aload_n 0, 1) := by decide +kernel
theorem dX10_way_46 : decode cX10_way 46 = .ok (.getfield 28, 3) := by decide +kernel
theorem dX10_way_49 : decode cX10_way 49 = .ok (.iload_n 1, 1) := by decide +kernel
theorem dX10_way_50 : decode cX10_way 50 = .ok (.iload_n 2, 1) := by decide +kernel
theorem dX10_way_51 : decode cX10_way 51 = .ok (.invokevirtual 140, 3) := by decide +kernel
theorem dX10_way_54 : decode cX10_way 54 = .ok (.ireturn, 1) := by decide +kernel
theorem dX10_fall_0 : decode cX10_fall 0 = .ok (.aload_n 0, 1) := by decide +kernel
theorem dX10_fall_1 : decode cX10_fall 1 = .ok (.iload_n 1, 1) := by decide +kernel
theorem dX10_fall_2 : decode cX10_fall 2 = .ok (.invokevirtual 129, 3) := by decide +kernel
theorem dX10_fall_5 : decode cX10_fall 5 = .ok (.ifCond .ne 7, 3) := by decide +kernel
theorem dX10_fall_8 : decode cX10_fall 8 = .ok (.sipush (-1001), 3) := by decide +kernel
theorem dX10_fall_11 : decode cX10_fall 11 = .ok (.ireturn, 1) := by decide +kernel
theorem dX10_fall_12 : decode cX10_fall 12 = .ok (.aload_n 0, 1) := by decide +kernel
theorem dX10_fall_13 : decode cX10_fall 13 = .ok (.getfield 35, 3) := by decide +kernel
theorem dX10_fall_16 : decode cX10_fall 16 = .ok (.getfield 133, 3) := by decide +kernel
theorem dX10_fall_19 : decode cX10_fall 19 = .ok (.iload_n 1, 1) := by decide +kernel
theorem dX10_fall_20 : decode cX10_fall 20 = .ok (.baload, 1) := by decide +kernel
theorem dX10_fall_21 : decode cX10_fall 21 = .ok (.invokestatic 136, 3) := by decide +kernel
theorem dX10_fall_24 : decode cX10_fall 24 = .ok (.istore_n 3, 1) := by decide +kernel
theorem dX10_fall_25 : decode cX10_fall 25 = .ok (.aload_n 0, 1) := by decide +kernel
theorem dX10_fall_26 : decode cX10_fall 26 = .ok (.getfield 35, 3) := by decide +kernel
theorem dX10_fall_29 : decode cX10_fall 29 = .ok (.getfield 133, 3) := by decide +kernel
theorem dX10_fall_32 : decode cX10_fall 32 = .ok (.iload_n 1, 1) := by decide +kernel
theorem dX10_fall_33 : decode cX10_fall 33 = .ok (.iload_n 2, 1) := by decide +kernel
theorem dX10_fall_34 : decode cX10_fall 34 = .ok (.bastore, 1) := by decide +kernel
theorem dX10_fall_35 : decode cX10_fall 35 = .ok (.iload_n 3, 1) := by decide +kernel
theorem dX10_fall_36 : decode cX10_fall 36 = .ok (.ireturn, 1) := by decide +kernel
theorem dX10_count_0 : decode cX10_count 0 = .ok (.iload_n 1, 1) := by decide +kernel
theorem dX10_count_1 : decode cX10_count 1 = .ok (.tableswitch 123 0 8 #[51, 59, 67, 75, 83, 91, 99, 107, 115], 51) := by decide +kernel
theorem dX10_count_52 : decode cX10_count 52 = .ok (.aload_n 0, 1) := by decide +kernel
theorem dX10_count_53 : decode cX10_count 53 = .ok (.getfield 28, 3) := by decide +kernel
theorem dX10_count_56 : decode cX10_count 56 = .ok (.getfield 144, 3) := by decide +kernel
theorem dX10_count_59 : decode cX10_count 59 = .ok (.ireturn, 1) := by decide +kernel
theorem dX10_count_60 : decode cX10_count 60 = .ok (.aload_n 0, 1) := by decide +kernel
theorem dX10_count_61 : decode cX10_count 61 = .ok (.getfield 28, 3) := by decide +kernel
theorem dX10_count_64 : decode cX10_count 64 = .ok (.getfield 126, 3) := by decide +kernel
theorem dX10_count_67 : decode cX10_count 67 = .ok (.ireturn, 1) := by decide +kernel
theorem dX10_count_68 : decode cX10_count 68 = .ok (.aload_n 0, 1) := by decide +kernel
theorem dX10_count_69 : decode cX10_count 69 = .ok (.getfield 35, 3) := by decide +kernel
theorem dX10_count_72 : decode cX10_count 72 = .ok (.getfield 147, 3) := by decide +kernel
theorem dX10_count_75 : decode cX10_count 75 = .ok (.ireturn, 1) := by decide +kernel
theorem dX10_count_76 : decode cX10_count 76 = .ok (.aload_n 0, 1) := by decide +kernel
theorem dX10_count_77 : decode cX10_count 77 = .ok (.getfield 35, 3) := by decide +kernel
theorem dX10_count_80 : decode cX10_count 80 = .ok (.getfield 150, 3) := by decide +kernel
theorem dX10_count_83 : decode cX10_count 83 = .ok (.ireturn, 1) := by decide +kernel
theorem dX10_count_84 : decode cX10_count 84 = .ok (.aload_n 0, 1) := by decide +kernel
theorem dX10_count_85 : decode cX10_count 85 = .ok (.getfield 50, 3) := by decide +kernel
theorem dX10_count_88 : decode cX10_count 88 = .ok (.getfield 125, 3) := by decide +kernel
theorem dX10_count_91 : decode cX10_count 91 = .ok (.ireturn, 1) := by decide +kernel
theorem dX10_count_92 : decode cX10_count 92 = .ok (.aload_n 0, 1) := by decide +kernel
theorem dX10_count_93 : decode cX10_count 93 = .ok (.getfield 12, 3) := by decide +kernel
theorem dX10_count_96 : decode cX10_count 96 = .ok (.getfield 103, 3) := by decide +kernel
theorem dX10_count_99 : decode cX10_count 99 = .ok (.ireturn, 1) := by decide +kernel
theorem dX10_count_100 : decode cX10_count 100 = .ok (.aload_n 0, 1) := by decide +kernel
theorem dX10_count_101 : decode cX10_count 101 = .ok (.getfield 28, 3) := by decide +kernel
theorem dX10_count_104 : decode cX10_count 104 = .ok (.getfield 153, 3) := by decide +kernel
theorem dX10_count_107 : decode cX10_count 107 = .ok (.ireturn, 1) := by decide +kernel
theorem dX10_count_108 : decode cX10_count 108 = .ok (.aload_n 0, 1) := by decide +kernel
theorem dX10_count_109 : decode cX10_count 109 = .ok (.getfield 28, 3) := by decide +kernel
theorem dX10_count_112 : decode cX10_count 112 = .ok (.getfield 156, 3) := by decide +kernel
theorem dX10_count_115 : decode cX10_count 115 = .ok (.ireturn, 1) := by decide +kernel
theorem dX10_count_116 : decode cX10_count 116 = .ok (.aload_n 0, 1) := by decide +kernel
theorem dX10_count_117 : decode cX10_count 117 = .ok (.getfield 35, 3) := by decide +kernel
theorem dX10_count_120 : decode cX10_count 120 = .ok (.invokevirtual 159, 3) := by decide +kernel
theorem dX10_count_123 : decode cX10_count 123 = .ok (.ireturn, 1) := by decide +kernel
theorem dX10_count_124 : decode cX10_count 124 = .ok (.sipush (-1002), 3) := by decide +kernel
theorem dX10_count_127 : decode cX10_count 127 = .ok (.ireturn, 1) := by decide +kernel
theorem dX10_man_0 : decode cX10_man 0 = .ok (.aload_n 0, 1) := by decide +kernel
theorem dX10_man_1 : decode cX10_man 1 = .ok (.iload_n 1, 1) := by decide +kernel
theorem dX10_man_2 : decode cX10_man 2 = .ok (.invokevirtual 162, 3) := by decide +kernel
theorem dX10_man_5 : decode cX10_man 5 = .ok (.ifCond .ne 7, 3) := by decide +kernel
theorem dX10_man_8 : decode cX10_man 8 = .ok (.sipush (-1001), 3) := by decide +kernel
theorem dX10_man_11 : decode cX10_man 11 = .ok (.ireturn, 1) := by decide +kernel
theorem dX10_man_12 : decode cX10_man 12 = .ok (.aload_n 0, 1) := by decide +kernel
theorem dX10_man_13 : decode cX10_man 13 = .ok (.getfield 35, 3) := by decide +kernel
theorem dX10_man_16 : decode cX10_man 16 = .ok (.getfield 147, 3) := by decide +kernel
theorem dX10_man_19 : decode cX10_man 19 = .ok (.bipush 8, 2) := by decide +kernel
theorem dX10_man_21 : decode cX10_man 21 = .ok (.if_icmp .lt 7, 3) := by decide +kernel
theorem dX10_man_24 : decode cX10_man 24 = .ok (.sipush (-1004), 3) := by decide +kernel
theorem dX10_man_27 : decode cX10_man 27 = .ok (.ireturn, 1) := by decide +kernel
theorem dX10_man_28 : decode cX10_man 28 = .ok (.aload_n 0, 1) := by decide +kernel
theorem dX10_man_29 : decode cX10_man 29 = .ok (.getfield 35, 3) := by decide +kernel
theorem dX10_man_32 : decode cX10_man 32 = .ok (.iload_n 1, 1) := by decide +kernel
theorem dX10_man_33 : decode cX10_man 33 = .ok (.iload_n 2, 1) := by decide +kernel
theorem dX10_man_34 : decode cX10_man 34 = .ok (.iload_n 3, 1) := by decide +kernel
theorem dX10_man_35 : decode cX10_man 35 = .ok (.invokevirtual 165, 3) := by decide +kernel
theorem dX10_man_38 : decode cX10_man 38 = .ok (.ireturn, 1) := by decide +kernel
theorem dX10_lamp_0 : decode cX10_lamp 0 = .ok (.aload_n 0, 1) := by decide +kernel
theorem dX10_lamp_1 : decode cX10_lamp 1 = .ok (.iload_n 1, 1) := by decide +kernel
theorem dX10_lamp_2 : decode cX10_lamp 2 = .ok (.invokevirtual 162, 3) := by decide +kernel
theorem dX10_lamp_5 : decode cX10_lamp 5 = .ok (.ifCond .ne 7, 3) := by decide +kernel
theorem dX10_lamp_8 : decode cX10_lamp 8 = .ok (.sipush (-1001), 3) := by decide +kernel
theorem dX10_lamp_11 : decode cX10_lamp 11 = .ok (.ireturn, 1) := by decide +kernel
theorem dX10_lamp_12 : decode cX10_lamp 12 = .ok (.iload_n 2, 1) := by decide +kernel
theorem dX10_lamp_13 : decode cX10_lamp 13 = .ok (.invokestatic 169, 3) := by decide +kernel
theorem dX10_lamp_16 : decode cX10_lamp 16 = .ok (.ifCond .ne 7, 3) := by decide +kernel
theorem dX10_lamp_19 : decode cX10_lamp 19 = .ok (.sipush (-1002), 3) := by decide +kernel
theorem dX10_lamp_22 : decode cX10_lamp 22 = .ok (.ireturn, 1) := by decide +kernel
theorem dX10_lamp_23 : decode cX10_lamp 23 = .ok (.aload_n 0, 1) := by decide +kernel
theorem dX10_lamp_24 : decode cX10_lamp 24 = .ok (.getfield 35, 3) := by decide +kernel
theorem dX10_lamp_27 : decode cX10_lamp 27 = .ok (.getfield 150, 3) := by decide +kernel
theorem dX10_lamp_30 : decode cX10_lamp 30 = .ok (.iconst 4, 1) := by decide +kernel
theorem dX10_lamp_31 : decode cX10_lamp 31 = .ok (.if_icmp .lt 7, 3) := by decide +kernel
theorem dX10_lamp_34 : decode cX10_lamp 34 = .ok (.sipush (-1004), 3) := by decide +kernel
theorem dX10_lamp_37 : decode cX10_lamp 37 = .ok (.ireturn, 1) := by decide +kernel
theorem dX10_lamp_38 : decode cX10_lamp 38 = .ok (.aload_n 0, 1) := by decide +kernel
theorem dX10_lamp_39 : decode cX10_lamp 39 = .ok (.getfield 35, 3) := by decide +kernel
theorem dX10_lamp_42 : decode cX10_lamp 42 = .ok (.iload_n 1, 1) := by decide +kernel
theorem dX10_lamp_43 : decode cX10_lamp 43 = .ok (.iload_n 2, 1) := by decide +kernel
theorem dX10_lamp_44 : decode cX10_lamp 44 = .ok (.invokevirtual 172, 3) := by decide +kernel
theorem dX10_lamp_47 : decode cX10_lamp 47 = .ok (.ireturn, 1) := by decide +kernel
theorem dX10_told_0 : decode cX10_told 0 = .ok (.aload_n 0, 1) := by decide +kernel
theorem dX10_told_1 : decode cX10_told 1 = .ok (.iload_n 1, 1) := by decide +kernel
theorem dX10_told_2 : decode cX10_told 2 = .ok (.invokevirtual 175, 3) := by decide +kernel
theorem dX10_told_5 : decode cX10_told 5 = .ok (.ifCond .ne 7, 3) := by decide +kernel
theorem dX10_told_8 : decode cX10_told 8 = .ok (.sipush (-1001), 3) := by decide +kernel
theorem dX10_told_11 : decode cX10_told 11 = .ok (.ireturn, 1) := by decide +kernel
theorem dX10_told_12 : decode cX10_told 12 = .ok (.iload_n 2, 1) := by decide +kernel
theorem dX10_told_13 : decode cX10_told 13 = .ok (.tableswitch 63 0 2 #[27, 37, 50], 27) := by decide +kernel
theorem dX10_told_40 : decode cX10_told 40 = .ok (.aload_n 0, 1) := by decide +kernel
theorem dX10_told_41 : decode cX10_told 41 = .ok (.getfield 35, 3) := by decide +kernel
theorem dX10_told_44 : decode cX10_told 44 = .ok (.getfield 178, 3) := by decide +kernel
theorem dX10_told_47 : decode cX10_told 47 = .ok (.iload_n 1, 1) := by decide +kernel
theorem dX10_told_48 : decode cX10_told 48 = .ok (.iaload, 1) := by decide +kernel
theorem dX10_told_49 : decode cX10_told 49 = .ok (.ireturn, 1) := by decide +kernel
theorem dX10_told_50 : decode cX10_told 50 = .ok (.aload_n 0, 1) := by decide +kernel
theorem dX10_told_51 : decode cX10_told 51 = .ok (.getfield 35, 3) := by decide +kernel
theorem dX10_told_54 : decode cX10_told 54 = .ok (.getfield 182, 3) := by decide +kernel
theorem dX10_told_57 : decode cX10_told 57 = .ok (.iload_n 1, 1) := by decide +kernel
theorem dX10_told_58 : decode cX10_told 58 = .ok (.baload, 1) := by decide +kernel
theorem dX10_told_59 : decode cX10_told 59 = .ok (.invokestatic 136, 3) := by decide +kernel
theorem dX10_told_62 : decode cX10_told 62 = .ok (.ireturn, 1) := by decide +kernel
theorem dX10_told_63 : decode cX10_told 63 = .ok (.aload_n 0, 1) := by decide +kernel
theorem dX10_told_64 : decode cX10_told 64 = .ok (.getfield 35, 3) := by decide +kernel
theorem dX10_told_67 : decode cX10_told 67 = .ok (.getfield 185, 3) := by decide +kernel
theorem dX10_told_70 : decode cX10_told 70 = .ok (.iload_n 1, 1) := by decide +kernel
theorem dX10_told_71 : decode cX10_told 71 = .ok (.baload, 1) := by decide +kernel
theorem dX10_told_72 : decode cX10_told 72 = .ok (.invokestatic 136, 3) := by decide +kernel
theorem dX10_told_75 : decode cX10_told 75 = .ok (.ireturn, 1) := by decide +kernel
theorem dX10_told_76 : decode cX10_told 76 = .ok (.sipush (-1002), 3) := by decide +kernel
theorem dX10_told_79 : decode cX10_told 79 = .ok (.ireturn, 1) := by decide +kernel
theorem dX10_light_0 : decode cX10_light 0 = .ok (.aload_n 0, 1) := by decide +kernel
theorem dX10_light_1 : decode cX10_light 1 = .ok (.iload_n 1, 1) := by decide +kernel
theorem dX10_light_2 : decode cX10_light 2 = .ok (.invokevirtual 188, 3) := by decide +kernel
theorem dX10_light_5 : decode cX10_light 5 = .ok (.ifCond .ne 7, 3) := by decide +kernel
theorem dX10_light_8 : decode cX10_light 8 = .ok (.sipush (-1001), 3) := by decide +kernel
theorem dX10_light_11 : decode cX10_light 11 = .ok (.ireturn, 1) := by decide +kernel
theorem dX10_light_12 : decode cX10_light 12 = .ok (.iload_n 2, 1) := by decide +kernel
theorem dX10_light_13 : decode cX10_light 13 = .ok (.lookupswitch 47 #[(0, 27), (1, 37)], 27) := by decide +kernel
theorem dX10_light_40 : decode cX10_light 40 = .ok (.aload_n 0, 1) := by decide +kernel
theorem dX10_light_41 : decode cX10_light 41 = .ok (.getfield 35, 3) := by decide +kernel
theorem dX10_light_44 : decode cX10_light 44 = .ok (.getfield 191, 3) := by decide +kernel
theorem dX10_light_47 : decode cX10_light 47 = .ok (.iload_n 1, 1) := by decide +kernel
theorem dX10_light_48 : decode cX10_light 48 = .ok (.iaload, 1) := by decide +kernel
theorem dX10_light_49 : decode cX10_light 49 = .ok (.ireturn, 1) := by decide +kernel
theorem dX10_light_50 : decode cX10_light 50 = .ok (.aload_n 0, 1) := by decide +kernel
theorem dX10_light_51 : decode cX10_light 51 = .ok (.getfield 35, 3) := by decide +kernel
theorem dX10_light_54 : decode cX10_light 54 = .ok (.getfield 194, 3) := by decide +kernel
theorem dX10_light_57 : decode cX10_light 57 = .ok (.iload_n 1, 1) := by decide +kernel
theorem dX10_light_58 : decode cX10_light 58 = .ok (.iaload, 1) := by decide +kernel
theorem dX10_light_59 : decode cX10_light 59 = .ok (.ireturn, 1) := by decide +kernel
theorem dX10_light_60 : decode cX10_light 60 = .ok (.sipush (-1002), 3) := by decide +kernel
theorem dX10_light_63 : decode cX10_light 63 = .ok (.ireturn, 1) := by decide +kernel
theorem dX10_moves_0 : decode cX10_moves 0 = .ok (.aload_n 0, 1) := by decide +kernel
theorem dX10_moves_1 : decode cX10_moves 1 = .ok (.iload_n 1, 1) := by decide +kernel
theorem dX10_moves_2 : decode cX10_moves 2 = .ok (.invokevirtual 175, 3) := by decide +kernel
theorem dX10_moves_5 : decode cX10_moves 5 = .ok (.ifCond .eq 11, 3) := by decide +kernel
theorem dX10_moves_8 : decode cX10_moves 8 = .ok (.aload_n 0, 1) := by decide +kernel
theorem dX10_moves_9 : decode cX10_moves 9 = .ok (.iload_n 2, 1) := by decide +kernel
theorem dX10_moves_10 : decode cX10_moves 10 = .ok (.invokevirtual 162, 3) := by decide +kernel
theorem dX10_moves_13 : decode cX10_moves 13 = .ok (.ifCond .ne 7, 3) := by decide +kernel
theorem dX10_moves_16 : decode cX10_moves 16 = .ok (.sipush (-1001), 3) := by decide +kernel
theorem dX10_moves_19 : decode cX10_moves 19 = .ok (.ireturn, 1) := by decide +kernel
theorem dX10_moves_20 : decode cX10_moves 20 = .ok (.aload_n 0, 1) := by decide +kernel
theorem dX10_moves_21 : decode cX10_moves 21 = .ok (.getfield 35, 3) := by decide +kernel
theorem dX10_moves_24 : decode cX10_moves 24 = .ok (.getfield 178, 3) := by decide +kernel
theorem dX10_moves_27 : decode cX10_moves 27 = .ok (.iload_n 1, 1) := by decide +kernel
theorem dX10_moves_28 : decode cX10_moves 28 = .ok (.iaload, 1) := by decide +kernel
theorem dX10_moves_29 : decode cX10_moves 29 = .ok (.istore 4, 2) := by decide +kernel
theorem dX10_moves_31 : decode cX10_moves 31 = .ok (.aload_n 0, 1) := by decide +kernel
theorem dX10_moves_32 : decode cX10_moves 32 = .ok (.getfield 35, 3) := by decide +kernel
theorem dX10_moves_35 : decode cX10_moves 35 = .ok (.getfield 178, 3) := by decide +kernel
theorem dX10_moves_38 : decode cX10_moves 38 = .ok (.iload_n 1, 1) := by decide +kernel
theorem dX10_moves_39 : decode cX10_moves 39 = .ok (.iload_n 2, 1) := by decide +kernel
theorem dX10_moves_40 : decode cX10_moves 40 = .ok (.iastore, 1) := by decide +kernel
theorem dX10_moves_41 : decode cX10_moves 41 = .ok (.aload_n 0, 1) := by decide +kernel
theorem dX10_moves_42 : decode cX10_moves 42 = .ok (.getfield 35, 3) := by decide +kernel
theorem dX10_moves_45 : decode cX10_moves 45 = .ok (.getfield 182, 3) := by decide +kernel
theorem dX10_moves_48 : decode cX10_moves 48 = .ok (.iload_n 1, 1) := by decide +kernel
theorem dX10_moves_49 : decode cX10_moves 49 = .ok (.iload_n 3, 1) := by decide +kernel
theorem dX10_moves_50 : decode cX10_moves 50 = .ok (.bastore, 1) := by decide +kernel
theorem dX10_moves_51 : decode cX10_moves 51 = .ok (.iload 4, 2) := by decide +kernel
theorem dX10_moves_53 : decode cX10_moves 53 = .ok (.ireturn, 1) := by decide +kernel
theorem dX10_soonest_0 : decode cX10_soonest 0 = .ok (.aload_n 0, 1) := by decide +kernel
theorem dX10_soonest_1 : decode cX10_soonest 1 = .ok (.iload_n 1, 1) := by decide +kernel
theorem dX10_soonest_2 : decode cX10_soonest 2 = .ok (.invokevirtual 162, 3) := by decide +kernel
theorem dX10_soonest_5 : decode cX10_soonest 5 = .ok (.ifCond .eq 11, 3) := by decide +kernel
theorem dX10_soonest_8 : decode cX10_soonest 8 = .ok (.aload_n 0, 1) := by decide +kernel
theorem dX10_soonest_9 : decode cX10_soonest 9 = .ok (.iload_n 2, 1) := by decide +kernel
theorem dX10_soonest_10 : decode cX10_soonest 10 = .ok (.invokevirtual 162, 3) := by decide +kernel
theorem dX10_soonest_13 : decode cX10_soonest 13 = .ok (.ifCond .ne 7, 3) := by decide +kernel
theorem dX10_soonest_16 : decode cX10_soonest 16 = .ok (.sipush (-1001), 3) := by decide +kernel
theorem dX10_soonest_19 : decode cX10_soonest 19 = .ok (.ireturn, 1) := by decide +kernel
theorem dX10_soonest_20 : decode cX10_soonest 20 = .ok (.iload_n 3, 1) := by decide +kernel
theorem dX10_soonest_21 : decode cX10_soonest 21 = .ok (.invokestatic 169, 3) := by decide +kernel
theorem dX10_soonest_24 : decode cX10_soonest 24 = .ok (.ifCond .eq 11, 3) := by decide +kernel
theorem dX10_soonest_27 : decode cX10_soonest 27 = .ok (.iload 4, 2) := by decide +kernel
theorem dX10_soonest_29 : decode cX10_soonest 29 = .ok (.invokestatic 197, 3) := by decide +kernel
theorem dX10_soonest_32 : decode cX10_soonest 32 = .ok (.ifCond .ne 7, 3) := by decide +kernel
theorem dX10_soonest_35 : decode cX10_soonest 35 = .ok (.sipush (-1002), 3) := by decide +kernel
theorem dX10_soonest_38 : decode cX10_soonest 38 = .ok (.ireturn, 1) := by decide +kernel
theorem dX10_soonest_39 : decode cX10_soonest 39 = .ok (.aload_n 0, 1) := by decide +kernel
theorem dX10_soonest_40 : decode cX10_soonest 40 = .ok (.getfield 59, 3) := by decide +kernel
theorem dX10_soonest_43 : decode cX10_soonest 43 = .ok (.iload 4, 2) := by decide +kernel
theorem dX10_soonest_45 : decode cX10_soonest 45 = .ok (.iload 5, 2) := by decide +kernel
theorem dX10_soonest_47 : decode cX10_soonest 47 = .ok (.invokevirtual 200, 3) := by decide +kernel
theorem dX10_soonest_50 : decode cX10_soonest 50 = .ok (.aload_n 0, 1) := by decide +kernel
theorem dX10_soonest_51 : decode cX10_soonest 51 = .ok (.getfield 59, 3) := by decide +kernel
theorem dX10_soonest_54 : decode cX10_soonest 54 = .ok (.iload_n 1, 1) := by decide +kernel
theorem dX10_soonest_55 : decode cX10_soonest 55 = .ok (.iload_n 3, 1) := by decide +kernel
theorem dX10_soonest_56 : decode cX10_soonest 56 = .ok (.invokevirtual 204, 3) := by decide +kernel
theorem dX10_soonest_59 : decode cX10_soonest 59 = .ok (.aload_n 0, 1) := by decide +kernel
theorem dX10_soonest_60 : decode cX10_soonest 60 = .ok (.getfield 59, 3) := by decide +kernel
theorem dX10_soonest_63 : decode cX10_soonest 63 = .ok (.getfield 208, 3) := by decide +kernel
theorem dX10_soonest_66 : decode cX10_soonest 66 = .ok (.iload_n 2, 1) := by decide +kernel
theorem dX10_soonest_67 : decode cX10_soonest 67 = .ok (.iaload, 1) := by decide +kernel
theorem dX10_soonest_68 : decode cX10_soonest 68 = .ok (.ireturn, 1) := by decide +kernel
theorem dX10_last_0 : decode cX10_last 0 = .ok (.aload_n 0, 1) := by decide +kernel
theorem dX10_last_1 : decode cX10_last 1 = .ok (.iload_n 1, 1) := by decide +kernel
theorem dX10_last_2 : decode cX10_last 2 = .ok (.invokevirtual 162, 3) := by decide +kernel
theorem dX10_last_5 : decode cX10_last 5 = .ok (.ifCond .ne 7, 3) := by decide +kernel
theorem dX10_last_8 : decode cX10_last 8 = .ok (.sipush (-1001), 3) := by decide +kernel
theorem dX10_last_11 : decode cX10_last 11 = .ok (.ireturn, 1) := by decide +kernel
theorem dX10_last_12 : decode cX10_last 12 = .ok (.iload_n 2, 1) := by decide +kernel
theorem dX10_last_13 : decode cX10_last 13 = .ok (.invokestatic 197, 3) := by decide +kernel
theorem dX10_last_16 : decode cX10_last 16 = .ok (.ifCond .ne 7, 3) := by decide +kernel
theorem dX10_last_19 : decode cX10_last 19 = .ok (.sipush (-1002), 3) := by decide +kernel
theorem dX10_last_22 : decode cX10_last 22 = .ok (.ireturn, 1) := by decide +kernel
theorem dX10_last_23 : decode cX10_last 23 = .ok (.aload_n 0, 1) := by decide +kernel
theorem dX10_last_24 : decode cX10_last 24 = .ok (.getfield 59, 3) := by decide +kernel
theorem dX10_last_27 : decode cX10_last 27 = .ok (.iload_n 2, 1) := by decide +kernel
theorem dX10_last_28 : decode cX10_last 28 = .ok (.iload_n 3, 1) := by decide +kernel
theorem dX10_last_29 : decode cX10_last 29 = .ok (.invokevirtual 200, 3) := by decide +kernel
theorem dX10_last_32 : decode cX10_last 32 = .ok (.aload_n 0, 1) := by decide +kernel
theorem dX10_last_33 : decode cX10_last 33 = .ok (.getfield 59, 3) := by decide +kernel
theorem dX10_last_36 : decode cX10_last 36 = .ok (.aload_n 0, 1) := by decide +kernel
theorem dX10_last_37 : decode cX10_last 37 = .ok (.getfield 28, 3) := by decide +kernel
theorem dX10_last_40 : decode cX10_last 40 = .ok (.getfield 153, 3) := by decide +kernel
theorem dX10_last_43 : decode cX10_last 43 = .ok (.bipush 99, 2) := by decide +kernel
theorem dX10_last_45 : decode cX10_last 45 = .ok (.invokevirtual 211, 3) := by decide +kernel
theorem dX10_last_48 : decode cX10_last 48 = .ok (.aload_n 0, 1) := by decide +kernel
theorem dX10_last_49 : decode cX10_last 49 = .ok (.getfield 59, 3) := by decide +kernel
theorem dX10_last_52 : decode cX10_last 52 = .ok (.getfield 214, 3) := by decide +kernel
theorem dX10_last_55 : decode cX10_last 55 = .ok (.iload_n 1, 1) := by decide +kernel
theorem dX10_last_56 : decode cX10_last 56 = .ok (.iaload, 1) := by decide +kernel
theorem dX10_last_57 : decode cX10_last 57 = .ok (.ireturn, 1) := by decide +kernel
theorem dX10_open_0 : decode cX10_open 0 = .ok (.iload_n 1, 1) := by decide +kernel
theorem dX10_open_1 : decode cX10_open 1 = .ok (.invokestatic 169, 3) := by decide +kernel
theorem dX10_open_4 : decode cX10_open 4 = .ok (.ifCond .eq 10, 3) := by decide +kernel
theorem dX10_open_7 : decode cX10_open 7 = .ok (.iload_n 2, 1) := by decide +kernel
theorem dX10_open_8 : decode cX10_open 8 = .ok (.invokestatic 197, 3) := by decide +kernel
theorem dX10_open_11 : decode cX10_open 11 = .ok (.ifCond .ne 7, 3) := by decide +kernel
theorem dX10_open_14 : decode cX10_open 14 = .ok (.sipush (-1002), 3) := by decide +kernel
theorem dX10_open_17 : decode cX10_open 17 = .ok (.ireturn, 1) := by decide +kernel
theorem dX10_open_18 : decode cX10_open 18 = .ok (.aload_n 0, 1) := by decide +kernel
theorem dX10_open_19 : decode cX10_open 19 = .ok (.getfield 59, 3) := by decide +kernel
theorem dX10_open_22 : decode cX10_open 22 = .ok (.iload_n 2, 1) := by decide +kernel
theorem dX10_open_23 : decode cX10_open 23 = .ok (.iload_n 3, 1) := by decide +kernel
theorem dX10_open_24 : decode cX10_open 24 = .ok (.invokevirtual 200, 3) := by decide +kernel
theorem dX10_open_27 : decode cX10_open 27 = .ok (.aload_n 0, 1) := by decide +kernel
theorem dX10_open_28 : decode cX10_open 28 = .ok (.getfield 59, 3) := by decide +kernel
theorem dX10_open_31 : decode cX10_open 31 = .ok (.aload_n 0, 1) := by decide +kernel
theorem dX10_open_32 : decode cX10_open 32 = .ok (.getfield 28, 3) := by decide +kernel
theorem dX10_open_35 : decode cX10_open 35 = .ok (.getfield 153, 3) := by decide +kernel
theorem dX10_open_38 : decode cX10_open 38 = .ok (.bipush 99, 2) := by decide +kernel
theorem dX10_open_40 : decode cX10_open 40 = .ok (.invokevirtual 211, 3) := by decide +kernel
theorem dX10_open_43 : decode cX10_open 43 = .ok (.iconst 0, 1) := by decide +kernel
theorem dX10_open_44 : decode cX10_open 44 = .ok (.istore 4, 2) := by decide +kernel
theorem dX10_open_46 : decode cX10_open 46 = .ok (.iconst 0, 1) := by decide +kernel
theorem dX10_open_47 : decode cX10_open 47 = .ok (.istore 5, 2) := by decide +kernel
theorem dX10_open_49 : decode cX10_open 49 = .ok (.iload 5, 2) := by decide +kernel
theorem dX10_open_51 : decode cX10_open 51 = .ok (.aload_n 0, 1) := by decide +kernel
theorem dX10_open_52 : decode cX10_open 52 = .ok (.getfield 28, 3) := by decide +kernel
theorem dX10_open_55 : decode cX10_open 55 = .ok (.getfield 144, 3) := by decide +kernel
theorem dX10_open_58 : decode cX10_open 58 = .ok (.if_icmp .ge 32, 3) := by decide +kernel
theorem dX10_open_61 : decode cX10_open 61 = .ok (.aload_n 0, 1) := by decide +kernel
theorem dX10_open_62 : decode cX10_open 62 = .ok (.getfield 59, 3) := by decide +kernel
theorem dX10_open_65 : decode cX10_open 65 = .ok (.getfield 214, 3) := by decide +kernel
theorem dX10_open_68 : decode cX10_open 68 = .ok (.iload 5, 2) := by decide +kernel
theorem dX10_open_70 : decode cX10_open 70 = .ok (.iaload, 1) := by decide +kernel
theorem dX10_open_71 : decode cX10_open 71 = .ok (.iload_n 1, 1) := by decide +kernel
theorem dX10_open_72 : decode cX10_open 72 = .ok (.if_icmp .lt 12, 3) := by decide +kernel
theorem dX10_open_75 : decode cX10_open 75 = .ok (.iload 4, 2) := by decide +kernel
theorem dX10_open_77 : decode cX10_open 77 = .ok (.iconst 1, 1) := by decide +kernel
theorem dX10_open_78 : decode cX10_open 78 = .ok (.iload 5, 2) := by decide +kernel
theorem dX10_open_80 : decode cX10_open 80 = .ok (.ishl, 1) := by decide +kernel
theorem dX10_open_81 : decode cX10_open 81 = .ok (.ior, 1) := by decide +kernel
theorem dX10_open_82 : decode cX10_open 82 = .ok (.istore 4, 2) := by decide +kernel
theorem dX10_open_84 : decode cX10_open 84 = .ok (.iinc 5 1, 3) := by decide +kernel
theorem dX10_open_87 : decode cX10_open 87 = .ok (.goto (-38), 3) := by decide +kernel
theorem dX10_open_90 : decode cX10_open 90 = .ok (.iload 4, 2) := by decide +kernel
theorem dX10_open_92 : decode cX10_open 92 = .ok (.ireturn, 1) := by decide +kernel
theorem dX10_most_0 : decode cX10_most 0 = .ok (.iload_n 1, 1) := by decide +kernel
theorem dX10_most_1 : decode cX10_most 1 = .ok (.iconst 0, 1) := by decide +kernel
theorem dX10_most_2 : decode cX10_most 2 = .ok (.bipush 60, 2) := by decide +kernel
theorem dX10_most_4 : decode cX10_most 4 = .ok (.invokestatic 99, 3) := by decide +kernel
theorem dX10_most_7 : decode cX10_most 7 = .ok (.ifCond .ne 7, 3) := by decide +kernel
theorem dX10_most_10 : decode cX10_most 10 = .ok (.sipush (-1002), 3) := by decide +kernel
theorem dX10_most_13 : decode cX10_most 13 = .ok (.ireturn, 1) := by decide +kernel
theorem dX10_most_14 : decode cX10_most 14 = .ok (.aload_n 0, 1) := by decide +kernel
theorem dX10_most_15 : decode cX10_most 15 = .ok (.invokevirtual 217, 3) := by decide +kernel
theorem dX10_most_18 : decode cX10_most 18 = .ok (.ifCond .eq 7, 3) := by decide +kernel
theorem dX10_most_21 : decode cX10_most 21 = .ok (.sipush (-1003), 3) := by decide +kernel
theorem dX10_most_24 : decode cX10_most 24 = .ok (.ireturn, 1) := by decide +kernel
theorem dX10_most_25 : decode cX10_most 25 = .ok (.aload_n 0, 1) := by decide +kernel
theorem dX10_most_26 : decode cX10_most 26 = .ok (.getfield 66, 3) := by decide +kernel
theorem dX10_most_29 : decode cX10_most 29 = .ok (.iload_n 1, 1) := by decide +kernel
theorem dX10_most_30 : decode cX10_most 30 = .ok (.invokevirtual 221, 3) := by decide +kernel
theorem dX10_most_33 : decode cX10_most 33 = .ok (.ireturn, 1) := by decide +kernel
theorem dX10_cut_0 : decode cX10_cut 0 = .ok (.iload_n 1, 1) := by decide +kernel
theorem dX10_cut_1 : decode cX10_cut 1 = .ok (.iconst 0, 1) := by decide +kernel
theorem dX10_cut_2 : decode cX10_cut 2 = .ok (.bipush 60, 2) := by decide +kernel
theorem dX10_cut_4 : decode cX10_cut 4 = .ok (.invokestatic 99, 3) := by decide +kernel
theorem dX10_cut_7 : decode cX10_cut 7 = .ok (.ifCond .ne 7, 3) := by decide +kernel
theorem dX10_cut_10 : decode cX10_cut 10 = .ok (.sipush (-1002), 3) := by decide +kernel
theorem dX10_cut_13 : decode cX10_cut 13 = .ok (.ireturn, 1) := by decide +kernel
theorem dX10_cut_14 : decode cX10_cut 14 = .ok (.aload_n 0, 1) := by decide +kernel
theorem dX10_cut_15 : decode cX10_cut 15 = .ok (.invokevirtual 217, 3) := by decide +kernel
theorem dX10_cut_18 : decode cX10_cut 18 = .ok (.ifCond .eq 7, 3) := by decide +kernel
theorem dX10_cut_21 : decode cX10_cut 21 = .ok (.sipush (-1003), 3) := by decide +kernel
theorem dX10_cut_24 : decode cX10_cut 24 = .ok (.ireturn, 1) := by decide +kernel
theorem dX10_cut_25 : decode cX10_cut 25 = .ok (.aload_n 0, 1) := by decide +kernel
theorem dX10_cut_26 : decode cX10_cut 26 = .ok (.getfield 66, 3) := by decide +kernel
theorem dX10_cut_29 : decode cX10_cut 29 = .ok (.iload_n 1, 1) := by decide +kernel
theorem dX10_cut_30 : decode cX10_cut 30 = .ok (.invokevirtual 221, 3) := by decide +kernel
theorem dX10_cut_33 : decode cX10_cut 33 = .ok (.istore_n 2, 1) := by decide +kernel
theorem dX10_cut_34 : decode cX10_cut 34 = .ok (.iload_n 2, 1) := by decide +kernel
theorem dX10_cut_35 : decode cX10_cut 35 = .ok (.aload_n 0, 1) := by decide +kernel
theorem dX10_cut_36 : decode cX10_cut 36 = .ok (.getfield 35, 3) := by decide +kernel
theorem dX10_cut_39 : decode cX10_cut 39 = .ok (.getfield 147, 3) := by decide +kernel
theorem dX10_cut_42 : decode cX10_cut 42 = .ok (.if_icmp .ne 7, 3) := by decide +kernel
theorem dX10_cut_45 : decode cX10_cut 45 = .ok (.iconst 0, 1) := by decide +kernel
theorem dX10_cut_46 : decode cX10_cut 46 = .ok (.goto 10, 3) := by decide +kernel
theorem dX10_cut_49 : decode cX10_cut 49 = .ok (.aload_n 0, 1) := by decide +kernel
theorem dX10_cut_50 : decode cX10_cut 50 = .ok (.getfield 66, 3) := by decide +kernel
theorem dX10_cut_53 : decode cX10_cut 53 = .ok (.invokevirtual 225, 3) := by decide +kernel
theorem dX10_cut_56 : decode cX10_cut 56 = .ok (.ireturn, 1) := by decide +kernel
theorem dX10_up_0 : decode cX10_up 0 = .ok (.iload_n 2, 1) := by decide +kernel
theorem dX10_up_1 : decode cX10_up 1 = .ok (.iconst (-1), 1) := by decide +kernel
theorem dX10_up_2 : decode cX10_up 2 = .ok (.if_icmp .eq 15, 3) := by decide +kernel
theorem dX10_up_5 : decode cX10_up 5 = .ok (.aload_n 0, 1) := by decide +kernel
theorem dX10_up_6 : decode cX10_up 6 = .ok (.iload_n 2, 1) := by decide +kernel
theorem dX10_up_7 : decode cX10_up 7 = .ok (.invokevirtual 162, 3) := by decide +kernel
theorem dX10_up_10 : decode cX10_up 10 = .ok (.ifCond .ne 7, 3) := by decide +kernel
theorem dX10_up_13 : decode cX10_up 13 = .ok (.sipush (-1001), 3) := by decide +kernel
theorem dX10_up_16 : decode cX10_up 16 = .ok (.ireturn, 1) := by decide +kernel
theorem dX10_up_17 : decode cX10_up 17 = .ok (.iload_n 1, 1) := by decide +kernel
theorem dX10_up_18 : decode cX10_up 18 = .ok (.iconst 0, 1) := by decide +kernel
theorem dX10_up_19 : decode cX10_up 19 = .ok (.bipush 7, 2) := by decide +kernel
theorem dX10_up_21 : decode cX10_up 21 = .ok (.invokestatic 99, 3) := by decide +kernel
theorem dX10_up_24 : decode cX10_up 24 = .ok (.ifCond .ne 7, 3) := by decide +kernel
theorem dX10_up_27 : decode cX10_up 27 = .ok (.sipush (-1002), 3) := by decide +kernel
theorem dX10_up_30 : decode cX10_up 30 = .ok (.ireturn, 1) := by decide +kernel
theorem dX10_up_31 : decode cX10_up 31 = .ok (.aload_n 0, 1) := by decide +kernel
theorem dX10_up_32 : decode cX10_up 32 = .ok (.invokevirtual 217, 3) := by decide +kernel
theorem dX10_up_35 : decode cX10_up 35 = .ok (.ifCond .eq 7, 3) := by decide +kernel
theorem dX10_up_38 : decode cX10_up 38 = .ok (.sipush (-1003), 3) := by decide +kernel
theorem dX10_up_41 : decode cX10_up 41 = .ok (.ireturn, 1) := by decide +kernel
theorem dX10_up_42 : decode cX10_up 42 = .ok (.aload_n 0, 1) := by decide +kernel
theorem dX10_up_43 : decode cX10_up 43 = .ok (.getfield 75, 3) := by decide +kernel
theorem dX10_up_46 : decode cX10_up 46 = .ok (.invokevirtual 228, 3) := by decide +kernel
theorem dX10_up_49 : decode cX10_up 49 = .ok (.iload_n 2, 1) := by decide +kernel
theorem dX10_up_50 : decode cX10_up 50 = .ok (.iconst (-1), 1) := by decide +kernel
theorem dX10_up_51 : decode cX10_up 51 = .ok (.if_icmp .ne 14, 3) := by decide +kernel
theorem dX10_up_54 : decode cX10_up 54 = .ok (.aload_n 0, 1) := by decide +kernel
theorem dX10_up_55 : decode cX10_up 55 = .ok (.getfield 75, 3) := by decide +kernel
theorem dX10_up_58 : decode cX10_up 58 = .ok (.iload_n 1, 1) := by decide +kernel
theorem dX10_up_59 : decode cX10_up 59 = .ok (.invokevirtual 231, 3) := by decide +kernel
theorem dX10_up_62 : decode cX10_up 62 = .ok (.goto 12, 3) := by decide +kernel
theorem dX10_up_65 : decode cX10_up 65 = .ok (.aload_n 0, 1) := by decide +kernel
theorem dX10_up_66 : decode cX10_up 66 = .ok (.getfield 75, 3) := by decide +kernel
theorem dX10_up_69 : decode cX10_up 69 = .ok (.iload_n 2, 1) := by decide +kernel
theorem dX10_up_70 : decode cX10_up 70 = .ok (.iload_n 1, 1) := by decide +kernel
theorem dX10_up_71 : decode cX10_up 71 = .ok (.invokevirtual 234, 3) := by decide +kernel
theorem dX10_up_74 : decode cX10_up 74 = .ok (.ireturn, 1) := by decide +kernel
theorem dX10_lent_0 : decode cX10_lent 0 = .ok (.aload_n 0, 1) := by decide +kernel
theorem dX10_lent_1 : decode cX10_lent 1 = .ok (.iload_n 1, 1) := by decide +kernel
theorem dX10_lent_2 : decode cX10_lent 2 = .ok (.invokevirtual 188, 3) := by decide +kernel
theorem dX10_lent_5 : decode cX10_lent 5 = .ok (.ifCond .eq 11, 3) := by decide +kernel
theorem dX10_lent_8 : decode cX10_lent 8 = .ok (.aload_n 0, 1) := by decide +kernel
theorem dX10_lent_9 : decode cX10_lent 9 = .ok (.iload_n 2, 1) := by decide +kernel
theorem dX10_lent_10 : decode cX10_lent 10 = .ok (.invokevirtual 162, 3) := by decide +kernel
theorem dX10_lent_13 : decode cX10_lent 13 = .ok (.ifCond .ne 7, 3) := by decide +kernel
theorem dX10_lent_16 : decode cX10_lent 16 = .ok (.sipush (-1001), 3) := by decide +kernel
theorem dX10_lent_19 : decode cX10_lent 19 = .ok (.ireturn, 1) := by decide +kernel
theorem dX10_lent_20 : decode cX10_lent 20 = .ok (.aload_n 0, 1) := by decide +kernel
theorem dX10_lent_21 : decode cX10_lent 21 = .ok (.getfield 75, 3) := by decide +kernel
theorem dX10_lent_24 : decode cX10_lent 24 = .ok (.iload_n 1, 1) := by decide +kernel
theorem dX10_lent_25 : decode cX10_lent 25 = .ok (.iload_n 2, 1) := by decide +kernel
theorem dX10_lent_26 : decode cX10_lent 26 = .ok (.invokevirtual 237, 3) := by decide +kernel
theorem dX10_lent_29 : decode cX10_lent 29 = .ok (.ireturn, 1) := by decide +kernel
theorem dX10_mark_0 : decode cX10_mark 0 = .ok (.aload_n 0, 1) := by decide +kernel
theorem dX10_mark_1 : decode cX10_mark 1 = .ok (.iload_n 1, 1) := by decide +kernel
theorem dX10_mark_2 : decode cX10_mark 2 = .ok (.invokevirtual 188, 3) := by decide +kernel
theorem dX10_mark_5 : decode cX10_mark 5 = .ok (.ifCond .eq 11, 3) := by decide +kernel
theorem dX10_mark_8 : decode cX10_mark 8 = .ok (.aload_n 0, 1) := by decide +kernel
theorem dX10_mark_9 : decode cX10_mark 9 = .ok (.iload_n 2, 1) := by decide +kernel
theorem dX10_mark_10 : decode cX10_mark 10 = .ok (.invokevirtual 162, 3) := by decide +kernel
theorem dX10_mark_13 : decode cX10_mark 13 = .ok (.ifCond .ne 7, 3) := by decide +kernel
theorem dX10_mark_16 : decode cX10_mark 16 = .ok (.sipush (-1001), 3) := by decide +kernel
theorem dX10_mark_19 : decode cX10_mark 19 = .ok (.ireturn, 1) := by decide +kernel
theorem dX10_mark_20 : decode cX10_mark 20 = .ok (.iload_n 3, 1) := by decide +kernel
theorem dX10_mark_21 : decode cX10_mark 21 = .ok (.iconst 0, 1) := by decide +kernel
theorem dX10_mark_22 : decode cX10_mark 22 = .ok (.bipush 7, 2) := by decide +kernel
theorem dX10_mark_24 : decode cX10_mark 24 = .ok (.invokestatic 99, 3) := by decide +kernel
theorem dX10_mark_27 : decode cX10_mark 27 = .ok (.ifCond .ne 7, 3) := by decide +kernel
theorem dX10_mark_30 : decode cX10_mark 30 = .ok (.sipush (-1002), 3) := by decide +kernel
theorem dX10_mark_33 : decode cX10_mark 33 = .ok (.ireturn, 1) := by decide +kernel
theorem dX10_mark_34 : decode cX10_mark 34 = .ok (.aload_n 0, 1) := by decide +kernel
theorem dX10_mark_35 : decode cX10_mark 35 = .ok (.getfield 75, 3) := by decide +kernel
theorem dX10_mark_38 : decode cX10_mark 38 = .ok (.invokevirtual 228, 3) := by decide +kernel
theorem dX10_mark_41 : decode cX10_mark 41 = .ok (.aload_n 0, 1) := by decide +kernel
theorem dX10_mark_42 : decode cX10_mark 42 = .ok (.getfield 75, 3) := by decide +kernel
theorem dX10_mark_45 : decode cX10_mark 45 = .ok (.iload_n 3, 1) := by decide +kernel
theorem dX10_mark_46 : decode cX10_mark 46 = .ok (.invokevirtual 231, 3) := by decide +kernel
theorem dX10_mark_49 : decode cX10_mark 49 = .ok (.istore 4, 2) := by decide +kernel
theorem dX10_mark_51 : decode cX10_mark 51 = .ok (.aload_n 0, 1) := by decide +kernel
theorem dX10_mark_52 : decode cX10_mark 52 = .ok (.getfield 75, 3) := by decide +kernel
theorem dX10_mark_55 : decode cX10_mark 55 = .ok (.iload_n 1, 1) := by decide +kernel
theorem dX10_mark_56 : decode cX10_mark 56 = .ok (.iload_n 2, 1) := by decide +kernel
theorem dX10_mark_57 : decode cX10_mark 57 = .ok (.invokevirtual 240, 3) := by decide +kernel
theorem dX10_mark_60 : decode cX10_mark 60 = .ok (.bipush 100, 2) := by decide +kernel
theorem dX10_mark_62 : decode cX10_mark 62 = .ok (.aload_n 0, 1) := by decide +kernel
theorem dX10_mark_63 : decode cX10_mark 63 = .ok (.getfield 75, 3) := by decide +kernel
theorem dX10_mark_66 : decode cX10_mark 66 = .ok (.iload_n 3, 1) := by decide +kernel
theorem dX10_mark_67 : decode cX10_mark 67 = .ok (.invokevirtual 231, 3) := by decide +kernel
theorem dX10_mark_70 : decode cX10_mark 70 = .ok (.iadd, 1) := by decide +kernel
theorem dX10_mark_71 : decode cX10_mark 71 = .ok (.iload 4, 2) := by decide +kernel
theorem dX10_mark_73 : decode cX10_mark 73 = .ok (.isub, 1) := by decide +kernel
theorem dX10_mark_74 : decode cX10_mark 74 = .ok (.ireturn, 1) := by decide +kernel
theorem dX10_tells_0 : decode cX10_tells 0 = .ok (.aload_n 0, 1) := by decide +kernel
theorem dX10_tells_1 : decode cX10_tells 1 = .ok (.iload_n 1, 1) := by decide +kernel
theorem dX10_tells_2 : decode cX10_tells 2 = .ok (.invokevirtual 175, 3) := by decide +kernel
theorem dX10_tells_5 : decode cX10_tells 5 = .ok (.ifCond .eq 18, 3) := by decide +kernel
theorem dX10_tells_8 : decode cX10_tells 8 = .ok (.iload 4, 2) := by decide +kernel
theorem dX10_tells_10 : decode cX10_tells 10 = .ok (.aload_n 0, 1) := by decide +kernel
theorem dX10_tells_11 : decode cX10_tells 11 = .ok (.getfield 35, 3) := by decide +kernel
theorem dX10_tells_14 : decode cX10_tells 14 = .ok (.invokevirtual 243, 3) := by decide +kernel
theorem dX10_tells_17 : decode cX10_tells 17 = .ok (.iconst (-1), 1) := by decide +kernel
theorem dX10_tells_18 : decode cX10_tells 18 = .ok (.ixor, 1) := by decide +kernel
theorem dX10_tells_19 : decode cX10_tells 19 = .ok (.iand, 1) := by decide +kernel
theorem dX10_tells_20 : decode cX10_tells 20 = .ok (.ifCond .eq 7, 3) := by decide +kernel
theorem dX10_tells_23 : decode cX10_tells 23 = .ok (.sipush (-1001), 3) := by decide +kernel
theorem dX10_tells_26 : decode cX10_tells 26 = .ok (.ireturn, 1) := by decide +kernel
theorem dX10_tells_27 : decode cX10_tells 27 = .ok (.iload_n 3, 1) := by decide +kernel
theorem dX10_tells_28 : decode cX10_tells 28 = .ok (.invokestatic 169, 3) := by decide +kernel
theorem dX10_tells_31 : decode cX10_tells 31 = .ok (.ifCond .eq 10, 3) := by decide +kernel
theorem dX10_tells_34 : decode cX10_tells 34 = .ok (.iload_n 2, 1) := by decide +kernel
theorem dX10_tells_35 : decode cX10_tells 35 = .ok (.invokestatic 197, 3) := by decide +kernel
theorem dX10_tells_38 : decode cX10_tells 38 = .ok (.ifCond .ne 7, 3) := by decide +kernel
theorem dX10_tells_41 : decode cX10_tells 41 = .ok (.sipush (-1002), 3) := by decide +kernel
theorem dX10_tells_44 : decode cX10_tells 44 = .ok (.ireturn, 1) := by decide +kernel
theorem dX10_tells_45 : decode cX10_tells 45 = .ok (.aload_n 0, 1) := by decide +kernel
theorem dX10_tells_46 : decode cX10_tells 46 = .ok (.iload_n 1, 1) := by decide +kernel
theorem dX10_tells_47 : decode cX10_tells 47 = .ok (.invokevirtual 246, 3) := by decide +kernel
theorem dX10_tells_50 : decode cX10_tells 50 = .ok (.ifCond .ne 7, 3) := by decide +kernel
theorem dX10_tells_53 : decode cX10_tells 53 = .ok (.sipush (-1003), 3) := by decide +kernel
theorem dX10_tells_56 : decode cX10_tells 56 = .ok (.ireturn, 1) := by decide +kernel
theorem dX10_tells_57 : decode cX10_tells 57 = .ok (.aload_n 0, 1) := by decide +kernel
theorem dX10_tells_58 : decode cX10_tells 58 = .ok (.getfield 82, 3) := by decide +kernel
theorem dX10_tells_61 : decode cX10_tells 61 = .ok (.invokevirtual 249, 3) := by decide +kernel
theorem dX10_tells_64 : decode cX10_tells 64 = .ok (.aload_n 0, 1) := by decide +kernel
theorem dX10_tells_65 : decode cX10_tells 65 = .ok (.getfield 82, 3) := by decide +kernel
theorem dX10_tells_68 : decode cX10_tells 68 = .ok (.iload 4, 2) := by decide +kernel
theorem dX10_tells_70 : decode cX10_tells 70 = .ok (.invokevirtual 252, 3) := by decide +kernel
theorem dX10_tells_73 : decode cX10_tells 73 = .ok (.istore 5, 2) := by decide +kernel
theorem dX10_tells_75 : decode cX10_tells 75 = .ok (.aload_n 0, 1) := by decide +kernel
theorem dX10_tells_76 : decode cX10_tells 76 = .ok (.getfield 82, 3) := by decide +kernel
theorem dX10_tells_79 : decode cX10_tells 79 = .ok (.aload_n 0, 1) := by decide +kernel
theorem dX10_tells_80 : decode cX10_tells 80 = .ok (.getfield 82, 3) := by decide +kernel
theorem dX10_tells_83 : decode cX10_tells 83 = .ok (.getfield 255, 3) := by decide +kernel
theorem dX10_tells_86 : decode cX10_tells 86 = .ok (.iload_n 1, 1) := by decide +kernel
theorem dX10_tells_87 : decode cX10_tells 87 = .ok (.iload_n 2, 1) := by decide +kernel
theorem dX10_tells_88 : decode cX10_tells 88 = .ok (.iload_n 3, 1) := by decide +kernel
theorem dX10_tells_89 : decode cX10_tells 89 = .ok (.iload 5, 2) := by decide +kernel
theorem dX10_tells_91 : decode cX10_tells 91 = .ok (.invokevirtual 258, 3) := by decide +kernel
theorem dX10_tells_94 : decode cX10_tells 94 = .ok (.aload_n 0, 1) := by decide +kernel
theorem dX10_tells_95 : decode cX10_tells 95 = .ok (.getfield 82, 3) := by decide +kernel
theorem dX10_tells_98 : decode cX10_tells 98 = .ok (.getfield 255, 3) := by decide +kernel
theorem dX10_tells_101 : decode cX10_tells 101 = .ok (.iload 5, 2) := by decide +kernel
theorem dX10_tells_103 : decode cX10_tells 103 = .ok (.iaload, 1) := by decide +kernel
theorem dX10_tells_104 : decode cX10_tells 104 = .ok (.ireturn, 1) := by decide +kernel
theorem dX10_toldBest_0 : decode cX10_toldBest 0 = .ok (.aload_n 0, 1) := by decide +kernel
theorem dX10_toldBest_1 : decode cX10_toldBest 1 = .ok (.iload_n 1, 1) := by decide +kernel
theorem dX10_toldBest_2 : decode cX10_toldBest 2 = .ok (.invokevirtual 175, 3) := by decide +kernel
theorem dX10_toldBest_5 : decode cX10_toldBest 5 = .ok (.ifCond .ne 7, 3) := by decide +kernel
theorem dX10_toldBest_8 : decode cX10_toldBest 8 = .ok (.sipush (-1001), 3) := by decide +kernel
theorem dX10_toldBest_11 : decode cX10_toldBest 11 = .ok (.ireturn, 1) := by decide +kernel
theorem dX10_toldBest_12 : decode cX10_toldBest 12 = .ok (.iload_n 3, 1) := by decide +kernel
theorem dX10_toldBest_13 : decode cX10_toldBest 13 = .ok (.invokestatic 169, 3) := by decide +kernel
theorem dX10_toldBest_16 : decode cX10_toldBest 16 = .ok (.ifCond .eq 20, 3) := by decide +kernel
theorem dX10_toldBest_19 : decode cX10_toldBest 19 = .ok (.iload_n 2, 1) := by decide +kernel
theorem dX10_toldBest_20 : decode cX10_toldBest 20 = .ok (.invokestatic 197, 3) := by decide +kernel
theorem dX10_toldBest_23 : decode cX10_toldBest 23 = .ok (.ifCond .eq 13, 3) := by decide +kernel
theorem dX10_toldBest_26 : decode cX10_toldBest 26 = .ok (.iload 4, 2) := by decide +kernel
theorem dX10_toldBest_28 : decode cX10_toldBest 28 = .ok (.iconst 0, 1) := by decide +kernel
theorem dX10_toldBest_29 : decode cX10_toldBest 29 = .ok (.iconst 1, 1) := by decide +kernel
theorem dX10_toldBest_30 : decode cX10_toldBest 30 = .ok (.invokestatic 99, 3) := by decide +kernel
theorem dX10_toldBest_33 : decode cX10_toldBest 33 = .ok (.ifCond .ne 7, 3) := by decide +kernel
theorem dX10_toldBest_36 : decode cX10_toldBest 36 = .ok (.sipush (-1002), 3) := by decide +kernel
theorem dX10_toldBest_39 : decode cX10_toldBest 39 = .ok (.ireturn, 1) := by decide +kernel
theorem dX10_toldBest_40 : decode cX10_toldBest 40 = .ok (.aload_n 0, 1) := by decide +kernel
theorem dX10_toldBest_41 : decode cX10_toldBest 41 = .ok (.iload_n 1, 1) := by decide +kernel
theorem dX10_toldBest_42 : decode cX10_toldBest 42 = .ok (.invokevirtual 246, 3) := by decide +kernel
theorem dX10_toldBest_45 : decode cX10_toldBest 45 = .ok (.ifCond .ne 7, 3) := by decide +kernel
theorem dX10_toldBest_48 : decode cX10_toldBest 48 = .ok (.sipush (-1003), 3) := by decide +kernel
theorem dX10_toldBest_51 : decode cX10_toldBest 51 = .ok (.ireturn, 1) := by decide +kernel
theorem dX10_toldBest_52 : decode cX10_toldBest 52 = .ok (.aload_n 0, 1) := by decide +kernel
theorem dX10_toldBest_53 : decode cX10_toldBest 53 = .ok (.getfield 82, 3) := by decide +kernel
theorem dX10_toldBest_56 : decode cX10_toldBest 56 = .ok (.invokevirtual 249, 3) := by decide +kernel
theorem dX10_toldBest_59 : decode cX10_toldBest 59 = .ok (.aload_n 0, 1) := by decide +kernel
theorem dX10_toldBest_60 : decode cX10_toldBest 60 = .ok (.getfield 82, 3) := by decide +kernel
theorem dX10_toldBest_63 : decode cX10_toldBest 63 = .ok (.aload_n 0, 1) := by decide +kernel
theorem dX10_toldBest_64 : decode cX10_toldBest 64 = .ok (.getfield 82, 3) := by decide +kernel
theorem dX10_toldBest_67 : decode cX10_toldBest 67 = .ok (.getfield 255, 3) := by decide +kernel
theorem dX10_toldBest_70 : decode cX10_toldBest 70 = .ok (.iload_n 1, 1) := by decide +kernel
theorem dX10_toldBest_71 : decode cX10_toldBest 71 = .ok (.iload_n 2, 1) := by decide +kernel
theorem dX10_toldBest_72 : decode cX10_toldBest 72 = .ok (.iload_n 3, 1) := by decide +kernel
theorem dX10_toldBest_73 : decode cX10_toldBest 73 = .ok (.aload_n 0, 1) := by decide +kernel
theorem dX10_toldBest_74 : decode cX10_toldBest 74 = .ok (.getfield 82, 3) := by decide +kernel
theorem dX10_toldBest_77 : decode cX10_toldBest 77 = .ok (.invokevirtual 262, 3) := by decide +kernel
theorem dX10_toldBest_80 : decode cX10_toldBest 80 = .ok (.invokevirtual 258, 3) := by decide +kernel
theorem dX10_toldBest_83 : decode cX10_toldBest 83 = .ok (.aload_n 0, 1) := by decide +kernel
theorem dX10_toldBest_84 : decode cX10_toldBest 84 = .ok (.getfield 82, 3) := by decide +kernel
theorem dX10_toldBest_87 : decode cX10_toldBest 87 = .ok (.invokevirtual 265, 3) := by decide +kernel
theorem dX10_toldBest_90 : decode cX10_toldBest 90 = .ok (.istore 5, 2) := by decide +kernel
theorem dX10_toldBest_92 : decode cX10_toldBest 92 = .ok (.iload 5, 2) := by decide +kernel
theorem dX10_toldBest_94 : decode cX10_toldBest 94 = .ok (.iconst (-1), 1) := by decide +kernel
theorem dX10_toldBest_95 : decode cX10_toldBest 95 = .ok (.if_icmp .ne 5, 3) := by decide +kernel
theorem dX10_toldBest_98 : decode cX10_toldBest 98 = .ok (.iconst (-1), 1) := by decide +kernel
theorem dX10_toldBest_99 : decode cX10_toldBest 99 = .ok (.ireturn, 1) := by decide +kernel
theorem dX10_toldBest_100 : decode cX10_toldBest 100 = .ok (.iload 4, 2) := by decide +kernel
theorem dX10_toldBest_102 : decode cX10_toldBest 102 = .ok (.ifCond .ne 15, 3) := by decide +kernel
theorem dX10_toldBest_105 : decode cX10_toldBest 105 = .ok (.aload_n 0, 1) := by decide +kernel
theorem dX10_toldBest_106 : decode cX10_toldBest 106 = .ok (.getfield 82, 3) := by decide +kernel
theorem dX10_toldBest_109 : decode cX10_toldBest 109 = .ok (.iload 5, 2) := by decide +kernel
theorem dX10_toldBest_111 : decode cX10_toldBest 111 = .ok (.invokevirtual 268, 3) := by decide +kernel
theorem dX10_toldBest_114 : decode cX10_toldBest 114 = .ok (.goto 13, 3) := by decide +kernel
theorem dX10_toldBest_117 : decode cX10_toldBest 117 = .ok (.aload_n 0, 1) := by decide +kernel
theorem dX10_toldBest_118 : decode cX10_toldBest 118 = .ok (.getfield 82, 3) := by decide +kernel
theorem dX10_toldBest_121 : decode cX10_toldBest 121 = .ok (.getfield 255, 3) := by decide +kernel
theorem dX10_toldBest_124 : decode cX10_toldBest 124 = .ok (.iload 5, 2) := by decide +kernel
theorem dX10_toldBest_126 : decode cX10_toldBest 126 = .ok (.iaload, 1) := by decide +kernel
theorem dX10_toldBest_127 : decode cX10_toldBest 127 = .ok (.ireturn, 1) := by decide +kernel
theorem dX10_byTwo_0 : decode cX10_byTwo 0 = .ok (.aload_n 0, 1) := by decide +kernel
theorem dX10_byTwo_1 : decode cX10_byTwo 1 = .ok (.iload_n 1, 1) := by decide +kernel
theorem dX10_byTwo_2 : decode cX10_byTwo 2 = .ok (.invokevirtual 175, 3) := by decide +kernel
theorem dX10_byTwo_5 : decode cX10_byTwo 5 = .ok (.ifCond .eq 16, 3) := by decide +kernel
theorem dX10_byTwo_8 : decode cX10_byTwo 8 = .ok (.aload_n 0, 1) := by decide +kernel
theorem dX10_byTwo_9 : decode cX10_byTwo 9 = .ok (.iload_n 3, 1) := by decide +kernel
theorem dX10_byTwo_10 : decode cX10_byTwo 10 = .ok (.invokevirtual 175, 3) := by decide +kernel
theorem dX10_byTwo_13 : decode cX10_byTwo 13 = .ok (.ifCond .eq 8, 3) := by decide +kernel
theorem dX10_byTwo_16 : decode cX10_byTwo 16 = .ok (.iload_n 1, 1) := by decide +kernel
theorem dX10_byTwo_17 : decode cX10_byTwo 17 = .ok (.iload_n 3, 1) := by decide +kernel
theorem dX10_byTwo_18 : decode cX10_byTwo 18 = .ok (.if_icmp .ne 7, 3) := by decide +kernel
theorem dX10_byTwo_21 : decode cX10_byTwo 21 = .ok (.sipush (-1001), 3) := by decide +kernel
theorem dX10_byTwo_24 : decode cX10_byTwo 24 = .ok (.ireturn, 1) := by decide +kernel
theorem dX10_byTwo_25 : decode cX10_byTwo 25 = .ok (.iload 5, 2) := by decide +kernel
theorem dX10_byTwo_27 : decode cX10_byTwo 27 = .ok (.invokestatic 169, 3) := by decide +kernel
theorem dX10_byTwo_30 : decode cX10_byTwo 30 = .ok (.ifCond .eq 28, 3) := by decide +kernel
theorem dX10_byTwo_33 : decode cX10_byTwo 33 = .ok (.iload_n 2, 1) := by decide +kernel
theorem dX10_byTwo_34 : decode cX10_byTwo 34 = .ok (.invokestatic 197, 3) := by decide +kernel
theorem dX10_byTwo_37 : decode cX10_byTwo 37 = .ok (.ifCond .eq 21, 3) := by decide +kernel
theorem dX10_byTwo_40 : decode cX10_byTwo 40 = .ok (.iload 4, 2) := by decide +kernel
theorem dX10_byTwo_42 : decode cX10_byTwo 42 = .ok (.invokestatic 197, 3) := by decide +kernel
theorem dX10_byTwo_45 : decode cX10_byTwo 45 = .ok (.ifCond .eq 13, 3) := by decide +kernel
theorem dX10_byTwo_48 : decode cX10_byTwo 48 = .ok (.iload 6, 2) := by decide +kernel
theorem dX10_byTwo_50 : decode cX10_byTwo 50 = .ok (.iconst 0, 1) := by decide +kernel
theorem dX10_byTwo_51 : decode cX10_byTwo 51 = .ok (.iconst 2, 1) := by decide +kernel
theorem dX10_byTwo_52 : decode cX10_byTwo 52 = .ok (.invokestatic 99, 3) := by decide +kernel
theorem dX10_byTwo_55 : decode cX10_byTwo 55 = .ok (.ifCond .ne 7, 3) := by decide +kernel
theorem dX10_byTwo_58 : decode cX10_byTwo 58 = .ok (.sipush (-1002), 3) := by decide +kernel
theorem dX10_byTwo_61 : decode cX10_byTwo 61 = .ok (.ireturn, 1) := by decide +kernel
theorem dX10_byTwo_62 : decode cX10_byTwo 62 = .ok (.aload_n 0, 1) := by decide +kernel
theorem dX10_byTwo_63 : decode cX10_byTwo 63 = .ok (.iload_n 1, 1) := by decide +kernel
theorem dX10_byTwo_64 : decode cX10_byTwo 64 = .ok (.invokevirtual 246, 3) := by decide +kernel
theorem dX10_byTwo_67 : decode cX10_byTwo 67 = .ok (.ifCond .eq 11, 3) := by decide +kernel
theorem dX10_byTwo_70 : decode cX10_byTwo 70 = .ok (.aload_n 0, 1) := by decide +kernel
theorem dX10_byTwo_71 : decode cX10_byTwo 71 = .ok (.iload_n 3, 1) := by decide +kernel
theorem dX10_byTwo_72 : decode cX10_byTwo 72 = .ok (.invokevirtual 246, 3) := by decide +kernel
theorem dX10_byTwo_75 : decode cX10_byTwo 75 = .ok (.ifCond .ne 7, 3) := by decide +kernel
theorem dX10_byTwo_78 : decode cX10_byTwo 78 = .ok (.sipush (-1003), 3) := by decide +kernel
theorem dX10_byTwo_81 : decode cX10_byTwo 81 = .ok (.ireturn, 1) := by decide +kernel
theorem dX10_byTwo_82 : decode cX10_byTwo 82 = .ok (.aload_n 0, 1) := by decide +kernel
theorem dX10_byTwo_83 : decode cX10_byTwo 83 = .ok (.getfield 82, 3) := by decide +kernel
theorem dX10_byTwo_86 : decode cX10_byTwo 86 = .ok (.invokevirtual 249, 3) := by decide +kernel
theorem dX10_byTwo_89 : decode cX10_byTwo 89 = .ok (.aload_n 0, 1) := by decide +kernel
theorem dX10_byTwo_90 : decode cX10_byTwo 90 = .ok (.getfield 82, 3) := by decide +kernel
theorem dX10_byTwo_93 : decode cX10_byTwo 93 = .ok (.aload_n 0, 1) := by decide +kernel
theorem dX10_byTwo_94 : decode cX10_byTwo 94 = .ok (.getfield 82, 3) := by decide +kernel
theorem dX10_byTwo_97 : decode cX10_byTwo 97 = .ok (.getfield 255, 3) := by decide +kernel
theorem dX10_byTwo_100 : decode cX10_byTwo 100 = .ok (.iload_n 1, 1) := by decide +kernel
theorem dX10_byTwo_101 : decode cX10_byTwo 101 = .ok (.iload_n 2, 1) := by decide +kernel
theorem dX10_byTwo_102 : decode cX10_byTwo 102 = .ok (.iload 5, 2) := by decide +kernel
theorem dX10_byTwo_104 : decode cX10_byTwo 104 = .ok (.aload_n 0, 1) := by decide +kernel
theorem dX10_byTwo_105 : decode cX10_byTwo 105 = .ok (.getfield 82, 3) := by decide +kernel
theorem dX10_byTwo_108 : decode cX10_byTwo 108 = .ok (.invokevirtual 262, 3) := by decide +kernel
theorem dX10_byTwo_111 : decode cX10_byTwo 111 = .ok (.invokevirtual 258, 3) := by decide +kernel
theorem dX10_byTwo_114 : decode cX10_byTwo 114 = .ok (.aload_n 0, 1) := by decide +kernel
theorem dX10_byTwo_115 : decode cX10_byTwo 115 = .ok (.getfield 82, 3) := by decide +kernel
theorem dX10_byTwo_118 : decode cX10_byTwo 118 = .ok (.aload_n 0, 1) := by decide +kernel
theorem dX10_byTwo_119 : decode cX10_byTwo 119 = .ok (.getfield 82, 3) := by decide +kernel
theorem dX10_byTwo_122 : decode cX10_byTwo 122 = .ok (.getfield 271, 3) := by decide +kernel
theorem dX10_byTwo_125 : decode cX10_byTwo 125 = .ok (.iload_n 3, 1) := by decide +kernel
theorem dX10_byTwo_126 : decode cX10_byTwo 126 = .ok (.iload 4, 2) := by decide +kernel
theorem dX10_byTwo_128 : decode cX10_byTwo 128 = .ok (.iload 5, 2) := by decide +kernel
theorem dX10_byTwo_130 : decode cX10_byTwo 130 = .ok (.aload_n 0, 1) := by decide +kernel
theorem dX10_byTwo_131 : decode cX10_byTwo 131 = .ok (.getfield 82, 3) := by decide +kernel
theorem dX10_byTwo_134 : decode cX10_byTwo 134 = .ok (.invokevirtual 262, 3) := by decide +kernel
theorem dX10_byTwo_137 : decode cX10_byTwo 137 = .ok (.invokevirtual 258, 3) := by decide +kernel
theorem dX10_byTwo_140 : decode cX10_byTwo 140 = .ok (.aload_n 0, 1) := by decide +kernel
theorem dX10_byTwo_141 : decode cX10_byTwo 141 = .ok (.getfield 82, 3) := by decide +kernel
theorem dX10_byTwo_144 : decode cX10_byTwo 144 = .ok (.iload 6, 2) := by decide +kernel
theorem dX10_byTwo_146 : decode cX10_byTwo 146 = .ok (.invokevirtual 274, 3) := by decide +kernel
theorem dX10_byTwo_149 : decode cX10_byTwo 149 = .ok (.ireturn, 1) := by decide +kernel
theorem dX10_tooLate_0 : decode cX10_tooLate 0 = .ok (.aload_n 0, 1) := by decide +kernel
theorem dX10_tooLate_1 : decode cX10_tooLate 1 = .ok (.iload_n 1, 1) := by decide +kernel
theorem dX10_tooLate_2 : decode cX10_tooLate 2 = .ok (.invokevirtual 175, 3) := by decide +kernel
theorem dX10_tooLate_5 : decode cX10_tooLate 5 = .ok (.ifCond .eq 25, 3) := by decide +kernel
theorem dX10_tooLate_8 : decode cX10_tooLate 8 = .ok (.aload_n 0, 1) := by decide +kernel
theorem dX10_tooLate_9 : decode cX10_tooLate 9 = .ok (.iload_n 3, 1) := by decide +kernel
theorem dX10_tooLate_10 : decode cX10_tooLate 10 = .ok (.invokevirtual 162, 3) := by decide +kernel
theorem dX10_tooLate_13 : decode cX10_tooLate 13 = .ok (.ifCond .eq 17, 3) := by decide +kernel
theorem dX10_tooLate_16 : decode cX10_tooLate 16 = .ok (.aload_n 0, 1) := by decide +kernel
theorem dX10_tooLate_17 : decode cX10_tooLate 17 = .ok (.getfield 35, 3) := by decide +kernel
theorem dX10_tooLate_20 : decode cX10_tooLate 20 = .ok (.invokevirtual 243, 3) := by decide +kernel
theorem dX10_tooLate_23 : decode cX10_tooLate 23 = .ok (.iload_n 3, 1) := by decide +kernel
theorem dX10_tooLate_24 : decode cX10_tooLate 24 = .ok (.ishr, 1) := by decide +kernel
theorem dX10_tooLate_25 : decode cX10_tooLate 25 = .ok (.iconst 1, 1) := by decide +kernel
theorem dX10_tooLate_26 : decode cX10_tooLate 26 = .ok (.iand, 1) := by decide +kernel
theorem dX10_tooLate_27 : decode cX10_tooLate 27 = .ok (.ifCond .ne 7, 3) := by decide +kernel
theorem dX10_tooLate_30 : decode cX10_tooLate 30 = .ok (.sipush (-1001), 3) := by decide +kernel
theorem dX10_tooLate_33 : decode cX10_tooLate 33 = .ok (.ireturn, 1) := by decide +kernel
theorem dX10_tooLate_34 : decode cX10_tooLate 34 = .ok (.iload_n 2, 1) := by decide +kernel
theorem dX10_tooLate_35 : decode cX10_tooLate 35 = .ok (.invokestatic 197, 3) := by decide +kernel
theorem dX10_tooLate_38 : decode cX10_tooLate 38 = .ok (.ifCond .ne 7, 3) := by decide +kernel
theorem dX10_tooLate_41 : decode cX10_tooLate 41 = .ok (.sipush (-1002), 3) := by decide +kernel
theorem dX10_tooLate_44 : decode cX10_tooLate 44 = .ok (.ireturn, 1) := by decide +kernel
theorem dX10_tooLate_45 : decode cX10_tooLate 45 = .ok (.aload_n 0, 1) := by decide +kernel
theorem dX10_tooLate_46 : decode cX10_tooLate 46 = .ok (.iload_n 1, 1) := by decide +kernel
theorem dX10_tooLate_47 : decode cX10_tooLate 47 = .ok (.invokevirtual 246, 3) := by decide +kernel
theorem dX10_tooLate_50 : decode cX10_tooLate 50 = .ok (.ifCond .ne 7, 3) := by decide +kernel
theorem dX10_tooLate_53 : decode cX10_tooLate 53 = .ok (.sipush (-1003), 3) := by decide +kernel
theorem dX10_tooLate_56 : decode cX10_tooLate 56 = .ok (.ireturn, 1) := by decide +kernel
theorem dX10_tooLate_57 : decode cX10_tooLate 57 = .ok (.aload_n 0, 1) := by decide +kernel
theorem dX10_tooLate_58 : decode cX10_tooLate 58 = .ok (.getfield 82, 3) := by decide +kernel
theorem dX10_tooLate_61 : decode cX10_tooLate 61 = .ok (.iload_n 1, 1) := by decide +kernel
theorem dX10_tooLate_62 : decode cX10_tooLate 62 = .ok (.iload_n 2, 1) := by decide +kernel
theorem dX10_tooLate_63 : decode cX10_tooLate 63 = .ok (.iload_n 3, 1) := by decide +kernel
theorem dX10_tooLate_64 : decode cX10_tooLate 64 = .ok (.invokevirtual 277, 3) := by decide +kernel
theorem dX10_tooLate_67 : decode cX10_tooLate 67 = .ok (.ireturn, 1) := by decide +kernel
theorem dX10_go_0 : decode cX10_go 0 = .ok (.aload_n 0, 1) := by decide +kernel
theorem dX10_go_1 : decode cX10_go 1 = .ok (.iload_n 1, 1) := by decide +kernel
theorem dX10_go_2 : decode cX10_go 2 = .ok (.invokevirtual 162, 3) := by decide +kernel
theorem dX10_go_5 : decode cX10_go 5 = .ok (.ifCond .ne 7, 3) := by decide +kernel
theorem dX10_go_8 : decode cX10_go 8 = .ok (.sipush (-1001), 3) := by decide +kernel
theorem dX10_go_11 : decode cX10_go 11 = .ok (.ireturn, 1) := by decide +kernel
theorem dX10_go_12 : decode cX10_go 12 = .ok (.aload_n 0, 1) := by decide +kernel
theorem dX10_go_13 : decode cX10_go 13 = .ok (.getfield 50, 3) := by decide +kernel
theorem dX10_go_16 : decode cX10_go 16 = .ok (.getfield 125, 3) := by decide +kernel
theorem dX10_go_19 : decode cX10_go 19 = .ok (.bipush 12, 2) := by decide +kernel
theorem dX10_go_21 : decode cX10_go 21 = .ok (.if_icmp .lt 7, 3) := by decide +kernel
theorem dX10_go_24 : decode cX10_go 24 = .ok (.sipush (-1004), 3) := by decide +kernel
theorem dX10_go_27 : decode cX10_go 27 = .ok (.ireturn, 1) := by decide +kernel
theorem dX10_go_28 : decode cX10_go 28 = .ok (.aload_n 0, 1) := by decide +kernel
theorem dX10_go_29 : decode cX10_go 29 = .ok (.getfield 50, 3) := by decide +kernel
theorem dX10_go_32 : decode cX10_go 32 = .ok (.iload_n 1, 1) := by decide +kernel
theorem dX10_go_33 : decode cX10_go 33 = .ok (.invokevirtual 281, 3) := by decide +kernel
theorem dX10_go_36 : decode cX10_go 36 = .ok (.aload_n 0, 1) := by decide +kernel
theorem dX10_go_37 : decode cX10_go 37 = .ok (.getfield 50, 3) := by decide +kernel
theorem dX10_go_40 : decode cX10_go 40 = .ok (.getfield 125, 3) := by decide +kernel
theorem dX10_go_43 : decode cX10_go 43 = .ok (.ireturn, 1) := by decide +kernel
theorem dX10_clear_0 : decode cX10_clear 0 = .ok (.aload_n 0, 1) := by decide +kernel
theorem dX10_clear_1 : decode cX10_clear 1 = .ok (.getfield 50, 3) := by decide +kernel
theorem dX10_clear_4 : decode cX10_clear 4 = .ok (.getfield 125, 3) := by decide +kernel
theorem dX10_clear_7 : decode cX10_clear 7 = .ok (.istore_n 1, 1) := by decide +kernel
theorem dX10_clear_8 : decode cX10_clear 8 = .ok (.aload_n 0, 1) := by decide +kernel
theorem dX10_clear_9 : decode cX10_clear 9 = .ok (.getfield 50, 3) := by decide +kernel
theorem dX10_clear_12 : decode cX10_clear 12 = .ok (.iconst 0, 1) := by decide +kernel
theorem dX10_clear_13 : decode cX10_clear 13 = .ok (.putfield 125, 3) := by decide +kernel
theorem dX10_clear_16 : decode cX10_clear 16 = .ok (.iload_n 1, 1) := by decide +kernel
theorem dX10_clear_17 : decode cX10_clear 17 = .ok (.ireturn, 1) := by decide +kernel
theorem dX10_judge_0 : decode cX10_judge 0 = .ok (.aload_n 0, 1) := by decide +kernel
theorem dX10_judge_1 : decode cX10_judge 1 = .ok (.iload_n 1, 1) := by decide +kernel
theorem dX10_judge_2 : decode cX10_judge 2 = .ok (.invokevirtual 175, 3) := by decide +kernel
theorem dX10_judge_5 : decode cX10_judge 5 = .ok (.ifCond .ne 7, 3) := by decide +kernel
theorem dX10_judge_8 : decode cX10_judge 8 = .ok (.sipush (-1001), 3) := by decide +kernel
theorem dX10_judge_11 : decode cX10_judge 11 = .ok (.ireturn, 1) := by decide +kernel
theorem dX10_judge_12 : decode cX10_judge 12 = .ok (.iload_n 2, 1) := by decide +kernel
theorem dX10_judge_13 : decode cX10_judge 13 = .ok (.invokestatic 169, 3) := by decide +kernel
theorem dX10_judge_16 : decode cX10_judge 16 = .ok (.ifCond .eq 20, 3) := by decide +kernel
theorem dX10_judge_19 : decode cX10_judge 19 = .ok (.iload_n 3, 1) := by decide +kernel
theorem dX10_judge_20 : decode cX10_judge 20 = .ok (.invokestatic 197, 3) := by decide +kernel
theorem dX10_judge_23 : decode cX10_judge 23 = .ok (.ifCond .eq 13, 3) := by decide +kernel
theorem dX10_judge_26 : decode cX10_judge 26 = .ok (.iload 4, 2) := by decide +kernel
theorem dX10_judge_28 : decode cX10_judge 28 = .ok (.iconst 0, 1) := by decide +kernel
theorem dX10_judge_29 : decode cX10_judge 29 = .ok (.iconst 1, 1) := by decide +kernel
theorem dX10_judge_30 : decode cX10_judge 30 = .ok (.invokestatic 99, 3) := by decide +kernel
theorem dX10_judge_33 : decode cX10_judge 33 = .ok (.ifCond .ne 7, 3) := by decide +kernel
theorem dX10_judge_36 : decode cX10_judge 36 = .ok (.sipush (-1002), 3) := by decide +kernel
theorem dX10_judge_39 : decode cX10_judge 39 = .ok (.ireturn, 1) := by decide +kernel
theorem dX10_judge_40 : decode cX10_judge 40 = .ok (.aload_n 0, 1) := by decide +kernel
theorem dX10_judge_41 : decode cX10_judge 41 = .ok (.getfield 50, 3) := by decide +kernel
theorem dX10_judge_44 : decode cX10_judge 44 = .ok (.getfield 125, 3) := by decide +kernel
theorem dX10_judge_47 : decode cX10_judge 47 = .ok (.ifCond .eq 24, 3) := by decide +kernel
theorem dX10_judge_50 : decode cX10_judge 50 = .ok (.aload_n 0, 1) := by decide +kernel
theorem dX10_judge_51 : decode cX10_judge 51 = .ok (.getfield 50, 3) := by decide +kernel
theorem dX10_judge_54 : decode cX10_judge 54 = .ok (.getfield 284, 3) := by decide +kernel
theorem dX10_judge_57 : decode cX10_judge 57 = .ok (.iconst 0, 1) := by decide +kernel
theorem dX10_judge_58 : decode cX10_judge 58 = .ok (.iaload, 1) := by decide +kernel
theorem dX10_judge_59 : decode cX10_judge 59 = .ok (.aload_n 0, 1) := by decide +kernel
theorem dX10_judge_60 : decode cX10_judge 60 = .ok (.getfield 35, 3) := by decide +kernel
theorem dX10_judge_63 : decode cX10_judge 63 = .ok (.getfield 178, 3) := by decide +kernel
theorem dX10_judge_66 : decode cX10_judge 66 = .ok (.iload_n 1, 1) := by decide +kernel
theorem dX10_judge_67 : decode cX10_judge 67 = .ok (.iaload, 1) := by decide +kernel
theorem dX10_judge_68 : decode cX10_judge 68 = .ok (.if_icmp .eq 14, 3) := by decide +kernel
theorem dX10_judge_71 : decode cX10_judge 71 = .ok (.iload 4, 2) := by decide +kernel
theorem dX10_judge_73 : decode cX10_judge 73 = .ok (.ifCond .ne 7, 3) := by decide +kernel
theorem dX10_judge_76 : decode cX10_judge 76 = .ok (.iconst 0, 1) := by decide +kernel
theorem dX10_judge_77 : decode cX10_judge 77 = .ok (.goto 4, 3) := by decide +kernel
theorem dX10_judge_80 : decode cX10_judge 80 = .ok (.iload_n 2, 1) := by decide +kernel
theorem dX10_judge_81 : decode cX10_judge 81 = .ok (.ireturn, 1) := by decide +kernel
theorem dX10_judge_82 : decode cX10_judge 82 = .ok (.aload_n 0, 1) := by decide +kernel
theorem dX10_judge_83 : decode cX10_judge 83 = .ok (.getfield 59, 3) := by decide +kernel
theorem dX10_judge_86 : decode cX10_judge 86 = .ok (.iload_n 3, 1) := by decide +kernel
theorem dX10_judge_87 : decode cX10_judge 87 = .ok (.aload_n 0, 1) := by decide +kernel
theorem dX10_judge_88 : decode cX10_judge 88 = .ok (.getfield 35, 3) := by decide +kernel
theorem dX10_judge_91 : decode cX10_judge 91 = .ok (.getfield 185, 3) := by decide +kernel
theorem dX10_judge_94 : decode cX10_judge 94 = .ok (.iload_n 1, 1) := by decide +kernel
theorem dX10_judge_95 : decode cX10_judge 95 = .ok (.baload, 1) := by decide +kernel
theorem dX10_judge_96 : decode cX10_judge 96 = .ok (.invokevirtual 200, 3) := by decide +kernel
theorem dX10_judge_99 : decode cX10_judge 99 = .ok (.aload_n 0, 1) := by decide +kernel
theorem dX10_judge_100 : decode cX10_judge 100 = .ok (.getfield 91, 3) := by decide +kernel
theorem dX10_judge_103 : decode cX10_judge 103 = .ok (.iload_n 2, 1) := by decide +kernel
theorem dX10_judge_104 : decode cX10_judge 104 = .ok (.invokevirtual 286, 3) := by decide +kernel
theorem dX10_judge_107 : decode cX10_judge 107 = .ok (.iload 4, 2) := by decide +kernel
theorem dX10_judge_109 : decode cX10_judge 109 = .ok (.ifCond .ne 13, 3) := by decide +kernel
theorem dX10_judge_112 : decode cX10_judge 112 = .ok (.aload_n 0, 1) := by decide +kernel
theorem dX10_judge_113 : decode cX10_judge 113 = .ok (.getfield 91, 3) := by decide +kernel
theorem dX10_judge_116 : decode cX10_judge 116 = .ok (.getfield 289, 3) := by decide +kernel
theorem dX10_judge_119 : decode cX10_judge 119 = .ok (.goto 10, 3) := by decide +kernel
theorem dX10_judge_122 : decode cX10_judge 122 = .ok (.aload_n 0, 1) := by decide +kernel
theorem dX10_judge_123 : decode cX10_judge 123 = .ok (.getfield 91, 3) := by decide +kernel
theorem dX10_judge_126 : decode cX10_judge 126 = .ok (.getfield 292, 3) := by decide +kernel
theorem dX10_judge_129 : decode cX10_judge 129 = .ok (.ireturn, 1) := by decide +kernel
theorem dX10_opens_0 : decode cX10_opens 0 = .ok (.aload_n 0, 1) := by decide +kernel
theorem dX10_opens_1 : decode cX10_opens 1 = .ok (.iload_n 1, 1) := by decide +kernel
theorem dX10_opens_2 : decode cX10_opens 2 = .ok (.invokevirtual 129, 3) := by decide +kernel
theorem dX10_opens_5 : decode cX10_opens 5 = .ok (.ifCond .ne 7, 3) := by decide +kernel
theorem dX10_opens_8 : decode cX10_opens 8 = .ok (.sipush (-1001), 3) := by decide +kernel
theorem dX10_opens_11 : decode cX10_opens 11 = .ok (.ireturn, 1) := by decide +kernel
theorem dX10_opens_12 : decode cX10_opens 12 = .ok (.iload_n 2, 1) := by decide +kernel
theorem dX10_opens_13 : decode cX10_opens 13 = .ok (.invokestatic 169, 3) := by decide +kernel
theorem dX10_opens_16 : decode cX10_opens 16 = .ok (.ifCond .ne 7, 3) := by decide +kernel
theorem dX10_opens_19 : decode cX10_opens 19 = .ok (.sipush (-1002), 3) := by decide +kernel
theorem dX10_opens_22 : decode cX10_opens 22 = .ok (.ireturn, 1) := by decide +kernel
theorem dX10_opens_23 : decode cX10_opens 23 = .ok (.aload_n 0, 1) := by decide +kernel
theorem dX10_opens_24 : decode cX10_opens 24 = .ok (.getfield 28, 3) := by decide +kernel
theorem dX10_opens_27 : decode cX10_opens 27 = .ok (.iload_n 1, 1) := by decide +kernel
theorem dX10_opens_28 : decode cX10_opens 28 = .ok (.iload_n 2, 1) := by decide +kernel
theorem dX10_opens_29 : decode cX10_opens 29 = .ok (.invokevirtual 295, 3) := by decide +kernel
theorem dX10_opens_32 : decode cX10_opens 32 = .ok (.ireturn, 1) := by decide +kernel
theorem dX10_safe_0 : decode cX10_safe 0 = .ok (.iload_n 1, 1) := by decide +kernel
theorem dX10_safe_1 : decode cX10_safe 1 = .ok (.invokestatic 169, 3) := by decide +kernel
theorem dX10_safe_4 : decode cX10_safe 4 = .ok (.ifCond .eq 10, 3) := by decide +kernel
theorem dX10_safe_7 : decode cX10_safe 7 = .ok (.iload_n 2, 1) := by decide +kernel
theorem dX10_safe_8 : decode cX10_safe 8 = .ok (.invokestatic 197, 3) := by decide +kernel
theorem dX10_safe_11 : decode cX10_safe 11 = .ok (.ifCond .ne 7, 3) := by decide +kernel
theorem dX10_safe_14 : decode cX10_safe 14 = .ok (.sipush (-1002), 3) := by decide +kernel
theorem dX10_safe_17 : decode cX10_safe 17 = .ok (.ireturn, 1) := by decide +kernel
theorem dX10_safe_18 : decode cX10_safe 18 = .ok (.aload_n 0, 1) := by decide +kernel
theorem dX10_safe_19 : decode cX10_safe 19 = .ok (.getfield 50, 3) := by decide +kernel
theorem dX10_safe_22 : decode cX10_safe 22 = .ok (.getfield 125, 3) := by decide +kernel
theorem dX10_safe_25 : decode cX10_safe 25 = .ok (.ifCond .ne 7, 3) := by decide +kernel
theorem dX10_safe_28 : decode cX10_safe 28 = .ok (.sipush (-1003), 3) := by decide +kernel
theorem dX10_safe_31 : decode cX10_safe 31 = .ok (.ireturn, 1) := by decide +kernel
theorem dX10_safe_32 : decode cX10_safe 32 = .ok (.aload_n 0, 1) := by decide +kernel
theorem dX10_safe_33 : decode cX10_safe 33 = .ok (.getfield 59, 3) := by decide +kernel
theorem dX10_safe_36 : decode cX10_safe 36 = .ok (.iload_n 2, 1) := by decide +kernel
theorem dX10_safe_37 : decode cX10_safe 37 = .ok (.iconst 0, 1) := by decide +kernel
theorem dX10_safe_38 : decode cX10_safe 38 = .ok (.invokevirtual 200, 3) := by decide +kernel
theorem dX10_safe_41 : decode cX10_safe 41 = .ok (.aload_n 0, 1) := by decide +kernel
theorem dX10_safe_42 : decode cX10_safe 42 = .ok (.getfield 91, 3) := by decide +kernel
theorem dX10_safe_45 : decode cX10_safe 45 = .ok (.iload_n 1, 1) := by decide +kernel
theorem dX10_safe_46 : decode cX10_safe 46 = .ok (.invokevirtual 286, 3) := by decide +kernel
theorem dX10_safe_49 : decode cX10_safe 49 = .ok (.aload_n 0, 1) := by decide +kernel
theorem dX10_safe_50 : decode cX10_safe 50 = .ok (.getfield 91, 3) := by decide +kernel
theorem dX10_safe_53 : decode cX10_safe 53 = .ok (.getfield 289, 3) := by decide +kernel
theorem dX10_safe_56 : decode cX10_safe 56 = .ok (.iconst (-1), 1) := by decide +kernel
theorem dX10_safe_57 : decode cX10_safe 57 = .ok (.if_icmp .ne 13, 3) := by decide +kernel
theorem dX10_safe_60 : decode cX10_safe 60 = .ok (.aload_n 0, 1) := by decide +kernel
theorem dX10_safe_61 : decode cX10_safe 61 = .ok (.getfield 91, 3) := by decide +kernel
theorem dX10_safe_64 : decode cX10_safe 64 = .ok (.getfield 298, 3) := by decide +kernel
theorem dX10_safe_67 : decode cX10_safe 67 = .ok (.goto 6, 3) := by decide +kernel
theorem dX10_safe_70 : decode cX10_safe 70 = .ok (.sipush (-1003), 3) := by decide +kernel
theorem dX10_safe_73 : decode cX10_safe 73 = .ok (.ireturn, 1) := by decide +kernel
theorem dX10_safest_0 : decode cX10_safest 0 = .ok (.aload_n 0, 1) := by decide +kernel
theorem dX10_safest_1 : decode cX10_safest 1 = .ok (.iload_n 1, 1) := by decide +kernel
theorem dX10_safest_2 : decode cX10_safest 2 = .ok (.invokevirtual 162, 3) := by decide +kernel
theorem dX10_safest_5 : decode cX10_safest 5 = .ok (.ifCond .ne 7, 3) := by decide +kernel
theorem dX10_safest_8 : decode cX10_safest 8 = .ok (.sipush (-1001), 3) := by decide +kernel
theorem dX10_safest_11 : decode cX10_safest 11 = .ok (.ireturn, 1) := by decide +kernel
theorem dX10_safest_12 : decode cX10_safest 12 = .ok (.iload_n 2, 1) := by decide +kernel
theorem dX10_safest_13 : decode cX10_safest 13 = .ok (.invokestatic 169, 3) := by decide +kernel
theorem dX10_safest_16 : decode cX10_safest 16 = .ok (.ifCond .eq 10, 3) := by decide +kernel
theorem dX10_safest_19 : decode cX10_safest 19 = .ok (.iload_n 3, 1) := by decide +kernel
theorem dX10_safest_20 : decode cX10_safest 20 = .ok (.invokestatic 197, 3) := by decide +kernel
theorem dX10_safest_23 : decode cX10_safest 23 = .ok (.ifCond .ne 7, 3) := by decide +kernel
theorem dX10_safest_26 : decode cX10_safest 26 = .ok (.sipush (-1002), 3) := by decide +kernel
theorem dX10_safest_29 : decode cX10_safest 29 = .ok (.ireturn, 1) := by decide +kernel
theorem dX10_safest_30 : decode cX10_safest 30 = .ok (.aload_n 0, 1) := by decide +kernel
theorem dX10_safest_31 : decode cX10_safest 31 = .ok (.getfield 59, 3) := by decide +kernel
theorem dX10_safest_34 : decode cX10_safest 34 = .ok (.iload_n 3, 1) := by decide +kernel
theorem dX10_safest_35 : decode cX10_safest 35 = .ok (.iconst 0, 1) := by decide +kernel
theorem dX10_safest_36 : decode cX10_safest 36 = .ok (.invokevirtual 200, 3) := by decide +kernel
theorem dX10_safest_39 : decode cX10_safest 39 = .ok (.aload_n 0, 1) := by decide +kernel
theorem dX10_safest_40 : decode cX10_safest 40 = .ok (.getfield 91, 3) := by decide +kernel
theorem dX10_safest_43 : decode cX10_safest 43 = .ok (.iload_n 1, 1) := by decide +kernel
theorem dX10_safest_44 : decode cX10_safest 44 = .ok (.iload_n 2, 1) := by decide +kernel
theorem dX10_safest_45 : decode cX10_safest 45 = .ok (.invokevirtual 301, 3) := by decide +kernel
theorem dX10_safest_48 : decode cX10_safest 48 = .ok (.ireturn, 1) := by decide +kernel
theorem dX10_knock_0 : decode cX10_knock 0 = .ok (.aload_n 0, 1) := by decide +kernel
theorem dX10_knock_1 : decode cX10_knock 1 = .ok (.iload_n 1, 1) := by decide +kernel
theorem dX10_knock_2 : decode cX10_knock 2 = .ok (.invokevirtual 162, 3) := by decide +kernel
theorem dX10_knock_5 : decode cX10_knock 5 = .ok (.ifCond .ne 7, 3) := by decide +kernel
theorem dX10_knock_8 : decode cX10_knock 8 = .ok (.sipush (-1001), 3) := by decide +kernel
theorem dX10_knock_11 : decode cX10_knock 11 = .ok (.ireturn, 1) := by decide +kernel
theorem dX10_knock_12 : decode cX10_knock 12 = .ok (.iload_n 2, 1) := by decide +kernel
theorem dX10_knock_13 : decode cX10_knock 13 = .ok (.iconst 0, 1) := by decide +kernel
theorem dX10_knock_14 : decode cX10_knock 14 = .ok (.sipush 1000, 3) := by decide +kernel
theorem dX10_knock_17 : decode cX10_knock 17 = .ok (.invokestatic 99, 3) := by decide +kernel
theorem dX10_knock_20 : decode cX10_knock 20 = .ok (.ifCond .ne 7, 3) := by decide +kernel
theorem dX10_knock_23 : decode cX10_knock 23 = .ok (.sipush (-1002), 3) := by decide +kernel
theorem dX10_knock_26 : decode cX10_knock 26 = .ok (.ireturn, 1) := by decide +kernel
theorem dX10_knock_27 : decode cX10_knock 27 = .ok (.aload_n 0, 1) := by decide +kernel
theorem dX10_knock_28 : decode cX10_knock 28 = .ok (.getfield 59, 3) := by decide +kernel
theorem dX10_knock_31 : decode cX10_knock 31 = .ok (.iload_n 1, 1) := by decide +kernel
theorem dX10_knock_32 : decode cX10_knock 32 = .ok (.invokevirtual 304, 3) := by decide +kernel
theorem dX10_knock_35 : decode cX10_knock 35 = .ok (.aload_n 0, 1) := by decide +kernel
theorem dX10_knock_36 : decode cX10_knock 36 = .ok (.iload_n 2, 1) := by decide +kernel
theorem dX10_knock_37 : decode cX10_knock 37 = .ok (.invokevirtual 307, 3) := by decide +kernel
theorem dX10_knock_40 : decode cX10_knock 40 = .ok (.ireturn, 1) := by decide +kernel
theorem dX10_keep_0 : decode cX10_keep 0 = .ok (.iload_n 1, 1) := by decide +kernel
theorem dX10_keep_1 : decode cX10_keep 1 = .ok (.iconst 0, 1) := by decide +kernel
theorem dX10_keep_2 : decode cX10_keep 2 = .ok (.iconst 1, 1) := by decide +kernel
theorem dX10_keep_3 : decode cX10_keep 3 = .ok (.invokestatic 99, 3) := by decide +kernel
theorem dX10_keep_6 : decode cX10_keep 6 = .ok (.ifCond .ne 7, 3) := by decide +kernel
theorem dX10_keep_9 : decode cX10_keep 9 = .ok (.sipush (-1001), 3) := by decide +kernel
theorem dX10_keep_12 : decode cX10_keep 12 = .ok (.ireturn, 1) := by decide +kernel
theorem dX10_keep_13 : decode cX10_keep 13 = .ok (.aload_n 0, 1) := by decide +kernel
theorem dX10_keep_14 : decode cX10_keep 14 = .ok (.getfield 39, 3) := by decide +kernel
theorem dX10_keep_17 : decode cX10_keep 17 = .ok (.iload_n 1, 1) := by decide +kernel
theorem dX10_keep_18 : decode cX10_keep 18 = .ok (.aaload, 1) := by decide +kernel
theorem dX10_keep_19 : decode cX10_keep 19 = .ok (.aload_n 0, 1) := by decide +kernel
theorem dX10_keep_20 : decode cX10_keep 20 = .ok (.getfield 35, 3) := by decide +kernel
theorem dX10_keep_23 : decode cX10_keep 23 = .ok (.invokevirtual 310, 3) := by decide +kernel
theorem dX10_keep_26 : decode cX10_keep 26 = .ok (.aload_n 0, 1) := by decide +kernel
theorem dX10_keep_27 : decode cX10_keep 27 = .ok (.getfield 43, 3) := by decide +kernel
theorem dX10_keep_30 : decode cX10_keep 30 = .ok (.iload_n 1, 1) := by decide +kernel
theorem dX10_keep_31 : decode cX10_keep 31 = .ok (.iconst 1, 1) := by decide +kernel
theorem dX10_keep_32 : decode cX10_keep 32 = .ok (.bastore, 1) := by decide +kernel
theorem dX10_keep_33 : decode cX10_keep 33 = .ok (.iconst 1, 1) := by decide +kernel
theorem dX10_keep_34 : decode cX10_keep 34 = .ok (.ireturn, 1) := by decide +kernel
theorem dX10_goBack_0 : decode cX10_goBack 0 = .ok (.iload_n 1, 1) := by decide +kernel
theorem dX10_goBack_1 : decode cX10_goBack 1 = .ok (.iconst 0, 1) := by decide +kernel
theorem dX10_goBack_2 : decode cX10_goBack 2 = .ok (.iconst 1, 1) := by decide +kernel
theorem dX10_goBack_3 : decode cX10_goBack 3 = .ok (.invokestatic 99, 3) := by decide +kernel
theorem dX10_goBack_6 : decode cX10_goBack 6 = .ok (.ifCond .ne 7, 3) := by decide +kernel
theorem dX10_goBack_9 : decode cX10_goBack 9 = .ok (.sipush (-1001), 3) := by decide +kernel
theorem dX10_goBack_12 : decode cX10_goBack 12 = .ok (.ireturn, 1) := by decide +kernel
theorem dX10_goBack_13 : decode cX10_goBack 13 = .ok (.aload_n 0, 1) := by decide +kernel
theorem dX10_goBack_14 : decode cX10_goBack 14 = .ok (.getfield 43, 3) := by decide +kernel
theorem dX10_goBack_17 : decode cX10_goBack 17 = .ok (.iload_n 1, 1) := by decide +kernel
theorem dX10_goBack_18 : decode cX10_goBack 18 = .ok (.baload, 1) := by decide +kernel
theorem dX10_goBack_19 : decode cX10_goBack 19 = .ok (.ifCond .ne 7, 3) := by decide +kernel
theorem dX10_goBack_22 : decode cX10_goBack 22 = .ok (.sipush (-1003), 3) := by decide +kernel
theorem dX10_goBack_25 : decode cX10_goBack 25 = .ok (.ireturn, 1) := by decide +kernel
theorem dX10_goBack_26 : decode cX10_goBack 26 = .ok (.aload_n 0, 1) := by decide +kernel
theorem dX10_goBack_27 : decode cX10_goBack 27 = .ok (.getfield 35, 3) := by decide +kernel
theorem dX10_goBack_30 : decode cX10_goBack 30 = .ok (.aload_n 0, 1) := by decide +kernel
theorem dX10_goBack_31 : decode cX10_goBack 31 = .ok (.getfield 39, 3) := by decide +kernel
theorem dX10_goBack_34 : decode cX10_goBack 34 = .ok (.iload_n 1, 1) := by decide +kernel
theorem dX10_goBack_35 : decode cX10_goBack 35 = .ok (.aaload, 1) := by decide +kernel
theorem dX10_goBack_36 : decode cX10_goBack 36 = .ok (.invokevirtual 310, 3) := by decide +kernel
theorem dX10_goBack_39 : decode cX10_goBack 39 = .ok (.iconst 1, 1) := by decide +kernel
theorem dX10_goBack_40 : decode cX10_goBack 40 = .ok (.ireturn, 1) := by decide +kernel
theorem dX10_within_0 : decode cX10_within 0 = .ok (.iload_n 0, 1) := by decide +kernel
theorem dX10_within_1 : decode cX10_within 1 = .ok (.iload_n 1, 1) := by decide +kernel
theorem dX10_within_2 : decode cX10_within 2 = .ok (.if_icmp .lt 12, 3) := by decide +kernel
theorem dX10_within_5 : decode cX10_within 5 = .ok (.iload_n 0, 1) := by decide +kernel
theorem dX10_within_6 : decode cX10_within 6 = .ok (.iload_n 2, 1) := by decide +kernel
theorem dX10_within_7 : decode cX10_within 7 = .ok (.if_icmp .gt 7, 3) := by decide +kernel
theorem dX10_within_10 : decode cX10_within 10 = .ok (.iconst 1, 1) := by decide +kernel
theorem dX10_within_11 : decode cX10_within 11 = .ok (.goto 4, 3) := by decide +kernel
theorem dX10_within_14 : decode cX10_within 14 = .ok (.iconst 0, 1) := by decide +kernel
theorem dX10_within_15 : decode cX10_within 15 = .ok (.ireturn, 1) := by decide +kernel
theorem dX10_bit_0 : decode cX10_bit 0 = .ok (.iload_n 0, 1) := by decide +kernel
theorem dX10_bit_1 : decode cX10_bit 1 = .ok (.ifCond .eq 7, 3) := by decide +kernel
theorem dX10_bit_4 : decode cX10_bit 4 = .ok (.iconst 1, 1) := by decide +kernel
theorem dX10_bit_5 : decode cX10_bit 5 = .ok (.goto 4, 3) := by decide +kernel
theorem dX10_bit_8 : decode cX10_bit 8 = .ok (.iconst 0, 1) := by decide +kernel
theorem dX10_bit_9 : decode cX10_bit 9 = .ok (.ireturn, 1) := by decide +kernel
theorem dX10_isMinute_0 : decode cX10_isMinute 0 = .ok (.iload_n 0, 1) := by decide +kernel
theorem dX10_isMinute_1 : decode cX10_isMinute 1 = .ok (.iconst 0, 1) := by decide +kernel
theorem dX10_isMinute_2 : decode cX10_isMinute 2 = .ok (.bipush 99, 2) := by decide +kernel
theorem dX10_isMinute_4 : decode cX10_isMinute 4 = .ok (.invokestatic 99, 3) := by decide +kernel
theorem dX10_isMinute_7 : decode cX10_isMinute 7 = .ok (.ireturn, 1) := by decide +kernel
theorem dX10_isLight_0 : decode cX10_isLight 0 = .ok (.iload_n 0, 1) := by decide +kernel
theorem dX10_isLight_1 : decode cX10_isLight 1 = .ok (.iconst (-1), 1) := by decide +kernel
theorem dX10_isLight_2 : decode cX10_isLight 2 = .ok (.bipush 99, 2) := by decide +kernel
theorem dX10_isLight_4 : decode cX10_isLight 4 = .ok (.invokestatic 99, 3) := by decide +kernel
theorem dX10_isLight_7 : decode cX10_isLight 7 = .ok (.ireturn, 1) := by decide +kernel
theorem dX10_noPit_0 : decode cX10_noPit 0 = .ok (.aload_n 0, 1) := by decide +kernel
theorem dX10_noPit_1 : decode cX10_noPit 1 = .ok (.getfield 28, 3) := by decide +kernel
theorem dX10_noPit_4 : decode cX10_noPit 4 = .ok (.getfield 153, 3) := by decide +kernel
theorem dX10_noPit_7 : decode cX10_noPit 7 = .ok (.iconst (-1), 1) := by decide +kernel
theorem dX10_noPit_8 : decode cX10_noPit 8 = .ok (.if_icmp .ne 7, 3) := by decide +kernel
theorem dX10_noPit_11 : decode cX10_noPit 11 = .ok (.iconst 1, 1) := by decide +kernel
theorem dX10_noPit_12 : decode cX10_noPit 12 = .ok (.goto 4, 3) := by decide +kernel
theorem dX10_noPit_15 : decode cX10_noPit 15 = .ok (.iconst 0, 1) := by decide +kernel
theorem dX10_noPit_16 : decode cX10_noPit 16 = .ok (.ireturn, 1) := by decide +kernel
theorem dX10_isPlace_0 : decode cX10_isPlace 0 = .ok (.iload_n 1, 1) := by decide +kernel
theorem dX10_isPlace_1 : decode cX10_isPlace 1 = .ok (.iconst 0, 1) := by decide +kernel
theorem dX10_isPlace_2 : decode cX10_isPlace 2 = .ok (.aload_n 0, 1) := by decide +kernel
theorem dX10_isPlace_3 : decode cX10_isPlace 3 = .ok (.getfield 28, 3) := by decide +kernel
theorem dX10_isPlace_6 : decode cX10_isPlace 6 = .ok (.getfield 144, 3) := by decide +kernel
theorem dX10_isPlace_9 : decode cX10_isPlace 9 = .ok (.iconst 1, 1) := by decide +kernel
theorem dX10_isPlace_10 : decode cX10_isPlace 10 = .ok (.isub, 1) := by decide +kernel
theorem dX10_isPlace_11 : decode cX10_isPlace 11 = .ok (.invokestatic 99, 3) := by decide +kernel
theorem dX10_isPlace_14 : decode cX10_isPlace 14 = .ok (.ireturn, 1) := by decide +kernel
theorem dX10_isWay_0 : decode cX10_isWay 0 = .ok (.iload_n 1, 1) := by decide +kernel
theorem dX10_isWay_1 : decode cX10_isWay 1 = .ok (.iconst 0, 1) := by decide +kernel
theorem dX10_isWay_2 : decode cX10_isWay 2 = .ok (.aload_n 0, 1) := by decide +kernel
theorem dX10_isWay_3 : decode cX10_isWay 3 = .ok (.getfield 28, 3) := by decide +kernel
theorem dX10_isWay_6 : decode cX10_isWay 6 = .ok (.getfield 126, 3) := by decide +kernel
theorem dX10_isWay_9 : decode cX10_isWay 9 = .ok (.iconst 1, 1) := by decide +kernel
theorem dX10_isWay_10 : decode cX10_isWay 10 = .ok (.isub, 1) := by decide +kernel
theorem dX10_isWay_11 : decode cX10_isWay 11 = .ok (.invokestatic 99, 3) := by decide +kernel
theorem dX10_isWay_14 : decode cX10_isWay 14 = .ok (.ireturn, 1) := by decide +kernel
theorem dX10_isMan_0 : decode cX10_isMan 0 = .ok (.iload_n 1, 1) := by decide +kernel
theorem dX10_isMan_1 : decode cX10_isMan 1 = .ok (.iconst 0, 1) := by decide +kernel
theorem dX10_isMan_2 : decode cX10_isMan 2 = .ok (.aload_n 0, 1) := by decide +kernel
theorem dX10_isMan_3 : decode cX10_isMan 3 = .ok (.getfield 35, 3) := by decide +kernel
theorem dX10_isMan_6 : decode cX10_isMan 6 = .ok (.getfield 147, 3) := by decide +kernel
theorem dX10_isMan_9 : decode cX10_isMan 9 = .ok (.iconst 1, 1) := by decide +kernel
theorem dX10_isMan_10 : decode cX10_isMan 10 = .ok (.isub, 1) := by decide +kernel
theorem dX10_isMan_11 : decode cX10_isMan 11 = .ok (.invokestatic 99, 3) := by decide +kernel
theorem dX10_isMan_14 : decode cX10_isMan 14 = .ok (.ireturn, 1) := by decide +kernel
theorem dX10_isLamp_0 : decode cX10_isLamp 0 = .ok (.iload_n 1, 1) := by decide +kernel
theorem dX10_isLamp_1 : decode cX10_isLamp 1 = .ok (.iconst 0, 1) := by decide +kernel
theorem dX10_isLamp_2 : decode cX10_isLamp 2 = .ok (.aload_n 0, 1) := by decide +kernel
theorem dX10_isLamp_3 : decode cX10_isLamp 3 = .ok (.getfield 35, 3) := by decide +kernel
theorem dX10_isLamp_6 : decode cX10_isLamp 6 = .ok (.getfield 150, 3) := by decide +kernel
theorem dX10_isLamp_9 : decode cX10_isLamp 9 = .ok (.iconst 1, 1) := by decide +kernel
theorem dX10_isLamp_10 : decode cX10_isLamp 10 = .ok (.isub, 1) := by decide +kernel
theorem dX10_isLamp_11 : decode cX10_isLamp 11 = .ok (.invokestatic 99, 3) := by decide +kernel
theorem dX10_isLamp_14 : decode cX10_isLamp 14 = .ok (.ireturn, 1) := by decide +kernel
theorem dX10_canTell_0 : decode cX10_canTell 0 = .ok (.aload_n 0, 1) := by decide +kernel
theorem dX10_canTell_1 : decode cX10_canTell 1 = .ok (.getfield 35, 3) := by decide +kernel
theorem dX10_canTell_4 : decode cX10_canTell 4 = .ok (.getfield 182, 3) := by decide +kernel
theorem dX10_canTell_7 : decode cX10_canTell 7 = .ok (.iload_n 1, 1) := by decide +kernel
theorem dX10_canTell_8 : decode cX10_canTell 8 = .ok (.baload, 1) := by decide +kernel
theorem dX10_canTell_9 : decode cX10_canTell 9 = .ok (.ifCond .eq 22, 3) := by decide +kernel
theorem dX10_canTell_12 : decode cX10_canTell 12 = .ok (.aload_n 0, 1) := by decide +kernel
theorem dX10_canTell_13 : decode cX10_canTell 13 = .ok (.getfield 35, 3) := by decide +kernel
theorem dX10_canTell_16 : decode cX10_canTell 16 = .ok (.invokevirtual 243, 3) := by decide +kernel
theorem dX10_canTell_19 : decode cX10_canTell 19 = .ok (.invokestatic 313, 3) := by decide +kernel
theorem dX10_canTell_22 : decode cX10_canTell 22 = .ok (.bipush 6, 2) := by decide +kernel
theorem dX10_canTell_24 : decode cX10_canTell 24 = .ok (.if_icmp .gt 7, 3) := by decide +kernel
theorem dX10_canTell_27 : decode cX10_canTell 27 = .ok (.iconst 1, 1) := by decide +kernel
theorem dX10_canTell_28 : decode cX10_canTell 28 = .ok (.goto 4, 3) := by decide +kernel
theorem dX10_canTell_31 : decode cX10_canTell 31 = .ok (.iconst 0, 1) := by decide +kernel
theorem dX10_canTell_32 : decode cX10_canTell 32 = .ok (.ireturn, 1) := by decide +kernel
theorem dX10_hearing_0 : decode cX10_hearing 0 = .ok (.iconst 0, 1) := by decide +kernel
theorem dX10_hearing_1 : decode cX10_hearing 1 = .ok (.istore_n 2, 1) := by decide +kernel
theorem dX10_hearing_2 : decode cX10_hearing 2 = .ok (.iconst 0, 1) := by decide +kernel
theorem dX10_hearing_3 : decode cX10_hearing 3 = .ok (.istore_n 3, 1) := by decide +kernel
theorem dX10_hearing_4 : decode cX10_hearing 4 = .ok (.iload_n 3, 1) := by decide +kernel
theorem dX10_hearing_5 : decode cX10_hearing 5 = .ok (.aload_n 0, 1) := by decide +kernel
theorem dX10_hearing_6 : decode cX10_hearing 6 = .ok (.getfield 35, 3) := by decide +kernel
theorem dX10_hearing_9 : decode cX10_hearing 9 = .ok (.getfield 147, 3) := by decide +kernel
theorem dX10_hearing_12 : decode cX10_hearing 12 = .ok (.if_icmp .ge 85, 3) := by decide +kernel
theorem dX10_hearing_15 : decode cX10_hearing 15 = .ok (.aload_n 0, 1) := by decide +kernel
theorem dX10_hearing_16 : decode cX10_hearing 16 = .ok (.getfield 59, 3) := by decide +kernel
theorem dX10_hearing_19 : decode cX10_hearing 19 = .ok (.getfield 208, 3) := by decide +kernel
theorem dX10_hearing_22 : decode cX10_hearing 22 = .ok (.aload_n 0, 1) := by decide +kernel
theorem dX10_hearing_23 : decode cX10_hearing 23 = .ok (.getfield 35, 3) := by decide +kernel
theorem dX10_hearing_26 : decode cX10_hearing 26 = .ok (.getfield 178, 3) := by decide +kernel
theorem dX10_hearing_29 : decode cX10_hearing 29 = .ok (.iload_n 3, 1) := by decide +kernel
theorem dX10_hearing_30 : decode cX10_hearing 30 = .ok (.iaload, 1) := by decide +kernel
theorem dX10_hearing_31 : decode cX10_hearing 31 = .ok (.iaload, 1) := by decide +kernel
theorem dX10_hearing_32 : decode cX10_hearing 32 = .ok (.istore 4, 2) := by decide +kernel
theorem dX10_hearing_34 : decode cX10_hearing 34 = .ok (.aload_n 0, 1) := by decide +kernel
theorem dX10_hearing_35 : decode cX10_hearing 35 = .ok (.getfield 35, 3) := by decide +kernel
theorem dX10_hearing_38 : decode cX10_hearing 38 = .ok (.getfield 182, 3) := by decide +kernel
theorem dX10_hearing_41 : decode cX10_hearing 41 = .ok (.iload_n 3, 1) := by decide +kernel
theorem dX10_hearing_42 : decode cX10_hearing 42 = .ok (.baload, 1) := by decide +kernel
theorem dX10_hearing_43 : decode cX10_hearing 43 = .ok (.ifCond .ne 48, 3) := by decide +kernel
theorem dX10_hearing_46 : decode cX10_hearing 46 = .ok (.iload 4, 2) := by decide +kernel
theorem dX10_hearing_48 : decode cX10_hearing 48 = .ok (.iconst (-1), 1) := by decide +kernel
theorem dX10_hearing_49 : decode cX10_hearing 49 = .ok (.if_icmp .ne 6, 3) := by decide +kernel
theorem dX10_hearing_52 : decode cX10_hearing 52 = .ok (.goto 39, 3) := by decide +kernel
theorem dX10_hearing_55 : decode cX10_hearing 55 = .ok (.sipush 1000, 3) := by decide +kernel
theorem dX10_hearing_58 : decode cX10_hearing 58 = .ok (.istore 5, 2) := by decide +kernel
theorem dX10_hearing_60 : decode cX10_hearing 60 = .ok (.iconst 0, 1) := by decide +kernel
theorem dX10_hearing_61 : decode cX10_hearing 61 = .ok (.istore 6, 2) := by decide +kernel
theorem dX10_hearing_63 : decode cX10_hearing 63 = .ok (.iload 6, 2) := by decide +kernel
theorem dX10_hearing_65 : decode cX10_hearing 65 = .ok (.iload 4, 2) := by decide +kernel
theorem dX10_hearing_67 : decode cX10_hearing 67 = .ok (.if_icmp .ge 19, 3) := by decide +kernel
theorem dX10_hearing_70 : decode cX10_hearing 70 = .ok (.iload 5, 2) := by decide +kernel
theorem dX10_hearing_72 : decode cX10_hearing 72 = .ok (.iload_n 1, 1) := by decide +kernel
theorem dX10_hearing_73 : decode cX10_hearing 73 = .ok (.imul, 1) := by decide +kernel
theorem dX10_hearing_74 : decode cX10_hearing 74 = .ok (.sipush 1000, 3) := by decide +kernel
theorem dX10_hearing_77 : decode cX10_hearing 77 = .ok (.idiv, 1) := by decide +kernel
theorem dX10_hearing_78 : decode cX10_hearing 78 = .ok (.istore 5, 2) := by decide +kernel
theorem dX10_hearing_80 : decode cX10_hearing 80 = .ok (.iinc 6 1, 3) := by decide +kernel
theorem dX10_hearing_83 : decode cX10_hearing 83 = .ok (.goto (-20), 3) := by decide +kernel
theorem dX10_hearing_86 : decode cX10_hearing 86 = .ok (.iload_n 2, 1) := by decide +kernel
theorem dX10_hearing_87 : decode cX10_hearing 87 = .ok (.iload 5, 2) := by decide +kernel
theorem dX10_hearing_89 : decode cX10_hearing 89 = .ok (.iadd, 1) := by decide +kernel
theorem dX10_hearing_90 : decode cX10_hearing 90 = .ok (.istore_n 2, 1) := by decide +kernel
theorem dX10_hearing_91 : decode cX10_hearing 91 = .ok (.iinc 3 1, 3) := by decide +kernel
theorem dX10_hearing_94 : decode cX10_hearing 94 = .ok (.goto (-90), 3) := by decide +kernel
theorem dX10_hearing_97 : decode cX10_hearing 97 = .ok (.iload_n 2, 1) := by decide +kernel
theorem dX10_hearing_98 : decode cX10_hearing 98 = .ok (.ireturn, 1) := by decide +kernel
theorem dL_law_0 : decode cL_law 0 = .ok (.new 7, 3) := by decide +kernel
theorem dL_law_3 : decode cL_law 3 = .ok (.dup, 1) := by decide +kernel
theorem dL_law_4 : decode cL_law 4 = .ok (.invokespecial 9, 3) := by decide +kernel
theorem dL_law_7 : decode cL_law 7 = .ok (.astore_n 1, 1) := by decide +kernel
theorem dL_law_8 : decode cL_law 8 = .ok (.new 10, 3) := by decide +kernel
theorem dL_law_11 : decode cL_law 11 = .ok (.dup, 1) := by decide +kernel
theorem dL_law_12 : decode cL_law 12 = .ok (.invokespecial 12, 3) := by decide +kernel
theorem dL_law_15 : decode cL_law 15 = .ok (.astore_n 2, 1) := by decide +kernel
theorem dL_law_16 : decode cL_law 16 = .ok (.iconst 0, 1) := by decide +kernel
theorem dL_law_17 : decode cL_law 17 = .ok (.istore_n 3, 1) := by decide +kernel
theorem dL_law_18 : decode cL_law 18 = .ok (.iload_n 3, 1) := by decide +kernel
theorem dL_law_19 : decode cL_law 19 = .ok (.aload_n 0, 1) := by decide +kernel
theorem dL_law_20 : decode cL_law 20 = .ok (.arraylength, 1) := by decide +kernel
theorem dL_law_21 : decode cL_law 21 = .ok (.bipush 7, 2) := by decide +kernel
theorem dL_law_23 : decode cL_law 23 = .ok (.isub, 1) := by decide +kernel
theorem dL_law_24 : decode cL_law 24 = .ok (.if_icmp .gt 1438, 3) := by decide +kernel
theorem dL_law_27 : decode cL_law 27 = .ok (.aload_n 0, 1) := by decide +kernel
theorem dL_law_28 : decode cL_law 28 = .ok (.iload_n 3, 1) := by decide +kernel
theorem dL_law_29 : decode cL_law 29 = .ok (.iaload, 1) := by decide +kernel
theorem dL_law_30 : decode cL_law 30 = .ok (.bipush 31, 2) := by decide +kernel
theorem dL_law_32 : decode cL_law 32 = .ok (.iand, 1) := by decide +kernel
theorem dL_law_33 : decode cL_law 33 = .ok (.tableswitch 1423 0 31 #[143, 206, 219, 232, 265, 314, 337, 412, 445, 478, 511, 570, 649, 708, 767, 790, 813, 846, 879, 922, 975, 1028, 1103, 1146, 1169, 1182, 1235, 1268, 1301, 1344, 1377, 1400], 143) := by decide +kernel
theorem dL_law_176 : decode cL_law 176 = .ok (.aload_n 1, 1) := by decide +kernel
theorem dL_law_177 : decode cL_law 177 = .ok (.aload_n 0, 1) := by decide +kernel
theorem dL_law_178 : decode cL_law 178 = .ok (.iload_n 3, 1) := by decide +kernel
theorem dL_law_179 : decode cL_law 179 = .ok (.iconst 1, 1) := by decide +kernel
theorem dL_law_180 : decode cL_law 180 = .ok (.iadd, 1) := by decide +kernel
theorem dL_law_181 : decode cL_law 181 = .ok (.iaload, 1) := by decide +kernel
theorem dL_law_182 : decode cL_law 182 = .ok (.aload_n 0, 1) := by decide +kernel
theorem dL_law_183 : decode cL_law 183 = .ok (.iload_n 3, 1) := by decide +kernel
theorem dL_law_184 : decode cL_law 184 = .ok (.iconst 2, 1) := by decide +kernel
theorem dL_law_185 : decode cL_law 185 = .ok (.iadd, 1) := by decide +kernel
theorem dL_law_186 : decode cL_law 186 = .ok (.iaload, 1) := by decide +kernel
theorem dL_law_187 : decode cL_law 187 = .ok (.i2l, 1) := by decide +kernel
theorem dL_law_188 : decode cL_law 188 = .ok (.bipush 32, 2) := by decide +kernel
theorem dL_law_190 : decode cL_law 190 = .ok (.lshl, 1) := by decide +kernel
theorem dL_law_191 : decode cL_law 191 = .ok (.aload_n 0, 1) := by decide +kernel
theorem dL_law_192 : decode cL_law 192 = .ok (.iload_n 3, 1) := by decide +kernel
theorem dL_law_193 : decode cL_law 193 = .ok (.iconst 3, 1) := by decide +kernel
theorem dL_law_194 : decode cL_law 194 = .ok (.iadd, 1) := by decide +kernel
theorem dL_law_195 : decode cL_law 195 = .ok (.iaload, 1) := by decide +kernel
theorem dL_law_196 : decode cL_law 196 = .ok (.i2l, 1) := by decide +kernel
theorem dL_law_197 : decode cL_law 197 = .ok (.ldc2_w 13, 3) := by decide +kernel
theorem dL_law_200 : decode cL_law 200 = .ok (.land, 1) := by decide +kernel
theorem dL_law_201 : decode cL_law 201 = .ok (.lor, 1) := by decide +kernel
theorem dL_law_202 : decode cL_law 202 = .ok (.invokevirtual 15, 3) := by decide +kernel
theorem dL_law_205 : decode cL_law 205 = .ok (.aload_n 2, 1) := by decide +kernel
theorem dL_law_206 : decode cL_law 206 = .ok (.aload_n 0, 1) := by decide +kernel
theorem dL_law_207 : decode cL_law 207 = .ok (.iload_n 3, 1) := by decide +kernel
theorem dL_law_208 : decode cL_law 208 = .ok (.iconst 1, 1) := by decide +kernel
theorem dL_law_209 : decode cL_law 209 = .ok (.iadd, 1) := by decide +kernel
theorem dL_law_210 : decode cL_law 210 = .ok (.iaload, 1) := by decide +kernel
theorem dL_law_211 : decode cL_law 211 = .ok (.aload_n 0, 1) := by decide +kernel
theorem dL_law_212 : decode cL_law 212 = .ok (.iload_n 3, 1) := by decide +kernel
theorem dL_law_213 : decode cL_law 213 = .ok (.iconst 2, 1) := by decide +kernel
theorem dL_law_214 : decode cL_law 214 = .ok (.iadd, 1) := by decide +kernel
theorem dL_law_215 : decode cL_law 215 = .ok (.iaload, 1) := by decide +kernel
theorem dL_law_216 : decode cL_law 216 = .ok (.i2l, 1) := by decide +kernel
theorem dL_law_217 : decode cL_law 217 = .ok (.bipush 32, 2) := by decide +kernel
theorem dL_law_219 : decode cL_law 219 = .ok (.lshl, 1) := by decide +kernel
theorem dL_law_220 : decode cL_law 220 = .ok (.aload_n 0, 1) := by decide +kernel
theorem dL_law_221 : decode cL_law 221 = .ok (.iload_n 3, 1) := by decide +kernel
theorem dL_law_222 : decode cL_law 222 = .ok (.iconst 3, 1) := by decide +kernel
theorem dL_law_223 : decode cL_law 223 = .ok (.iadd, 1) := by decide +kernel
theorem dL_law_224 : decode cL_law 224 = .ok (.iaload, 1) := by decide +kernel
theorem dL_law_225 : decode cL_law 225 = .ok (.i2l, 1) := by decide +kernel
theorem dL_law_226 : decode cL_law 226 = .ok (.ldc2_w 13, 3) := by decide +kernel
theorem dL_law_229 : decode cL_law 229 = .ok (.land, 1) := by decide +kernel
theorem dL_law_230 : decode cL_law 230 = .ok (.lor, 1) := by decide +kernel
theorem dL_law_231 : decode cL_law 231 = .ok (.invokevirtual 19, 3) := by decide +kernel
theorem dL_law_234 : decode cL_law 234 = .ok (.if_icmp .eq 1222, 3) := by decide +kernel
theorem dL_law_237 : decode cL_law 237 = .ok (.iconst 0, 1) := by decide +kernel
theorem dL_law_238 : decode cL_law 238 = .ok (.ireturn, 1) := by decide +kernel
theorem dL_law_239 : decode cL_law 239 = .ok (.aload_n 1, 1) := by decide +kernel
theorem dL_law_240 : decode cL_law 240 = .ok (.invokevirtual 20, 3) := by decide +kernel
theorem dL_law_243 : decode cL_law 243 = .ok (.aload_n 2, 1) := by decide +kernel
theorem dL_law_244 : decode cL_law 244 = .ok (.invokevirtual 24, 3) := by decide +kernel
theorem dL_law_247 : decode cL_law 247 = .ok (.if_icmp .eq 1209, 3) := by decide +kernel
theorem dL_law_250 : decode cL_law 250 = .ok (.iconst 0, 1) := by decide +kernel
theorem dL_law_251 : decode cL_law 251 = .ok (.ireturn, 1) := by decide +kernel
theorem dL_law_252 : decode cL_law 252 = .ok (.aload_n 1, 1) := by decide +kernel
theorem dL_law_253 : decode cL_law 253 = .ok (.invokevirtual 25, 3) := by decide +kernel
theorem dL_law_256 : decode cL_law 256 = .ok (.aload_n 2, 1) := by decide +kernel
theorem dL_law_257 : decode cL_law 257 = .ok (.invokevirtual 28, 3) := by decide +kernel
theorem dL_law_260 : decode cL_law 260 = .ok (.if_icmp .eq 1196, 3) := by decide +kernel
theorem dL_law_263 : decode cL_law 263 = .ok (.iconst 0, 1) := by decide +kernel
theorem dL_law_264 : decode cL_law 264 = .ok (.ireturn, 1) := by decide +kernel
theorem dL_law_265 : decode cL_law 265 = .ok (.aload_n 1, 1) := by decide +kernel
theorem dL_law_266 : decode cL_law 266 = .ok (.aload_n 0, 1) := by decide +kernel
theorem dL_law_267 : decode cL_law 267 = .ok (.iload_n 3, 1) := by decide +kernel
theorem dL_law_268 : decode cL_law 268 = .ok (.iconst 1, 1) := by decide +kernel
theorem dL_law_269 : decode cL_law 269 = .ok (.iadd, 1) := by decide +kernel
theorem dL_law_270 : decode cL_law 270 = .ok (.iaload, 1) := by decide +kernel
theorem dL_law_271 : decode cL_law 271 = .ok (.aload_n 0, 1) := by decide +kernel
theorem dL_law_272 : decode cL_law 272 = .ok (.iload_n 3, 1) := by decide +kernel
theorem dL_law_273 : decode cL_law 273 = .ok (.iconst 2, 1) := by decide +kernel
theorem dL_law_274 : decode cL_law 274 = .ok (.iadd, 1) := by decide +kernel
theorem dL_law_275 : decode cL_law 275 = .ok (.iaload, 1) := by decide +kernel
theorem dL_law_276 : decode cL_law 276 = .ok (.invokevirtual 29, 3) := by decide +kernel
theorem dL_law_279 : decode cL_law 279 = .ok (.aload_n 2, 1) := by decide +kernel
theorem dL_law_280 : decode cL_law 280 = .ok (.aload_n 0, 1) := by decide +kernel
theorem dL_law_281 : decode cL_law 281 = .ok (.iload_n 3, 1) := by decide +kernel
theorem dL_law_282 : decode cL_law 282 = .ok (.iconst 1, 1) := by decide +kernel
theorem dL_law_283 : decode cL_law 283 = .ok (.iadd, 1) := by decide +kernel
theorem dL_law_284 : decode cL_law 284 = .ok (.iaload, 1) := by decide +kernel
theorem dL_law_285 : decode cL_law 285 = .ok (.aload_n 0, 1) := by decide +kernel
theorem dL_law_286 : decode cL_law 286 = .ok (.iload_n 3, 1) := by decide +kernel
theorem dL_law_287 : decode cL_law 287 = .ok (.iconst 2, 1) := by decide +kernel
theorem dL_law_288 : decode cL_law 288 = .ok (.iadd, 1) := by decide +kernel
theorem dL_law_289 : decode cL_law 289 = .ok (.iaload, 1) := by decide +kernel
theorem dL_law_290 : decode cL_law 290 = .ok (.invokevirtual 33, 3) := by decide +kernel
theorem dL_law_293 : decode cL_law 293 = .ok (.if_icmp .eq 1163, 3) := by decide +kernel
theorem dL_law_296 : decode cL_law 296 = .ok (.iconst 0, 1) := by decide +kernel
theorem dL_law_297 : decode cL_law 297 = .ok (.ireturn, 1) := by decide +kernel
theorem dL_law_298 : decode cL_law 298 = .ok (.aload_n 1, 1) := by decide +kernel
theorem dL_law_299 : decode cL_law 299 = .ok (.aload_n 0, 1) := by decide +kernel
theorem dL_law_300 : decode cL_law 300 = .ok (.iload_n 3, 1) := by decide +kernel
theorem dL_law_301 : decode cL_law 301 = .ok (.iconst 1, 1) := by decide +kernel
theorem dL_law_302 : decode cL_law 302 = .ok (.iadd, 1) := by decide +kernel
theorem dL_law_303 : decode cL_law 303 = .ok (.iaload, 1) := by decide +kernel
theorem dL_law_304 : decode cL_law 304 = .ok (.aload_n 0, 1) := by decide +kernel
theorem dL_law_305 : decode cL_law 305 = .ok (.iload_n 3, 1) := by decide +kernel
theorem dL_law_306 : decode cL_law 306 = .ok (.iconst 2, 1) := by decide +kernel
theorem dL_law_307 : decode cL_law 307 = .ok (.iadd, 1) := by decide +kernel
theorem dL_law_308 : decode cL_law 308 = .ok (.iaload, 1) := by decide +kernel
theorem dL_law_309 : decode cL_law 309 = .ok (.ifCond .eq 7, 3) := by decide +kernel
theorem dL_law_312 : decode cL_law 312 = .ok (.iconst 1, 1) := by decide +kernel
theorem dL_law_313 : decode cL_law 313 = .ok (.goto 4, 3) := by decide +kernel
theorem dL_law_316 : decode cL_law 316 = .ok (.iconst 0, 1) := by decide +kernel
theorem dL_law_317 : decode cL_law 317 = .ok (.invokevirtual 34, 3) := by decide +kernel
theorem dL_law_320 : decode cL_law 320 = .ok (.aload_n 2, 1) := by decide +kernel
theorem dL_law_321 : decode cL_law 321 = .ok (.aload_n 0, 1) := by decide +kernel
theorem dL_law_322 : decode cL_law 322 = .ok (.iload_n 3, 1) := by decide +kernel
theorem dL_law_323 : decode cL_law 323 = .ok (.iconst 1, 1) := by decide +kernel
theorem dL_law_324 : decode cL_law 324 = .ok (.iadd, 1) := by decide +kernel
theorem dL_law_325 : decode cL_law 325 = .ok (.iaload, 1) := by decide +kernel
theorem dL_law_326 : decode cL_law 326 = .ok (.aload_n 0, 1) := by decide +kernel
theorem dL_law_327 : decode cL_law 327 = .ok (.iload_n 3, 1) := by decide +kernel
theorem dL_law_328 : decode cL_law 328 = .ok (.iconst 2, 1) := by decide +kernel
theorem dL_law_329 : decode cL_law 329 = .ok (.iadd, 1) := by decide +kernel
theorem dL_law_330 : decode cL_law 330 = .ok (.iaload, 1) := by decide +kernel
theorem dL_law_331 : decode cL_law 331 = .ok (.ifCond .eq 7, 3) := by decide +kernel
theorem dL_law_334 : decode cL_law 334 = .ok (.iconst 1, 1) := by decide +kernel
theorem dL_law_335 : decode cL_law 335 = .ok (.goto 4, 3) := by decide +kernel
theorem dL_law_338 : decode cL_law 338 = .ok (.iconst 0, 1) := by decide +kernel
theorem dL_law_339 : decode cL_law 339 = .ok (.invokevirtual 38, 3) := by decide +kernel
theorem dL_law_342 : decode cL_law 342 = .ok (.if_icmp .eq 1114, 3) := by decide +kernel
theorem dL_law_345 : decode cL_law 345 = .ok (.iconst 0, 1) := by decide +kernel
theorem dL_law_346 : decode cL_law 346 = .ok (.ireturn, 1) := by decide +kernel
theorem dL_law_347 : decode cL_law 347 = .ok (.aload_n 1, 1) := by decide +kernel
theorem dL_law_348 : decode cL_law 348 = .ok (.aload_n 0, 1) := by decide +kernel
theorem dL_law_349 : decode cL_law 349 = .ok (.iload_n 3, 1) := by decide +kernel
theorem dL_law_350 : decode cL_law 350 = .ok (.iconst 1, 1) := by decide +kernel
theorem dL_law_351 : decode cL_law 351 = .ok (.iadd, 1) := by decide +kernel
theorem dL_law_352 : decode cL_law 352 = .ok (.iaload, 1) := by decide +kernel
theorem dL_law_353 : decode cL_law 353 = .ok (.invokevirtual 39, 3) := by decide +kernel
theorem dL_law_356 : decode cL_law 356 = .ok (.aload_n 2, 1) := by decide +kernel
theorem dL_law_357 : decode cL_law 357 = .ok (.aload_n 0, 1) := by decide +kernel
theorem dL_law_358 : decode cL_law 358 = .ok (.iload_n 3, 1) := by decide +kernel
theorem dL_law_359 : decode cL_law 359 = .ok (.iconst 1, 1) := by decide +kernel
theorem dL_law_360 : decode cL_law 360 = .ok (.iadd, 1) := by decide +kernel
theorem dL_law_361 : decode cL_law 361 = .ok (.iaload, 1) := by decide +kernel
theorem dL_law_362 : decode cL_law 362 = .ok (.invokevirtual 43, 3) := by decide +kernel
theorem dL_law_365 : decode cL_law 365 = .ok (.if_icmp .eq 1091, 3) := by decide +kernel
theorem dL_law_368 : decode cL_law 368 = .ok (.iconst 0, 1) := by decide +kernel
theorem dL_law_369 : decode cL_law 369 = .ok (.ireturn, 1) := by decide +kernel
theorem dL_law_370 : decode cL_law 370 = .ok (.aload_n 1, 1) := by decide +kernel
theorem dL_law_371 : decode cL_law 371 = .ok (.aload_n 0, 1) := by decide +kernel
theorem dL_law_372 : decode cL_law 372 = .ok (.iload_n 3, 1) := by decide +kernel
theorem dL_law_373 : decode cL_law 373 = .ok (.iconst 1, 1) := by decide +kernel
theorem dL_law_374 : decode cL_law 374 = .ok (.iadd, 1) := by decide +kernel
theorem dL_law_375 : decode cL_law 375 = .ok (.iaload, 1) := by decide +kernel
theorem dL_law_376 : decode cL_law 376 = .ok (.aload_n 0, 1) := by decide +kernel
theorem dL_law_377 : decode cL_law 377 = .ok (.iload_n 3, 1) := by decide +kernel
theorem dL_law_378 : decode cL_law 378 = .ok (.iconst 2, 1) := by decide +kernel
theorem dL_law_379 : decode cL_law 379 = .ok (.iadd, 1) := by decide +kernel
theorem dL_law_380 : decode cL_law 380 = .ok (.iaload, 1) := by decide +kernel
theorem dL_law_381 : decode cL_law 381 = .ok (.ifCond .eq 7, 3) := by decide +kernel
theorem dL_law_384 : decode cL_law 384 = .ok (.iconst 1, 1) := by decide +kernel
theorem dL_law_385 : decode cL_law 385 = .ok (.goto 4, 3) := by decide +kernel
theorem dL_law_388 : decode cL_law 388 = .ok (.iconst 0, 1) := by decide +kernel
theorem dL_law_389 : decode cL_law 389 = .ok (.aload_n 0, 1) := by decide +kernel
theorem dL_law_390 : decode cL_law 390 = .ok (.iload_n 3, 1) := by decide +kernel
theorem dL_law_391 : decode cL_law 391 = .ok (.iconst 3, 1) := by decide +kernel
theorem dL_law_392 : decode cL_law 392 = .ok (.iadd, 1) := by decide +kernel
theorem dL_law_393 : decode cL_law 393 = .ok (.iaload, 1) := by decide +kernel
theorem dL_law_394 : decode cL_law 394 = .ok (.ifCond .eq 7, 3) := by decide +kernel
theorem dL_law_397 : decode cL_law 397 = .ok (.iconst 1, 1) := by decide +kernel
theorem dL_law_398 : decode cL_law 398 = .ok (.goto 4, 3) := by decide +kernel
theorem dL_law_401 : decode cL_law 401 = .ok (.iconst 0, 1) := by decide +kernel
theorem dL_law_402 : decode cL_law 402 = .ok (.invokevirtual 44, 3) := by decide +kernel
theorem dL_law_405 : decode cL_law 405 = .ok (.aload_n 2, 1) := by decide +kernel
theorem dL_law_406 : decode cL_law 406 = .ok (.aload_n 0, 1) := by decide +kernel
theorem dL_law_407 : decode cL_law 407 = .ok (.iload_n 3, 1) := by decide +kernel
theorem dL_law_408 : decode cL_law 408 = .ok (.iconst 1, 1) := by decide +kernel
theorem dL_law_409 : decode cL_law 409 = .ok (.iadd, 1) := by decide +kernel
theorem dL_law_410 : decode cL_law 410 = .ok (.iaload, 1) := by decide +kernel
theorem dL_law_411 : decode cL_law 411 = .ok (.aload_n 0, 1) := by decide +kernel
theorem dL_law_412 : decode cL_law 412 = .ok (.iload_n 3, 1) := by decide +kernel
theorem dL_law_413 : decode cL_law 413 = .ok (.iconst 2, 1) := by decide +kernel
theorem dL_law_414 : decode cL_law 414 = .ok (.iadd, 1) := by decide +kernel
theorem dL_law_415 : decode cL_law 415 = .ok (.iaload, 1) := by decide +kernel
theorem dL_law_416 : decode cL_law 416 = .ok (.ifCond .eq 7, 3) := by decide +kernel
theorem dL_law_419 : decode cL_law 419 = .ok (.iconst 1, 1) := by decide +kernel
theorem dL_law_420 : decode cL_law 420 = .ok (.goto 4, 3) := by decide +kernel
theorem dL_law_423 : decode cL_law 423 = .ok (.iconst 0, 1) := by decide +kernel
theorem dL_law_424 : decode cL_law 424 = .ok (.aload_n 0, 1) := by decide +kernel
theorem dL_law_425 : decode cL_law 425 = .ok (.iload_n 3, 1) := by decide +kernel
theorem dL_law_426 : decode cL_law 426 = .ok (.iconst 3, 1) := by decide +kernel
theorem dL_law_427 : decode cL_law 427 = .ok (.iadd, 1) := by decide +kernel
theorem dL_law_428 : decode cL_law 428 = .ok (.iaload, 1) := by decide +kernel
theorem dL_law_429 : decode cL_law 429 = .ok (.ifCond .eq 7, 3) := by decide +kernel
theorem dL_law_432 : decode cL_law 432 = .ok (.iconst 1, 1) := by decide +kernel
theorem dL_law_433 : decode cL_law 433 = .ok (.goto 4, 3) := by decide +kernel
theorem dL_law_436 : decode cL_law 436 = .ok (.iconst 0, 1) := by decide +kernel
theorem dL_law_437 : decode cL_law 437 = .ok (.invokevirtual 48, 3) := by decide +kernel
theorem dL_law_440 : decode cL_law 440 = .ok (.if_icmp .eq 1016, 3) := by decide +kernel
theorem dL_law_443 : decode cL_law 443 = .ok (.iconst 0, 1) := by decide +kernel
theorem dL_law_444 : decode cL_law 444 = .ok (.ireturn, 1) := by decide +kernel
theorem dL_law_445 : decode cL_law 445 = .ok (.aload_n 1, 1) := by decide +kernel
theorem dL_law_446 : decode cL_law 446 = .ok (.aload_n 0, 1) := by decide +kernel
theorem dL_law_447 : decode cL_law 447 = .ok (.iload_n 3, 1) := by decide +kernel
theorem dL_law_448 : decode cL_law 448 = .ok (.iconst 1, 1) := by decide +kernel
theorem dL_law_449 : decode cL_law 449 = .ok (.iadd, 1) := by decide +kernel
theorem dL_law_450 : decode cL_law 450 = .ok (.iaload, 1) := by decide +kernel
theorem dL_law_451 : decode cL_law 451 = .ok (.aload_n 0, 1) := by decide +kernel
theorem dL_law_452 : decode cL_law 452 = .ok (.iload_n 3, 1) := by decide +kernel
theorem dL_law_453 : decode cL_law 453 = .ok (.iconst 2, 1) := by decide +kernel
theorem dL_law_454 : decode cL_law 454 = .ok (.iadd, 1) := by decide +kernel
theorem dL_law_455 : decode cL_law 455 = .ok (.iaload, 1) := by decide +kernel
theorem dL_law_456 : decode cL_law 456 = .ok (.invokevirtual 49, 3) := by decide +kernel
theorem dL_law_459 : decode cL_law 459 = .ok (.aload_n 2, 1) := by decide +kernel
theorem dL_law_460 : decode cL_law 460 = .ok (.aload_n 0, 1) := by decide +kernel
theorem dL_law_461 : decode cL_law 461 = .ok (.iload_n 3, 1) := by decide +kernel
theorem dL_law_462 : decode cL_law 462 = .ok (.iconst 1, 1) := by decide +kernel
theorem dL_law_463 : decode cL_law 463 = .ok (.iadd, 1) := by decide +kernel
theorem dL_law_464 : decode cL_law 464 = .ok (.iaload, 1) := by decide +kernel
theorem dL_law_465 : decode cL_law 465 = .ok (.aload_n 0, 1) := by decide +kernel
theorem dL_law_466 : decode cL_law 466 = .ok (.iload_n 3, 1) := by decide +kernel
theorem dL_law_467 : decode cL_law 467 = .ok (.iconst 2, 1) := by decide +kernel
theorem dL_law_468 : decode cL_law 468 = .ok (.iadd, 1) := by decide +kernel
theorem dL_law_469 : decode cL_law 469 = .ok (.iaload, 1) := by decide +kernel
theorem dL_law_470 : decode cL_law 470 = .ok (.invokevirtual 52, 3) := by decide +kernel
theorem dL_law_473 : decode cL_law 473 = .ok (.if_icmp .eq 983, 3) := by decide +kernel
theorem dL_law_476 : decode cL_law 476 = .ok (.iconst 0, 1) := by decide +kernel
theorem dL_law_477 : decode cL_law 477 = .ok (.ireturn, 1) := by decide +kernel
theorem dL_law_478 : decode cL_law 478 = .ok (.aload_n 1, 1) := by decide +kernel
theorem dL_law_479 : decode cL_law 479 = .ok (.aload_n 0, 1) := by decide +kernel
theorem dL_law_480 : decode cL_law 480 = .ok (.iload_n 3, 1) := by decide +kernel
theorem dL_law_481 : decode cL_law 481 = .ok (.iconst 1, 1) := by decide +kernel
theorem dL_law_482 : decode cL_law 482 = .ok (.iadd, 1) := by decide +kernel
theorem dL_law_483 : decode cL_law 483 = .ok (.iaload, 1) := by decide +kernel
theorem dL_law_484 : decode cL_law 484 = .ok (.aload_n 0, 1) := by decide +kernel
theorem dL_law_485 : decode cL_law 485 = .ok (.iload_n 3, 1) := by decide +kernel
theorem dL_law_486 : decode cL_law 486 = .ok (.iconst 2, 1) := by decide +kernel
theorem dL_law_487 : decode cL_law 487 = .ok (.iadd, 1) := by decide +kernel
theorem dL_law_488 : decode cL_law 488 = .ok (.iaload, 1) := by decide +kernel
theorem dL_law_489 : decode cL_law 489 = .ok (.invokevirtual 53, 3) := by decide +kernel
theorem dL_law_492 : decode cL_law 492 = .ok (.aload_n 2, 1) := by decide +kernel
theorem dL_law_493 : decode cL_law 493 = .ok (.aload_n 0, 1) := by decide +kernel
theorem dL_law_494 : decode cL_law 494 = .ok (.iload_n 3, 1) := by decide +kernel
theorem dL_law_495 : decode cL_law 495 = .ok (.iconst 1, 1) := by decide +kernel
theorem dL_law_496 : decode cL_law 496 = .ok (.iadd, 1) := by decide +kernel
theorem dL_law_497 : decode cL_law 497 = .ok (.iaload, 1) := by decide +kernel
theorem dL_law_498 : decode cL_law 498 = .ok (.aload_n 0, 1) := by decide +kernel
theorem dL_law_499 : decode cL_law 499 = .ok (.iload_n 3, 1) := by decide +kernel
theorem dL_law_500 : decode cL_law 500 = .ok (.iconst 2, 1) := by decide +kernel
theorem dL_law_501 : decode cL_law 501 = .ok (.iadd, 1) := by decide +kernel
theorem dL_law_502 : decode cL_law 502 = .ok (.iaload, 1) := by decide +kernel
theorem dL_law_503 : decode cL_law 503 = .ok (.invokevirtual 56, 3) := by decide +kernel
theorem dL_law_506 : decode cL_law 506 = .ok (.if_icmp .eq 950, 3) := by decide +kernel
theorem dL_law_509 : decode cL_law 509 = .ok (.iconst 0, 1) := by decide +kernel
theorem dL_law_510 : decode cL_law 510 = .ok (.ireturn, 1) := by decide +kernel
theorem dL_law_511 : decode cL_law 511 = .ok (.aload_n 1, 1) := by decide +kernel
theorem dL_law_512 : decode cL_law 512 = .ok (.aload_n 0, 1) := by decide +kernel
theorem dL_law_513 : decode cL_law 513 = .ok (.iload_n 3, 1) := by decide +kernel
theorem dL_law_514 : decode cL_law 514 = .ok (.iconst 1, 1) := by decide +kernel
theorem dL_law_515 : decode cL_law 515 = .ok (.iadd, 1) := by decide +kernel
theorem dL_law_516 : decode cL_law 516 = .ok (.iaload, 1) := by decide +kernel
theorem dL_law_517 : decode cL_law 517 = .ok (.aload_n 0, 1) := by decide +kernel
theorem dL_law_518 : decode cL_law 518 = .ok (.iload_n 3, 1) := by decide +kernel
theorem dL_law_519 : decode cL_law 519 = .ok (.iconst 2, 1) := by decide +kernel
theorem dL_law_520 : decode cL_law 520 = .ok (.iadd, 1) := by decide +kernel
theorem dL_law_521 : decode cL_law 521 = .ok (.iaload, 1) := by decide +kernel
theorem dL_law_522 : decode cL_law 522 = .ok (.invokevirtual 57, 3) := by decide +kernel
theorem dL_law_525 : decode cL_law 525 = .ok (.aload_n 2, 1) := by decide +kernel
theorem dL_law_526 : decode cL_law 526 = .ok (.aload_n 0, 1) := by decide +kernel
theorem dL_law_527 : decode cL_law 527 = .ok (.iload_n 3, 1) := by decide +kernel
theorem dL_law_528 : decode cL_law 528 = .ok (.iconst 1, 1) := by decide +kernel
theorem dL_law_529 : decode cL_law 529 = .ok (.iadd, 1) := by decide +kernel
theorem dL_law_530 : decode cL_law 530 = .ok (.iaload, 1) := by decide +kernel
theorem dL_law_531 : decode cL_law 531 = .ok (.aload_n 0, 1) := by decide +kernel
theorem dL_law_532 : decode cL_law 532 = .ok (.iload_n 3, 1) := by decide +kernel
theorem dL_law_533 : decode cL_law 533 = .ok (.iconst 2, 1) := by decide +kernel
theorem dL_law_534 : decode cL_law 534 = .ok (.iadd, 1) := by decide +kernel
theorem dL_law_535 : decode cL_law 535 = .ok (.iaload, 1) := by decide +kernel
theorem dL_law_536 : decode cL_law 536 = .ok (.invokevirtual 60, 3) := by decide +kernel
theorem dL_law_539 : decode cL_law 539 = .ok (.if_icmp .eq 917, 3) := by decide +kernel
theorem dL_law_542 : decode cL_law 542 = .ok (.iconst 0, 1) := by decide +kernel
theorem dL_law_543 : decode cL_law 543 = .ok (.ireturn, 1) := by decide +kernel
theorem dL_law_544 : decode cL_law 544 = .ok (.aload_n 1, 1) := by decide +kernel
theorem dL_law_545 : decode cL_law 545 = .ok (.aload_n 0, 1) := by decide +kernel
theorem dL_law_546 : decode cL_law 546 = .ok (.iload_n 3, 1) := by decide +kernel
theorem dL_law_547 : decode cL_law 547 = .ok (.iconst 1, 1) := by decide +kernel
theorem dL_law_548 : decode cL_law 548 = .ok (.iadd, 1) := by decide +kernel
theorem dL_law_549 : decode cL_law 549 = .ok (.iaload, 1) := by decide +kernel
theorem dL_law_550 : decode cL_law 550 = .ok (.aload_n 0, 1) := by decide +kernel
theorem dL_law_551 : decode cL_law 551 = .ok (.iload_n 3, 1) := by decide +kernel
theorem dL_law_552 : decode cL_law 552 = .ok (.iconst 2, 1) := by decide +kernel
theorem dL_law_553 : decode cL_law 553 = .ok (.iadd, 1) := by decide +kernel
theorem dL_law_554 : decode cL_law 554 = .ok (.iaload, 1) := by decide +kernel
theorem dL_law_555 : decode cL_law 555 = .ok (.aload_n 0, 1) := by decide +kernel
theorem dL_law_556 : decode cL_law 556 = .ok (.iload_n 3, 1) := by decide +kernel
theorem dL_law_557 : decode cL_law 557 = .ok (.iconst 3, 1) := by decide +kernel
theorem dL_law_558 : decode cL_law 558 = .ok (.iadd, 1) := by decide +kernel
theorem dL_law_559 : decode cL_law 559 = .ok (.iaload, 1) := by decide +kernel
theorem dL_law_560 : decode cL_law 560 = .ok (.ifCond .eq 7, 3) := by decide +kernel
theorem dL_law_563 : decode cL_law 563 = .ok (.iconst 1, 1) := by decide +kernel
theorem dL_law_564 : decode cL_law 564 = .ok (.goto 4, 3) := by decide +kernel
theorem dL_law_567 : decode cL_law 567 = .ok (.iconst 0, 1) := by decide +kernel
theorem dL_law_568 : decode cL_law 568 = .ok (.invokevirtual 61, 3) := by decide +kernel
theorem dL_law_571 : decode cL_law 571 = .ok (.aload_n 2, 1) := by decide +kernel
theorem dL_law_572 : decode cL_law 572 = .ok (.aload_n 0, 1) := by decide +kernel
theorem dL_law_573 : decode cL_law 573 = .ok (.iload_n 3, 1) := by decide +kernel
theorem dL_law_574 : decode cL_law 574 = .ok (.iconst 1, 1) := by decide +kernel
theorem dL_law_575 : decode cL_law 575 = .ok (.iadd, 1) := by decide +kernel
theorem dL_law_576 : decode cL_law 576 = .ok (.iaload, 1) := by decide +kernel
theorem dL_law_577 : decode cL_law 577 = .ok (.aload_n 0, 1) := by decide +kernel
theorem dL_law_578 : decode cL_law 578 = .ok (.iload_n 3, 1) := by decide +kernel
theorem dL_law_579 : decode cL_law 579 = .ok (.iconst 2, 1) := by decide +kernel
theorem dL_law_580 : decode cL_law 580 = .ok (.iadd, 1) := by decide +kernel
theorem dL_law_581 : decode cL_law 581 = .ok (.iaload, 1) := by decide +kernel
theorem dL_law_582 : decode cL_law 582 = .ok (.aload_n 0, 1) := by decide +kernel
theorem dL_law_583 : decode cL_law 583 = .ok (.iload_n 3, 1) := by decide +kernel
theorem dL_law_584 : decode cL_law 584 = .ok (.iconst 3, 1) := by decide +kernel
theorem dL_law_585 : decode cL_law 585 = .ok (.iadd, 1) := by decide +kernel
theorem dL_law_586 : decode cL_law 586 = .ok (.iaload, 1) := by decide +kernel
theorem dL_law_587 : decode cL_law 587 = .ok (.ifCond .eq 7, 3) := by decide +kernel
theorem dL_law_590 : decode cL_law 590 = .ok (.iconst 1, 1) := by decide +kernel
theorem dL_law_591 : decode cL_law 591 = .ok (.goto 4, 3) := by decide +kernel
theorem dL_law_594 : decode cL_law 594 = .ok (.iconst 0, 1) := by decide +kernel
theorem dL_law_595 : decode cL_law 595 = .ok (.invokevirtual 65, 3) := by decide +kernel
theorem dL_law_598 : decode cL_law 598 = .ok (.if_icmp .eq 858, 3) := by decide +kernel
theorem dL_law_601 : decode cL_law 601 = .ok (.iconst 0, 1) := by decide +kernel
theorem dL_law_602 : decode cL_law 602 = .ok (.ireturn, 1) := by decide +kernel
theorem dL_law_603 : decode cL_law 603 = .ok (.aload_n 1, 1) := by decide +kernel
theorem dL_law_604 : decode cL_law 604 = .ok (.aload_n 0, 1) := by decide +kernel
theorem dL_law_605 : decode cL_law 605 = .ok (.iload_n 3, 1) := by decide +kernel
theorem dL_law_606 : decode cL_law 606 = .ok (.iconst 1, 1) := by decide +kernel
theorem dL_law_607 : decode cL_law 607 = .ok (.iadd, 1) := by decide +kernel
theorem dL_law_608 : decode cL_law 608 = .ok (.iaload, 1) := by decide +kernel
theorem dL_law_609 : decode cL_law 609 = .ok (.aload_n 0, 1) := by decide +kernel
theorem dL_law_610 : decode cL_law 610 = .ok (.iload_n 3, 1) := by decide +kernel
theorem dL_law_611 : decode cL_law 611 = .ok (.iconst 2, 1) := by decide +kernel
theorem dL_law_612 : decode cL_law 612 = .ok (.iadd, 1) := by decide +kernel
theorem dL_law_613 : decode cL_law 613 = .ok (.iaload, 1) := by decide +kernel
theorem dL_law_614 : decode cL_law 614 = .ok (.aload_n 0, 1) := by decide +kernel
theorem dL_law_615 : decode cL_law 615 = .ok (.iload_n 3, 1) := by decide +kernel
theorem dL_law_616 : decode cL_law 616 = .ok (.iconst 3, 1) := by decide +kernel
theorem dL_law_617 : decode cL_law 617 = .ok (.iadd, 1) := by decide +kernel
theorem dL_law_618 : decode cL_law 618 = .ok (.iaload, 1) := by decide +kernel
theorem dL_law_619 : decode cL_law 619 = .ok (.aload_n 0, 1) := by decide +kernel
theorem dL_law_620 : decode cL_law 620 = .ok (.iload_n 3, 1) := by decide +kernel
theorem dL_law_621 : decode cL_law 621 = .ok (.iconst 4, 1) := by decide +kernel
theorem dL_law_622 : decode cL_law 622 = .ok (.iadd, 1) := by decide +kernel
theorem dL_law_623 : decode cL_law 623 = .ok (.iaload, 1) := by decide +kernel
theorem dL_law_624 : decode cL_law 624 = .ok (.aload_n 0, 1) := by decide +kernel
theorem dL_law_625 : decode cL_law 625 = .ok (.iload_n 3, 1) := by decide +kernel
theorem dL_law_626 : decode cL_law 626 = .ok (.iconst 5, 1) := by decide +kernel
theorem dL_law_627 : decode cL_law 627 = .ok (.iadd, 1) := by decide +kernel
theorem dL_law_628 : decode cL_law 628 = .ok (.iaload, 1) := by decide +kernel
theorem dL_law_629 : decode cL_law 629 = .ok (.ifCond .eq 7, 3) := by decide +kernel
theorem dL_law_632 : decode cL_law 632 = .ok (.iconst 1, 1) := by decide +kernel
theorem dL_law_633 : decode cL_law 633 = .ok (.goto 4, 3) := by decide +kernel
theorem dL_law_636 : decode cL_law 636 = .ok (.iconst 0, 1) := by decide +kernel
theorem dL_law_637 : decode cL_law 637 = .ok (.invokevirtual 66, 3) := by decide +kernel
theorem dL_law_640 : decode cL_law 640 = .ok (.aload_n 2, 1) := by decide +kernel
theorem dL_law_641 : decode cL_law 641 = .ok (.aload_n 0, 1) := by decide +kernel
theorem dL_law_642 : decode cL_law 642 = .ok (.iload_n 3, 1) := by decide +kernel
theorem dL_law_643 : decode cL_law 643 = .ok (.iconst 1, 1) := by decide +kernel
theorem dL_law_644 : decode cL_law 644 = .ok (.iadd, 1) := by decide +kernel
theorem dL_law_645 : decode cL_law 645 = .ok (.iaload, 1) := by decide +kernel
theorem dL_law_646 : decode cL_law 646 = .ok (.aload_n 0, 1) := by decide +kernel
theorem dL_law_647 : decode cL_law 647 = .ok (.iload_n 3, 1) := by decide +kernel
theorem dL_law_648 : decode cL_law 648 = .ok (.iconst 2, 1) := by decide +kernel
theorem dL_law_649 : decode cL_law 649 = .ok (.iadd, 1) := by decide +kernel
theorem dL_law_650 : decode cL_law 650 = .ok (.iaload, 1) := by decide +kernel
theorem dL_law_651 : decode cL_law 651 = .ok (.aload_n 0, 1) := by decide +kernel
theorem dL_law_652 : decode cL_law 652 = .ok (.iload_n 3, 1) := by decide +kernel
theorem dL_law_653 : decode cL_law 653 = .ok (.iconst 3, 1) := by decide +kernel
theorem dL_law_654 : decode cL_law 654 = .ok (.iadd, 1) := by decide +kernel
theorem dL_law_655 : decode cL_law 655 = .ok (.iaload, 1) := by decide +kernel
theorem dL_law_656 : decode cL_law 656 = .ok (.aload_n 0, 1) := by decide +kernel
theorem dL_law_657 : decode cL_law 657 = .ok (.iload_n 3, 1) := by decide +kernel
theorem dL_law_658 : decode cL_law 658 = .ok (.iconst 4, 1) := by decide +kernel
theorem dL_law_659 : decode cL_law 659 = .ok (.iadd, 1) := by decide +kernel
theorem dL_law_660 : decode cL_law 660 = .ok (.iaload, 1) := by decide +kernel
theorem dL_law_661 : decode cL_law 661 = .ok (.aload_n 0, 1) := by decide +kernel
theorem dL_law_662 : decode cL_law 662 = .ok (.iload_n 3, 1) := by decide +kernel
theorem dL_law_663 : decode cL_law 663 = .ok (.iconst 5, 1) := by decide +kernel
theorem dL_law_664 : decode cL_law 664 = .ok (.iadd, 1) := by decide +kernel
theorem dL_law_665 : decode cL_law 665 = .ok (.iaload, 1) := by decide +kernel
theorem dL_law_666 : decode cL_law 666 = .ok (.ifCond .eq 7, 3) := by decide +kernel
theorem dL_law_669 : decode cL_law 669 = .ok (.iconst 1, 1) := by decide +kernel
theorem dL_law_670 : decode cL_law 670 = .ok (.goto 4, 3) := by decide +kernel
theorem dL_law_673 : decode cL_law 673 = .ok (.iconst 0, 1) := by decide +kernel
theorem dL_law_674 : decode cL_law 674 = .ok (.invokevirtual 70, 3) := by decide +kernel
theorem dL_law_677 : decode cL_law 677 = .ok (.if_icmp .eq 779, 3) := by decide +kernel
theorem dL_law_680 : decode cL_law 680 = .ok (.iconst 0, 1) := by decide +kernel
theorem dL_law_681 : decode cL_law 681 = .ok (.ireturn, 1) := by decide +kernel
theorem dL_law_682 : decode cL_law 682 = .ok (.aload_n 1, 1) := by decide +kernel
theorem dL_law_683 : decode cL_law 683 = .ok (.aload_n 0, 1) := by decide +kernel
theorem dL_law_684 : decode cL_law 684 = .ok (.iload_n 3, 1) := by decide +kernel
theorem dL_law_685 : decode cL_law 685 = .ok (.iconst 1, 1) := by decide +kernel
theorem dL_law_686 : decode cL_law 686 = .ok (.iadd, 1) := by decide +kernel
theorem dL_law_687 : decode cL_law 687 = .ok (.iaload, 1) := by decide +kernel
theorem dL_law_688 : decode cL_law 688 = .ok (.aload_n 0, 1) := by decide +kernel
theorem dL_law_689 : decode cL_law 689 = .ok (.iload_n 3, 1) := by decide +kernel
theorem dL_law_690 : decode cL_law 690 = .ok (.iconst 2, 1) := by decide +kernel
theorem dL_law_691 : decode cL_law 691 = .ok (.iadd, 1) := by decide +kernel
theorem dL_law_692 : decode cL_law 692 = .ok (.iaload, 1) := by decide +kernel
theorem dL_law_693 : decode cL_law 693 = .ok (.aload_n 0, 1) := by decide +kernel
theorem dL_law_694 : decode cL_law 694 = .ok (.iload_n 3, 1) := by decide +kernel
theorem dL_law_695 : decode cL_law 695 = .ok (.iconst 3, 1) := by decide +kernel
theorem dL_law_696 : decode cL_law 696 = .ok (.iadd, 1) := by decide +kernel
theorem dL_law_697 : decode cL_law 697 = .ok (.iaload, 1) := by decide +kernel
theorem dL_law_698 : decode cL_law 698 = .ok (.ifCond .eq 7, 3) := by decide +kernel
theorem dL_law_701 : decode cL_law 701 = .ok (.iconst 1, 1) := by decide +kernel
theorem dL_law_702 : decode cL_law 702 = .ok (.goto 4, 3) := by decide +kernel
theorem dL_law_705 : decode cL_law 705 = .ok (.iconst 0, 1) := by decide +kernel
theorem dL_law_706 : decode cL_law 706 = .ok (.invokevirtual 71, 3) := by decide +kernel
theorem dL_law_709 : decode cL_law 709 = .ok (.aload_n 2, 1) := by decide +kernel
theorem dL_law_710 : decode cL_law 710 = .ok (.aload_n 0, 1) := by decide +kernel
theorem dL_law_711 : decode cL_law 711 = .ok (.iload_n 3, 1) := by decide +kernel
theorem dL_law_712 : decode cL_law 712 = .ok (.iconst 1, 1) := by decide +kernel
theorem dL_law_713 : decode cL_law 713 = .ok (.iadd, 1) := by decide +kernel
theorem dL_law_714 : decode cL_law 714 = .ok (.iaload, 1) := by decide +kernel
theorem dL_law_715 : decode cL_law 715 = .ok (.aload_n 0, 1) := by decide +kernel
theorem dL_law_716 : decode cL_law 716 = .ok (.iload_n 3, 1) := by decide +kernel
theorem dL_law_717 : decode cL_law 717 = .ok (.iconst 2, 1) := by decide +kernel
theorem dL_law_718 : decode cL_law 718 = .ok (.iadd, 1) := by decide +kernel
theorem dL_law_719 : decode cL_law 719 = .ok (.iaload, 1) := by decide +kernel
theorem dL_law_720 : decode cL_law 720 = .ok (.aload_n 0, 1) := by decide +kernel
theorem dL_law_721 : decode cL_law 721 = .ok (.iload_n 3, 1) := by decide +kernel
theorem dL_law_722 : decode cL_law 722 = .ok (.iconst 3, 1) := by decide +kernel
theorem dL_law_723 : decode cL_law 723 = .ok (.iadd, 1) := by decide +kernel
theorem dL_law_724 : decode cL_law 724 = .ok (.iaload, 1) := by decide +kernel
theorem dL_law_725 : decode cL_law 725 = .ok (.ifCond .eq 7, 3) := by decide +kernel
theorem dL_law_728 : decode cL_law 728 = .ok (.iconst 1, 1) := by decide +kernel
theorem dL_law_729 : decode cL_law 729 = .ok (.goto 4, 3) := by decide +kernel
theorem dL_law_732 : decode cL_law 732 = .ok (.iconst 0, 1) := by decide +kernel
theorem dL_law_733 : decode cL_law 733 = .ok (.invokevirtual 74, 3) := by decide +kernel
theorem dL_law_736 : decode cL_law 736 = .ok (.if_icmp .eq 720, 3) := by decide +kernel
theorem dL_law_739 : decode cL_law 739 = .ok (.iconst 0, 1) := by decide +kernel
theorem dL_law_740 : decode cL_law 740 = .ok (.ireturn, 1) := by decide +kernel
theorem dL_law_741 : decode cL_law 741 = .ok (.aload_n 1, 1) := by decide +kernel
theorem dL_law_742 : decode cL_law 742 = .ok (.aload_n 0, 1) := by decide +kernel
theorem dL_law_743 : decode cL_law 743 = .ok (.iload_n 3, 1) := by decide +kernel
theorem dL_law_744 : decode cL_law 744 = .ok (.iconst 1, 1) := by decide +kernel
theorem dL_law_745 : decode cL_law 745 = .ok (.iadd, 1) := by decide +kernel
theorem dL_law_746 : decode cL_law 746 = .ok (.iaload, 1) := by decide +kernel
theorem dL_law_747 : decode cL_law 747 = .ok (.aload_n 0, 1) := by decide +kernel
theorem dL_law_748 : decode cL_law 748 = .ok (.iload_n 3, 1) := by decide +kernel
theorem dL_law_749 : decode cL_law 749 = .ok (.iconst 2, 1) := by decide +kernel
theorem dL_law_750 : decode cL_law 750 = .ok (.iadd, 1) := by decide +kernel
theorem dL_law_751 : decode cL_law 751 = .ok (.iaload, 1) := by decide +kernel
theorem dL_law_752 : decode cL_law 752 = .ok (.aload_n 0, 1) := by decide +kernel
theorem dL_law_753 : decode cL_law 753 = .ok (.iload_n 3, 1) := by decide +kernel
theorem dL_law_754 : decode cL_law 754 = .ok (.iconst 3, 1) := by decide +kernel
theorem dL_law_755 : decode cL_law 755 = .ok (.iadd, 1) := by decide +kernel
theorem dL_law_756 : decode cL_law 756 = .ok (.iaload, 1) := by decide +kernel
theorem dL_law_757 : decode cL_law 757 = .ok (.ifCond .eq 7, 3) := by decide +kernel
theorem dL_law_760 : decode cL_law 760 = .ok (.iconst 1, 1) := by decide +kernel
theorem dL_law_761 : decode cL_law 761 = .ok (.goto 4, 3) := by decide +kernel
theorem dL_law_764 : decode cL_law 764 = .ok (.iconst 0, 1) := by decide +kernel
theorem dL_law_765 : decode cL_law 765 = .ok (.invokevirtual 75, 3) := by decide +kernel
theorem dL_law_768 : decode cL_law 768 = .ok (.aload_n 2, 1) := by decide +kernel
theorem dL_law_769 : decode cL_law 769 = .ok (.aload_n 0, 1) := by decide +kernel
theorem dL_law_770 : decode cL_law 770 = .ok (.iload_n 3, 1) := by decide +kernel
theorem dL_law_771 : decode cL_law 771 = .ok (.iconst 1, 1) := by decide +kernel
theorem dL_law_772 : decode cL_law 772 = .ok (.iadd, 1) := by decide +kernel
theorem dL_law_773 : decode cL_law 773 = .ok (.iaload, 1) := by decide +kernel
theorem dL_law_774 : decode cL_law 774 = .ok (.aload_n 0, 1) := by decide +kernel
theorem dL_law_775 : decode cL_law 775 = .ok (.iload_n 3, 1) := by decide +kernel
theorem dL_law_776 : decode cL_law 776 = .ok (.iconst 2, 1) := by decide +kernel
theorem dL_law_777 : decode cL_law 777 = .ok (.iadd, 1) := by decide +kernel
theorem dL_law_778 : decode cL_law 778 = .ok (.iaload, 1) := by decide +kernel
theorem dL_law_779 : decode cL_law 779 = .ok (.aload_n 0, 1) := by decide +kernel
theorem dL_law_780 : decode cL_law 780 = .ok (.iload_n 3, 1) := by decide +kernel
theorem dL_law_781 : decode cL_law 781 = .ok (.iconst 3, 1) := by decide +kernel
theorem dL_law_782 : decode cL_law 782 = .ok (.iadd, 1) := by decide +kernel
theorem dL_law_783 : decode cL_law 783 = .ok (.iaload, 1) := by decide +kernel
theorem dL_law_784 : decode cL_law 784 = .ok (.ifCond .eq 7, 3) := by decide +kernel
theorem dL_law_787 : decode cL_law 787 = .ok (.iconst 1, 1) := by decide +kernel
theorem dL_law_788 : decode cL_law 788 = .ok (.goto 4, 3) := by decide +kernel
theorem dL_law_791 : decode cL_law 791 = .ok (.iconst 0, 1) := by decide +kernel
theorem dL_law_792 : decode cL_law 792 = .ok (.invokevirtual 78, 3) := by decide +kernel
theorem dL_law_795 : decode cL_law 795 = .ok (.if_icmp .eq 661, 3) := by decide +kernel
theorem dL_law_798 : decode cL_law 798 = .ok (.iconst 0, 1) := by decide +kernel
theorem dL_law_799 : decode cL_law 799 = .ok (.ireturn, 1) := by decide +kernel
theorem dL_law_800 : decode cL_law 800 = .ok (.aload_n 1, 1) := by decide +kernel
theorem dL_law_801 : decode cL_law 801 = .ok (.aload_n 0, 1) := by decide +kernel
theorem dL_law_802 : decode cL_law 802 = .ok (.iload_n 3, 1) := by decide +kernel
theorem dL_law_803 : decode cL_law 803 = .ok (.iconst 1, 1) := by decide +kernel
theorem dL_law_804 : decode cL_law 804 = .ok (.iadd, 1) := by decide +kernel
theorem dL_law_805 : decode cL_law 805 = .ok (.iaload, 1) := by decide +kernel
theorem dL_law_806 : decode cL_law 806 = .ok (.invokevirtual 79, 3) := by decide +kernel
theorem dL_law_809 : decode cL_law 809 = .ok (.aload_n 2, 1) := by decide +kernel
theorem dL_law_810 : decode cL_law 810 = .ok (.aload_n 0, 1) := by decide +kernel
theorem dL_law_811 : decode cL_law 811 = .ok (.iload_n 3, 1) := by decide +kernel
theorem dL_law_812 : decode cL_law 812 = .ok (.iconst 1, 1) := by decide +kernel
theorem dL_law_813 : decode cL_law 813 = .ok (.iadd, 1) := by decide +kernel
theorem dL_law_814 : decode cL_law 814 = .ok (.iaload, 1) := by decide +kernel
theorem dL_law_815 : decode cL_law 815 = .ok (.invokevirtual 82, 3) := by decide +kernel
theorem dL_law_818 : decode cL_law 818 = .ok (.if_icmp .eq 638, 3) := by decide +kernel
theorem dL_law_821 : decode cL_law 821 = .ok (.iconst 0, 1) := by decide +kernel
theorem dL_law_822 : decode cL_law 822 = .ok (.ireturn, 1) := by decide +kernel
theorem dL_law_823 : decode cL_law 823 = .ok (.aload_n 1, 1) := by decide +kernel
theorem dL_law_824 : decode cL_law 824 = .ok (.aload_n 0, 1) := by decide +kernel
theorem dL_law_825 : decode cL_law 825 = .ok (.iload_n 3, 1) := by decide +kernel
theorem dL_law_826 : decode cL_law 826 = .ok (.iconst 1, 1) := by decide +kernel
theorem dL_law_827 : decode cL_law 827 = .ok (.iadd, 1) := by decide +kernel
theorem dL_law_828 : decode cL_law 828 = .ok (.iaload, 1) := by decide +kernel
theorem dL_law_829 : decode cL_law 829 = .ok (.invokevirtual 83, 3) := by decide +kernel
theorem dL_law_832 : decode cL_law 832 = .ok (.aload_n 2, 1) := by decide +kernel
theorem dL_law_833 : decode cL_law 833 = .ok (.aload_n 0, 1) := by decide +kernel
theorem dL_law_834 : decode cL_law 834 = .ok (.iload_n 3, 1) := by decide +kernel
theorem dL_law_835 : decode cL_law 835 = .ok (.iconst 1, 1) := by decide +kernel
theorem dL_law_836 : decode cL_law 836 = .ok (.iadd, 1) := by decide +kernel
theorem dL_law_837 : decode cL_law 837 = .ok (.iaload, 1) := by decide +kernel
theorem dL_law_838 : decode cL_law 838 = .ok (.invokevirtual 86, 3) := by decide +kernel
theorem dL_law_841 : decode cL_law 841 = .ok (.if_icmp .eq 615, 3) := by decide +kernel
theorem dL_law_844 : decode cL_law 844 = .ok (.iconst 0, 1) := by decide +kernel
theorem dL_law_845 : decode cL_law 845 = .ok (.ireturn, 1) := by decide +kernel
theorem dL_law_846 : decode cL_law 846 = .ok (.aload_n 1, 1) := by decide +kernel
theorem dL_law_847 : decode cL_law 847 = .ok (.aload_n 0, 1) := by decide +kernel
theorem dL_law_848 : decode cL_law 848 = .ok (.iload_n 3, 1) := by decide +kernel
theorem dL_law_849 : decode cL_law 849 = .ok (.iconst 1, 1) := by decide +kernel
theorem dL_law_850 : decode cL_law 850 = .ok (.iadd, 1) := by decide +kernel
theorem dL_law_851 : decode cL_law 851 = .ok (.iaload, 1) := by decide +kernel
theorem dL_law_852 : decode cL_law 852 = .ok (.aload_n 0, 1) := by decide +kernel
theorem dL_law_853 : decode cL_law 853 = .ok (.iload_n 3, 1) := by decide +kernel
theorem dL_law_854 : decode cL_law 854 = .ok (.iconst 2, 1) := by decide +kernel
theorem dL_law_855 : decode cL_law 855 = .ok (.iadd, 1) := by decide +kernel
theorem dL_law_856 : decode cL_law 856 = .ok (.iaload, 1) := by decide +kernel
theorem dL_law_857 : decode cL_law 857 = .ok (.invokevirtual 87, 3) := by decide +kernel
theorem dL_law_860 : decode cL_law 860 = .ok (.aload_n 2, 1) := by decide +kernel
theorem dL_law_861 : decode cL_law 861 = .ok (.aload_n 0, 1) := by decide +kernel
theorem dL_law_862 : decode cL_law 862 = .ok (.iload_n 3, 1) := by decide +kernel
theorem dL_law_863 : decode cL_law 863 = .ok (.iconst 1, 1) := by decide +kernel
theorem dL_law_864 : decode cL_law 864 = .ok (.iadd, 1) := by decide +kernel
theorem dL_law_865 : decode cL_law 865 = .ok (.iaload, 1) := by decide +kernel
theorem dL_law_866 : decode cL_law 866 = .ok (.aload_n 0, 1) := by decide +kernel
theorem dL_law_867 : decode cL_law 867 = .ok (.iload_n 3, 1) := by decide +kernel
theorem dL_law_868 : decode cL_law 868 = .ok (.iconst 2, 1) := by decide +kernel
theorem dL_law_869 : decode cL_law 869 = .ok (.iadd, 1) := by decide +kernel
theorem dL_law_870 : decode cL_law 870 = .ok (.iaload, 1) := by decide +kernel
theorem dL_law_871 : decode cL_law 871 = .ok (.invokevirtual 90, 3) := by decide +kernel
theorem dL_law_874 : decode cL_law 874 = .ok (.if_icmp .eq 582, 3) := by decide +kernel
theorem dL_law_877 : decode cL_law 877 = .ok (.iconst 0, 1) := by decide +kernel
theorem dL_law_878 : decode cL_law 878 = .ok (.ireturn, 1) := by decide +kernel
theorem dL_law_879 : decode cL_law 879 = .ok (.aload_n 1, 1) := by decide +kernel
theorem dL_law_880 : decode cL_law 880 = .ok (.aload_n 0, 1) := by decide +kernel
theorem dL_law_881 : decode cL_law 881 = .ok (.iload_n 3, 1) := by decide +kernel
theorem dL_law_882 : decode cL_law 882 = .ok (.iconst 1, 1) := by decide +kernel
theorem dL_law_883 : decode cL_law 883 = .ok (.iadd, 1) := by decide +kernel
theorem dL_law_884 : decode cL_law 884 = .ok (.iaload, 1) := by decide +kernel
theorem dL_law_885 : decode cL_law 885 = .ok (.aload_n 0, 1) := by decide +kernel
theorem dL_law_886 : decode cL_law 886 = .ok (.iload_n 3, 1) := by decide +kernel
theorem dL_law_887 : decode cL_law 887 = .ok (.iconst 2, 1) := by decide +kernel
theorem dL_law_888 : decode cL_law 888 = .ok (.iadd, 1) := by decide +kernel
theorem dL_law_889 : decode cL_law 889 = .ok (.iaload, 1) := by decide +kernel
theorem dL_law_890 : decode cL_law 890 = .ok (.invokevirtual 91, 3) := by decide +kernel
theorem dL_law_893 : decode cL_law 893 = .ok (.aload_n 2, 1) := by decide +kernel
theorem dL_law_894 : decode cL_law 894 = .ok (.aload_n 0, 1) := by decide +kernel
theorem dL_law_895 : decode cL_law 895 = .ok (.iload_n 3, 1) := by decide +kernel
theorem dL_law_896 : decode cL_law 896 = .ok (.iconst 1, 1) := by decide +kernel
theorem dL_law_897 : decode cL_law 897 = .ok (.iadd, 1) := by decide +kernel
theorem dL_law_898 : decode cL_law 898 = .ok (.iaload, 1) := by decide +kernel
theorem dL_law_899 : decode cL_law 899 = .ok (.aload_n 0, 1) := by decide +kernel
theorem dL_law_900 : decode cL_law 900 = .ok (.iload_n 3, 1) := by decide +kernel
theorem dL_law_901 : decode cL_law 901 = .ok (.iconst 2, 1) := by decide +kernel
theorem dL_law_902 : decode cL_law 902 = .ok (.iadd, 1) := by decide +kernel
theorem dL_law_903 : decode cL_law 903 = .ok (.iaload, 1) := by decide +kernel
theorem dL_law_904 : decode cL_law 904 = .ok (.invokevirtual 94, 3) := by decide +kernel
theorem dL_law_907 : decode cL_law 907 = .ok (.if_icmp .eq 549, 3) := by decide +kernel
theorem dL_law_910 : decode cL_law 910 = .ok (.iconst 0, 1) := by decide +kernel
theorem dL_law_911 : decode cL_law 911 = .ok (.ireturn, 1) := by decide +kernel
theorem dL_law_912 : decode cL_law 912 = .ok (.aload_n 1, 1) := by decide +kernel
theorem dL_law_913 : decode cL_law 913 = .ok (.aload_n 0, 1) := by decide +kernel
theorem dL_law_914 : decode cL_law 914 = .ok (.iload_n 3, 1) := by decide +kernel
theorem dL_law_915 : decode cL_law 915 = .ok (.iconst 1, 1) := by decide +kernel
theorem dL_law_916 : decode cL_law 916 = .ok (.iadd, 1) := by decide +kernel
theorem dL_law_917 : decode cL_law 917 = .ok (.iaload, 1) := by decide +kernel
theorem dL_law_918 : decode cL_law 918 = .ok (.aload_n 0, 1) := by decide +kernel
theorem dL_law_919 : decode cL_law 919 = .ok (.iload_n 3, 1) := by decide +kernel
theorem dL_law_920 : decode cL_law 920 = .ok (.iconst 2, 1) := by decide +kernel
theorem dL_law_921 : decode cL_law 921 = .ok (.iadd, 1) := by decide +kernel
theorem dL_law_922 : decode cL_law 922 = .ok (.iaload, 1) := by decide +kernel
theorem dL_law_923 : decode cL_law 923 = .ok (.aload_n 0, 1) := by decide +kernel
theorem dL_law_924 : decode cL_law 924 = .ok (.iload_n 3, 1) := by decide +kernel
theorem dL_law_925 : decode cL_law 925 = .ok (.iconst 3, 1) := by decide +kernel
theorem dL_law_926 : decode cL_law 926 = .ok (.iadd, 1) := by decide +kernel
theorem dL_law_927 : decode cL_law 927 = .ok (.iaload, 1) := by decide +kernel
theorem dL_law_928 : decode cL_law 928 = .ok (.invokevirtual 95, 3) := by decide +kernel
theorem dL_law_931 : decode cL_law 931 = .ok (.aload_n 2, 1) := by decide +kernel
theorem dL_law_932 : decode cL_law 932 = .ok (.aload_n 0, 1) := by decide +kernel
theorem dL_law_933 : decode cL_law 933 = .ok (.iload_n 3, 1) := by decide +kernel
theorem dL_law_934 : decode cL_law 934 = .ok (.iconst 1, 1) := by decide +kernel
theorem dL_law_935 : decode cL_law 935 = .ok (.iadd, 1) := by decide +kernel
theorem dL_law_936 : decode cL_law 936 = .ok (.iaload, 1) := by decide +kernel
theorem dL_law_937 : decode cL_law 937 = .ok (.aload_n 0, 1) := by decide +kernel
theorem dL_law_938 : decode cL_law 938 = .ok (.iload_n 3, 1) := by decide +kernel
theorem dL_law_939 : decode cL_law 939 = .ok (.iconst 2, 1) := by decide +kernel
theorem dL_law_940 : decode cL_law 940 = .ok (.iadd, 1) := by decide +kernel
theorem dL_law_941 : decode cL_law 941 = .ok (.iaload, 1) := by decide +kernel
theorem dL_law_942 : decode cL_law 942 = .ok (.aload_n 0, 1) := by decide +kernel
theorem dL_law_943 : decode cL_law 943 = .ok (.iload_n 3, 1) := by decide +kernel
theorem dL_law_944 : decode cL_law 944 = .ok (.iconst 3, 1) := by decide +kernel
theorem dL_law_945 : decode cL_law 945 = .ok (.iadd, 1) := by decide +kernel
theorem dL_law_946 : decode cL_law 946 = .ok (.iaload, 1) := by decide +kernel
theorem dL_law_947 : decode cL_law 947 = .ok (.invokevirtual 99, 3) := by decide +kernel
theorem dL_law_950 : decode cL_law 950 = .ok (.if_icmp .eq 506, 3) := by decide +kernel
theorem dL_law_953 : decode cL_law 953 = .ok (.iconst 0, 1) := by decide +kernel
theorem dL_law_954 : decode cL_law 954 = .ok (.ireturn, 1) := by decide +kernel
theorem dL_law_955 : decode cL_law 955 = .ok (.aload_n 1, 1) := by decide +kernel
theorem dL_law_956 : decode cL_law 956 = .ok (.aload_n 0, 1) := by decide +kernel
theorem dL_law_957 : decode cL_law 957 = .ok (.iload_n 3, 1) := by decide +kernel
theorem dL_law_958 : decode cL_law 958 = .ok (.iconst 1, 1) := by decide +kernel
theorem dL_law_959 : decode cL_law 959 = .ok (.iadd, 1) := by decide +kernel
theorem dL_law_960 : decode cL_law 960 = .ok (.iaload, 1) := by decide +kernel
theorem dL_law_961 : decode cL_law 961 = .ok (.aload_n 0, 1) := by decide +kernel
theorem dL_law_962 : decode cL_law 962 = .ok (.iload_n 3, 1) := by decide +kernel
theorem dL_law_963 : decode cL_law 963 = .ok (.iconst 2, 1) := by decide +kernel
theorem dL_law_964 : decode cL_law 964 = .ok (.iadd, 1) := by decide +kernel
theorem dL_law_965 : decode cL_law 965 = .ok (.iaload, 1) := by decide +kernel
theorem dL_law_966 : decode cL_law 966 = .ok (.aload_n 0, 1) := by decide +kernel
theorem dL_law_967 : decode cL_law 967 = .ok (.iload_n 3, 1) := by decide +kernel
theorem dL_law_968 : decode cL_law 968 = .ok (.iconst 3, 1) := by decide +kernel
theorem dL_law_969 : decode cL_law 969 = .ok (.iadd, 1) := by decide +kernel
theorem dL_law_970 : decode cL_law 970 = .ok (.iaload, 1) := by decide +kernel
theorem dL_law_971 : decode cL_law 971 = .ok (.aload_n 0, 1) := by decide +kernel
theorem dL_law_972 : decode cL_law 972 = .ok (.iload_n 3, 1) := by decide +kernel
theorem dL_law_973 : decode cL_law 973 = .ok (.iconst 4, 1) := by decide +kernel
theorem dL_law_974 : decode cL_law 974 = .ok (.iadd, 1) := by decide +kernel
theorem dL_law_975 : decode cL_law 975 = .ok (.iaload, 1) := by decide +kernel
theorem dL_law_976 : decode cL_law 976 = .ok (.invokevirtual 100, 3) := by decide +kernel
theorem dL_law_979 : decode cL_law 979 = .ok (.aload_n 2, 1) := by decide +kernel
theorem dL_law_980 : decode cL_law 980 = .ok (.aload_n 0, 1) := by decide +kernel
theorem dL_law_981 : decode cL_law 981 = .ok (.iload_n 3, 1) := by decide +kernel
theorem dL_law_982 : decode cL_law 982 = .ok (.iconst 1, 1) := by decide +kernel
theorem dL_law_983 : decode cL_law 983 = .ok (.iadd, 1) := by decide +kernel
theorem dL_law_984 : decode cL_law 984 = .ok (.iaload, 1) := by decide +kernel
theorem dL_law_985 : decode cL_law 985 = .ok (.aload_n 0, 1) := by decide +kernel
theorem dL_law_986 : decode cL_law 986 = .ok (.iload_n 3, 1) := by decide +kernel
theorem dL_law_987 : decode cL_law 987 = .ok (.iconst 2, 1) := by decide +kernel
theorem dL_law_988 : decode cL_law 988 = .ok (.iadd, 1) := by decide +kernel
theorem dL_law_989 : decode cL_law 989 = .ok (.iaload, 1) := by decide +kernel
theorem dL_law_990 : decode cL_law 990 = .ok (.aload_n 0, 1) := by decide +kernel
theorem dL_law_991 : decode cL_law 991 = .ok (.iload_n 3, 1) := by decide +kernel
theorem dL_law_992 : decode cL_law 992 = .ok (.iconst 3, 1) := by decide +kernel
theorem dL_law_993 : decode cL_law 993 = .ok (.iadd, 1) := by decide +kernel
theorem dL_law_994 : decode cL_law 994 = .ok (.iaload, 1) := by decide +kernel
theorem dL_law_995 : decode cL_law 995 = .ok (.aload_n 0, 1) := by decide +kernel
theorem dL_law_996 : decode cL_law 996 = .ok (.iload_n 3, 1) := by decide +kernel
theorem dL_law_997 : decode cL_law 997 = .ok (.iconst 4, 1) := by decide +kernel
theorem dL_law_998 : decode cL_law 998 = .ok (.iadd, 1) := by decide +kernel
theorem dL_law_999 : decode cL_law 999 = .ok (.iaload, 1) := by decide +kernel
theorem dL_law_1000 : decode cL_law 1000 = .ok (.invokevirtual 104, 3) := by decide +kernel
theorem dL_law_1003 : decode cL_law 1003 = .ok (.if_icmp .eq 453, 3) := by decide +kernel
theorem dL_law_1006 : decode cL_law 1006 = .ok (.iconst 0, 1) := by decide +kernel
theorem dL_law_1007 : decode cL_law 1007 = .ok (.ireturn, 1) := by decide +kernel
theorem dL_law_1008 : decode cL_law 1008 = .ok (.aload_n 1, 1) := by decide +kernel
theorem dL_law_1009 : decode cL_law 1009 = .ok (.aload_n 0, 1) := by decide +kernel
theorem dL_law_1010 : decode cL_law 1010 = .ok (.iload_n 3, 1) := by decide +kernel
theorem dL_law_1011 : decode cL_law 1011 = .ok (.iconst 1, 1) := by decide +kernel
theorem dL_law_1012 : decode cL_law 1012 = .ok (.iadd, 1) := by decide +kernel
theorem dL_law_1013 : decode cL_law 1013 = .ok (.iaload, 1) := by decide +kernel
theorem dL_law_1014 : decode cL_law 1014 = .ok (.aload_n 0, 1) := by decide +kernel
theorem dL_law_1015 : decode cL_law 1015 = .ok (.iload_n 3, 1) := by decide +kernel
theorem dL_law_1016 : decode cL_law 1016 = .ok (.iconst 2, 1) := by decide +kernel
theorem dL_law_1017 : decode cL_law 1017 = .ok (.iadd, 1) := by decide +kernel
theorem dL_law_1018 : decode cL_law 1018 = .ok (.iaload, 1) := by decide +kernel
theorem dL_law_1019 : decode cL_law 1019 = .ok (.aload_n 0, 1) := by decide +kernel
theorem dL_law_1020 : decode cL_law 1020 = .ok (.iload_n 3, 1) := by decide +kernel
theorem dL_law_1021 : decode cL_law 1021 = .ok (.iconst 3, 1) := by decide +kernel
theorem dL_law_1022 : decode cL_law 1022 = .ok (.iadd, 1) := by decide +kernel
theorem dL_law_1023 : decode cL_law 1023 = .ok (.iaload, 1) := by decide +kernel
theorem dL_law_1024 : decode cL_law 1024 = .ok (.aload_n 0, 1) := by decide +kernel
theorem dL_law_1025 : decode cL_law 1025 = .ok (.iload_n 3, 1) := by decide +kernel
theorem dL_law_1026 : decode cL_law 1026 = .ok (.iconst 4, 1) := by decide +kernel
theorem dL_law_1027 : decode cL_law 1027 = .ok (.iadd, 1) := by decide +kernel
theorem dL_law_1028 : decode cL_law 1028 = .ok (.iaload, 1) := by decide +kernel
theorem dL_law_1029 : decode cL_law 1029 = .ok (.invokevirtual 105, 3) := by decide +kernel
theorem dL_law_1032 : decode cL_law 1032 = .ok (.aload_n 2, 1) := by decide +kernel
theorem dL_law_1033 : decode cL_law 1033 = .ok (.aload_n 0, 1) := by decide +kernel
theorem dL_law_1034 : decode cL_law 1034 = .ok (.iload_n 3, 1) := by decide +kernel
theorem dL_law_1035 : decode cL_law 1035 = .ok (.iconst 1, 1) := by decide +kernel
theorem dL_law_1036 : decode cL_law 1036 = .ok (.iadd, 1) := by decide +kernel
theorem dL_law_1037 : decode cL_law 1037 = .ok (.iaload, 1) := by decide +kernel
theorem dL_law_1038 : decode cL_law 1038 = .ok (.aload_n 0, 1) := by decide +kernel
theorem dL_law_1039 : decode cL_law 1039 = .ok (.iload_n 3, 1) := by decide +kernel
theorem dL_law_1040 : decode cL_law 1040 = .ok (.iconst 2, 1) := by decide +kernel
theorem dL_law_1041 : decode cL_law 1041 = .ok (.iadd, 1) := by decide +kernel
theorem dL_law_1042 : decode cL_law 1042 = .ok (.iaload, 1) := by decide +kernel
theorem dL_law_1043 : decode cL_law 1043 = .ok (.aload_n 0, 1) := by decide +kernel
theorem dL_law_1044 : decode cL_law 1044 = .ok (.iload_n 3, 1) := by decide +kernel
theorem dL_law_1045 : decode cL_law 1045 = .ok (.iconst 3, 1) := by decide +kernel
theorem dL_law_1046 : decode cL_law 1046 = .ok (.iadd, 1) := by decide +kernel
theorem dL_law_1047 : decode cL_law 1047 = .ok (.iaload, 1) := by decide +kernel
theorem dL_law_1048 : decode cL_law 1048 = .ok (.aload_n 0, 1) := by decide +kernel
theorem dL_law_1049 : decode cL_law 1049 = .ok (.iload_n 3, 1) := by decide +kernel
theorem dL_law_1050 : decode cL_law 1050 = .ok (.iconst 4, 1) := by decide +kernel
theorem dL_law_1051 : decode cL_law 1051 = .ok (.iadd, 1) := by decide +kernel
theorem dL_law_1052 : decode cL_law 1052 = .ok (.iaload, 1) := by decide +kernel
theorem dL_law_1053 : decode cL_law 1053 = .ok (.invokevirtual 108, 3) := by decide +kernel
theorem dL_law_1056 : decode cL_law 1056 = .ok (.if_icmp .eq 400, 3) := by decide +kernel
theorem dL_law_1059 : decode cL_law 1059 = .ok (.iconst 0, 1) := by decide +kernel
theorem dL_law_1060 : decode cL_law 1060 = .ok (.ireturn, 1) := by decide +kernel
theorem dL_law_1061 : decode cL_law 1061 = .ok (.aload_n 1, 1) := by decide +kernel
theorem dL_law_1062 : decode cL_law 1062 = .ok (.aload_n 0, 1) := by decide +kernel
theorem dL_law_1063 : decode cL_law 1063 = .ok (.iload_n 3, 1) := by decide +kernel
theorem dL_law_1064 : decode cL_law 1064 = .ok (.iconst 1, 1) := by decide +kernel
theorem dL_law_1065 : decode cL_law 1065 = .ok (.iadd, 1) := by decide +kernel
theorem dL_law_1066 : decode cL_law 1066 = .ok (.iaload, 1) := by decide +kernel
theorem dL_law_1067 : decode cL_law 1067 = .ok (.aload_n 0, 1) := by decide +kernel
theorem dL_law_1068 : decode cL_law 1068 = .ok (.iload_n 3, 1) := by decide +kernel
theorem dL_law_1069 : decode cL_law 1069 = .ok (.iconst 2, 1) := by decide +kernel
theorem dL_law_1070 : decode cL_law 1070 = .ok (.iadd, 1) := by decide +kernel
theorem dL_law_1071 : decode cL_law 1071 = .ok (.iaload, 1) := by decide +kernel
theorem dL_law_1072 : decode cL_law 1072 = .ok (.aload_n 0, 1) := by decide +kernel
theorem dL_law_1073 : decode cL_law 1073 = .ok (.iload_n 3, 1) := by decide +kernel
theorem dL_law_1074 : decode cL_law 1074 = .ok (.iconst 3, 1) := by decide +kernel
theorem dL_law_1075 : decode cL_law 1075 = .ok (.iadd, 1) := by decide +kernel
theorem dL_law_1076 : decode cL_law 1076 = .ok (.iaload, 1) := by decide +kernel
theorem dL_law_1077 : decode cL_law 1077 = .ok (.aload_n 0, 1) := by decide +kernel
theorem dL_law_1078 : decode cL_law 1078 = .ok (.iload_n 3, 1) := by decide +kernel
theorem dL_law_1079 : decode cL_law 1079 = .ok (.iconst 4, 1) := by decide +kernel
theorem dL_law_1080 : decode cL_law 1080 = .ok (.iadd, 1) := by decide +kernel
theorem dL_law_1081 : decode cL_law 1081 = .ok (.iaload, 1) := by decide +kernel
theorem dL_law_1082 : decode cL_law 1082 = .ok (.aload_n 0, 1) := by decide +kernel
theorem dL_law_1083 : decode cL_law 1083 = .ok (.iload_n 3, 1) := by decide +kernel
theorem dL_law_1084 : decode cL_law 1084 = .ok (.iconst 5, 1) := by decide +kernel
theorem dL_law_1085 : decode cL_law 1085 = .ok (.iadd, 1) := by decide +kernel
theorem dL_law_1086 : decode cL_law 1086 = .ok (.iaload, 1) := by decide +kernel
theorem dL_law_1087 : decode cL_law 1087 = .ok (.aload_n 0, 1) := by decide +kernel
theorem dL_law_1088 : decode cL_law 1088 = .ok (.iload_n 3, 1) := by decide +kernel
theorem dL_law_1089 : decode cL_law 1089 = .ok (.bipush 6, 2) := by decide +kernel
theorem dL_law_1091 : decode cL_law 1091 = .ok (.iadd, 1) := by decide +kernel
theorem dL_law_1092 : decode cL_law 1092 = .ok (.iaload, 1) := by decide +kernel
theorem dL_law_1093 : decode cL_law 1093 = .ok (.invokevirtual 109, 3) := by decide +kernel
theorem dL_law_1096 : decode cL_law 1096 = .ok (.aload_n 2, 1) := by decide +kernel
theorem dL_law_1097 : decode cL_law 1097 = .ok (.aload_n 0, 1) := by decide +kernel
theorem dL_law_1098 : decode cL_law 1098 = .ok (.iload_n 3, 1) := by decide +kernel
theorem dL_law_1099 : decode cL_law 1099 = .ok (.iconst 1, 1) := by decide +kernel
theorem dL_law_1100 : decode cL_law 1100 = .ok (.iadd, 1) := by decide +kernel
theorem dL_law_1101 : decode cL_law 1101 = .ok (.iaload, 1) := by decide +kernel
theorem dL_law_1102 : decode cL_law 1102 = .ok (.aload_n 0, 1) := by decide +kernel
theorem dL_law_1103 : decode cL_law 1103 = .ok (.iload_n 3, 1) := by decide +kernel
theorem dL_law_1104 : decode cL_law 1104 = .ok (.iconst 2, 1) := by decide +kernel
theorem dL_law_1105 : decode cL_law 1105 = .ok (.iadd, 1) := by decide +kernel
theorem dL_law_1106 : decode cL_law 1106 = .ok (.iaload, 1) := by decide +kernel
theorem dL_law_1107 : decode cL_law 1107 = .ok (.aload_n 0, 1) := by decide +kernel
theorem dL_law_1108 : decode cL_law 1108 = .ok (.iload_n 3, 1) := by decide +kernel
theorem dL_law_1109 : decode cL_law 1109 = .ok (.iconst 3, 1) := by decide +kernel
theorem dL_law_1110 : decode cL_law 1110 = .ok (.iadd, 1) := by decide +kernel
theorem dL_law_1111 : decode cL_law 1111 = .ok (.iaload, 1) := by decide +kernel
theorem dL_law_1112 : decode cL_law 1112 = .ok (.aload_n 0, 1) := by decide +kernel
theorem dL_law_1113 : decode cL_law 1113 = .ok (.iload_n 3, 1) := by decide +kernel
theorem dL_law_1114 : decode cL_law 1114 = .ok (.iconst 4, 1) := by decide +kernel
theorem dL_law_1115 : decode cL_law 1115 = .ok (.iadd, 1) := by decide +kernel
theorem dL_law_1116 : decode cL_law 1116 = .ok (.iaload, 1) := by decide +kernel
theorem dL_law_1117 : decode cL_law 1117 = .ok (.aload_n 0, 1) := by decide +kernel
theorem dL_law_1118 : decode cL_law 1118 = .ok (.iload_n 3, 1) := by decide +kernel
theorem dL_law_1119 : decode cL_law 1119 = .ok (.iconst 5, 1) := by decide +kernel
theorem dL_law_1120 : decode cL_law 1120 = .ok (.iadd, 1) := by decide +kernel
theorem dL_law_1121 : decode cL_law 1121 = .ok (.iaload, 1) := by decide +kernel
theorem dL_law_1122 : decode cL_law 1122 = .ok (.aload_n 0, 1) := by decide +kernel
theorem dL_law_1123 : decode cL_law 1123 = .ok (.iload_n 3, 1) := by decide +kernel
theorem dL_law_1124 : decode cL_law 1124 = .ok (.bipush 6, 2) := by decide +kernel
theorem dL_law_1126 : decode cL_law 1126 = .ok (.iadd, 1) := by decide +kernel
theorem dL_law_1127 : decode cL_law 1127 = .ok (.iaload, 1) := by decide +kernel
theorem dL_law_1128 : decode cL_law 1128 = .ok (.invokevirtual 113, 3) := by decide +kernel
theorem dL_law_1131 : decode cL_law 1131 = .ok (.if_icmp .eq 325, 3) := by decide +kernel
theorem dL_law_1134 : decode cL_law 1134 = .ok (.iconst 0, 1) := by decide +kernel
theorem dL_law_1135 : decode cL_law 1135 = .ok (.ireturn, 1) := by decide +kernel
theorem dL_law_1136 : decode cL_law 1136 = .ok (.aload_n 1, 1) := by decide +kernel
theorem dL_law_1137 : decode cL_law 1137 = .ok (.aload_n 0, 1) := by decide +kernel
theorem dL_law_1138 : decode cL_law 1138 = .ok (.iload_n 3, 1) := by decide +kernel
theorem dL_law_1139 : decode cL_law 1139 = .ok (.iconst 1, 1) := by decide +kernel
theorem dL_law_1140 : decode cL_law 1140 = .ok (.iadd, 1) := by decide +kernel
theorem dL_law_1141 : decode cL_law 1141 = .ok (.iaload, 1) := by decide +kernel
theorem dL_law_1142 : decode cL_law 1142 = .ok (.aload_n 0, 1) := by decide +kernel
theorem dL_law_1143 : decode cL_law 1143 = .ok (.iload_n 3, 1) := by decide +kernel
theorem dL_law_1144 : decode cL_law 1144 = .ok (.iconst 2, 1) := by decide +kernel
theorem dL_law_1145 : decode cL_law 1145 = .ok (.iadd, 1) := by decide +kernel
theorem dL_law_1146 : decode cL_law 1146 = .ok (.iaload, 1) := by decide +kernel
theorem dL_law_1147 : decode cL_law 1147 = .ok (.aload_n 0, 1) := by decide +kernel
theorem dL_law_1148 : decode cL_law 1148 = .ok (.iload_n 3, 1) := by decide +kernel
theorem dL_law_1149 : decode cL_law 1149 = .ok (.iconst 3, 1) := by decide +kernel
theorem dL_law_1150 : decode cL_law 1150 = .ok (.iadd, 1) := by decide +kernel
theorem dL_law_1151 : decode cL_law 1151 = .ok (.iaload, 1) := by decide +kernel
theorem dL_law_1152 : decode cL_law 1152 = .ok (.invokevirtual 114, 3) := by decide +kernel
theorem dL_law_1155 : decode cL_law 1155 = .ok (.aload_n 2, 1) := by decide +kernel
theorem dL_law_1156 : decode cL_law 1156 = .ok (.aload_n 0, 1) := by decide +kernel
theorem dL_law_1157 : decode cL_law 1157 = .ok (.iload_n 3, 1) := by decide +kernel
theorem dL_law_1158 : decode cL_law 1158 = .ok (.iconst 1, 1) := by decide +kernel
theorem dL_law_1159 : decode cL_law 1159 = .ok (.iadd, 1) := by decide +kernel
theorem dL_law_1160 : decode cL_law 1160 = .ok (.iaload, 1) := by decide +kernel
theorem dL_law_1161 : decode cL_law 1161 = .ok (.aload_n 0, 1) := by decide +kernel
theorem dL_law_1162 : decode cL_law 1162 = .ok (.iload_n 3, 1) := by decide +kernel
theorem dL_law_1163 : decode cL_law 1163 = .ok (.iconst 2, 1) := by decide +kernel
theorem dL_law_1164 : decode cL_law 1164 = .ok (.iadd, 1) := by decide +kernel
theorem dL_law_1165 : decode cL_law 1165 = .ok (.iaload, 1) := by decide +kernel
theorem dL_law_1166 : decode cL_law 1166 = .ok (.aload_n 0, 1) := by decide +kernel
theorem dL_law_1167 : decode cL_law 1167 = .ok (.iload_n 3, 1) := by decide +kernel
theorem dL_law_1168 : decode cL_law 1168 = .ok (.iconst 3, 1) := by decide +kernel
theorem dL_law_1169 : decode cL_law 1169 = .ok (.iadd, 1) := by decide +kernel
theorem dL_law_1170 : decode cL_law 1170 = .ok (.iaload, 1) := by decide +kernel
theorem dL_law_1171 : decode cL_law 1171 = .ok (.invokevirtual 117, 3) := by decide +kernel
theorem dL_law_1174 : decode cL_law 1174 = .ok (.if_icmp .eq 282, 3) := by decide +kernel
theorem dL_law_1177 : decode cL_law 1177 = .ok (.iconst 0, 1) := by decide +kernel
theorem dL_law_1178 : decode cL_law 1178 = .ok (.ireturn, 1) := by decide +kernel
theorem dL_law_1179 : decode cL_law 1179 = .ok (.aload_n 1, 1) := by decide +kernel
theorem dL_law_1180 : decode cL_law 1180 = .ok (.aload_n 0, 1) := by decide +kernel
theorem dL_law_1181 : decode cL_law 1181 = .ok (.iload_n 3, 1) := by decide +kernel
theorem dL_law_1182 : decode cL_law 1182 = .ok (.iconst 1, 1) := by decide +kernel
theorem dL_law_1183 : decode cL_law 1183 = .ok (.iadd, 1) := by decide +kernel
theorem dL_law_1184 : decode cL_law 1184 = .ok (.iaload, 1) := by decide +kernel
theorem dL_law_1185 : decode cL_law 1185 = .ok (.invokevirtual 118, 3) := by decide +kernel
theorem dL_law_1188 : decode cL_law 1188 = .ok (.aload_n 2, 1) := by decide +kernel
theorem dL_law_1189 : decode cL_law 1189 = .ok (.aload_n 0, 1) := by decide +kernel
theorem dL_law_1190 : decode cL_law 1190 = .ok (.iload_n 3, 1) := by decide +kernel
theorem dL_law_1191 : decode cL_law 1191 = .ok (.iconst 1, 1) := by decide +kernel
theorem dL_law_1192 : decode cL_law 1192 = .ok (.iadd, 1) := by decide +kernel
theorem dL_law_1193 : decode cL_law 1193 = .ok (.iaload, 1) := by decide +kernel
theorem dL_law_1194 : decode cL_law 1194 = .ok (.invokevirtual 121, 3) := by decide +kernel
theorem dL_law_1197 : decode cL_law 1197 = .ok (.if_icmp .eq 259, 3) := by decide +kernel
theorem dL_law_1200 : decode cL_law 1200 = .ok (.iconst 0, 1) := by decide +kernel
theorem dL_law_1201 : decode cL_law 1201 = .ok (.ireturn, 1) := by decide +kernel
theorem dL_law_1202 : decode cL_law 1202 = .ok (.aload_n 1, 1) := by decide +kernel
theorem dL_law_1203 : decode cL_law 1203 = .ok (.invokevirtual 122, 3) := by decide +kernel
theorem dL_law_1206 : decode cL_law 1206 = .ok (.aload_n 2, 1) := by decide +kernel
theorem dL_law_1207 : decode cL_law 1207 = .ok (.invokevirtual 125, 3) := by decide +kernel
theorem dL_law_1210 : decode cL_law 1210 = .ok (.if_icmp .eq 246, 3) := by decide +kernel
theorem dL_law_1213 : decode cL_law 1213 = .ok (.iconst 0, 1) := by decide +kernel
theorem dL_law_1214 : decode cL_law 1214 = .ok (.ireturn, 1) := by decide +kernel
theorem dL_law_1215 : decode cL_law 1215 = .ok (.aload_n 1, 1) := by decide +kernel
theorem dL_law_1216 : decode cL_law 1216 = .ok (.aload_n 0, 1) := by decide +kernel
theorem dL_law_1217 : decode cL_law 1217 = .ok (.iload_n 3, 1) := by decide +kernel
theorem dL_law_1218 : decode cL_law 1218 = .ok (.iconst 1, 1) := by decide +kernel
theorem dL_law_1219 : decode cL_law 1219 = .ok (.iadd, 1) := by decide +kernel
theorem dL_law_1220 : decode cL_law 1220 = .ok (.iaload, 1) := by decide +kernel
theorem dL_law_1221 : decode cL_law 1221 = .ok (.aload_n 0, 1) := by decide +kernel
theorem dL_law_1222 : decode cL_law 1222 = .ok (.iload_n 3, 1) := by decide +kernel
theorem dL_law_1223 : decode cL_law 1223 = .ok (.iconst 2, 1) := by decide +kernel
theorem dL_law_1224 : decode cL_law 1224 = .ok (.iadd, 1) := by decide +kernel
theorem dL_law_1225 : decode cL_law 1225 = .ok (.iaload, 1) := by decide +kernel
theorem dL_law_1226 : decode cL_law 1226 = .ok (.aload_n 0, 1) := by decide +kernel
theorem dL_law_1227 : decode cL_law 1227 = .ok (.iload_n 3, 1) := by decide +kernel
theorem dL_law_1228 : decode cL_law 1228 = .ok (.iconst 3, 1) := by decide +kernel
theorem dL_law_1229 : decode cL_law 1229 = .ok (.iadd, 1) := by decide +kernel
theorem dL_law_1230 : decode cL_law 1230 = .ok (.iaload, 1) := by decide +kernel
theorem dL_law_1231 : decode cL_law 1231 = .ok (.aload_n 0, 1) := by decide +kernel
theorem dL_law_1232 : decode cL_law 1232 = .ok (.iload_n 3, 1) := by decide +kernel
theorem dL_law_1233 : decode cL_law 1233 = .ok (.iconst 4, 1) := by decide +kernel
theorem dL_law_1234 : decode cL_law 1234 = .ok (.iadd, 1) := by decide +kernel
theorem dL_law_1235 : decode cL_law 1235 = .ok (.iaload, 1) := by decide +kernel
theorem dL_law_1236 : decode cL_law 1236 = .ok (.invokevirtual 126, 3) := by decide +kernel
theorem dL_law_1239 : decode cL_law 1239 = .ok (.aload_n 2, 1) := by decide +kernel
theorem dL_law_1240 : decode cL_law 1240 = .ok (.aload_n 0, 1) := by decide +kernel
theorem dL_law_1241 : decode cL_law 1241 = .ok (.iload_n 3, 1) := by decide +kernel
theorem dL_law_1242 : decode cL_law 1242 = .ok (.iconst 1, 1) := by decide +kernel
theorem dL_law_1243 : decode cL_law 1243 = .ok (.iadd, 1) := by decide +kernel
theorem dL_law_1244 : decode cL_law 1244 = .ok (.iaload, 1) := by decide +kernel
theorem dL_law_1245 : decode cL_law 1245 = .ok (.aload_n 0, 1) := by decide +kernel
theorem dL_law_1246 : decode cL_law 1246 = .ok (.iload_n 3, 1) := by decide +kernel
theorem dL_law_1247 : decode cL_law 1247 = .ok (.iconst 2, 1) := by decide +kernel
theorem dL_law_1248 : decode cL_law 1248 = .ok (.iadd, 1) := by decide +kernel
theorem dL_law_1249 : decode cL_law 1249 = .ok (.iaload, 1) := by decide +kernel
theorem dL_law_1250 : decode cL_law 1250 = .ok (.aload_n 0, 1) := by decide +kernel
theorem dL_law_1251 : decode cL_law 1251 = .ok (.iload_n 3, 1) := by decide +kernel
theorem dL_law_1252 : decode cL_law 1252 = .ok (.iconst 3, 1) := by decide +kernel
theorem dL_law_1253 : decode cL_law 1253 = .ok (.iadd, 1) := by decide +kernel
theorem dL_law_1254 : decode cL_law 1254 = .ok (.iaload, 1) := by decide +kernel
theorem dL_law_1255 : decode cL_law 1255 = .ok (.aload_n 0, 1) := by decide +kernel
theorem dL_law_1256 : decode cL_law 1256 = .ok (.iload_n 3, 1) := by decide +kernel
theorem dL_law_1257 : decode cL_law 1257 = .ok (.iconst 4, 1) := by decide +kernel
theorem dL_law_1258 : decode cL_law 1258 = .ok (.iadd, 1) := by decide +kernel
theorem dL_law_1259 : decode cL_law 1259 = .ok (.iaload, 1) := by decide +kernel
theorem dL_law_1260 : decode cL_law 1260 = .ok (.invokevirtual 129, 3) := by decide +kernel
theorem dL_law_1263 : decode cL_law 1263 = .ok (.if_icmp .eq 193, 3) := by decide +kernel
theorem dL_law_1266 : decode cL_law 1266 = .ok (.iconst 0, 1) := by decide +kernel
theorem dL_law_1267 : decode cL_law 1267 = .ok (.ireturn, 1) := by decide +kernel
theorem dL_law_1268 : decode cL_law 1268 = .ok (.aload_n 1, 1) := by decide +kernel
theorem dL_law_1269 : decode cL_law 1269 = .ok (.aload_n 0, 1) := by decide +kernel
theorem dL_law_1270 : decode cL_law 1270 = .ok (.iload_n 3, 1) := by decide +kernel
theorem dL_law_1271 : decode cL_law 1271 = .ok (.iconst 1, 1) := by decide +kernel
theorem dL_law_1272 : decode cL_law 1272 = .ok (.iadd, 1) := by decide +kernel
theorem dL_law_1273 : decode cL_law 1273 = .ok (.iaload, 1) := by decide +kernel
theorem dL_law_1274 : decode cL_law 1274 = .ok (.aload_n 0, 1) := by decide +kernel
theorem dL_law_1275 : decode cL_law 1275 = .ok (.iload_n 3, 1) := by decide +kernel
theorem dL_law_1276 : decode cL_law 1276 = .ok (.iconst 2, 1) := by decide +kernel
theorem dL_law_1277 : decode cL_law 1277 = .ok (.iadd, 1) := by decide +kernel
theorem dL_law_1278 : decode cL_law 1278 = .ok (.iaload, 1) := by decide +kernel
theorem dL_law_1279 : decode cL_law 1279 = .ok (.invokevirtual 130, 3) := by decide +kernel
theorem dL_law_1282 : decode cL_law 1282 = .ok (.aload_n 2, 1) := by decide +kernel
theorem dL_law_1283 : decode cL_law 1283 = .ok (.aload_n 0, 1) := by decide +kernel
theorem dL_law_1284 : decode cL_law 1284 = .ok (.iload_n 3, 1) := by decide +kernel
theorem dL_law_1285 : decode cL_law 1285 = .ok (.iconst 1, 1) := by decide +kernel
theorem dL_law_1286 : decode cL_law 1286 = .ok (.iadd, 1) := by decide +kernel
theorem dL_law_1287 : decode cL_law 1287 = .ok (.iaload, 1) := by decide +kernel
theorem dL_law_1288 : decode cL_law 1288 = .ok (.aload_n 0, 1) := by decide +kernel
theorem dL_law_1289 : decode cL_law 1289 = .ok (.iload_n 3, 1) := by decide +kernel
theorem dL_law_1290 : decode cL_law 1290 = .ok (.iconst 2, 1) := by decide +kernel
theorem dL_law_1291 : decode cL_law 1291 = .ok (.iadd, 1) := by decide +kernel
theorem dL_law_1292 : decode cL_law 1292 = .ok (.iaload, 1) := by decide +kernel
theorem dL_law_1293 : decode cL_law 1293 = .ok (.invokevirtual 133, 3) := by decide +kernel
theorem dL_law_1296 : decode cL_law 1296 = .ok (.if_icmp .eq 160, 3) := by decide +kernel
theorem dL_law_1299 : decode cL_law 1299 = .ok (.iconst 0, 1) := by decide +kernel
theorem dL_law_1300 : decode cL_law 1300 = .ok (.ireturn, 1) := by decide +kernel
theorem dL_law_1301 : decode cL_law 1301 = .ok (.aload_n 1, 1) := by decide +kernel
theorem dL_law_1302 : decode cL_law 1302 = .ok (.aload_n 0, 1) := by decide +kernel
theorem dL_law_1303 : decode cL_law 1303 = .ok (.iload_n 3, 1) := by decide +kernel
theorem dL_law_1304 : decode cL_law 1304 = .ok (.iconst 1, 1) := by decide +kernel
theorem dL_law_1305 : decode cL_law 1305 = .ok (.iadd, 1) := by decide +kernel
theorem dL_law_1306 : decode cL_law 1306 = .ok (.iaload, 1) := by decide +kernel
theorem dL_law_1307 : decode cL_law 1307 = .ok (.aload_n 0, 1) := by decide +kernel
theorem dL_law_1308 : decode cL_law 1308 = .ok (.iload_n 3, 1) := by decide +kernel
theorem dL_law_1309 : decode cL_law 1309 = .ok (.iconst 2, 1) := by decide +kernel
theorem dL_law_1310 : decode cL_law 1310 = .ok (.iadd, 1) := by decide +kernel
theorem dL_law_1311 : decode cL_law 1311 = .ok (.iaload, 1) := by decide +kernel
theorem dL_law_1312 : decode cL_law 1312 = .ok (.invokevirtual 134, 3) := by decide +kernel
theorem dL_law_1315 : decode cL_law 1315 = .ok (.aload_n 2, 1) := by decide +kernel
theorem dL_law_1316 : decode cL_law 1316 = .ok (.aload_n 0, 1) := by decide +kernel
theorem dL_law_1317 : decode cL_law 1317 = .ok (.iload_n 3, 1) := by decide +kernel
theorem dL_law_1318 : decode cL_law 1318 = .ok (.iconst 1, 1) := by decide +kernel
theorem dL_law_1319 : decode cL_law 1319 = .ok (.iadd, 1) := by decide +kernel
theorem dL_law_1320 : decode cL_law 1320 = .ok (.iaload, 1) := by decide +kernel
theorem dL_law_1321 : decode cL_law 1321 = .ok (.aload_n 0, 1) := by decide +kernel
theorem dL_law_1322 : decode cL_law 1322 = .ok (.iload_n 3, 1) := by decide +kernel
theorem dL_law_1323 : decode cL_law 1323 = .ok (.iconst 2, 1) := by decide +kernel
theorem dL_law_1324 : decode cL_law 1324 = .ok (.iadd, 1) := by decide +kernel
theorem dL_law_1325 : decode cL_law 1325 = .ok (.iaload, 1) := by decide +kernel
theorem dL_law_1326 : decode cL_law 1326 = .ok (.invokevirtual 137, 3) := by decide +kernel
theorem dL_law_1329 : decode cL_law 1329 = .ok (.if_icmp .eq 127, 3) := by decide +kernel
theorem dL_law_1332 : decode cL_law 1332 = .ok (.iconst 0, 1) := by decide +kernel
theorem dL_law_1333 : decode cL_law 1333 = .ok (.ireturn, 1) := by decide +kernel
theorem dL_law_1334 : decode cL_law 1334 = .ok (.aload_n 1, 1) := by decide +kernel
theorem dL_law_1335 : decode cL_law 1335 = .ok (.aload_n 0, 1) := by decide +kernel
theorem dL_law_1336 : decode cL_law 1336 = .ok (.iload_n 3, 1) := by decide +kernel
theorem dL_law_1337 : decode cL_law 1337 = .ok (.iconst 1, 1) := by decide +kernel
theorem dL_law_1338 : decode cL_law 1338 = .ok (.iadd, 1) := by decide +kernel
theorem dL_law_1339 : decode cL_law 1339 = .ok (.iaload, 1) := by decide +kernel
theorem dL_law_1340 : decode cL_law 1340 = .ok (.aload_n 0, 1) := by decide +kernel
theorem dL_law_1341 : decode cL_law 1341 = .ok (.iload_n 3, 1) := by decide +kernel
theorem dL_law_1342 : decode cL_law 1342 = .ok (.iconst 2, 1) := by decide +kernel
theorem dL_law_1343 : decode cL_law 1343 = .ok (.iadd, 1) := by decide +kernel
theorem dL_law_1344 : decode cL_law 1344 = .ok (.iaload, 1) := by decide +kernel
theorem dL_law_1345 : decode cL_law 1345 = .ok (.aload_n 0, 1) := by decide +kernel
theorem dL_law_1346 : decode cL_law 1346 = .ok (.iload_n 3, 1) := by decide +kernel
theorem dL_law_1347 : decode cL_law 1347 = .ok (.iconst 3, 1) := by decide +kernel
theorem dL_law_1348 : decode cL_law 1348 = .ok (.iadd, 1) := by decide +kernel
theorem dL_law_1349 : decode cL_law 1349 = .ok (.iaload, 1) := by decide +kernel
theorem dL_law_1350 : decode cL_law 1350 = .ok (.invokevirtual 138, 3) := by decide +kernel
theorem dL_law_1353 : decode cL_law 1353 = .ok (.aload_n 2, 1) := by decide +kernel
theorem dL_law_1354 : decode cL_law 1354 = .ok (.aload_n 0, 1) := by decide +kernel
theorem dL_law_1355 : decode cL_law 1355 = .ok (.iload_n 3, 1) := by decide +kernel
theorem dL_law_1356 : decode cL_law 1356 = .ok (.iconst 1, 1) := by decide +kernel
theorem dL_law_1357 : decode cL_law 1357 = .ok (.iadd, 1) := by decide +kernel
theorem dL_law_1358 : decode cL_law 1358 = .ok (.iaload, 1) := by decide +kernel
theorem dL_law_1359 : decode cL_law 1359 = .ok (.aload_n 0, 1) := by decide +kernel
theorem dL_law_1360 : decode cL_law 1360 = .ok (.iload_n 3, 1) := by decide +kernel
theorem dL_law_1361 : decode cL_law 1361 = .ok (.iconst 2, 1) := by decide +kernel
theorem dL_law_1362 : decode cL_law 1362 = .ok (.iadd, 1) := by decide +kernel
theorem dL_law_1363 : decode cL_law 1363 = .ok (.iaload, 1) := by decide +kernel
theorem dL_law_1364 : decode cL_law 1364 = .ok (.aload_n 0, 1) := by decide +kernel
theorem dL_law_1365 : decode cL_law 1365 = .ok (.iload_n 3, 1) := by decide +kernel
theorem dL_law_1366 : decode cL_law 1366 = .ok (.iconst 3, 1) := by decide +kernel
theorem dL_law_1367 : decode cL_law 1367 = .ok (.iadd, 1) := by decide +kernel
theorem dL_law_1368 : decode cL_law 1368 = .ok (.iaload, 1) := by decide +kernel
theorem dL_law_1369 : decode cL_law 1369 = .ok (.invokevirtual 141, 3) := by decide +kernel
theorem dL_law_1372 : decode cL_law 1372 = .ok (.if_icmp .eq 84, 3) := by decide +kernel
theorem dL_law_1375 : decode cL_law 1375 = .ok (.iconst 0, 1) := by decide +kernel
theorem dL_law_1376 : decode cL_law 1376 = .ok (.ireturn, 1) := by decide +kernel
theorem dL_law_1377 : decode cL_law 1377 = .ok (.aload_n 1, 1) := by decide +kernel
theorem dL_law_1378 : decode cL_law 1378 = .ok (.aload_n 0, 1) := by decide +kernel
theorem dL_law_1379 : decode cL_law 1379 = .ok (.iload_n 3, 1) := by decide +kernel
theorem dL_law_1380 : decode cL_law 1380 = .ok (.iconst 1, 1) := by decide +kernel
theorem dL_law_1381 : decode cL_law 1381 = .ok (.iadd, 1) := by decide +kernel
theorem dL_law_1382 : decode cL_law 1382 = .ok (.iaload, 1) := by decide +kernel
theorem dL_law_1383 : decode cL_law 1383 = .ok (.aload_n 0, 1) := by decide +kernel
theorem dL_law_1384 : decode cL_law 1384 = .ok (.iload_n 3, 1) := by decide +kernel
theorem dL_law_1385 : decode cL_law 1385 = .ok (.iconst 2, 1) := by decide +kernel
theorem dL_law_1386 : decode cL_law 1386 = .ok (.iadd, 1) := by decide +kernel
theorem dL_law_1387 : decode cL_law 1387 = .ok (.iaload, 1) := by decide +kernel
theorem dL_law_1388 : decode cL_law 1388 = .ok (.invokevirtual 142, 3) := by decide +kernel
theorem dL_law_1391 : decode cL_law 1391 = .ok (.aload_n 2, 1) := by decide +kernel
theorem dL_law_1392 : decode cL_law 1392 = .ok (.aload_n 0, 1) := by decide +kernel
theorem dL_law_1393 : decode cL_law 1393 = .ok (.iload_n 3, 1) := by decide +kernel
theorem dL_law_1394 : decode cL_law 1394 = .ok (.iconst 1, 1) := by decide +kernel
theorem dL_law_1395 : decode cL_law 1395 = .ok (.iadd, 1) := by decide +kernel
theorem dL_law_1396 : decode cL_law 1396 = .ok (.iaload, 1) := by decide +kernel
theorem dL_law_1397 : decode cL_law 1397 = .ok (.aload_n 0, 1) := by decide +kernel
theorem dL_law_1398 : decode cL_law 1398 = .ok (.iload_n 3, 1) := by decide +kernel
theorem dL_law_1399 : decode cL_law 1399 = .ok (.iconst 2, 1) := by decide +kernel
theorem dL_law_1400 : decode cL_law 1400 = .ok (.iadd, 1) := by decide +kernel
theorem dL_law_1401 : decode cL_law 1401 = .ok (.iaload, 1) := by decide +kernel
theorem dL_law_1402 : decode cL_law 1402 = .ok (.invokevirtual 145, 3) := by decide +kernel
theorem dL_law_1405 : decode cL_law 1405 = .ok (.if_icmp .eq 51, 3) := by decide +kernel
theorem dL_law_1408 : decode cL_law 1408 = .ok (.iconst 0, 1) := by decide +kernel
theorem dL_law_1409 : decode cL_law 1409 = .ok (.ireturn, 1) := by decide +kernel
theorem dL_law_1410 : decode cL_law 1410 = .ok (.aload_n 1, 1) := by decide +kernel
theorem dL_law_1411 : decode cL_law 1411 = .ok (.aload_n 0, 1) := by decide +kernel
theorem dL_law_1412 : decode cL_law 1412 = .ok (.iload_n 3, 1) := by decide +kernel
theorem dL_law_1413 : decode cL_law 1413 = .ok (.iconst 1, 1) := by decide +kernel
theorem dL_law_1414 : decode cL_law 1414 = .ok (.iadd, 1) := by decide +kernel
theorem dL_law_1415 : decode cL_law 1415 = .ok (.iaload, 1) := by decide +kernel
theorem dL_law_1416 : decode cL_law 1416 = .ok (.invokevirtual 146, 3) := by decide +kernel
theorem dL_law_1419 : decode cL_law 1419 = .ok (.aload_n 2, 1) := by decide +kernel
theorem dL_law_1420 : decode cL_law 1420 = .ok (.aload_n 0, 1) := by decide +kernel
theorem dL_law_1421 : decode cL_law 1421 = .ok (.iload_n 3, 1) := by decide +kernel
theorem dL_law_1422 : decode cL_law 1422 = .ok (.iconst 1, 1) := by decide +kernel
theorem dL_law_1423 : decode cL_law 1423 = .ok (.iadd, 1) := by decide +kernel
theorem dL_law_1424 : decode cL_law 1424 = .ok (.iaload, 1) := by decide +kernel
theorem dL_law_1425 : decode cL_law 1425 = .ok (.invokevirtual 149, 3) := by decide +kernel
theorem dL_law_1428 : decode cL_law 1428 = .ok (.if_icmp .eq 28, 3) := by decide +kernel
theorem dL_law_1431 : decode cL_law 1431 = .ok (.iconst 0, 1) := by decide +kernel
theorem dL_law_1432 : decode cL_law 1432 = .ok (.ireturn, 1) := by decide +kernel
theorem dL_law_1433 : decode cL_law 1433 = .ok (.aload_n 1, 1) := by decide +kernel
theorem dL_law_1434 : decode cL_law 1434 = .ok (.aload_n 0, 1) := by decide +kernel
theorem dL_law_1435 : decode cL_law 1435 = .ok (.iload_n 3, 1) := by decide +kernel
theorem dL_law_1436 : decode cL_law 1436 = .ok (.iconst 1, 1) := by decide +kernel
theorem dL_law_1437 : decode cL_law 1437 = .ok (.iadd, 1) := by decide +kernel
theorem dL_law_1438 : decode cL_law 1438 = .ok (.iaload, 1) := by decide +kernel
theorem dL_law_1439 : decode cL_law 1439 = .ok (.invokevirtual 150, 3) := by decide +kernel
theorem dL_law_1442 : decode cL_law 1442 = .ok (.aload_n 2, 1) := by decide +kernel
theorem dL_law_1443 : decode cL_law 1443 = .ok (.aload_n 0, 1) := by decide +kernel
theorem dL_law_1444 : decode cL_law 1444 = .ok (.iload_n 3, 1) := by decide +kernel
theorem dL_law_1445 : decode cL_law 1445 = .ok (.iconst 1, 1) := by decide +kernel
theorem dL_law_1446 : decode cL_law 1446 = .ok (.iadd, 1) := by decide +kernel
theorem dL_law_1447 : decode cL_law 1447 = .ok (.iaload, 1) := by decide +kernel
theorem dL_law_1448 : decode cL_law 1448 = .ok (.invokevirtual 153, 3) := by decide +kernel
theorem dL_law_1451 : decode cL_law 1451 = .ok (.if_icmp .eq 5, 3) := by decide +kernel
theorem dL_law_1454 : decode cL_law 1454 = .ok (.iconst 0, 1) := by decide +kernel
theorem dL_law_1455 : decode cL_law 1455 = .ok (.ireturn, 1) := by decide +kernel
theorem dL_law_1456 : decode cL_law 1456 = .ok (.iinc 3 7, 3) := by decide +kernel
theorem dL_law_1459 : decode cL_law 1459 = .ok (.goto (-1441), 3) := by decide +kernel
theorem dL_law_1462 : decode cL_law 1462 = .ok (.iconst 1, 1) := by decide +kernel
theorem dL_law_1463 : decode cL_law 1463 = .ok (.ireturn, 1) := by decide +kernel
