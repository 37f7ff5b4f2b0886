theorem dX9_init_0 : decode cX9_init 0 = .ok (.aload_n 0, 1) := by decide +kernel
theorem dX9_init_1 : decode cX9_init 1 = .ok (.invokespecial 1, 3) := by decide +kernel
theorem dX9_init_4 : decode cX9_init 4 = .ok (.aload_n 0, 1) := by decide +kernel
theorem dX9_init_5 : decode cX9_init 5 = .ok (.sipush 149, 3) := by decide +kernel
theorem dX9_init_8 : decode cX9_init 8 = .ok (.newarray .int, 2) := by decide +kernel
theorem dX9_init_10 : decode cX9_init 10 = .ok (.putfield 7, 3) := by decide +kernel
theorem dX9_init_13 : decode cX9_init 13 = .ok (.aload_n 0, 1) := by decide +kernel
theorem dX9_init_14 : decode cX9_init 14 = .ok (.sipush 149, 3) := by decide +kernel
theorem dX9_init_17 : decode cX9_init 17 = .ok (.newarray .int, 2) := by decide +kernel
theorem dX9_init_19 : decode cX9_init 19 = .ok (.putfield 13, 3) := by decide +kernel
theorem dX9_init_22 : decode cX9_init 22 = .ok (.aload_n 0, 1) := by decide +kernel
theorem dX9_init_23 : decode cX9_init 23 = .ok (.sipush 894, 3) := by decide +kernel
theorem dX9_init_26 : decode cX9_init 26 = .ok (.newarray .int, 2) := by decide +kernel
theorem dX9_init_28 : decode cX9_init 28 = .ok (.putfield 16, 3) := by decide +kernel
theorem dX9_init_31 : decode cX9_init 31 = .ok (.aload_n 0, 1) := by decide +kernel
theorem dX9_init_32 : decode cX9_init 32 = .ok (.sipush 298, 3) := by decide +kernel
theorem dX9_init_35 : decode cX9_init 35 = .ok (.newarray .int, 2) := by decide +kernel
theorem dX9_init_37 : decode cX9_init 37 = .ok (.putfield 19, 3) := by decide +kernel
theorem dX9_init_40 : decode cX9_init 40 = .ok (.aload_n 0, 1) := by decide +kernel
theorem dX9_init_41 : decode cX9_init 41 = .ok (.iconst 2, 1) := by decide +kernel
theorem dX9_init_42 : decode cX9_init 42 = .ok (.newarray .boolean, 2) := by decide +kernel
theorem dX9_init_44 : decode cX9_init 44 = .ok (.putfield 22, 3) := by decide +kernel
theorem dX9_init_47 : decode cX9_init 47 = .ok (.aload_n 0, 1) := by decide +kernel
theorem dX9_init_48 : decode cX9_init 48 = .ok (.bipush 10, 2) := by decide +kernel
theorem dX9_init_50 : decode cX9_init 50 = .ok (.newarray .int, 2) := by decide +kernel
theorem dX9_init_52 : decode cX9_init 52 = .ok (.putfield 26, 3) := by decide +kernel
theorem dX9_init_55 : decode cX9_init 55 = .ok (.aload_n 0, 1) := by decide +kernel
theorem dX9_init_56 : decode cX9_init 56 = .ok (.sipush 500, 3) := by decide +kernel
theorem dX9_init_59 : decode cX9_init 59 = .ok (.newarray .byte, 2) := by decide +kernel
theorem dX9_init_61 : decode cX9_init 61 = .ok (.putfield 29, 3) := by decide +kernel
theorem dX9_init_64 : decode cX9_init 64 = .ok (.aload_n 0, 1) := by decide +kernel
theorem dX9_init_65 : decode cX9_init 65 = .ok (.iconst (-1), 1) := by decide +kernel
theorem dX9_init_66 : decode cX9_init 66 = .ok (.putfield 33, 3) := by decide +kernel
theorem dX9_init_69 : decode cX9_init 69 = .ok (.aload_n 0, 1) := by decide +kernel
theorem dX9_init_70 : decode cX9_init 70 = .ok (.bipush 93, 2) := by decide +kernel
theorem dX9_init_72 : decode cX9_init 72 = .ok (.newarray .int, 2) := by decide +kernel
theorem dX9_init_74 : decode cX9_init 74 = .ok (.putfield 37, 3) := by decide +kernel
theorem dX9_init_77 : decode cX9_init 77 = .ok (.aload_n 0, 1) := by decide +kernel
theorem dX9_init_78 : decode cX9_init 78 = .ok (.bipush 12, 2) := by decide +kernel
theorem dX9_init_80 : decode cX9_init 80 = .ok (.newarray .boolean, 2) := by decide +kernel
theorem dX9_init_82 : decode cX9_init 82 = .ok (.putfield 40, 3) := by decide +kernel
theorem dX9_init_85 : decode cX9_init 85 = .ok (.aload_n 0, 1) := by decide +kernel
theorem dX9_init_86 : decode cX9_init 86 = .ok (.sipush 300, 3) := by decide +kernel
theorem dX9_init_89 : decode cX9_init 89 = .ok (.newarray .byte, 2) := by decide +kernel
theorem dX9_init_91 : decode cX9_init 91 = .ok (.putfield 43, 3) := by decide +kernel
theorem dX9_init_94 : decode cX9_init 94 = .ok (.aload_n 0, 1) := by decide +kernel
theorem dX9_init_95 : decode cX9_init 95 = .ok (.getfield 7, 3) := by decide +kernel
theorem dX9_init_98 : decode cX9_init 98 = .ok (.iconst 0, 1) := by decide +kernel
theorem dX9_init_99 : decode cX9_init 99 = .ok (.bipush 20, 2) := by decide +kernel
theorem dX9_init_101 : decode cX9_init 101 = .ok (.iastore, 1) := by decide +kernel
theorem dX9_init_102 : decode cX9_init 102 = .ok (.aload_n 0, 1) := by decide +kernel
theorem dX9_init_103 : decode cX9_init 103 = .ok (.getfield 7, 3) := by decide +kernel
theorem dX9_init_106 : decode cX9_init 106 = .ok (.bipush 8, 2) := by decide +kernel
theorem dX9_init_108 : decode cX9_init 108 = .ok (.bipush 20, 2) := by decide +kernel
theorem dX9_init_110 : decode cX9_init 110 = .ok (.iastore, 1) := by decide +kernel
theorem dX9_init_111 : decode cX9_init 111 = .ok (.aload_n 0, 1) := by decide +kernel
theorem dX9_init_112 : decode cX9_init 112 = .ok (.bipush 9, 2) := by decide +kernel
theorem dX9_init_114 : decode cX9_init 114 = .ok (.bipush 13, 2) := by decide +kernel
theorem dX9_init_116 : decode cX9_init 116 = .ok (.sipush 1310, 3) := by decide +kernel
theorem dX9_init_119 : decode cX9_init 119 = .ok (.iconst 5, 1) := by decide +kernel
theorem dX9_init_120 : decode cX9_init 120 = .ok (.invokevirtual 46, 3) := by decide +kernel
theorem dX9_init_123 : decode cX9_init 123 = .ok (.aload_n 0, 1) := by decide +kernel
theorem dX9_init_124 : decode cX9_init 124 = .ok (.bipush 10, 2) := by decide +kernel
theorem dX9_init_126 : decode cX9_init 126 = .ok (.bipush 25, 2) := by decide +kernel
theorem dX9_init_128 : decode cX9_init 128 = .ok (.sipush 352, 3) := by decide +kernel
theorem dX9_init_131 : decode cX9_init 131 = .ok (.iconst 3, 1) := by decide +kernel
theorem dX9_init_132 : decode cX9_init 132 = .ok (.invokevirtual 46, 3) := by decide +kernel
theorem dX9_init_135 : decode cX9_init 135 = .ok (.aload_n 0, 1) := by decide +kernel
theorem dX9_init_136 : decode cX9_init 136 = .ok (.bipush 11, 2) := by decide +kernel
theorem dX9_init_138 : decode cX9_init 138 = .ok (.bipush 37, 2) := by decide +kernel
theorem dX9_init_140 : decode cX9_init 140 = .ok (.sipush 6314, 3) := by decide +kernel
theorem dX9_init_143 : decode cX9_init 143 = .ok (.iconst 4, 1) := by decide +kernel
theorem dX9_init_144 : decode cX9_init 144 = .ok (.invokevirtual 46, 3) := by decide +kernel
theorem dX9_init_147 : decode cX9_init 147 = .ok (.aload_n 0, 1) := by decide +kernel
theorem dX9_init_148 : decode cX9_init 148 = .ok (.bipush 10, 2) := by decide +kernel
theorem dX9_init_150 : decode cX9_init 150 = .ok (.bipush 8, 2) := by decide +kernel
theorem dX9_init_152 : decode cX9_init 152 = .ok (.bipush 12, 2) := by decide +kernel
theorem dX9_init_154 : decode cX9_init 154 = .ok (.invokevirtual 50, 3) := by decide +kernel
theorem dX9_init_157 : decode cX9_init 157 = .ok (.aload_n 0, 1) := by decide +kernel
theorem dX9_init_158 : decode cX9_init 158 = .ok (.bipush 7, 2) := by decide +kernel
theorem dX9_init_160 : decode cX9_init 160 = .ok (.iconst 2, 1) := by decide +kernel
theorem dX9_init_161 : decode cX9_init 161 = .ok (.iconst 5, 1) := by decide +kernel
theorem dX9_init_162 : decode cX9_init 162 = .ok (.invokevirtual 50, 3) := by decide +kernel
theorem dX9_init_165 : decode cX9_init 165 = .ok (.aload_n 0, 1) := by decide +kernel
theorem dX9_init_166 : decode cX9_init 166 = .ok (.bipush 12, 2) := by decide +kernel
theorem dX9_init_168 : decode cX9_init 168 = .ok (.iconst 0, 1) := by decide +kernel
theorem dX9_init_169 : decode cX9_init 169 = .ok (.bipush 30, 2) := by decide +kernel
theorem dX9_init_171 : decode cX9_init 171 = .ok (.invokevirtual 50, 3) := by decide +kernel
theorem dX9_init_174 : decode cX9_init 174 = .ok (.aload_n 0, 1) := by decide +kernel
theorem dX9_init_175 : decode cX9_init 175 = .ok (.bipush 9, 2) := by decide +kernel
theorem dX9_init_177 : decode cX9_init 177 = .ok (.iconst 5, 1) := by decide +kernel
theorem dX9_init_178 : decode cX9_init 178 = .ok (.iconst 1, 1) := by decide +kernel
theorem dX9_init_179 : decode cX9_init 179 = .ok (.invokevirtual 50, 3) := by decide +kernel
theorem dX9_init_182 : decode cX9_init 182 = .ok (.return_, 1) := by decide +kernel
theorem dX9_addMany_0 : decode cX9_addMany 0 = .ok (.iload_n 3, 1) := by decide +kernel
theorem dX9_addMany_1 : decode cX9_addMany 1 = .ok (.istore 5, 2) := by decide +kernel
theorem dX9_addMany_3 : decode cX9_addMany 3 = .ok (.iload 4, 2) := by decide +kernel
theorem dX9_addMany_5 : decode cX9_addMany 5 = .ok (.iconst 1, 1) := by decide +kernel
theorem dX9_addMany_6 : decode cX9_addMany 6 = .ok (.isub, 1) := by decide +kernel
theorem dX9_addMany_7 : decode cX9_addMany 7 = .ok (.istore 6, 2) := by decide +kernel
theorem dX9_addMany_9 : decode cX9_addMany 9 = .ok (.iload 6, 2) := by decide +kernel
theorem dX9_addMany_11 : decode cX9_addMany 11 = .ok (.ifCond .lt 30, 3) := by decide +kernel
theorem dX9_addMany_14 : decode cX9_addMany 14 = .ok (.aload_n 0, 1) := by decide +kernel
theorem dX9_addMany_15 : decode cX9_addMany 15 = .ok (.getfield 7, 3) := by decide +kernel
theorem dX9_addMany_18 : decode cX9_addMany 18 = .ok (.iload_n 2, 1) := by decide +kernel
theorem dX9_addMany_19 : decode cX9_addMany 19 = .ok (.iload 6, 2) := by decide +kernel
theorem dX9_addMany_21 : decode cX9_addMany 21 = .ok (.iadd, 1) := by decide +kernel
theorem dX9_addMany_22 : decode cX9_addMany 22 = .ok (.iload 5, 2) := by decide +kernel
theorem dX9_addMany_24 : decode cX9_addMany 24 = .ok (.bipush 10, 2) := by decide +kernel
theorem dX9_addMany_26 : decode cX9_addMany 26 = .ok (.irem, 1) := by decide +kernel
theorem dX9_addMany_27 : decode cX9_addMany 27 = .ok (.iastore, 1) := by decide +kernel
theorem dX9_addMany_28 : decode cX9_addMany 28 = .ok (.iload 5, 2) := by decide +kernel
theorem dX9_addMany_30 : decode cX9_addMany 30 = .ok (.bipush 10, 2) := by decide +kernel
theorem dX9_addMany_32 : decode cX9_addMany 32 = .ok (.idiv, 1) := by decide +kernel
theorem dX9_addMany_33 : decode cX9_addMany 33 = .ok (.istore 5, 2) := by decide +kernel
theorem dX9_addMany_35 : decode cX9_addMany 35 = .ok (.iinc 6 (-1), 3) := by decide +kernel
theorem dX9_addMany_38 : decode cX9_addMany 38 = .ok (.goto (-29), 3) := by decide +kernel
theorem dX9_addMany_41 : decode cX9_addMany 41 = .ok (.aload_n 0, 1) := by decide +kernel
theorem dX9_addMany_42 : decode cX9_addMany 42 = .ok (.getfield 7, 3) := by decide +kernel
theorem dX9_addMany_45 : decode cX9_addMany 45 = .ok (.iload_n 1, 1) := by decide +kernel
theorem dX9_addMany_46 : decode cX9_addMany 46 = .ok (.iload 4, 2) := by decide +kernel
theorem dX9_addMany_48 : decode cX9_addMany 48 = .ok (.iastore, 1) := by decide +kernel
theorem dX9_addMany_49 : decode cX9_addMany 49 = .ok (.return_, 1) := by decide +kernel
theorem dX9_addHiker_0 : decode cX9_addHiker 0 = .ok (.aload_n 0, 1) := by decide +kernel
theorem dX9_addHiker_1 : decode cX9_addHiker 1 = .ok (.getfield 7, 3) := by decide +kernel
theorem dX9_addHiker_4 : decode cX9_addHiker 4 = .ok (.bipush 12, 2) := by decide +kernel
theorem dX9_addHiker_6 : decode cX9_addHiker 6 = .ok (.iaload, 1) := by decide +kernel
theorem dX9_addHiker_7 : decode cX9_addHiker 7 = .ok (.istore 4, 2) := by decide +kernel
theorem dX9_addHiker_9 : decode cX9_addHiker 9 = .ok (.aload_n 0, 1) := by decide +kernel
theorem dX9_addHiker_10 : decode cX9_addHiker 10 = .ok (.iload 4, 2) := by decide +kernel
theorem dX9_addHiker_12 : decode cX9_addHiker 12 = .ok (.iconst 0, 1) := by decide +kernel
theorem dX9_addHiker_13 : decode cX9_addHiker 13 = .ok (.iload_n 1, 1) := by decide +kernel
theorem dX9_addHiker_14 : decode cX9_addHiker 14 = .ok (.invokevirtual 54, 3) := by decide +kernel
theorem dX9_addHiker_17 : decode cX9_addHiker 17 = .ok (.aload_n 0, 1) := by decide +kernel
theorem dX9_addHiker_18 : decode cX9_addHiker 18 = .ok (.iload 4, 2) := by decide +kernel
theorem dX9_addHiker_20 : decode cX9_addHiker 20 = .ok (.iconst 1, 1) := by decide +kernel
theorem dX9_addHiker_21 : decode cX9_addHiker 21 = .ok (.iload_n 2, 1) := by decide +kernel
theorem dX9_addHiker_22 : decode cX9_addHiker 22 = .ok (.invokevirtual 54, 3) := by decide +kernel
theorem dX9_addHiker_25 : decode cX9_addHiker 25 = .ok (.aload_n 0, 1) := by decide +kernel
theorem dX9_addHiker_26 : decode cX9_addHiker 26 = .ok (.iload 4, 2) := by decide +kernel
theorem dX9_addHiker_28 : decode cX9_addHiker 28 = .ok (.iconst 2, 1) := by decide +kernel
theorem dX9_addHiker_29 : decode cX9_addHiker 29 = .ok (.iload_n 3, 1) := by decide +kernel
theorem dX9_addHiker_30 : decode cX9_addHiker 30 = .ok (.invokevirtual 54, 3) := by decide +kernel
theorem dX9_addHiker_33 : decode cX9_addHiker 33 = .ok (.aload_n 0, 1) := by decide +kernel
theorem dX9_addHiker_34 : decode cX9_addHiker 34 = .ok (.iload 4, 2) := by decide +kernel
theorem dX9_addHiker_36 : decode cX9_addHiker 36 = .ok (.iconst 4, 1) := by decide +kernel
theorem dX9_addHiker_37 : decode cX9_addHiker 37 = .ok (.iconst (-1), 1) := by decide +kernel
theorem dX9_addHiker_38 : decode cX9_addHiker 38 = .ok (.invokevirtual 54, 3) := by decide +kernel
theorem dX9_addHiker_41 : decode cX9_addHiker 41 = .ok (.aload_n 0, 1) := by decide +kernel
theorem dX9_addHiker_42 : decode cX9_addHiker 42 = .ok (.iload 4, 2) := by decide +kernel
theorem dX9_addHiker_44 : decode cX9_addHiker 44 = .ok (.iconst 5, 1) := by decide +kernel
theorem dX9_addHiker_45 : decode cX9_addHiker 45 = .ok (.iconst (-1), 1) := by decide +kernel
theorem dX9_addHiker_46 : decode cX9_addHiker 46 = .ok (.invokevirtual 54, 3) := by decide +kernel
theorem dX9_addHiker_49 : decode cX9_addHiker 49 = .ok (.aload_n 0, 1) := by decide +kernel
theorem dX9_addHiker_50 : decode cX9_addHiker 50 = .ok (.getfield 7, 3) := by decide +kernel
theorem dX9_addHiker_53 : decode cX9_addHiker 53 = .ok (.bipush 7, 2) := by decide +kernel
theorem dX9_addHiker_55 : decode cX9_addHiker 55 = .ok (.dup2, 1) := by decide +kernel
theorem dX9_addHiker_56 : decode cX9_addHiker 56 = .ok (.iaload, 1) := by decide +kernel
theorem dX9_addHiker_57 : decode cX9_addHiker 57 = .ok (.iload_n 3, 1) := by decide +kernel
theorem dX9_addHiker_58 : decode cX9_addHiker 58 = .ok (.iadd, 1) := by decide +kernel
theorem dX9_addHiker_59 : decode cX9_addHiker 59 = .ok (.iastore, 1) := by decide +kernel
theorem dX9_addHiker_60 : decode cX9_addHiker 60 = .ok (.aload_n 0, 1) := by decide +kernel
theorem dX9_addHiker_61 : decode cX9_addHiker 61 = .ok (.getfield 7, 3) := by decide +kernel
theorem dX9_addHiker_64 : decode cX9_addHiker 64 = .ok (.bipush 12, 2) := by decide +kernel
theorem dX9_addHiker_66 : decode cX9_addHiker 66 = .ok (.dup2, 1) := by decide +kernel
theorem dX9_addHiker_67 : decode cX9_addHiker 67 = .ok (.iaload, 1) := by decide +kernel
theorem dX9_addHiker_68 : decode cX9_addHiker 68 = .ok (.iconst 1, 1) := by decide +kernel
theorem dX9_addHiker_69 : decode cX9_addHiker 69 = .ok (.iadd, 1) := by decide +kernel
theorem dX9_addHiker_70 : decode cX9_addHiker 70 = .ok (.iastore, 1) := by decide +kernel
theorem dX9_addHiker_71 : decode cX9_addHiker 71 = .ok (.return_, 1) := by decide +kernel
theorem dX9_thrown_0 : decode cX9_thrown 0 = .ok (.aload_n 0, 1) := by decide +kernel
theorem dX9_thrown_1 : decode cX9_thrown 1 = .ok (.getfield 57, 3) := by decide +kernel
theorem dX9_thrown_4 : decode cX9_thrown 4 = .ok (.ireturn, 1) := by decide +kernel
theorem dX9_fail_0 : decode cX9_fail 0 = .ok (.aload_n 0, 1) := by decide +kernel
theorem dX9_fail_1 : decode cX9_fail 1 = .ok (.iload_n 1, 1) := by decide +kernel
theorem dX9_fail_2 : decode cX9_fail 2 = .ok (.putfield 57, 3) := by decide +kernel
theorem dX9_fail_5 : decode cX9_fail 5 = .ok (.iconst 0, 1) := by decide +kernel
theorem dX9_fail_6 : decode cX9_fail 6 = .ok (.ireturn, 1) := by decide +kernel
theorem dX9_tell_0 : decode cX9_tell 0 = .ok (.aload_n 0, 1) := by decide +kernel
theorem dX9_tell_1 : decode cX9_tell 1 = .ok (.iconst 0, 1) := by decide +kernel
theorem dX9_tell_2 : decode cX9_tell 2 = .ok (.putfield 57, 3) := by decide +kernel
theorem dX9_tell_5 : decode cX9_tell 5 = .ok (.iload_n 1, 1) := by decide +kernel
theorem dX9_tell_6 : decode cX9_tell 6 = .ok (.ireturn, 1) := by decide +kernel
theorem dX9_isBetween_0 : decode cX9_isBetween 0 = .ok (.iload_n 0, 1) := by decide +kernel
theorem dX9_isBetween_1 : decode cX9_isBetween 1 = .ok (.iload_n 1, 1) := by decide +kernel
theorem dX9_isBetween_2 : decode cX9_isBetween 2 = .ok (.if_icmp .lt 12, 3) := by decide +kernel
theorem dX9_isBetween_5 : decode cX9_isBetween 5 = .ok (.iload_n 0, 1) := by decide +kernel
theorem dX9_isBetween_6 : decode cX9_isBetween 6 = .ok (.iload_n 2, 1) := by decide +kernel
theorem dX9_isBetween_7 : decode cX9_isBetween 7 = .ok (.if_icmp .gt 7, 3) := by decide +kernel
theorem dX9_isBetween_10 : decode cX9_isBetween 10 = .ok (.iconst 1, 1) := by decide +kernel
theorem dX9_isBetween_11 : decode cX9_isBetween 11 = .ok (.goto 4, 3) := by decide +kernel
theorem dX9_isBetween_14 : decode cX9_isBetween 14 = .ok (.iconst 0, 1) := by decide +kernel
theorem dX9_isBetween_15 : decode cX9_isBetween 15 = .ok (.ireturn, 1) := by decide +kernel
theorem dX9_copy_0 : decode cX9_copy 0 = .ok (.iconst 0, 1) := by decide +kernel
theorem dX9_copy_1 : decode cX9_copy 1 = .ok (.istore 4, 2) := by decide +kernel
theorem dX9_copy_3 : decode cX9_copy 3 = .ok (.iload 4, 2) := by decide +kernel
theorem dX9_copy_5 : decode cX9_copy 5 = .ok (.sipush 149, 3) := by decide +kernel
theorem dX9_copy_8 : decode cX9_copy 8 = .ok (.if_icmp .ge 21, 3) := by decide +kernel
theorem dX9_copy_11 : decode cX9_copy 11 = .ok (.aload_n 2, 1) := by decide +kernel
theorem dX9_copy_12 : decode cX9_copy 12 = .ok (.iload_n 3, 1) := by decide +kernel
theorem dX9_copy_13 : decode cX9_copy 13 = .ok (.iload 4, 2) := by decide +kernel
theorem dX9_copy_15 : decode cX9_copy 15 = .ok (.iadd, 1) := by decide +kernel
theorem dX9_copy_16 : decode cX9_copy 16 = .ok (.aload_n 0, 1) := by decide +kernel
theorem dX9_copy_17 : decode cX9_copy 17 = .ok (.iload_n 1, 1) := by decide +kernel
theorem dX9_copy_18 : decode cX9_copy 18 = .ok (.iload 4, 2) := by decide +kernel
theorem dX9_copy_20 : decode cX9_copy 20 = .ok (.iadd, 1) := by decide +kernel
theorem dX9_copy_21 : decode cX9_copy 21 = .ok (.iaload, 1) := by decide +kernel
theorem dX9_copy_22 : decode cX9_copy 22 = .ok (.iastore, 1) := by decide +kernel
theorem dX9_copy_23 : decode cX9_copy 23 = .ok (.iinc 4 1, 3) := by decide +kernel
theorem dX9_copy_26 : decode cX9_copy 26 = .ok (.goto (-23), 3) := by decide +kernel
theorem dX9_copy_29 : decode cX9_copy 29 = .ok (.return_, 1) := by decide +kernel
theorem dX9_goAside_0 : decode cX9_goAside 0 = .ok (.aload_n 0, 1) := by decide +kernel
theorem dX9_goAside_1 : decode cX9_goAside 1 = .ok (.getfield 7, 3) := by decide +kernel
theorem dX9_goAside_4 : decode cX9_goAside 4 = .ok (.iconst 0, 1) := by decide +kernel
theorem dX9_goAside_5 : decode cX9_goAside 5 = .ok (.aload_n 0, 1) := by decide +kernel
theorem dX9_goAside_6 : decode cX9_goAside 6 = .ok (.getfield 13, 3) := by decide +kernel
theorem dX9_goAside_9 : decode cX9_goAside 9 = .ok (.iconst 0, 1) := by decide +kernel
theorem dX9_goAside_10 : decode cX9_goAside 10 = .ok (.invokestatic 60, 3) := by decide +kernel
theorem dX9_goAside_13 : decode cX9_goAside 13 = .ok (.return_, 1) := by decide +kernel
theorem dX9_comeBack_0 : decode cX9_comeBack 0 = .ok (.aload_n 0, 1) := by decide +kernel
theorem dX9_comeBack_1 : decode cX9_comeBack 1 = .ok (.getfield 13, 3) := by decide +kernel
theorem dX9_comeBack_4 : decode cX9_comeBack 4 = .ok (.iconst 0, 1) := by decide +kernel
theorem dX9_comeBack_5 : decode cX9_comeBack 5 = .ok (.aload_n 0, 1) := by decide +kernel
theorem dX9_comeBack_6 : decode cX9_comeBack 6 = .ok (.getfield 7, 3) := by decide +kernel
theorem dX9_comeBack_9 : decode cX9_comeBack 9 = .ok (.iconst 0, 1) := by decide +kernel
theorem dX9_comeBack_10 : decode cX9_comeBack 10 = .ok (.invokestatic 60, 3) := by decide +kernel
theorem dX9_comeBack_13 : decode cX9_comeBack 13 = .ok (.iload_n 1, 1) := by decide +kernel
theorem dX9_comeBack_14 : decode cX9_comeBack 14 = .ok (.ireturn, 1) := by decide +kernel
theorem dX9_get_0 : decode cX9_get 0 = .ok (.aload_n 0, 1) := by decide +kernel
theorem dX9_get_1 : decode cX9_get 1 = .ok (.getfield 7, 3) := by decide +kernel
theorem dX9_get_4 : decode cX9_get 4 = .ok (.bipush 49, 2) := by decide +kernel
theorem dX9_get_6 : decode cX9_get 6 = .ok (.bipush 10, 2) := by decide +kernel
theorem dX9_get_8 : decode cX9_get 8 = .ok (.iload_n 1, 1) := by decide +kernel
theorem dX9_get_9 : decode cX9_get 9 = .ok (.imul, 1) := by decide +kernel
theorem dX9_get_10 : decode cX9_get 10 = .ok (.iadd, 1) := by decide +kernel
theorem dX9_get_11 : decode cX9_get 11 = .ok (.iload_n 2, 1) := by decide +kernel
theorem dX9_get_12 : decode cX9_get 12 = .ok (.iadd, 1) := by decide +kernel
theorem dX9_get_13 : decode cX9_get 13 = .ok (.iaload, 1) := by decide +kernel
theorem dX9_get_14 : decode cX9_get 14 = .ok (.ireturn, 1) := by decide +kernel
theorem dX9_set_0 : decode cX9_set 0 = .ok (.aload_n 0, 1) := by decide +kernel
theorem dX9_set_1 : decode cX9_set 1 = .ok (.getfield 7, 3) := by decide +kernel
theorem dX9_set_4 : decode cX9_set 4 = .ok (.bipush 49, 2) := by decide +kernel
theorem dX9_set_6 : decode cX9_set 6 = .ok (.bipush 10, 2) := by decide +kernel
theorem dX9_set_8 : decode cX9_set 8 = .ok (.iload_n 1, 1) := by decide +kernel
theorem dX9_set_9 : decode cX9_set 9 = .ok (.imul, 1) := by decide +kernel
theorem dX9_set_10 : decode cX9_set 10 = .ok (.iadd, 1) := by decide +kernel
theorem dX9_set_11 : decode cX9_set 11 = .ok (.iload_n 2, 1) := by decide +kernel
theorem dX9_set_12 : decode cX9_set 12 = .ok (.iadd, 1) := by decide +kernel
theorem dX9_set_13 : decode cX9_set 13 = .ok (.iload_n 3, 1) := by decide +kernel
theorem dX9_set_14 : decode cX9_set 14 = .ok (.iastore, 1) := by decide +kernel
theorem dX9_set_15 : decode cX9_set 15 = .ok (.return_, 1) := by decide +kernel
theorem dX9_increase_0 : decode cX9_increase 0 = .ok (.aload_n 0, 1) := by decide +kernel
theorem dX9_increase_1 : decode cX9_increase 1 = .ok (.iload_n 1, 1) := by decide +kernel
theorem dX9_increase_2 : decode cX9_increase 2 = .ok (.iload_n 2, 1) := by decide +kernel
theorem dX9_increase_3 : decode cX9_increase 3 = .ok (.aload_n 0, 1) := by decide +kernel
theorem dX9_increase_4 : decode cX9_increase 4 = .ok (.iload_n 1, 1) := by decide +kernel
theorem dX9_increase_5 : decode cX9_increase 5 = .ok (.iload_n 2, 1) := by decide +kernel
theorem dX9_increase_6 : decode cX9_increase 6 = .ok (.invokevirtual 64, 3) := by decide +kernel
theorem dX9_increase_9 : decode cX9_increase 9 = .ok (.iload_n 3, 1) := by decide +kernel
theorem dX9_increase_10 : decode cX9_increase 10 = .ok (.iadd, 1) := by decide +kernel
theorem dX9_increase_11 : decode cX9_increase 11 = .ok (.invokevirtual 54, 3) := by decide +kernel
theorem dX9_increase_14 : decode cX9_increase 14 = .ok (.return_, 1) := by decide +kernel
theorem dX9_isHiker_0 : decode cX9_isHiker 0 = .ok (.iload_n 1, 1) := by decide +kernel
theorem dX9_isHiker_1 : decode cX9_isHiker 1 = .ok (.iconst 0, 1) := by decide +kernel
theorem dX9_isHiker_2 : decode cX9_isHiker 2 = .ok (.aload_n 0, 1) := by decide +kernel
theorem dX9_isHiker_3 : decode cX9_isHiker 3 = .ok (.getfield 7, 3) := by decide +kernel
theorem dX9_isHiker_6 : decode cX9_isHiker 6 = .ok (.bipush 12, 2) := by decide +kernel
theorem dX9_isHiker_8 : decode cX9_isHiker 8 = .ok (.iaload, 1) := by decide +kernel
theorem dX9_isHiker_9 : decode cX9_isHiker 9 = .ok (.iconst 1, 1) := by decide +kernel
theorem dX9_isHiker_10 : decode cX9_isHiker 10 = .ok (.isub, 1) := by decide +kernel
theorem dX9_isHiker_11 : decode cX9_isHiker 11 = .ok (.invokestatic 68, 3) := by decide +kernel
theorem dX9_isHiker_14 : decode cX9_isHiker 14 = .ok (.ireturn, 1) := by decide +kernel
theorem dX9_isBunk_0 : decode cX9_isBunk 0 = .ok (.iload_n 1, 1) := by decide +kernel
theorem dX9_isBunk_1 : decode cX9_isBunk 1 = .ok (.iconst 0, 1) := by decide +kernel
theorem dX9_isBunk_2 : decode cX9_isBunk 2 = .ok (.aload_n 0, 1) := by decide +kernel
theorem dX9_isBunk_3 : decode cX9_isBunk 3 = .ok (.getfield 7, 3) := by decide +kernel
theorem dX9_isBunk_6 : decode cX9_isBunk 6 = .ok (.bipush 9, 2) := by decide +kernel
theorem dX9_isBunk_8 : decode cX9_isBunk 8 = .ok (.iaload, 1) := by decide +kernel
theorem dX9_isBunk_9 : decode cX9_isBunk 9 = .ok (.iconst 1, 1) := by decide +kernel
theorem dX9_isBunk_10 : decode cX9_isBunk 10 = .ok (.isub, 1) := by decide +kernel
theorem dX9_isBunk_11 : decode cX9_isBunk 11 = .ok (.invokestatic 68, 3) := by decide +kernel
theorem dX9_isBunk_14 : decode cX9_isBunk 14 = .ok (.ireturn, 1) := by decide +kernel
theorem dX9_isBlanket_0 : decode cX9_isBlanket 0 = .ok (.iload_n 1, 1) := by decide +kernel
theorem dX9_isBlanket_1 : decode cX9_isBlanket 1 = .ok (.iconst 0, 1) := by decide +kernel
theorem dX9_isBlanket_2 : decode cX9_isBlanket 2 = .ok (.aload_n 0, 1) := by decide +kernel
theorem dX9_isBlanket_3 : decode cX9_isBlanket 3 = .ok (.getfield 7, 3) := by decide +kernel
theorem dX9_isBlanket_6 : decode cX9_isBlanket 6 = .ok (.bipush 10, 2) := by decide +kernel
theorem dX9_isBlanket_8 : decode cX9_isBlanket 8 = .ok (.iaload, 1) := by decide +kernel
theorem dX9_isBlanket_9 : decode cX9_isBlanket 9 = .ok (.iconst 1, 1) := by decide +kernel
theorem dX9_isBlanket_10 : decode cX9_isBlanket 10 = .ok (.isub, 1) := by decide +kernel
theorem dX9_isBlanket_11 : decode cX9_isBlanket 11 = .ok (.invokestatic 68, 3) := by decide +kernel
theorem dX9_isBlanket_14 : decode cX9_isBlanket 14 = .ok (.ireturn, 1) := by decide +kernel
theorem dX9_hikerWith_0 : decode cX9_hikerWith 0 = .ok (.iconst 0, 1) := by decide +kernel
theorem dX9_hikerWith_1 : decode cX9_hikerWith 1 = .ok (.istore_n 3, 1) := by decide +kernel
theorem dX9_hikerWith_2 : decode cX9_hikerWith 2 = .ok (.iload_n 3, 1) := by decide +kernel
theorem dX9_hikerWith_3 : decode cX9_hikerWith 3 = .ok (.aload_n 0, 1) := by decide +kernel
theorem dX9_hikerWith_4 : decode cX9_hikerWith 4 = .ok (.getfield 7, 3) := by decide +kernel
theorem dX9_hikerWith_7 : decode cX9_hikerWith 7 = .ok (.bipush 12, 2) := by decide +kernel
theorem dX9_hikerWith_9 : decode cX9_hikerWith 9 = .ok (.iaload, 1) := by decide +kernel
theorem dX9_hikerWith_10 : decode cX9_hikerWith 10 = .ok (.if_icmp .ge 21, 3) := by decide +kernel
theorem dX9_hikerWith_13 : decode cX9_hikerWith 13 = .ok (.aload_n 0, 1) := by decide +kernel
theorem dX9_hikerWith_14 : decode cX9_hikerWith 14 = .ok (.iload_n 3, 1) := by decide +kernel
theorem dX9_hikerWith_15 : decode cX9_hikerWith 15 = .ok (.iload_n 1, 1) := by decide +kernel
theorem dX9_hikerWith_16 : decode cX9_hikerWith 16 = .ok (.invokevirtual 64, 3) := by decide +kernel
theorem dX9_hikerWith_19 : decode cX9_hikerWith 19 = .ok (.iload_n 2, 1) := by decide +kernel
theorem dX9_hikerWith_20 : decode cX9_hikerWith 20 = .ok (.if_icmp .ne 5, 3) := by decide +kernel
theorem dX9_hikerWith_23 : decode cX9_hikerWith 23 = .ok (.iload_n 3, 1) := by decide +kernel
theorem dX9_hikerWith_24 : decode cX9_hikerWith 24 = .ok (.ireturn, 1) := by decide +kernel
theorem dX9_hikerWith_25 : decode cX9_hikerWith 25 = .ok (.iinc 3 1, 3) := by decide +kernel
theorem dX9_hikerWith_28 : decode cX9_hikerWith 28 = .ok (.goto (-26), 3) := by decide +kernel
theorem dX9_hikerWith_31 : decode cX9_hikerWith 31 = .ok (.iconst (-1), 1) := by decide +kernel
theorem dX9_hikerWith_32 : decode cX9_hikerWith 32 = .ok (.ireturn, 1) := by decide +kernel
theorem dX9_inBunk_0 : decode cX9_inBunk 0 = .ok (.aload_n 0, 1) := by decide +kernel
theorem dX9_inBunk_1 : decode cX9_inBunk 1 = .ok (.iload_n 1, 1) := by decide +kernel
theorem dX9_inBunk_2 : decode cX9_inBunk 2 = .ok (.invokevirtual 72, 3) := by decide +kernel
theorem dX9_inBunk_5 : decode cX9_inBunk 5 = .ok (.ifCond .eq 12, 3) := by decide +kernel
theorem dX9_inBunk_8 : decode cX9_inBunk 8 = .ok (.aload_n 0, 1) := by decide +kernel
theorem dX9_inBunk_9 : decode cX9_inBunk 9 = .ok (.iconst 4, 1) := by decide +kernel
theorem dX9_inBunk_10 : decode cX9_inBunk 10 = .ok (.iload_n 1, 1) := by decide +kernel
theorem dX9_inBunk_11 : decode cX9_inBunk 11 = .ok (.invokevirtual 76, 3) := by decide +kernel
theorem dX9_inBunk_14 : decode cX9_inBunk 14 = .ok (.goto 4, 3) := by decide +kernel
theorem dX9_inBunk_17 : decode cX9_inBunk 17 = .ok (.iconst (-1), 1) := by decide +kernel
theorem dX9_inBunk_18 : decode cX9_inBunk 18 = .ok (.ireturn, 1) := by decide +kernel
theorem dX9_inside_0 : decode cX9_inside 0 = .ok (.aload_n 0, 1) := by decide +kernel
theorem dX9_inside_1 : decode cX9_inside 1 = .ok (.getfield 7, 3) := by decide +kernel
theorem dX9_inside_4 : decode cX9_inside 4 = .ok (.bipush 37, 2) := by decide +kernel
theorem dX9_inside_6 : decode cX9_inside 6 = .ok (.aload_n 0, 1) := by decide +kernel
theorem dX9_inside_7 : decode cX9_inside 7 = .ok (.getfield 7, 3) := by decide +kernel
theorem dX9_inside_10 : decode cX9_inside 10 = .ok (.iconst 3, 1) := by decide +kernel
theorem dX9_inside_11 : decode cX9_inside 11 = .ok (.iaload, 1) := by decide +kernel
theorem dX9_inside_12 : decode cX9_inside 12 = .ok (.aload_n 0, 1) := by decide +kernel
theorem dX9_inside_13 : decode cX9_inside 13 = .ok (.getfield 7, 3) := by decide +kernel
theorem dX9_inside_16 : decode cX9_inside 16 = .ok (.bipush 11, 2) := by decide +kernel
theorem dX9_inside_18 : decode cX9_inside 18 = .ok (.iaload, 1) := by decide +kernel
theorem dX9_inside_19 : decode cX9_inside 19 = .ok (.irem, 1) := by decide +kernel
theorem dX9_inside_20 : decode cX9_inside 20 = .ok (.iadd, 1) := by decide +kernel
theorem dX9_inside_21 : decode cX9_inside 21 = .ok (.iaload, 1) := by decide +kernel
theorem dX9_inside_22 : decode cX9_inside 22 = .ok (.aload_n 0, 1) := by decide +kernel
theorem dX9_inside_23 : decode cX9_inside 23 = .ok (.getfield 7, 3) := by decide +kernel
theorem dX9_inside_26 : decode cX9_inside 26 = .ok (.iconst 2, 1) := by decide +kernel
theorem dX9_inside_27 : decode cX9_inside 27 = .ok (.iaload, 1) := by decide +kernel
theorem dX9_inside_28 : decode cX9_inside 28 = .ok (.iadd, 1) := by decide +kernel
theorem dX9_inside_29 : decode cX9_inside 29 = .ok (.ireturn, 1) := by decide +kernel
theorem dX9_thicknessFor_0 : decode cX9_thicknessFor 0 = .ok (.aload_n 0, 1) := by decide +kernel
theorem dX9_thicknessFor_1 : decode cX9_thicknessFor 1 = .ok (.iload_n 1, 1) := by decide +kernel
theorem dX9_thicknessFor_2 : decode cX9_thicknessFor 2 = .ok (.iconst 5, 1) := by decide +kernel
theorem dX9_thicknessFor_3 : decode cX9_thicknessFor 3 = .ok (.invokevirtual 64, 3) := by decide +kernel
theorem dX9_thicknessFor_6 : decode cX9_thicknessFor 6 = .ok (.istore_n 2, 1) := by decide +kernel
theorem dX9_thicknessFor_7 : decode cX9_thicknessFor 7 = .ok (.iload_n 2, 1) := by decide +kernel
theorem dX9_thicknessFor_8 : decode cX9_thicknessFor 8 = .ok (.iconst (-1), 1) := by decide +kernel
theorem dX9_thicknessFor_9 : decode cX9_thicknessFor 9 = .ok (.if_icmp .ne 7, 3) := by decide +kernel
theorem dX9_thicknessFor_12 : decode cX9_thicknessFor 12 = .ok (.iconst 0, 1) := by decide +kernel
theorem dX9_thicknessFor_13 : decode cX9_thicknessFor 13 = .ok (.goto 12, 3) := by decide +kernel
theorem dX9_thicknessFor_16 : decode cX9_thicknessFor 16 = .ok (.aload_n 0, 1) := by decide +kernel
theorem dX9_thicknessFor_17 : decode cX9_thicknessFor 17 = .ok (.getfield 7, 3) := by decide +kernel
theorem dX9_thicknessFor_20 : decode cX9_thicknessFor 20 = .ok (.bipush 25, 2) := by decide +kernel
theorem dX9_thicknessFor_22 : decode cX9_thicknessFor 22 = .ok (.iload_n 2, 1) := by decide +kernel
theorem dX9_thicknessFor_23 : decode cX9_thicknessFor 23 = .ok (.iadd, 1) := by decide +kernel
theorem dX9_thicknessFor_24 : decode cX9_thicknessFor 24 = .ok (.iaload, 1) := by decide +kernel
theorem dX9_thicknessFor_25 : decode cX9_thicknessFor 25 = .ok (.ireturn, 1) := by decide +kernel
theorem dX9_warmthBare_0 : decode cX9_warmthBare 0 = .ok (.aload_n 0, 1) := by decide +kernel
theorem dX9_warmthBare_1 : decode cX9_warmthBare 1 = .ok (.iload_n 1, 1) := by decide +kernel
theorem dX9_warmthBare_2 : decode cX9_warmthBare 2 = .ok (.iconst 4, 1) := by decide +kernel
theorem dX9_warmthBare_3 : decode cX9_warmthBare 3 = .ok (.invokevirtual 64, 3) := by decide +kernel
theorem dX9_warmthBare_6 : decode cX9_warmthBare 6 = .ok (.istore_n 2, 1) := by decide +kernel
theorem dX9_warmthBare_7 : decode cX9_warmthBare 7 = .ok (.iload_n 2, 1) := by decide +kernel
theorem dX9_warmthBare_8 : decode cX9_warmthBare 8 = .ok (.iconst (-1), 1) := by decide +kernel
theorem dX9_warmthBare_9 : decode cX9_warmthBare 9 = .ok (.if_icmp .ne 8, 3) := by decide +kernel
theorem dX9_warmthBare_12 : decode cX9_warmthBare 12 = .ok (.aload_n 0, 1) := by decide +kernel
theorem dX9_warmthBare_13 : decode cX9_warmthBare 13 = .ok (.invokevirtual 79, 3) := by decide +kernel
theorem dX9_warmthBare_16 : decode cX9_warmthBare 16 = .ok (.ireturn, 1) := by decide +kernel
theorem dX9_warmthBare_17 : decode cX9_warmthBare 17 = .ok (.aload_n 0, 1) := by decide +kernel
theorem dX9_warmthBare_18 : decode cX9_warmthBare 18 = .ok (.iload_n 2, 1) := by decide +kernel
theorem dX9_warmthBare_19 : decode cX9_warmthBare 19 = .ok (.iconst 1, 1) := by decide +kernel
theorem dX9_warmthBare_20 : decode cX9_warmthBare 20 = .ok (.isub, 1) := by decide +kernel
theorem dX9_warmthBare_21 : decode cX9_warmthBare 21 = .ok (.invokevirtual 83, 3) := by decide +kernel
theorem dX9_warmthBare_24 : decode cX9_warmthBare 24 = .ok (.iconst (-1), 1) := by decide +kernel
theorem dX9_warmthBare_25 : decode cX9_warmthBare 25 = .ok (.if_icmp .ne 7, 3) := by decide +kernel
theorem dX9_warmthBare_28 : decode cX9_warmthBare 28 = .ok (.iconst 0, 1) := by decide +kernel
theorem dX9_warmthBare_29 : decode cX9_warmthBare 29 = .ok (.goto 4, 3) := by decide +kernel
theorem dX9_warmthBare_32 : decode cX9_warmthBare 32 = .ok (.iconst 1, 1) := by decide +kernel
theorem dX9_warmthBare_33 : decode cX9_warmthBare 33 = .ok (.aload_n 0, 1) := by decide +kernel
theorem dX9_warmthBare_34 : decode cX9_warmthBare 34 = .ok (.iload_n 2, 1) := by decide +kernel
theorem dX9_warmthBare_35 : decode cX9_warmthBare 35 = .ok (.iconst 1, 1) := by decide +kernel
theorem dX9_warmthBare_36 : decode cX9_warmthBare 36 = .ok (.iadd, 1) := by decide +kernel
theorem dX9_warmthBare_37 : decode cX9_warmthBare 37 = .ok (.invokevirtual 83, 3) := by decide +kernel
theorem dX9_warmthBare_40 : decode cX9_warmthBare 40 = .ok (.iconst (-1), 1) := by decide +kernel
theorem dX9_warmthBare_41 : decode cX9_warmthBare 41 = .ok (.if_icmp .ne 7, 3) := by decide +kernel
theorem dX9_warmthBare_44 : decode cX9_warmthBare 44 = .ok (.iconst 0, 1) := by decide +kernel
theorem dX9_warmthBare_45 : decode cX9_warmthBare 45 = .ok (.goto 4, 3) := by decide +kernel
theorem dX9_warmthBare_48 : decode cX9_warmthBare 48 = .ok (.iconst 1, 1) := by decide +kernel
theorem dX9_warmthBare_49 : decode cX9_warmthBare 49 = .ok (.iadd, 1) := by decide +kernel
theorem dX9_warmthBare_50 : decode cX9_warmthBare 50 = .ok (.istore_n 3, 1) := by decide +kernel
theorem dX9_warmthBare_51 : decode cX9_warmthBare 51 = .ok (.aload_n 0, 1) := by decide +kernel
theorem dX9_warmthBare_52 : decode cX9_warmthBare 52 = .ok (.invokevirtual 79, 3) := by decide +kernel
theorem dX9_warmthBare_55 : decode cX9_warmthBare 55 = .ok (.aload_n 0, 1) := by decide +kernel
theorem dX9_warmthBare_56 : decode cX9_warmthBare 56 = .ok (.getfield 7, 3) := by decide +kernel
theorem dX9_warmthBare_59 : decode cX9_warmthBare 59 = .ok (.bipush 13, 2) := by decide +kernel
theorem dX9_warmthBare_61 : decode cX9_warmthBare 61 = .ok (.iload_n 2, 1) := by decide +kernel
theorem dX9_warmthBare_62 : decode cX9_warmthBare 62 = .ok (.iadd, 1) := by decide +kernel
theorem dX9_warmthBare_63 : decode cX9_warmthBare 63 = .ok (.iaload, 1) := by decide +kernel
theorem dX9_warmthBare_64 : decode cX9_warmthBare 64 = .ok (.iadd, 1) := by decide +kernel
theorem dX9_warmthBare_65 : decode cX9_warmthBare 65 = .ok (.iload_n 3, 1) := by decide +kernel
theorem dX9_warmthBare_66 : decode cX9_warmthBare 66 = .ok (.iadd, 1) := by decide +kernel
theorem dX9_warmthBare_67 : decode cX9_warmthBare 67 = .ok (.ireturn, 1) := by decide +kernel
theorem dX9_warmthNow_0 : decode cX9_warmthNow 0 = .ok (.aload_n 0, 1) := by decide +kernel
theorem dX9_warmthNow_1 : decode cX9_warmthNow 1 = .ok (.iload_n 1, 1) := by decide +kernel
theorem dX9_warmthNow_2 : decode cX9_warmthNow 2 = .ok (.invokevirtual 87, 3) := by decide +kernel
theorem dX9_warmthNow_5 : decode cX9_warmthNow 5 = .ok (.aload_n 0, 1) := by decide +kernel
theorem dX9_warmthNow_6 : decode cX9_warmthNow 6 = .ok (.iload_n 1, 1) := by decide +kernel
theorem dX9_warmthNow_7 : decode cX9_warmthNow 7 = .ok (.invokevirtual 90, 3) := by decide +kernel
theorem dX9_warmthNow_10 : decode cX9_warmthNow 10 = .ok (.iadd, 1) := by decide +kernel
theorem dX9_warmthNow_11 : decode cX9_warmthNow 11 = .ok (.ireturn, 1) := by decide +kernel
theorem dX9_isCold_0 : decode cX9_isCold 0 = .ok (.aload_n 0, 1) := by decide +kernel
theorem dX9_isCold_1 : decode cX9_isCold 1 = .ok (.iload_n 1, 1) := by decide +kernel
theorem dX9_isCold_2 : decode cX9_isCold 2 = .ok (.invokevirtual 93, 3) := by decide +kernel
theorem dX9_isCold_5 : decode cX9_isCold 5 = .ok (.aload_n 0, 1) := by decide +kernel
theorem dX9_isCold_6 : decode cX9_isCold 6 = .ok (.iload_n 1, 1) := by decide +kernel
theorem dX9_isCold_7 : decode cX9_isCold 7 = .ok (.iconst 0, 1) := by decide +kernel
theorem dX9_isCold_8 : decode cX9_isCold 8 = .ok (.invokevirtual 64, 3) := by decide +kernel
theorem dX9_isCold_11 : decode cX9_isCold 11 = .ok (.if_icmp .ge 7, 3) := by decide +kernel
theorem dX9_isCold_14 : decode cX9_isCold 14 = .ok (.iconst 1, 1) := by decide +kernel
theorem dX9_isCold_15 : decode cX9_isCold 15 = .ok (.goto 4, 3) := by decide +kernel
theorem dX9_isCold_18 : decode cX9_isCold 18 = .ok (.iconst 0, 1) := by decide +kernel
theorem dX9_isCold_19 : decode cX9_isCold 19 = .ok (.ireturn, 1) := by decide +kernel
theorem dX9_snoreIn_0 : decode cX9_snoreIn 0 = .ok (.aload_n 0, 1) := by decide +kernel
theorem dX9_snoreIn_1 : decode cX9_snoreIn 1 = .ok (.iload_n 1, 1) := by decide +kernel
theorem dX9_snoreIn_2 : decode cX9_snoreIn 2 = .ok (.invokevirtual 83, 3) := by decide +kernel
theorem dX9_snoreIn_5 : decode cX9_snoreIn 5 = .ok (.istore_n 2, 1) := by decide +kernel
theorem dX9_snoreIn_6 : decode cX9_snoreIn 6 = .ok (.iload_n 2, 1) := by decide +kernel
theorem dX9_snoreIn_7 : decode cX9_snoreIn 7 = .ok (.iconst (-1), 1) := by decide +kernel
theorem dX9_snoreIn_8 : decode cX9_snoreIn 8 = .ok (.if_icmp .eq 11, 3) := by decide +kernel
theorem dX9_snoreIn_11 : decode cX9_snoreIn 11 = .ok (.aload_n 0, 1) := by decide +kernel
theorem dX9_snoreIn_12 : decode cX9_snoreIn 12 = .ok (.iload_n 2, 1) := by decide +kernel
theorem dX9_snoreIn_13 : decode cX9_snoreIn 13 = .ok (.invokevirtual 96, 3) := by decide +kernel
theorem dX9_snoreIn_16 : decode cX9_snoreIn 16 = .ok (.ifCond .eq 7, 3) := by decide +kernel
theorem dX9_snoreIn_19 : decode cX9_snoreIn 19 = .ok (.iconst 0, 1) := by decide +kernel
theorem dX9_snoreIn_20 : decode cX9_snoreIn 20 = .ok (.goto 9, 3) := by decide +kernel
theorem dX9_snoreIn_23 : decode cX9_snoreIn 23 = .ok (.aload_n 0, 1) := by decide +kernel
theorem dX9_snoreIn_24 : decode cX9_snoreIn 24 = .ok (.iload_n 2, 1) := by decide +kernel
theorem dX9_snoreIn_25 : decode cX9_snoreIn 25 = .ok (.iconst 1, 1) := by decide +kernel
theorem dX9_snoreIn_26 : decode cX9_snoreIn 26 = .ok (.invokevirtual 64, 3) := by decide +kernel
theorem dX9_snoreIn_29 : decode cX9_snoreIn 29 = .ok (.ireturn, 1) := by decide +kernel
theorem dX9_noise_0 : decode cX9_noise 0 = .ok (.aload_n 0, 1) := by decide +kernel
theorem dX9_noise_1 : decode cX9_noise 1 = .ok (.iload_n 1, 1) := by decide +kernel
theorem dX9_noise_2 : decode cX9_noise 2 = .ok (.iconst 1, 1) := by decide +kernel
theorem dX9_noise_3 : decode cX9_noise 3 = .ok (.isub, 1) := by decide +kernel
theorem dX9_noise_4 : decode cX9_noise 4 = .ok (.invokevirtual 99, 3) := by decide +kernel
theorem dX9_noise_7 : decode cX9_noise 7 = .ok (.aload_n 0, 1) := by decide +kernel
theorem dX9_noise_8 : decode cX9_noise 8 = .ok (.iload_n 1, 1) := by decide +kernel
theorem dX9_noise_9 : decode cX9_noise 9 = .ok (.iconst 1, 1) := by decide +kernel
theorem dX9_noise_10 : decode cX9_noise 10 = .ok (.iadd, 1) := by decide +kernel
theorem dX9_noise_11 : decode cX9_noise 11 = .ok (.invokevirtual 99, 3) := by decide +kernel
theorem dX9_noise_14 : decode cX9_noise 14 = .ok (.iadd, 1) := by decide +kernel
theorem dX9_noise_15 : decode cX9_noise 15 = .ok (.aload_n 0, 1) := by decide +kernel
theorem dX9_noise_16 : decode cX9_noise 16 = .ok (.iload_n 1, 1) := by decide +kernel
theorem dX9_noise_17 : decode cX9_noise 17 = .ok (.iconst 2, 1) := by decide +kernel
theorem dX9_noise_18 : decode cX9_noise 18 = .ok (.isub, 1) := by decide +kernel
theorem dX9_noise_19 : decode cX9_noise 19 = .ok (.invokevirtual 99, 3) := by decide +kernel
theorem dX9_noise_22 : decode cX9_noise 22 = .ok (.aload_n 0, 1) := by decide +kernel
theorem dX9_noise_23 : decode cX9_noise 23 = .ok (.iload_n 1, 1) := by decide +kernel
theorem dX9_noise_24 : decode cX9_noise 24 = .ok (.iconst 2, 1) := by decide +kernel
theorem dX9_noise_25 : decode cX9_noise 25 = .ok (.iadd, 1) := by decide +kernel
theorem dX9_noise_26 : decode cX9_noise 26 = .ok (.invokevirtual 99, 3) := by decide +kernel
theorem dX9_noise_29 : decode cX9_noise 29 = .ok (.iadd, 1) := by decide +kernel
theorem dX9_noise_30 : decode cX9_noise 30 = .ok (.iconst 2, 1) := by decide +kernel
theorem dX9_noise_31 : decode cX9_noise 31 = .ok (.idiv, 1) := by decide +kernel
theorem dX9_noise_32 : decode cX9_noise 32 = .ok (.iadd, 1) := by decide +kernel
theorem dX9_noise_33 : decode cX9_noise 33 = .ok (.ireturn, 1) := by decide +kernel
theorem dX9_deed_0 : decode cX9_deed 0 = .ok (.aload_n 0, 1) := by decide +kernel
theorem dX9_deed_1 : decode cX9_deed 1 = .ok (.iload_n 1, 1) := by decide +kernel
theorem dX9_deed_2 : decode cX9_deed 2 = .ok (.invokevirtual 96, 3) := by decide +kernel
theorem dX9_deed_5 : decode cX9_deed 5 = .ok (.ifCond .eq 5, 3) := by decide +kernel
theorem dX9_deed_8 : decode cX9_deed 8 = .ok (.iconst 0, 1) := by decide +kernel
theorem dX9_deed_9 : decode cX9_deed 9 = .ok (.ireturn, 1) := by decide +kernel
theorem dX9_deed_10 : decode cX9_deed 10 = .ok (.aload_n 0, 1) := by decide +kernel
theorem dX9_deed_11 : decode cX9_deed 11 = .ok (.iload_n 1, 1) := by decide +kernel
theorem dX9_deed_12 : decode cX9_deed 12 = .ok (.iconst 4, 1) := by decide +kernel
theorem dX9_deed_13 : decode cX9_deed 13 = .ok (.invokevirtual 64, 3) := by decide +kernel
theorem dX9_deed_16 : decode cX9_deed 16 = .ok (.iconst (-1), 1) := by decide +kernel
theorem dX9_deed_17 : decode cX9_deed 17 = .ok (.if_icmp .ne 5, 3) := by decide +kernel
theorem dX9_deed_20 : decode cX9_deed 20 = .ok (.iconst 3, 1) := by decide +kernel
theorem dX9_deed_21 : decode cX9_deed 21 = .ok (.ireturn, 1) := by decide +kernel
theorem dX9_deed_22 : decode cX9_deed 22 = .ok (.aload_n 0, 1) := by decide +kernel
theorem dX9_deed_23 : decode cX9_deed 23 = .ok (.aload_n 0, 1) := by decide +kernel
theorem dX9_deed_24 : decode cX9_deed 24 = .ok (.iload_n 1, 1) := by decide +kernel
theorem dX9_deed_25 : decode cX9_deed 25 = .ok (.iconst 4, 1) := by decide +kernel
theorem dX9_deed_26 : decode cX9_deed 26 = .ok (.invokevirtual 64, 3) := by decide +kernel
theorem dX9_deed_29 : decode cX9_deed 29 = .ok (.invokevirtual 102, 3) := by decide +kernel
theorem dX9_deed_32 : decode cX9_deed 32 = .ok (.bipush 6, 2) := by decide +kernel
theorem dX9_deed_34 : decode cX9_deed 34 = .ok (.if_icmp .le 7, 3) := by decide +kernel
theorem dX9_deed_37 : decode cX9_deed 37 = .ok (.iconst 1, 1) := by decide +kernel
theorem dX9_deed_38 : decode cX9_deed 38 = .ok (.goto 4, 3) := by decide +kernel
theorem dX9_deed_41 : decode cX9_deed 41 = .ok (.iconst 2, 1) := by decide +kernel
theorem dX9_deed_42 : decode cX9_deed 42 = .ok (.ireturn, 1) := by decide +kernel
theorem dX9_countDeed_0 : decode cX9_countDeed 0 = .ok (.iconst 0, 1) := by decide +kernel
theorem dX9_countDeed_1 : decode cX9_countDeed 1 = .ok (.istore_n 2, 1) := by decide +kernel
theorem dX9_countDeed_2 : decode cX9_countDeed 2 = .ok (.iconst 0, 1) := by decide +kernel
theorem dX9_countDeed_3 : decode cX9_countDeed 3 = .ok (.istore_n 3, 1) := by decide +kernel
theorem dX9_countDeed_4 : decode cX9_countDeed 4 = .ok (.iload_n 3, 1) := by decide +kernel
theorem dX9_countDeed_5 : decode cX9_countDeed 5 = .ok (.aload_n 0, 1) := by decide +kernel
theorem dX9_countDeed_6 : decode cX9_countDeed 6 = .ok (.getfield 7, 3) := by decide +kernel
theorem dX9_countDeed_9 : decode cX9_countDeed 9 = .ok (.bipush 12, 2) := by decide +kernel
theorem dX9_countDeed_11 : decode cX9_countDeed 11 = .ok (.iaload, 1) := by decide +kernel
theorem dX9_countDeed_12 : decode cX9_countDeed 12 = .ok (.if_icmp .ge 26, 3) := by decide +kernel
theorem dX9_countDeed_15 : decode cX9_countDeed 15 = .ok (.iload_n 2, 1) := by decide +kernel
theorem dX9_countDeed_16 : decode cX9_countDeed 16 = .ok (.aload_n 0, 1) := by decide +kernel
theorem dX9_countDeed_17 : decode cX9_countDeed 17 = .ok (.iload_n 3, 1) := by decide +kernel
theorem dX9_countDeed_18 : decode cX9_countDeed 18 = .ok (.invokevirtual 105, 3) := by decide +kernel
theorem dX9_countDeed_21 : decode cX9_countDeed 21 = .ok (.iload_n 1, 1) := by decide +kernel
theorem dX9_countDeed_22 : decode cX9_countDeed 22 = .ok (.if_icmp .ne 7, 3) := by decide +kernel
theorem dX9_countDeed_25 : decode cX9_countDeed 25 = .ok (.iconst 1, 1) := by decide +kernel
theorem dX9_countDeed_26 : decode cX9_countDeed 26 = .ok (.goto 4, 3) := by decide +kernel
theorem dX9_countDeed_29 : decode cX9_countDeed 29 = .ok (.iconst 0, 1) := by decide +kernel
theorem dX9_countDeed_30 : decode cX9_countDeed 30 = .ok (.iadd, 1) := by decide +kernel
theorem dX9_countDeed_31 : decode cX9_countDeed 31 = .ok (.istore_n 2, 1) := by decide +kernel
theorem dX9_countDeed_32 : decode cX9_countDeed 32 = .ok (.iinc 3 1, 3) := by decide +kernel
theorem dX9_countDeed_35 : decode cX9_countDeed 35 = .ok (.goto (-31), 3) := by decide +kernel
theorem dX9_countDeed_38 : decode cX9_countDeed 38 = .ok (.iload_n 2, 1) := by decide +kernel
theorem dX9_countDeed_39 : decode cX9_countDeed 39 = .ok (.ireturn, 1) := by decide +kernel
theorem dX9_sumOf_0 : decode cX9_sumOf 0 = .ok (.iconst 0, 1) := by decide +kernel
theorem dX9_sumOf_1 : decode cX9_sumOf 1 = .ok (.istore_n 2, 1) := by decide +kernel
theorem dX9_sumOf_2 : decode cX9_sumOf 2 = .ok (.iconst 0, 1) := by decide +kernel
theorem dX9_sumOf_3 : decode cX9_sumOf 3 = .ok (.istore_n 3, 1) := by decide +kernel
theorem dX9_sumOf_4 : decode cX9_sumOf 4 = .ok (.iload_n 3, 1) := by decide +kernel
theorem dX9_sumOf_5 : decode cX9_sumOf 5 = .ok (.aload_n 0, 1) := by decide +kernel
theorem dX9_sumOf_6 : decode cX9_sumOf 6 = .ok (.getfield 7, 3) := by decide +kernel
theorem dX9_sumOf_9 : decode cX9_sumOf 9 = .ok (.bipush 12, 2) := by decide +kernel
theorem dX9_sumOf_11 : decode cX9_sumOf 11 = .ok (.iaload, 1) := by decide +kernel
theorem dX9_sumOf_12 : decode cX9_sumOf 12 = .ok (.if_icmp .ge 18, 3) := by decide +kernel
theorem dX9_sumOf_15 : decode cX9_sumOf 15 = .ok (.iload_n 2, 1) := by decide +kernel
theorem dX9_sumOf_16 : decode cX9_sumOf 16 = .ok (.aload_n 0, 1) := by decide +kernel
theorem dX9_sumOf_17 : decode cX9_sumOf 17 = .ok (.iload_n 3, 1) := by decide +kernel
theorem dX9_sumOf_18 : decode cX9_sumOf 18 = .ok (.iload_n 1, 1) := by decide +kernel
theorem dX9_sumOf_19 : decode cX9_sumOf 19 = .ok (.invokevirtual 64, 3) := by decide +kernel
theorem dX9_sumOf_22 : decode cX9_sumOf 22 = .ok (.iadd, 1) := by decide +kernel
theorem dX9_sumOf_23 : decode cX9_sumOf 23 = .ok (.istore_n 2, 1) := by decide +kernel
theorem dX9_sumOf_24 : decode cX9_sumOf 24 = .ok (.iinc 3 1, 3) := by decide +kernel
theorem dX9_sumOf_27 : decode cX9_sumOf 27 = .ok (.goto (-23), 3) := by decide +kernel
theorem dX9_sumOf_30 : decode cX9_sumOf 30 = .ok (.iload_n 2, 1) := by decide +kernel
theorem dX9_sumOf_31 : decode cX9_sumOf 31 = .ok (.ireturn, 1) := by decide +kernel
theorem dX9_burn_0 : decode cX9_burn 0 = .ok (.aload_n 0, 1) := by decide +kernel
theorem dX9_burn_1 : decode cX9_burn 1 = .ok (.getfield 7, 3) := by decide +kernel
theorem dX9_burn_4 : decode cX9_burn 4 = .ok (.iconst 1, 1) := by decide +kernel
theorem dX9_burn_5 : decode cX9_burn 5 = .ok (.iaload, 1) := by decide +kernel
theorem dX9_burn_6 : decode cX9_burn 6 = .ok (.aload_n 0, 1) := by decide +kernel
theorem dX9_burn_7 : decode cX9_burn 7 = .ok (.getfield 7, 3) := by decide +kernel
theorem dX9_burn_10 : decode cX9_burn 10 = .ok (.iconst 0, 1) := by decide +kernel
theorem dX9_burn_11 : decode cX9_burn 11 = .ok (.iaload, 1) := by decide +kernel
theorem dX9_burn_12 : decode cX9_burn 12 = .ok (.invokestatic 108, 3) := by decide +kernel
theorem dX9_burn_15 : decode cX9_burn 15 = .ok (.istore_n 1, 1) := by decide +kernel
theorem dX9_burn_16 : decode cX9_burn 16 = .ok (.aload_n 0, 1) := by decide +kernel
theorem dX9_burn_17 : decode cX9_burn 17 = .ok (.getfield 7, 3) := by decide +kernel
theorem dX9_burn_20 : decode cX9_burn 20 = .ok (.iconst 0, 1) := by decide +kernel
theorem dX9_burn_21 : decode cX9_burn 21 = .ok (.dup2, 1) := by decide +kernel
theorem dX9_burn_22 : decode cX9_burn 22 = .ok (.iaload, 1) := by decide +kernel
theorem dX9_burn_23 : decode cX9_burn 23 = .ok (.iload_n 1, 1) := by decide +kernel
theorem dX9_burn_24 : decode cX9_burn 24 = .ok (.isub, 1) := by decide +kernel
theorem dX9_burn_25 : decode cX9_burn 25 = .ok (.iastore, 1) := by decide +kernel
theorem dX9_burn_26 : decode cX9_burn 26 = .ok (.aload_n 0, 1) := by decide +kernel
theorem dX9_burn_27 : decode cX9_burn 27 = .ok (.getfield 7, 3) := by decide +kernel
theorem dX9_burn_30 : decode cX9_burn 30 = .ok (.iconst 4, 1) := by decide +kernel
theorem dX9_burn_31 : decode cX9_burn 31 = .ok (.dup2, 1) := by decide +kernel
theorem dX9_burn_32 : decode cX9_burn 32 = .ok (.iaload, 1) := by decide +kernel
theorem dX9_burn_33 : decode cX9_burn 33 = .ok (.iload_n 1, 1) := by decide +kernel
theorem dX9_burn_34 : decode cX9_burn 34 = .ok (.iadd, 1) := by decide +kernel
theorem dX9_burn_35 : decode cX9_burn 35 = .ok (.iastore, 1) := by decide +kernel
theorem dX9_burn_36 : decode cX9_burn 36 = .ok (.aload_n 0, 1) := by decide +kernel
theorem dX9_burn_37 : decode cX9_burn 37 = .ok (.getfield 7, 3) := by decide +kernel
theorem dX9_burn_40 : decode cX9_burn 40 = .ok (.iconst 5, 1) := by decide +kernel
theorem dX9_burn_41 : decode cX9_burn 41 = .ok (.dup2, 1) := by decide +kernel
theorem dX9_burn_42 : decode cX9_burn 42 = .ok (.iaload, 1) := by decide +kernel
theorem dX9_burn_43 : decode cX9_burn 43 = .ok (.iload_n 1, 1) := by decide +kernel
theorem dX9_burn_44 : decode cX9_burn 44 = .ok (.iadd, 1) := by decide +kernel
theorem dX9_burn_45 : decode cX9_burn 45 = .ok (.iastore, 1) := by decide +kernel
theorem dX9_burn_46 : decode cX9_burn 46 = .ok (.aload_n 0, 1) := by decide +kernel
theorem dX9_burn_47 : decode cX9_burn 47 = .ok (.getfield 7, 3) := by decide +kernel
theorem dX9_burn_50 : decode cX9_burn 50 = .ok (.iconst 2, 1) := by decide +kernel
theorem dX9_burn_51 : decode cX9_burn 51 = .ok (.aload_n 0, 1) := by decide +kernel
theorem dX9_burn_52 : decode cX9_burn 52 = .ok (.getfield 7, 3) := by decide +kernel
theorem dX9_burn_55 : decode cX9_burn 55 = .ok (.iconst 2, 1) := by decide +kernel
theorem dX9_burn_56 : decode cX9_burn 56 = .ok (.iaload, 1) := by decide +kernel
theorem dX9_burn_57 : decode cX9_burn 57 = .ok (.iconst 2, 1) := by decide +kernel
theorem dX9_burn_58 : decode cX9_burn 58 = .ok (.idiv, 1) := by decide +kernel
theorem dX9_burn_59 : decode cX9_burn 59 = .ok (.iconst 4, 1) := by decide +kernel
theorem dX9_burn_60 : decode cX9_burn 60 = .ok (.iload_n 1, 1) := by decide +kernel
theorem dX9_burn_61 : decode cX9_burn 61 = .ok (.imul, 1) := by decide +kernel
theorem dX9_burn_62 : decode cX9_burn 62 = .ok (.iadd, 1) := by decide +kernel
theorem dX9_burn_63 : decode cX9_burn 63 = .ok (.iastore, 1) := by decide +kernel
theorem dX9_burn_64 : decode cX9_burn 64 = .ok (.return_, 1) := by decide +kernel
theorem dX9_pay_0 : decode cX9_pay 0 = .ok (.iload_n 2, 1) := by decide +kernel
theorem dX9_pay_1 : decode cX9_pay 1 = .ok (.aload_n 0, 1) := by decide +kernel
theorem dX9_pay_2 : decode cX9_pay 2 = .ok (.iload_n 1, 1) := by decide +kernel
theorem dX9_pay_3 : decode cX9_pay 3 = .ok (.iconst 2, 1) := by decide +kernel
theorem dX9_pay_4 : decode cX9_pay 4 = .ok (.invokevirtual 64, 3) := by decide +kernel
theorem dX9_pay_7 : decode cX9_pay 7 = .ok (.invokestatic 108, 3) := by decide +kernel
theorem dX9_pay_10 : decode cX9_pay 10 = .ok (.istore_n 3, 1) := by decide +kernel
theorem dX9_pay_11 : decode cX9_pay 11 = .ok (.aload_n 0, 1) := by decide +kernel
theorem dX9_pay_12 : decode cX9_pay 12 = .ok (.iload_n 1, 1) := by decide +kernel
theorem dX9_pay_13 : decode cX9_pay 13 = .ok (.iconst 2, 1) := by decide +kernel
theorem dX9_pay_14 : decode cX9_pay 14 = .ok (.iload_n 3, 1) := by decide +kernel
theorem dX9_pay_15 : decode cX9_pay 15 = .ok (.ineg, 1) := by decide +kernel
theorem dX9_pay_16 : decode cX9_pay 16 = .ok (.invokevirtual 113, 3) := by decide +kernel
theorem dX9_pay_19 : decode cX9_pay 19 = .ok (.aload_n 0, 1) := by decide +kernel
theorem dX9_pay_20 : decode cX9_pay 20 = .ok (.iload_n 1, 1) := by decide +kernel
theorem dX9_pay_21 : decode cX9_pay 21 = .ok (.iconst 3, 1) := by decide +kernel
theorem dX9_pay_22 : decode cX9_pay 22 = .ok (.iload_n 2, 1) := by decide +kernel
theorem dX9_pay_23 : decode cX9_pay 23 = .ok (.iload_n 3, 1) := by decide +kernel
theorem dX9_pay_24 : decode cX9_pay 24 = .ok (.isub, 1) := by decide +kernel
theorem dX9_pay_25 : decode cX9_pay 25 = .ok (.invokevirtual 113, 3) := by decide +kernel
theorem dX9_pay_28 : decode cX9_pay 28 = .ok (.aload_n 0, 1) := by decide +kernel
theorem dX9_pay_29 : decode cX9_pay 29 = .ok (.getfield 26, 3) := by decide +kernel
theorem dX9_pay_32 : decode cX9_pay 32 = .ok (.iload_n 1, 1) := by decide +kernel
theorem dX9_pay_33 : decode cX9_pay 33 = .ok (.dup2, 1) := by decide +kernel
theorem dX9_pay_34 : decode cX9_pay 34 = .ok (.iaload, 1) := by decide +kernel
theorem dX9_pay_35 : decode cX9_pay 35 = .ok (.iload_n 2, 1) := by decide +kernel
theorem dX9_pay_36 : decode cX9_pay 36 = .ok (.iadd, 1) := by decide +kernel
theorem dX9_pay_37 : decode cX9_pay 37 = .ok (.iastore, 1) := by decide +kernel
theorem dX9_pay_38 : decode cX9_pay 38 = .ok (.iload_n 3, 1) := by decide +kernel
theorem dX9_pay_39 : decode cX9_pay 39 = .ok (.ireturn, 1) := by decide +kernel
theorem dX9_payLogs_0 : decode cX9_payLogs 0 = .ok (.iconst 2, 1) := by decide +kernel
theorem dX9_payLogs_1 : decode cX9_payLogs 1 = .ok (.aload_n 0, 1) := by decide +kernel
theorem dX9_payLogs_2 : decode cX9_payLogs 2 = .ok (.getfield 7, 3) := by decide +kernel
theorem dX9_payLogs_5 : decode cX9_payLogs 5 = .ok (.iconst 5, 1) := by decide +kernel
theorem dX9_payLogs_6 : decode cX9_payLogs 6 = .ok (.iaload, 1) := by decide +kernel
theorem dX9_payLogs_7 : decode cX9_payLogs 7 = .ok (.imul, 1) := by decide +kernel
theorem dX9_payLogs_8 : decode cX9_payLogs 8 = .ok (.istore_n 1, 1) := by decide +kernel
theorem dX9_payLogs_9 : decode cX9_payLogs 9 = .ok (.iconst 0, 1) := by decide +kernel
theorem dX9_payLogs_10 : decode cX9_payLogs 10 = .ok (.istore_n 2, 1) := by decide +kernel
theorem dX9_payLogs_11 : decode cX9_payLogs 11 = .ok (.iload_n 2, 1) := by decide +kernel
theorem dX9_payLogs_12 : decode cX9_payLogs 12 = .ok (.aload_n 0, 1) := by decide +kernel
theorem dX9_payLogs_13 : decode cX9_payLogs 13 = .ok (.getfield 7, 3) := by decide +kernel
theorem dX9_payLogs_16 : decode cX9_payLogs 16 = .ok (.bipush 12, 2) := by decide +kernel
theorem dX9_payLogs_18 : decode cX9_payLogs 18 = .ok (.iaload, 1) := by decide +kernel
theorem dX9_payLogs_19 : decode cX9_payLogs 19 = .ok (.if_icmp .ge 54, 3) := by decide +kernel
theorem dX9_payLogs_22 : decode cX9_payLogs 22 = .ok (.iload_n 1, 1) := by decide +kernel
theorem dX9_payLogs_23 : decode cX9_payLogs 23 = .ok (.aload_n 0, 1) := by decide +kernel
theorem dX9_payLogs_24 : decode cX9_payLogs 24 = .ok (.getfield 7, 3) := by decide +kernel
theorem dX9_payLogs_27 : decode cX9_payLogs 27 = .ok (.bipush 12, 2) := by decide +kernel
theorem dX9_payLogs_29 : decode cX9_payLogs 29 = .ok (.iaload, 1) := by decide +kernel
theorem dX9_payLogs_30 : decode cX9_payLogs 30 = .ok (.idiv, 1) := by decide +kernel
theorem dX9_payLogs_31 : decode cX9_payLogs 31 = .ok (.iload_n 2, 1) := by decide +kernel
theorem dX9_payLogs_32 : decode cX9_payLogs 32 = .ok (.iload_n 1, 1) := by decide +kernel
theorem dX9_payLogs_33 : decode cX9_payLogs 33 = .ok (.aload_n 0, 1) := by decide +kernel
theorem dX9_payLogs_34 : decode cX9_payLogs 34 = .ok (.getfield 7, 3) := by decide +kernel
theorem dX9_payLogs_37 : decode cX9_payLogs 37 = .ok (.bipush 12, 2) := by decide +kernel
theorem dX9_payLogs_39 : decode cX9_payLogs 39 = .ok (.iaload, 1) := by decide +kernel
theorem dX9_payLogs_40 : decode cX9_payLogs 40 = .ok (.irem, 1) := by decide +kernel
theorem dX9_payLogs_41 : decode cX9_payLogs 41 = .ok (.if_icmp .ge 7, 3) := by decide +kernel
theorem dX9_payLogs_44 : decode cX9_payLogs 44 = .ok (.iconst 1, 1) := by decide +kernel
theorem dX9_payLogs_45 : decode cX9_payLogs 45 = .ok (.goto 4, 3) := by decide +kernel
theorem dX9_payLogs_48 : decode cX9_payLogs 48 = .ok (.iconst 0, 1) := by decide +kernel
theorem dX9_payLogs_49 : decode cX9_payLogs 49 = .ok (.iadd, 1) := by decide +kernel
theorem dX9_payLogs_50 : decode cX9_payLogs 50 = .ok (.istore_n 3, 1) := by decide +kernel
theorem dX9_payLogs_51 : decode cX9_payLogs 51 = .ok (.aload_n 0, 1) := by decide +kernel
theorem dX9_payLogs_52 : decode cX9_payLogs 52 = .ok (.getfield 7, 3) := by decide +kernel
theorem dX9_payLogs_55 : decode cX9_payLogs 55 = .ok (.bipush 6, 2) := by decide +kernel
theorem dX9_payLogs_57 : decode cX9_payLogs 57 = .ok (.dup2, 1) := by decide +kernel
theorem dX9_payLogs_58 : decode cX9_payLogs 58 = .ok (.iaload, 1) := by decide +kernel
theorem dX9_payLogs_59 : decode cX9_payLogs 59 = .ok (.aload_n 0, 1) := by decide +kernel
theorem dX9_payLogs_60 : decode cX9_payLogs 60 = .ok (.iload_n 2, 1) := by decide +kernel
theorem dX9_payLogs_61 : decode cX9_payLogs 61 = .ok (.iload_n 3, 1) := by decide +kernel
theorem dX9_payLogs_62 : decode cX9_payLogs 62 = .ok (.invokevirtual 116, 3) := by decide +kernel
theorem dX9_payLogs_65 : decode cX9_payLogs 65 = .ok (.iadd, 1) := by decide +kernel
theorem dX9_payLogs_66 : decode cX9_payLogs 66 = .ok (.iastore, 1) := by decide +kernel
theorem dX9_payLogs_67 : decode cX9_payLogs 67 = .ok (.iinc 2 1, 3) := by decide +kernel
theorem dX9_payLogs_70 : decode cX9_payLogs 70 = .ok (.goto (-59), 3) := by decide +kernel
theorem dX9_payLogs_73 : decode cX9_payLogs 73 = .ok (.aload_n 0, 1) := by decide +kernel
theorem dX9_payLogs_74 : decode cX9_payLogs 74 = .ok (.getfield 7, 3) := by decide +kernel
theorem dX9_payLogs_77 : decode cX9_payLogs 77 = .ok (.iconst 5, 1) := by decide +kernel
theorem dX9_payLogs_78 : decode cX9_payLogs 78 = .ok (.iconst 0, 1) := by decide +kernel
theorem dX9_payLogs_79 : decode cX9_payLogs 79 = .ok (.iastore, 1) := by decide +kernel
theorem dX9_payLogs_80 : decode cX9_payLogs 80 = .ok (.return_, 1) := by decide +kernel
theorem dX9_countWithout_0 : decode cX9_countWithout 0 = .ok (.iconst 0, 1) := by decide +kernel
theorem dX9_countWithout_1 : decode cX9_countWithout 1 = .ok (.istore_n 1, 1) := by decide +kernel
theorem dX9_countWithout_2 : decode cX9_countWithout 2 = .ok (.iconst 0, 1) := by decide +kernel
theorem dX9_countWithout_3 : decode cX9_countWithout 3 = .ok (.istore_n 2, 1) := by decide +kernel
theorem dX9_countWithout_4 : decode cX9_countWithout 4 = .ok (.iload_n 2, 1) := by decide +kernel
theorem dX9_countWithout_5 : decode cX9_countWithout 5 = .ok (.aload_n 0, 1) := by decide +kernel
theorem dX9_countWithout_6 : decode cX9_countWithout 6 = .ok (.getfield 7, 3) := by decide +kernel
theorem dX9_countWithout_9 : decode cX9_countWithout 9 = .ok (.bipush 12, 2) := by decide +kernel
theorem dX9_countWithout_11 : decode cX9_countWithout 11 = .ok (.iaload, 1) := by decide +kernel
theorem dX9_countWithout_12 : decode cX9_countWithout 12 = .ok (.if_icmp .ge 27, 3) := by decide +kernel
theorem dX9_countWithout_15 : decode cX9_countWithout 15 = .ok (.iload_n 1, 1) := by decide +kernel
theorem dX9_countWithout_16 : decode cX9_countWithout 16 = .ok (.aload_n 0, 1) := by decide +kernel
theorem dX9_countWithout_17 : decode cX9_countWithout 17 = .ok (.iload_n 2, 1) := by decide +kernel
theorem dX9_countWithout_18 : decode cX9_countWithout 18 = .ok (.iconst 5, 1) := by decide +kernel
theorem dX9_countWithout_19 : decode cX9_countWithout 19 = .ok (.invokevirtual 64, 3) := by decide +kernel
theorem dX9_countWithout_22 : decode cX9_countWithout 22 = .ok (.iconst (-1), 1) := by decide +kernel
theorem dX9_countWithout_23 : decode cX9_countWithout 23 = .ok (.if_icmp .ne 7, 3) := by decide +kernel
theorem dX9_countWithout_26 : decode cX9_countWithout 26 = .ok (.iconst 1, 1) := by decide +kernel
theorem dX9_countWithout_27 : decode cX9_countWithout 27 = .ok (.goto 4, 3) := by decide +kernel
theorem dX9_countWithout_30 : decode cX9_countWithout 30 = .ok (.iconst 0, 1) := by decide +kernel
theorem dX9_countWithout_31 : decode cX9_countWithout 31 = .ok (.iadd, 1) := by decide +kernel
theorem dX9_countWithout_32 : decode cX9_countWithout 32 = .ok (.istore_n 1, 1) := by decide +kernel
theorem dX9_countWithout_33 : decode cX9_countWithout 33 = .ok (.iinc 2 1, 3) := by decide +kernel
theorem dX9_countWithout_36 : decode cX9_countWithout 36 = .ok (.goto (-32), 3) := by decide +kernel
theorem dX9_countWithout_39 : decode cX9_countWithout 39 = .ok (.iload_n 1, 1) := by decide +kernel
theorem dX9_countWithout_40 : decode cX9_countWithout 40 = .ok (.ireturn, 1) := by decide +kernel
theorem dX9_share_0 : decode cX9_share 0 = .ok (.aload_n 0, 1) := by decide +kernel
theorem dX9_share_1 : decode cX9_share 1 = .ok (.invokevirtual 119, 3) := by decide +kernel
theorem dX9_share_4 : decode cX9_share 4 = .ok (.istore_n 2, 1) := by decide +kernel
theorem dX9_share_5 : decode cX9_share 5 = .ok (.iload_n 2, 1) := by decide +kernel
theorem dX9_share_6 : decode cX9_share 6 = .ok (.ifCond .ne 7, 3) := by decide +kernel
theorem dX9_share_9 : decode cX9_share 9 = .ok (.iconst 0, 1) := by decide +kernel
theorem dX9_share_10 : decode cX9_share 10 = .ok (.goto 6, 3) := by decide +kernel
theorem dX9_share_13 : decode cX9_share 13 = .ok (.iload_n 1, 1) := by decide +kernel
theorem dX9_share_14 : decode cX9_share 14 = .ok (.iload_n 2, 1) := by decide +kernel
theorem dX9_share_15 : decode cX9_share 15 = .ok (.idiv, 1) := by decide +kernel
theorem dX9_share_16 : decode cX9_share 16 = .ok (.istore_n 3, 1) := by decide +kernel
theorem dX9_share_17 : decode cX9_share 17 = .ok (.iconst 0, 1) := by decide +kernel
theorem dX9_share_18 : decode cX9_share 18 = .ok (.istore 4, 2) := by decide +kernel
theorem dX9_share_20 : decode cX9_share 20 = .ok (.iload 4, 2) := by decide +kernel
theorem dX9_share_22 : decode cX9_share 22 = .ok (.aload_n 0, 1) := by decide +kernel
theorem dX9_share_23 : decode cX9_share 23 = .ok (.getfield 7, 3) := by decide +kernel
theorem dX9_share_26 : decode cX9_share 26 = .ok (.bipush 12, 2) := by decide +kernel
theorem dX9_share_28 : decode cX9_share 28 = .ok (.iaload, 1) := by decide +kernel
theorem dX9_share_29 : decode cX9_share 29 = .ok (.if_icmp .ge 32, 3) := by decide +kernel
theorem dX9_share_32 : decode cX9_share 32 = .ok (.aload_n 0, 1) := by decide +kernel
theorem dX9_share_33 : decode cX9_share 33 = .ok (.iload 4, 2) := by decide +kernel
theorem dX9_share_35 : decode cX9_share 35 = .ok (.iconst 2, 1) := by decide +kernel
theorem dX9_share_36 : decode cX9_share 36 = .ok (.aload_n 0, 1) := by decide +kernel
theorem dX9_share_37 : decode cX9_share 37 = .ok (.iload 4, 2) := by decide +kernel
theorem dX9_share_39 : decode cX9_share 39 = .ok (.iconst 5, 1) := by decide +kernel
theorem dX9_share_40 : decode cX9_share 40 = .ok (.invokevirtual 64, 3) := by decide +kernel
theorem dX9_share_43 : decode cX9_share 43 = .ok (.iconst (-1), 1) := by decide +kernel
theorem dX9_share_44 : decode cX9_share 44 = .ok (.if_icmp .ne 7, 3) := by decide +kernel
theorem dX9_share_47 : decode cX9_share 47 = .ok (.iload_n 3, 1) := by decide +kernel
theorem dX9_share_48 : decode cX9_share 48 = .ok (.goto 4, 3) := by decide +kernel
theorem dX9_share_51 : decode cX9_share 51 = .ok (.iconst 0, 1) := by decide +kernel
theorem dX9_share_52 : decode cX9_share 52 = .ok (.invokevirtual 113, 3) := by decide +kernel
theorem dX9_share_55 : decode cX9_share 55 = .ok (.iinc 4 1, 3) := by decide +kernel
theorem dX9_share_58 : decode cX9_share 58 = .ok (.goto (-38), 3) := by decide +kernel
theorem dX9_share_61 : decode cX9_share 61 = .ok (.aload_n 0, 1) := by decide +kernel
theorem dX9_share_62 : decode cX9_share 62 = .ok (.getfield 7, 3) := by decide +kernel
theorem dX9_share_65 : decode cX9_share 65 = .ok (.bipush 6, 2) := by decide +kernel
theorem dX9_share_67 : decode cX9_share 67 = .ok (.dup2, 1) := by decide +kernel
theorem dX9_share_68 : decode cX9_share 68 = .ok (.iaload, 1) := by decide +kernel
theorem dX9_share_69 : decode cX9_share 69 = .ok (.iload_n 1, 1) := by decide +kernel
theorem dX9_share_70 : decode cX9_share 70 = .ok (.iload_n 3, 1) := by decide +kernel
theorem dX9_share_71 : decode cX9_share 71 = .ok (.iload_n 2, 1) := by decide +kernel
theorem dX9_share_72 : decode cX9_share 72 = .ok (.imul, 1) := by decide +kernel
theorem dX9_share_73 : decode cX9_share 73 = .ok (.isub, 1) := by decide +kernel
theorem dX9_share_74 : decode cX9_share 74 = .ok (.iadd, 1) := by decide +kernel
theorem dX9_share_75 : decode cX9_share 75 = .ok (.iastore, 1) := by decide +kernel
theorem dX9_share_76 : decode cX9_share 76 = .ok (.return_, 1) := by decide +kernel
theorem dX9_dawn_0 : decode cX9_dawn 0 = .ok (.iconst 0, 1) := by decide +kernel
theorem dX9_dawn_1 : decode cX9_dawn 1 = .ok (.istore_n 1, 1) := by decide +kernel
theorem dX9_dawn_2 : decode cX9_dawn 2 = .ok (.iload_n 1, 1) := by decide +kernel
theorem dX9_dawn_3 : decode cX9_dawn 3 = .ok (.aload_n 0, 1) := by decide +kernel
theorem dX9_dawn_4 : decode cX9_dawn 4 = .ok (.getfield 7, 3) := by decide +kernel
theorem dX9_dawn_7 : decode cX9_dawn 7 = .ok (.bipush 12, 2) := by decide +kernel
theorem dX9_dawn_9 : decode cX9_dawn 9 = .ok (.iaload, 1) := by decide +kernel
theorem dX9_dawn_10 : decode cX9_dawn 10 = .ok (.if_icmp .ge 32, 3) := by decide +kernel
theorem dX9_dawn_13 : decode cX9_dawn 13 = .ok (.aload_n 0, 1) := by decide +kernel
theorem dX9_dawn_14 : decode cX9_dawn 14 = .ok (.getfield 26, 3) := by decide +kernel
theorem dX9_dawn_17 : decode cX9_dawn 17 = .ok (.iload_n 1, 1) := by decide +kernel
theorem dX9_dawn_18 : decode cX9_dawn 18 = .ok (.iconst 0, 1) := by decide +kernel
theorem dX9_dawn_19 : decode cX9_dawn 19 = .ok (.iastore, 1) := by decide +kernel
theorem dX9_dawn_20 : decode cX9_dawn 20 = .ok (.aload_n 0, 1) := by decide +kernel
theorem dX9_dawn_21 : decode cX9_dawn 21 = .ok (.getfield 7, 3) := by decide +kernel
theorem dX9_dawn_24 : decode cX9_dawn 24 = .ok (.bipush 6, 2) := by decide +kernel
theorem dX9_dawn_26 : decode cX9_dawn 26 = .ok (.dup2, 1) := by decide +kernel
theorem dX9_dawn_27 : decode cX9_dawn 27 = .ok (.iaload, 1) := by decide +kernel
theorem dX9_dawn_28 : decode cX9_dawn 28 = .ok (.aload_n 0, 1) := by decide +kernel
theorem dX9_dawn_29 : decode cX9_dawn 29 = .ok (.iload_n 1, 1) := by decide +kernel
theorem dX9_dawn_30 : decode cX9_dawn 30 = .ok (.iconst 3, 1) := by decide +kernel
theorem dX9_dawn_31 : decode cX9_dawn 31 = .ok (.invokevirtual 116, 3) := by decide +kernel
theorem dX9_dawn_34 : decode cX9_dawn 34 = .ok (.iadd, 1) := by decide +kernel
theorem dX9_dawn_35 : decode cX9_dawn 35 = .ok (.iastore, 1) := by decide +kernel
theorem dX9_dawn_36 : decode cX9_dawn 36 = .ok (.iinc 1 1, 3) := by decide +kernel
theorem dX9_dawn_39 : decode cX9_dawn 39 = .ok (.goto (-37), 3) := by decide +kernel
theorem dX9_dawn_42 : decode cX9_dawn 42 = .ok (.aload_n 0, 1) := by decide +kernel
theorem dX9_dawn_43 : decode cX9_dawn 43 = .ok (.invokevirtual 122, 3) := by decide +kernel
theorem dX9_dawn_46 : decode cX9_dawn 46 = .ok (.iconst 0, 1) := by decide +kernel
theorem dX9_dawn_47 : decode cX9_dawn 47 = .ok (.istore_n 1, 1) := by decide +kernel
theorem dX9_dawn_48 : decode cX9_dawn 48 = .ok (.iconst 0, 1) := by decide +kernel
theorem dX9_dawn_49 : decode cX9_dawn 49 = .ok (.istore_n 2, 1) := by decide +kernel
theorem dX9_dawn_50 : decode cX9_dawn 50 = .ok (.iload_n 2, 1) := by decide +kernel
theorem dX9_dawn_51 : decode cX9_dawn 51 = .ok (.aload_n 0, 1) := by decide +kernel
theorem dX9_dawn_52 : decode cX9_dawn 52 = .ok (.getfield 7, 3) := by decide +kernel
theorem dX9_dawn_55 : decode cX9_dawn 55 = .ok (.bipush 12, 2) := by decide +kernel
theorem dX9_dawn_57 : decode cX9_dawn 57 = .ok (.iaload, 1) := by decide +kernel
theorem dX9_dawn_58 : decode cX9_dawn 58 = .ok (.if_icmp .ge 26, 3) := by decide +kernel
theorem dX9_dawn_61 : decode cX9_dawn 61 = .ok (.iload_n 1, 1) := by decide +kernel
theorem dX9_dawn_62 : decode cX9_dawn 62 = .ok (.aload_n 0, 1) := by decide +kernel
theorem dX9_dawn_63 : decode cX9_dawn 63 = .ok (.iload_n 2, 1) := by decide +kernel
theorem dX9_dawn_64 : decode cX9_dawn 64 = .ok (.aload_n 0, 1) := by decide +kernel
theorem dX9_dawn_65 : decode cX9_dawn 65 = .ok (.iload_n 2, 1) := by decide +kernel
theorem dX9_dawn_66 : decode cX9_dawn 66 = .ok (.invokevirtual 90, 3) := by decide +kernel
theorem dX9_dawn_69 : decode cX9_dawn 69 = .ok (.iconst 2, 1) := by decide +kernel
theorem dX9_dawn_70 : decode cX9_dawn 70 = .ok (.iadd, 1) := by decide +kernel
theorem dX9_dawn_71 : decode cX9_dawn 71 = .ok (.iconst 3, 1) := by decide +kernel
theorem dX9_dawn_72 : decode cX9_dawn 72 = .ok (.idiv, 1) := by decide +kernel
theorem dX9_dawn_73 : decode cX9_dawn 73 = .ok (.invokevirtual 116, 3) := by decide +kernel
theorem dX9_dawn_76 : decode cX9_dawn 76 = .ok (.iadd, 1) := by decide +kernel
theorem dX9_dawn_77 : decode cX9_dawn 77 = .ok (.istore_n 1, 1) := by decide +kernel
theorem dX9_dawn_78 : decode cX9_dawn 78 = .ok (.iinc 2 1, 3) := by decide +kernel
theorem dX9_dawn_81 : decode cX9_dawn 81 = .ok (.goto (-31), 3) := by decide +kernel
theorem dX9_dawn_84 : decode cX9_dawn 84 = .ok (.aload_n 0, 1) := by decide +kernel
theorem dX9_dawn_85 : decode cX9_dawn 85 = .ok (.iload_n 1, 1) := by decide +kernel
theorem dX9_dawn_86 : decode cX9_dawn 86 = .ok (.invokevirtual 125, 3) := by decide +kernel
theorem dX9_dawn_89 : decode cX9_dawn 89 = .ok (.return_, 1) := by decide +kernel
theorem dX9_passHour_0 : decode cX9_passHour 0 = .ok (.aload_n 0, 1) := by decide +kernel
theorem dX9_passHour_1 : decode cX9_passHour 1 = .ok (.invokevirtual 129, 3) := by decide +kernel
theorem dX9_passHour_4 : decode cX9_passHour 4 = .ok (.iconst 0, 1) := by decide +kernel
theorem dX9_passHour_5 : decode cX9_passHour 5 = .ok (.istore_n 1, 1) := by decide +kernel
theorem dX9_passHour_6 : decode cX9_passHour 6 = .ok (.iload_n 1, 1) := by decide +kernel
theorem dX9_passHour_7 : decode cX9_passHour 7 = .ok (.aload_n 0, 1) := by decide +kernel
theorem dX9_passHour_8 : decode cX9_passHour 8 = .ok (.getfield 7, 3) := by decide +kernel
theorem dX9_passHour_11 : decode cX9_passHour 11 = .ok (.bipush 12, 2) := by decide +kernel
theorem dX9_passHour_13 : decode cX9_passHour 13 = .ok (.iaload, 1) := by decide +kernel
theorem dX9_passHour_14 : decode cX9_passHour 14 = .ok (.if_icmp .ge 23, 3) := by decide +kernel
theorem dX9_passHour_17 : decode cX9_passHour 17 = .ok (.aload_n 0, 1) := by decide +kernel
theorem dX9_passHour_18 : decode cX9_passHour 18 = .ok (.iload_n 1, 1) := by decide +kernel
theorem dX9_passHour_19 : decode cX9_passHour 19 = .ok (.bipush 6, 2) := by decide +kernel
theorem dX9_passHour_21 : decode cX9_passHour 21 = .ok (.aload_n 0, 1) := by decide +kernel
theorem dX9_passHour_22 : decode cX9_passHour 22 = .ok (.iload_n 1, 1) := by decide +kernel
theorem dX9_passHour_23 : decode cX9_passHour 23 = .ok (.invokevirtual 105, 3) := by decide +kernel
theorem dX9_passHour_26 : decode cX9_passHour 26 = .ok (.iadd, 1) := by decide +kernel
theorem dX9_passHour_27 : decode cX9_passHour 27 = .ok (.iconst 1, 1) := by decide +kernel
theorem dX9_passHour_28 : decode cX9_passHour 28 = .ok (.invokevirtual 113, 3) := by decide +kernel
theorem dX9_passHour_31 : decode cX9_passHour 31 = .ok (.iinc 1 1, 3) := by decide +kernel
theorem dX9_passHour_34 : decode cX9_passHour 34 = .ok (.goto (-28), 3) := by decide +kernel
theorem dX9_passHour_37 : decode cX9_passHour 37 = .ok (.aload_n 0, 1) := by decide +kernel
theorem dX9_passHour_38 : decode cX9_passHour 38 = .ok (.getfield 7, 3) := by decide +kernel
theorem dX9_passHour_41 : decode cX9_passHour 41 = .ok (.iconst 3, 1) := by decide +kernel
theorem dX9_passHour_42 : decode cX9_passHour 42 = .ok (.dup2, 1) := by decide +kernel
theorem dX9_passHour_43 : decode cX9_passHour 43 = .ok (.iaload, 1) := by decide +kernel
theorem dX9_passHour_44 : decode cX9_passHour 44 = .ok (.iconst 1, 1) := by decide +kernel
theorem dX9_passHour_45 : decode cX9_passHour 45 = .ok (.iadd, 1) := by decide +kernel
theorem dX9_passHour_46 : decode cX9_passHour 46 = .ok (.iastore, 1) := by decide +kernel
theorem dX9_passHour_47 : decode cX9_passHour 47 = .ok (.aload_n 0, 1) := by decide +kernel
theorem dX9_passHour_48 : decode cX9_passHour 48 = .ok (.getfield 7, 3) := by decide +kernel
theorem dX9_passHour_51 : decode cX9_passHour 51 = .ok (.iconst 3, 1) := by decide +kernel
theorem dX9_passHour_52 : decode cX9_passHour 52 = .ok (.iaload, 1) := by decide +kernel
theorem dX9_passHour_53 : decode cX9_passHour 53 = .ok (.bipush 8, 2) := by decide +kernel
theorem dX9_passHour_55 : decode cX9_passHour 55 = .ok (.irem, 1) := by decide +kernel
theorem dX9_passHour_56 : decode cX9_passHour 56 = .ok (.ifCond .ne 7, 3) := by decide +kernel
theorem dX9_passHour_59 : decode cX9_passHour 59 = .ok (.aload_n 0, 1) := by decide +kernel
theorem dX9_passHour_60 : decode cX9_passHour 60 = .ok (.invokevirtual 132, 3) := by decide +kernel
theorem dX9_passHour_63 : decode cX9_passHour 63 = .ok (.return_, 1) := by decide +kernel
theorem dX9_passMany_0 : decode cX9_passMany 0 = .ok (.iconst 0, 1) := by decide +kernel
theorem dX9_passMany_1 : decode cX9_passMany 1 = .ok (.istore_n 2, 1) := by decide +kernel
theorem dX9_passMany_2 : decode cX9_passMany 2 = .ok (.iload_n 2, 1) := by decide +kernel
theorem dX9_passMany_3 : decode cX9_passMany 3 = .ok (.iload_n 1, 1) := by decide +kernel
theorem dX9_passMany_4 : decode cX9_passMany 4 = .ok (.if_icmp .ge 13, 3) := by decide +kernel
theorem dX9_passMany_7 : decode cX9_passMany 7 = .ok (.aload_n 0, 1) := by decide +kernel
theorem dX9_passMany_8 : decode cX9_passMany 8 = .ok (.invokevirtual 135, 3) := by decide +kernel
theorem dX9_passMany_11 : decode cX9_passMany 11 = .ok (.iinc 2 1, 3) := by decide +kernel
theorem dX9_passMany_14 : decode cX9_passMany 14 = .ok (.goto (-12), 3) := by decide +kernel
theorem dX9_passMany_17 : decode cX9_passMany 17 = .ok (.return_, 1) := by decide +kernel
theorem dX9_toDawn_0 : decode cX9_toDawn 0 = .ok (.bipush 8, 2) := by decide +kernel
theorem dX9_toDawn_2 : decode cX9_toDawn 2 = .ok (.aload_n 0, 1) := by decide +kernel
theorem dX9_toDawn_3 : decode cX9_toDawn 3 = .ok (.getfield 7, 3) := by decide +kernel
theorem dX9_toDawn_6 : decode cX9_toDawn 6 = .ok (.iconst 3, 1) := by decide +kernel
theorem dX9_toDawn_7 : decode cX9_toDawn 7 = .ok (.iaload, 1) := by decide +kernel
theorem dX9_toDawn_8 : decode cX9_toDawn 8 = .ok (.bipush 8, 2) := by decide +kernel
theorem dX9_toDawn_10 : decode cX9_toDawn 10 = .ok (.irem, 1) := by decide +kernel
theorem dX9_toDawn_11 : decode cX9_toDawn 11 = .ok (.isub, 1) := by decide +kernel
theorem dX9_toDawn_12 : decode cX9_toDawn 12 = .ok (.ireturn, 1) := by decide +kernel
theorem dX9_appendText_0 : decode cX9_appendText 0 = .ok (.aload_n 0, 1) := by decide +kernel
theorem dX9_appendText_1 : decode cX9_appendText 1 = .ok (.iconst 0, 1) := by decide +kernel
theorem dX9_appendText_2 : decode cX9_appendText 2 = .ok (.putfield 57, 3) := by decide +kernel
theorem dX9_appendText_5 : decode cX9_appendText 5 = .ok (.aload_n 0, 1) := by decide +kernel
theorem dX9_appendText_6 : decode cX9_appendText 6 = .ok (.getfield 138, 3) := by decide +kernel
theorem dX9_appendText_9 : decode cX9_appendText 9 = .ok (.iconst 4, 1) := by decide +kernel
theorem dX9_appendText_10 : decode cX9_appendText 10 = .ok (.iadd, 1) := by decide +kernel
theorem dX9_appendText_11 : decode cX9_appendText 11 = .ok (.sipush 500, 3) := by decide +kernel
theorem dX9_appendText_14 : decode cX9_appendText 14 = .ok (.if_icmp .le 9, 3) := by decide +kernel
theorem dX9_appendText_17 : decode cX9_appendText 17 = .ok (.aload_n 0, 1) := by decide +kernel
theorem dX9_appendText_18 : decode cX9_appendText 18 = .ok (.iconst 1, 1) := by decide +kernel
theorem dX9_appendText_19 : decode cX9_appendText 19 = .ok (.invokevirtual 141, 3) := by decide +kernel
theorem dX9_appendText_22 : decode cX9_appendText 22 = .ok (.ireturn, 1) := by decide +kernel
theorem dX9_appendText_23 : decode cX9_appendText 23 = .ok (.iconst 0, 1) := by decide +kernel
theorem dX9_appendText_24 : decode cX9_appendText 24 = .ok (.istore_n 2, 1) := by decide +kernel
theorem dX9_appendText_25 : decode cX9_appendText 25 = .ok (.iload_n 2, 1) := by decide +kernel
theorem dX9_appendText_26 : decode cX9_appendText 26 = .ok (.iconst 4, 1) := by decide +kernel
theorem dX9_appendText_27 : decode cX9_appendText 27 = .ok (.if_icmp .ge 30, 3) := by decide +kernel
theorem dX9_appendText_30 : decode cX9_appendText 30 = .ok (.aload_n 0, 1) := by decide +kernel
theorem dX9_appendText_31 : decode cX9_appendText 31 = .ok (.getfield 29, 3) := by decide +kernel
theorem dX9_appendText_34 : decode cX9_appendText 34 = .ok (.aload_n 0, 1) := by decide +kernel
theorem dX9_appendText_35 : decode cX9_appendText 35 = .ok (.getfield 138, 3) := by decide +kernel
theorem dX9_appendText_38 : decode cX9_appendText 38 = .ok (.iload_n 2, 1) := by decide +kernel
theorem dX9_appendText_39 : decode cX9_appendText 39 = .ok (.iadd, 1) := by decide +kernel
theorem dX9_appendText_40 : decode cX9_appendText 40 = .ok (.iload_n 1, 1) := by decide +kernel
theorem dX9_appendText_41 : decode cX9_appendText 41 = .ok (.bipush 24, 2) := by decide +kernel
theorem dX9_appendText_43 : decode cX9_appendText 43 = .ok (.bipush 8, 2) := by decide +kernel
theorem dX9_appendText_45 : decode cX9_appendText 45 = .ok (.iload_n 2, 1) := by decide +kernel
theorem dX9_appendText_46 : decode cX9_appendText 46 = .ok (.imul, 1) := by decide +kernel
theorem dX9_appendText_47 : decode cX9_appendText 47 = .ok (.isub, 1) := by decide +kernel
theorem dX9_appendText_48 : decode cX9_appendText 48 = .ok (.ishr, 1) := by decide +kernel
theorem dX9_appendText_49 : decode cX9_appendText 49 = .ok (.i2b, 1) := by decide +kernel
theorem dX9_appendText_50 : decode cX9_appendText 50 = .ok (.bastore, 1) := by decide +kernel
theorem dX9_appendText_51 : decode cX9_appendText 51 = .ok (.iinc 2 1, 3) := by decide +kernel
theorem dX9_appendText_54 : decode cX9_appendText 54 = .ok (.goto (-29), 3) := by decide +kernel
theorem dX9_appendText_57 : decode cX9_appendText 57 = .ok (.aload_n 0, 1) := by decide +kernel
theorem dX9_appendText_58 : decode cX9_appendText 58 = .ok (.dup, 1) := by decide +kernel
theorem dX9_appendText_59 : decode cX9_appendText 59 = .ok (.getfield 138, 3) := by decide +kernel
theorem dX9_appendText_62 : decode cX9_appendText 62 = .ok (.iconst 4, 1) := by decide +kernel
theorem dX9_appendText_63 : decode cX9_appendText 63 = .ok (.iadd, 1) := by decide +kernel
theorem dX9_appendText_64 : decode cX9_appendText 64 = .ok (.putfield 138, 3) := by decide +kernel
theorem dX9_appendText_67 : decode cX9_appendText 67 = .ok (.aload_n 0, 1) := by decide +kernel
theorem dX9_appendText_68 : decode cX9_appendText 68 = .ok (.getfield 138, 3) := by decide +kernel
theorem dX9_appendText_71 : decode cX9_appendText 71 = .ok (.ireturn, 1) := by decide +kernel
theorem dX9_truncateText_0 : decode cX9_truncateText 0 = .ok (.aload_n 0, 1) := by decide +kernel
theorem dX9_truncateText_1 : decode cX9_truncateText 1 = .ok (.iconst 0, 1) := by decide +kernel
theorem dX9_truncateText_2 : decode cX9_truncateText 2 = .ok (.putfield 57, 3) := by decide +kernel
theorem dX9_truncateText_5 : decode cX9_truncateText 5 = .ok (.iload_n 1, 1) := by decide +kernel
theorem dX9_truncateText_6 : decode cX9_truncateText 6 = .ok (.iconst 0, 1) := by decide +kernel
theorem dX9_truncateText_7 : decode cX9_truncateText 7 = .ok (.aload_n 0, 1) := by decide +kernel
theorem dX9_truncateText_8 : decode cX9_truncateText 8 = .ok (.getfield 138, 3) := by decide +kernel
theorem dX9_truncateText_11 : decode cX9_truncateText 11 = .ok (.invokestatic 68, 3) := by decide +kernel
theorem dX9_truncateText_14 : decode cX9_truncateText 14 = .ok (.ifCond .ne 9, 3) := by decide +kernel
theorem dX9_truncateText_17 : decode cX9_truncateText 17 = .ok (.aload_n 0, 1) := by decide +kernel
theorem dX9_truncateText_18 : decode cX9_truncateText 18 = .ok (.iconst 1, 1) := by decide +kernel
theorem dX9_truncateText_19 : decode cX9_truncateText 19 = .ok (.invokevirtual 141, 3) := by decide +kernel
theorem dX9_truncateText_22 : decode cX9_truncateText 22 = .ok (.ireturn, 1) := by decide +kernel
theorem dX9_truncateText_23 : decode cX9_truncateText 23 = .ok (.aload_n 0, 1) := by decide +kernel
theorem dX9_truncateText_24 : decode cX9_truncateText 24 = .ok (.iload_n 1, 1) := by decide +kernel
theorem dX9_truncateText_25 : decode cX9_truncateText 25 = .ok (.putfield 138, 3) := by decide +kernel
theorem dX9_truncateText_28 : decode cX9_truncateText 28 = .ok (.aload_n 0, 1) := by decide +kernel
theorem dX9_truncateText_29 : decode cX9_truncateText 29 = .ok (.getfield 138, 3) := by decide +kernel
theorem dX9_truncateText_32 : decode cX9_truncateText 32 = .ok (.ireturn, 1) := by decide +kernel
theorem dX9_byteAt_0 : decode cX9_byteAt 0 = .ok (.iload_n 1, 1) := by decide +kernel
theorem dX9_byteAt_1 : decode cX9_byteAt 1 = .ok (.aload_n 0, 1) := by decide +kernel
theorem dX9_byteAt_2 : decode cX9_byteAt 2 = .ok (.getfield 138, 3) := by decide +kernel
theorem dX9_byteAt_5 : decode cX9_byteAt 5 = .ok (.if_icmp .ge 16, 3) := by decide +kernel
theorem dX9_byteAt_8 : decode cX9_byteAt 8 = .ok (.aload_n 0, 1) := by decide +kernel
theorem dX9_byteAt_9 : decode cX9_byteAt 9 = .ok (.getfield 29, 3) := by decide +kernel
theorem dX9_byteAt_12 : decode cX9_byteAt 12 = .ok (.iload_n 1, 1) := by decide +kernel
theorem dX9_byteAt_13 : decode cX9_byteAt 13 = .ok (.baload, 1) := by decide +kernel
theorem dX9_byteAt_14 : decode cX9_byteAt 14 = .ok (.sipush 255, 3) := by decide +kernel
theorem dX9_byteAt_17 : decode cX9_byteAt 17 = .ok (.iand, 1) := by decide +kernel
theorem dX9_byteAt_18 : decode cX9_byteAt 18 = .ok (.goto 4, 3) := by decide +kernel
theorem dX9_byteAt_21 : decode cX9_byteAt 21 = .ok (.iconst (-1), 1) := by decide +kernel
theorem dX9_byteAt_22 : decode cX9_byteAt 22 = .ok (.ireturn, 1) := by decide +kernel
theorem dX9_isLetter_0 : decode cX9_isLetter 0 = .ok (.iload_n 0, 1) := by decide +kernel
theorem dX9_isLetter_1 : decode cX9_isLetter 1 = .ok (.bipush 97, 2) := by decide +kernel
theorem dX9_isLetter_3 : decode cX9_isLetter 3 = .ok (.bipush 122, 2) := by decide +kernel
theorem dX9_isLetter_5 : decode cX9_isLetter 5 = .ok (.invokestatic 68, 3) := by decide +kernel
theorem dX9_isLetter_8 : decode cX9_isLetter 8 = .ok (.ireturn, 1) := by decide +kernel
theorem dX9_isDigit_0 : decode cX9_isDigit 0 = .ok (.iload_n 0, 1) := by decide +kernel
theorem dX9_isDigit_1 : decode cX9_isDigit 1 = .ok (.bipush 48, 2) := by decide +kernel
theorem dX9_isDigit_3 : decode cX9_isDigit 3 = .ok (.bipush 57, 2) := by decide +kernel
theorem dX9_isDigit_5 : decode cX9_isDigit 5 = .ok (.invokestatic 68, 3) := by decide +kernel
theorem dX9_isDigit_8 : decode cX9_isDigit 8 = .ok (.ireturn, 1) := by decide +kernel
theorem dX9_isFine_0 : decode cX9_isFine 0 = .ok (.aload_n 0, 1) := by decide +kernel
theorem dX9_isFine_1 : decode cX9_isFine 1 = .ok (.getfield 144, 3) := by decide +kernel
theorem dX9_isFine_4 : decode cX9_isFine 4 = .ok (.ifCond .ne 7, 3) := by decide +kernel
theorem dX9_isFine_7 : decode cX9_isFine 7 = .ok (.iconst 1, 1) := by decide +kernel
theorem dX9_isFine_8 : decode cX9_isFine 8 = .ok (.goto 4, 3) := by decide +kernel
theorem dX9_isFine_11 : decode cX9_isFine 11 = .ok (.iconst 0, 1) := by decide +kernel
theorem dX9_isFine_12 : decode cX9_isFine 12 = .ok (.ireturn, 1) := by decide +kernel
theorem dX9_require_0 : decode cX9_require 0 = .ok (.aload_n 0, 1) := by decide +kernel
theorem dX9_require_1 : decode cX9_require 1 = .ok (.invokevirtual 147, 3) := by decide +kernel
theorem dX9_require_4 : decode cX9_require 4 = .ok (.ifCond .eq 20, 3) := by decide +kernel
theorem dX9_require_7 : decode cX9_require 7 = .ok (.iload_n 1, 1) := by decide +kernel
theorem dX9_require_8 : decode cX9_require 8 = .ok (.ifCond .ne 16, 3) := by decide +kernel
theorem dX9_require_11 : decode cX9_require 11 = .ok (.aload_n 0, 1) := by decide +kernel
theorem dX9_require_12 : decode cX9_require 12 = .ok (.iload_n 2, 1) := by decide +kernel
theorem dX9_require_13 : decode cX9_require 13 = .ok (.putfield 144, 3) := by decide +kernel
theorem dX9_require_16 : decode cX9_require 16 = .ok (.aload_n 0, 1) := by decide +kernel
theorem dX9_require_17 : decode cX9_require 17 = .ok (.aload_n 0, 1) := by decide +kernel
theorem dX9_require_18 : decode cX9_require 18 = .ok (.getfield 151, 3) := by decide +kernel
theorem dX9_require_21 : decode cX9_require 21 = .ok (.putfield 33, 3) := by decide +kernel
theorem dX9_require_24 : decode cX9_require 24 = .ok (.return_, 1) := by decide +kernel
theorem dX9_proceed_0 : decode cX9_proceed 0 = .ok (.aload_n 0, 1) := by decide +kernel
theorem dX9_proceed_1 : decode cX9_proceed 1 = .ok (.invokevirtual 147, 3) := by decide +kernel
theorem dX9_proceed_4 : decode cX9_proceed 4 = .ok (.ifCond .ne 4, 3) := by decide +kernel
theorem dX9_proceed_7 : decode cX9_proceed 7 = .ok (.return_, 1) := by decide +kernel
theorem dX9_proceed_8 : decode cX9_proceed 8 = .ok (.aload_n 0, 1) := by decide +kernel
theorem dX9_proceed_9 : decode cX9_proceed 9 = .ok (.aload_n 0, 1) := by decide +kernel
theorem dX9_proceed_10 : decode cX9_proceed 10 = .ok (.getfield 154, 3) := by decide +kernel
theorem dX9_proceed_13 : decode cX9_proceed 13 = .ok (.invokevirtual 157, 3) := by decide +kernel
theorem dX9_proceed_16 : decode cX9_proceed 16 = .ok (.bipush 32, 2) := by decide +kernel
theorem dX9_proceed_18 : decode cX9_proceed 18 = .ok (.if_icmp .eq 16, 3) := by decide +kernel
theorem dX9_proceed_21 : decode cX9_proceed 21 = .ok (.aload_n 0, 1) := by decide +kernel
theorem dX9_proceed_22 : decode cX9_proceed 22 = .ok (.aload_n 0, 1) := by decide +kernel
theorem dX9_proceed_23 : decode cX9_proceed 23 = .ok (.getfield 154, 3) := by decide +kernel
theorem dX9_proceed_26 : decode cX9_proceed 26 = .ok (.invokevirtual 157, 3) := by decide +kernel
theorem dX9_proceed_29 : decode cX9_proceed 29 = .ok (.bipush 10, 2) := by decide +kernel
theorem dX9_proceed_31 : decode cX9_proceed 31 = .ok (.if_icmp .ne 16, 3) := by decide +kernel
theorem dX9_proceed_34 : decode cX9_proceed 34 = .ok (.aload_n 0, 1) := by decide +kernel
theorem dX9_proceed_35 : decode cX9_proceed 35 = .ok (.dup, 1) := by decide +kernel
theorem dX9_proceed_36 : decode cX9_proceed 36 = .ok (.getfield 154, 3) := by decide +kernel
theorem dX9_proceed_39 : decode cX9_proceed 39 = .ok (.iconst 1, 1) := by decide +kernel
theorem dX9_proceed_40 : decode cX9_proceed 40 = .ok (.iadd, 1) := by decide +kernel
theorem dX9_proceed_41 : decode cX9_proceed 41 = .ok (.putfield 154, 3) := by decide +kernel
theorem dX9_proceed_44 : decode cX9_proceed 44 = .ok (.goto (-36), 3) := by decide +kernel
theorem dX9_proceed_47 : decode cX9_proceed 47 = .ok (.aload_n 0, 1) := by decide +kernel
theorem dX9_proceed_48 : decode cX9_proceed 48 = .ok (.aload_n 0, 1) := by decide +kernel
theorem dX9_proceed_49 : decode cX9_proceed 49 = .ok (.getfield 154, 3) := by decide +kernel
theorem dX9_proceed_52 : decode cX9_proceed 52 = .ok (.putfield 151, 3) := by decide +kernel
theorem dX9_proceed_55 : decode cX9_proceed 55 = .ok (.aload_n 0, 1) := by decide +kernel
theorem dX9_proceed_56 : decode cX9_proceed 56 = .ok (.aload_n 0, 1) := by decide +kernel
theorem dX9_proceed_57 : decode cX9_proceed 57 = .ok (.getfield 151, 3) := by decide +kernel
theorem dX9_proceed_60 : decode cX9_proceed 60 = .ok (.invokevirtual 157, 3) := by decide +kernel
theorem dX9_proceed_63 : decode cX9_proceed 63 = .ok (.istore_n 1, 1) := by decide +kernel
theorem dX9_proceed_64 : decode cX9_proceed 64 = .ok (.iload_n 1, 1) := by decide +kernel
theorem dX9_proceed_65 : decode cX9_proceed 65 = .ok (.iconst (-1), 1) := by decide +kernel
theorem dX9_proceed_66 : decode cX9_proceed 66 = .ok (.if_icmp .ne 9, 3) := by decide +kernel
theorem dX9_proceed_69 : decode cX9_proceed 69 = .ok (.aload_n 0, 1) := by decide +kernel
theorem dX9_proceed_70 : decode cX9_proceed 70 = .ok (.iconst 0, 1) := by decide +kernel
theorem dX9_proceed_71 : decode cX9_proceed 71 = .ok (.putfield 160, 3) := by decide +kernel
theorem dX9_proceed_74 : decode cX9_proceed 74 = .ok (.return_, 1) := by decide +kernel
theorem dX9_proceed_75 : decode cX9_proceed 75 = .ok (.aload_n 0, 1) := by decide +kernel
theorem dX9_proceed_76 : decode cX9_proceed 76 = .ok (.dup, 1) := by decide +kernel
theorem dX9_proceed_77 : decode cX9_proceed 77 = .ok (.getfield 154, 3) := by decide +kernel
theorem dX9_proceed_80 : decode cX9_proceed 80 = .ok (.iconst 1, 1) := by decide +kernel
theorem dX9_proceed_81 : decode cX9_proceed 81 = .ok (.iadd, 1) := by decide +kernel
theorem dX9_proceed_82 : decode cX9_proceed 82 = .ok (.putfield 154, 3) := by decide +kernel
theorem dX9_proceed_85 : decode cX9_proceed 85 = .ok (.iload_n 1, 1) := by decide +kernel
theorem dX9_proceed_86 : decode cX9_proceed 86 = .ok (.invokestatic 163, 3) := by decide +kernel
theorem dX9_proceed_89 : decode cX9_proceed 89 = .ok (.ifCond .eq 35, 3) := by decide +kernel
theorem dX9_proceed_92 : decode cX9_proceed 92 = .ok (.aload_n 0, 1) := by decide +kernel
theorem dX9_proceed_93 : decode cX9_proceed 93 = .ok (.iconst 1, 1) := by decide +kernel
theorem dX9_proceed_94 : decode cX9_proceed 94 = .ok (.putfield 160, 3) := by decide +kernel
theorem dX9_proceed_97 : decode cX9_proceed 97 = .ok (.aload_n 0, 1) := by decide +kernel
theorem dX9_proceed_98 : decode cX9_proceed 98 = .ok (.aload_n 0, 1) := by decide +kernel
theorem dX9_proceed_99 : decode cX9_proceed 99 = .ok (.getfield 154, 3) := by decide +kernel
theorem dX9_proceed_102 : decode cX9_proceed 102 = .ok (.invokevirtual 157, 3) := by decide +kernel
theorem dX9_proceed_105 : decode cX9_proceed 105 = .ok (.invokestatic 163, 3) := by decide +kernel
theorem dX9_proceed_108 : decode cX9_proceed 108 = .ok (.ifCond .eq 106, 3) := by decide +kernel
theorem dX9_proceed_111 : decode cX9_proceed 111 = .ok (.aload_n 0, 1) := by decide +kernel
theorem dX9_proceed_112 : decode cX9_proceed 112 = .ok (.dup, 1) := by decide +kernel
theorem dX9_proceed_113 : decode cX9_proceed 113 = .ok (.getfield 154, 3) := by decide +kernel
theorem dX9_proceed_116 : decode cX9_proceed 116 = .ok (.iconst 1, 1) := by decide +kernel
theorem dX9_proceed_117 : decode cX9_proceed 117 = .ok (.iadd, 1) := by decide +kernel
theorem dX9_proceed_118 : decode cX9_proceed 118 = .ok (.putfield 154, 3) := by decide +kernel
theorem dX9_proceed_121 : decode cX9_proceed 121 = .ok (.goto (-24), 3) := by decide +kernel
theorem dX9_proceed_124 : decode cX9_proceed 124 = .ok (.iload_n 1, 1) := by decide +kernel
theorem dX9_proceed_125 : decode cX9_proceed 125 = .ok (.invokestatic 166, 3) := by decide +kernel
theorem dX9_proceed_128 : decode cX9_proceed 128 = .ok (.ifCond .eq 71, 3) := by decide +kernel
theorem dX9_proceed_131 : decode cX9_proceed 131 = .ok (.aload_n 0, 1) := by decide +kernel
theorem dX9_proceed_132 : decode cX9_proceed 132 = .ok (.iconst 2, 1) := by decide +kernel
theorem dX9_proceed_133 : decode cX9_proceed 133 = .ok (.putfield 160, 3) := by decide +kernel
theorem dX9_proceed_136 : decode cX9_proceed 136 = .ok (.aload_n 0, 1) := by decide +kernel
theorem dX9_proceed_137 : decode cX9_proceed 137 = .ok (.iload_n 1, 1) := by decide +kernel
theorem dX9_proceed_138 : decode cX9_proceed 138 = .ok (.bipush 48, 2) := by decide +kernel
theorem dX9_proceed_140 : decode cX9_proceed 140 = .ok (.isub, 1) := by decide +kernel
theorem dX9_proceed_141 : decode cX9_proceed 141 = .ok (.putfield 169, 3) := by decide +kernel
theorem dX9_proceed_144 : decode cX9_proceed 144 = .ok (.aload_n 0, 1) := by decide +kernel
theorem dX9_proceed_145 : decode cX9_proceed 145 = .ok (.aload_n 0, 1) := by decide +kernel
theorem dX9_proceed_146 : decode cX9_proceed 146 = .ok (.getfield 154, 3) := by decide +kernel
theorem dX9_proceed_149 : decode cX9_proceed 149 = .ok (.invokevirtual 157, 3) := by decide +kernel
theorem dX9_proceed_152 : decode cX9_proceed 152 = .ok (.invokestatic 166, 3) := by decide +kernel
theorem dX9_proceed_155 : decode cX9_proceed 155 = .ok (.ifCond .eq 59, 3) := by decide +kernel
theorem dX9_proceed_158 : decode cX9_proceed 158 = .ok (.aload_n 0, 1) := by decide +kernel
theorem dX9_proceed_159 : decode cX9_proceed 159 = .ok (.ldc 172, 2) := by decide +kernel
theorem dX9_proceed_161 : decode cX9_proceed 161 = .ok (.bipush 10, 2) := by decide +kernel
theorem dX9_proceed_163 : decode cX9_proceed 163 = .ok (.aload_n 0, 1) := by decide +kernel
theorem dX9_proceed_164 : decode cX9_proceed 164 = .ok (.getfield 169, 3) := by decide +kernel
theorem dX9_proceed_167 : decode cX9_proceed 167 = .ok (.imul, 1) := by decide +kernel
theorem dX9_proceed_168 : decode cX9_proceed 168 = .ok (.aload_n 0, 1) := by decide +kernel
theorem dX9_proceed_169 : decode cX9_proceed 169 = .ok (.aload_n 0, 1) := by decide +kernel
theorem dX9_proceed_170 : decode cX9_proceed 170 = .ok (.getfield 154, 3) := by decide +kernel
theorem dX9_proceed_173 : decode cX9_proceed 173 = .ok (.invokevirtual 157, 3) := by decide +kernel
theorem dX9_proceed_176 : decode cX9_proceed 176 = .ok (.iadd, 1) := by decide +kernel
theorem dX9_proceed_177 : decode cX9_proceed 177 = .ok (.bipush 48, 2) := by decide +kernel
theorem dX9_proceed_179 : decode cX9_proceed 179 = .ok (.isub, 1) := by decide +kernel
theorem dX9_proceed_180 : decode cX9_proceed 180 = .ok (.invokestatic 108, 3) := by decide +kernel
theorem dX9_proceed_183 : decode cX9_proceed 183 = .ok (.putfield 169, 3) := by decide +kernel
theorem dX9_proceed_186 : decode cX9_proceed 186 = .ok (.aload_n 0, 1) := by decide +kernel
theorem dX9_proceed_187 : decode cX9_proceed 187 = .ok (.dup, 1) := by decide +kernel
theorem dX9_proceed_188 : decode cX9_proceed 188 = .ok (.getfield 154, 3) := by decide +kernel
theorem dX9_proceed_191 : decode cX9_proceed 191 = .ok (.iconst 1, 1) := by decide +kernel
theorem dX9_proceed_192 : decode cX9_proceed 192 = .ok (.iadd, 1) := by decide +kernel
theorem dX9_proceed_193 : decode cX9_proceed 193 = .ok (.putfield 154, 3) := by decide +kernel
theorem dX9_proceed_196 : decode cX9_proceed 196 = .ok (.goto (-52), 3) := by decide +kernel
theorem dX9_proceed_199 : decode cX9_proceed 199 = .ok (.aload_n 0, 1) := by decide +kernel
theorem dX9_proceed_200 : decode cX9_proceed 200 = .ok (.iload_n 1, 1) := by decide +kernel
theorem dX9_proceed_201 : decode cX9_proceed 201 = .ok (.bipush 59, 2) := by decide +kernel
theorem dX9_proceed_203 : decode cX9_proceed 203 = .ok (.if_icmp .ne 7, 3) := by decide +kernel
theorem dX9_proceed_206 : decode cX9_proceed 206 = .ok (.iconst 3, 1) := by decide +kernel
theorem dX9_proceed_207 : decode cX9_proceed 207 = .ok (.goto 4, 3) := by decide +kernel
theorem dX9_proceed_210 : decode cX9_proceed 210 = .ok (.iconst 4, 1) := by decide +kernel
theorem dX9_proceed_211 : decode cX9_proceed 211 = .ok (.putfield 160, 3) := by decide +kernel
theorem dX9_proceed_214 : decode cX9_proceed 214 = .ok (.return_, 1) := by decide +kernel
theorem dX9_startText_0 : decode cX9_startText 0 = .ok (.aload_n 0, 1) := by decide +kernel
theorem dX9_startText_1 : decode cX9_startText 1 = .ok (.iconst 0, 1) := by decide +kernel
theorem dX9_startText_2 : decode cX9_startText 2 = .ok (.putfield 144, 3) := by decide +kernel
theorem dX9_startText_5 : decode cX9_startText 5 = .ok (.aload_n 0, 1) := by decide +kernel
theorem dX9_startText_6 : decode cX9_startText 6 = .ok (.iconst (-1), 1) := by decide +kernel
theorem dX9_startText_7 : decode cX9_startText 7 = .ok (.putfield 33, 3) := by decide +kernel
theorem dX9_startText_10 : decode cX9_startText 10 = .ok (.aload_n 0, 1) := by decide +kernel
theorem dX9_startText_11 : decode cX9_startText 11 = .ok (.iconst 0, 1) := by decide +kernel
theorem dX9_startText_12 : decode cX9_startText 12 = .ok (.putfield 154, 3) := by decide +kernel
theorem dX9_startText_15 : decode cX9_startText 15 = .ok (.aload_n 0, 1) := by decide +kernel
theorem dX9_startText_16 : decode cX9_startText 16 = .ok (.iconst 0, 1) := by decide +kernel
theorem dX9_startText_17 : decode cX9_startText 17 = .ok (.putfield 173, 3) := by decide +kernel
theorem dX9_startText_20 : decode cX9_startText 20 = .ok (.aload_n 0, 1) := by decide +kernel
theorem dX9_startText_21 : decode cX9_startText 21 = .ok (.invokevirtual 176, 3) := by decide +kernel
theorem dX9_startText_24 : decode cX9_startText 24 = .ok (.return_, 1) := by decide +kernel
theorem dX9_isWord_0 : decode cX9_isWord 0 = .ok (.aload_n 0, 1) := by decide +kernel
theorem dX9_isWord_1 : decode cX9_isWord 1 = .ok (.getfield 160, 3) := by decide +kernel
theorem dX9_isWord_4 : decode cX9_isWord 4 = .ok (.iconst 1, 1) := by decide +kernel
theorem dX9_isWord_5 : decode cX9_isWord 5 = .ok (.if_icmp .ne 19, 3) := by decide +kernel
theorem dX9_isWord_8 : decode cX9_isWord 8 = .ok (.aload_n 0, 1) := by decide +kernel
theorem dX9_isWord_9 : decode cX9_isWord 9 = .ok (.getfield 154, 3) := by decide +kernel
theorem dX9_isWord_12 : decode cX9_isWord 12 = .ok (.aload_n 0, 1) := by decide +kernel
theorem dX9_isWord_13 : decode cX9_isWord 13 = .ok (.getfield 151, 3) := by decide +kernel
theorem dX9_isWord_16 : decode cX9_isWord 16 = .ok (.isub, 1) := by decide +kernel
theorem dX9_isWord_17 : decode cX9_isWord 17 = .ok (.aload_n 1, 1) := by decide +kernel
theorem dX9_isWord_18 : decode cX9_isWord 18 = .ok (.invokevirtual 179, 3) := by decide +kernel
theorem dX9_isWord_21 : decode cX9_isWord 21 = .ok (.if_icmp .eq 5, 3) := by decide +kernel
theorem dX9_isWord_24 : decode cX9_isWord 24 = .ok (.iconst 0, 1) := by decide +kernel
theorem dX9_isWord_25 : decode cX9_isWord 25 = .ok (.ireturn, 1) := by decide +kernel
theorem dX9_isWord_26 : decode cX9_isWord 26 = .ok (.iconst 0, 1) := by decide +kernel
theorem dX9_isWord_27 : decode cX9_isWord 27 = .ok (.istore_n 2, 1) := by decide +kernel
theorem dX9_isWord_28 : decode cX9_isWord 28 = .ok (.iload_n 2, 1) := by decide +kernel
theorem dX9_isWord_29 : decode cX9_isWord 29 = .ok (.aload_n 1, 1) := by decide +kernel
theorem dX9_isWord_30 : decode cX9_isWord 30 = .ok (.invokevirtual 179, 3) := by decide +kernel
theorem dX9_isWord_33 : decode cX9_isWord 33 = .ok (.if_icmp .ge 29, 3) := by decide +kernel
theorem dX9_isWord_36 : decode cX9_isWord 36 = .ok (.aload_n 0, 1) := by decide +kernel
theorem dX9_isWord_37 : decode cX9_isWord 37 = .ok (.aload_n 0, 1) := by decide +kernel
theorem dX9_isWord_38 : decode cX9_isWord 38 = .ok (.getfield 151, 3) := by decide +kernel
theorem dX9_isWord_41 : decode cX9_isWord 41 = .ok (.iload_n 2, 1) := by decide +kernel
theorem dX9_isWord_42 : decode cX9_isWord 42 = .ok (.iadd, 1) := by decide +kernel
theorem dX9_isWord_43 : decode cX9_isWord 43 = .ok (.invokevirtual 157, 3) := by decide +kernel
theorem dX9_isWord_46 : decode cX9_isWord 46 = .ok (.aload_n 1, 1) := by decide +kernel
theorem dX9_isWord_47 : decode cX9_isWord 47 = .ok (.iload_n 2, 1) := by decide +kernel
theorem dX9_isWord_48 : decode cX9_isWord 48 = .ok (.invokevirtual 184, 3) := by decide +kernel
theorem dX9_isWord_51 : decode cX9_isWord 51 = .ok (.if_icmp .eq 5, 3) := by decide +kernel
theorem dX9_isWord_54 : decode cX9_isWord 54 = .ok (.iconst 0, 1) := by decide +kernel
theorem dX9_isWord_55 : decode cX9_isWord 55 = .ok (.ireturn, 1) := by decide +kernel
theorem dX9_isWord_56 : decode cX9_isWord 56 = .ok (.iinc 2 1, 3) := by decide +kernel
theorem dX9_isWord_59 : decode cX9_isWord 59 = .ok (.goto (-31), 3) := by decide +kernel
theorem dX9_isWord_62 : decode cX9_isWord 62 = .ok (.iconst 1, 1) := by decide +kernel
theorem dX9_isWord_63 : decode cX9_isWord 63 = .ok (.ireturn, 1) := by decide +kernel
theorem dX9_parseEnd_0 : decode cX9_parseEnd 0 = .ok (.aload_n 0, 1) := by decide +kernel
theorem dX9_parseEnd_1 : decode cX9_parseEnd 1 = .ok (.aload_n 0, 1) := by decide +kernel
theorem dX9_parseEnd_2 : decode cX9_parseEnd 2 = .ok (.getfield 160, 3) := by decide +kernel
theorem dX9_parseEnd_5 : decode cX9_parseEnd 5 = .ok (.iconst 3, 1) := by decide +kernel
theorem dX9_parseEnd_6 : decode cX9_parseEnd 6 = .ok (.if_icmp .ne 7, 3) := by decide +kernel
theorem dX9_parseEnd_9 : decode cX9_parseEnd 9 = .ok (.iconst 1, 1) := by decide +kernel
theorem dX9_parseEnd_10 : decode cX9_parseEnd 10 = .ok (.goto 4, 3) := by decide +kernel
theorem dX9_parseEnd_13 : decode cX9_parseEnd 13 = .ok (.iconst 0, 1) := by decide +kernel
theorem dX9_parseEnd_14 : decode cX9_parseEnd 14 = .ok (.iconst 1, 1) := by decide +kernel
theorem dX9_parseEnd_15 : decode cX9_parseEnd 15 = .ok (.invokevirtual 188, 3) := by decide +kernel
theorem dX9_parseEnd_18 : decode cX9_parseEnd 18 = .ok (.aload_n 0, 1) := by decide +kernel
theorem dX9_parseEnd_19 : decode cX9_parseEnd 19 = .ok (.invokevirtual 176, 3) := by decide +kernel
theorem dX9_parseEnd_22 : decode cX9_parseEnd 22 = .ok (.return_, 1) := by decide +kernel
theorem dX9_parseNumber_0 : decode cX9_parseNumber 0 = .ok (.aload_n 0, 1) := by decide +kernel
theorem dX9_parseNumber_1 : decode cX9_parseNumber 1 = .ok (.aload_n 0, 1) := by decide +kernel
theorem dX9_parseNumber_2 : decode cX9_parseNumber 2 = .ok (.getfield 160, 3) := by decide +kernel
theorem dX9_parseNumber_5 : decode cX9_parseNumber 5 = .ok (.iconst 2, 1) := by decide +kernel
theorem dX9_parseNumber_6 : decode cX9_parseNumber 6 = .ok (.if_icmp .ne 7, 3) := by decide +kernel
theorem dX9_parseNumber_9 : decode cX9_parseNumber 9 = .ok (.iconst 1, 1) := by decide +kernel
theorem dX9_parseNumber_10 : decode cX9_parseNumber 10 = .ok (.goto 4, 3) := by decide +kernel
theorem dX9_parseNumber_13 : decode cX9_parseNumber 13 = .ok (.iconst 0, 1) := by decide +kernel
theorem dX9_parseNumber_14 : decode cX9_parseNumber 14 = .ok (.iconst 1, 1) := by decide +kernel
theorem dX9_parseNumber_15 : decode cX9_parseNumber 15 = .ok (.invokevirtual 188, 3) := by decide +kernel
theorem dX9_parseNumber_18 : decode cX9_parseNumber 18 = .ok (.aload_n 0, 1) := by decide +kernel
theorem dX9_parseNumber_19 : decode cX9_parseNumber 19 = .ok (.aload_n 0, 1) := by decide +kernel
theorem dX9_parseNumber_20 : decode cX9_parseNumber 20 = .ok (.getfield 160, 3) := by decide +kernel
theorem dX9_parseNumber_23 : decode cX9_parseNumber 23 = .ok (.iconst 2, 1) := by decide +kernel
theorem dX9_parseNumber_24 : decode cX9_parseNumber 24 = .ok (.if_icmp .ne 15, 3) := by decide +kernel
theorem dX9_parseNumber_27 : decode cX9_parseNumber 27 = .ok (.aload_n 0, 1) := by decide +kernel
theorem dX9_parseNumber_28 : decode cX9_parseNumber 28 = .ok (.getfield 169, 3) := by decide +kernel
theorem dX9_parseNumber_31 : decode cX9_parseNumber 31 = .ok (.iload_n 1, 1) := by decide +kernel
theorem dX9_parseNumber_32 : decode cX9_parseNumber 32 = .ok (.iload_n 2, 1) := by decide +kernel
theorem dX9_parseNumber_33 : decode cX9_parseNumber 33 = .ok (.invokestatic 68, 3) := by decide +kernel
theorem dX9_parseNumber_36 : decode cX9_parseNumber 36 = .ok (.ifCond .eq 7, 3) := by decide +kernel
theorem dX9_parseNumber_39 : decode cX9_parseNumber 39 = .ok (.iconst 1, 1) := by decide +kernel
theorem dX9_parseNumber_40 : decode cX9_parseNumber 40 = .ok (.goto 4, 3) := by decide +kernel
theorem dX9_parseNumber_43 : decode cX9_parseNumber 43 = .ok (.iconst 0, 1) := by decide +kernel
theorem dX9_parseNumber_44 : decode cX9_parseNumber 44 = .ok (.iconst 2, 1) := by decide +kernel
theorem dX9_parseNumber_45 : decode cX9_parseNumber 45 = .ok (.invokevirtual 188, 3) := by decide +kernel
theorem dX9_parseNumber_48 : decode cX9_parseNumber 48 = .ok (.aload_n 0, 1) := by decide +kernel
theorem dX9_parseNumber_49 : decode cX9_parseNumber 49 = .ok (.invokevirtual 147, 3) := by decide +kernel
theorem dX9_parseNumber_52 : decode cX9_parseNumber 52 = .ok (.ifCond .eq 10, 3) := by decide +kernel
theorem dX9_parseNumber_55 : decode cX9_parseNumber 55 = .ok (.aload_n 0, 1) := by decide +kernel
theorem dX9_parseNumber_56 : decode cX9_parseNumber 56 = .ok (.getfield 169, 3) := by decide +kernel
theorem dX9_parseNumber_59 : decode cX9_parseNumber 59 = .ok (.goto 4, 3) := by decide +kernel
theorem dX9_parseNumber_62 : decode cX9_parseNumber 62 = .ok (.iload_n 1, 1) := by decide +kernel
theorem dX9_parseNumber_63 : decode cX9_parseNumber 63 = .ok (.istore_n 3, 1) := by decide +kernel
theorem dX9_parseNumber_64 : decode cX9_parseNumber 64 = .ok (.aload_n 0, 1) := by decide +kernel
theorem dX9_parseNumber_65 : decode cX9_parseNumber 65 = .ok (.invokevirtual 176, 3) := by decide +kernel
theorem dX9_parseNumber_68 : decode cX9_parseNumber 68 = .ok (.iload_n 3, 1) := by decide +kernel
theorem dX9_parseNumber_69 : decode cX9_parseNumber 69 = .ok (.ireturn, 1) := by decide +kernel
theorem dX9_parseRange_0 : decode cX9_parseRange 0 = .ok (.aload_n 0, 1) := by decide +kernel
theorem dX9_parseRange_1 : decode cX9_parseRange 1 = .ok (.invokevirtual 147, 3) := by decide +kernel
theorem dX9_parseRange_4 : decode cX9_parseRange 4 = .ok (.ifCond .eq 12, 3) := by decide +kernel
theorem dX9_parseRange_7 : decode cX9_parseRange 7 = .ok (.aload_n 0, 1) := by decide +kernel
theorem dX9_parseRange_8 : decode cX9_parseRange 8 = .ok (.iload_n 1, 1) := by decide +kernel
theorem dX9_parseRange_9 : decode cX9_parseRange 9 = .ok (.iload_n 2, 1) := by decide +kernel
theorem dX9_parseRange_10 : decode cX9_parseRange 10 = .ok (.invokevirtual 192, 3) := by decide +kernel
theorem dX9_parseRange_13 : decode cX9_parseRange 13 = .ok (.goto 4, 3) := by decide +kernel
theorem dX9_parseRange_16 : decode cX9_parseRange 16 = .ok (.iload_n 1, 1) := by decide +kernel
theorem dX9_parseRange_17 : decode cX9_parseRange 17 = .ok (.ireturn, 1) := by decide +kernel
theorem dX9_parseWord_0 : decode cX9_parseWord 0 = .ok (.aload_n 0, 1) := by decide +kernel
theorem dX9_parseWord_1 : decode cX9_parseWord 1 = .ok (.aload_n 0, 1) := by decide +kernel
theorem dX9_parseWord_2 : decode cX9_parseWord 2 = .ok (.aload_n 1, 1) := by decide +kernel
theorem dX9_parseWord_3 : decode cX9_parseWord 3 = .ok (.invokevirtual 195, 3) := by decide +kernel
theorem dX9_parseWord_6 : decode cX9_parseWord 6 = .ok (.iconst 1, 1) := by decide +kernel
theorem dX9_parseWord_7 : decode cX9_parseWord 7 = .ok (.invokevirtual 188, 3) := by decide +kernel
theorem dX9_parseWord_10 : decode cX9_parseWord 10 = .ok (.aload_n 0, 1) := by decide +kernel
theorem dX9_parseWord_11 : decode cX9_parseWord 11 = .ok (.invokevirtual 176, 3) := by decide +kernel
theorem dX9_parseWord_14 : decode cX9_parseWord 14 = .ok (.return_, 1) := by decide +kernel
theorem dX9_parseOneOf_0 : decode cX9_parseOneOf 0 = .ok (.aload_n 0, 1) := by decide +kernel
theorem dX9_parseOneOf_1 : decode cX9_parseOneOf 1 = .ok (.aload_n 0, 1) := by decide +kernel
theorem dX9_parseOneOf_2 : decode cX9_parseOneOf 2 = .ok (.getfield 160, 3) := by decide +kernel
theorem dX9_parseOneOf_5 : decode cX9_parseOneOf 5 = .ok (.iconst 2, 1) := by decide +kernel
theorem dX9_parseOneOf_6 : decode cX9_parseOneOf 6 = .ok (.if_icmp .ne 7, 3) := by decide +kernel
theorem dX9_parseOneOf_9 : decode cX9_parseOneOf 9 = .ok (.iconst 1, 1) := by decide +kernel
theorem dX9_parseOneOf_10 : decode cX9_parseOneOf 10 = .ok (.goto 4, 3) := by decide +kernel
theorem dX9_parseOneOf_13 : decode cX9_parseOneOf 13 = .ok (.iconst 0, 1) := by decide +kernel
theorem dX9_parseOneOf_14 : decode cX9_parseOneOf 14 = .ok (.iconst 1, 1) := by decide +kernel
theorem dX9_parseOneOf_15 : decode cX9_parseOneOf 15 = .ok (.invokevirtual 188, 3) := by decide +kernel
theorem dX9_parseOneOf_18 : decode cX9_parseOneOf 18 = .ok (.aload_n 0, 1) := by decide +kernel
theorem dX9_parseOneOf_19 : decode cX9_parseOneOf 19 = .ok (.aload_n 0, 1) := by decide +kernel
theorem dX9_parseOneOf_20 : decode cX9_parseOneOf 20 = .ok (.getfield 169, 3) := by decide +kernel
theorem dX9_parseOneOf_23 : decode cX9_parseOneOf 23 = .ok (.iload_n 3, 1) := by decide +kernel
theorem dX9_parseOneOf_24 : decode cX9_parseOneOf 24 = .ok (.iload 4, 2) := by decide +kernel
theorem dX9_parseOneOf_26 : decode cX9_parseOneOf 26 = .ok (.invokestatic 68, 3) := by decide +kernel
theorem dX9_parseOneOf_29 : decode cX9_parseOneOf 29 = .ok (.iconst 2, 1) := by decide +kernel
theorem dX9_parseOneOf_30 : decode cX9_parseOneOf 30 = .ok (.invokevirtual 188, 3) := by decide +kernel
theorem dX9_parseOneOf_33 : decode cX9_parseOneOf 33 = .ok (.aload_n 0, 1) := by decide +kernel
theorem dX9_parseOneOf_34 : decode cX9_parseOneOf 34 = .ok (.aload_n 0, 1) := by decide +kernel
theorem dX9_parseOneOf_35 : decode cX9_parseOneOf 35 = .ok (.getfield 7, 3) := by decide +kernel
theorem dX9_parseOneOf_38 : decode cX9_parseOneOf 38 = .ok (.iload_n 1, 1) := by decide +kernel
theorem dX9_parseOneOf_39 : decode cX9_parseOneOf 39 = .ok (.iaload, 1) := by decide +kernel
theorem dX9_parseOneOf_40 : decode cX9_parseOneOf 40 = .ok (.bipush 12, 2) := by decide +kernel
theorem dX9_parseOneOf_42 : decode cX9_parseOneOf 42 = .ok (.if_icmp .ge 7, 3) := by decide +kernel
theorem dX9_parseOneOf_45 : decode cX9_parseOneOf 45 = .ok (.iconst 1, 1) := by decide +kernel
theorem dX9_parseOneOf_46 : decode cX9_parseOneOf 46 = .ok (.goto 4, 3) := by decide +kernel
theorem dX9_parseOneOf_49 : decode cX9_parseOneOf 49 = .ok (.iconst 0, 1) := by decide +kernel
theorem dX9_parseOneOf_50 : decode cX9_parseOneOf 50 = .ok (.iconst 3, 1) := by decide +kernel
theorem dX9_parseOneOf_51 : decode cX9_parseOneOf 51 = .ok (.invokevirtual 188, 3) := by decide +kernel
theorem dX9_parseOneOf_54 : decode cX9_parseOneOf 54 = .ok (.aload_n 0, 1) := by decide +kernel
theorem dX9_parseOneOf_55 : decode cX9_parseOneOf 55 = .ok (.invokevirtual 147, 3) := by decide +kernel
theorem dX9_parseOneOf_58 : decode cX9_parseOneOf 58 = .ok (.ifCond .eq 30, 3) := by decide +kernel
theorem dX9_parseOneOf_61 : decode cX9_parseOneOf 61 = .ok (.aload_n 0, 1) := by decide +kernel
theorem dX9_parseOneOf_62 : decode cX9_parseOneOf 62 = .ok (.getfield 7, 3) := by decide +kernel
theorem dX9_parseOneOf_65 : decode cX9_parseOneOf 65 = .ok (.iload_n 2, 1) := by decide +kernel
theorem dX9_parseOneOf_66 : decode cX9_parseOneOf 66 = .ok (.aload_n 0, 1) := by decide +kernel
theorem dX9_parseOneOf_67 : decode cX9_parseOneOf 67 = .ok (.getfield 7, 3) := by decide +kernel
theorem dX9_parseOneOf_70 : decode cX9_parseOneOf 70 = .ok (.iload_n 1, 1) := by decide +kernel
theorem dX9_parseOneOf_71 : decode cX9_parseOneOf 71 = .ok (.iaload, 1) := by decide +kernel
theorem dX9_parseOneOf_72 : decode cX9_parseOneOf 72 = .ok (.iadd, 1) := by decide +kernel
theorem dX9_parseOneOf_73 : decode cX9_parseOneOf 73 = .ok (.aload_n 0, 1) := by decide +kernel
theorem dX9_parseOneOf_74 : decode cX9_parseOneOf 74 = .ok (.getfield 169, 3) := by decide +kernel
theorem dX9_parseOneOf_77 : decode cX9_parseOneOf 77 = .ok (.iastore, 1) := by decide +kernel
theorem dX9_parseOneOf_78 : decode cX9_parseOneOf 78 = .ok (.aload_n 0, 1) := by decide +kernel
theorem dX9_parseOneOf_79 : decode cX9_parseOneOf 79 = .ok (.getfield 7, 3) := by decide +kernel
theorem dX9_parseOneOf_82 : decode cX9_parseOneOf 82 = .ok (.iload_n 1, 1) := by decide +kernel
theorem dX9_parseOneOf_83 : decode cX9_parseOneOf 83 = .ok (.dup2, 1) := by decide +kernel
theorem dX9_parseOneOf_84 : decode cX9_parseOneOf 84 = .ok (.iaload, 1) := by decide +kernel
theorem dX9_parseOneOf_85 : decode cX9_parseOneOf 85 = .ok (.iconst 1, 1) := by decide +kernel
theorem dX9_parseOneOf_86 : decode cX9_parseOneOf 86 = .ok (.iadd, 1) := by decide +kernel
theorem dX9_parseOneOf_87 : decode cX9_parseOneOf 87 = .ok (.iastore, 1) := by decide +kernel
theorem dX9_parseOneOf_88 : decode cX9_parseOneOf 88 = .ok (.aload_n 0, 1) := by decide +kernel
theorem dX9_parseOneOf_89 : decode cX9_parseOneOf 89 = .ok (.invokevirtual 176, 3) := by decide +kernel
theorem dX9_parseOneOf_92 : decode cX9_parseOneOf 92 = .ok (.return_, 1) := by decide +kernel
theorem dX9_parseRow_0 : decode cX9_parseRow 0 = .ok (.aload_n 0, 1) := by decide +kernel
theorem dX9_parseRow_1 : decode cX9_parseRow 1 = .ok (.invokevirtual 147, 3) := by decide +kernel
theorem dX9_parseRow_4 : decode cX9_parseRow 4 = .ok (.ifCond .eq 34, 3) := by decide +kernel
theorem dX9_parseRow_7 : decode cX9_parseRow 7 = .ok (.aload_n 0, 1) := by decide +kernel
theorem dX9_parseRow_8 : decode cX9_parseRow 8 = .ok (.getfield 7, 3) := by decide +kernel
theorem dX9_parseRow_11 : decode cX9_parseRow 11 = .ok (.iload_n 1, 1) := by decide +kernel
theorem dX9_parseRow_12 : decode cX9_parseRow 12 = .ok (.iaload, 1) := by decide +kernel
theorem dX9_parseRow_13 : decode cX9_parseRow 13 = .ok (.iload 5, 2) := by decide +kernel
theorem dX9_parseRow_15 : decode cX9_parseRow 15 = .ok (.if_icmp .lt 11, 3) := by decide +kernel
theorem dX9_parseRow_18 : decode cX9_parseRow 18 = .ok (.aload_n 0, 1) := by decide +kernel
theorem dX9_parseRow_19 : decode cX9_parseRow 19 = .ok (.getfield 160, 3) := by decide +kernel
theorem dX9_parseRow_22 : decode cX9_parseRow 22 = .ok (.iconst 3, 1) := by decide +kernel
theorem dX9_parseRow_23 : decode cX9_parseRow 23 = .ok (.if_icmp .eq 15, 3) := by decide +kernel
theorem dX9_parseRow_26 : decode cX9_parseRow 26 = .ok (.aload_n 0, 1) := by decide +kernel
theorem dX9_parseRow_27 : decode cX9_parseRow 27 = .ok (.iload_n 1, 1) := by decide +kernel
theorem dX9_parseRow_28 : decode cX9_parseRow 28 = .ok (.iload_n 2, 1) := by decide +kernel
theorem dX9_parseRow_29 : decode cX9_parseRow 29 = .ok (.iload_n 3, 1) := by decide +kernel
theorem dX9_parseRow_30 : decode cX9_parseRow 30 = .ok (.iload 4, 2) := by decide +kernel
theorem dX9_parseRow_32 : decode cX9_parseRow 32 = .ok (.invokevirtual 199, 3) := by decide +kernel
theorem dX9_parseRow_35 : decode cX9_parseRow 35 = .ok (.goto (-35), 3) := by decide +kernel
theorem dX9_parseRow_38 : decode cX9_parseRow 38 = .ok (.aload_n 0, 1) := by decide +kernel
theorem dX9_parseRow_39 : decode cX9_parseRow 39 = .ok (.invokevirtual 202, 3) := by decide +kernel
theorem dX9_parseRow_42 : decode cX9_parseRow 42 = .ok (.return_, 1) := by decide +kernel
theorem dX9_parseHiker_0 : decode cX9_parseHiker 0 = .ok (.aload_n 0, 1) := by decide +kernel
theorem dX9_parseHiker_1 : decode cX9_parseHiker 1 = .ok (.aload_n 0, 1) := by decide +kernel
theorem dX9_parseHiker_2 : decode cX9_parseHiker 2 = .ok (.ldc 205, 2) := by decide +kernel
theorem dX9_parseHiker_4 : decode cX9_parseHiker 4 = .ok (.invokevirtual 195, 3) := by decide +kernel
theorem dX9_parseHiker_7 : decode cX9_parseHiker 7 = .ok (.iconst 1, 1) := by decide +kernel
theorem dX9_parseHiker_8 : decode cX9_parseHiker 8 = .ok (.invokevirtual 188, 3) := by decide +kernel
theorem dX9_parseHiker_11 : decode cX9_parseHiker 11 = .ok (.aload_n 0, 1) := by decide +kernel
theorem dX9_parseHiker_12 : decode cX9_parseHiker 12 = .ok (.aload_n 0, 1) := by decide +kernel
theorem dX9_parseHiker_13 : decode cX9_parseHiker 13 = .ok (.getfield 7, 3) := by decide +kernel
theorem dX9_parseHiker_16 : decode cX9_parseHiker 16 = .ok (.bipush 12, 2) := by decide +kernel
theorem dX9_parseHiker_18 : decode cX9_parseHiker 18 = .ok (.iaload, 1) := by decide +kernel
theorem dX9_parseHiker_19 : decode cX9_parseHiker 19 = .ok (.bipush 10, 2) := by decide +kernel
theorem dX9_parseHiker_21 : decode cX9_parseHiker 21 = .ok (.if_icmp .ge 7, 3) := by decide +kernel
theorem dX9_parseHiker_24 : decode cX9_parseHiker 24 = .ok (.iconst 1, 1) := by decide +kernel
theorem dX9_parseHiker_25 : decode cX9_parseHiker 25 = .ok (.goto 4, 3) := by decide +kernel
theorem dX9_parseHiker_28 : decode cX9_parseHiker 28 = .ok (.iconst 0, 1) := by decide +kernel
theorem dX9_parseHiker_29 : decode cX9_parseHiker 29 = .ok (.iconst 3, 1) := by decide +kernel
theorem dX9_parseHiker_30 : decode cX9_parseHiker 30 = .ok (.invokevirtual 188, 3) := by decide +kernel
theorem dX9_parseHiker_33 : decode cX9_parseHiker 33 = .ok (.aload_n 0, 1) := by decide +kernel
theorem dX9_parseHiker_34 : decode cX9_parseHiker 34 = .ok (.invokevirtual 176, 3) := by decide +kernel
theorem dX9_parseHiker_37 : decode cX9_parseHiker 37 = .ok (.aload_n 0, 1) := by decide +kernel
theorem dX9_parseHiker_38 : decode cX9_parseHiker 38 = .ok (.iconst 1, 1) := by decide +kernel
theorem dX9_parseHiker_39 : decode cX9_parseHiker 39 = .ok (.bipush 30, 2) := by decide +kernel
theorem dX9_parseHiker_41 : decode cX9_parseHiker 41 = .ok (.invokevirtual 207, 3) := by decide +kernel
theorem dX9_parseHiker_44 : decode cX9_parseHiker 44 = .ok (.istore_n 1, 1) := by decide +kernel
theorem dX9_parseHiker_45 : decode cX9_parseHiker 45 = .ok (.aload_n 0, 1) := by decide +kernel
theorem dX9_parseHiker_46 : decode cX9_parseHiker 46 = .ok (.iconst 0, 1) := by decide +kernel
theorem dX9_parseHiker_47 : decode cX9_parseHiker 47 = .ok (.bipush 9, 2) := by decide +kernel
theorem dX9_parseHiker_49 : decode cX9_parseHiker 49 = .ok (.invokevirtual 207, 3) := by decide +kernel
theorem dX9_parseHiker_52 : decode cX9_parseHiker 52 = .ok (.istore_n 2, 1) := by decide +kernel
theorem dX9_parseHiker_53 : decode cX9_parseHiker 53 = .ok (.aload_n 0, 1) := by decide +kernel
theorem dX9_parseHiker_54 : decode cX9_parseHiker 54 = .ok (.iconst 0, 1) := by decide +kernel
theorem dX9_parseHiker_55 : decode cX9_parseHiker 55 = .ok (.bipush 99, 2) := by decide +kernel
theorem dX9_parseHiker_57 : decode cX9_parseHiker 57 = .ok (.invokevirtual 207, 3) := by decide +kernel
theorem dX9_parseHiker_60 : decode cX9_parseHiker 60 = .ok (.istore_n 3, 1) := by decide +kernel
theorem dX9_parseHiker_61 : decode cX9_parseHiker 61 = .ok (.aload_n 0, 1) := by decide +kernel
theorem dX9_parseHiker_62 : decode cX9_parseHiker 62 = .ok (.invokevirtual 202, 3) := by decide +kernel
theorem dX9_parseHiker_65 : decode cX9_parseHiker 65 = .ok (.aload_n 0, 1) := by decide +kernel
theorem dX9_parseHiker_66 : decode cX9_parseHiker 66 = .ok (.invokevirtual 147, 3) := by decide +kernel
theorem dX9_parseHiker_69 : decode cX9_parseHiker 69 = .ok (.ifCond .eq 10, 3) := by decide +kernel
theorem dX9_parseHiker_72 : decode cX9_parseHiker 72 = .ok (.aload_n 0, 1) := by decide +kernel
theorem dX9_parseHiker_73 : decode cX9_parseHiker 73 = .ok (.iload_n 1, 1) := by decide +kernel
theorem dX9_parseHiker_74 : decode cX9_parseHiker 74 = .ok (.iload_n 2, 1) := by decide +kernel
theorem dX9_parseHiker_75 : decode cX9_parseHiker 75 = .ok (.iload_n 3, 1) := by decide +kernel
theorem dX9_parseHiker_76 : decode cX9_parseHiker 76 = .ok (.invokevirtual 50, 3) := by decide +kernel
theorem dX9_parseHiker_79 : decode cX9_parseHiker 79 = .ok (.return_, 1) := by decide +kernel
theorem dX9_parseHut_0 : decode cX9_parseHut 0 = .ok (.aload_n 0, 1) := by decide +kernel
theorem dX9_parseHut_1 : decode cX9_parseHut 1 = .ok (.ldc 210, 2) := by decide +kernel
theorem dX9_parseHut_3 : decode cX9_parseHut 3 = .ok (.invokevirtual 212, 3) := by decide +kernel
theorem dX9_parseHut_6 : decode cX9_parseHut 6 = .ok (.aload_n 0, 1) := by decide +kernel
theorem dX9_parseHut_7 : decode cX9_parseHut 7 = .ok (.getfield 7, 3) := by decide +kernel
theorem dX9_parseHut_10 : decode cX9_parseHut 10 = .ok (.iconst 0, 1) := by decide +kernel
theorem dX9_parseHut_11 : decode cX9_parseHut 11 = .ok (.aload_n 0, 1) := by decide +kernel
theorem dX9_parseHut_12 : decode cX9_parseHut 12 = .ok (.iconst 0, 1) := by decide +kernel
theorem dX9_parseHut_13 : decode cX9_parseHut 13 = .ok (.bipush 99, 2) := by decide +kernel
theorem dX9_parseHut_15 : decode cX9_parseHut 15 = .ok (.invokevirtual 207, 3) := by decide +kernel
theorem dX9_parseHut_18 : decode cX9_parseHut 18 = .ok (.iastore, 1) := by decide +kernel
theorem dX9_parseHut_19 : decode cX9_parseHut 19 = .ok (.aload_n 0, 1) := by decide +kernel
theorem dX9_parseHut_20 : decode cX9_parseHut 20 = .ok (.getfield 7, 3) := by decide +kernel
theorem dX9_parseHut_23 : decode cX9_parseHut 23 = .ok (.bipush 8, 2) := by decide +kernel
theorem dX9_parseHut_25 : decode cX9_parseHut 25 = .ok (.aload_n 0, 1) := by decide +kernel
theorem dX9_parseHut_26 : decode cX9_parseHut 26 = .ok (.getfield 7, 3) := by decide +kernel
theorem dX9_parseHut_29 : decode cX9_parseHut 29 = .ok (.iconst 0, 1) := by decide +kernel
theorem dX9_parseHut_30 : decode cX9_parseHut 30 = .ok (.iaload, 1) := by decide +kernel
theorem dX9_parseHut_31 : decode cX9_parseHut 31 = .ok (.iastore, 1) := by decide +kernel
theorem dX9_parseHut_32 : decode cX9_parseHut 32 = .ok (.aload_n 0, 1) := by decide +kernel
theorem dX9_parseHut_33 : decode cX9_parseHut 33 = .ok (.invokevirtual 202, 3) := by decide +kernel
theorem dX9_parseHut_36 : decode cX9_parseHut 36 = .ok (.aload_n 0, 1) := by decide +kernel
theorem dX9_parseHut_37 : decode cX9_parseHut 37 = .ok (.ldc 216, 2) := by decide +kernel
theorem dX9_parseHut_39 : decode cX9_parseHut 39 = .ok (.invokevirtual 212, 3) := by decide +kernel
theorem dX9_parseHut_42 : decode cX9_parseHut 42 = .ok (.aload_n 0, 1) := by decide +kernel
theorem dX9_parseHut_43 : decode cX9_parseHut 43 = .ok (.bipush 9, 2) := by decide +kernel
theorem dX9_parseHut_45 : decode cX9_parseHut 45 = .ok (.bipush 13, 2) := by decide +kernel
theorem dX9_parseHut_47 : decode cX9_parseHut 47 = .ok (.iconst 0, 1) := by decide +kernel
theorem dX9_parseHut_48 : decode cX9_parseHut 48 = .ok (.iconst 5, 1) := by decide +kernel
theorem dX9_parseHut_49 : decode cX9_parseHut 49 = .ok (.iconst 1, 1) := by decide +kernel
theorem dX9_parseHut_50 : decode cX9_parseHut 50 = .ok (.invokevirtual 218, 3) := by decide +kernel
theorem dX9_parseHut_53 : decode cX9_parseHut 53 = .ok (.aload_n 0, 1) := by decide +kernel
theorem dX9_parseHut_54 : decode cX9_parseHut 54 = .ok (.ldc 222, 2) := by decide +kernel
theorem dX9_parseHut_56 : decode cX9_parseHut 56 = .ok (.invokevirtual 212, 3) := by decide +kernel
theorem dX9_parseHut_59 : decode cX9_parseHut 59 = .ok (.aload_n 0, 1) := by decide +kernel
theorem dX9_parseHut_60 : decode cX9_parseHut 60 = .ok (.bipush 10, 2) := by decide +kernel
theorem dX9_parseHut_62 : decode cX9_parseHut 62 = .ok (.bipush 25, 2) := by decide +kernel
theorem dX9_parseHut_64 : decode cX9_parseHut 64 = .ok (.iconst 1, 1) := by decide +kernel
theorem dX9_parseHut_65 : decode cX9_parseHut 65 = .ok (.bipush 9, 2) := by decide +kernel
theorem dX9_parseHut_67 : decode cX9_parseHut 67 = .ok (.iconst 0, 1) := by decide +kernel
theorem dX9_parseHut_68 : decode cX9_parseHut 68 = .ok (.invokevirtual 218, 3) := by decide +kernel
theorem dX9_parseHut_71 : decode cX9_parseHut 71 = .ok (.aload_n 0, 1) := by decide +kernel
theorem dX9_parseHut_72 : decode cX9_parseHut 72 = .ok (.ldc 224, 2) := by decide +kernel
theorem dX9_parseHut_74 : decode cX9_parseHut 74 = .ok (.invokevirtual 212, 3) := by decide +kernel
theorem dX9_parseHut_77 : decode cX9_parseHut 77 = .ok (.aload_n 0, 1) := by decide +kernel
theorem dX9_parseHut_78 : decode cX9_parseHut 78 = .ok (.bipush 11, 2) := by decide +kernel
theorem dX9_parseHut_80 : decode cX9_parseHut 80 = .ok (.bipush 37, 2) := by decide +kernel
theorem dX9_parseHut_82 : decode cX9_parseHut 82 = .ok (.iconst 0, 1) := by decide +kernel
theorem dX9_parseHut_83 : decode cX9_parseHut 83 = .ok (.bipush 20, 2) := by decide +kernel
theorem dX9_parseHut_85 : decode cX9_parseHut 85 = .ok (.iconst 1, 1) := by decide +kernel
theorem dX9_parseHut_86 : decode cX9_parseHut 86 = .ok (.invokevirtual 218, 3) := by decide +kernel
theorem dX9_parseHut_89 : decode cX9_parseHut 89 = .ok (.aload_n 0, 1) := by decide +kernel
theorem dX9_parseHut_90 : decode cX9_parseHut 90 = .ok (.invokevirtual 147, 3) := by decide +kernel
theorem dX9_parseHut_93 : decode cX9_parseHut 93 = .ok (.ifCond .eq 27, 3) := by decide +kernel
theorem dX9_parseHut_96 : decode cX9_parseHut 96 = .ok (.aload_n 0, 1) := by decide +kernel
theorem dX9_parseHut_97 : decode cX9_parseHut 97 = .ok (.getfield 7, 3) := by decide +kernel
theorem dX9_parseHut_100 : decode cX9_parseHut 100 = .ok (.bipush 12, 2) := by decide +kernel
theorem dX9_parseHut_102 : decode cX9_parseHut 102 = .ok (.iaload, 1) := by decide +kernel
theorem dX9_parseHut_103 : decode cX9_parseHut 103 = .ok (.ifCond .eq 10, 3) := by decide +kernel
theorem dX9_parseHut_106 : decode cX9_parseHut 106 = .ok (.aload_n 0, 1) := by decide +kernel
theorem dX9_parseHut_107 : decode cX9_parseHut 107 = .ok (.getfield 160, 3) := by decide +kernel
theorem dX9_parseHut_110 : decode cX9_parseHut 110 = .ok (.ifCond .eq 10, 3) := by decide +kernel
theorem dX9_parseHut_113 : decode cX9_parseHut 113 = .ok (.aload_n 0, 1) := by decide +kernel
theorem dX9_parseHut_114 : decode cX9_parseHut 114 = .ok (.invokevirtual 226, 3) := by decide +kernel
theorem dX9_parseHut_117 : decode cX9_parseHut 117 = .ok (.goto (-28), 3) := by decide +kernel
theorem dX9_parseHut_120 : decode cX9_parseHut 120 = .ok (.return_, 1) := by decide +kernel
theorem dX9_loadSetup_0 : decode cX9_loadSetup 0 = .ok (.aload_n 0, 1) := by decide +kernel
theorem dX9_loadSetup_1 : decode cX9_loadSetup 1 = .ok (.iconst 0, 1) := by decide +kernel
theorem dX9_loadSetup_2 : decode cX9_loadSetup 2 = .ok (.putfield 57, 3) := by decide +kernel
theorem dX9_loadSetup_5 : decode cX9_loadSetup 5 = .ok (.aload_n 0, 1) := by decide +kernel
theorem dX9_loadSetup_6 : decode cX9_loadSetup 6 = .ok (.invokevirtual 229, 3) := by decide +kernel
theorem dX9_loadSetup_9 : decode cX9_loadSetup 9 = .ok (.aload_n 0, 1) := by decide +kernel
theorem dX9_loadSetup_10 : decode cX9_loadSetup 10 = .ok (.invokevirtual 232, 3) := by decide +kernel
theorem dX9_loadSetup_13 : decode cX9_loadSetup 13 = .ok (.iconst 0, 1) := by decide +kernel
theorem dX9_loadSetup_14 : decode cX9_loadSetup 14 = .ok (.istore_n 1, 1) := by decide +kernel
theorem dX9_loadSetup_15 : decode cX9_loadSetup 15 = .ok (.iload_n 1, 1) := by decide +kernel
theorem dX9_loadSetup_16 : decode cX9_loadSetup 16 = .ok (.sipush 149, 3) := by decide +kernel
theorem dX9_loadSetup_19 : decode cX9_loadSetup 19 = .ok (.if_icmp .ge 16, 3) := by decide +kernel
theorem dX9_loadSetup_22 : decode cX9_loadSetup 22 = .ok (.aload_n 0, 1) := by decide +kernel
theorem dX9_loadSetup_23 : decode cX9_loadSetup 23 = .ok (.getfield 7, 3) := by decide +kernel
theorem dX9_loadSetup_26 : decode cX9_loadSetup 26 = .ok (.iload_n 1, 1) := by decide +kernel
theorem dX9_loadSetup_27 : decode cX9_loadSetup 27 = .ok (.iconst 0, 1) := by decide +kernel
theorem dX9_loadSetup_28 : decode cX9_loadSetup 28 = .ok (.iastore, 1) := by decide +kernel
theorem dX9_loadSetup_29 : decode cX9_loadSetup 29 = .ok (.iinc 1 1, 3) := by decide +kernel
theorem dX9_loadSetup_32 : decode cX9_loadSetup 32 = .ok (.goto (-17), 3) := by decide +kernel
theorem dX9_loadSetup_35 : decode cX9_loadSetup 35 = .ok (.aload_n 0, 1) := by decide +kernel
theorem dX9_loadSetup_36 : decode cX9_loadSetup 36 = .ok (.invokevirtual 235, 3) := by decide +kernel
theorem dX9_loadSetup_39 : decode cX9_loadSetup 39 = .ok (.aload_n 0, 1) := by decide +kernel
theorem dX9_loadSetup_40 : decode cX9_loadSetup 40 = .ok (.iconst 0, 1) := by decide +kernel
theorem dX9_loadSetup_41 : decode cX9_loadSetup 41 = .ok (.putfield 138, 3) := by decide +kernel
theorem dX9_loadSetup_44 : decode cX9_loadSetup 44 = .ok (.aload_n 0, 1) := by decide +kernel
theorem dX9_loadSetup_45 : decode cX9_loadSetup 45 = .ok (.invokevirtual 147, 3) := by decide +kernel
theorem dX9_loadSetup_48 : decode cX9_loadSetup 48 = .ok (.ifCond .ne 9, 3) := by decide +kernel
theorem dX9_loadSetup_51 : decode cX9_loadSetup 51 = .ok (.aload_n 0, 1) := by decide +kernel
theorem dX9_loadSetup_52 : decode cX9_loadSetup 52 = .ok (.iconst (-1), 1) := by decide +kernel
theorem dX9_loadSetup_53 : decode cX9_loadSetup 53 = .ok (.invokevirtual 238, 3) := by decide +kernel
theorem dX9_loadSetup_56 : decode cX9_loadSetup 56 = .ok (.ireturn, 1) := by decide +kernel
theorem dX9_loadSetup_57 : decode cX9_loadSetup 57 = .ok (.aload_n 0, 1) := by decide +kernel
theorem dX9_loadSetup_58 : decode cX9_loadSetup 58 = .ok (.iconst 0, 1) := by decide +kernel
theorem dX9_loadSetup_59 : decode cX9_loadSetup 59 = .ok (.putfield 241, 3) := by decide +kernel
theorem dX9_loadSetup_62 : decode cX9_loadSetup 62 = .ok (.aload_n 0, 1) := by decide +kernel
theorem dX9_loadSetup_63 : decode cX9_loadSetup 63 = .ok (.getfield 7, 3) := by decide +kernel
theorem dX9_loadSetup_66 : decode cX9_loadSetup 66 = .ok (.bipush 12, 2) := by decide +kernel
theorem dX9_loadSetup_68 : decode cX9_loadSetup 68 = .ok (.iaload, 1) := by decide +kernel
theorem dX9_loadSetup_69 : decode cX9_loadSetup 69 = .ok (.ireturn, 1) := by decide +kernel
theorem dX9_commandHere_0 : decode cX9_commandHere 0 = .ok (.aload_n 0, 1) := by decide +kernel
theorem dX9_commandHere_1 : decode cX9_commandHere 1 = .ok (.ldc 244, 2) := by decide +kernel
theorem dX9_commandHere_3 : decode cX9_commandHere 3 = .ok (.invokevirtual 195, 3) := by decide +kernel
theorem dX9_commandHere_6 : decode cX9_commandHere 6 = .ok (.ifCond .eq 5, 3) := by decide +kernel
theorem dX9_commandHere_9 : decode cX9_commandHere 9 = .ok (.iconst 0, 1) := by decide +kernel
theorem dX9_commandHere_10 : decode cX9_commandHere 10 = .ok (.ireturn, 1) := by decide +kernel
theorem dX9_commandHere_11 : decode cX9_commandHere 11 = .ok (.aload_n 0, 1) := by decide +kernel
theorem dX9_commandHere_12 : decode cX9_commandHere 12 = .ok (.ldc 246, 2) := by decide +kernel
theorem dX9_commandHere_14 : decode cX9_commandHere 14 = .ok (.invokevirtual 195, 3) := by decide +kernel
theorem dX9_commandHere_17 : decode cX9_commandHere 17 = .ok (.ifCond .eq 5, 3) := by decide +kernel
theorem dX9_commandHere_20 : decode cX9_commandHere 20 = .ok (.iconst 1, 1) := by decide +kernel
theorem dX9_commandHere_21 : decode cX9_commandHere 21 = .ok (.ireturn, 1) := by decide +kernel
theorem dX9_commandHere_22 : decode cX9_commandHere 22 = .ok (.aload_n 0, 1) := by decide +kernel
theorem dX9_commandHere_23 : decode cX9_commandHere 23 = .ok (.ldc 248, 2) := by decide +kernel
theorem dX9_commandHere_25 : decode cX9_commandHere 25 = .ok (.invokevirtual 195, 3) := by decide +kernel
theorem dX9_commandHere_28 : decode cX9_commandHere 28 = .ok (.ifCond .eq 5, 3) := by decide +kernel
theorem dX9_commandHere_31 : decode cX9_commandHere 31 = .ok (.iconst 2, 1) := by decide +kernel
theorem dX9_commandHere_32 : decode cX9_commandHere 32 = .ok (.ireturn, 1) := by decide +kernel
theorem dX9_commandHere_33 : decode cX9_commandHere 33 = .ok (.aload_n 0, 1) := by decide +kernel
theorem dX9_commandHere_34 : decode cX9_commandHere 34 = .ok (.ldc 250, 2) := by decide +kernel
theorem dX9_commandHere_36 : decode cX9_commandHere 36 = .ok (.invokevirtual 195, 3) := by decide +kernel
theorem dX9_commandHere_39 : decode cX9_commandHere 39 = .ok (.ifCond .eq 5, 3) := by decide +kernel
theorem dX9_commandHere_42 : decode cX9_commandHere 42 = .ok (.iconst 3, 1) := by decide +kernel
theorem dX9_commandHere_43 : decode cX9_commandHere 43 = .ok (.ireturn, 1) := by decide +kernel
theorem dX9_commandHere_44 : decode cX9_commandHere 44 = .ok (.aload_n 0, 1) := by decide +kernel
theorem dX9_commandHere_45 : decode cX9_commandHere 45 = .ok (.ldc 252, 2) := by decide +kernel
theorem dX9_commandHere_47 : decode cX9_commandHere 47 = .ok (.invokevirtual 195, 3) := by decide +kernel
theorem dX9_commandHere_50 : decode cX9_commandHere 50 = .ok (.ifCond .eq 5, 3) := by decide +kernel
theorem dX9_commandHere_53 : decode cX9_commandHere 53 = .ok (.iconst 4, 1) := by decide +kernel
theorem dX9_commandHere_54 : decode cX9_commandHere 54 = .ok (.ireturn, 1) := by decide +kernel
theorem dX9_commandHere_55 : decode cX9_commandHere 55 = .ok (.aload_n 0, 1) := by decide +kernel
theorem dX9_commandHere_56 : decode cX9_commandHere 56 = .ok (.invokevirtual 254, 3) := by decide +kernel
theorem dX9_commandHere_59 : decode cX9_commandHere 59 = .ok (.ireturn, 1) := by decide +kernel
theorem dX9_rareCommandHere_0 : decode cX9_rareCommandHere 0 = .ok (.aload_n 0, 1) := by decide +kernel
theorem dX9_rareCommandHere_1 : decode cX9_rareCommandHere 1 = .ok (.ldc_w 257, 3) := by decide +kernel
theorem dX9_rareCommandHere_4 : decode cX9_rareCommandHere 4 = .ok (.invokevirtual 195, 3) := by decide +kernel
theorem dX9_rareCommandHere_7 : decode cX9_rareCommandHere 7 = .ok (.ifCond .eq 5, 3) := by decide +kernel
theorem dX9_rareCommandHere_10 : decode cX9_rareCommandHere 10 = .ok (.iconst 5, 1) := by decide +kernel
theorem dX9_rareCommandHere_11 : decode cX9_rareCommandHere 11 = .ok (.ireturn, 1) := by decide +kernel
theorem dX9_rareCommandHere_12 : decode cX9_rareCommandHere 12 = .ok (.aload_n 0, 1) := by decide +kernel
theorem dX9_rareCommandHere_13 : decode cX9_rareCommandHere 13 = .ok (.ldc_w 258, 3) := by decide +kernel
theorem dX9_rareCommandHere_16 : decode cX9_rareCommandHere 16 = .ok (.invokevirtual 195, 3) := by decide +kernel
theorem dX9_rareCommandHere_19 : decode cX9_rareCommandHere 19 = .ok (.ifCond .eq 6, 3) := by decide +kernel
theorem dX9_rareCommandHere_22 : decode cX9_rareCommandHere 22 = .ok (.bipush 6, 2) := by decide +kernel
theorem dX9_rareCommandHere_24 : decode cX9_rareCommandHere 24 = .ok (.ireturn, 1) := by decide +kernel
theorem dX9_rareCommandHere_25 : decode cX9_rareCommandHere 25 = .ok (.aload_n 0, 1) := by decide +kernel
theorem dX9_rareCommandHere_26 : decode cX9_rareCommandHere 26 = .ok (.ldc_w 260, 3) := by decide +kernel
theorem dX9_rareCommandHere_29 : decode cX9_rareCommandHere 29 = .ok (.invokevirtual 195, 3) := by decide +kernel
theorem dX9_rareCommandHere_32 : decode cX9_rareCommandHere 32 = .ok (.ifCond .eq 6, 3) := by decide +kernel
theorem dX9_rareCommandHere_35 : decode cX9_rareCommandHere 35 = .ok (.bipush 7, 2) := by decide +kernel
theorem dX9_rareCommandHere_37 : decode cX9_rareCommandHere 37 = .ok (.ireturn, 1) := by decide +kernel
theorem dX9_rareCommandHere_38 : decode cX9_rareCommandHere 38 = .ok (.aload_n 0, 1) := by decide +kernel
theorem dX9_rareCommandHere_39 : decode cX9_rareCommandHere 39 = .ok (.ldc_w 261, 3) := by decide +kernel
theorem dX9_rareCommandHere_42 : decode cX9_rareCommandHere 42 = .ok (.invokevirtual 195, 3) := by decide +kernel
theorem dX9_rareCommandHere_45 : decode cX9_rareCommandHere 45 = .ok (.ifCond .eq 8, 3) := by decide +kernel
theorem dX9_rareCommandHere_48 : decode cX9_rareCommandHere 48 = .ok (.bipush 8, 2) := by decide +kernel
theorem dX9_rareCommandHere_50 : decode cX9_rareCommandHere 50 = .ok (.goto 4, 3) := by decide +kernel
theorem dX9_rareCommandHere_53 : decode cX9_rareCommandHere 53 = .ok (.iconst (-1), 1) := by decide +kernel
theorem dX9_rareCommandHere_54 : decode cX9_rareCommandHere 54 = .ok (.ireturn, 1) := by decide +kernel
theorem dX9_parseFirst_0 : decode cX9_parseFirst 0 = .ok (.iload_n 1, 1) := by decide +kernel
theorem dX9_parseFirst_1 : decode cX9_parseFirst 1 = .ok (.tableswitch 54 5 8 #[31, 38, 54, 46], 31) := by decide +kernel
theorem dX9_parseFirst_32 : decode cX9_parseFirst 32 = .ok (.aload_n 0, 1) := by decide +kernel
theorem dX9_parseFirst_33 : decode cX9_parseFirst 33 = .ok (.iconst 0, 1) := by decide +kernel
theorem dX9_parseFirst_34 : decode cX9_parseFirst 34 = .ok (.iconst 3, 1) := by decide +kernel
theorem dX9_parseFirst_35 : decode cX9_parseFirst 35 = .ok (.invokevirtual 192, 3) := by decide +kernel
theorem dX9_parseFirst_38 : decode cX9_parseFirst 38 = .ok (.ireturn, 1) := by decide +kernel
theorem dX9_parseFirst_39 : decode cX9_parseFirst 39 = .ok (.aload_n 0, 1) := by decide +kernel
theorem dX9_parseFirst_40 : decode cX9_parseFirst 40 = .ok (.iconst 1, 1) := by decide +kernel
theorem dX9_parseFirst_41 : decode cX9_parseFirst 41 = .ok (.bipush 50, 2) := by decide +kernel
theorem dX9_parseFirst_43 : decode cX9_parseFirst 43 = .ok (.invokevirtual 192, 3) := by decide +kernel
theorem dX9_parseFirst_46 : decode cX9_parseFirst 46 = .ok (.ireturn, 1) := by decide +kernel
theorem dX9_parseFirst_47 : decode cX9_parseFirst 47 = .ok (.aload_n 0, 1) := by decide +kernel
theorem dX9_parseFirst_48 : decode cX9_parseFirst 48 = .ok (.iconst 1, 1) := by decide +kernel
theorem dX9_parseFirst_49 : decode cX9_parseFirst 49 = .ok (.bipush 48, 2) := by decide +kernel
theorem dX9_parseFirst_51 : decode cX9_parseFirst 51 = .ok (.invokevirtual 192, 3) := by decide +kernel
theorem dX9_parseFirst_54 : decode cX9_parseFirst 54 = .ok (.ireturn, 1) := by decide +kernel
theorem dX9_parseFirst_55 : decode cX9_parseFirst 55 = .ok (.aload_n 0, 1) := by decide +kernel
theorem dX9_parseFirst_56 : decode cX9_parseFirst 56 = .ok (.iconst 0, 1) := by decide +kernel
theorem dX9_parseFirst_57 : decode cX9_parseFirst 57 = .ok (.bipush 9, 2) := by decide +kernel
theorem dX9_parseFirst_59 : decode cX9_parseFirst 59 = .ok (.invokevirtual 192, 3) := by decide +kernel
theorem dX9_parseFirst_62 : decode cX9_parseFirst 62 = .ok (.ireturn, 1) := by decide +kernel
theorem dX9_parseSecond_0 : decode cX9_parseSecond 0 = .ok (.iload_n 1, 1) := by decide +kernel
theorem dX9_parseSecond_1 : decode cX9_parseSecond 1 = .ok (.tableswitch 71 0 7 #[47, 71, 55, 47, 71, 71, 71, 63], 47) := by decide +kernel
theorem dX9_parseSecond_48 : decode cX9_parseSecond 48 = .ok (.aload_n 0, 1) := by decide +kernel
theorem dX9_parseSecond_49 : decode cX9_parseSecond 49 = .ok (.iconst 0, 1) := by decide +kernel
theorem dX9_parseSecond_50 : decode cX9_parseSecond 50 = .ok (.bipush 11, 2) := by decide +kernel
theorem dX9_parseSecond_52 : decode cX9_parseSecond 52 = .ok (.invokevirtual 207, 3) := by decide +kernel
theorem dX9_parseSecond_55 : decode cX9_parseSecond 55 = .ok (.ireturn, 1) := by decide +kernel
theorem dX9_parseSecond_56 : decode cX9_parseSecond 56 = .ok (.aload_n 0, 1) := by decide +kernel
theorem dX9_parseSecond_57 : decode cX9_parseSecond 57 = .ok (.iconst 0, 1) := by decide +kernel
theorem dX9_parseSecond_58 : decode cX9_parseSecond 58 = .ok (.bipush 9, 2) := by decide +kernel
theorem dX9_parseSecond_60 : decode cX9_parseSecond 60 = .ok (.invokevirtual 207, 3) := by decide +kernel
theorem dX9_parseSecond_63 : decode cX9_parseSecond 63 = .ok (.ireturn, 1) := by decide +kernel
theorem dX9_parseSecond_64 : decode cX9_parseSecond 64 = .ok (.aload_n 0, 1) := by decide +kernel
theorem dX9_parseSecond_65 : decode cX9_parseSecond 65 = .ok (.iconst 1, 1) := by decide +kernel
theorem dX9_parseSecond_66 : decode cX9_parseSecond 66 = .ok (.bipush 99, 2) := by decide +kernel
theorem dX9_parseSecond_68 : decode cX9_parseSecond 68 = .ok (.invokevirtual 207, 3) := by decide +kernel
theorem dX9_parseSecond_71 : decode cX9_parseSecond 71 = .ok (.ireturn, 1) := by decide +kernel
theorem dX9_parseSecond_72 : decode cX9_parseSecond 72 = .ok (.iconst 0, 1) := by decide +kernel
theorem dX9_parseSecond_73 : decode cX9_parseSecond 73 = .ok (.ireturn, 1) := by decide +kernel
theorem dX9_parseCommand_0 : decode cX9_parseCommand 0 = .ok (.aload_n 0, 1) := by decide +kernel
theorem dX9_parseCommand_1 : decode cX9_parseCommand 1 = .ok (.invokevirtual 263, 3) := by decide +kernel
theorem dX9_parseCommand_4 : decode cX9_parseCommand 4 = .ok (.istore_n 1, 1) := by decide +kernel
theorem dX9_parseCommand_5 : decode cX9_parseCommand 5 = .ok (.aload_n 0, 1) := by decide +kernel
theorem dX9_parseCommand_6 : decode cX9_parseCommand 6 = .ok (.iload_n 1, 1) := by decide +kernel
theorem dX9_parseCommand_7 : decode cX9_parseCommand 7 = .ok (.iconst (-1), 1) := by decide +kernel
theorem dX9_parseCommand_8 : decode cX9_parseCommand 8 = .ok (.if_icmp .eq 7, 3) := by decide +kernel
theorem dX9_parseCommand_11 : decode cX9_parseCommand 11 = .ok (.iconst 1, 1) := by decide +kernel
theorem dX9_parseCommand_12 : decode cX9_parseCommand 12 = .ok (.goto 4, 3) := by decide +kernel
theorem dX9_parseCommand_15 : decode cX9_parseCommand 15 = .ok (.iconst 0, 1) := by decide +kernel
theorem dX9_parseCommand_16 : decode cX9_parseCommand 16 = .ok (.iconst 1, 1) := by decide +kernel
theorem dX9_parseCommand_17 : decode cX9_parseCommand 17 = .ok (.invokevirtual 188, 3) := by decide +kernel
theorem dX9_parseCommand_20 : decode cX9_parseCommand 20 = .ok (.aload_n 0, 1) := by decide +kernel
theorem dX9_parseCommand_21 : decode cX9_parseCommand 21 = .ok (.aload_n 0, 1) := by decide +kernel
theorem dX9_parseCommand_22 : decode cX9_parseCommand 22 = .ok (.getfield 173, 3) := by decide +kernel
theorem dX9_parseCommand_25 : decode cX9_parseCommand 25 = .ok (.bipush 30, 2) := by decide +kernel
theorem dX9_parseCommand_27 : decode cX9_parseCommand 27 = .ok (.if_icmp .ge 7, 3) := by decide +kernel
theorem dX9_parseCommand_30 : decode cX9_parseCommand 30 = .ok (.iconst 1, 1) := by decide +kernel
theorem dX9_parseCommand_31 : decode cX9_parseCommand 31 = .ok (.goto 4, 3) := by decide +kernel
theorem dX9_parseCommand_34 : decode cX9_parseCommand 34 = .ok (.iconst 0, 1) := by decide +kernel
theorem dX9_parseCommand_35 : decode cX9_parseCommand 35 = .ok (.iconst 3, 1) := by decide +kernel
theorem dX9_parseCommand_36 : decode cX9_parseCommand 36 = .ok (.invokevirtual 188, 3) := by decide +kernel
theorem dX9_parseCommand_39 : decode cX9_parseCommand 39 = .ok (.aload_n 0, 1) := by decide +kernel
theorem dX9_parseCommand_40 : decode cX9_parseCommand 40 = .ok (.invokevirtual 176, 3) := by decide +kernel
theorem dX9_parseCommand_43 : decode cX9_parseCommand 43 = .ok (.aload_n 0, 1) := by decide +kernel
theorem dX9_parseCommand_44 : decode cX9_parseCommand 44 = .ok (.invokevirtual 147, 3) := by decide +kernel
theorem dX9_parseCommand_47 : decode cX9_parseCommand 47 = .ok (.ifCond .eq 11, 3) := by decide +kernel
theorem dX9_parseCommand_50 : decode cX9_parseCommand 50 = .ok (.aload_n 0, 1) := by decide +kernel
theorem dX9_parseCommand_51 : decode cX9_parseCommand 51 = .ok (.iload_n 1, 1) := by decide +kernel
theorem dX9_parseCommand_52 : decode cX9_parseCommand 52 = .ok (.invokevirtual 266, 3) := by decide +kernel
theorem dX9_parseCommand_55 : decode cX9_parseCommand 55 = .ok (.goto 4, 3) := by decide +kernel
theorem dX9_parseCommand_58 : decode cX9_parseCommand 58 = .ok (.iconst 0, 1) := by decide +kernel
theorem dX9_parseCommand_59 : decode cX9_parseCommand 59 = .ok (.istore_n 2, 1) := by decide +kernel
theorem dX9_parseCommand_60 : decode cX9_parseCommand 60 = .ok (.aload_n 0, 1) := by decide +kernel
theorem dX9_parseCommand_61 : decode cX9_parseCommand 61 = .ok (.invokevirtual 147, 3) := by decide +kernel
theorem dX9_parseCommand_64 : decode cX9_parseCommand 64 = .ok (.ifCond .eq 11, 3) := by decide +kernel
theorem dX9_parseCommand_67 : decode cX9_parseCommand 67 = .ok (.aload_n 0, 1) := by decide +kernel
theorem dX9_parseCommand_68 : decode cX9_parseCommand 68 = .ok (.iload_n 1, 1) := by decide +kernel
theorem dX9_parseCommand_69 : decode cX9_parseCommand 69 = .ok (.invokevirtual 269, 3) := by decide +kernel
theorem dX9_parseCommand_72 : decode cX9_parseCommand 72 = .ok (.goto 4, 3) := by decide +kernel
theorem dX9_parseCommand_75 : decode cX9_parseCommand 75 = .ok (.iconst 0, 1) := by decide +kernel
theorem dX9_parseCommand_76 : decode cX9_parseCommand 76 = .ok (.istore_n 3, 1) := by decide +kernel
theorem dX9_parseCommand_77 : decode cX9_parseCommand 77 = .ok (.aload_n 0, 1) := by decide +kernel
theorem dX9_parseCommand_78 : decode cX9_parseCommand 78 = .ok (.invokevirtual 202, 3) := by decide +kernel
theorem dX9_parseCommand_81 : decode cX9_parseCommand 81 = .ok (.aload_n 0, 1) := by decide +kernel
theorem dX9_parseCommand_82 : decode cX9_parseCommand 82 = .ok (.invokevirtual 147, 3) := by decide +kernel
theorem dX9_parseCommand_85 : decode cX9_parseCommand 85 = .ok (.ifCond .eq 49, 3) := by decide +kernel
theorem dX9_parseCommand_88 : decode cX9_parseCommand 88 = .ok (.iconst 3, 1) := by decide +kernel
theorem dX9_parseCommand_89 : decode cX9_parseCommand 89 = .ok (.aload_n 0, 1) := by decide +kernel
theorem dX9_parseCommand_90 : decode cX9_parseCommand 90 = .ok (.getfield 173, 3) := by decide +kernel
theorem dX9_parseCommand_93 : decode cX9_parseCommand 93 = .ok (.imul, 1) := by decide +kernel
theorem dX9_parseCommand_94 : decode cX9_parseCommand 94 = .ok (.istore 4, 2) := by decide +kernel
theorem dX9_parseCommand_96 : decode cX9_parseCommand 96 = .ok (.aload_n 0, 1) := by decide +kernel
theorem dX9_parseCommand_97 : decode cX9_parseCommand 97 = .ok (.getfield 37, 3) := by decide +kernel
theorem dX9_parseCommand_100 : decode cX9_parseCommand 100 = .ok (.iload 4, 2) := by decide +kernel
theorem dX9_parseCommand_102 : decode cX9_parseCommand 102 = .ok (.iload_n 1, 1) := by decide +kernel
theorem dX9_parseCommand_103 : decode cX9_parseCommand 103 = .ok (.iastore, 1) := by decide +kernel
theorem dX9_parseCommand_104 : decode cX9_parseCommand 104 = .ok (.aload_n 0, 1) := by decide +kernel
theorem dX9_parseCommand_105 : decode cX9_parseCommand 105 = .ok (.getfield 37, 3) := by decide +kernel
theorem dX9_parseCommand_108 : decode cX9_parseCommand 108 = .ok (.iload 4, 2) := by decide +kernel
theorem dX9_parseCommand_110 : decode cX9_parseCommand 110 = .ok (.iconst 1, 1) := by decide +kernel
theorem dX9_parseCommand_111 : decode cX9_parseCommand 111 = .ok (.iadd, 1) := by decide +kernel
theorem dX9_parseCommand_112 : decode cX9_parseCommand 112 = .ok (.iload_n 2, 1) := by decide +kernel
theorem dX9_parseCommand_113 : decode cX9_parseCommand 113 = .ok (.iastore, 1) := by decide +kernel
theorem dX9_parseCommand_114 : decode cX9_parseCommand 114 = .ok (.aload_n 0, 1) := by decide +kernel
theorem dX9_parseCommand_115 : decode cX9_parseCommand 115 = .ok (.getfield 37, 3) := by decide +kernel
theorem dX9_parseCommand_118 : decode cX9_parseCommand 118 = .ok (.iload 4, 2) := by decide +kernel
theorem dX9_parseCommand_120 : decode cX9_parseCommand 120 = .ok (.iconst 2, 1) := by decide +kernel
theorem dX9_parseCommand_121 : decode cX9_parseCommand 121 = .ok (.iadd, 1) := by decide +kernel
theorem dX9_parseCommand_122 : decode cX9_parseCommand 122 = .ok (.iload_n 3, 1) := by decide +kernel
theorem dX9_parseCommand_123 : decode cX9_parseCommand 123 = .ok (.iastore, 1) := by decide +kernel
theorem dX9_parseCommand_124 : decode cX9_parseCommand 124 = .ok (.aload_n 0, 1) := by decide +kernel
theorem dX9_parseCommand_125 : decode cX9_parseCommand 125 = .ok (.dup, 1) := by decide +kernel
theorem dX9_parseCommand_126 : decode cX9_parseCommand 126 = .ok (.getfield 173, 3) := by decide +kernel
theorem dX9_parseCommand_129 : decode cX9_parseCommand 129 = .ok (.iconst 1, 1) := by decide +kernel
theorem dX9_parseCommand_130 : decode cX9_parseCommand 130 = .ok (.iadd, 1) := by decide +kernel
theorem dX9_parseCommand_131 : decode cX9_parseCommand 131 = .ok (.putfield 173, 3) := by decide +kernel
theorem dX9_parseCommand_134 : decode cX9_parseCommand 134 = .ok (.return_, 1) := by decide +kernel
theorem dX9_execute_0 : decode cX9_execute 0 = .ok (.aload_n 0, 1) := by decide +kernel
theorem dX9_execute_1 : decode cX9_execute 1 = .ok (.getfield 37, 3) := by decide +kernel
theorem dX9_execute_4 : decode cX9_execute 4 = .ok (.iload_n 1, 1) := by decide +kernel
theorem dX9_execute_5 : decode cX9_execute 5 = .ok (.iconst 1, 1) := by decide +kernel
theorem dX9_execute_6 : decode cX9_execute 6 = .ok (.iadd, 1) := by decide +kernel
theorem dX9_execute_7 : decode cX9_execute 7 = .ok (.iaload, 1) := by decide +kernel
theorem dX9_execute_8 : decode cX9_execute 8 = .ok (.istore_n 2, 1) := by decide +kernel
theorem dX9_execute_9 : decode cX9_execute 9 = .ok (.aload_n 0, 1) := by decide +kernel
theorem dX9_execute_10 : decode cX9_execute 10 = .ok (.getfield 37, 3) := by decide +kernel
theorem dX9_execute_13 : decode cX9_execute 13 = .ok (.iload_n 1, 1) := by decide +kernel
theorem dX9_execute_14 : decode cX9_execute 14 = .ok (.iconst 2, 1) := by decide +kernel
theorem dX9_execute_15 : decode cX9_execute 15 = .ok (.iadd, 1) := by decide +kernel
theorem dX9_execute_16 : decode cX9_execute 16 = .ok (.iaload, 1) := by decide +kernel
theorem dX9_execute_17 : decode cX9_execute 17 = .ok (.istore_n 3, 1) := by decide +kernel
theorem dX9_execute_18 : decode cX9_execute 18 = .ok (.iconst 0, 1) := by decide +kernel
theorem dX9_execute_19 : decode cX9_execute 19 = .ok (.istore 4, 2) := by decide +kernel
theorem dX9_execute_21 : decode cX9_execute 21 = .ok (.aload_n 0, 1) := by decide +kernel
theorem dX9_execute_22 : decode cX9_execute 22 = .ok (.getfield 37, 3) := by decide +kernel
theorem dX9_execute_25 : decode cX9_execute 25 = .ok (.iload_n 1, 1) := by decide +kernel
theorem dX9_execute_26 : decode cX9_execute 26 = .ok (.iaload, 1) := by decide +kernel
theorem dX9_execute_27 : decode cX9_execute 27 = .ok (.tableswitch 129 0 7 #[45, 56, 66, 77, 88, 98, 108, 118], 45) := by decide +kernel
theorem dX9_execute_72 : decode cX9_execute 72 = .ok (.aload_n 0, 1) := by decide +kernel
theorem dX9_execute_73 : decode cX9_execute 73 = .ok (.iload_n 2, 1) := by decide +kernel
theorem dX9_execute_74 : decode cX9_execute 74 = .ok (.iload_n 3, 1) := by decide +kernel
theorem dX9_execute_75 : decode cX9_execute 75 = .ok (.invokevirtual 272, 3) := by decide +kernel
theorem dX9_execute_78 : decode cX9_execute 78 = .ok (.istore 4, 2) := by decide +kernel
theorem dX9_execute_80 : decode cX9_execute 80 = .ok (.goto 83, 3) := by decide +kernel
theorem dX9_execute_83 : decode cX9_execute 83 = .ok (.aload_n 0, 1) := by decide +kernel
theorem dX9_execute_84 : decode cX9_execute 84 = .ok (.iload_n 2, 1) := by decide +kernel
theorem dX9_execute_85 : decode cX9_execute 85 = .ok (.invokevirtual 275, 3) := by decide +kernel
theorem dX9_execute_88 : decode cX9_execute 88 = .ok (.istore 4, 2) := by decide +kernel
theorem dX9_execute_90 : decode cX9_execute 90 = .ok (.goto 73, 3) := by decide +kernel
theorem dX9_execute_93 : decode cX9_execute 93 = .ok (.aload_n 0, 1) := by decide +kernel
theorem dX9_execute_94 : decode cX9_execute 94 = .ok (.iload_n 2, 1) := by decide +kernel
theorem dX9_execute_95 : decode cX9_execute 95 = .ok (.iload_n 3, 1) := by decide +kernel
theorem dX9_execute_96 : decode cX9_execute 96 = .ok (.invokevirtual 278, 3) := by decide +kernel
theorem dX9_execute_99 : decode cX9_execute 99 = .ok (.istore 4, 2) := by decide +kernel
theorem dX9_execute_101 : decode cX9_execute 101 = .ok (.goto 62, 3) := by decide +kernel
theorem dX9_execute_104 : decode cX9_execute 104 = .ok (.aload_n 0, 1) := by decide +kernel
theorem dX9_execute_105 : decode cX9_execute 105 = .ok (.iload_n 2, 1) := by decide +kernel
theorem dX9_execute_106 : decode cX9_execute 106 = .ok (.iload_n 3, 1) := by decide +kernel
theorem dX9_execute_107 : decode cX9_execute 107 = .ok (.invokevirtual 281, 3) := by decide +kernel
theorem dX9_execute_110 : decode cX9_execute 110 = .ok (.istore 4, 2) := by decide +kernel
theorem dX9_execute_112 : decode cX9_execute 112 = .ok (.goto 51, 3) := by decide +kernel
theorem dX9_execute_115 : decode cX9_execute 115 = .ok (.aload_n 0, 1) := by decide +kernel
theorem dX9_execute_116 : decode cX9_execute 116 = .ok (.iload_n 2, 1) := by decide +kernel
theorem dX9_execute_117 : decode cX9_execute 117 = .ok (.invokevirtual 284, 3) := by decide +kernel
theorem dX9_execute_120 : decode cX9_execute 120 = .ok (.istore 4, 2) := by decide +kernel
theorem dX9_execute_122 : decode cX9_execute 122 = .ok (.goto 41, 3) := by decide +kernel
theorem dX9_execute_125 : decode cX9_execute 125 = .ok (.aload_n 0, 1) := by decide +kernel
theorem dX9_execute_126 : decode cX9_execute 126 = .ok (.iload_n 2, 1) := by decide +kernel
theorem dX9_execute_127 : decode cX9_execute 127 = .ok (.invokevirtual 287, 3) := by decide +kernel
theorem dX9_execute_130 : decode cX9_execute 130 = .ok (.istore 4, 2) := by decide +kernel
theorem dX9_execute_132 : decode cX9_execute 132 = .ok (.goto 31, 3) := by decide +kernel
theorem dX9_execute_135 : decode cX9_execute 135 = .ok (.aload_n 0, 1) := by decide +kernel
theorem dX9_execute_136 : decode cX9_execute 136 = .ok (.iload_n 2, 1) := by decide +kernel
theorem dX9_execute_137 : decode cX9_execute 137 = .ok (.invokevirtual 290, 3) := by decide +kernel
theorem dX9_execute_140 : decode cX9_execute 140 = .ok (.istore 4, 2) := by decide +kernel
theorem dX9_execute_142 : decode cX9_execute 142 = .ok (.goto 21, 3) := by decide +kernel
theorem dX9_execute_145 : decode cX9_execute 145 = .ok (.aload_n 0, 1) := by decide +kernel
theorem dX9_execute_146 : decode cX9_execute 146 = .ok (.iload_n 2, 1) := by decide +kernel
theorem dX9_execute_147 : decode cX9_execute 147 = .ok (.iload_n 3, 1) := by decide +kernel
theorem dX9_execute_148 : decode cX9_execute 148 = .ok (.invokevirtual 293, 3) := by decide +kernel
theorem dX9_execute_151 : decode cX9_execute 151 = .ok (.istore 4, 2) := by decide +kernel
theorem dX9_execute_153 : decode cX9_execute 153 = .ok (.goto 10, 3) := by decide +kernel
theorem dX9_execute_156 : decode cX9_execute 156 = .ok (.aload_n 0, 1) := by decide +kernel
theorem dX9_execute_157 : decode cX9_execute 157 = .ok (.iload_n 2, 1) := by decide +kernel
theorem dX9_execute_158 : decode cX9_execute 158 = .ok (.invokevirtual 296, 3) := by decide +kernel
theorem dX9_execute_161 : decode cX9_execute 161 = .ok (.istore 4, 2) := by decide +kernel
theorem dX9_execute_163 : decode cX9_execute 163 = .ok (.aload_n 0, 1) := by decide +kernel
theorem dX9_execute_164 : decode cX9_execute 164 = .ok (.getfield 57, 3) := by decide +kernel
theorem dX9_execute_167 : decode cX9_execute 167 = .ok (.ifCond .ne 7, 3) := by decide +kernel
theorem dX9_execute_170 : decode cX9_execute 170 = .ok (.iconst 1, 1) := by decide +kernel
theorem dX9_execute_171 : decode cX9_execute 171 = .ok (.goto 4, 3) := by decide +kernel
theorem dX9_execute_174 : decode cX9_execute 174 = .ok (.iconst 0, 1) := by decide +kernel
theorem dX9_execute_175 : decode cX9_execute 175 = .ok (.ireturn, 1) := by decide +kernel
theorem dX9_runScript_0 : decode cX9_runScript 0 = .ok (.aload_n 0, 1) := by decide +kernel
theorem dX9_runScript_1 : decode cX9_runScript 1 = .ok (.iconst 0, 1) := by decide +kernel
theorem dX9_runScript_2 : decode cX9_runScript 2 = .ok (.putfield 57, 3) := by decide +kernel
theorem dX9_runScript_5 : decode cX9_runScript 5 = .ok (.aload_n 0, 1) := by decide +kernel
theorem dX9_runScript_6 : decode cX9_runScript 6 = .ok (.invokevirtual 232, 3) := by decide +kernel
theorem dX9_runScript_9 : decode cX9_runScript 9 = .ok (.aload_n 0, 1) := by decide +kernel
theorem dX9_runScript_10 : decode cX9_runScript 10 = .ok (.invokevirtual 147, 3) := by decide +kernel
theorem dX9_runScript_13 : decode cX9_runScript 13 = .ok (.ifCond .eq 17, 3) := by decide +kernel
theorem dX9_runScript_16 : decode cX9_runScript 16 = .ok (.aload_n 0, 1) := by decide +kernel
theorem dX9_runScript_17 : decode cX9_runScript 17 = .ok (.getfield 160, 3) := by decide +kernel
theorem dX9_runScript_20 : decode cX9_runScript 20 = .ok (.ifCond .eq 10, 3) := by decide +kernel
theorem dX9_runScript_23 : decode cX9_runScript 23 = .ok (.aload_n 0, 1) := by decide +kernel
theorem dX9_runScript_24 : decode cX9_runScript 24 = .ok (.invokevirtual 299, 3) := by decide +kernel
theorem dX9_runScript_27 : decode cX9_runScript 27 = .ok (.goto (-18), 3) := by decide +kernel
theorem dX9_runScript_30 : decode cX9_runScript 30 = .ok (.aload_n 0, 1) := by decide +kernel
theorem dX9_runScript_31 : decode cX9_runScript 31 = .ok (.iconst 0, 1) := by decide +kernel
theorem dX9_runScript_32 : decode cX9_runScript 32 = .ok (.putfield 138, 3) := by decide +kernel
theorem dX9_runScript_35 : decode cX9_runScript 35 = .ok (.aload_n 0, 1) := by decide +kernel
theorem dX9_runScript_36 : decode cX9_runScript 36 = .ok (.invokevirtual 147, 3) := by decide +kernel
theorem dX9_runScript_39 : decode cX9_runScript 39 = .ok (.ifCond .ne 5, 3) := by decide +kernel
theorem dX9_runScript_42 : decode cX9_runScript 42 = .ok (.iconst (-1), 1) := by decide +kernel
theorem dX9_runScript_43 : decode cX9_runScript 43 = .ok (.ireturn, 1) := by decide +kernel
theorem dX9_runScript_44 : decode cX9_runScript 44 = .ok (.iconst 0, 1) := by decide +kernel
theorem dX9_runScript_45 : decode cX9_runScript 45 = .ok (.istore_n 1, 1) := by decide +kernel
theorem dX9_runScript_46 : decode cX9_runScript 46 = .ok (.iload_n 1, 1) := by decide +kernel
theorem dX9_runScript_47 : decode cX9_runScript 47 = .ok (.aload_n 0, 1) := by decide +kernel
theorem dX9_runScript_48 : decode cX9_runScript 48 = .ok (.getfield 173, 3) := by decide +kernel
theorem dX9_runScript_51 : decode cX9_runScript 51 = .ok (.if_icmp .ge 19, 3) := by decide +kernel
theorem dX9_runScript_54 : decode cX9_runScript 54 = .ok (.aload_n 0, 1) := by decide +kernel
theorem dX9_runScript_55 : decode cX9_runScript 55 = .ok (.iconst 3, 1) := by decide +kernel
theorem dX9_runScript_56 : decode cX9_runScript 56 = .ok (.iload_n 1, 1) := by decide +kernel
theorem dX9_runScript_57 : decode cX9_runScript 57 = .ok (.imul, 1) := by decide +kernel
theorem dX9_runScript_58 : decode cX9_runScript 58 = .ok (.invokevirtual 302, 3) := by decide +kernel
theorem dX9_runScript_61 : decode cX9_runScript 61 = .ok (.ifCond .eq 9, 3) := by decide +kernel
theorem dX9_runScript_64 : decode cX9_runScript 64 = .ok (.iinc 1 1, 3) := by decide +kernel
theorem dX9_runScript_67 : decode cX9_runScript 67 = .ok (.goto (-21), 3) := by decide +kernel
theorem dX9_runScript_70 : decode cX9_runScript 70 = .ok (.aload_n 0, 1) := by decide +kernel
theorem dX9_runScript_71 : decode cX9_runScript 71 = .ok (.iload_n 1, 1) := by decide +kernel
theorem dX9_runScript_72 : decode cX9_runScript 72 = .ok (.invokevirtual 305, 3) := by decide +kernel
theorem dX9_runScript_75 : decode cX9_runScript 75 = .ok (.ireturn, 1) := by decide +kernel
theorem dX9_errorCode_0 : decode cX9_errorCode 0 = .ok (.aload_n 0, 1) := by decide +kernel
theorem dX9_errorCode_1 : decode cX9_errorCode 1 = .ok (.aload_n 0, 1) := by decide +kernel
theorem dX9_errorCode_2 : decode cX9_errorCode 2 = .ok (.getfield 144, 3) := by decide +kernel
theorem dX9_errorCode_5 : decode cX9_errorCode 5 = .ok (.invokevirtual 305, 3) := by decide +kernel
theorem dX9_errorCode_8 : decode cX9_errorCode 8 = .ok (.ireturn, 1) := by decide +kernel
theorem dX9_errorPosition_0 : decode cX9_errorPosition 0 = .ok (.aload_n 0, 1) := by decide +kernel
theorem dX9_errorPosition_1 : decode cX9_errorPosition 1 = .ok (.aload_n 0, 1) := by decide +kernel
theorem dX9_errorPosition_2 : decode cX9_errorPosition 2 = .ok (.getfield 33, 3) := by decide +kernel
theorem dX9_errorPosition_5 : decode cX9_errorPosition 5 = .ok (.invokevirtual 305, 3) := by decide +kernel
theorem dX9_errorPosition_8 : decode cX9_errorPosition 8 = .ok (.ireturn, 1) := by decide +kernel
theorem dX9_hour_0 : decode cX9_hour 0 = .ok (.aload_n 0, 1) := by decide +kernel
theorem dX9_hour_1 : decode cX9_hour 1 = .ok (.aload_n 0, 1) := by decide +kernel
theorem dX9_hour_2 : decode cX9_hour 2 = .ok (.getfield 7, 3) := by decide +kernel
theorem dX9_hour_5 : decode cX9_hour 5 = .ok (.iconst 3, 1) := by decide +kernel
theorem dX9_hour_6 : decode cX9_hour 6 = .ok (.iaload, 1) := by decide +kernel
theorem dX9_hour_7 : decode cX9_hour 7 = .ok (.invokevirtual 305, 3) := by decide +kernel
theorem dX9_hour_10 : decode cX9_hour 10 = .ok (.ireturn, 1) := by decide +kernel
theorem dX9_hoursUntilDawn_0 : decode cX9_hoursUntilDawn 0 = .ok (.aload_n 0, 1) := by decide +kernel
theorem dX9_hoursUntilDawn_1 : decode cX9_hoursUntilDawn 1 = .ok (.aload_n 0, 1) := by decide +kernel
theorem dX9_hoursUntilDawn_2 : decode cX9_hoursUntilDawn 2 = .ok (.invokevirtual 308, 3) := by decide +kernel
theorem dX9_hoursUntilDawn_5 : decode cX9_hoursUntilDawn 5 = .ok (.invokevirtual 305, 3) := by decide +kernel
theorem dX9_hoursUntilDawn_8 : decode cX9_hoursUntilDawn 8 = .ok (.ireturn, 1) := by decide +kernel
theorem dX9_logs_0 : decode cX9_logs 0 = .ok (.aload_n 0, 1) := by decide +kernel
theorem dX9_logs_1 : decode cX9_logs 1 = .ok (.aload_n 0, 1) := by decide +kernel
theorem dX9_logs_2 : decode cX9_logs 2 = .ok (.getfield 7, 3) := by decide +kernel
theorem dX9_logs_5 : decode cX9_logs 5 = .ok (.iconst 0, 1) := by decide +kernel
theorem dX9_logs_6 : decode cX9_logs 6 = .ok (.iaload, 1) := by decide +kernel
theorem dX9_logs_7 : decode cX9_logs 7 = .ok (.invokevirtual 305, 3) := by decide +kernel
theorem dX9_logs_10 : decode cX9_logs 10 = .ok (.ireturn, 1) := by decide +kernel
theorem dX9_temperature_0 : decode cX9_temperature 0 = .ok (.aload_n 0, 1) := by decide +kernel
theorem dX9_temperature_1 : decode cX9_temperature 1 = .ok (.aload_n 0, 1) := by decide +kernel
theorem dX9_temperature_2 : decode cX9_temperature 2 = .ok (.invokevirtual 79, 3) := by decide +kernel
theorem dX9_temperature_5 : decode cX9_temperature 5 = .ok (.invokevirtual 305, 3) := by decide +kernel
theorem dX9_temperature_8 : decode cX9_temperature 8 = .ok (.ireturn, 1) := by decide +kernel
theorem dX9_hikerIn_0 : decode cX9_hikerIn 0 = .ok (.aload_n 0, 1) := by decide +kernel
theorem dX9_hikerIn_1 : decode cX9_hikerIn 1 = .ok (.iconst 0, 1) := by decide +kernel
theorem dX9_hikerIn_2 : decode cX9_hikerIn 2 = .ok (.putfield 57, 3) := by decide +kernel
theorem dX9_hikerIn_5 : decode cX9_hikerIn 5 = .ok (.aload_n 0, 1) := by decide +kernel
theorem dX9_hikerIn_6 : decode cX9_hikerIn 6 = .ok (.iload_n 1, 1) := by decide +kernel
theorem dX9_hikerIn_7 : decode cX9_hikerIn 7 = .ok (.invokevirtual 72, 3) := by decide +kernel
theorem dX9_hikerIn_10 : decode cX9_hikerIn 10 = .ok (.ifCond .eq 11, 3) := by decide +kernel
theorem dX9_hikerIn_13 : decode cX9_hikerIn 13 = .ok (.aload_n 0, 1) := by decide +kernel
theorem dX9_hikerIn_14 : decode cX9_hikerIn 14 = .ok (.iload_n 1, 1) := by decide +kernel
theorem dX9_hikerIn_15 : decode cX9_hikerIn 15 = .ok (.invokevirtual 83, 3) := by decide +kernel
theorem dX9_hikerIn_18 : decode cX9_hikerIn 18 = .ok (.goto 8, 3) := by decide +kernel
theorem dX9_hikerIn_21 : decode cX9_hikerIn 21 = .ok (.aload_n 0, 1) := by decide +kernel
theorem dX9_hikerIn_22 : decode cX9_hikerIn 22 = .ok (.iconst 1, 1) := by decide +kernel
theorem dX9_hikerIn_23 : decode cX9_hikerIn 23 = .ok (.invokevirtual 141, 3) := by decide +kernel
theorem dX9_hikerIn_26 : decode cX9_hikerIn 26 = .ok (.ireturn, 1) := by decide +kernel
theorem dX9_noiseIn_0 : decode cX9_noiseIn 0 = .ok (.aload_n 0, 1) := by decide +kernel
theorem dX9_noiseIn_1 : decode cX9_noiseIn 1 = .ok (.iconst 0, 1) := by decide +kernel
theorem dX9_noiseIn_2 : decode cX9_noiseIn 2 = .ok (.putfield 57, 3) := by decide +kernel
theorem dX9_noiseIn_5 : decode cX9_noiseIn 5 = .ok (.aload_n 0, 1) := by decide +kernel
theorem dX9_noiseIn_6 : decode cX9_noiseIn 6 = .ok (.iload_n 1, 1) := by decide +kernel
theorem dX9_noiseIn_7 : decode cX9_noiseIn 7 = .ok (.invokevirtual 72, 3) := by decide +kernel
theorem dX9_noiseIn_10 : decode cX9_noiseIn 10 = .ok (.ifCond .eq 11, 3) := by decide +kernel
theorem dX9_noiseIn_13 : decode cX9_noiseIn 13 = .ok (.aload_n 0, 1) := by decide +kernel
theorem dX9_noiseIn_14 : decode cX9_noiseIn 14 = .ok (.iload_n 1, 1) := by decide +kernel
theorem dX9_noiseIn_15 : decode cX9_noiseIn 15 = .ok (.invokevirtual 102, 3) := by decide +kernel
theorem dX9_noiseIn_18 : decode cX9_noiseIn 18 = .ok (.goto 8, 3) := by decide +kernel
theorem dX9_noiseIn_21 : decode cX9_noiseIn 21 = .ok (.aload_n 0, 1) := by decide +kernel
theorem dX9_noiseIn_22 : decode cX9_noiseIn 22 = .ok (.iconst 1, 1) := by decide +kernel
theorem dX9_noiseIn_23 : decode cX9_noiseIn 23 = .ok (.invokevirtual 141, 3) := by decide +kernel
theorem dX9_noiseIn_26 : decode cX9_noiseIn 26 = .ok (.ireturn, 1) := by decide +kernel
theorem dX9_isQuieter_0 : decode cX9_isQuieter 0 = .ok (.aload_n 0, 1) := by decide +kernel
theorem dX9_isQuieter_1 : decode cX9_isQuieter 1 = .ok (.iload_n 2, 1) := by decide +kernel
theorem dX9_isQuieter_2 : decode cX9_isQuieter 2 = .ok (.invokevirtual 102, 3) := by decide +kernel
theorem dX9_isQuieter_5 : decode cX9_isQuieter 5 = .ok (.aload_n 0, 1) := by decide +kernel
theorem dX9_isQuieter_6 : decode cX9_isQuieter 6 = .ok (.iload_n 1, 1) := by decide +kernel
theorem dX9_isQuieter_7 : decode cX9_isQuieter 7 = .ok (.invokevirtual 102, 3) := by decide +kernel
theorem dX9_isQuieter_10 : decode cX9_isQuieter 10 = .ok (.isub, 1) := by decide +kernel
theorem dX9_isQuieter_11 : decode cX9_isQuieter 11 = .ok (.istore_n 3, 1) := by decide +kernel
theorem dX9_isQuieter_12 : decode cX9_isQuieter 12 = .ok (.iload_n 3, 1) := by decide +kernel
theorem dX9_isQuieter_13 : decode cX9_isQuieter 13 = .ok (.ifCond .gt 28, 3) := by decide +kernel
theorem dX9_isQuieter_16 : decode cX9_isQuieter 16 = .ok (.iload_n 3, 1) := by decide +kernel
theorem dX9_isQuieter_17 : decode cX9_isQuieter 17 = .ok (.ifCond .ne 28, 3) := by decide +kernel
theorem dX9_isQuieter_20 : decode cX9_isQuieter 20 = .ok (.aload_n 0, 1) := by decide +kernel
theorem dX9_isQuieter_21 : decode cX9_isQuieter 21 = .ok (.getfield 7, 3) := by decide +kernel
theorem dX9_isQuieter_24 : decode cX9_isQuieter 24 = .ok (.bipush 13, 2) := by decide +kernel
theorem dX9_isQuieter_26 : decode cX9_isQuieter 26 = .ok (.iload_n 1, 1) := by decide +kernel
theorem dX9_isQuieter_27 : decode cX9_isQuieter 27 = .ok (.iadd, 1) := by decide +kernel
theorem dX9_isQuieter_28 : decode cX9_isQuieter 28 = .ok (.iaload, 1) := by decide +kernel
theorem dX9_isQuieter_29 : decode cX9_isQuieter 29 = .ok (.aload_n 0, 1) := by decide +kernel
theorem dX9_isQuieter_30 : decode cX9_isQuieter 30 = .ok (.getfield 7, 3) := by decide +kernel
theorem dX9_isQuieter_33 : decode cX9_isQuieter 33 = .ok (.bipush 13, 2) := by decide +kernel
theorem dX9_isQuieter_35 : decode cX9_isQuieter 35 = .ok (.iload_n 2, 1) := by decide +kernel
theorem dX9_isQuieter_36 : decode cX9_isQuieter 36 = .ok (.iadd, 1) := by decide +kernel
theorem dX9_isQuieter_37 : decode cX9_isQuieter 37 = .ok (.iaload, 1) := by decide +kernel
theorem dX9_isQuieter_38 : decode cX9_isQuieter 38 = .ok (.if_icmp .le 7, 3) := by decide +kernel
theorem dX9_isQuieter_41 : decode cX9_isQuieter 41 = .ok (.iconst 1, 1) := by decide +kernel
theorem dX9_isQuieter_42 : decode cX9_isQuieter 42 = .ok (.goto 4, 3) := by decide +kernel
theorem dX9_isQuieter_45 : decode cX9_isQuieter 45 = .ok (.iconst 0, 1) := by decide +kernel
theorem dX9_isQuieter_46 : decode cX9_isQuieter 46 = .ok (.ireturn, 1) := by decide +kernel
theorem dX9_quietestBunk_0 : decode cX9_quietestBunk 0 = .ok (.aload_n 0, 1) := by decide +kernel
theorem dX9_quietestBunk_1 : decode cX9_quietestBunk 1 = .ok (.iconst 0, 1) := by decide +kernel
theorem dX9_quietestBunk_2 : decode cX9_quietestBunk 2 = .ok (.putfield 57, 3) := by decide +kernel
theorem dX9_quietestBunk_5 : decode cX9_quietestBunk 5 = .ok (.iconst (-1), 1) := by decide +kernel
theorem dX9_quietestBunk_6 : decode cX9_quietestBunk 6 = .ok (.istore_n 1, 1) := by decide +kernel
theorem dX9_quietestBunk_7 : decode cX9_quietestBunk 7 = .ok (.iconst 0, 1) := by decide +kernel
theorem dX9_quietestBunk_8 : decode cX9_quietestBunk 8 = .ok (.istore_n 2, 1) := by decide +kernel
theorem dX9_quietestBunk_9 : decode cX9_quietestBunk 9 = .ok (.iload_n 2, 1) := by decide +kernel
theorem dX9_quietestBunk_10 : decode cX9_quietestBunk 10 = .ok (.aload_n 0, 1) := by decide +kernel
theorem dX9_quietestBunk_11 : decode cX9_quietestBunk 11 = .ok (.getfield 7, 3) := by decide +kernel
theorem dX9_quietestBunk_14 : decode cX9_quietestBunk 14 = .ok (.bipush 9, 2) := by decide +kernel
theorem dX9_quietestBunk_16 : decode cX9_quietestBunk 16 = .ok (.iaload, 1) := by decide +kernel
theorem dX9_quietestBunk_17 : decode cX9_quietestBunk 17 = .ok (.if_icmp .ge 34, 3) := by decide +kernel
theorem dX9_quietestBunk_20 : decode cX9_quietestBunk 20 = .ok (.aload_n 0, 1) := by decide +kernel
theorem dX9_quietestBunk_21 : decode cX9_quietestBunk 21 = .ok (.iload_n 2, 1) := by decide +kernel
theorem dX9_quietestBunk_22 : decode cX9_quietestBunk 22 = .ok (.invokevirtual 83, 3) := by decide +kernel
theorem dX9_quietestBunk_25 : decode cX9_quietestBunk 25 = .ok (.iconst (-1), 1) := by decide +kernel
theorem dX9_quietestBunk_26 : decode cX9_quietestBunk 26 = .ok (.if_icmp .ne 19, 3) := by decide +kernel
theorem dX9_quietestBunk_29 : decode cX9_quietestBunk 29 = .ok (.iload_n 1, 1) := by decide +kernel
theorem dX9_quietestBunk_30 : decode cX9_quietestBunk 30 = .ok (.iconst (-1), 1) := by decide +kernel
theorem dX9_quietestBunk_31 : decode cX9_quietestBunk 31 = .ok (.if_icmp .eq 12, 3) := by decide +kernel
theorem dX9_quietestBunk_34 : decode cX9_quietestBunk 34 = .ok (.aload_n 0, 1) := by decide +kernel
theorem dX9_quietestBunk_35 : decode cX9_quietestBunk 35 = .ok (.iload_n 2, 1) := by decide +kernel
theorem dX9_quietestBunk_36 : decode cX9_quietestBunk 36 = .ok (.iload_n 1, 1) := by decide +kernel
theorem dX9_quietestBunk_37 : decode cX9_quietestBunk 37 = .ok (.invokevirtual 311, 3) := by decide +kernel
theorem dX9_quietestBunk_40 : decode cX9_quietestBunk 40 = .ok (.ifCond .eq 5, 3) := by decide +kernel
theorem dX9_quietestBunk_43 : decode cX9_quietestBunk 43 = .ok (.iload_n 2, 1) := by decide +kernel
theorem dX9_quietestBunk_44 : decode cX9_quietestBunk 44 = .ok (.istore_n 1, 1) := by decide +kernel
theorem dX9_quietestBunk_45 : decode cX9_quietestBunk 45 = .ok (.iinc 2 1, 3) := by decide +kernel
theorem dX9_quietestBunk_48 : decode cX9_quietestBunk 48 = .ok (.goto (-39), 3) := by decide +kernel
theorem dX9_quietestBunk_51 : decode cX9_quietestBunk 51 = .ok (.iload_n 1, 1) := by decide +kernel
theorem dX9_quietestBunk_52 : decode cX9_quietestBunk 52 = .ok (.ireturn, 1) := by decide +kernel
theorem dX9_longestRow_0 : decode cX9_longestRow 0 = .ok (.aload_n 0, 1) := by decide +kernel
theorem dX9_longestRow_1 : decode cX9_longestRow 1 = .ok (.iconst 0, 1) := by decide +kernel
theorem dX9_longestRow_2 : decode cX9_longestRow 2 = .ok (.putfield 57, 3) := by decide +kernel
theorem dX9_longestRow_5 : decode cX9_longestRow 5 = .ok (.iconst 0, 1) := by decide +kernel
theorem dX9_longestRow_6 : decode cX9_longestRow 6 = .ok (.istore_n 1, 1) := by decide +kernel
theorem dX9_longestRow_7 : decode cX9_longestRow 7 = .ok (.iconst 0, 1) := by decide +kernel
theorem dX9_longestRow_8 : decode cX9_longestRow 8 = .ok (.istore_n 2, 1) := by decide +kernel
theorem dX9_longestRow_9 : decode cX9_longestRow 9 = .ok (.iconst 0, 1) := by decide +kernel
theorem dX9_longestRow_10 : decode cX9_longestRow 10 = .ok (.istore_n 3, 1) := by decide +kernel
theorem dX9_longestRow_11 : decode cX9_longestRow 11 = .ok (.iload_n 3, 1) := by decide +kernel
theorem dX9_longestRow_12 : decode cX9_longestRow 12 = .ok (.aload_n 0, 1) := by decide +kernel
theorem dX9_longestRow_13 : decode cX9_longestRow 13 = .ok (.getfield 7, 3) := by decide +kernel
theorem dX9_longestRow_16 : decode cX9_longestRow 16 = .ok (.bipush 9, 2) := by decide +kernel
theorem dX9_longestRow_18 : decode cX9_longestRow 18 = .ok (.iaload, 1) := by decide +kernel
theorem dX9_longestRow_19 : decode cX9_longestRow 19 = .ok (.if_icmp .ge 32, 3) := by decide +kernel
theorem dX9_longestRow_22 : decode cX9_longestRow 22 = .ok (.aload_n 0, 1) := by decide +kernel
theorem dX9_longestRow_23 : decode cX9_longestRow 23 = .ok (.iload_n 3, 1) := by decide +kernel
theorem dX9_longestRow_24 : decode cX9_longestRow 24 = .ok (.invokevirtual 83, 3) := by decide +kernel
theorem dX9_longestRow_27 : decode cX9_longestRow 27 = .ok (.iconst (-1), 1) := by decide +kernel
theorem dX9_longestRow_28 : decode cX9_longestRow 28 = .ok (.if_icmp .ne 7, 3) := by decide +kernel
theorem dX9_longestRow_31 : decode cX9_longestRow 31 = .ok (.iconst 0, 1) := by decide +kernel
theorem dX9_longestRow_32 : decode cX9_longestRow 32 = .ok (.goto 6, 3) := by decide +kernel
theorem dX9_longestRow_35 : decode cX9_longestRow 35 = .ok (.iload_n 2, 1) := by decide +kernel
theorem dX9_longestRow_36 : decode cX9_longestRow 36 = .ok (.iconst 1, 1) := by decide +kernel
theorem dX9_longestRow_37 : decode cX9_longestRow 37 = .ok (.iadd, 1) := by decide +kernel
theorem dX9_longestRow_38 : decode cX9_longestRow 38 = .ok (.istore_n 2, 1) := by decide +kernel
theorem dX9_longestRow_39 : decode cX9_longestRow 39 = .ok (.iload_n 1, 1) := by decide +kernel
theorem dX9_longestRow_40 : decode cX9_longestRow 40 = .ok (.iload_n 2, 1) := by decide +kernel
theorem dX9_longestRow_41 : decode cX9_longestRow 41 = .ok (.invokestatic 315, 3) := by decide +kernel
theorem dX9_longestRow_44 : decode cX9_longestRow 44 = .ok (.istore_n 1, 1) := by decide +kernel
theorem dX9_longestRow_45 : decode cX9_longestRow 45 = .ok (.iinc 3 1, 3) := by decide +kernel
theorem dX9_longestRow_48 : decode cX9_longestRow 48 = .ok (.goto (-37), 3) := by decide +kernel
theorem dX9_longestRow_51 : decode cX9_longestRow 51 = .ok (.iload_n 1, 1) := by decide +kernel
theorem dX9_longestRow_52 : decode cX9_longestRow 52 = .ok (.ireturn, 1) := by decide +kernel
theorem dX9_sleepersWith_0 : decode cX9_sleepersWith 0 = .ok (.aload_n 0, 1) := by decide +kernel
theorem dX9_sleepersWith_1 : decode cX9_sleepersWith 1 = .ok (.iload_n 1, 1) := by decide +kernel
theorem dX9_sleepersWith_2 : decode cX9_sleepersWith 2 = .ok (.iconst 4, 1) := by decide +kernel
theorem dX9_sleepersWith_3 : decode cX9_sleepersWith 3 = .ok (.iload_n 2, 1) := by decide +kernel
theorem dX9_sleepersWith_4 : decode cX9_sleepersWith 4 = .ok (.invokevirtual 54, 3) := by decide +kernel
theorem dX9_sleepersWith_7 : decode cX9_sleepersWith 7 = .ok (.aload_n 0, 1) := by decide +kernel
theorem dX9_sleepersWith_8 : decode cX9_sleepersWith 8 = .ok (.iconst 2, 1) := by decide +kernel
theorem dX9_sleepersWith_9 : decode cX9_sleepersWith 9 = .ok (.invokevirtual 318, 3) := by decide +kernel
theorem dX9_sleepersWith_12 : decode cX9_sleepersWith 12 = .ok (.ireturn, 1) := by decide +kernel
theorem dX9_sleepersIf_0 : decode cX9_sleepersIf 0 = .ok (.aload_n 0, 1) := by decide +kernel
theorem dX9_sleepersIf_1 : decode cX9_sleepersIf 1 = .ok (.invokevirtual 229, 3) := by decide +kernel
theorem dX9_sleepersIf_4 : decode cX9_sleepersIf 4 = .ok (.aload_n 0, 1) := by decide +kernel
theorem dX9_sleepersIf_5 : decode cX9_sleepersIf 5 = .ok (.aload_n 0, 1) := by decide +kernel
theorem dX9_sleepersIf_6 : decode cX9_sleepersIf 6 = .ok (.iload_n 1, 1) := by decide +kernel
theorem dX9_sleepersIf_7 : decode cX9_sleepersIf 7 = .ok (.iload_n 2, 1) := by decide +kernel
theorem dX9_sleepersIf_8 : decode cX9_sleepersIf 8 = .ok (.invokevirtual 321, 3) := by decide +kernel
theorem dX9_sleepersIf_11 : decode cX9_sleepersIf 11 = .ok (.invokevirtual 238, 3) := by decide +kernel
theorem dX9_sleepersIf_14 : decode cX9_sleepersIf 14 = .ok (.ireturn, 1) := by decide +kernel
theorem dX9_isFreeFor_0 : decode cX9_isFreeFor 0 = .ok (.aload_n 0, 1) := by decide +kernel
theorem dX9_isFreeFor_1 : decode cX9_isFreeFor 1 = .ok (.iload_n 2, 1) := by decide +kernel
theorem dX9_isFreeFor_2 : decode cX9_isFreeFor 2 = .ok (.invokevirtual 83, 3) := by decide +kernel
theorem dX9_isFreeFor_5 : decode cX9_isFreeFor 5 = .ok (.iconst (-1), 1) := by decide +kernel
theorem dX9_isFreeFor_6 : decode cX9_isFreeFor 6 = .ok (.if_icmp .eq 12, 3) := by decide +kernel
theorem dX9_isFreeFor_9 : decode cX9_isFreeFor 9 = .ok (.aload_n 0, 1) := by decide +kernel
theorem dX9_isFreeFor_10 : decode cX9_isFreeFor 10 = .ok (.iload_n 2, 1) := by decide +kernel
theorem dX9_isFreeFor_11 : decode cX9_isFreeFor 11 = .ok (.invokevirtual 83, 3) := by decide +kernel
theorem dX9_isFreeFor_14 : decode cX9_isFreeFor 14 = .ok (.iload_n 1, 1) := by decide +kernel
theorem dX9_isFreeFor_15 : decode cX9_isFreeFor 15 = .ok (.if_icmp .ne 7, 3) := by decide +kernel
theorem dX9_isFreeFor_18 : decode cX9_isFreeFor 18 = .ok (.iconst 1, 1) := by decide +kernel
theorem dX9_isFreeFor_19 : decode cX9_isFreeFor 19 = .ok (.goto 4, 3) := by decide +kernel
theorem dX9_isFreeFor_22 : decode cX9_isFreeFor 22 = .ok (.iconst 0, 1) := by decide +kernel
theorem dX9_isFreeFor_23 : decode cX9_isFreeFor 23 = .ok (.ireturn, 1) := by decide +kernel
theorem dX9_bestPlaceFor_0 : decode cX9_bestPlaceFor 0 = .ok (.aload_n 0, 1) := by decide +kernel
theorem dX9_bestPlaceFor_1 : decode cX9_bestPlaceFor 1 = .ok (.iconst 0, 1) := by decide +kernel
theorem dX9_bestPlaceFor_2 : decode cX9_bestPlaceFor 2 = .ok (.putfield 57, 3) := by decide +kernel
theorem dX9_bestPlaceFor_5 : decode cX9_bestPlaceFor 5 = .ok (.aload_n 0, 1) := by decide +kernel
theorem dX9_bestPlaceFor_6 : decode cX9_bestPlaceFor 6 = .ok (.iload_n 1, 1) := by decide +kernel
theorem dX9_bestPlaceFor_7 : decode cX9_bestPlaceFor 7 = .ok (.invokevirtual 324, 3) := by decide +kernel
theorem dX9_bestPlaceFor_10 : decode cX9_bestPlaceFor 10 = .ok (.ifCond .ne 9, 3) := by decide +kernel
theorem dX9_bestPlaceFor_13 : decode cX9_bestPlaceFor 13 = .ok (.aload_n 0, 1) := by decide +kernel
theorem dX9_bestPlaceFor_14 : decode cX9_bestPlaceFor 14 = .ok (.iconst 1, 1) := by decide +kernel
theorem dX9_bestPlaceFor_15 : decode cX9_bestPlaceFor 15 = .ok (.invokevirtual 141, 3) := by decide +kernel
theorem dX9_bestPlaceFor_18 : decode cX9_bestPlaceFor 18 = .ok (.ireturn, 1) := by decide +kernel
theorem dX9_bestPlaceFor_19 : decode cX9_bestPlaceFor 19 = .ok (.iconst (-1), 1) := by decide +kernel
theorem dX9_bestPlaceFor_20 : decode cX9_bestPlaceFor 20 = .ok (.istore_n 2, 1) := by decide +kernel
theorem dX9_bestPlaceFor_21 : decode cX9_bestPlaceFor 21 = .ok (.aload_n 0, 1) := by decide +kernel
theorem dX9_bestPlaceFor_22 : decode cX9_bestPlaceFor 22 = .ok (.iload_n 1, 1) := by decide +kernel
theorem dX9_bestPlaceFor_23 : decode cX9_bestPlaceFor 23 = .ok (.iconst (-1), 1) := by decide +kernel
theorem dX9_bestPlaceFor_24 : decode cX9_bestPlaceFor 24 = .ok (.invokevirtual 327, 3) := by decide +kernel
theorem dX9_bestPlaceFor_27 : decode cX9_bestPlaceFor 27 = .ok (.istore_n 3, 1) := by decide +kernel
theorem dX9_bestPlaceFor_28 : decode cX9_bestPlaceFor 28 = .ok (.iconst 0, 1) := by decide +kernel
theorem dX9_bestPlaceFor_29 : decode cX9_bestPlaceFor 29 = .ok (.istore 4, 2) := by decide +kernel
theorem dX9_bestPlaceFor_31 : decode cX9_bestPlaceFor 31 = .ok (.iload 4, 2) := by decide +kernel
theorem dX9_bestPlaceFor_33 : decode cX9_bestPlaceFor 33 = .ok (.aload_n 0, 1) := by decide +kernel
theorem dX9_bestPlaceFor_34 : decode cX9_bestPlaceFor 34 = .ok (.getfield 7, 3) := by decide +kernel
theorem dX9_bestPlaceFor_37 : decode cX9_bestPlaceFor 37 = .ok (.bipush 9, 2) := by decide +kernel
theorem dX9_bestPlaceFor_39 : decode cX9_bestPlaceFor 39 = .ok (.iaload, 1) := by decide +kernel
theorem dX9_bestPlaceFor_40 : decode cX9_bestPlaceFor 40 = .ok (.if_icmp .ge 52, 3) := by decide +kernel
theorem dX9_bestPlaceFor_43 : decode cX9_bestPlaceFor 43 = .ok (.aload_n 0, 1) := by decide +kernel
theorem dX9_bestPlaceFor_44 : decode cX9_bestPlaceFor 44 = .ok (.iload_n 1, 1) := by decide +kernel
theorem dX9_bestPlaceFor_45 : decode cX9_bestPlaceFor 45 = .ok (.iload 4, 2) := by decide +kernel
theorem dX9_bestPlaceFor_47 : decode cX9_bestPlaceFor 47 = .ok (.invokevirtual 330, 3) := by decide +kernel
theorem dX9_bestPlaceFor_50 : decode cX9_bestPlaceFor 50 = .ok (.ifCond .eq 13, 3) := by decide +kernel
theorem dX9_bestPlaceFor_53 : decode cX9_bestPlaceFor 53 = .ok (.aload_n 0, 1) := by decide +kernel
theorem dX9_bestPlaceFor_54 : decode cX9_bestPlaceFor 54 = .ok (.iload_n 1, 1) := by decide +kernel
theorem dX9_bestPlaceFor_55 : decode cX9_bestPlaceFor 55 = .ok (.iload 4, 2) := by decide +kernel
theorem dX9_bestPlaceFor_57 : decode cX9_bestPlaceFor 57 = .ok (.invokevirtual 327, 3) := by decide +kernel
theorem dX9_bestPlaceFor_60 : decode cX9_bestPlaceFor 60 = .ok (.goto 4, 3) := by decide +kernel
theorem dX9_bestPlaceFor_63 : decode cX9_bestPlaceFor 63 = .ok (.iconst 0, 1) := by decide +kernel
theorem dX9_bestPlaceFor_64 : decode cX9_bestPlaceFor 64 = .ok (.istore 5, 2) := by decide +kernel
theorem dX9_bestPlaceFor_66 : decode cX9_bestPlaceFor 66 = .ok (.iload 5, 2) := by decide +kernel
theorem dX9_bestPlaceFor_68 : decode cX9_bestPlaceFor 68 = .ok (.iload_n 3, 1) := by decide +kernel
theorem dX9_bestPlaceFor_69 : decode cX9_bestPlaceFor 69 = .ok (.if_icmp .le 8, 3) := by decide +kernel
theorem dX9_bestPlaceFor_72 : decode cX9_bestPlaceFor 72 = .ok (.iload 4, 2) := by decide +kernel
theorem dX9_bestPlaceFor_74 : decode cX9_bestPlaceFor 74 = .ok (.goto 4, 3) := by decide +kernel
theorem dX9_bestPlaceFor_77 : decode cX9_bestPlaceFor 77 = .ok (.iload_n 2, 1) := by decide +kernel
theorem dX9_bestPlaceFor_78 : decode cX9_bestPlaceFor 78 = .ok (.istore_n 2, 1) := by decide +kernel
theorem dX9_bestPlaceFor_79 : decode cX9_bestPlaceFor 79 = .ok (.iload_n 3, 1) := by decide +kernel
theorem dX9_bestPlaceFor_80 : decode cX9_bestPlaceFor 80 = .ok (.iload 5, 2) := by decide +kernel
theorem dX9_bestPlaceFor_82 : decode cX9_bestPlaceFor 82 = .ok (.invokestatic 315, 3) := by decide +kernel
theorem dX9_bestPlaceFor_85 : decode cX9_bestPlaceFor 85 = .ok (.istore_n 3, 1) := by decide +kernel
theorem dX9_bestPlaceFor_86 : decode cX9_bestPlaceFor 86 = .ok (.iinc 4 1, 3) := by decide +kernel
theorem dX9_bestPlaceFor_89 : decode cX9_bestPlaceFor 89 = .ok (.goto (-58), 3) := by decide +kernel
theorem dX9_bestPlaceFor_92 : decode cX9_bestPlaceFor 92 = .ok (.iload_n 2, 1) := by decide +kernel
theorem dX9_bestPlaceFor_93 : decode cX9_bestPlaceFor 93 = .ok (.ireturn, 1) := by decide +kernel
theorem dX9_userOf_0 : decode cX9_userOf 0 = .ok (.aload_n 0, 1) := by decide +kernel
theorem dX9_userOf_1 : decode cX9_userOf 1 = .ok (.iconst 0, 1) := by decide +kernel
theorem dX9_userOf_2 : decode cX9_userOf 2 = .ok (.putfield 57, 3) := by decide +kernel
theorem dX9_userOf_5 : decode cX9_userOf 5 = .ok (.aload_n 0, 1) := by decide +kernel
theorem dX9_userOf_6 : decode cX9_userOf 6 = .ok (.iload_n 1, 1) := by decide +kernel
theorem dX9_userOf_7 : decode cX9_userOf 7 = .ok (.invokevirtual 333, 3) := by decide +kernel
theorem dX9_userOf_10 : decode cX9_userOf 10 = .ok (.ifCond .eq 12, 3) := by decide +kernel
theorem dX9_userOf_13 : decode cX9_userOf 13 = .ok (.aload_n 0, 1) := by decide +kernel
theorem dX9_userOf_14 : decode cX9_userOf 14 = .ok (.iconst 5, 1) := by decide +kernel
theorem dX9_userOf_15 : decode cX9_userOf 15 = .ok (.iload_n 1, 1) := by decide +kernel
theorem dX9_userOf_16 : decode cX9_userOf 16 = .ok (.invokevirtual 76, 3) := by decide +kernel
theorem dX9_userOf_19 : decode cX9_userOf 19 = .ok (.goto 8, 3) := by decide +kernel
theorem dX9_userOf_22 : decode cX9_userOf 22 = .ok (.aload_n 0, 1) := by decide +kernel
theorem dX9_userOf_23 : decode cX9_userOf 23 = .ok (.iconst 1, 1) := by decide +kernel
theorem dX9_userOf_24 : decode cX9_userOf 24 = .ok (.invokevirtual 141, 3) := by decide +kernel
theorem dX9_userOf_27 : decode cX9_userOf 27 = .ok (.ireturn, 1) := by decide +kernel
theorem dX9_isOnPile_0 : decode cX9_isOnPile 0 = .ok (.aload_n 0, 1) := by decide +kernel
theorem dX9_isOnPile_1 : decode cX9_isOnPile 1 = .ok (.iconst 5, 1) := by decide +kernel
theorem dX9_isOnPile_2 : decode cX9_isOnPile 2 = .ok (.iload_n 1, 1) := by decide +kernel
theorem dX9_isOnPile_3 : decode cX9_isOnPile 3 = .ok (.invokevirtual 76, 3) := by decide +kernel
theorem dX9_isOnPile_6 : decode cX9_isOnPile 6 = .ok (.iconst (-1), 1) := by decide +kernel
theorem dX9_isOnPile_7 : decode cX9_isOnPile 7 = .ok (.if_icmp .ne 7, 3) := by decide +kernel
theorem dX9_isOnPile_10 : decode cX9_isOnPile 10 = .ok (.iconst 1, 1) := by decide +kernel
theorem dX9_isOnPile_11 : decode cX9_isOnPile 11 = .ok (.goto 4, 3) := by decide +kernel
theorem dX9_isOnPile_14 : decode cX9_isOnPile 14 = .ok (.iconst 0, 1) := by decide +kernel
theorem dX9_isOnPile_15 : decode cX9_isOnPile 15 = .ok (.ireturn, 1) := by decide +kernel
theorem dX9_countPile_0 : decode cX9_countPile 0 = .ok (.iconst 0, 1) := by decide +kernel
theorem dX9_countPile_1 : decode cX9_countPile 1 = .ok (.istore_n 1, 1) := by decide +kernel
theorem dX9_countPile_2 : decode cX9_countPile 2 = .ok (.iconst 0, 1) := by decide +kernel
theorem dX9_countPile_3 : decode cX9_countPile 3 = .ok (.istore_n 2, 1) := by decide +kernel
theorem dX9_countPile_4 : decode cX9_countPile 4 = .ok (.iload_n 2, 1) := by decide +kernel
theorem dX9_countPile_5 : decode cX9_countPile 5 = .ok (.aload_n 0, 1) := by decide +kernel
theorem dX9_countPile_6 : decode cX9_countPile 6 = .ok (.getfield 7, 3) := by decide +kernel
theorem dX9_countPile_9 : decode cX9_countPile 9 = .ok (.bipush 10, 2) := by decide +kernel
theorem dX9_countPile_11 : decode cX9_countPile 11 = .ok (.iaload, 1) := by decide +kernel
theorem dX9_countPile_12 : decode cX9_countPile 12 = .ok (.if_icmp .ge 25, 3) := by decide +kernel
theorem dX9_countPile_15 : decode cX9_countPile 15 = .ok (.iload_n 1, 1) := by decide +kernel
theorem dX9_countPile_16 : decode cX9_countPile 16 = .ok (.aload_n 0, 1) := by decide +kernel
theorem dX9_countPile_17 : decode cX9_countPile 17 = .ok (.iload_n 2, 1) := by decide +kernel
theorem dX9_countPile_18 : decode cX9_countPile 18 = .ok (.invokevirtual 336, 3) := by decide +kernel
theorem dX9_countPile_21 : decode cX9_countPile 21 = .ok (.ifCond .eq 7, 3) := by decide +kernel
theorem dX9_countPile_24 : decode cX9_countPile 24 = .ok (.iconst 1, 1) := by decide +kernel
theorem dX9_countPile_25 : decode cX9_countPile 25 = .ok (.goto 4, 3) := by decide +kernel
theorem dX9_countPile_28 : decode cX9_countPile 28 = .ok (.iconst 0, 1) := by decide +kernel
theorem dX9_countPile_29 : decode cX9_countPile 29 = .ok (.iadd, 1) := by decide +kernel
theorem dX9_countPile_30 : decode cX9_countPile 30 = .ok (.istore_n 1, 1) := by decide +kernel
theorem dX9_countPile_31 : decode cX9_countPile 31 = .ok (.iinc 2 1, 3) := by decide +kernel
theorem dX9_countPile_34 : decode cX9_countPile 34 = .ok (.goto (-30), 3) := by decide +kernel
theorem dX9_countPile_37 : decode cX9_countPile 37 = .ok (.iload_n 1, 1) := by decide +kernel
theorem dX9_countPile_38 : decode cX9_countPile 38 = .ok (.ireturn, 1) := by decide +kernel
theorem dX9_rankOnPile_0 : decode cX9_rankOnPile 0 = .ok (.iconst 0, 1) := by decide +kernel
theorem dX9_rankOnPile_1 : decode cX9_rankOnPile 1 = .ok (.istore_n 2, 1) := by decide +kernel
theorem dX9_rankOnPile_2 : decode cX9_rankOnPile 2 = .ok (.iconst 0, 1) := by decide +kernel
theorem dX9_rankOnPile_3 : decode cX9_rankOnPile 3 = .ok (.istore_n 3, 1) := by decide +kernel
theorem dX9_rankOnPile_4 : decode cX9_rankOnPile 4 = .ok (.iload_n 3, 1) := by decide +kernel
theorem dX9_rankOnPile_5 : decode cX9_rankOnPile 5 = .ok (.aload_n 0, 1) := by decide +kernel
theorem dX9_rankOnPile_6 : decode cX9_rankOnPile 6 = .ok (.getfield 7, 3) := by decide +kernel
theorem dX9_rankOnPile_9 : decode cX9_rankOnPile 9 = .ok (.bipush 10, 2) := by decide +kernel
theorem dX9_rankOnPile_11 : decode cX9_rankOnPile 11 = .ok (.iaload, 1) := by decide +kernel
theorem dX9_rankOnPile_12 : decode cX9_rankOnPile 12 = .ok (.if_icmp .ge 61, 3) := by decide +kernel
theorem dX9_rankOnPile_15 : decode cX9_rankOnPile 15 = .ok (.aload_n 0, 1) := by decide +kernel
theorem dX9_rankOnPile_16 : decode cX9_rankOnPile 16 = .ok (.getfield 7, 3) := by decide +kernel
theorem dX9_rankOnPile_19 : decode cX9_rankOnPile 19 = .ok (.bipush 25, 2) := by decide +kernel
theorem dX9_rankOnPile_21 : decode cX9_rankOnPile 21 = .ok (.iload_n 3, 1) := by decide +kernel
theorem dX9_rankOnPile_22 : decode cX9_rankOnPile 22 = .ok (.iadd, 1) := by decide +kernel
theorem dX9_rankOnPile_23 : decode cX9_rankOnPile 23 = .ok (.iaload, 1) := by decide +kernel
theorem dX9_rankOnPile_24 : decode cX9_rankOnPile 24 = .ok (.aload_n 0, 1) := by decide +kernel
theorem dX9_rankOnPile_25 : decode cX9_rankOnPile 25 = .ok (.getfield 7, 3) := by decide +kernel
theorem dX9_rankOnPile_28 : decode cX9_rankOnPile 28 = .ok (.bipush 25, 2) := by decide +kernel
theorem dX9_rankOnPile_30 : decode cX9_rankOnPile 30 = .ok (.iload_n 1, 1) := by decide +kernel
theorem dX9_rankOnPile_31 : decode cX9_rankOnPile 31 = .ok (.iadd, 1) := by decide +kernel
theorem dX9_rankOnPile_32 : decode cX9_rankOnPile 32 = .ok (.iaload, 1) := by decide +kernel
theorem dX9_rankOnPile_33 : decode cX9_rankOnPile 33 = .ok (.isub, 1) := by decide +kernel
theorem dX9_rankOnPile_34 : decode cX9_rankOnPile 34 = .ok (.istore 4, 2) := by decide +kernel
theorem dX9_rankOnPile_36 : decode cX9_rankOnPile 36 = .ok (.iload_n 2, 1) := by decide +kernel
theorem dX9_rankOnPile_37 : decode cX9_rankOnPile 37 = .ok (.aload_n 0, 1) := by decide +kernel
theorem dX9_rankOnPile_38 : decode cX9_rankOnPile 38 = .ok (.iload_n 3, 1) := by decide +kernel
theorem dX9_rankOnPile_39 : decode cX9_rankOnPile 39 = .ok (.invokevirtual 336, 3) := by decide +kernel
theorem dX9_rankOnPile_42 : decode cX9_rankOnPile 42 = .ok (.ifCond .eq 22, 3) := by decide +kernel
theorem dX9_rankOnPile_45 : decode cX9_rankOnPile 45 = .ok (.iload 4, 2) := by decide +kernel
theorem dX9_rankOnPile_47 : decode cX9_rankOnPile 47 = .ok (.ifCond .gt 13, 3) := by decide +kernel
theorem dX9_rankOnPile_50 : decode cX9_rankOnPile 50 = .ok (.iload 4, 2) := by decide +kernel
theorem dX9_rankOnPile_52 : decode cX9_rankOnPile 52 = .ok (.ifCond .ne 12, 3) := by decide +kernel
theorem dX9_rankOnPile_55 : decode cX9_rankOnPile 55 = .ok (.iload_n 3, 1) := by decide +kernel
theorem dX9_rankOnPile_56 : decode cX9_rankOnPile 56 = .ok (.iload_n 1, 1) := by decide +kernel
theorem dX9_rankOnPile_57 : decode cX9_rankOnPile 57 = .ok (.if_icmp .ge 7, 3) := by decide +kernel
theorem dX9_rankOnPile_60 : decode cX9_rankOnPile 60 = .ok (.iconst 1, 1) := by decide +kernel
theorem dX9_rankOnPile_61 : decode cX9_rankOnPile 61 = .ok (.goto 4, 3) := by decide +kernel
theorem dX9_rankOnPile_64 : decode cX9_rankOnPile 64 = .ok (.iconst 0, 1) := by decide +kernel
theorem dX9_rankOnPile_65 : decode cX9_rankOnPile 65 = .ok (.iadd, 1) := by decide +kernel
theorem dX9_rankOnPile_66 : decode cX9_rankOnPile 66 = .ok (.istore_n 2, 1) := by decide +kernel
theorem dX9_rankOnPile_67 : decode cX9_rankOnPile 67 = .ok (.iinc 3 1, 3) := by decide +kernel
theorem dX9_rankOnPile_70 : decode cX9_rankOnPile 70 = .ok (.goto (-66), 3) := by decide +kernel
theorem dX9_rankOnPile_73 : decode cX9_rankOnPile 73 = .ok (.iload_n 2, 1) := by decide +kernel
theorem dX9_rankOnPile_74 : decode cX9_rankOnPile 74 = .ok (.ireturn, 1) := by decide +kernel
theorem dX9_blanketOnPile_0 : decode cX9_blanketOnPile 0 = .ok (.aload_n 0, 1) := by decide +kernel
theorem dX9_blanketOnPile_1 : decode cX9_blanketOnPile 1 = .ok (.iconst 0, 1) := by decide +kernel
theorem dX9_blanketOnPile_2 : decode cX9_blanketOnPile 2 = .ok (.putfield 57, 3) := by decide +kernel
theorem dX9_blanketOnPile_5 : decode cX9_blanketOnPile 5 = .ok (.iconst 0, 1) := by decide +kernel
theorem dX9_blanketOnPile_6 : decode cX9_blanketOnPile 6 = .ok (.istore_n 2, 1) := by decide +kernel
theorem dX9_blanketOnPile_7 : decode cX9_blanketOnPile 7 = .ok (.iload_n 2, 1) := by decide +kernel
theorem dX9_blanketOnPile_8 : decode cX9_blanketOnPile 8 = .ok (.aload_n 0, 1) := by decide +kernel
theorem dX9_blanketOnPile_9 : decode cX9_blanketOnPile 9 = .ok (.getfield 7, 3) := by decide +kernel
theorem dX9_blanketOnPile_12 : decode cX9_blanketOnPile 12 = .ok (.bipush 10, 2) := by decide +kernel
theorem dX9_blanketOnPile_14 : decode cX9_blanketOnPile 14 = .ok (.iaload, 1) := by decide +kernel
theorem dX9_blanketOnPile_15 : decode cX9_blanketOnPile 15 = .ok (.if_icmp .ge 28, 3) := by decide +kernel
theorem dX9_blanketOnPile_18 : decode cX9_blanketOnPile 18 = .ok (.aload_n 0, 1) := by decide +kernel
theorem dX9_blanketOnPile_19 : decode cX9_blanketOnPile 19 = .ok (.iload_n 2, 1) := by decide +kernel
theorem dX9_blanketOnPile_20 : decode cX9_blanketOnPile 20 = .ok (.invokevirtual 336, 3) := by decide +kernel
theorem dX9_blanketOnPile_23 : decode cX9_blanketOnPile 23 = .ok (.ifCond .eq 14, 3) := by decide +kernel
theorem dX9_blanketOnPile_26 : decode cX9_blanketOnPile 26 = .ok (.aload_n 0, 1) := by decide +kernel
theorem dX9_blanketOnPile_27 : decode cX9_blanketOnPile 27 = .ok (.iload_n 2, 1) := by decide +kernel
theorem dX9_blanketOnPile_28 : decode cX9_blanketOnPile 28 = .ok (.invokevirtual 339, 3) := by decide +kernel
theorem dX9_blanketOnPile_31 : decode cX9_blanketOnPile 31 = .ok (.iload_n 1, 1) := by decide +kernel
theorem dX9_blanketOnPile_32 : decode cX9_blanketOnPile 32 = .ok (.if_icmp .ne 5, 3) := by decide +kernel
theorem dX9_blanketOnPile_35 : decode cX9_blanketOnPile 35 = .ok (.iload_n 2, 1) := by decide +kernel
theorem dX9_blanketOnPile_36 : decode cX9_blanketOnPile 36 = .ok (.ireturn, 1) := by decide +kernel
theorem dX9_blanketOnPile_37 : decode cX9_blanketOnPile 37 = .ok (.iinc 2 1, 3) := by decide +kernel
theorem dX9_blanketOnPile_40 : decode cX9_blanketOnPile 40 = .ok (.goto (-33), 3) := by decide +kernel
theorem dX9_blanketOnPile_43 : decode cX9_blanketOnPile 43 = .ok (.aload_n 0, 1) := by decide +kernel
theorem dX9_blanketOnPile_44 : decode cX9_blanketOnPile 44 = .ok (.iconst 1, 1) := by decide +kernel
theorem dX9_blanketOnPile_45 : decode cX9_blanketOnPile 45 = .ok (.invokevirtual 141, 3) := by decide +kernel
theorem dX9_blanketOnPile_48 : decode cX9_blanketOnPile 48 = .ok (.ireturn, 1) := by decide +kernel
theorem dX9_pileSize_0 : decode cX9_pileSize 0 = .ok (.aload_n 0, 1) := by decide +kernel
theorem dX9_pileSize_1 : decode cX9_pileSize 1 = .ok (.iconst 0, 1) := by decide +kernel
theorem dX9_pileSize_2 : decode cX9_pileSize 2 = .ok (.putfield 57, 3) := by decide +kernel
theorem dX9_pileSize_5 : decode cX9_pileSize 5 = .ok (.aload_n 0, 1) := by decide +kernel
theorem dX9_pileSize_6 : decode cX9_pileSize 6 = .ok (.invokevirtual 342, 3) := by decide +kernel
theorem dX9_pileSize_9 : decode cX9_pileSize 9 = .ok (.ireturn, 1) := by decide +kernel
theorem dX9_fittingBlanket_0 : decode cX9_fittingBlanket 0 = .ok (.aload_n 0, 1) := by decide +kernel
theorem dX9_fittingBlanket_1 : decode cX9_fittingBlanket 1 = .ok (.iconst 0, 1) := by decide +kernel
theorem dX9_fittingBlanket_2 : decode cX9_fittingBlanket 2 = .ok (.putfield 57, 3) := by decide +kernel
theorem dX9_fittingBlanket_5 : decode cX9_fittingBlanket 5 = .ok (.aload_n 0, 1) := by decide +kernel
theorem dX9_fittingBlanket_6 : decode cX9_fittingBlanket 6 = .ok (.iload_n 1, 1) := by decide +kernel
theorem dX9_fittingBlanket_7 : decode cX9_fittingBlanket 7 = .ok (.invokevirtual 324, 3) := by decide +kernel
theorem dX9_fittingBlanket_10 : decode cX9_fittingBlanket 10 = .ok (.ifCond .ne 9, 3) := by decide +kernel
theorem dX9_fittingBlanket_13 : decode cX9_fittingBlanket 13 = .ok (.aload_n 0, 1) := by decide +kernel
theorem dX9_fittingBlanket_14 : decode cX9_fittingBlanket 14 = .ok (.iconst 1, 1) := by decide +kernel
theorem dX9_fittingBlanket_15 : decode cX9_fittingBlanket 15 = .ok (.invokevirtual 141, 3) := by decide +kernel
theorem dX9_fittingBlanket_18 : decode cX9_fittingBlanket 18 = .ok (.ireturn, 1) := by decide +kernel
theorem dX9_fittingBlanket_19 : decode cX9_fittingBlanket 19 = .ok (.iconst (-1), 1) := by decide +kernel
theorem dX9_fittingBlanket_20 : decode cX9_fittingBlanket 20 = .ok (.istore_n 2, 1) := by decide +kernel
theorem dX9_fittingBlanket_21 : decode cX9_fittingBlanket 21 = .ok (.iconst 0, 1) := by decide +kernel
theorem dX9_fittingBlanket_22 : decode cX9_fittingBlanket 22 = .ok (.istore_n 3, 1) := by decide +kernel
theorem dX9_fittingBlanket_23 : decode cX9_fittingBlanket 23 = .ok (.iload_n 3, 1) := by decide +kernel
theorem dX9_fittingBlanket_24 : decode cX9_fittingBlanket 24 = .ok (.aload_n 0, 1) := by decide +kernel
theorem dX9_fittingBlanket_25 : decode cX9_fittingBlanket 25 = .ok (.getfield 7, 3) := by decide +kernel
theorem dX9_fittingBlanket_28 : decode cX9_fittingBlanket 28 = .ok (.bipush 10, 2) := by decide +kernel
theorem dX9_fittingBlanket_30 : decode cX9_fittingBlanket 30 = .ok (.iaload, 1) := by decide +kernel
theorem dX9_fittingBlanket_31 : decode cX9_fittingBlanket 31 = .ok (.if_icmp .ge 82, 3) := by decide +kernel
theorem dX9_fittingBlanket_34 : decode cX9_fittingBlanket 34 = .ok (.aload_n 0, 1) := by decide +kernel
theorem dX9_fittingBlanket_35 : decode cX9_fittingBlanket 35 = .ok (.getfield 7, 3) := by decide +kernel
theorem dX9_fittingBlanket_38 : decode cX9_fittingBlanket 38 = .ok (.bipush 25, 2) := by decide +kernel
theorem dX9_fittingBlanket_40 : decode cX9_fittingBlanket 40 = .ok (.iload_n 3, 1) := by decide +kernel
theorem dX9_fittingBlanket_41 : decode cX9_fittingBlanket 41 = .ok (.iadd, 1) := by decide +kernel
theorem dX9_fittingBlanket_42 : decode cX9_fittingBlanket 42 = .ok (.iaload, 1) := by decide +kernel
theorem dX9_fittingBlanket_43 : decode cX9_fittingBlanket 43 = .ok (.istore 4, 2) := by decide +kernel
theorem dX9_fittingBlanket_45 : decode cX9_fittingBlanket 45 = .ok (.aload_n 0, 1) := by decide +kernel
theorem dX9_fittingBlanket_46 : decode cX9_fittingBlanket 46 = .ok (.iload_n 3, 1) := by decide +kernel
theorem dX9_fittingBlanket_47 : decode cX9_fittingBlanket 47 = .ok (.invokevirtual 336, 3) := by decide +kernel
theorem dX9_fittingBlanket_50 : decode cX9_fittingBlanket 50 = .ok (.ifCond .eq 24, 3) := by decide +kernel
theorem dX9_fittingBlanket_53 : decode cX9_fittingBlanket 53 = .ok (.aload_n 0, 1) := by decide +kernel
theorem dX9_fittingBlanket_54 : decode cX9_fittingBlanket 54 = .ok (.iload_n 1, 1) := by decide +kernel
theorem dX9_fittingBlanket_55 : decode cX9_fittingBlanket 55 = .ok (.invokevirtual 87, 3) := by decide +kernel
theorem dX9_fittingBlanket_58 : decode cX9_fittingBlanket 58 = .ok (.iload 4, 2) := by decide +kernel
theorem dX9_fittingBlanket_60 : decode cX9_fittingBlanket 60 = .ok (.iadd, 1) := by decide +kernel
theorem dX9_fittingBlanket_61 : decode cX9_fittingBlanket 61 = .ok (.aload_n 0, 1) := by decide +kernel
theorem dX9_fittingBlanket_62 : decode cX9_fittingBlanket 62 = .ok (.iload_n 1, 1) := by decide +kernel
theorem dX9_fittingBlanket_63 : decode cX9_fittingBlanket 63 = .ok (.iconst 0, 1) := by decide +kernel
theorem dX9_fittingBlanket_64 : decode cX9_fittingBlanket 64 = .ok (.invokevirtual 64, 3) := by decide +kernel
theorem dX9_fittingBlanket_67 : decode cX9_fittingBlanket 67 = .ok (.if_icmp .lt 7, 3) := by decide +kernel
theorem dX9_fittingBlanket_70 : decode cX9_fittingBlanket 70 = .ok (.iconst 1, 1) := by decide +kernel
theorem dX9_fittingBlanket_71 : decode cX9_fittingBlanket 71 = .ok (.goto 4, 3) := by decide +kernel
theorem dX9_fittingBlanket_74 : decode cX9_fittingBlanket 74 = .ok (.iconst 0, 1) := by decide +kernel
theorem dX9_fittingBlanket_75 : decode cX9_fittingBlanket 75 = .ok (.istore 5, 2) := by decide +kernel
theorem dX9_fittingBlanket_77 : decode cX9_fittingBlanket 77 = .ok (.iload 5, 2) := by decide +kernel
theorem dX9_fittingBlanket_79 : decode cX9_fittingBlanket 79 = .ok (.ifCond .eq 26, 3) := by decide +kernel
theorem dX9_fittingBlanket_82 : decode cX9_fittingBlanket 82 = .ok (.iload_n 2, 1) := by decide +kernel
theorem dX9_fittingBlanket_83 : decode cX9_fittingBlanket 83 = .ok (.iconst (-1), 1) := by decide +kernel
theorem dX9_fittingBlanket_84 : decode cX9_fittingBlanket 84 = .ok (.if_icmp .eq 17, 3) := by decide +kernel
theorem dX9_fittingBlanket_87 : decode cX9_fittingBlanket 87 = .ok (.iload 4, 2) := by decide +kernel
theorem dX9_fittingBlanket_89 : decode cX9_fittingBlanket 89 = .ok (.aload_n 0, 1) := by decide +kernel
theorem dX9_fittingBlanket_90 : decode cX9_fittingBlanket 90 = .ok (.getfield 7, 3) := by decide +kernel
theorem dX9_fittingBlanket_93 : decode cX9_fittingBlanket 93 = .ok (.bipush 25, 2) := by decide +kernel
theorem dX9_fittingBlanket_95 : decode cX9_fittingBlanket 95 = .ok (.iload_n 2, 1) := by decide +kernel
theorem dX9_fittingBlanket_96 : decode cX9_fittingBlanket 96 = .ok (.iadd, 1) := by decide +kernel
theorem dX9_fittingBlanket_97 : decode cX9_fittingBlanket 97 = .ok (.iaload, 1) := by decide +kernel
theorem dX9_fittingBlanket_98 : decode cX9_fittingBlanket 98 = .ok (.if_icmp .ge 7, 3) := by decide +kernel
theorem dX9_fittingBlanket_101 : decode cX9_fittingBlanket 101 = .ok (.iload_n 3, 1) := by decide +kernel
theorem dX9_fittingBlanket_102 : decode cX9_fittingBlanket 102 = .ok (.goto 4, 3) := by decide +kernel
theorem dX9_fittingBlanket_105 : decode cX9_fittingBlanket 105 = .ok (.iload_n 2, 1) := by decide +kernel
theorem dX9_fittingBlanket_106 : decode cX9_fittingBlanket 106 = .ok (.istore_n 2, 1) := by decide +kernel
theorem dX9_fittingBlanket_107 : decode cX9_fittingBlanket 107 = .ok (.iinc 3 1, 3) := by decide +kernel
theorem dX9_fittingBlanket_110 : decode cX9_fittingBlanket 110 = .ok (.goto (-87), 3) := by decide +kernel
theorem dX9_fittingBlanket_113 : decode cX9_fittingBlanket 113 = .ok (.iload_n 2, 1) := by decide +kernel
theorem dX9_fittingBlanket_114 : decode cX9_fittingBlanket 114 = .ok (.ireturn, 1) := by decide +kernel
theorem dX9_hikerCount_0 : decode cX9_hikerCount 0 = .ok (.aload_n 0, 1) := by decide +kernel
theorem dX9_hikerCount_1 : decode cX9_hikerCount 1 = .ok (.aload_n 0, 1) := by decide +kernel
theorem dX9_hikerCount_2 : decode cX9_hikerCount 2 = .ok (.getfield 7, 3) := by decide +kernel
theorem dX9_hikerCount_5 : decode cX9_hikerCount 5 = .ok (.bipush 12, 2) := by decide +kernel
theorem dX9_hikerCount_7 : decode cX9_hikerCount 7 = .ok (.iaload, 1) := by decide +kernel
theorem dX9_hikerCount_8 : decode cX9_hikerCount 8 = .ok (.invokevirtual 305, 3) := by decide +kernel
theorem dX9_hikerCount_11 : decode cX9_hikerCount 11 = .ok (.ireturn, 1) := by decide +kernel
theorem dX9_tellOf_0 : decode cX9_tellOf 0 = .ok (.aload_n 0, 1) := by decide +kernel
theorem dX9_tellOf_1 : decode cX9_tellOf 1 = .ok (.iconst 0, 1) := by decide +kernel
theorem dX9_tellOf_2 : decode cX9_tellOf 2 = .ok (.putfield 57, 3) := by decide +kernel
theorem dX9_tellOf_5 : decode cX9_tellOf 5 = .ok (.aload_n 0, 1) := by decide +kernel
theorem dX9_tellOf_6 : decode cX9_tellOf 6 = .ok (.iload_n 1, 1) := by decide +kernel
theorem dX9_tellOf_7 : decode cX9_tellOf 7 = .ok (.invokevirtual 324, 3) := by decide +kernel
theorem dX9_tellOf_10 : decode cX9_tellOf 10 = .ok (.ifCond .eq 12, 3) := by decide +kernel
theorem dX9_tellOf_13 : decode cX9_tellOf 13 = .ok (.aload_n 0, 1) := by decide +kernel
theorem dX9_tellOf_14 : decode cX9_tellOf 14 = .ok (.iload_n 1, 1) := by decide +kernel
theorem dX9_tellOf_15 : decode cX9_tellOf 15 = .ok (.iload_n 2, 1) := by decide +kernel
theorem dX9_tellOf_16 : decode cX9_tellOf 16 = .ok (.invokevirtual 64, 3) := by decide +kernel
theorem dX9_tellOf_19 : decode cX9_tellOf 19 = .ok (.goto 8, 3) := by decide +kernel
theorem dX9_tellOf_22 : decode cX9_tellOf 22 = .ok (.aload_n 0, 1) := by decide +kernel
theorem dX9_tellOf_23 : decode cX9_tellOf 23 = .ok (.iconst 1, 1) := by decide +kernel
theorem dX9_tellOf_24 : decode cX9_tellOf 24 = .ok (.invokevirtual 141, 3) := by decide +kernel
theorem dX9_tellOf_27 : decode cX9_tellOf 27 = .ok (.ireturn, 1) := by decide +kernel
theorem dX9_bunkOf_0 : decode cX9_bunkOf 0 = .ok (.aload_n 0, 1) := by decide +kernel
theorem dX9_bunkOf_1 : decode cX9_bunkOf 1 = .ok (.iload_n 1, 1) := by decide +kernel
theorem dX9_bunkOf_2 : decode cX9_bunkOf 2 = .ok (.iconst 4, 1) := by decide +kernel
theorem dX9_bunkOf_3 : decode cX9_bunkOf 3 = .ok (.invokevirtual 345, 3) := by decide +kernel
theorem dX9_bunkOf_6 : decode cX9_bunkOf 6 = .ok (.ireturn, 1) := by decide +kernel
theorem dX9_blanketOf_0 : decode cX9_blanketOf 0 = .ok (.aload_n 0, 1) := by decide +kernel
theorem dX9_blanketOf_1 : decode cX9_blanketOf 1 = .ok (.iload_n 1, 1) := by decide +kernel
theorem dX9_blanketOf_2 : decode cX9_blanketOf 2 = .ok (.iconst 5, 1) := by decide +kernel
theorem dX9_blanketOf_3 : decode cX9_blanketOf 3 = .ok (.invokevirtual 345, 3) := by decide +kernel
theorem dX9_blanketOf_6 : decode cX9_blanketOf 6 = .ok (.ireturn, 1) := by decide +kernel
theorem dX9_warmth_0 : decode cX9_warmth 0 = .ok (.aload_n 0, 1) := by decide +kernel
theorem dX9_warmth_1 : decode cX9_warmth 1 = .ok (.iconst 0, 1) := by decide +kernel
theorem dX9_warmth_2 : decode cX9_warmth 2 = .ok (.putfield 57, 3) := by decide +kernel
theorem dX9_warmth_5 : decode cX9_warmth 5 = .ok (.aload_n 0, 1) := by decide +kernel
theorem dX9_warmth_6 : decode cX9_warmth 6 = .ok (.iload_n 1, 1) := by decide +kernel
theorem dX9_warmth_7 : decode cX9_warmth 7 = .ok (.invokevirtual 324, 3) := by decide +kernel
theorem dX9_warmth_10 : decode cX9_warmth 10 = .ok (.ifCond .eq 11, 3) := by decide +kernel
theorem dX9_warmth_13 : decode cX9_warmth 13 = .ok (.aload_n 0, 1) := by decide +kernel
theorem dX9_warmth_14 : decode cX9_warmth 14 = .ok (.iload_n 1, 1) := by decide +kernel
theorem dX9_warmth_15 : decode cX9_warmth 15 = .ok (.invokevirtual 93, 3) := by decide +kernel
theorem dX9_warmth_18 : decode cX9_warmth 18 = .ok (.goto 8, 3) := by decide +kernel
theorem dX9_warmth_21 : decode cX9_warmth 21 = .ok (.aload_n 0, 1) := by decide +kernel
theorem dX9_warmth_22 : decode cX9_warmth 22 = .ok (.iconst 1, 1) := by decide +kernel
theorem dX9_warmth_23 : decode cX9_warmth 23 = .ok (.invokevirtual 141, 3) := by decide +kernel
theorem dX9_warmth_26 : decode cX9_warmth 26 = .ok (.ireturn, 1) := by decide +kernel
theorem dX9_activity_0 : decode cX9_activity 0 = .ok (.aload_n 0, 1) := by decide +kernel
theorem dX9_activity_1 : decode cX9_activity 1 = .ok (.iconst 0, 1) := by decide +kernel
theorem dX9_activity_2 : decode cX9_activity 2 = .ok (.putfield 57, 3) := by decide +kernel
theorem dX9_activity_5 : decode cX9_activity 5 = .ok (.aload_n 0, 1) := by decide +kernel
theorem dX9_activity_6 : decode cX9_activity 6 = .ok (.iload_n 1, 1) := by decide +kernel
theorem dX9_activity_7 : decode cX9_activity 7 = .ok (.invokevirtual 324, 3) := by decide +kernel
theorem dX9_activity_10 : decode cX9_activity 10 = .ok (.ifCond .eq 11, 3) := by decide +kernel
theorem dX9_activity_13 : decode cX9_activity 13 = .ok (.aload_n 0, 1) := by decide +kernel
theorem dX9_activity_14 : decode cX9_activity 14 = .ok (.iload_n 1, 1) := by decide +kernel
theorem dX9_activity_15 : decode cX9_activity 15 = .ok (.invokevirtual 105, 3) := by decide +kernel
theorem dX9_activity_18 : decode cX9_activity 18 = .ok (.goto 8, 3) := by decide +kernel
theorem dX9_activity_21 : decode cX9_activity 21 = .ok (.aload_n 0, 1) := by decide +kernel
theorem dX9_activity_22 : decode cX9_activity 22 = .ok (.iconst 1, 1) := by decide +kernel
theorem dX9_activity_23 : decode cX9_activity 23 = .ok (.invokevirtual 141, 3) := by decide +kernel
theorem dX9_activity_26 : decode cX9_activity 26 = .ok (.ireturn, 1) := by decide +kernel
theorem dX9_hoursOf_0 : decode cX9_hoursOf 0 = .ok (.aload_n 0, 1) := by decide +kernel
theorem dX9_hoursOf_1 : decode cX9_hoursOf 1 = .ok (.aload_n 0, 1) := by decide +kernel
theorem dX9_hoursOf_2 : decode cX9_hoursOf 2 = .ok (.iload_n 1, 1) := by decide +kernel
theorem dX9_hoursOf_3 : decode cX9_hoursOf 3 = .ok (.invokevirtual 324, 3) := by decide +kernel
theorem dX9_hoursOf_6 : decode cX9_hoursOf 6 = .ok (.ifCond .ne 7, 3) := by decide +kernel
theorem dX9_hoursOf_9 : decode cX9_hoursOf 9 = .ok (.iconst 1, 1) := by decide +kernel
theorem dX9_hoursOf_10 : decode cX9_hoursOf 10 = .ok (.goto 17, 3) := by decide +kernel
theorem dX9_hoursOf_13 : decode cX9_hoursOf 13 = .ok (.iload_n 2, 1) := by decide +kernel
theorem dX9_hoursOf_14 : decode cX9_hoursOf 14 = .ok (.iconst 0, 1) := by decide +kernel
theorem dX9_hoursOf_15 : decode cX9_hoursOf 15 = .ok (.iconst 3, 1) := by decide +kernel
theorem dX9_hoursOf_16 : decode cX9_hoursOf 16 = .ok (.invokestatic 68, 3) := by decide +kernel
theorem dX9_hoursOf_19 : decode cX9_hoursOf 19 = .ok (.ifCond .eq 7, 3) := by decide +kernel
theorem dX9_hoursOf_22 : decode cX9_hoursOf 22 = .ok (.iconst 0, 1) := by decide +kernel
theorem dX9_hoursOf_23 : decode cX9_hoursOf 23 = .ok (.goto 4, 3) := by decide +kernel
theorem dX9_hoursOf_26 : decode cX9_hoursOf 26 = .ok (.iconst 2, 1) := by decide +kernel
theorem dX9_hoursOf_27 : decode cX9_hoursOf 27 = .ok (.putfield 57, 3) := by decide +kernel
theorem dX9_hoursOf_30 : decode cX9_hoursOf 30 = .ok (.aload_n 0, 1) := by decide +kernel
theorem dX9_hoursOf_31 : decode cX9_hoursOf 31 = .ok (.getfield 57, 3) := by decide +kernel
theorem dX9_hoursOf_34 : decode cX9_hoursOf 34 = .ok (.ifCond .le 7, 3) := by decide +kernel
theorem dX9_hoursOf_37 : decode cX9_hoursOf 37 = .ok (.iconst 0, 1) := by decide +kernel
theorem dX9_hoursOf_38 : decode cX9_hoursOf 38 = .ok (.goto 12, 3) := by decide +kernel
theorem dX9_hoursOf_41 : decode cX9_hoursOf 41 = .ok (.aload_n 0, 1) := by decide +kernel
theorem dX9_hoursOf_42 : decode cX9_hoursOf 42 = .ok (.iload_n 1, 1) := by decide +kernel
theorem dX9_hoursOf_43 : decode cX9_hoursOf 43 = .ok (.bipush 6, 2) := by decide +kernel
theorem dX9_hoursOf_45 : decode cX9_hoursOf 45 = .ok (.iload_n 2, 1) := by decide +kernel
theorem dX9_hoursOf_46 : decode cX9_hoursOf 46 = .ok (.iadd, 1) := by decide +kernel
theorem dX9_hoursOf_47 : decode cX9_hoursOf 47 = .ok (.invokevirtual 64, 3) := by decide +kernel
theorem dX9_hoursOf_50 : decode cX9_hoursOf 50 = .ok (.ireturn, 1) := by decide +kernel
theorem dX9_coinsOf_0 : decode cX9_coinsOf 0 = .ok (.aload_n 0, 1) := by decide +kernel
theorem dX9_coinsOf_1 : decode cX9_coinsOf 1 = .ok (.iload_n 1, 1) := by decide +kernel
theorem dX9_coinsOf_2 : decode cX9_coinsOf 2 = .ok (.iconst 2, 1) := by decide +kernel
theorem dX9_coinsOf_3 : decode cX9_coinsOf 3 = .ok (.invokevirtual 345, 3) := by decide +kernel
theorem dX9_coinsOf_6 : decode cX9_coinsOf 6 = .ok (.ireturn, 1) := by decide +kernel
theorem dX9_debtOf_0 : decode cX9_debtOf 0 = .ok (.aload_n 0, 1) := by decide +kernel
theorem dX9_debtOf_1 : decode cX9_debtOf 1 = .ok (.iload_n 1, 1) := by decide +kernel
theorem dX9_debtOf_2 : decode cX9_debtOf 2 = .ok (.iconst 3, 1) := by decide +kernel
theorem dX9_debtOf_3 : decode cX9_debtOf 3 = .ok (.invokevirtual 345, 3) := by decide +kernel
theorem dX9_debtOf_6 : decode cX9_debtOf 6 = .ok (.ireturn, 1) := by decide +kernel
theorem dX9_isAhead_0 : decode cX9_isAhead 0 = .ok (.aload_n 0, 1) := by decide +kernel
theorem dX9_isAhead_1 : decode cX9_isAhead 1 = .ok (.iload_n 1, 1) := by decide +kernel
theorem dX9_isAhead_2 : decode cX9_isAhead 2 = .ok (.bipush 8, 2) := by decide +kernel
theorem dX9_isAhead_4 : decode cX9_isAhead 4 = .ok (.invokevirtual 64, 3) := by decide +kernel
theorem dX9_isAhead_7 : decode cX9_isAhead 7 = .ok (.aload_n 0, 1) := by decide +kernel
theorem dX9_isAhead_8 : decode cX9_isAhead 8 = .ok (.iload_n 2, 1) := by decide +kernel
theorem dX9_isAhead_9 : decode cX9_isAhead 9 = .ok (.bipush 8, 2) := by decide +kernel
theorem dX9_isAhead_11 : decode cX9_isAhead 11 = .ok (.invokevirtual 64, 3) := by decide +kernel
theorem dX9_isAhead_14 : decode cX9_isAhead 14 = .ok (.isub, 1) := by decide +kernel
theorem dX9_isAhead_15 : decode cX9_isAhead 15 = .ok (.istore_n 3, 1) := by decide +kernel
theorem dX9_isAhead_16 : decode cX9_isAhead 16 = .ok (.iload_n 3, 1) := by decide +kernel
theorem dX9_isAhead_17 : decode cX9_isAhead 17 = .ok (.ifCond .ne 19, 3) := by decide +kernel
theorem dX9_isAhead_20 : decode cX9_isAhead 20 = .ok (.aload_n 0, 1) := by decide +kernel
theorem dX9_isAhead_21 : decode cX9_isAhead 21 = .ok (.iload_n 2, 1) := by decide +kernel
theorem dX9_isAhead_22 : decode cX9_isAhead 22 = .ok (.bipush 6, 2) := by decide +kernel
theorem dX9_isAhead_24 : decode cX9_isAhead 24 = .ok (.invokevirtual 64, 3) := by decide +kernel
theorem dX9_isAhead_27 : decode cX9_isAhead 27 = .ok (.aload_n 0, 1) := by decide +kernel
theorem dX9_isAhead_28 : decode cX9_isAhead 28 = .ok (.iload_n 1, 1) := by decide +kernel
theorem dX9_isAhead_29 : decode cX9_isAhead 29 = .ok (.bipush 6, 2) := by decide +kernel
theorem dX9_isAhead_31 : decode cX9_isAhead 31 = .ok (.invokevirtual 64, 3) := by decide +kernel
theorem dX9_isAhead_34 : decode cX9_isAhead 34 = .ok (.isub, 1) := by decide +kernel
theorem dX9_isAhead_35 : decode cX9_isAhead 35 = .ok (.istore_n 3, 1) := by decide +kernel
theorem dX9_isAhead_36 : decode cX9_isAhead 36 = .ok (.iload_n 3, 1) := by decide +kernel
theorem dX9_isAhead_37 : decode cX9_isAhead 37 = .ok (.ifCond .eq 15, 3) := by decide +kernel
theorem dX9_isAhead_40 : decode cX9_isAhead 40 = .ok (.iload_n 3, 1) := by decide +kernel
theorem dX9_isAhead_41 : decode cX9_isAhead 41 = .ok (.ifCond .le 7, 3) := by decide +kernel
theorem dX9_isAhead_44 : decode cX9_isAhead 44 = .ok (.iconst 1, 1) := by decide +kernel
theorem dX9_isAhead_45 : decode cX9_isAhead 45 = .ok (.goto 17, 3) := by decide +kernel
theorem dX9_isAhead_48 : decode cX9_isAhead 48 = .ok (.iconst 0, 1) := by decide +kernel
theorem dX9_isAhead_49 : decode cX9_isAhead 49 = .ok (.goto 13, 3) := by decide +kernel
theorem dX9_isAhead_52 : decode cX9_isAhead 52 = .ok (.iload_n 1, 1) := by decide +kernel
theorem dX9_isAhead_53 : decode cX9_isAhead 53 = .ok (.iload_n 2, 1) := by decide +kernel
theorem dX9_isAhead_54 : decode cX9_isAhead 54 = .ok (.if_icmp .ge 7, 3) := by decide +kernel
theorem dX9_isAhead_57 : decode cX9_isAhead 57 = .ok (.iconst 1, 1) := by decide +kernel
theorem dX9_isAhead_58 : decode cX9_isAhead 58 = .ok (.goto 4, 3) := by decide +kernel
theorem dX9_isAhead_61 : decode cX9_isAhead 61 = .ok (.iconst 0, 1) := by decide +kernel
theorem dX9_isAhead_62 : decode cX9_isAhead 62 = .ok (.ireturn, 1) := by decide +kernel
theorem dX9_rankOf_0 : decode cX9_rankOf 0 = .ok (.iconst 0, 1) := by decide +kernel
theorem dX9_rankOf_1 : decode cX9_rankOf 1 = .ok (.istore_n 2, 1) := by decide +kernel
theorem dX9_rankOf_2 : decode cX9_rankOf 2 = .ok (.iconst 0, 1) := by decide +kernel
theorem dX9_rankOf_3 : decode cX9_rankOf 3 = .ok (.istore_n 3, 1) := by decide +kernel
theorem dX9_rankOf_4 : decode cX9_rankOf 4 = .ok (.iload_n 3, 1) := by decide +kernel
theorem dX9_rankOf_5 : decode cX9_rankOf 5 = .ok (.aload_n 0, 1) := by decide +kernel
theorem dX9_rankOf_6 : decode cX9_rankOf 6 = .ok (.getfield 7, 3) := by decide +kernel
theorem dX9_rankOf_9 : decode cX9_rankOf 9 = .ok (.bipush 12, 2) := by decide +kernel
theorem dX9_rankOf_11 : decode cX9_rankOf 11 = .ok (.iaload, 1) := by decide +kernel
theorem dX9_rankOf_12 : decode cX9_rankOf 12 = .ok (.if_icmp .ge 31, 3) := by decide +kernel
theorem dX9_rankOf_15 : decode cX9_rankOf 15 = .ok (.iload_n 2, 1) := by decide +kernel
theorem dX9_rankOf_16 : decode cX9_rankOf 16 = .ok (.iload_n 3, 1) := by decide +kernel
theorem dX9_rankOf_17 : decode cX9_rankOf 17 = .ok (.iload_n 1, 1) := by decide +kernel
theorem dX9_rankOf_18 : decode cX9_rankOf 18 = .ok (.if_icmp .eq 16, 3) := by decide +kernel
theorem dX9_rankOf_21 : decode cX9_rankOf 21 = .ok (.aload_n 0, 1) := by decide +kernel
theorem dX9_rankOf_22 : decode cX9_rankOf 22 = .ok (.iload_n 3, 1) := by decide +kernel
theorem dX9_rankOf_23 : decode cX9_rankOf 23 = .ok (.iload_n 1, 1) := by decide +kernel
theorem dX9_rankOf_24 : decode cX9_rankOf 24 = .ok (.invokevirtual 348, 3) := by decide +kernel
theorem dX9_rankOf_27 : decode cX9_rankOf 27 = .ok (.ifCond .eq 7, 3) := by decide +kernel
theorem dX9_rankOf_30 : decode cX9_rankOf 30 = .ok (.iconst 1, 1) := by decide +kernel
theorem dX9_rankOf_31 : decode cX9_rankOf 31 = .ok (.goto 4, 3) := by decide +kernel
theorem dX9_rankOf_34 : decode cX9_rankOf 34 = .ok (.iconst 0, 1) := by decide +kernel
theorem dX9_rankOf_35 : decode cX9_rankOf 35 = .ok (.iadd, 1) := by decide +kernel
theorem dX9_rankOf_36 : decode cX9_rankOf 36 = .ok (.istore_n 2, 1) := by decide +kernel
theorem dX9_rankOf_37 : decode cX9_rankOf 37 = .ok (.iinc 3 1, 3) := by decide +kernel
theorem dX9_rankOf_40 : decode cX9_rankOf 40 = .ok (.goto (-36), 3) := by decide +kernel
theorem dX9_rankOf_43 : decode cX9_rankOf 43 = .ok (.iload_n 2, 1) := by decide +kernel
theorem dX9_rankOf_44 : decode cX9_rankOf 44 = .ok (.ireturn, 1) := by decide +kernel
theorem dX9_hikerAtRank_0 : decode cX9_hikerAtRank 0 = .ok (.aload_n 0, 1) := by decide +kernel
theorem dX9_hikerAtRank_1 : decode cX9_hikerAtRank 1 = .ok (.iconst 0, 1) := by decide +kernel
theorem dX9_hikerAtRank_2 : decode cX9_hikerAtRank 2 = .ok (.putfield 57, 3) := by decide +kernel
theorem dX9_hikerAtRank_5 : decode cX9_hikerAtRank 5 = .ok (.iconst 0, 1) := by decide +kernel
theorem dX9_hikerAtRank_6 : decode cX9_hikerAtRank 6 = .ok (.istore_n 2, 1) := by decide +kernel
theorem dX9_hikerAtRank_7 : decode cX9_hikerAtRank 7 = .ok (.iload_n 2, 1) := by decide +kernel
theorem dX9_hikerAtRank_8 : decode cX9_hikerAtRank 8 = .ok (.aload_n 0, 1) := by decide +kernel
theorem dX9_hikerAtRank_9 : decode cX9_hikerAtRank 9 = .ok (.getfield 7, 3) := by decide +kernel
theorem dX9_hikerAtRank_12 : decode cX9_hikerAtRank 12 = .ok (.bipush 12, 2) := by decide +kernel
theorem dX9_hikerAtRank_14 : decode cX9_hikerAtRank 14 = .ok (.iaload, 1) := by decide +kernel
theorem dX9_hikerAtRank_15 : decode cX9_hikerAtRank 15 = .ok (.if_icmp .ge 20, 3) := by decide +kernel
theorem dX9_hikerAtRank_18 : decode cX9_hikerAtRank 18 = .ok (.aload_n 0, 1) := by decide +kernel
theorem dX9_hikerAtRank_19 : decode cX9_hikerAtRank 19 = .ok (.iload_n 2, 1) := by decide +kernel
theorem dX9_hikerAtRank_20 : decode cX9_hikerAtRank 20 = .ok (.invokevirtual 351, 3) := by decide +kernel
theorem dX9_hikerAtRank_23 : decode cX9_hikerAtRank 23 = .ok (.iload_n 1, 1) := by decide +kernel
theorem dX9_hikerAtRank_24 : decode cX9_hikerAtRank 24 = .ok (.if_icmp .ne 5, 3) := by decide +kernel
theorem dX9_hikerAtRank_27 : decode cX9_hikerAtRank 27 = .ok (.iload_n 2, 1) := by decide +kernel
theorem dX9_hikerAtRank_28 : decode cX9_hikerAtRank 28 = .ok (.ireturn, 1) := by decide +kernel
theorem dX9_hikerAtRank_29 : decode cX9_hikerAtRank 29 = .ok (.iinc 2 1, 3) := by decide +kernel
theorem dX9_hikerAtRank_32 : decode cX9_hikerAtRank 32 = .ok (.goto (-25), 3) := by decide +kernel
theorem dX9_hikerAtRank_35 : decode cX9_hikerAtRank 35 = .ok (.aload_n 0, 1) := by decide +kernel
theorem dX9_hikerAtRank_36 : decode cX9_hikerAtRank 36 = .ok (.iconst 1, 1) := by decide +kernel
theorem dX9_hikerAtRank_37 : decode cX9_hikerAtRank 37 = .ok (.invokevirtual 141, 3) := by decide +kernel
theorem dX9_hikerAtRank_40 : decode cX9_hikerAtRank 40 = .ok (.ireturn, 1) := by decide +kernel
theorem dX9_awakeWithout_0 : decode cX9_awakeWithout 0 = .ok (.aload_n 0, 1) := by decide +kernel
theorem dX9_awakeWithout_1 : decode cX9_awakeWithout 1 = .ok (.iload_n 1, 1) := by decide +kernel
theorem dX9_awakeWithout_2 : decode cX9_awakeWithout 2 = .ok (.iconst 1, 1) := by decide +kernel
theorem dX9_awakeWithout_3 : decode cX9_awakeWithout 3 = .ok (.iconst 0, 1) := by decide +kernel
theorem dX9_awakeWithout_4 : decode cX9_awakeWithout 4 = .ok (.invokevirtual 54, 3) := by decide +kernel
theorem dX9_awakeWithout_7 : decode cX9_awakeWithout 7 = .ok (.aload_n 0, 1) := by decide +kernel
theorem dX9_awakeWithout_8 : decode cX9_awakeWithout 8 = .ok (.iconst 1, 1) := by decide +kernel
theorem dX9_awakeWithout_9 : decode cX9_awakeWithout 9 = .ok (.invokevirtual 318, 3) := by decide +kernel
theorem dX9_awakeWithout_12 : decode cX9_awakeWithout 12 = .ok (.ireturn, 1) := by decide +kernel
theorem dX9_worstSnorer_0 : decode cX9_worstSnorer 0 = .ok (.aload_n 0, 1) := by decide +kernel
theorem dX9_worstSnorer_1 : decode cX9_worstSnorer 1 = .ok (.iconst 0, 1) := by decide +kernel
theorem dX9_worstSnorer_2 : decode cX9_worstSnorer 2 = .ok (.putfield 57, 3) := by decide +kernel
theorem dX9_worstSnorer_5 : decode cX9_worstSnorer 5 = .ok (.iconst (-1), 1) := by decide +kernel
theorem dX9_worstSnorer_6 : decode cX9_worstSnorer 6 = .ok (.istore_n 1, 1) := by decide +kernel
theorem dX9_worstSnorer_7 : decode cX9_worstSnorer 7 = .ok (.aload_n 0, 1) := by decide +kernel
theorem dX9_worstSnorer_8 : decode cX9_worstSnorer 8 = .ok (.iconst 1, 1) := by decide +kernel
theorem dX9_worstSnorer_9 : decode cX9_worstSnorer 9 = .ok (.invokevirtual 318, 3) := by decide +kernel
theorem dX9_worstSnorer_12 : decode cX9_worstSnorer 12 = .ok (.istore_n 2, 1) := by decide +kernel
theorem dX9_worstSnorer_13 : decode cX9_worstSnorer 13 = .ok (.iconst 0, 1) := by decide +kernel
theorem dX9_worstSnorer_14 : decode cX9_worstSnorer 14 = .ok (.istore_n 3, 1) := by decide +kernel
theorem dX9_worstSnorer_15 : decode cX9_worstSnorer 15 = .ok (.iload_n 3, 1) := by decide +kernel
theorem dX9_worstSnorer_16 : decode cX9_worstSnorer 16 = .ok (.aload_n 0, 1) := by decide +kernel
theorem dX9_worstSnorer_17 : decode cX9_worstSnorer 17 = .ok (.getfield 7, 3) := by decide +kernel
theorem dX9_worstSnorer_20 : decode cX9_worstSnorer 20 = .ok (.bipush 12, 2) := by decide +kernel
theorem dX9_worstSnorer_22 : decode cX9_worstSnorer 22 = .ok (.iaload, 1) := by decide +kernel
theorem dX9_worstSnorer_23 : decode cX9_worstSnorer 23 = .ok (.if_icmp .ge 43, 3) := by decide +kernel
theorem dX9_worstSnorer_26 : decode cX9_worstSnorer 26 = .ok (.aload_n 0, 1) := by decide +kernel
theorem dX9_worstSnorer_27 : decode cX9_worstSnorer 27 = .ok (.invokevirtual 229, 3) := by decide +kernel
theorem dX9_worstSnorer_30 : decode cX9_worstSnorer 30 = .ok (.aload_n 0, 1) := by decide +kernel
theorem dX9_worstSnorer_31 : decode cX9_worstSnorer 31 = .ok (.aload_n 0, 1) := by decide +kernel
theorem dX9_worstSnorer_32 : decode cX9_worstSnorer 32 = .ok (.iload_n 3, 1) := by decide +kernel
theorem dX9_worstSnorer_33 : decode cX9_worstSnorer 33 = .ok (.invokevirtual 354, 3) := by decide +kernel
theorem dX9_worstSnorer_36 : decode cX9_worstSnorer 36 = .ok (.invokevirtual 238, 3) := by decide +kernel
theorem dX9_worstSnorer_39 : decode cX9_worstSnorer 39 = .ok (.istore 4, 2) := by decide +kernel
theorem dX9_worstSnorer_41 : decode cX9_worstSnorer 41 = .ok (.iload 4, 2) := by decide +kernel
theorem dX9_worstSnorer_43 : decode cX9_worstSnorer 43 = .ok (.iload_n 2, 1) := by decide +kernel
theorem dX9_worstSnorer_44 : decode cX9_worstSnorer 44 = .ok (.if_icmp .ge 7, 3) := by decide +kernel
theorem dX9_worstSnorer_47 : decode cX9_worstSnorer 47 = .ok (.iload_n 3, 1) := by decide +kernel
theorem dX9_worstSnorer_48 : decode cX9_worstSnorer 48 = .ok (.goto 4, 3) := by decide +kernel
theorem dX9_worstSnorer_51 : decode cX9_worstSnorer 51 = .ok (.iload_n 1, 1) := by decide +kernel
theorem dX9_worstSnorer_52 : decode cX9_worstSnorer 52 = .ok (.istore_n 1, 1) := by decide +kernel
theorem dX9_worstSnorer_53 : decode cX9_worstSnorer 53 = .ok (.iload_n 2, 1) := by decide +kernel
theorem dX9_worstSnorer_54 : decode cX9_worstSnorer 54 = .ok (.iload 4, 2) := by decide +kernel
theorem dX9_worstSnorer_56 : decode cX9_worstSnorer 56 = .ok (.invokestatic 108, 3) := by decide +kernel
theorem dX9_worstSnorer_59 : decode cX9_worstSnorer 59 = .ok (.istore_n 2, 1) := by decide +kernel
theorem dX9_worstSnorer_60 : decode cX9_worstSnorer 60 = .ok (.iinc 3 1, 3) := by decide +kernel
theorem dX9_worstSnorer_63 : decode cX9_worstSnorer 63 = .ok (.goto (-48), 3) := by decide +kernel
theorem dX9_worstSnorer_66 : decode cX9_worstSnorer 66 = .ok (.iload_n 1, 1) := by decide +kernel
theorem dX9_worstSnorer_67 : decode cX9_worstSnorer 67 = .ok (.ireturn, 1) := by decide +kernel
theorem dX9_hikersWithout_0 : decode cX9_hikersWithout 0 = .ok (.aload_n 0, 1) := by decide +kernel
theorem dX9_hikersWithout_1 : decode cX9_hikersWithout 1 = .ok (.aload_n 0, 1) := by decide +kernel
theorem dX9_hikersWithout_2 : decode cX9_hikersWithout 2 = .ok (.invokevirtual 119, 3) := by decide +kernel
theorem dX9_hikersWithout_5 : decode cX9_hikersWithout 5 = .ok (.invokevirtual 305, 3) := by decide +kernel
theorem dX9_hikersWithout_8 : decode cX9_hikersWithout 8 = .ok (.ireturn, 1) := by decide +kernel
theorem dX9_coldHikers_0 : decode cX9_coldHikers 0 = .ok (.aload_n 0, 1) := by decide +kernel
theorem dX9_coldHikers_1 : decode cX9_coldHikers 1 = .ok (.iconst 0, 1) := by decide +kernel
theorem dX9_coldHikers_2 : decode cX9_coldHikers 2 = .ok (.putfield 57, 3) := by decide +kernel
theorem dX9_coldHikers_5 : decode cX9_coldHikers 5 = .ok (.aload_n 0, 1) := by decide +kernel
theorem dX9_coldHikers_6 : decode cX9_coldHikers 6 = .ok (.iconst 0, 1) := by decide +kernel
theorem dX9_coldHikers_7 : decode cX9_coldHikers 7 = .ok (.invokevirtual 318, 3) := by decide +kernel
theorem dX9_coldHikers_10 : decode cX9_coldHikers 10 = .ok (.ireturn, 1) := by decide +kernel
theorem dX9_missing_0 : decode cX9_missing 0 = .ok (.aload_n 0, 1) := by decide +kernel
theorem dX9_missing_1 : decode cX9_missing 1 = .ok (.iload_n 1, 1) := by decide +kernel
theorem dX9_missing_2 : decode cX9_missing 2 = .ok (.iconst 0, 1) := by decide +kernel
theorem dX9_missing_3 : decode cX9_missing 3 = .ok (.invokevirtual 64, 3) := by decide +kernel
theorem dX9_missing_6 : decode cX9_missing 6 = .ok (.aload_n 0, 1) := by decide +kernel
theorem dX9_missing_7 : decode cX9_missing 7 = .ok (.iload_n 1, 1) := by decide +kernel
theorem dX9_missing_8 : decode cX9_missing 8 = .ok (.invokevirtual 93, 3) := by decide +kernel
theorem dX9_missing_11 : decode cX9_missing 11 = .ok (.isub, 1) := by decide +kernel
theorem dX9_missing_12 : decode cX9_missing 12 = .ok (.ireturn, 1) := by decide +kernel
theorem dX9_coldestHiker_0 : decode cX9_coldestHiker 0 = .ok (.aload_n 0, 1) := by decide +kernel
theorem dX9_coldestHiker_1 : decode cX9_coldestHiker 1 = .ok (.iconst 0, 1) := by decide +kernel
theorem dX9_coldestHiker_2 : decode cX9_coldestHiker 2 = .ok (.putfield 57, 3) := by decide +kernel
theorem dX9_coldestHiker_5 : decode cX9_coldestHiker 5 = .ok (.iconst 0, 1) := by decide +kernel
theorem dX9_coldestHiker_6 : decode cX9_coldestHiker 6 = .ok (.istore_n 1, 1) := by decide +kernel
theorem dX9_coldestHiker_7 : decode cX9_coldestHiker 7 = .ok (.iconst 1, 1) := by decide +kernel
theorem dX9_coldestHiker_8 : decode cX9_coldestHiker 8 = .ok (.istore_n 2, 1) := by decide +kernel
theorem dX9_coldestHiker_9 : decode cX9_coldestHiker 9 = .ok (.iload_n 2, 1) := by decide +kernel
theorem dX9_coldestHiker_10 : decode cX9_coldestHiker 10 = .ok (.aload_n 0, 1) := by decide +kernel
theorem dX9_coldestHiker_11 : decode cX9_coldestHiker 11 = .ok (.getfield 7, 3) := by decide +kernel
theorem dX9_coldestHiker_14 : decode cX9_coldestHiker 14 = .ok (.bipush 12, 2) := by decide +kernel
theorem dX9_coldestHiker_16 : decode cX9_coldestHiker 16 = .ok (.iaload, 1) := by decide +kernel
theorem dX9_coldestHiker_17 : decode cX9_coldestHiker 17 = .ok (.if_icmp .ge 28, 3) := by decide +kernel
theorem dX9_coldestHiker_20 : decode cX9_coldestHiker 20 = .ok (.aload_n 0, 1) := by decide +kernel
theorem dX9_coldestHiker_21 : decode cX9_coldestHiker 21 = .ok (.iload_n 2, 1) := by decide +kernel
theorem dX9_coldestHiker_22 : decode cX9_coldestHiker 22 = .ok (.invokevirtual 357, 3) := by decide +kernel
theorem dX9_coldestHiker_25 : decode cX9_coldestHiker 25 = .ok (.aload_n 0, 1) := by decide +kernel
theorem dX9_coldestHiker_26 : decode cX9_coldestHiker 26 = .ok (.iload_n 1, 1) := by decide +kernel
theorem dX9_coldestHiker_27 : decode cX9_coldestHiker 27 = .ok (.invokevirtual 357, 3) := by decide +kernel
theorem dX9_coldestHiker_30 : decode cX9_coldestHiker 30 = .ok (.if_icmp .le 7, 3) := by decide +kernel
theorem dX9_coldestHiker_33 : decode cX9_coldestHiker 33 = .ok (.iload_n 2, 1) := by decide +kernel
theorem dX9_coldestHiker_34 : decode cX9_coldestHiker 34 = .ok (.goto 4, 3) := by decide +kernel
theorem dX9_coldestHiker_37 : decode cX9_coldestHiker 37 = .ok (.iload_n 1, 1) := by decide +kernel
theorem dX9_coldestHiker_38 : decode cX9_coldestHiker 38 = .ok (.istore_n 1, 1) := by decide +kernel
theorem dX9_coldestHiker_39 : decode cX9_coldestHiker 39 = .ok (.iinc 2 1, 3) := by decide +kernel
theorem dX9_coldestHiker_42 : decode cX9_coldestHiker 42 = .ok (.goto (-33), 3) := by decide +kernel
theorem dX9_coldestHiker_45 : decode cX9_coldestHiker 45 = .ok (.iload_n 1, 1) := by decide +kernel
theorem dX9_coldestHiker_46 : decode cX9_coldestHiker 46 = .ok (.ireturn, 1) := by decide +kernel
theorem dX9_thinnest_0 : decode cX9_thinnest 0 = .ok (.iconst (-1), 1) := by decide +kernel
theorem dX9_thinnest_1 : decode cX9_thinnest 1 = .ok (.istore_n 2, 1) := by decide +kernel
theorem dX9_thinnest_2 : decode cX9_thinnest 2 = .ok (.iconst 0, 1) := by decide +kernel
theorem dX9_thinnest_3 : decode cX9_thinnest 3 = .ok (.istore_n 3, 1) := by decide +kernel
theorem dX9_thinnest_4 : decode cX9_thinnest 4 = .ok (.iload_n 3, 1) := by decide +kernel
theorem dX9_thinnest_5 : decode cX9_thinnest 5 = .ok (.aload_n 0, 1) := by decide +kernel
theorem dX9_thinnest_6 : decode cX9_thinnest 6 = .ok (.getfield 7, 3) := by decide +kernel
theorem dX9_thinnest_9 : decode cX9_thinnest 9 = .ok (.bipush 10, 2) := by decide +kernel
theorem dX9_thinnest_11 : decode cX9_thinnest 11 = .ok (.iaload, 1) := by decide +kernel
theorem dX9_thinnest_12 : decode cX9_thinnest 12 = .ok (.if_icmp .ge 75, 3) := by decide +kernel
theorem dX9_thinnest_15 : decode cX9_thinnest 15 = .ok (.aload_n 0, 1) := by decide +kernel
theorem dX9_thinnest_16 : decode cX9_thinnest 16 = .ok (.getfield 40, 3) := by decide +kernel
theorem dX9_thinnest_19 : decode cX9_thinnest 19 = .ok (.iload_n 3, 1) := by decide +kernel
theorem dX9_thinnest_20 : decode cX9_thinnest 20 = .ok (.baload, 1) := by decide +kernel
theorem dX9_thinnest_21 : decode cX9_thinnest 21 = .ok (.ifCond .ne 20, 3) := by decide +kernel
theorem dX9_thinnest_24 : decode cX9_thinnest 24 = .ok (.aload_n 0, 1) := by decide +kernel
theorem dX9_thinnest_25 : decode cX9_thinnest 25 = .ok (.getfield 7, 3) := by decide +kernel
theorem dX9_thinnest_28 : decode cX9_thinnest 28 = .ok (.bipush 25, 2) := by decide +kernel
theorem dX9_thinnest_30 : decode cX9_thinnest 30 = .ok (.iload_n 3, 1) := by decide +kernel
theorem dX9_thinnest_31 : decode cX9_thinnest 31 = .ok (.iadd, 1) := by decide +kernel
theorem dX9_thinnest_32 : decode cX9_thinnest 32 = .ok (.iaload, 1) := by decide +kernel
theorem dX9_thinnest_33 : decode cX9_thinnest 33 = .ok (.iload_n 1, 1) := by decide +kernel
theorem dX9_thinnest_34 : decode cX9_thinnest 34 = .ok (.if_icmp .lt 7, 3) := by decide +kernel
theorem dX9_thinnest_37 : decode cX9_thinnest 37 = .ok (.iconst 1, 1) := by decide +kernel
theorem dX9_thinnest_38 : decode cX9_thinnest 38 = .ok (.goto 4, 3) := by decide +kernel
theorem dX9_thinnest_41 : decode cX9_thinnest 41 = .ok (.iconst 0, 1) := by decide +kernel
theorem dX9_thinnest_42 : decode cX9_thinnest 42 = .ok (.istore 4, 2) := by decide +kernel
theorem dX9_thinnest_44 : decode cX9_thinnest 44 = .ok (.iload 4, 2) := by decide +kernel
theorem dX9_thinnest_46 : decode cX9_thinnest 46 = .ok (.ifCond .eq 33, 3) := by decide +kernel
theorem dX9_thinnest_49 : decode cX9_thinnest 49 = .ok (.iload_n 2, 1) := by decide +kernel
theorem dX9_thinnest_50 : decode cX9_thinnest 50 = .ok (.iconst (-1), 1) := by decide +kernel
theorem dX9_thinnest_51 : decode cX9_thinnest 51 = .ok (.if_icmp .eq 24, 3) := by decide +kernel
theorem dX9_thinnest_54 : decode cX9_thinnest 54 = .ok (.aload_n 0, 1) := by decide +kernel
theorem dX9_thinnest_55 : decode cX9_thinnest 55 = .ok (.getfield 7, 3) := by decide +kernel
theorem dX9_thinnest_58 : decode cX9_thinnest 58 = .ok (.bipush 25, 2) := by decide +kernel
theorem dX9_thinnest_60 : decode cX9_thinnest 60 = .ok (.iload_n 3, 1) := by decide +kernel
theorem dX9_thinnest_61 : decode cX9_thinnest 61 = .ok (.iadd, 1) := by decide +kernel
theorem dX9_thinnest_62 : decode cX9_thinnest 62 = .ok (.iaload, 1) := by decide +kernel
theorem dX9_thinnest_63 : decode cX9_thinnest 63 = .ok (.aload_n 0, 1) := by decide +kernel
theorem dX9_thinnest_64 : decode cX9_thinnest 64 = .ok (.getfield 7, 3) := by decide +kernel
theorem dX9_thinnest_67 : decode cX9_thinnest 67 = .ok (.bipush 25, 2) := by decide +kernel
theorem dX9_thinnest_69 : decode cX9_thinnest 69 = .ok (.iload_n 2, 1) := by decide +kernel
theorem dX9_thinnest_70 : decode cX9_thinnest 70 = .ok (.iadd, 1) := by decide +kernel
theorem dX9_thinnest_71 : decode cX9_thinnest 71 = .ok (.iaload, 1) := by decide +kernel
theorem dX9_thinnest_72 : decode cX9_thinnest 72 = .ok (.if_icmp .ge 7, 3) := by decide +kernel
theorem dX9_thinnest_75 : decode cX9_thinnest 75 = .ok (.iload_n 3, 1) := by decide +kernel
theorem dX9_thinnest_76 : decode cX9_thinnest 76 = .ok (.goto 4, 3) := by decide +kernel
theorem dX9_thinnest_79 : decode cX9_thinnest 79 = .ok (.iload_n 2, 1) := by decide +kernel
theorem dX9_thinnest_80 : decode cX9_thinnest 80 = .ok (.istore_n 2, 1) := by decide +kernel
theorem dX9_thinnest_81 : decode cX9_thinnest 81 = .ok (.iinc 3 1, 3) := by decide +kernel
theorem dX9_thinnest_84 : decode cX9_thinnest 84 = .ok (.goto (-80), 3) := by decide +kernel
theorem dX9_thinnest_87 : decode cX9_thinnest 87 = .ok (.iload_n 2, 1) := by decide +kernel
theorem dX9_thinnest_88 : decode cX9_thinnest 88 = .ok (.ireturn, 1) := by decide +kernel
theorem dX9_give_0 : decode cX9_give 0 = .ok (.aload_n 0, 1) := by decide +kernel
theorem dX9_give_1 : decode cX9_give 1 = .ok (.iload_n 1, 1) := by decide +kernel
theorem dX9_give_2 : decode cX9_give 2 = .ok (.invokevirtual 360, 3) := by decide +kernel
theorem dX9_give_5 : decode cX9_give 5 = .ok (.istore_n 2, 1) := by decide +kernel
theorem dX9_give_6 : decode cX9_give 6 = .ok (.iload_n 2, 1) := by decide +kernel
theorem dX9_give_7 : decode cX9_give 7 = .ok (.iconst (-1), 1) := by decide +kernel
theorem dX9_give_8 : decode cX9_give 8 = .ok (.if_icmp .eq 10, 3) := by decide +kernel
theorem dX9_give_11 : decode cX9_give 11 = .ok (.aload_n 0, 1) := by decide +kernel
theorem dX9_give_12 : decode cX9_give 12 = .ok (.getfield 40, 3) := by decide +kernel
theorem dX9_give_15 : decode cX9_give 15 = .ok (.iload_n 2, 1) := by decide +kernel
theorem dX9_give_16 : decode cX9_give 16 = .ok (.iconst 1, 1) := by decide +kernel
theorem dX9_give_17 : decode cX9_give 17 = .ok (.bastore, 1) := by decide +kernel
theorem dX9_give_18 : decode cX9_give 18 = .ok (.iload_n 2, 1) := by decide +kernel
theorem dX9_give_19 : decode cX9_give 19 = .ok (.iconst (-1), 1) := by decide +kernel
theorem dX9_give_20 : decode cX9_give 20 = .ok (.if_icmp .eq 7, 3) := by decide +kernel
theorem dX9_give_23 : decode cX9_give 23 = .ok (.iconst 1, 1) := by decide +kernel
theorem dX9_give_24 : decode cX9_give 24 = .ok (.goto 4, 3) := by decide +kernel
theorem dX9_give_27 : decode cX9_give 27 = .ok (.iconst 0, 1) := by decide +kernel
theorem dX9_give_28 : decode cX9_give 28 = .ok (.ireturn, 1) := by decide +kernel
theorem dX9_fewestCold_0 : decode cX9_fewestCold 0 = .ok (.aload_n 0, 1) := by decide +kernel
theorem dX9_fewestCold_1 : decode cX9_fewestCold 1 = .ok (.iconst 0, 1) := by decide +kernel
theorem dX9_fewestCold_2 : decode cX9_fewestCold 2 = .ok (.putfield 57, 3) := by decide +kernel
theorem dX9_fewestCold_5 : decode cX9_fewestCold 5 = .ok (.iconst 0, 1) := by decide +kernel
theorem dX9_fewestCold_6 : decode cX9_fewestCold 6 = .ok (.istore_n 1, 1) := by decide +kernel
theorem dX9_fewestCold_7 : decode cX9_fewestCold 7 = .ok (.iload_n 1, 1) := by decide +kernel
theorem dX9_fewestCold_8 : decode cX9_fewestCold 8 = .ok (.aload_n 0, 1) := by decide +kernel
theorem dX9_fewestCold_9 : decode cX9_fewestCold 9 = .ok (.getfield 7, 3) := by decide +kernel
theorem dX9_fewestCold_12 : decode cX9_fewestCold 12 = .ok (.bipush 10, 2) := by decide +kernel
theorem dX9_fewestCold_14 : decode cX9_fewestCold 14 = .ok (.iaload, 1) := by decide +kernel
theorem dX9_fewestCold_15 : decode cX9_fewestCold 15 = .ok (.if_icmp .ge 16, 3) := by decide +kernel
theorem dX9_fewestCold_18 : decode cX9_fewestCold 18 = .ok (.aload_n 0, 1) := by decide +kernel
theorem dX9_fewestCold_19 : decode cX9_fewestCold 19 = .ok (.getfield 40, 3) := by decide +kernel
theorem dX9_fewestCold_22 : decode cX9_fewestCold 22 = .ok (.iload_n 1, 1) := by decide +kernel
theorem dX9_fewestCold_23 : decode cX9_fewestCold 23 = .ok (.iconst 0, 1) := by decide +kernel
theorem dX9_fewestCold_24 : decode cX9_fewestCold 24 = .ok (.bastore, 1) := by decide +kernel
theorem dX9_fewestCold_25 : decode cX9_fewestCold 25 = .ok (.iinc 1 1, 3) := by decide +kernel
theorem dX9_fewestCold_28 : decode cX9_fewestCold 28 = .ok (.goto (-21), 3) := by decide +kernel
theorem dX9_fewestCold_31 : decode cX9_fewestCold 31 = .ok (.iconst 0, 1) := by decide +kernel
theorem dX9_fewestCold_32 : decode cX9_fewestCold 32 = .ok (.istore_n 1, 1) := by decide +kernel
theorem dX9_fewestCold_33 : decode cX9_fewestCold 33 = .ok (.iconst 1, 1) := by decide +kernel
theorem dX9_fewestCold_34 : decode cX9_fewestCold 34 = .ok (.istore_n 2, 1) := by decide +kernel
theorem dX9_fewestCold_35 : decode cX9_fewestCold 35 = .ok (.iload_n 2, 1) := by decide +kernel
theorem dX9_fewestCold_36 : decode cX9_fewestCold 36 = .ok (.bipush 30, 2) := by decide +kernel
theorem dX9_fewestCold_38 : decode cX9_fewestCold 38 = .ok (.if_icmp .gt 60, 3) := by decide +kernel
theorem dX9_fewestCold_41 : decode cX9_fewestCold 41 = .ok (.iconst 0, 1) := by decide +kernel
theorem dX9_fewestCold_42 : decode cX9_fewestCold 42 = .ok (.istore_n 3, 1) := by decide +kernel
theorem dX9_fewestCold_43 : decode cX9_fewestCold 43 = .ok (.iload_n 3, 1) := by decide +kernel
theorem dX9_fewestCold_44 : decode cX9_fewestCold 44 = .ok (.aload_n 0, 1) := by decide +kernel
theorem dX9_fewestCold_45 : decode cX9_fewestCold 45 = .ok (.getfield 7, 3) := by decide +kernel
theorem dX9_fewestCold_48 : decode cX9_fewestCold 48 = .ok (.bipush 12, 2) := by decide +kernel
theorem dX9_fewestCold_50 : decode cX9_fewestCold 50 = .ok (.iaload, 1) := by decide +kernel
theorem dX9_fewestCold_51 : decode cX9_fewestCold 51 = .ok (.if_icmp .ge 41, 3) := by decide +kernel
theorem dX9_fewestCold_54 : decode cX9_fewestCold 54 = .ok (.aload_n 0, 1) := by decide +kernel
theorem dX9_fewestCold_55 : decode cX9_fewestCold 55 = .ok (.iload_n 3, 1) := by decide +kernel
theorem dX9_fewestCold_56 : decode cX9_fewestCold 56 = .ok (.iconst 0, 1) := by decide +kernel
theorem dX9_fewestCold_57 : decode cX9_fewestCold 57 = .ok (.invokevirtual 64, 3) := by decide +kernel
theorem dX9_fewestCold_60 : decode cX9_fewestCold 60 = .ok (.aload_n 0, 1) := by decide +kernel
theorem dX9_fewestCold_61 : decode cX9_fewestCold 61 = .ok (.iload_n 3, 1) := by decide +kernel
theorem dX9_fewestCold_62 : decode cX9_fewestCold 62 = .ok (.invokevirtual 87, 3) := by decide +kernel
theorem dX9_fewestCold_65 : decode cX9_fewestCold 65 = .ok (.isub, 1) := by decide +kernel
theorem dX9_fewestCold_66 : decode cX9_fewestCold 66 = .ok (.iload_n 2, 1) := by decide +kernel
theorem dX9_fewestCold_67 : decode cX9_fewestCold 67 = .ok (.if_icmp .ne 19, 3) := by decide +kernel
theorem dX9_fewestCold_70 : decode cX9_fewestCold 70 = .ok (.iload_n 1, 1) := by decide +kernel
theorem dX9_fewestCold_71 : decode cX9_fewestCold 71 = .ok (.aload_n 0, 1) := by decide +kernel
theorem dX9_fewestCold_72 : decode cX9_fewestCold 72 = .ok (.iload_n 2, 1) := by decide +kernel
theorem dX9_fewestCold_73 : decode cX9_fewestCold 73 = .ok (.invokevirtual 363, 3) := by decide +kernel
theorem dX9_fewestCold_76 : decode cX9_fewestCold 76 = .ok (.ifCond .eq 7, 3) := by decide +kernel
theorem dX9_fewestCold_79 : decode cX9_fewestCold 79 = .ok (.iconst 0, 1) := by decide +kernel
theorem dX9_fewestCold_80 : decode cX9_fewestCold 80 = .ok (.goto 4, 3) := by decide +kernel
theorem dX9_fewestCold_83 : decode cX9_fewestCold 83 = .ok (.iconst 1, 1) := by decide +kernel
theorem dX9_fewestCold_84 : decode cX9_fewestCold 84 = .ok (.iadd, 1) := by decide +kernel
theorem dX9_fewestCold_85 : decode cX9_fewestCold 85 = .ok (.istore_n 1, 1) := by decide +kernel
theorem dX9_fewestCold_86 : decode cX9_fewestCold 86 = .ok (.iinc 3 1, 3) := by decide +kernel
theorem dX9_fewestCold_89 : decode cX9_fewestCold 89 = .ok (.goto (-46), 3) := by decide +kernel
theorem dX9_fewestCold_92 : decode cX9_fewestCold 92 = .ok (.iinc 2 1, 3) := by decide +kernel
theorem dX9_fewestCold_95 : decode cX9_fewestCold 95 = .ok (.goto (-60), 3) := by decide +kernel
theorem dX9_fewestCold_98 : decode cX9_fewestCold 98 = .ok (.iload_n 1, 1) := by decide +kernel
theorem dX9_fewestCold_99 : decode cX9_fewestCold 99 = .ok (.ireturn, 1) := by decide +kernel
theorem dX9_exchange_0 : decode cX9_exchange 0 = .ok (.aload_n 0, 1) := by decide +kernel
theorem dX9_exchange_1 : decode cX9_exchange 1 = .ok (.iload_n 1, 1) := by decide +kernel
theorem dX9_exchange_2 : decode cX9_exchange 2 = .ok (.iconst 5, 1) := by decide +kernel
theorem dX9_exchange_3 : decode cX9_exchange 3 = .ok (.invokevirtual 64, 3) := by decide +kernel
theorem dX9_exchange_6 : decode cX9_exchange 6 = .ok (.istore_n 3, 1) := by decide +kernel
theorem dX9_exchange_7 : decode cX9_exchange 7 = .ok (.aload_n 0, 1) := by decide +kernel
theorem dX9_exchange_8 : decode cX9_exchange 8 = .ok (.iload_n 1, 1) := by decide +kernel
theorem dX9_exchange_9 : decode cX9_exchange 9 = .ok (.iconst 5, 1) := by decide +kernel
theorem dX9_exchange_10 : decode cX9_exchange 10 = .ok (.aload_n 0, 1) := by decide +kernel
theorem dX9_exchange_11 : decode cX9_exchange 11 = .ok (.iload_n 2, 1) := by decide +kernel
theorem dX9_exchange_12 : decode cX9_exchange 12 = .ok (.iconst 5, 1) := by decide +kernel
theorem dX9_exchange_13 : decode cX9_exchange 13 = .ok (.invokevirtual 64, 3) := by decide +kernel
theorem dX9_exchange_16 : decode cX9_exchange 16 = .ok (.invokevirtual 54, 3) := by decide +kernel
theorem dX9_exchange_19 : decode cX9_exchange 19 = .ok (.aload_n 0, 1) := by decide +kernel
theorem dX9_exchange_20 : decode cX9_exchange 20 = .ok (.iload_n 2, 1) := by decide +kernel
theorem dX9_exchange_21 : decode cX9_exchange 21 = .ok (.iconst 5, 1) := by decide +kernel
theorem dX9_exchange_22 : decode cX9_exchange 22 = .ok (.iload_n 3, 1) := by decide +kernel
theorem dX9_exchange_23 : decode cX9_exchange 23 = .ok (.invokevirtual 54, 3) := by decide +kernel
theorem dX9_exchange_26 : decode cX9_exchange 26 = .ok (.return_, 1) := by decide +kernel
theorem dX9_coldBehind_0 : decode cX9_coldBehind 0 = .ok (.aload_n 0, 1) := by decide +kernel
theorem dX9_coldBehind_1 : decode cX9_coldBehind 1 = .ok (.iload_n 1, 1) := by decide +kernel
theorem dX9_coldBehind_2 : decode cX9_coldBehind 2 = .ok (.iload_n 2, 1) := by decide +kernel
theorem dX9_coldBehind_3 : decode cX9_coldBehind 3 = .ok (.invokevirtual 366, 3) := by decide +kernel
theorem dX9_coldBehind_6 : decode cX9_coldBehind 6 = .ok (.aload_n 0, 1) := by decide +kernel
theorem dX9_coldBehind_7 : decode cX9_coldBehind 7 = .ok (.iconst 0, 1) := by decide +kernel
theorem dX9_coldBehind_8 : decode cX9_coldBehind 8 = .ok (.invokevirtual 318, 3) := by decide +kernel
theorem dX9_coldBehind_11 : decode cX9_coldBehind 11 = .ok (.ireturn, 1) := by decide +kernel
theorem dX9_bestExchange_0 : decode cX9_bestExchange 0 = .ok (.aload_n 0, 1) := by decide +kernel
theorem dX9_bestExchange_1 : decode cX9_bestExchange 1 = .ok (.iconst 0, 1) := by decide +kernel
theorem dX9_bestExchange_2 : decode cX9_bestExchange 2 = .ok (.putfield 57, 3) := by decide +kernel
theorem dX9_bestExchange_5 : decode cX9_bestExchange 5 = .ok (.iconst (-1), 1) := by decide +kernel
theorem dX9_bestExchange_6 : decode cX9_bestExchange 6 = .ok (.istore_n 1, 1) := by decide +kernel
theorem dX9_bestExchange_7 : decode cX9_bestExchange 7 = .ok (.aload_n 0, 1) := by decide +kernel
theorem dX9_bestExchange_8 : decode cX9_bestExchange 8 = .ok (.iconst 0, 1) := by decide +kernel
theorem dX9_bestExchange_9 : decode cX9_bestExchange 9 = .ok (.invokevirtual 318, 3) := by decide +kernel
theorem dX9_bestExchange_12 : decode cX9_bestExchange 12 = .ok (.istore_n 2, 1) := by decide +kernel
theorem dX9_bestExchange_13 : decode cX9_bestExchange 13 = .ok (.iconst 0, 1) := by decide +kernel
theorem dX9_bestExchange_14 : decode cX9_bestExchange 14 = .ok (.istore_n 3, 1) := by decide +kernel
theorem dX9_bestExchange_15 : decode cX9_bestExchange 15 = .ok (.iload_n 3, 1) := by decide +kernel
theorem dX9_bestExchange_16 : decode cX9_bestExchange 16 = .ok (.aload_n 0, 1) := by decide +kernel
theorem dX9_bestExchange_17 : decode cX9_bestExchange 17 = .ok (.getfield 7, 3) := by decide +kernel
theorem dX9_bestExchange_20 : decode cX9_bestExchange 20 = .ok (.bipush 12, 2) := by decide +kernel
theorem dX9_bestExchange_22 : decode cX9_bestExchange 22 = .ok (.iaload, 1) := by decide +kernel
theorem dX9_bestExchange_23 : decode cX9_bestExchange 23 = .ok (.if_icmp .ge 74, 3) := by decide +kernel
theorem dX9_bestExchange_26 : decode cX9_bestExchange 26 = .ok (.iload_n 3, 1) := by decide +kernel
theorem dX9_bestExchange_27 : decode cX9_bestExchange 27 = .ok (.iconst 1, 1) := by decide +kernel
theorem dX9_bestExchange_28 : decode cX9_bestExchange 28 = .ok (.iadd, 1) := by decide +kernel
theorem dX9_bestExchange_29 : decode cX9_bestExchange 29 = .ok (.istore 4, 2) := by decide +kernel
theorem dX9_bestExchange_31 : decode cX9_bestExchange 31 = .ok (.iload 4, 2) := by decide +kernel
theorem dX9_bestExchange_33 : decode cX9_bestExchange 33 = .ok (.aload_n 0, 1) := by decide +kernel
theorem dX9_bestExchange_34 : decode cX9_bestExchange 34 = .ok (.getfield 7, 3) := by decide +kernel
theorem dX9_bestExchange_37 : decode cX9_bestExchange 37 = .ok (.bipush 12, 2) := by decide +kernel
theorem dX9_bestExchange_39 : decode cX9_bestExchange 39 = .ok (.iaload, 1) := by decide +kernel
theorem dX9_bestExchange_40 : decode cX9_bestExchange 40 = .ok (.if_icmp .ge 51, 3) := by decide +kernel
theorem dX9_bestExchange_43 : decode cX9_bestExchange 43 = .ok (.aload_n 0, 1) := by decide +kernel
theorem dX9_bestExchange_44 : decode cX9_bestExchange 44 = .ok (.invokevirtual 229, 3) := by decide +kernel
theorem dX9_bestExchange_47 : decode cX9_bestExchange 47 = .ok (.aload_n 0, 1) := by decide +kernel
theorem dX9_bestExchange_48 : decode cX9_bestExchange 48 = .ok (.aload_n 0, 1) := by decide +kernel
theorem dX9_bestExchange_49 : decode cX9_bestExchange 49 = .ok (.iload_n 3, 1) := by decide +kernel
theorem dX9_bestExchange_50 : decode cX9_bestExchange 50 = .ok (.iload 4, 2) := by decide +kernel
theorem dX9_bestExchange_52 : decode cX9_bestExchange 52 = .ok (.invokevirtual 370, 3) := by decide +kernel
theorem dX9_bestExchange_55 : decode cX9_bestExchange 55 = .ok (.invokevirtual 238, 3) := by decide +kernel
theorem dX9_bestExchange_58 : decode cX9_bestExchange 58 = .ok (.istore 5, 2) := by decide +kernel
theorem dX9_bestExchange_60 : decode cX9_bestExchange 60 = .ok (.iload 5, 2) := by decide +kernel
theorem dX9_bestExchange_62 : decode cX9_bestExchange 62 = .ok (.iload_n 2, 1) := by decide +kernel
theorem dX9_bestExchange_63 : decode cX9_bestExchange 63 = .ok (.if_icmp .ge 13, 3) := by decide +kernel
theorem dX9_bestExchange_66 : decode cX9_bestExchange 66 = .ok (.bipush 10, 2) := by decide +kernel
theorem dX9_bestExchange_68 : decode cX9_bestExchange 68 = .ok (.iload_n 3, 1) := by decide +kernel
theorem dX9_bestExchange_69 : decode cX9_bestExchange 69 = .ok (.imul, 1) := by decide +kernel
theorem dX9_bestExchange_70 : decode cX9_bestExchange 70 = .ok (.iload 4, 2) := by decide +kernel
theorem dX9_bestExchange_72 : decode cX9_bestExchange 72 = .ok (.iadd, 1) := by decide +kernel
theorem dX9_bestExchange_73 : decode cX9_bestExchange 73 = .ok (.goto 4, 3) := by decide +kernel
theorem dX9_bestExchange_76 : decode cX9_bestExchange 76 = .ok (.iload_n 1, 1) := by decide +kernel
theorem dX9_bestExchange_77 : decode cX9_bestExchange 77 = .ok (.istore_n 1, 1) := by decide +kernel
theorem dX9_bestExchange_78 : decode cX9_bestExchange 78 = .ok (.iload_n 2, 1) := by decide +kernel
theorem dX9_bestExchange_79 : decode cX9_bestExchange 79 = .ok (.iload 5, 2) := by decide +kernel
theorem dX9_bestExchange_81 : decode cX9_bestExchange 81 = .ok (.invokestatic 108, 3) := by decide +kernel
theorem dX9_bestExchange_84 : decode cX9_bestExchange 84 = .ok (.istore_n 2, 1) := by decide +kernel
theorem dX9_bestExchange_85 : decode cX9_bestExchange 85 = .ok (.iinc 4 1, 3) := by decide +kernel
theorem dX9_bestExchange_88 : decode cX9_bestExchange 88 = .ok (.goto (-57), 3) := by decide +kernel
theorem dX9_bestExchange_91 : decode cX9_bestExchange 91 = .ok (.iinc 3 1, 3) := by decide +kernel
theorem dX9_bestExchange_94 : decode cX9_bestExchange 94 = .ok (.goto (-79), 3) := by decide +kernel
theorem dX9_bestExchange_97 : decode cX9_bestExchange 97 = .ok (.iload_n 1, 1) := by decide +kernel
theorem dX9_bestExchange_98 : decode cX9_bestExchange 98 = .ok (.ireturn, 1) := by decide +kernel
theorem dX9_goodness_0 : decode cX9_goodness 0 = .ok (.aload_n 0, 1) := by decide +kernel
theorem dX9_goodness_1 : decode cX9_goodness 1 = .ok (.iload_n 1, 1) := by decide +kernel
theorem dX9_goodness_2 : decode cX9_goodness 2 = .ok (.iconst 4, 1) := by decide +kernel
theorem dX9_goodness_3 : decode cX9_goodness 3 = .ok (.iload_n 2, 1) := by decide +kernel
theorem dX9_goodness_4 : decode cX9_goodness 4 = .ok (.invokevirtual 54, 3) := by decide +kernel
theorem dX9_goodness_7 : decode cX9_goodness 7 = .ok (.bipush 100, 2) := by decide +kernel
theorem dX9_goodness_9 : decode cX9_goodness 9 = .ok (.aload_n 0, 1) := by decide +kernel
theorem dX9_goodness_10 : decode cX9_goodness 10 = .ok (.iload_n 1, 1) := by decide +kernel
theorem dX9_goodness_11 : decode cX9_goodness 11 = .ok (.invokevirtual 93, 3) := by decide +kernel
theorem dX9_goodness_14 : decode cX9_goodness 14 = .ok (.imul, 1) := by decide +kernel
theorem dX9_goodness_15 : decode cX9_goodness 15 = .ok (.aload_n 0, 1) := by decide +kernel
theorem dX9_goodness_16 : decode cX9_goodness 16 = .ok (.iload_n 2, 1) := by decide +kernel
theorem dX9_goodness_17 : decode cX9_goodness 17 = .ok (.invokevirtual 102, 3) := by decide +kernel
theorem dX9_goodness_20 : decode cX9_goodness 20 = .ok (.isub, 1) := by decide +kernel
theorem dX9_goodness_21 : decode cX9_goodness 21 = .ok (.ireturn, 1) := by decide +kernel
theorem dX9_warmestBunk_0 : decode cX9_warmestBunk 0 = .ok (.aload_n 0, 1) := by decide +kernel
theorem dX9_warmestBunk_1 : decode cX9_warmestBunk 1 = .ok (.iconst 0, 1) := by decide +kernel
theorem dX9_warmestBunk_2 : decode cX9_warmestBunk 2 = .ok (.putfield 57, 3) := by decide +kernel
theorem dX9_warmestBunk_5 : decode cX9_warmestBunk 5 = .ok (.aload_n 0, 1) := by decide +kernel
theorem dX9_warmestBunk_6 : decode cX9_warmestBunk 6 = .ok (.iload_n 1, 1) := by decide +kernel
theorem dX9_warmestBunk_7 : decode cX9_warmestBunk 7 = .ok (.invokevirtual 324, 3) := by decide +kernel
theorem dX9_warmestBunk_10 : decode cX9_warmestBunk 10 = .ok (.ifCond .ne 9, 3) := by decide +kernel
theorem dX9_warmestBunk_13 : decode cX9_warmestBunk 13 = .ok (.aload_n 0, 1) := by decide +kernel
theorem dX9_warmestBunk_14 : decode cX9_warmestBunk 14 = .ok (.iconst 1, 1) := by decide +kernel
theorem dX9_warmestBunk_15 : decode cX9_warmestBunk 15 = .ok (.invokevirtual 141, 3) := by decide +kernel
theorem dX9_warmestBunk_18 : decode cX9_warmestBunk 18 = .ok (.ireturn, 1) := by decide +kernel
theorem dX9_warmestBunk_19 : decode cX9_warmestBunk 19 = .ok (.iconst (-1), 1) := by decide +kernel
theorem dX9_warmestBunk_20 : decode cX9_warmestBunk 20 = .ok (.istore_n 2, 1) := by decide +kernel
theorem dX9_warmestBunk_21 : decode cX9_warmestBunk 21 = .ok (.iconst 0, 1) := by decide +kernel
theorem dX9_warmestBunk_22 : decode cX9_warmestBunk 22 = .ok (.istore_n 3, 1) := by decide +kernel
theorem dX9_warmestBunk_23 : decode cX9_warmestBunk 23 = .ok (.iconst 0, 1) := by decide +kernel
theorem dX9_warmestBunk_24 : decode cX9_warmestBunk 24 = .ok (.istore 4, 2) := by decide +kernel
theorem dX9_warmestBunk_26 : decode cX9_warmestBunk 26 = .ok (.iload 4, 2) := by decide +kernel
theorem dX9_warmestBunk_28 : decode cX9_warmestBunk 28 = .ok (.aload_n 0, 1) := by decide +kernel
theorem dX9_warmestBunk_29 : decode cX9_warmestBunk 29 = .ok (.getfield 7, 3) := by decide +kernel
theorem dX9_warmestBunk_32 : decode cX9_warmestBunk 32 = .ok (.bipush 9, 2) := by decide +kernel
theorem dX9_warmestBunk_34 : decode cX9_warmestBunk 34 = .ok (.iaload, 1) := by decide +kernel
theorem dX9_warmestBunk_35 : decode cX9_warmestBunk 35 = .ok (.if_icmp .ge 53, 3) := by decide +kernel
theorem dX9_warmestBunk_38 : decode cX9_warmestBunk 38 = .ok (.aload_n 0, 1) := by decide +kernel
theorem dX9_warmestBunk_39 : decode cX9_warmestBunk 39 = .ok (.iload_n 1, 1) := by decide +kernel
theorem dX9_warmestBunk_40 : decode cX9_warmestBunk 40 = .ok (.iload 4, 2) := by decide +kernel
theorem dX9_warmestBunk_42 : decode cX9_warmestBunk 42 = .ok (.invokevirtual 330, 3) := by decide +kernel
theorem dX9_warmestBunk_45 : decode cX9_warmestBunk 45 = .ok (.ifCond .eq 37, 3) := by decide +kernel
theorem dX9_warmestBunk_48 : decode cX9_warmestBunk 48 = .ok (.aload_n 0, 1) := by decide +kernel
theorem dX9_warmestBunk_49 : decode cX9_warmestBunk 49 = .ok (.invokevirtual 229, 3) := by decide +kernel
theorem dX9_warmestBunk_52 : decode cX9_warmestBunk 52 = .ok (.aload_n 0, 1) := by decide +kernel
theorem dX9_warmestBunk_53 : decode cX9_warmestBunk 53 = .ok (.aload_n 0, 1) := by decide +kernel
theorem dX9_warmestBunk_54 : decode cX9_warmestBunk 54 = .ok (.iload_n 1, 1) := by decide +kernel
theorem dX9_warmestBunk_55 : decode cX9_warmestBunk 55 = .ok (.iload 4, 2) := by decide +kernel
theorem dX9_warmestBunk_57 : decode cX9_warmestBunk 57 = .ok (.invokevirtual 373, 3) := by decide +kernel
theorem dX9_warmestBunk_60 : decode cX9_warmestBunk 60 = .ok (.invokevirtual 238, 3) := by decide +kernel
theorem dX9_warmestBunk_63 : decode cX9_warmestBunk 63 = .ok (.istore 5, 2) := by decide +kernel
theorem dX9_warmestBunk_65 : decode cX9_warmestBunk 65 = .ok (.iload_n 2, 1) := by decide +kernel
theorem dX9_warmestBunk_66 : decode cX9_warmestBunk 66 = .ok (.iconst (-1), 1) := by decide +kernel
theorem dX9_warmestBunk_67 : decode cX9_warmestBunk 67 = .ok (.if_icmp .eq 9, 3) := by decide +kernel
theorem dX9_warmestBunk_70 : decode cX9_warmestBunk 70 = .ok (.iload 5, 2) := by decide +kernel
theorem dX9_warmestBunk_72 : decode cX9_warmestBunk 72 = .ok (.iload_n 3, 1) := by decide +kernel
theorem dX9_warmestBunk_73 : decode cX9_warmestBunk 73 = .ok (.if_icmp .le 9, 3) := by decide +kernel
theorem dX9_warmestBunk_76 : decode cX9_warmestBunk 76 = .ok (.iload 4, 2) := by decide +kernel
theorem dX9_warmestBunk_78 : decode cX9_warmestBunk 78 = .ok (.istore_n 2, 1) := by decide +kernel
theorem dX9_warmestBunk_79 : decode cX9_warmestBunk 79 = .ok (.iload 5, 2) := by decide +kernel
theorem dX9_warmestBunk_81 : decode cX9_warmestBunk 81 = .ok (.istore_n 3, 1) := by decide +kernel
theorem dX9_warmestBunk_82 : decode cX9_warmestBunk 82 = .ok (.iinc 4 1, 3) := by decide +kernel
theorem dX9_warmestBunk_85 : decode cX9_warmestBunk 85 = .ok (.goto (-59), 3) := by decide +kernel
theorem dX9_warmestBunk_88 : decode cX9_warmestBunk 88 = .ok (.iload_n 2, 1) := by decide +kernel
theorem dX9_warmestBunk_89 : decode cX9_warmestBunk 89 = .ok (.ireturn, 1) := by decide +kernel
theorem dX9_hutCoins_0 : decode cX9_hutCoins 0 = .ok (.aload_n 0, 1) := by decide +kernel
theorem dX9_hutCoins_1 : decode cX9_hutCoins 1 = .ok (.aload_n 0, 1) := by decide +kernel
theorem dX9_hutCoins_2 : decode cX9_hutCoins 2 = .ok (.getfield 7, 3) := by decide +kernel
theorem dX9_hutCoins_5 : decode cX9_hutCoins 5 = .ok (.bipush 6, 2) := by decide +kernel
theorem dX9_hutCoins_7 : decode cX9_hutCoins 7 = .ok (.iaload, 1) := by decide +kernel
theorem dX9_hutCoins_8 : decode cX9_hutCoins 8 = .ok (.invokevirtual 305, 3) := by decide +kernel
theorem dX9_hutCoins_11 : decode cX9_hutCoins 11 = .ok (.ireturn, 1) := by decide +kernel
theorem dX9_burnedLogs_0 : decode cX9_burnedLogs 0 = .ok (.aload_n 0, 1) := by decide +kernel
theorem dX9_burnedLogs_1 : decode cX9_burnedLogs 1 = .ok (.aload_n 0, 1) := by decide +kernel
theorem dX9_burnedLogs_2 : decode cX9_burnedLogs 2 = .ok (.getfield 7, 3) := by decide +kernel
theorem dX9_burnedLogs_5 : decode cX9_burnedLogs 5 = .ok (.iconst 4, 1) := by decide +kernel
theorem dX9_burnedLogs_6 : decode cX9_burnedLogs 6 = .ok (.iaload, 1) := by decide +kernel
theorem dX9_burnedLogs_7 : decode cX9_burnedLogs 7 = .ok (.invokevirtual 305, 3) := by decide +kernel
theorem dX9_burnedLogs_10 : decode cX9_burnedLogs 10 = .ok (.ireturn, 1) := by decide +kernel
theorem dX9_totalDebt_0 : decode cX9_totalDebt 0 = .ok (.aload_n 0, 1) := by decide +kernel
theorem dX9_totalDebt_1 : decode cX9_totalDebt 1 = .ok (.aload_n 0, 1) := by decide +kernel
theorem dX9_totalDebt_2 : decode cX9_totalDebt 2 = .ok (.iconst 3, 1) := by decide +kernel
theorem dX9_totalDebt_3 : decode cX9_totalDebt 3 = .ok (.invokevirtual 376, 3) := by decide +kernel
theorem dX9_totalDebt_6 : decode cX9_totalDebt 6 = .ok (.invokevirtual 305, 3) := by decide +kernel
theorem dX9_totalDebt_9 : decode cX9_totalDebt 9 = .ok (.ireturn, 1) := by decide +kernel
theorem dX9_countTwice_0 : decode cX9_countTwice 0 = .ok (.iconst 0, 1) := by decide +kernel
theorem dX9_countTwice_1 : decode cX9_countTwice 1 = .ok (.istore_n 3, 1) := by decide +kernel
theorem dX9_countTwice_2 : decode cX9_countTwice 2 = .ok (.iconst 0, 1) := by decide +kernel
theorem dX9_countTwice_3 : decode cX9_countTwice 3 = .ok (.istore 4, 2) := by decide +kernel
theorem dX9_countTwice_5 : decode cX9_countTwice 5 = .ok (.iload 4, 2) := by decide +kernel
theorem dX9_countTwice_7 : decode cX9_countTwice 7 = .ok (.iload_n 2, 1) := by decide +kernel
theorem dX9_countTwice_8 : decode cX9_countTwice 8 = .ok (.if_icmp .ge 69, 3) := by decide +kernel
theorem dX9_countTwice_11 : decode cX9_countTwice 11 = .ok (.iconst 0, 1) := by decide +kernel
theorem dX9_countTwice_12 : decode cX9_countTwice 12 = .ok (.istore 5, 2) := by decide +kernel
theorem dX9_countTwice_14 : decode cX9_countTwice 14 = .ok (.iconst 0, 1) := by decide +kernel
theorem dX9_countTwice_15 : decode cX9_countTwice 15 = .ok (.istore 6, 2) := by decide +kernel
theorem dX9_countTwice_17 : decode cX9_countTwice 17 = .ok (.iload 6, 2) := by decide +kernel
theorem dX9_countTwice_19 : decode cX9_countTwice 19 = .ok (.aload_n 0, 1) := by decide +kernel
theorem dX9_countTwice_20 : decode cX9_countTwice 20 = .ok (.getfield 7, 3) := by decide +kernel
theorem dX9_countTwice_23 : decode cX9_countTwice 23 = .ok (.bipush 12, 2) := by decide +kernel
theorem dX9_countTwice_25 : decode cX9_countTwice 25 = .ok (.iaload, 1) := by decide +kernel
theorem dX9_countTwice_26 : decode cX9_countTwice 26 = .ok (.if_icmp .ge 31, 3) := by decide +kernel
theorem dX9_countTwice_29 : decode cX9_countTwice 29 = .ok (.iload 5, 2) := by decide +kernel
theorem dX9_countTwice_31 : decode cX9_countTwice 31 = .ok (.aload_n 0, 1) := by decide +kernel
theorem dX9_countTwice_32 : decode cX9_countTwice 32 = .ok (.iload 6, 2) := by decide +kernel
theorem dX9_countTwice_34 : decode cX9_countTwice 34 = .ok (.iload_n 1, 1) := by decide +kernel
theorem dX9_countTwice_35 : decode cX9_countTwice 35 = .ok (.invokevirtual 64, 3) := by decide +kernel
theorem dX9_countTwice_38 : decode cX9_countTwice 38 = .ok (.iload 4, 2) := by decide +kernel
theorem dX9_countTwice_40 : decode cX9_countTwice 40 = .ok (.if_icmp .ne 7, 3) := by decide +kernel
theorem dX9_countTwice_43 : decode cX9_countTwice 43 = .ok (.iconst 1, 1) := by decide +kernel
theorem dX9_countTwice_44 : decode cX9_countTwice 44 = .ok (.goto 4, 3) := by decide +kernel
theorem dX9_countTwice_47 : decode cX9_countTwice 47 = .ok (.iconst 0, 1) := by decide +kernel
theorem dX9_countTwice_48 : decode cX9_countTwice 48 = .ok (.iadd, 1) := by decide +kernel
theorem dX9_countTwice_49 : decode cX9_countTwice 49 = .ok (.istore 5, 2) := by decide +kernel
theorem dX9_countTwice_51 : decode cX9_countTwice 51 = .ok (.iinc 6 1, 3) := by decide +kernel
theorem dX9_countTwice_54 : decode cX9_countTwice 54 = .ok (.goto (-37), 3) := by decide +kernel
theorem dX9_countTwice_57 : decode cX9_countTwice 57 = .ok (.iload_n 3, 1) := by decide +kernel
theorem dX9_countTwice_58 : decode cX9_countTwice 58 = .ok (.iload 5, 2) := by decide +kernel
theorem dX9_countTwice_60 : decode cX9_countTwice 60 = .ok (.iconst 1, 1) := by decide +kernel
theorem dX9_countTwice_61 : decode cX9_countTwice 61 = .ok (.if_icmp .le 7, 3) := by decide +kernel
theorem dX9_countTwice_64 : decode cX9_countTwice 64 = .ok (.iconst 1, 1) := by decide +kernel
theorem dX9_countTwice_65 : decode cX9_countTwice 65 = .ok (.goto 4, 3) := by decide +kernel
theorem dX9_countTwice_68 : decode cX9_countTwice 68 = .ok (.iconst 0, 1) := by decide +kernel
theorem dX9_countTwice_69 : decode cX9_countTwice 69 = .ok (.iadd, 1) := by decide +kernel
theorem dX9_countTwice_70 : decode cX9_countTwice 70 = .ok (.istore_n 3, 1) := by decide +kernel
theorem dX9_countTwice_71 : decode cX9_countTwice 71 = .ok (.iinc 4 1, 3) := by decide +kernel
theorem dX9_countTwice_74 : decode cX9_countTwice 74 = .ok (.goto (-69), 3) := by decide +kernel
theorem dX9_countTwice_77 : decode cX9_countTwice 77 = .ok (.iload_n 3, 1) := by decide +kernel
theorem dX9_countTwice_78 : decode cX9_countTwice 78 = .ok (.ireturn, 1) := by decide +kernel
theorem dX9_auditDifference_0 : decode cX9_auditDifference 0 = .ok (.aload_n 0, 1) := by decide +kernel
theorem dX9_auditDifference_1 : decode cX9_auditDifference 1 = .ok (.iconst 0, 1) := by decide +kernel
theorem dX9_auditDifference_2 : decode cX9_auditDifference 2 = .ok (.putfield 57, 3) := by decide +kernel
theorem dX9_auditDifference_5 : decode cX9_auditDifference 5 = .ok (.aload_n 0, 1) := by decide +kernel
theorem dX9_auditDifference_6 : decode cX9_auditDifference 6 = .ok (.getfield 7, 3) := by decide +kernel
theorem dX9_auditDifference_9 : decode cX9_auditDifference 9 = .ok (.bipush 7, 2) := by decide +kernel
theorem dX9_auditDifference_11 : decode cX9_auditDifference 11 = .ok (.iaload, 1) := by decide +kernel
theorem dX9_auditDifference_12 : decode cX9_auditDifference 12 = .ok (.aload_n 0, 1) := by decide +kernel
theorem dX9_auditDifference_13 : decode cX9_auditDifference 13 = .ok (.getfield 7, 3) := by decide +kernel
theorem dX9_auditDifference_16 : decode cX9_auditDifference 16 = .ok (.bipush 6, 2) := by decide +kernel
theorem dX9_auditDifference_18 : decode cX9_auditDifference 18 = .ok (.iaload, 1) := by decide +kernel
theorem dX9_auditDifference_19 : decode cX9_auditDifference 19 = .ok (.isub, 1) := by decide +kernel
theorem dX9_auditDifference_20 : decode cX9_auditDifference 20 = .ok (.aload_n 0, 1) := by decide +kernel
theorem dX9_auditDifference_21 : decode cX9_auditDifference 21 = .ok (.iconst 2, 1) := by decide +kernel
theorem dX9_auditDifference_22 : decode cX9_auditDifference 22 = .ok (.invokevirtual 376, 3) := by decide +kernel
theorem dX9_auditDifference_25 : decode cX9_auditDifference 25 = .ok (.isub, 1) := by decide +kernel
theorem dX9_auditDifference_26 : decode cX9_auditDifference 26 = .ok (.invokestatic 379, 3) := by decide +kernel
theorem dX9_auditDifference_29 : decode cX9_auditDifference 29 = .ok (.istore_n 1, 1) := by decide +kernel
theorem dX9_auditDifference_30 : decode cX9_auditDifference 30 = .ok (.aload_n 0, 1) := by decide +kernel
theorem dX9_auditDifference_31 : decode cX9_auditDifference 31 = .ok (.getfield 7, 3) := by decide +kernel
theorem dX9_auditDifference_34 : decode cX9_auditDifference 34 = .ok (.bipush 8, 2) := by decide +kernel
theorem dX9_auditDifference_36 : decode cX9_auditDifference 36 = .ok (.iaload, 1) := by decide +kernel
theorem dX9_auditDifference_37 : decode cX9_auditDifference 37 = .ok (.aload_n 0, 1) := by decide +kernel
theorem dX9_auditDifference_38 : decode cX9_auditDifference 38 = .ok (.getfield 7, 3) := by decide +kernel
theorem dX9_auditDifference_41 : decode cX9_auditDifference 41 = .ok (.iconst 0, 1) := by decide +kernel
theorem dX9_auditDifference_42 : decode cX9_auditDifference 42 = .ok (.iaload, 1) := by decide +kernel
theorem dX9_auditDifference_43 : decode cX9_auditDifference 43 = .ok (.isub, 1) := by decide +kernel
theorem dX9_auditDifference_44 : decode cX9_auditDifference 44 = .ok (.aload_n 0, 1) := by decide +kernel
theorem dX9_auditDifference_45 : decode cX9_auditDifference 45 = .ok (.getfield 7, 3) := by decide +kernel
theorem dX9_auditDifference_48 : decode cX9_auditDifference 48 = .ok (.iconst 4, 1) := by decide +kernel
theorem dX9_auditDifference_49 : decode cX9_auditDifference 49 = .ok (.iaload, 1) := by decide +kernel
theorem dX9_auditDifference_50 : decode cX9_auditDifference 50 = .ok (.isub, 1) := by decide +kernel
theorem dX9_auditDifference_51 : decode cX9_auditDifference 51 = .ok (.invokestatic 379, 3) := by decide +kernel
theorem dX9_auditDifference_54 : decode cX9_auditDifference 54 = .ok (.istore_n 2, 1) := by decide +kernel
theorem dX9_auditDifference_55 : decode cX9_auditDifference 55 = .ok (.iload_n 1, 1) := by decide +kernel
theorem dX9_auditDifference_56 : decode cX9_auditDifference 56 = .ok (.iload_n 2, 1) := by decide +kernel
theorem dX9_auditDifference_57 : decode cX9_auditDifference 57 = .ok (.iadd, 1) := by decide +kernel
theorem dX9_auditDifference_58 : decode cX9_auditDifference 58 = .ok (.aload_n 0, 1) := by decide +kernel
theorem dX9_auditDifference_59 : decode cX9_auditDifference 59 = .ok (.iconst 5, 1) := by decide +kernel
theorem dX9_auditDifference_60 : decode cX9_auditDifference 60 = .ok (.aload_n 0, 1) := by decide +kernel
theorem dX9_auditDifference_61 : decode cX9_auditDifference 61 = .ok (.getfield 7, 3) := by decide +kernel
theorem dX9_auditDifference_64 : decode cX9_auditDifference 64 = .ok (.bipush 10, 2) := by decide +kernel
theorem dX9_auditDifference_66 : decode cX9_auditDifference 66 = .ok (.iaload, 1) := by decide +kernel
theorem dX9_auditDifference_67 : decode cX9_auditDifference 67 = .ok (.invokevirtual 382, 3) := by decide +kernel
theorem dX9_auditDifference_70 : decode cX9_auditDifference 70 = .ok (.iadd, 1) := by decide +kernel
theorem dX9_auditDifference_71 : decode cX9_auditDifference 71 = .ok (.aload_n 0, 1) := by decide +kernel
theorem dX9_auditDifference_72 : decode cX9_auditDifference 72 = .ok (.iconst 4, 1) := by decide +kernel
theorem dX9_auditDifference_73 : decode cX9_auditDifference 73 = .ok (.aload_n 0, 1) := by decide +kernel
theorem dX9_auditDifference_74 : decode cX9_auditDifference 74 = .ok (.getfield 7, 3) := by decide +kernel
theorem dX9_auditDifference_77 : decode cX9_auditDifference 77 = .ok (.bipush 9, 2) := by decide +kernel
theorem dX9_auditDifference_79 : decode cX9_auditDifference 79 = .ok (.iaload, 1) := by decide +kernel
theorem dX9_auditDifference_80 : decode cX9_auditDifference 80 = .ok (.invokevirtual 382, 3) := by decide +kernel
theorem dX9_auditDifference_83 : decode cX9_auditDifference 83 = .ok (.iadd, 1) := by decide +kernel
theorem dX9_auditDifference_84 : decode cX9_auditDifference 84 = .ok (.ireturn, 1) := by decide +kernel
theorem dX9_meanWarmth_0 : decode cX9_meanWarmth 0 = .ok (.aload_n 0, 1) := by decide +kernel
theorem dX9_meanWarmth_1 : decode cX9_meanWarmth 1 = .ok (.iconst 0, 1) := by decide +kernel
theorem dX9_meanWarmth_2 : decode cX9_meanWarmth 2 = .ok (.putfield 57, 3) := by decide +kernel
theorem dX9_meanWarmth_5 : decode cX9_meanWarmth 5 = .ok (.iconst 0, 1) := by decide +kernel
theorem dX9_meanWarmth_6 : decode cX9_meanWarmth 6 = .ok (.istore_n 1, 1) := by decide +kernel
theorem dX9_meanWarmth_7 : decode cX9_meanWarmth 7 = .ok (.iconst 0, 1) := by decide +kernel
theorem dX9_meanWarmth_8 : decode cX9_meanWarmth 8 = .ok (.istore_n 2, 1) := by decide +kernel
theorem dX9_meanWarmth_9 : decode cX9_meanWarmth 9 = .ok (.iload_n 2, 1) := by decide +kernel
theorem dX9_meanWarmth_10 : decode cX9_meanWarmth 10 = .ok (.aload_n 0, 1) := by decide +kernel
theorem dX9_meanWarmth_11 : decode cX9_meanWarmth 11 = .ok (.getfield 7, 3) := by decide +kernel
theorem dX9_meanWarmth_14 : decode cX9_meanWarmth 14 = .ok (.bipush 12, 2) := by decide +kernel
theorem dX9_meanWarmth_16 : decode cX9_meanWarmth 16 = .ok (.iaload, 1) := by decide +kernel
theorem dX9_meanWarmth_17 : decode cX9_meanWarmth 17 = .ok (.if_icmp .ge 17, 3) := by decide +kernel
theorem dX9_meanWarmth_20 : decode cX9_meanWarmth 20 = .ok (.iload_n 1, 1) := by decide +kernel
theorem dX9_meanWarmth_21 : decode cX9_meanWarmth 21 = .ok (.aload_n 0, 1) := by decide +kernel
theorem dX9_meanWarmth_22 : decode cX9_meanWarmth 22 = .ok (.iload_n 2, 1) := by decide +kernel
theorem dX9_meanWarmth_23 : decode cX9_meanWarmth 23 = .ok (.invokevirtual 93, 3) := by decide +kernel
theorem dX9_meanWarmth_26 : decode cX9_meanWarmth 26 = .ok (.iadd, 1) := by decide +kernel
theorem dX9_meanWarmth_27 : decode cX9_meanWarmth 27 = .ok (.istore_n 1, 1) := by decide +kernel
theorem dX9_meanWarmth_28 : decode cX9_meanWarmth 28 = .ok (.iinc 2 1, 3) := by decide +kernel
theorem dX9_meanWarmth_31 : decode cX9_meanWarmth 31 = .ok (.goto (-22), 3) := by decide +kernel
theorem dX9_meanWarmth_34 : decode cX9_meanWarmth 34 = .ok (.iload_n 1, 1) := by decide +kernel
theorem dX9_meanWarmth_35 : decode cX9_meanWarmth 35 = .ok (.i2d, 1) := by decide +kernel
theorem dX9_meanWarmth_36 : decode cX9_meanWarmth 36 = .ok (.aload_n 0, 1) := by decide +kernel
theorem dX9_meanWarmth_37 : decode cX9_meanWarmth 37 = .ok (.getfield 7, 3) := by decide +kernel
theorem dX9_meanWarmth_40 : decode cX9_meanWarmth 40 = .ok (.bipush 12, 2) := by decide +kernel
theorem dX9_meanWarmth_42 : decode cX9_meanWarmth 42 = .ok (.iaload, 1) := by decide +kernel
theorem dX9_meanWarmth_43 : decode cX9_meanWarmth 43 = .ok (.i2d, 1) := by decide +kernel
theorem dX9_meanWarmth_44 : decode cX9_meanWarmth 44 = .ok (.ddiv, 1) := by decide +kernel
theorem dX9_meanWarmth_45 : decode cX9_meanWarmth 45 = .ok (.dreturn, 1) := by decide +kernel
theorem dX9_sleepShare_0 : decode cX9_sleepShare 0 = .ok (.aload_n 0, 1) := by decide +kernel
theorem dX9_sleepShare_1 : decode cX9_sleepShare 1 = .ok (.iconst 0, 1) := by decide +kernel
theorem dX9_sleepShare_2 : decode cX9_sleepShare 2 = .ok (.putfield 57, 3) := by decide +kernel
theorem dX9_sleepShare_5 : decode cX9_sleepShare 5 = .ok (.aload_n 0, 1) := by decide +kernel
theorem dX9_sleepShare_6 : decode cX9_sleepShare 6 = .ok (.getfield 7, 3) := by decide +kernel
theorem dX9_sleepShare_9 : decode cX9_sleepShare 9 = .ok (.iconst 3, 1) := by decide +kernel
theorem dX9_sleepShare_10 : decode cX9_sleepShare 10 = .ok (.iaload, 1) := by decide +kernel
theorem dX9_sleepShare_11 : decode cX9_sleepShare 11 = .ok (.aload_n 0, 1) := by decide +kernel
theorem dX9_sleepShare_12 : decode cX9_sleepShare 12 = .ok (.getfield 7, 3) := by decide +kernel
theorem dX9_sleepShare_15 : decode cX9_sleepShare 15 = .ok (.bipush 12, 2) := by decide +kernel
theorem dX9_sleepShare_17 : decode cX9_sleepShare 17 = .ok (.iaload, 1) := by decide +kernel
theorem dX9_sleepShare_18 : decode cX9_sleepShare 18 = .ok (.imul, 1) := by decide +kernel
theorem dX9_sleepShare_19 : decode cX9_sleepShare 19 = .ok (.istore_n 1, 1) := by decide +kernel
theorem dX9_sleepShare_20 : decode cX9_sleepShare 20 = .ok (.iload_n 1, 1) := by decide +kernel
theorem dX9_sleepShare_21 : decode cX9_sleepShare 21 = .ok (.ifCond .ne 7, 3) := by decide +kernel
theorem dX9_sleepShare_24 : decode cX9_sleepShare 24 = .ok (.fconst 0, 1) := by decide +kernel
theorem dX9_sleepShare_25 : decode cX9_sleepShare 25 = .ok (.goto 13, 3) := by decide +kernel
theorem dX9_sleepShare_28 : decode cX9_sleepShare 28 = .ok (.aload_n 0, 1) := by decide +kernel
theorem dX9_sleepShare_29 : decode cX9_sleepShare 29 = .ok (.bipush 8, 2) := by decide +kernel
theorem dX9_sleepShare_31 : decode cX9_sleepShare 31 = .ok (.invokevirtual 376, 3) := by decide +kernel
theorem dX9_sleepShare_34 : decode cX9_sleepShare 34 = .ok (.i2f, 1) := by decide +kernel
theorem dX9_sleepShare_35 : decode cX9_sleepShare 35 = .ok (.iload_n 1, 1) := by decide +kernel
theorem dX9_sleepShare_36 : decode cX9_sleepShare 36 = .ok (.i2f, 1) := by decide +kernel
theorem dX9_sleepShare_37 : decode cX9_sleepShare 37 = .ok (.fdiv, 1) := by decide +kernel
theorem dX9_sleepShare_38 : decode cX9_sleepShare 38 = .ok (.freturn, 1) := by decide +kernel
theorem dX9_isAheadOfNow_0 : decode cX9_isAheadOfNow 0 = .ok (.iload_n 0, 1) := by decide +kernel
theorem dX9_isAheadOfNow_1 : decode cX9_isAheadOfNow 1 = .ok (.iconst 0, 1) := by decide +kernel
theorem dX9_isAheadOfNow_2 : decode cX9_isAheadOfNow 2 = .ok (.bipush 96, 2) := by decide +kernel
theorem dX9_isAheadOfNow_4 : decode cX9_isAheadOfNow 4 = .ok (.invokestatic 68, 3) := by decide +kernel
theorem dX9_isAheadOfNow_7 : decode cX9_isAheadOfNow 7 = .ok (.ireturn, 1) := by decide +kernel
theorem dX9_insideBehind_0 : decode cX9_insideBehind 0 = .ok (.aload_n 0, 1) := by decide +kernel
theorem dX9_insideBehind_1 : decode cX9_insideBehind 1 = .ok (.iload_n 1, 1) := by decide +kernel
theorem dX9_insideBehind_2 : decode cX9_insideBehind 2 = .ok (.invokevirtual 385, 3) := by decide +kernel
theorem dX9_insideBehind_5 : decode cX9_insideBehind 5 = .ok (.aload_n 0, 1) := by decide +kernel
theorem dX9_insideBehind_6 : decode cX9_insideBehind 6 = .ok (.invokevirtual 79, 3) := by decide +kernel
theorem dX9_insideBehind_9 : decode cX9_insideBehind 9 = .ok (.ireturn, 1) := by decide +kernel
theorem dX9_temperatureAfter_0 : decode cX9_temperatureAfter 0 = .ok (.aload_n 0, 1) := by decide +kernel
theorem dX9_temperatureAfter_1 : decode cX9_temperatureAfter 1 = .ok (.iconst 0, 1) := by decide +kernel
theorem dX9_temperatureAfter_2 : decode cX9_temperatureAfter 2 = .ok (.putfield 57, 3) := by decide +kernel
theorem dX9_temperatureAfter_5 : decode cX9_temperatureAfter 5 = .ok (.iload_n 1, 1) := by decide +kernel
theorem dX9_temperatureAfter_6 : decode cX9_temperatureAfter 6 = .ok (.invokestatic 388, 3) := by decide +kernel
theorem dX9_temperatureAfter_9 : decode cX9_temperatureAfter 9 = .ok (.ifCond .ne 9, 3) := by decide +kernel
theorem dX9_temperatureAfter_12 : decode cX9_temperatureAfter 12 = .ok (.aload_n 0, 1) := by decide +kernel
theorem dX9_temperatureAfter_13 : decode cX9_temperatureAfter 13 = .ok (.iconst 1, 1) := by decide +kernel
theorem dX9_temperatureAfter_14 : decode cX9_temperatureAfter 14 = .ok (.invokevirtual 141, 3) := by decide +kernel
theorem dX9_temperatureAfter_17 : decode cX9_temperatureAfter 17 = .ok (.ireturn, 1) := by decide +kernel
theorem dX9_temperatureAfter_18 : decode cX9_temperatureAfter 18 = .ok (.aload_n 0, 1) := by decide +kernel
theorem dX9_temperatureAfter_19 : decode cX9_temperatureAfter 19 = .ok (.invokevirtual 229, 3) := by decide +kernel
theorem dX9_temperatureAfter_22 : decode cX9_temperatureAfter 22 = .ok (.aload_n 0, 1) := by decide +kernel
theorem dX9_temperatureAfter_23 : decode cX9_temperatureAfter 23 = .ok (.aload_n 0, 1) := by decide +kernel
theorem dX9_temperatureAfter_24 : decode cX9_temperatureAfter 24 = .ok (.iload_n 1, 1) := by decide +kernel
theorem dX9_temperatureAfter_25 : decode cX9_temperatureAfter 25 = .ok (.invokevirtual 391, 3) := by decide +kernel
theorem dX9_temperatureAfter_28 : decode cX9_temperatureAfter 28 = .ok (.invokevirtual 238, 3) := by decide +kernel
theorem dX9_temperatureAfter_31 : decode cX9_temperatureAfter 31 = .ok (.ireturn, 1) := by decide +kernel
theorem dX9_growth_0 : decode cX9_growth 0 = .ok (.aload_n 0, 1) := by decide +kernel
theorem dX9_growth_1 : decode cX9_growth 1 = .ok (.iload_n 1, 1) := by decide +kernel
theorem dX9_growth_2 : decode cX9_growth 2 = .ok (.iload_n 2, 1) := by decide +kernel
theorem dX9_growth_3 : decode cX9_growth 3 = .ok (.invokevirtual 64, 3) := by decide +kernel
theorem dX9_growth_6 : decode cX9_growth 6 = .ok (.istore 4, 2) := by decide +kernel
theorem dX9_growth_8 : decode cX9_growth 8 = .ok (.aload_n 0, 1) := by decide +kernel
theorem dX9_growth_9 : decode cX9_growth 9 = .ok (.iload_n 3, 1) := by decide +kernel
theorem dX9_growth_10 : decode cX9_growth 10 = .ok (.invokevirtual 385, 3) := by decide +kernel
theorem dX9_growth_13 : decode cX9_growth 13 = .ok (.aload_n 0, 1) := by decide +kernel
theorem dX9_growth_14 : decode cX9_growth 14 = .ok (.iload_n 1, 1) := by decide +kernel
theorem dX9_growth_15 : decode cX9_growth 15 = .ok (.iload_n 2, 1) := by decide +kernel
theorem dX9_growth_16 : decode cX9_growth 16 = .ok (.invokevirtual 64, 3) := by decide +kernel
theorem dX9_growth_19 : decode cX9_growth 19 = .ok (.iload 4, 2) := by decide +kernel
theorem dX9_growth_21 : decode cX9_growth 21 = .ok (.isub, 1) := by decide +kernel
theorem dX9_growth_22 : decode cX9_growth 22 = .ok (.ireturn, 1) := by decide +kernel
theorem dX9_shiversUntilDawn_0 : decode cX9_shiversUntilDawn 0 = .ok (.aload_n 0, 1) := by decide +kernel
theorem dX9_shiversUntilDawn_1 : decode cX9_shiversUntilDawn 1 = .ok (.iconst 0, 1) := by decide +kernel
theorem dX9_shiversUntilDawn_2 : decode cX9_shiversUntilDawn 2 = .ok (.putfield 57, 3) := by decide +kernel
theorem dX9_shiversUntilDawn_5 : decode cX9_shiversUntilDawn 5 = .ok (.aload_n 0, 1) := by decide +kernel
theorem dX9_shiversUntilDawn_6 : decode cX9_shiversUntilDawn 6 = .ok (.iload_n 1, 1) := by decide +kernel
theorem dX9_shiversUntilDawn_7 : decode cX9_shiversUntilDawn 7 = .ok (.invokevirtual 324, 3) := by decide +kernel
theorem dX9_shiversUntilDawn_10 : decode cX9_shiversUntilDawn 10 = .ok (.ifCond .ne 9, 3) := by decide +kernel
theorem dX9_shiversUntilDawn_13 : decode cX9_shiversUntilDawn 13 = .ok (.aload_n 0, 1) := by decide +kernel
theorem dX9_shiversUntilDawn_14 : decode cX9_shiversUntilDawn 14 = .ok (.iconst 1, 1) := by decide +kernel
theorem dX9_shiversUntilDawn_15 : decode cX9_shiversUntilDawn 15 = .ok (.invokevirtual 141, 3) := by decide +kernel
theorem dX9_shiversUntilDawn_18 : decode cX9_shiversUntilDawn 18 = .ok (.ireturn, 1) := by decide +kernel
theorem dX9_shiversUntilDawn_19 : decode cX9_shiversUntilDawn 19 = .ok (.aload_n 0, 1) := by decide +kernel
theorem dX9_shiversUntilDawn_20 : decode cX9_shiversUntilDawn 20 = .ok (.invokevirtual 229, 3) := by decide +kernel
theorem dX9_shiversUntilDawn_23 : decode cX9_shiversUntilDawn 23 = .ok (.aload_n 0, 1) := by decide +kernel
theorem dX9_shiversUntilDawn_24 : decode cX9_shiversUntilDawn 24 = .ok (.aload_n 0, 1) := by decide +kernel
theorem dX9_shiversUntilDawn_25 : decode cX9_shiversUntilDawn 25 = .ok (.iload_n 1, 1) := by decide +kernel
theorem dX9_shiversUntilDawn_26 : decode cX9_shiversUntilDawn 26 = .ok (.bipush 6, 2) := by decide +kernel
theorem dX9_shiversUntilDawn_28 : decode cX9_shiversUntilDawn 28 = .ok (.aload_n 0, 1) := by decide +kernel
theorem dX9_shiversUntilDawn_29 : decode cX9_shiversUntilDawn 29 = .ok (.invokevirtual 308, 3) := by decide +kernel
theorem dX9_shiversUntilDawn_32 : decode cX9_shiversUntilDawn 32 = .ok (.invokevirtual 394, 3) := by decide +kernel
theorem dX9_shiversUntilDawn_35 : decode cX9_shiversUntilDawn 35 = .ok (.invokevirtual 238, 3) := by decide +kernel
theorem dX9_shiversUntilDawn_38 : decode cX9_shiversUntilDawn 38 = .ok (.ireturn, 1) := by decide +kernel
theorem dX9_dueAtDawn_0 : decode cX9_dueAtDawn 0 = .ok (.aload_n 0, 1) := by decide +kernel
theorem dX9_dueAtDawn_1 : decode cX9_dueAtDawn 1 = .ok (.aload_n 0, 1) := by decide +kernel
theorem dX9_dueAtDawn_2 : decode cX9_dueAtDawn 2 = .ok (.invokevirtual 308, 3) := by decide +kernel
theorem dX9_dueAtDawn_5 : decode cX9_dueAtDawn 5 = .ok (.invokevirtual 385, 3) := by decide +kernel
theorem dX9_dueAtDawn_8 : decode cX9_dueAtDawn 8 = .ok (.aload_n 0, 1) := by decide +kernel
theorem dX9_dueAtDawn_9 : decode cX9_dueAtDawn 9 = .ok (.getfield 26, 3) := by decide +kernel
theorem dX9_dueAtDawn_12 : decode cX9_dueAtDawn 12 = .ok (.iload_n 1, 1) := by decide +kernel
theorem dX9_dueAtDawn_13 : decode cX9_dueAtDawn 13 = .ok (.iaload, 1) := by decide +kernel
theorem dX9_dueAtDawn_14 : decode cX9_dueAtDawn 14 = .ok (.ireturn, 1) := by decide +kernel
theorem dX9_paymentAtDawn_0 : decode cX9_paymentAtDawn 0 = .ok (.aload_n 0, 1) := by decide +kernel
theorem dX9_paymentAtDawn_1 : decode cX9_paymentAtDawn 1 = .ok (.iconst 0, 1) := by decide +kernel
theorem dX9_paymentAtDawn_2 : decode cX9_paymentAtDawn 2 = .ok (.putfield 57, 3) := by decide +kernel
theorem dX9_paymentAtDawn_5 : decode cX9_paymentAtDawn 5 = .ok (.aload_n 0, 1) := by decide +kernel
theorem dX9_paymentAtDawn_6 : decode cX9_paymentAtDawn 6 = .ok (.iload_n 1, 1) := by decide +kernel
theorem dX9_paymentAtDawn_7 : decode cX9_paymentAtDawn 7 = .ok (.invokevirtual 324, 3) := by decide +kernel
theorem dX9_paymentAtDawn_10 : decode cX9_paymentAtDawn 10 = .ok (.ifCond .ne 9, 3) := by decide +kernel
theorem dX9_paymentAtDawn_13 : decode cX9_paymentAtDawn 13 = .ok (.aload_n 0, 1) := by decide +kernel
theorem dX9_paymentAtDawn_14 : decode cX9_paymentAtDawn 14 = .ok (.iconst 1, 1) := by decide +kernel
theorem dX9_paymentAtDawn_15 : decode cX9_paymentAtDawn 15 = .ok (.invokevirtual 141, 3) := by decide +kernel
theorem dX9_paymentAtDawn_18 : decode cX9_paymentAtDawn 18 = .ok (.ireturn, 1) := by decide +kernel
theorem dX9_paymentAtDawn_19 : decode cX9_paymentAtDawn 19 = .ok (.aload_n 0, 1) := by decide +kernel
theorem dX9_paymentAtDawn_20 : decode cX9_paymentAtDawn 20 = .ok (.invokevirtual 229, 3) := by decide +kernel
theorem dX9_paymentAtDawn_23 : decode cX9_paymentAtDawn 23 = .ok (.aload_n 0, 1) := by decide +kernel
theorem dX9_paymentAtDawn_24 : decode cX9_paymentAtDawn 24 = .ok (.aload_n 0, 1) := by decide +kernel
theorem dX9_paymentAtDawn_25 : decode cX9_paymentAtDawn 25 = .ok (.iload_n 1, 1) := by decide +kernel
theorem dX9_paymentAtDawn_26 : decode cX9_paymentAtDawn 26 = .ok (.invokevirtual 398, 3) := by decide +kernel
theorem dX9_paymentAtDawn_29 : decode cX9_paymentAtDawn 29 = .ok (.invokevirtual 238, 3) := by decide +kernel
theorem dX9_paymentAtDawn_32 : decode cX9_paymentAtDawn 32 = .ok (.ireturn, 1) := by decide +kernel
theorem dX9_debtBehind_0 : decode cX9_debtBehind 0 = .ok (.aload_n 0, 1) := by decide +kernel
theorem dX9_debtBehind_1 : decode cX9_debtBehind 1 = .ok (.iload_n 2, 1) := by decide +kernel
theorem dX9_debtBehind_2 : decode cX9_debtBehind 2 = .ok (.invokevirtual 385, 3) := by decide +kernel
theorem dX9_debtBehind_5 : decode cX9_debtBehind 5 = .ok (.aload_n 0, 1) := by decide +kernel
theorem dX9_debtBehind_6 : decode cX9_debtBehind 6 = .ok (.iload_n 1, 1) := by decide +kernel
theorem dX9_debtBehind_7 : decode cX9_debtBehind 7 = .ok (.iconst 3, 1) := by decide +kernel
theorem dX9_debtBehind_8 : decode cX9_debtBehind 8 = .ok (.invokevirtual 64, 3) := by decide +kernel
theorem dX9_debtBehind_11 : decode cX9_debtBehind 11 = .ok (.ireturn, 1) := by decide +kernel
theorem dX9_debtAfter_0 : decode cX9_debtAfter 0 = .ok (.aload_n 0, 1) := by decide +kernel
theorem dX9_debtAfter_1 : decode cX9_debtAfter 1 = .ok (.aload_n 0, 1) := by decide +kernel
theorem dX9_debtAfter_2 : decode cX9_debtAfter 2 = .ok (.iload_n 1, 1) := by decide +kernel
theorem dX9_debtAfter_3 : decode cX9_debtAfter 3 = .ok (.invokevirtual 324, 3) := by decide +kernel
theorem dX9_debtAfter_6 : decode cX9_debtAfter 6 = .ok (.ifCond .ne 7, 3) := by decide +kernel
theorem dX9_debtAfter_9 : decode cX9_debtAfter 9 = .ok (.iconst 1, 1) := by decide +kernel
theorem dX9_debtAfter_10 : decode cX9_debtAfter 10 = .ok (.goto 15, 3) := by decide +kernel
theorem dX9_debtAfter_13 : decode cX9_debtAfter 13 = .ok (.iload_n 2, 1) := by decide +kernel
theorem dX9_debtAfter_14 : decode cX9_debtAfter 14 = .ok (.invokestatic 388, 3) := by decide +kernel
theorem dX9_debtAfter_17 : decode cX9_debtAfter 17 = .ok (.ifCond .eq 7, 3) := by decide +kernel
theorem dX9_debtAfter_20 : decode cX9_debtAfter 20 = .ok (.iconst 0, 1) := by decide +kernel
theorem dX9_debtAfter_21 : decode cX9_debtAfter 21 = .ok (.goto 4, 3) := by decide +kernel
theorem dX9_debtAfter_24 : decode cX9_debtAfter 24 = .ok (.iconst 2, 1) := by decide +kernel
theorem dX9_debtAfter_25 : decode cX9_debtAfter 25 = .ok (.putfield 57, 3) := by decide +kernel
theorem dX9_debtAfter_28 : decode cX9_debtAfter 28 = .ok (.aload_n 0, 1) := by decide +kernel
theorem dX9_debtAfter_29 : decode cX9_debtAfter 29 = .ok (.getfield 57, 3) := by decide +kernel
theorem dX9_debtAfter_32 : decode cX9_debtAfter 32 = .ok (.ifCond .le 5, 3) := by decide +kernel
theorem dX9_debtAfter_35 : decode cX9_debtAfter 35 = .ok (.iconst 0, 1) := by decide +kernel
theorem dX9_debtAfter_36 : decode cX9_debtAfter 36 = .ok (.ireturn, 1) := by decide +kernel
theorem dX9_debtAfter_37 : decode cX9_debtAfter 37 = .ok (.aload_n 0, 1) := by decide +kernel
theorem dX9_debtAfter_38 : decode cX9_debtAfter 38 = .ok (.invokevirtual 229, 3) := by decide +kernel
theorem dX9_debtAfter_41 : decode cX9_debtAfter 41 = .ok (.aload_n 0, 1) := by decide +kernel
theorem dX9_debtAfter_42 : decode cX9_debtAfter 42 = .ok (.aload_n 0, 1) := by decide +kernel
theorem dX9_debtAfter_43 : decode cX9_debtAfter 43 = .ok (.iload_n 1, 1) := by decide +kernel
theorem dX9_debtAfter_44 : decode cX9_debtAfter 44 = .ok (.iload_n 2, 1) := by decide +kernel
theorem dX9_debtAfter_45 : decode cX9_debtAfter 45 = .ok (.invokevirtual 401, 3) := by decide +kernel
theorem dX9_debtAfter_48 : decode cX9_debtAfter 48 = .ok (.invokevirtual 238, 3) := by decide +kernel
theorem dX9_debtAfter_51 : decode cX9_debtAfter 51 = .ok (.ireturn, 1) := by decide +kernel
theorem dX9_dawnsToDebt_0 : decode cX9_dawnsToDebt 0 = .ok (.iconst 0, 1) := by decide +kernel
theorem dX9_dawnsToDebt_1 : decode cX9_dawnsToDebt 1 = .ok (.istore_n 2, 1) := by decide +kernel
theorem dX9_dawnsToDebt_2 : decode cX9_dawnsToDebt 2 = .ok (.iload_n 2, 1) := by decide +kernel
theorem dX9_dawnsToDebt_3 : decode cX9_dawnsToDebt 3 = .ok (.bipush 12, 2) := by decide +kernel
theorem dX9_dawnsToDebt_5 : decode cX9_dawnsToDebt 5 = .ok (.if_icmp .gt 28, 3) := by decide +kernel
theorem dX9_dawnsToDebt_8 : decode cX9_dawnsToDebt 8 = .ok (.aload_n 0, 1) := by decide +kernel
theorem dX9_dawnsToDebt_9 : decode cX9_dawnsToDebt 9 = .ok (.iload_n 1, 1) := by decide +kernel
theorem dX9_dawnsToDebt_10 : decode cX9_dawnsToDebt 10 = .ok (.iconst 3, 1) := by decide +kernel
theorem dX9_dawnsToDebt_11 : decode cX9_dawnsToDebt 11 = .ok (.invokevirtual 64, 3) := by decide +kernel
theorem dX9_dawnsToDebt_14 : decode cX9_dawnsToDebt 14 = .ok (.ifCond .le 5, 3) := by decide +kernel
theorem dX9_dawnsToDebt_17 : decode cX9_dawnsToDebt 17 = .ok (.iload_n 2, 1) := by decide +kernel
theorem dX9_dawnsToDebt_18 : decode cX9_dawnsToDebt 18 = .ok (.ireturn, 1) := by decide +kernel
theorem dX9_dawnsToDebt_19 : decode cX9_dawnsToDebt 19 = .ok (.aload_n 0, 1) := by decide +kernel
theorem dX9_dawnsToDebt_20 : decode cX9_dawnsToDebt 20 = .ok (.aload_n 0, 1) := by decide +kernel
theorem dX9_dawnsToDebt_21 : decode cX9_dawnsToDebt 21 = .ok (.invokevirtual 308, 3) := by decide +kernel
theorem dX9_dawnsToDebt_24 : decode cX9_dawnsToDebt 24 = .ok (.invokevirtual 385, 3) := by decide +kernel
theorem dX9_dawnsToDebt_27 : decode cX9_dawnsToDebt 27 = .ok (.iinc 2 1, 3) := by decide +kernel
theorem dX9_dawnsToDebt_30 : decode cX9_dawnsToDebt 30 = .ok (.goto (-28), 3) := by decide +kernel
theorem dX9_dawnsToDebt_33 : decode cX9_dawnsToDebt 33 = .ok (.iconst (-1), 1) := by decide +kernel
theorem dX9_dawnsToDebt_34 : decode cX9_dawnsToDebt 34 = .ok (.ireturn, 1) := by decide +kernel
theorem dX9_dawnsUntilDebt_0 : decode cX9_dawnsUntilDebt 0 = .ok (.aload_n 0, 1) := by decide +kernel
theorem dX9_dawnsUntilDebt_1 : decode cX9_dawnsUntilDebt 1 = .ok (.iconst 0, 1) := by decide +kernel
theorem dX9_dawnsUntilDebt_2 : decode cX9_dawnsUntilDebt 2 = .ok (.putfield 57, 3) := by decide +kernel
theorem dX9_dawnsUntilDebt_5 : decode cX9_dawnsUntilDebt 5 = .ok (.aload_n 0, 1) := by decide +kernel
theorem dX9_dawnsUntilDebt_6 : decode cX9_dawnsUntilDebt 6 = .ok (.iload_n 1, 1) := by decide +kernel
theorem dX9_dawnsUntilDebt_7 : decode cX9_dawnsUntilDebt 7 = .ok (.invokevirtual 324, 3) := by decide +kernel
theorem dX9_dawnsUntilDebt_10 : decode cX9_dawnsUntilDebt 10 = .ok (.ifCond .ne 9, 3) := by decide +kernel
theorem dX9_dawnsUntilDebt_13 : decode cX9_dawnsUntilDebt 13 = .ok (.aload_n 0, 1) := by decide +kernel
theorem dX9_dawnsUntilDebt_14 : decode cX9_dawnsUntilDebt 14 = .ok (.iconst 1, 1) := by decide +kernel
theorem dX9_dawnsUntilDebt_15 : decode cX9_dawnsUntilDebt 15 = .ok (.invokevirtual 141, 3) := by decide +kernel
theorem dX9_dawnsUntilDebt_18 : decode cX9_dawnsUntilDebt 18 = .ok (.ireturn, 1) := by decide +kernel
theorem dX9_dawnsUntilDebt_19 : decode cX9_dawnsUntilDebt 19 = .ok (.aload_n 0, 1) := by decide +kernel
theorem dX9_dawnsUntilDebt_20 : decode cX9_dawnsUntilDebt 20 = .ok (.invokevirtual 229, 3) := by decide +kernel
theorem dX9_dawnsUntilDebt_23 : decode cX9_dawnsUntilDebt 23 = .ok (.aload_n 0, 1) := by decide +kernel
theorem dX9_dawnsUntilDebt_24 : decode cX9_dawnsUntilDebt 24 = .ok (.aload_n 0, 1) := by decide +kernel
theorem dX9_dawnsUntilDebt_25 : decode cX9_dawnsUntilDebt 25 = .ok (.iload_n 1, 1) := by decide +kernel
theorem dX9_dawnsUntilDebt_26 : decode cX9_dawnsUntilDebt 26 = .ok (.invokevirtual 404, 3) := by decide +kernel
theorem dX9_dawnsUntilDebt_29 : decode cX9_dawnsUntilDebt 29 = .ok (.invokevirtual 238, 3) := by decide +kernel
theorem dX9_dawnsUntilDebt_32 : decode cX9_dawnsUntilDebt 32 = .ok (.ireturn, 1) := by decide +kernel
theorem dX9_hoursToNoLogs_0 : decode cX9_hoursToNoLogs 0 = .ok (.iconst 0, 1) := by decide +kernel
theorem dX9_hoursToNoLogs_1 : decode cX9_hoursToNoLogs 1 = .ok (.istore_n 1, 1) := by decide +kernel
theorem dX9_hoursToNoLogs_2 : decode cX9_hoursToNoLogs 2 = .ok (.iload_n 1, 1) := by decide +kernel
theorem dX9_hoursToNoLogs_3 : decode cX9_hoursToNoLogs 3 = .ok (.bipush 96, 2) := by decide +kernel
theorem dX9_hoursToNoLogs_5 : decode cX9_hoursToNoLogs 5 = .ok (.if_icmp .gt 24, 3) := by decide +kernel
theorem dX9_hoursToNoLogs_8 : decode cX9_hoursToNoLogs 8 = .ok (.aload_n 0, 1) := by decide +kernel
theorem dX9_hoursToNoLogs_9 : decode cX9_hoursToNoLogs 9 = .ok (.getfield 7, 3) := by decide +kernel
theorem dX9_hoursToNoLogs_12 : decode cX9_hoursToNoLogs 12 = .ok (.iconst 0, 1) := by decide +kernel
theorem dX9_hoursToNoLogs_13 : decode cX9_hoursToNoLogs 13 = .ok (.iaload, 1) := by decide +kernel
theorem dX9_hoursToNoLogs_14 : decode cX9_hoursToNoLogs 14 = .ok (.ifCond .ne 5, 3) := by decide +kernel
theorem dX9_hoursToNoLogs_17 : decode cX9_hoursToNoLogs 17 = .ok (.iload_n 1, 1) := by decide +kernel
theorem dX9_hoursToNoLogs_18 : decode cX9_hoursToNoLogs 18 = .ok (.ireturn, 1) := by decide +kernel
theorem dX9_hoursToNoLogs_19 : decode cX9_hoursToNoLogs 19 = .ok (.aload_n 0, 1) := by decide +kernel
theorem dX9_hoursToNoLogs_20 : decode cX9_hoursToNoLogs 20 = .ok (.invokevirtual 135, 3) := by decide +kernel
theorem dX9_hoursToNoLogs_23 : decode cX9_hoursToNoLogs 23 = .ok (.iinc 1 1, 3) := by decide +kernel
theorem dX9_hoursToNoLogs_26 : decode cX9_hoursToNoLogs 26 = .ok (.goto (-24), 3) := by decide +kernel
theorem dX9_hoursToNoLogs_29 : decode cX9_hoursToNoLogs 29 = .ok (.iconst (-1), 1) := by decide +kernel
theorem dX9_hoursToNoLogs_30 : decode cX9_hoursToNoLogs 30 = .ok (.ireturn, 1) := by decide +kernel
theorem dX9_hoursUntilNoLogs_0 : decode cX9_hoursUntilNoLogs 0 = .ok (.aload_n 0, 1) := by decide +kernel
theorem dX9_hoursUntilNoLogs_1 : decode cX9_hoursUntilNoLogs 1 = .ok (.iconst 0, 1) := by decide +kernel
theorem dX9_hoursUntilNoLogs_2 : decode cX9_hoursUntilNoLogs 2 = .ok (.putfield 57, 3) := by decide +kernel
theorem dX9_hoursUntilNoLogs_5 : decode cX9_hoursUntilNoLogs 5 = .ok (.aload_n 0, 1) := by decide +kernel
theorem dX9_hoursUntilNoLogs_6 : decode cX9_hoursUntilNoLogs 6 = .ok (.invokevirtual 229, 3) := by decide +kernel
theorem dX9_hoursUntilNoLogs_9 : decode cX9_hoursUntilNoLogs 9 = .ok (.aload_n 0, 1) := by decide +kernel
theorem dX9_hoursUntilNoLogs_10 : decode cX9_hoursUntilNoLogs 10 = .ok (.aload_n 0, 1) := by decide +kernel
theorem dX9_hoursUntilNoLogs_11 : decode cX9_hoursUntilNoLogs 11 = .ok (.invokevirtual 407, 3) := by decide +kernel
theorem dX9_hoursUntilNoLogs_14 : decode cX9_hoursUntilNoLogs 14 = .ok (.invokevirtual 238, 3) := by decide +kernel
theorem dX9_hoursUntilNoLogs_17 : decode cX9_hoursUntilNoLogs 17 = .ok (.ireturn, 1) := by decide +kernel
theorem dX9_hoursWith_0 : decode cX9_hoursWith 0 = .ok (.aload_n 0, 1) := by decide +kernel
theorem dX9_hoursWith_1 : decode cX9_hoursWith 1 = .ok (.getfield 7, 3) := by decide +kernel
theorem dX9_hoursWith_4 : decode cX9_hoursWith 4 = .ok (.iconst 1, 1) := by decide +kernel
theorem dX9_hoursWith_5 : decode cX9_hoursWith 5 = .ok (.iload_n 1, 1) := by decide +kernel
theorem dX9_hoursWith_6 : decode cX9_hoursWith 6 = .ok (.iastore, 1) := by decide +kernel
theorem dX9_hoursWith_7 : decode cX9_hoursWith 7 = .ok (.aload_n 0, 1) := by decide +kernel
theorem dX9_hoursWith_8 : decode cX9_hoursWith 8 = .ok (.bipush 6, 2) := by decide +kernel
theorem dX9_hoursWith_10 : decode cX9_hoursWith 10 = .ok (.iload_n 2, 1) := by decide +kernel
theorem dX9_hoursWith_11 : decode cX9_hoursWith 11 = .ok (.iadd, 1) := by decide +kernel
theorem dX9_hoursWith_12 : decode cX9_hoursWith 12 = .ok (.invokevirtual 376, 3) := by decide +kernel
theorem dX9_hoursWith_15 : decode cX9_hoursWith 15 = .ok (.istore_n 3, 1) := by decide +kernel
theorem dX9_hoursWith_16 : decode cX9_hoursWith 16 = .ok (.aload_n 0, 1) := by decide +kernel
theorem dX9_hoursWith_17 : decode cX9_hoursWith 17 = .ok (.aload_n 0, 1) := by decide +kernel
theorem dX9_hoursWith_18 : decode cX9_hoursWith 18 = .ok (.invokevirtual 308, 3) := by decide +kernel
theorem dX9_hoursWith_21 : decode cX9_hoursWith 21 = .ok (.invokevirtual 385, 3) := by decide +kernel
theorem dX9_hoursWith_24 : decode cX9_hoursWith 24 = .ok (.aload_n 0, 1) := by decide +kernel
theorem dX9_hoursWith_25 : decode cX9_hoursWith 25 = .ok (.bipush 6, 2) := by decide +kernel
theorem dX9_hoursWith_27 : decode cX9_hoursWith 27 = .ok (.iload_n 2, 1) := by decide +kernel
theorem dX9_hoursWith_28 : decode cX9_hoursWith 28 = .ok (.iadd, 1) := by decide +kernel
theorem dX9_hoursWith_29 : decode cX9_hoursWith 29 = .ok (.invokevirtual 376, 3) := by decide +kernel
theorem dX9_hoursWith_32 : decode cX9_hoursWith 32 = .ok (.iload_n 3, 1) := by decide +kernel
theorem dX9_hoursWith_33 : decode cX9_hoursWith 33 = .ok (.isub, 1) := by decide +kernel
theorem dX9_hoursWith_34 : decode cX9_hoursWith 34 = .ok (.ireturn, 1) := by decide +kernel
theorem dX9_rateNeeded_0 : decode cX9_rateNeeded 0 = .ok (.aload_n 0, 1) := by decide +kernel
theorem dX9_rateNeeded_1 : decode cX9_rateNeeded 1 = .ok (.iconst 0, 1) := by decide +kernel
theorem dX9_rateNeeded_2 : decode cX9_rateNeeded 2 = .ok (.putfield 57, 3) := by decide +kernel
theorem dX9_rateNeeded_5 : decode cX9_rateNeeded 5 = .ok (.iconst 0, 1) := by decide +kernel
theorem dX9_rateNeeded_6 : decode cX9_rateNeeded 6 = .ok (.istore_n 1, 1) := by decide +kernel
theorem dX9_rateNeeded_7 : decode cX9_rateNeeded 7 = .ok (.iload_n 1, 1) := by decide +kernel
theorem dX9_rateNeeded_8 : decode cX9_rateNeeded 8 = .ok (.iconst 3, 1) := by decide +kernel
theorem dX9_rateNeeded_9 : decode cX9_rateNeeded 9 = .ok (.if_icmp .gt 28, 3) := by decide +kernel
theorem dX9_rateNeeded_12 : decode cX9_rateNeeded 12 = .ok (.aload_n 0, 1) := by decide +kernel
theorem dX9_rateNeeded_13 : decode cX9_rateNeeded 13 = .ok (.invokevirtual 229, 3) := by decide +kernel
theorem dX9_rateNeeded_16 : decode cX9_rateNeeded 16 = .ok (.aload_n 0, 1) := by decide +kernel
theorem dX9_rateNeeded_17 : decode cX9_rateNeeded 17 = .ok (.aload_n 0, 1) := by decide +kernel
theorem dX9_rateNeeded_18 : decode cX9_rateNeeded 18 = .ok (.iload_n 1, 1) := by decide +kernel
theorem dX9_rateNeeded_19 : decode cX9_rateNeeded 19 = .ok (.iconst 0, 1) := by decide +kernel
theorem dX9_rateNeeded_20 : decode cX9_rateNeeded 20 = .ok (.invokevirtual 410, 3) := by decide +kernel
theorem dX9_rateNeeded_23 : decode cX9_rateNeeded 23 = .ok (.invokevirtual 238, 3) := by decide +kernel
theorem dX9_rateNeeded_26 : decode cX9_rateNeeded 26 = .ok (.ifCond .ne 5, 3) := by decide +kernel
theorem dX9_rateNeeded_29 : decode cX9_rateNeeded 29 = .ok (.iload_n 1, 1) := by decide +kernel
theorem dX9_rateNeeded_30 : decode cX9_rateNeeded 30 = .ok (.ireturn, 1) := by decide +kernel
theorem dX9_rateNeeded_31 : decode cX9_rateNeeded 31 = .ok (.iinc 1 1, 3) := by decide +kernel
theorem dX9_rateNeeded_34 : decode cX9_rateNeeded 34 = .ok (.goto (-27), 3) := by decide +kernel
theorem dX9_rateNeeded_37 : decode cX9_rateNeeded 37 = .ok (.iconst (-1), 1) := by decide +kernel
theorem dX9_rateNeeded_38 : decode cX9_rateNeeded 38 = .ok (.ireturn, 1) := by decide +kernel
theorem dX9_bestRate_0 : decode cX9_bestRate 0 = .ok (.aload_n 0, 1) := by decide +kernel
theorem dX9_bestRate_1 : decode cX9_bestRate 1 = .ok (.iconst 0, 1) := by decide +kernel
theorem dX9_bestRate_2 : decode cX9_bestRate 2 = .ok (.putfield 57, 3) := by decide +kernel
theorem dX9_bestRate_5 : decode cX9_bestRate 5 = .ok (.iconst 0, 1) := by decide +kernel
theorem dX9_bestRate_6 : decode cX9_bestRate 6 = .ok (.istore_n 1, 1) := by decide +kernel
theorem dX9_bestRate_7 : decode cX9_bestRate 7 = .ok (.iconst (-1), 1) := by decide +kernel
theorem dX9_bestRate_8 : decode cX9_bestRate 8 = .ok (.istore_n 2, 1) := by decide +kernel
theorem dX9_bestRate_9 : decode cX9_bestRate 9 = .ok (.iconst 0, 1) := by decide +kernel
theorem dX9_bestRate_10 : decode cX9_bestRate 10 = .ok (.istore_n 3, 1) := by decide +kernel
theorem dX9_bestRate_11 : decode cX9_bestRate 11 = .ok (.iload_n 3, 1) := by decide +kernel
theorem dX9_bestRate_12 : decode cX9_bestRate 12 = .ok (.iconst 3, 1) := by decide +kernel
theorem dX9_bestRate_13 : decode cX9_bestRate 13 = .ok (.if_icmp .gt 44, 3) := by decide +kernel
theorem dX9_bestRate_16 : decode cX9_bestRate 16 = .ok (.aload_n 0, 1) := by decide +kernel
theorem dX9_bestRate_17 : decode cX9_bestRate 17 = .ok (.invokevirtual 229, 3) := by decide +kernel
theorem dX9_bestRate_20 : decode cX9_bestRate 20 = .ok (.aload_n 0, 1) := by decide +kernel
theorem dX9_bestRate_21 : decode cX9_bestRate 21 = .ok (.aload_n 0, 1) := by decide +kernel
theorem dX9_bestRate_22 : decode cX9_bestRate 22 = .ok (.iload_n 3, 1) := by decide +kernel
theorem dX9_bestRate_23 : decode cX9_bestRate 23 = .ok (.iconst 2, 1) := by decide +kernel
theorem dX9_bestRate_24 : decode cX9_bestRate 24 = .ok (.invokevirtual 410, 3) := by decide +kernel
theorem dX9_bestRate_27 : decode cX9_bestRate 27 = .ok (.invokevirtual 238, 3) := by decide +kernel
theorem dX9_bestRate_30 : decode cX9_bestRate 30 = .ok (.istore 4, 2) := by decide +kernel
theorem dX9_bestRate_32 : decode cX9_bestRate 32 = .ok (.iload 4, 2) := by decide +kernel
theorem dX9_bestRate_34 : decode cX9_bestRate 34 = .ok (.iload_n 2, 1) := by decide +kernel
theorem dX9_bestRate_35 : decode cX9_bestRate 35 = .ok (.if_icmp .le 7, 3) := by decide +kernel
theorem dX9_bestRate_38 : decode cX9_bestRate 38 = .ok (.iload_n 3, 1) := by decide +kernel
theorem dX9_bestRate_39 : decode cX9_bestRate 39 = .ok (.goto 4, 3) := by decide +kernel
theorem dX9_bestRate_42 : decode cX9_bestRate 42 = .ok (.iload_n 1, 1) := by decide +kernel
theorem dX9_bestRate_43 : decode cX9_bestRate 43 = .ok (.istore_n 1, 1) := by decide +kernel
theorem dX9_bestRate_44 : decode cX9_bestRate 44 = .ok (.iload_n 2, 1) := by decide +kernel
theorem dX9_bestRate_45 : decode cX9_bestRate 45 = .ok (.iload 4, 2) := by decide +kernel
theorem dX9_bestRate_47 : decode cX9_bestRate 47 = .ok (.invokestatic 315, 3) := by decide +kernel
theorem dX9_bestRate_50 : decode cX9_bestRate 50 = .ok (.istore_n 2, 1) := by decide +kernel
theorem dX9_bestRate_51 : decode cX9_bestRate 51 = .ok (.iinc 3 1, 3) := by decide +kernel
theorem dX9_bestRate_54 : decode cX9_bestRate 54 = .ok (.goto (-43), 3) := by decide +kernel
theorem dX9_bestRate_57 : decode cX9_bestRate 57 = .ok (.iload_n 1, 1) := by decide +kernel
theorem dX9_bestRate_58 : decode cX9_bestRate 58 = .ok (.ireturn, 1) := by decide +kernel
theorem dX9_record_0 : decode cX9_record 0 = .ok (.aload_n 0, 1) := by decide +kernel
theorem dX9_record_1 : decode cX9_record 1 = .ok (.getfield 241, 3) := by decide +kernel
theorem dX9_record_4 : decode cX9_record 4 = .ok (.bipush 6, 2) := by decide +kernel
theorem dX9_record_6 : decode cX9_record 6 = .ok (.if_icmp .ne 46, 3) := by decide +kernel
theorem dX9_record_9 : decode cX9_record 9 = .ok (.sipush 149, 3) := by decide +kernel
theorem dX9_record_12 : decode cX9_record 12 = .ok (.istore_n 1, 1) := by decide +kernel
theorem dX9_record_13 : decode cX9_record 13 = .ok (.iload_n 1, 1) := by decide +kernel
theorem dX9_record_14 : decode cX9_record 14 = .ok (.sipush 894, 3) := by decide +kernel
theorem dX9_record_17 : decode cX9_record 17 = .ok (.if_icmp .ge 25, 3) := by decide +kernel
theorem dX9_record_20 : decode cX9_record 20 = .ok (.aload_n 0, 1) := by decide +kernel
theorem dX9_record_21 : decode cX9_record 21 = .ok (.getfield 16, 3) := by decide +kernel
theorem dX9_record_24 : decode cX9_record 24 = .ok (.iload_n 1, 1) := by decide +kernel
theorem dX9_record_25 : decode cX9_record 25 = .ok (.sipush 149, 3) := by decide +kernel
theorem dX9_record_28 : decode cX9_record 28 = .ok (.isub, 1) := by decide +kernel
theorem dX9_record_29 : decode cX9_record 29 = .ok (.aload_n 0, 1) := by decide +kernel
theorem dX9_record_30 : decode cX9_record 30 = .ok (.getfield 16, 3) := by decide +kernel
theorem dX9_record_33 : decode cX9_record 33 = .ok (.iload_n 1, 1) := by decide +kernel
theorem dX9_record_34 : decode cX9_record 34 = .ok (.iaload, 1) := by decide +kernel
theorem dX9_record_35 : decode cX9_record 35 = .ok (.iastore, 1) := by decide +kernel
theorem dX9_record_36 : decode cX9_record 36 = .ok (.iinc 1 1, 3) := by decide +kernel
theorem dX9_record_39 : decode cX9_record 39 = .ok (.goto (-26), 3) := by decide +kernel
theorem dX9_record_42 : decode cX9_record 42 = .ok (.aload_n 0, 1) := by decide +kernel
theorem dX9_record_43 : decode cX9_record 43 = .ok (.dup, 1) := by decide +kernel
theorem dX9_record_44 : decode cX9_record 44 = .ok (.getfield 241, 3) := by decide +kernel
theorem dX9_record_47 : decode cX9_record 47 = .ok (.iconst 1, 1) := by decide +kernel
theorem dX9_record_48 : decode cX9_record 48 = .ok (.isub, 1) := by decide +kernel
theorem dX9_record_49 : decode cX9_record 49 = .ok (.putfield 241, 3) := by decide +kernel
theorem dX9_record_52 : decode cX9_record 52 = .ok (.aload_n 0, 1) := by decide +kernel
theorem dX9_record_53 : decode cX9_record 53 = .ok (.getfield 7, 3) := by decide +kernel
theorem dX9_record_56 : decode cX9_record 56 = .ok (.iconst 0, 1) := by decide +kernel
theorem dX9_record_57 : decode cX9_record 57 = .ok (.aload_n 0, 1) := by decide +kernel
theorem dX9_record_58 : decode cX9_record 58 = .ok (.getfield 16, 3) := by decide +kernel
theorem dX9_record_61 : decode cX9_record 61 = .ok (.sipush 149, 3) := by decide +kernel
theorem dX9_record_64 : decode cX9_record 64 = .ok (.aload_n 0, 1) := by decide +kernel
theorem dX9_record_65 : decode cX9_record 65 = .ok (.getfield 241, 3) := by decide +kernel
theorem dX9_record_68 : decode cX9_record 68 = .ok (.imul, 1) := by decide +kernel
theorem dX9_record_69 : decode cX9_record 69 = .ok (.invokestatic 60, 3) := by decide +kernel
theorem dX9_record_72 : decode cX9_record 72 = .ok (.aload_n 0, 1) := by decide +kernel
theorem dX9_record_73 : decode cX9_record 73 = .ok (.dup, 1) := by decide +kernel
theorem dX9_record_74 : decode cX9_record 74 = .ok (.getfield 241, 3) := by decide +kernel
theorem dX9_record_77 : decode cX9_record 77 = .ok (.iconst 1, 1) := by decide +kernel
theorem dX9_record_78 : decode cX9_record 78 = .ok (.iadd, 1) := by decide +kernel
theorem dX9_record_79 : decode cX9_record 79 = .ok (.putfield 241, 3) := by decide +kernel
theorem dX9_record_82 : decode cX9_record 82 = .ok (.return_, 1) := by decide +kernel
theorem dX9_change_0 : decode cX9_change 0 = .ok (.aload_n 0, 1) := by decide +kernel
theorem dX9_change_1 : decode cX9_change 1 = .ok (.invokevirtual 413, 3) := by decide +kernel
theorem dX9_change_4 : decode cX9_change 4 = .ok (.aload_n 0, 1) := by decide +kernel
theorem dX9_change_5 : decode cX9_change 5 = .ok (.iload_n 1, 1) := by decide +kernel
theorem dX9_change_6 : decode cX9_change 6 = .ok (.iload_n 2, 1) := by decide +kernel
theorem dX9_change_7 : decode cX9_change 7 = .ok (.invokevirtual 64, 3) := by decide +kernel
theorem dX9_change_10 : decode cX9_change 10 = .ok (.istore 4, 2) := by decide +kernel
theorem dX9_change_12 : decode cX9_change 12 = .ok (.aload_n 0, 1) := by decide +kernel
theorem dX9_change_13 : decode cX9_change 13 = .ok (.iload_n 1, 1) := by decide +kernel
theorem dX9_change_14 : decode cX9_change 14 = .ok (.iload_n 2, 1) := by decide +kernel
theorem dX9_change_15 : decode cX9_change 15 = .ok (.iload_n 3, 1) := by decide +kernel
theorem dX9_change_16 : decode cX9_change 16 = .ok (.invokevirtual 54, 3) := by decide +kernel
theorem dX9_change_19 : decode cX9_change 19 = .ok (.iload 4, 2) := by decide +kernel
theorem dX9_change_21 : decode cX9_change 21 = .ok (.ireturn, 1) := by decide +kernel
theorem dX9_takeBlanket_0 : decode cX9_takeBlanket 0 = .ok (.aload_n 0, 1) := by decide +kernel
theorem dX9_takeBlanket_1 : decode cX9_takeBlanket 1 = .ok (.aload_n 0, 1) := by decide +kernel
theorem dX9_takeBlanket_2 : decode cX9_takeBlanket 2 = .ok (.iload_n 1, 1) := by decide +kernel
theorem dX9_takeBlanket_3 : decode cX9_takeBlanket 3 = .ok (.invokevirtual 324, 3) := by decide +kernel
theorem dX9_takeBlanket_6 : decode cX9_takeBlanket 6 = .ok (.ifCond .eq 11, 3) := by decide +kernel
theorem dX9_takeBlanket_9 : decode cX9_takeBlanket 9 = .ok (.aload_n 0, 1) := by decide +kernel
theorem dX9_takeBlanket_10 : decode cX9_takeBlanket 10 = .ok (.iload_n 2, 1) := by decide +kernel
theorem dX9_takeBlanket_11 : decode cX9_takeBlanket 11 = .ok (.invokevirtual 333, 3) := by decide +kernel
theorem dX9_takeBlanket_14 : decode cX9_takeBlanket 14 = .ok (.ifCond .ne 7, 3) := by decide +kernel
theorem dX9_takeBlanket_17 : decode cX9_takeBlanket 17 = .ok (.iconst 1, 1) := by decide +kernel
theorem dX9_takeBlanket_18 : decode cX9_takeBlanket 18 = .ok (.goto 16, 3) := by decide +kernel
theorem dX9_takeBlanket_21 : decode cX9_takeBlanket 21 = .ok (.aload_n 0, 1) := by decide +kernel
theorem dX9_takeBlanket_22 : decode cX9_takeBlanket 22 = .ok (.iload_n 2, 1) := by decide +kernel
theorem dX9_takeBlanket_23 : decode cX9_takeBlanket 23 = .ok (.invokevirtual 336, 3) := by decide +kernel
theorem dX9_takeBlanket_26 : decode cX9_takeBlanket 26 = .ok (.ifCond .eq 7, 3) := by decide +kernel
theorem dX9_takeBlanket_29 : decode cX9_takeBlanket 29 = .ok (.iconst 0, 1) := by decide +kernel
theorem dX9_takeBlanket_30 : decode cX9_takeBlanket 30 = .ok (.goto 4, 3) := by decide +kernel
theorem dX9_takeBlanket_33 : decode cX9_takeBlanket 33 = .ok (.iconst 2, 1) := by decide +kernel
theorem dX9_takeBlanket_34 : decode cX9_takeBlanket 34 = .ok (.putfield 57, 3) := by decide +kernel
theorem dX9_takeBlanket_37 : decode cX9_takeBlanket 37 = .ok (.aload_n 0, 1) := by decide +kernel
theorem dX9_takeBlanket_38 : decode cX9_takeBlanket 38 = .ok (.getfield 57, 3) := by decide +kernel
theorem dX9_takeBlanket_41 : decode cX9_takeBlanket 41 = .ok (.ifCond .le 5, 3) := by decide +kernel
theorem dX9_takeBlanket_44 : decode cX9_takeBlanket 44 = .ok (.iconst 0, 1) := by decide +kernel
theorem dX9_takeBlanket_45 : decode cX9_takeBlanket 45 = .ok (.ireturn, 1) := by decide +kernel
theorem dX9_takeBlanket_46 : decode cX9_takeBlanket 46 = .ok (.aload_n 0, 1) := by decide +kernel
theorem dX9_takeBlanket_47 : decode cX9_takeBlanket 47 = .ok (.iload_n 1, 1) := by decide +kernel
theorem dX9_takeBlanket_48 : decode cX9_takeBlanket 48 = .ok (.iconst 5, 1) := by decide +kernel
theorem dX9_takeBlanket_49 : decode cX9_takeBlanket 49 = .ok (.iload_n 2, 1) := by decide +kernel
theorem dX9_takeBlanket_50 : decode cX9_takeBlanket 50 = .ok (.invokevirtual 416, 3) := by decide +kernel
theorem dX9_takeBlanket_53 : decode cX9_takeBlanket 53 = .ok (.istore_n 3, 1) := by decide +kernel
theorem dX9_takeBlanket_54 : decode cX9_takeBlanket 54 = .ok (.aload_n 0, 1) := by decide +kernel
theorem dX9_takeBlanket_55 : decode cX9_takeBlanket 55 = .ok (.iload_n 1, 1) := by decide +kernel
theorem dX9_takeBlanket_56 : decode cX9_takeBlanket 56 = .ok (.invokevirtual 93, 3) := by decide +kernel
theorem dX9_takeBlanket_59 : decode cX9_takeBlanket 59 = .ok (.ireturn, 1) := by decide +kernel
theorem dX9_returnBlanket_0 : decode cX9_returnBlanket 0 = .ok (.aload_n 0, 1) := by decide +kernel
theorem dX9_returnBlanket_1 : decode cX9_returnBlanket 1 = .ok (.aload_n 0, 1) := by decide +kernel
theorem dX9_returnBlanket_2 : decode cX9_returnBlanket 2 = .ok (.iload_n 1, 1) := by decide +kernel
theorem dX9_returnBlanket_3 : decode cX9_returnBlanket 3 = .ok (.invokevirtual 324, 3) := by decide +kernel
theorem dX9_returnBlanket_6 : decode cX9_returnBlanket 6 = .ok (.ifCond .ne 7, 3) := by decide +kernel
theorem dX9_returnBlanket_9 : decode cX9_returnBlanket 9 = .ok (.iconst 1, 1) := by decide +kernel
theorem dX9_returnBlanket_10 : decode cX9_returnBlanket 10 = .ok (.goto 18, 3) := by decide +kernel
theorem dX9_returnBlanket_13 : decode cX9_returnBlanket 13 = .ok (.aload_n 0, 1) := by decide +kernel
theorem dX9_returnBlanket_14 : decode cX9_returnBlanket 14 = .ok (.iload_n 1, 1) := by decide +kernel
theorem dX9_returnBlanket_15 : decode cX9_returnBlanket 15 = .ok (.iconst 5, 1) := by decide +kernel
theorem dX9_returnBlanket_16 : decode cX9_returnBlanket 16 = .ok (.invokevirtual 64, 3) := by decide +kernel
theorem dX9_returnBlanket_19 : decode cX9_returnBlanket 19 = .ok (.iconst (-1), 1) := by decide +kernel
theorem dX9_returnBlanket_20 : decode cX9_returnBlanket 20 = .ok (.if_icmp .ne 7, 3) := by decide +kernel
theorem dX9_returnBlanket_23 : decode cX9_returnBlanket 23 = .ok (.iconst 2, 1) := by decide +kernel
theorem dX9_returnBlanket_24 : decode cX9_returnBlanket 24 = .ok (.goto 4, 3) := by decide +kernel
theorem dX9_returnBlanket_27 : decode cX9_returnBlanket 27 = .ok (.iconst 0, 1) := by decide +kernel
theorem dX9_returnBlanket_28 : decode cX9_returnBlanket 28 = .ok (.putfield 57, 3) := by decide +kernel
theorem dX9_returnBlanket_31 : decode cX9_returnBlanket 31 = .ok (.aload_n 0, 1) := by decide +kernel
theorem dX9_returnBlanket_32 : decode cX9_returnBlanket 32 = .ok (.getfield 57, 3) := by decide +kernel
theorem dX9_returnBlanket_35 : decode cX9_returnBlanket 35 = .ok (.ifCond .le 7, 3) := by decide +kernel
theorem dX9_returnBlanket_38 : decode cX9_returnBlanket 38 = .ok (.iconst 0, 1) := by decide +kernel
theorem dX9_returnBlanket_39 : decode cX9_returnBlanket 39 = .ok (.goto 10, 3) := by decide +kernel
theorem dX9_returnBlanket_42 : decode cX9_returnBlanket 42 = .ok (.aload_n 0, 1) := by decide +kernel
theorem dX9_returnBlanket_43 : decode cX9_returnBlanket 43 = .ok (.iload_n 1, 1) := by decide +kernel
theorem dX9_returnBlanket_44 : decode cX9_returnBlanket 44 = .ok (.iconst 5, 1) := by decide +kernel
theorem dX9_returnBlanket_45 : decode cX9_returnBlanket 45 = .ok (.iconst (-1), 1) := by decide +kernel
theorem dX9_returnBlanket_46 : decode cX9_returnBlanket 46 = .ok (.invokevirtual 416, 3) := by decide +kernel
theorem dX9_returnBlanket_49 : decode cX9_returnBlanket 49 = .ok (.ireturn, 1) := by decide +kernel
theorem dX9_swapBlankets_0 : decode cX9_swapBlankets 0 = .ok (.aload_n 0, 1) := by decide +kernel
theorem dX9_swapBlankets_1 : decode cX9_swapBlankets 1 = .ok (.iconst 0, 1) := by decide +kernel
theorem dX9_swapBlankets_2 : decode cX9_swapBlankets 2 = .ok (.putfield 57, 3) := by decide +kernel
theorem dX9_swapBlankets_5 : decode cX9_swapBlankets 5 = .ok (.aload_n 0, 1) := by decide +kernel
theorem dX9_swapBlankets_6 : decode cX9_swapBlankets 6 = .ok (.iload_n 1, 1) := by decide +kernel
theorem dX9_swapBlankets_7 : decode cX9_swapBlankets 7 = .ok (.invokevirtual 324, 3) := by decide +kernel
theorem dX9_swapBlankets_10 : decode cX9_swapBlankets 10 = .ok (.ifCond .eq 11, 3) := by decide +kernel
theorem dX9_swapBlankets_13 : decode cX9_swapBlankets 13 = .ok (.aload_n 0, 1) := by decide +kernel
theorem dX9_swapBlankets_14 : decode cX9_swapBlankets 14 = .ok (.iload_n 2, 1) := by decide +kernel
theorem dX9_swapBlankets_15 : decode cX9_swapBlankets 15 = .ok (.invokevirtual 324, 3) := by decide +kernel
theorem dX9_swapBlankets_18 : decode cX9_swapBlankets 18 = .ok (.ifCond .ne 9, 3) := by decide +kernel
theorem dX9_swapBlankets_21 : decode cX9_swapBlankets 21 = .ok (.aload_n 0, 1) := by decide +kernel
theorem dX9_swapBlankets_22 : decode cX9_swapBlankets 22 = .ok (.iconst 1, 1) := by decide +kernel
theorem dX9_swapBlankets_23 : decode cX9_swapBlankets 23 = .ok (.invokevirtual 141, 3) := by decide +kernel
theorem dX9_swapBlankets_26 : decode cX9_swapBlankets 26 = .ok (.ireturn, 1) := by decide +kernel
theorem dX9_swapBlankets_27 : decode cX9_swapBlankets 27 = .ok (.iload_n 1, 1) := by decide +kernel
theorem dX9_swapBlankets_28 : decode cX9_swapBlankets 28 = .ok (.iload_n 2, 1) := by decide +kernel
theorem dX9_swapBlankets_29 : decode cX9_swapBlankets 29 = .ok (.if_icmp .eq 18, 3) := by decide +kernel
theorem dX9_swapBlankets_32 : decode cX9_swapBlankets 32 = .ok (.aload_n 0, 1) := by decide +kernel
theorem dX9_swapBlankets_33 : decode cX9_swapBlankets 33 = .ok (.iload_n 1, 1) := by decide +kernel
theorem dX9_swapBlankets_34 : decode cX9_swapBlankets 34 = .ok (.iconst 5, 1) := by decide +kernel
theorem dX9_swapBlankets_35 : decode cX9_swapBlankets 35 = .ok (.invokevirtual 64, 3) := by decide +kernel
theorem dX9_swapBlankets_38 : decode cX9_swapBlankets 38 = .ok (.aload_n 0, 1) := by decide +kernel
theorem dX9_swapBlankets_39 : decode cX9_swapBlankets 39 = .ok (.iload_n 2, 1) := by decide +kernel
theorem dX9_swapBlankets_40 : decode cX9_swapBlankets 40 = .ok (.iconst 5, 1) := by decide +kernel
theorem dX9_swapBlankets_41 : decode cX9_swapBlankets 41 = .ok (.invokevirtual 64, 3) := by decide +kernel
theorem dX9_swapBlankets_44 : decode cX9_swapBlankets 44 = .ok (.if_icmp .ne 9, 3) := by decide +kernel
theorem dX9_swapBlankets_47 : decode cX9_swapBlankets 47 = .ok (.aload_n 0, 1) := by decide +kernel
theorem dX9_swapBlankets_48 : decode cX9_swapBlankets 48 = .ok (.iconst 2, 1) := by decide +kernel
theorem dX9_swapBlankets_49 : decode cX9_swapBlankets 49 = .ok (.invokevirtual 141, 3) := by decide +kernel
theorem dX9_swapBlankets_52 : decode cX9_swapBlankets 52 = .ok (.ireturn, 1) := by decide +kernel
theorem dX9_swapBlankets_53 : decode cX9_swapBlankets 53 = .ok (.aload_n 0, 1) := by decide +kernel
theorem dX9_swapBlankets_54 : decode cX9_swapBlankets 54 = .ok (.invokevirtual 413, 3) := by decide +kernel
theorem dX9_swapBlankets_57 : decode cX9_swapBlankets 57 = .ok (.aload_n 0, 1) := by decide +kernel
theorem dX9_swapBlankets_58 : decode cX9_swapBlankets 58 = .ok (.iload_n 1, 1) := by decide +kernel
theorem dX9_swapBlankets_59 : decode cX9_swapBlankets 59 = .ok (.iload_n 2, 1) := by decide +kernel
theorem dX9_swapBlankets_60 : decode cX9_swapBlankets 60 = .ok (.invokevirtual 366, 3) := by decide +kernel
theorem dX9_swapBlankets_63 : decode cX9_swapBlankets 63 = .ok (.aload_n 0, 1) := by decide +kernel
theorem dX9_swapBlankets_64 : decode cX9_swapBlankets 64 = .ok (.iconst 0, 1) := by decide +kernel
theorem dX9_swapBlankets_65 : decode cX9_swapBlankets 65 = .ok (.invokevirtual 318, 3) := by decide +kernel
theorem dX9_swapBlankets_68 : decode cX9_swapBlankets 68 = .ok (.ireturn, 1) := by decide +kernel
theorem dX9_lieDown_0 : decode cX9_lieDown 0 = .ok (.aload_n 0, 1) := by decide +kernel
theorem dX9_lieDown_1 : decode cX9_lieDown 1 = .ok (.aload_n 0, 1) := by decide +kernel
theorem dX9_lieDown_2 : decode cX9_lieDown 2 = .ok (.iload_n 1, 1) := by decide +kernel
theorem dX9_lieDown_3 : decode cX9_lieDown 3 = .ok (.invokevirtual 324, 3) := by decide +kernel
theorem dX9_lieDown_6 : decode cX9_lieDown 6 = .ok (.ifCond .eq 11, 3) := by decide +kernel
theorem dX9_lieDown_9 : decode cX9_lieDown 9 = .ok (.aload_n 0, 1) := by decide +kernel
theorem dX9_lieDown_10 : decode cX9_lieDown 10 = .ok (.iload_n 2, 1) := by decide +kernel
theorem dX9_lieDown_11 : decode cX9_lieDown 11 = .ok (.invokevirtual 72, 3) := by decide +kernel
theorem dX9_lieDown_14 : decode cX9_lieDown 14 = .ok (.ifCond .ne 7, 3) := by decide +kernel
theorem dX9_lieDown_17 : decode cX9_lieDown 17 = .ok (.iconst 1, 1) := by decide +kernel
theorem dX9_lieDown_18 : decode cX9_lieDown 18 = .ok (.goto 17, 3) := by decide +kernel
theorem dX9_lieDown_21 : decode cX9_lieDown 21 = .ok (.aload_n 0, 1) := by decide +kernel
theorem dX9_lieDown_22 : decode cX9_lieDown 22 = .ok (.iload_n 2, 1) := by decide +kernel
theorem dX9_lieDown_23 : decode cX9_lieDown 23 = .ok (.invokevirtual 83, 3) := by decide +kernel
theorem dX9_lieDown_26 : decode cX9_lieDown 26 = .ok (.iconst (-1), 1) := by decide +kernel
theorem dX9_lieDown_27 : decode cX9_lieDown 27 = .ok (.if_icmp .ne 7, 3) := by decide +kernel
theorem dX9_lieDown_30 : decode cX9_lieDown 30 = .ok (.iconst 0, 1) := by decide +kernel
theorem dX9_lieDown_31 : decode cX9_lieDown 31 = .ok (.goto 4, 3) := by decide +kernel
theorem dX9_lieDown_34 : decode cX9_lieDown 34 = .ok (.iconst 2, 1) := by decide +kernel
theorem dX9_lieDown_35 : decode cX9_lieDown 35 = .ok (.putfield 57, 3) := by decide +kernel
theorem dX9_lieDown_38 : decode cX9_lieDown 38 = .ok (.aload_n 0, 1) := by decide +kernel
theorem dX9_lieDown_39 : decode cX9_lieDown 39 = .ok (.getfield 57, 3) := by decide +kernel
theorem dX9_lieDown_42 : decode cX9_lieDown 42 = .ok (.ifCond .le 5, 3) := by decide +kernel
theorem dX9_lieDown_45 : decode cX9_lieDown 45 = .ok (.iconst 0, 1) := by decide +kernel
theorem dX9_lieDown_46 : decode cX9_lieDown 46 = .ok (.ireturn, 1) := by decide +kernel
theorem dX9_lieDown_47 : decode cX9_lieDown 47 = .ok (.aload_n 0, 1) := by decide +kernel
theorem dX9_lieDown_48 : decode cX9_lieDown 48 = .ok (.iload_n 1, 1) := by decide +kernel
theorem dX9_lieDown_49 : decode cX9_lieDown 49 = .ok (.iconst 4, 1) := by decide +kernel
theorem dX9_lieDown_50 : decode cX9_lieDown 50 = .ok (.iload_n 2, 1) := by decide +kernel
theorem dX9_lieDown_51 : decode cX9_lieDown 51 = .ok (.invokevirtual 416, 3) := by decide +kernel
theorem dX9_lieDown_54 : decode cX9_lieDown 54 = .ok (.istore_n 3, 1) := by decide +kernel
theorem dX9_lieDown_55 : decode cX9_lieDown 55 = .ok (.aload_n 0, 1) := by decide +kernel
theorem dX9_lieDown_56 : decode cX9_lieDown 56 = .ok (.iload_n 2, 1) := by decide +kernel
theorem dX9_lieDown_57 : decode cX9_lieDown 57 = .ok (.invokevirtual 102, 3) := by decide +kernel
theorem dX9_lieDown_60 : decode cX9_lieDown 60 = .ok (.ireturn, 1) := by decide +kernel
theorem dX9_getUp_0 : decode cX9_getUp 0 = .ok (.aload_n 0, 1) := by decide +kernel
theorem dX9_getUp_1 : decode cX9_getUp 1 = .ok (.aload_n 0, 1) := by decide +kernel
theorem dX9_getUp_2 : decode cX9_getUp 2 = .ok (.iload_n 1, 1) := by decide +kernel
theorem dX9_getUp_3 : decode cX9_getUp 3 = .ok (.invokevirtual 324, 3) := by decide +kernel
theorem dX9_getUp_6 : decode cX9_getUp 6 = .ok (.ifCond .ne 7, 3) := by decide +kernel
theorem dX9_getUp_9 : decode cX9_getUp 9 = .ok (.iconst 1, 1) := by decide +kernel
theorem dX9_getUp_10 : decode cX9_getUp 10 = .ok (.goto 18, 3) := by decide +kernel
theorem dX9_getUp_13 : decode cX9_getUp 13 = .ok (.aload_n 0, 1) := by decide +kernel
theorem dX9_getUp_14 : decode cX9_getUp 14 = .ok (.iload_n 1, 1) := by decide +kernel
theorem dX9_getUp_15 : decode cX9_getUp 15 = .ok (.iconst 4, 1) := by decide +kernel
theorem dX9_getUp_16 : decode cX9_getUp 16 = .ok (.invokevirtual 64, 3) := by decide +kernel
theorem dX9_getUp_19 : decode cX9_getUp 19 = .ok (.iconst (-1), 1) := by decide +kernel
theorem dX9_getUp_20 : decode cX9_getUp 20 = .ok (.if_icmp .ne 7, 3) := by decide +kernel
theorem dX9_getUp_23 : decode cX9_getUp 23 = .ok (.iconst 2, 1) := by decide +kernel
theorem dX9_getUp_24 : decode cX9_getUp 24 = .ok (.goto 4, 3) := by decide +kernel
theorem dX9_getUp_27 : decode cX9_getUp 27 = .ok (.iconst 0, 1) := by decide +kernel
theorem dX9_getUp_28 : decode cX9_getUp 28 = .ok (.putfield 57, 3) := by decide +kernel
theorem dX9_getUp_31 : decode cX9_getUp 31 = .ok (.aload_n 0, 1) := by decide +kernel
theorem dX9_getUp_32 : decode cX9_getUp 32 = .ok (.getfield 57, 3) := by decide +kernel
theorem dX9_getUp_35 : decode cX9_getUp 35 = .ok (.ifCond .le 7, 3) := by decide +kernel
theorem dX9_getUp_38 : decode cX9_getUp 38 = .ok (.iconst 0, 1) := by decide +kernel
theorem dX9_getUp_39 : decode cX9_getUp 39 = .ok (.goto 10, 3) := by decide +kernel
theorem dX9_getUp_42 : decode cX9_getUp 42 = .ok (.aload_n 0, 1) := by decide +kernel
theorem dX9_getUp_43 : decode cX9_getUp 43 = .ok (.iload_n 1, 1) := by decide +kernel
theorem dX9_getUp_44 : decode cX9_getUp 44 = .ok (.iconst 4, 1) := by decide +kernel
theorem dX9_getUp_45 : decode cX9_getUp 45 = .ok (.iconst (-1), 1) := by decide +kernel
theorem dX9_getUp_46 : decode cX9_getUp 46 = .ok (.invokevirtual 416, 3) := by decide +kernel
theorem dX9_getUp_49 : decode cX9_getUp 49 = .ok (.ireturn, 1) := by decide +kernel
theorem dX9_setRate_0 : decode cX9_setRate 0 = .ok (.aload_n 0, 1) := by decide +kernel
theorem dX9_setRate_1 : decode cX9_setRate 1 = .ok (.iconst 0, 1) := by decide +kernel
theorem dX9_setRate_2 : decode cX9_setRate 2 = .ok (.putfield 57, 3) := by decide +kernel
theorem dX9_setRate_5 : decode cX9_setRate 5 = .ok (.iload_n 1, 1) := by decide +kernel
theorem dX9_setRate_6 : decode cX9_setRate 6 = .ok (.iconst 0, 1) := by decide +kernel
theorem dX9_setRate_7 : decode cX9_setRate 7 = .ok (.iconst 3, 1) := by decide +kernel
theorem dX9_setRate_8 : decode cX9_setRate 8 = .ok (.invokestatic 68, 3) := by decide +kernel
theorem dX9_setRate_11 : decode cX9_setRate 11 = .ok (.ifCond .ne 9, 3) := by decide +kernel
theorem dX9_setRate_14 : decode cX9_setRate 14 = .ok (.aload_n 0, 1) := by decide +kernel
theorem dX9_setRate_15 : decode cX9_setRate 15 = .ok (.iconst 1, 1) := by decide +kernel
theorem dX9_setRate_16 : decode cX9_setRate 16 = .ok (.invokevirtual 141, 3) := by decide +kernel
theorem dX9_setRate_19 : decode cX9_setRate 19 = .ok (.ireturn, 1) := by decide +kernel
theorem dX9_setRate_20 : decode cX9_setRate 20 = .ok (.aload_n 0, 1) := by decide +kernel
theorem dX9_setRate_21 : decode cX9_setRate 21 = .ok (.invokevirtual 413, 3) := by decide +kernel
theorem dX9_setRate_24 : decode cX9_setRate 24 = .ok (.aload_n 0, 1) := by decide +kernel
theorem dX9_setRate_25 : decode cX9_setRate 25 = .ok (.getfield 7, 3) := by decide +kernel
theorem dX9_setRate_28 : decode cX9_setRate 28 = .ok (.iconst 1, 1) := by decide +kernel
theorem dX9_setRate_29 : decode cX9_setRate 29 = .ok (.iaload, 1) := by decide +kernel
theorem dX9_setRate_30 : decode cX9_setRate 30 = .ok (.istore_n 2, 1) := by decide +kernel
theorem dX9_setRate_31 : decode cX9_setRate 31 = .ok (.aload_n 0, 1) := by decide +kernel
theorem dX9_setRate_32 : decode cX9_setRate 32 = .ok (.getfield 7, 3) := by decide +kernel
theorem dX9_setRate_35 : decode cX9_setRate 35 = .ok (.iconst 1, 1) := by decide +kernel
theorem dX9_setRate_36 : decode cX9_setRate 36 = .ok (.iload_n 1, 1) := by decide +kernel
theorem dX9_setRate_37 : decode cX9_setRate 37 = .ok (.iastore, 1) := by decide +kernel
theorem dX9_setRate_38 : decode cX9_setRate 38 = .ok (.iload_n 2, 1) := by decide +kernel
theorem dX9_setRate_39 : decode cX9_setRate 39 = .ok (.ireturn, 1) := by decide +kernel
theorem dX9_fetchLogs_0 : decode cX9_fetchLogs 0 = .ok (.aload_n 0, 1) := by decide +kernel
theorem dX9_fetchLogs_1 : decode cX9_fetchLogs 1 = .ok (.iload_n 1, 1) := by decide +kernel
theorem dX9_fetchLogs_2 : decode cX9_fetchLogs 2 = .ok (.iconst 1, 1) := by decide +kernel
theorem dX9_fetchLogs_3 : decode cX9_fetchLogs 3 = .ok (.bipush 50, 2) := by decide +kernel
theorem dX9_fetchLogs_5 : decode cX9_fetchLogs 5 = .ok (.invokestatic 68, 3) := by decide +kernel
theorem dX9_fetchLogs_8 : decode cX9_fetchLogs 8 = .ok (.ifCond .ne 7, 3) := by decide +kernel
theorem dX9_fetchLogs_11 : decode cX9_fetchLogs 11 = .ok (.iconst 1, 1) := by decide +kernel
theorem dX9_fetchLogs_12 : decode cX9_fetchLogs 12 = .ok (.goto 21, 3) := by decide +kernel
theorem dX9_fetchLogs_15 : decode cX9_fetchLogs 15 = .ok (.aload_n 0, 1) := by decide +kernel
theorem dX9_fetchLogs_16 : decode cX9_fetchLogs 16 = .ok (.getfield 7, 3) := by decide +kernel
theorem dX9_fetchLogs_19 : decode cX9_fetchLogs 19 = .ok (.iconst 0, 1) := by decide +kernel
theorem dX9_fetchLogs_20 : decode cX9_fetchLogs 20 = .ok (.iaload, 1) := by decide +kernel
theorem dX9_fetchLogs_21 : decode cX9_fetchLogs 21 = .ok (.iload_n 1, 1) := by decide +kernel
theorem dX9_fetchLogs_22 : decode cX9_fetchLogs 22 = .ok (.iadd, 1) := by decide +kernel
theorem dX9_fetchLogs_23 : decode cX9_fetchLogs 23 = .ok (.bipush 99, 2) := by decide +kernel
theorem dX9_fetchLogs_25 : decode cX9_fetchLogs 25 = .ok (.if_icmp .le 7, 3) := by decide +kernel
theorem dX9_fetchLogs_28 : decode cX9_fetchLogs 28 = .ok (.iconst 2, 1) := by decide +kernel
theorem dX9_fetchLogs_29 : decode cX9_fetchLogs 29 = .ok (.goto 4, 3) := by decide +kernel
theorem dX9_fetchLogs_32 : decode cX9_fetchLogs 32 = .ok (.iconst 0, 1) := by decide +kernel
theorem dX9_fetchLogs_33 : decode cX9_fetchLogs 33 = .ok (.putfield 57, 3) := by decide +kernel
theorem dX9_fetchLogs_36 : decode cX9_fetchLogs 36 = .ok (.aload_n 0, 1) := by decide +kernel
theorem dX9_fetchLogs_37 : decode cX9_fetchLogs 37 = .ok (.getfield 57, 3) := by decide +kernel
theorem dX9_fetchLogs_40 : decode cX9_fetchLogs 40 = .ok (.ifCond .le 5, 3) := by decide +kernel
theorem dX9_fetchLogs_43 : decode cX9_fetchLogs 43 = .ok (.iconst 0, 1) := by decide +kernel
theorem dX9_fetchLogs_44 : decode cX9_fetchLogs 44 = .ok (.ireturn, 1) := by decide +kernel
theorem dX9_fetchLogs_45 : decode cX9_fetchLogs 45 = .ok (.aload_n 0, 1) := by decide +kernel
theorem dX9_fetchLogs_46 : decode cX9_fetchLogs 46 = .ok (.invokevirtual 413, 3) := by decide +kernel
theorem dX9_fetchLogs_49 : decode cX9_fetchLogs 49 = .ok (.aload_n 0, 1) := by decide +kernel
theorem dX9_fetchLogs_50 : decode cX9_fetchLogs 50 = .ok (.getfield 7, 3) := by decide +kernel
theorem dX9_fetchLogs_53 : decode cX9_fetchLogs 53 = .ok (.iconst 0, 1) := by decide +kernel
theorem dX9_fetchLogs_54 : decode cX9_fetchLogs 54 = .ok (.dup2, 1) := by decide +kernel
theorem dX9_fetchLogs_55 : decode cX9_fetchLogs 55 = .ok (.iaload, 1) := by decide +kernel
theorem dX9_fetchLogs_56 : decode cX9_fetchLogs 56 = .ok (.iload_n 1, 1) := by decide +kernel
theorem dX9_fetchLogs_57 : decode cX9_fetchLogs 57 = .ok (.iadd, 1) := by decide +kernel
theorem dX9_fetchLogs_58 : decode cX9_fetchLogs 58 = .ok (.iastore, 1) := by decide +kernel
theorem dX9_fetchLogs_59 : decode cX9_fetchLogs 59 = .ok (.aload_n 0, 1) := by decide +kernel
theorem dX9_fetchLogs_60 : decode cX9_fetchLogs 60 = .ok (.getfield 7, 3) := by decide +kernel
theorem dX9_fetchLogs_63 : decode cX9_fetchLogs 63 = .ok (.bipush 8, 2) := by decide +kernel
theorem dX9_fetchLogs_65 : decode cX9_fetchLogs 65 = .ok (.dup2, 1) := by decide +kernel
theorem dX9_fetchLogs_66 : decode cX9_fetchLogs 66 = .ok (.iaload, 1) := by decide +kernel
theorem dX9_fetchLogs_67 : decode cX9_fetchLogs 67 = .ok (.iload_n 1, 1) := by decide +kernel
theorem dX9_fetchLogs_68 : decode cX9_fetchLogs 68 = .ok (.iadd, 1) := by decide +kernel
theorem dX9_fetchLogs_69 : decode cX9_fetchLogs 69 = .ok (.iastore, 1) := by decide +kernel
theorem dX9_fetchLogs_70 : decode cX9_fetchLogs 70 = .ok (.aload_n 0, 1) := by decide +kernel
theorem dX9_fetchLogs_71 : decode cX9_fetchLogs 71 = .ok (.getfield 7, 3) := by decide +kernel
theorem dX9_fetchLogs_74 : decode cX9_fetchLogs 74 = .ok (.iconst 0, 1) := by decide +kernel
theorem dX9_fetchLogs_75 : decode cX9_fetchLogs 75 = .ok (.iaload, 1) := by decide +kernel
theorem dX9_fetchLogs_76 : decode cX9_fetchLogs 76 = .ok (.ireturn, 1) := by decide +kernel
theorem dX9_payDebt_0 : decode cX9_payDebt 0 = .ok (.aload_n 0, 1) := by decide +kernel
theorem dX9_payDebt_1 : decode cX9_payDebt 1 = .ok (.iconst 0, 1) := by decide +kernel
theorem dX9_payDebt_2 : decode cX9_payDebt 2 = .ok (.putfield 57, 3) := by decide +kernel
theorem dX9_payDebt_5 : decode cX9_payDebt 5 = .ok (.aload_n 0, 1) := by decide +kernel
theorem dX9_payDebt_6 : decode cX9_payDebt 6 = .ok (.iload_n 1, 1) := by decide +kernel
theorem dX9_payDebt_7 : decode cX9_payDebt 7 = .ok (.invokevirtual 324, 3) := by decide +kernel
theorem dX9_payDebt_10 : decode cX9_payDebt 10 = .ok (.ifCond .ne 9, 3) := by decide +kernel
theorem dX9_payDebt_13 : decode cX9_payDebt 13 = .ok (.aload_n 0, 1) := by decide +kernel
theorem dX9_payDebt_14 : decode cX9_payDebt 14 = .ok (.iconst 1, 1) := by decide +kernel
theorem dX9_payDebt_15 : decode cX9_payDebt 15 = .ok (.invokevirtual 141, 3) := by decide +kernel
theorem dX9_payDebt_18 : decode cX9_payDebt 18 = .ok (.ireturn, 1) := by decide +kernel
theorem dX9_payDebt_19 : decode cX9_payDebt 19 = .ok (.iload_n 2, 1) := by decide +kernel
theorem dX9_payDebt_20 : decode cX9_payDebt 20 = .ok (.iconst 1, 1) := by decide +kernel
theorem dX9_payDebt_21 : decode cX9_payDebt 21 = .ok (.bipush 99, 2) := by decide +kernel
theorem dX9_payDebt_23 : decode cX9_payDebt 23 = .ok (.invokestatic 68, 3) := by decide +kernel
theorem dX9_payDebt_26 : decode cX9_payDebt 26 = .ok (.ifCond .ne 9, 3) := by decide +kernel
theorem dX9_payDebt_29 : decode cX9_payDebt 29 = .ok (.aload_n 0, 1) := by decide +kernel
theorem dX9_payDebt_30 : decode cX9_payDebt 30 = .ok (.iconst 2, 1) := by decide +kernel
theorem dX9_payDebt_31 : decode cX9_payDebt 31 = .ok (.invokevirtual 141, 3) := by decide +kernel
theorem dX9_payDebt_34 : decode cX9_payDebt 34 = .ok (.ireturn, 1) := by decide +kernel
theorem dX9_payDebt_35 : decode cX9_payDebt 35 = .ok (.aload_n 0, 1) := by decide +kernel
theorem dX9_payDebt_36 : decode cX9_payDebt 36 = .ok (.iload_n 1, 1) := by decide +kernel
theorem dX9_payDebt_37 : decode cX9_payDebt 37 = .ok (.iconst 2, 1) := by decide +kernel
theorem dX9_payDebt_38 : decode cX9_payDebt 38 = .ok (.invokevirtual 64, 3) := by decide +kernel
theorem dX9_payDebt_41 : decode cX9_payDebt 41 = .ok (.iload_n 2, 1) := by decide +kernel
theorem dX9_payDebt_42 : decode cX9_payDebt 42 = .ok (.if_icmp .lt 13, 3) := by decide +kernel
theorem dX9_payDebt_45 : decode cX9_payDebt 45 = .ok (.aload_n 0, 1) := by decide +kernel
theorem dX9_payDebt_46 : decode cX9_payDebt 46 = .ok (.iload_n 1, 1) := by decide +kernel
theorem dX9_payDebt_47 : decode cX9_payDebt 47 = .ok (.iconst 3, 1) := by decide +kernel
theorem dX9_payDebt_48 : decode cX9_payDebt 48 = .ok (.invokevirtual 64, 3) := by decide +kernel
theorem dX9_payDebt_51 : decode cX9_payDebt 51 = .ok (.iload_n 2, 1) := by decide +kernel
theorem dX9_payDebt_52 : decode cX9_payDebt 52 = .ok (.if_icmp .ge 9, 3) := by decide +kernel
theorem dX9_payDebt_55 : decode cX9_payDebt 55 = .ok (.aload_n 0, 1) := by decide +kernel
theorem dX9_payDebt_56 : decode cX9_payDebt 56 = .ok (.iconst 3, 1) := by decide +kernel
theorem dX9_payDebt_57 : decode cX9_payDebt 57 = .ok (.invokevirtual 141, 3) := by decide +kernel
theorem dX9_payDebt_60 : decode cX9_payDebt 60 = .ok (.ireturn, 1) := by decide +kernel
theorem dX9_payDebt_61 : decode cX9_payDebt 61 = .ok (.aload_n 0, 1) := by decide +kernel
theorem dX9_payDebt_62 : decode cX9_payDebt 62 = .ok (.invokevirtual 413, 3) := by decide +kernel
theorem dX9_payDebt_65 : decode cX9_payDebt 65 = .ok (.aload_n 0, 1) := by decide +kernel
theorem dX9_payDebt_66 : decode cX9_payDebt 66 = .ok (.iload_n 1, 1) := by decide +kernel
theorem dX9_payDebt_67 : decode cX9_payDebt 67 = .ok (.iconst 2, 1) := by decide +kernel
theorem dX9_payDebt_68 : decode cX9_payDebt 68 = .ok (.iload_n 2, 1) := by decide +kernel
theorem dX9_payDebt_69 : decode cX9_payDebt 69 = .ok (.ineg, 1) := by decide +kernel
theorem dX9_payDebt_70 : decode cX9_payDebt 70 = .ok (.invokevirtual 113, 3) := by decide +kernel
theorem dX9_payDebt_73 : decode cX9_payDebt 73 = .ok (.aload_n 0, 1) := by decide +kernel
theorem dX9_payDebt_74 : decode cX9_payDebt 74 = .ok (.iload_n 1, 1) := by decide +kernel
theorem dX9_payDebt_75 : decode cX9_payDebt 75 = .ok (.iconst 3, 1) := by decide +kernel
theorem dX9_payDebt_76 : decode cX9_payDebt 76 = .ok (.iload_n 2, 1) := by decide +kernel
theorem dX9_payDebt_77 : decode cX9_payDebt 77 = .ok (.ineg, 1) := by decide +kernel
theorem dX9_payDebt_78 : decode cX9_payDebt 78 = .ok (.invokevirtual 113, 3) := by decide +kernel
theorem dX9_payDebt_81 : decode cX9_payDebt 81 = .ok (.aload_n 0, 1) := by decide +kernel
theorem dX9_payDebt_82 : decode cX9_payDebt 82 = .ok (.getfield 7, 3) := by decide +kernel
theorem dX9_payDebt_85 : decode cX9_payDebt 85 = .ok (.bipush 6, 2) := by decide +kernel
theorem dX9_payDebt_87 : decode cX9_payDebt 87 = .ok (.dup2, 1) := by decide +kernel
theorem dX9_payDebt_88 : decode cX9_payDebt 88 = .ok (.iaload, 1) := by decide +kernel
theorem dX9_payDebt_89 : decode cX9_payDebt 89 = .ok (.iload_n 2, 1) := by decide +kernel
theorem dX9_payDebt_90 : decode cX9_payDebt 90 = .ok (.iadd, 1) := by decide +kernel
theorem dX9_payDebt_91 : decode cX9_payDebt 91 = .ok (.iastore, 1) := by decide +kernel
theorem dX9_payDebt_92 : decode cX9_payDebt 92 = .ok (.aload_n 0, 1) := by decide +kernel
theorem dX9_payDebt_93 : decode cX9_payDebt 93 = .ok (.iload_n 1, 1) := by decide +kernel
theorem dX9_payDebt_94 : decode cX9_payDebt 94 = .ok (.iconst 3, 1) := by decide +kernel
theorem dX9_payDebt_95 : decode cX9_payDebt 95 = .ok (.invokevirtual 64, 3) := by decide +kernel
theorem dX9_payDebt_98 : decode cX9_payDebt 98 = .ok (.ireturn, 1) := by decide +kernel
theorem dX9_passHours_0 : decode cX9_passHours 0 = .ok (.aload_n 0, 1) := by decide +kernel
theorem dX9_passHours_1 : decode cX9_passHours 1 = .ok (.iload_n 1, 1) := by decide +kernel
theorem dX9_passHours_2 : decode cX9_passHours 2 = .ok (.iconst 1, 1) := by decide +kernel
theorem dX9_passHours_3 : decode cX9_passHours 3 = .ok (.bipush 48, 2) := by decide +kernel
theorem dX9_passHours_5 : decode cX9_passHours 5 = .ok (.invokestatic 68, 3) := by decide +kernel
theorem dX9_passHours_8 : decode cX9_passHours 8 = .ok (.ifCond .ne 7, 3) := by decide +kernel
theorem dX9_passHours_11 : decode cX9_passHours 11 = .ok (.iconst 1, 1) := by decide +kernel
theorem dX9_passHours_12 : decode cX9_passHours 12 = .ok (.goto 22, 3) := by decide +kernel
theorem dX9_passHours_15 : decode cX9_passHours 15 = .ok (.aload_n 0, 1) := by decide +kernel
theorem dX9_passHours_16 : decode cX9_passHours 16 = .ok (.getfield 7, 3) := by decide +kernel
theorem dX9_passHours_19 : decode cX9_passHours 19 = .ok (.iconst 3, 1) := by decide +kernel
theorem dX9_passHours_20 : decode cX9_passHours 20 = .ok (.iaload, 1) := by decide +kernel
theorem dX9_passHours_21 : decode cX9_passHours 21 = .ok (.iload_n 1, 1) := by decide +kernel
theorem dX9_passHours_22 : decode cX9_passHours 22 = .ok (.iadd, 1) := by decide +kernel
theorem dX9_passHours_23 : decode cX9_passHours 23 = .ok (.sipush 9999, 3) := by decide +kernel
theorem dX9_passHours_26 : decode cX9_passHours 26 = .ok (.if_icmp .le 7, 3) := by decide +kernel
theorem dX9_passHours_29 : decode cX9_passHours 29 = .ok (.iconst 2, 1) := by decide +kernel
theorem dX9_passHours_30 : decode cX9_passHours 30 = .ok (.goto 4, 3) := by decide +kernel
theorem dX9_passHours_33 : decode cX9_passHours 33 = .ok (.iconst 0, 1) := by decide +kernel
theorem dX9_passHours_34 : decode cX9_passHours 34 = .ok (.putfield 57, 3) := by decide +kernel
theorem dX9_passHours_37 : decode cX9_passHours 37 = .ok (.aload_n 0, 1) := by decide +kernel
theorem dX9_passHours_38 : decode cX9_passHours 38 = .ok (.getfield 57, 3) := by decide +kernel
theorem dX9_passHours_41 : decode cX9_passHours 41 = .ok (.ifCond .le 5, 3) := by decide +kernel
theorem dX9_passHours_44 : decode cX9_passHours 44 = .ok (.iconst 0, 1) := by decide +kernel
theorem dX9_passHours_45 : decode cX9_passHours 45 = .ok (.ireturn, 1) := by decide +kernel
theorem dX9_passHours_46 : decode cX9_passHours 46 = .ok (.aload_n 0, 1) := by decide +kernel
theorem dX9_passHours_47 : decode cX9_passHours 47 = .ok (.invokevirtual 413, 3) := by decide +kernel
theorem dX9_passHours_50 : decode cX9_passHours 50 = .ok (.aload_n 0, 1) := by decide +kernel
theorem dX9_passHours_51 : decode cX9_passHours 51 = .ok (.getfield 7, 3) := by decide +kernel
theorem dX9_passHours_54 : decode cX9_passHours 54 = .ok (.bipush 6, 2) := by decide +kernel
theorem dX9_passHours_56 : decode cX9_passHours 56 = .ok (.iaload, 1) := by decide +kernel
theorem dX9_passHours_57 : decode cX9_passHours 57 = .ok (.istore_n 2, 1) := by decide +kernel
theorem dX9_passHours_58 : decode cX9_passHours 58 = .ok (.aload_n 0, 1) := by decide +kernel
theorem dX9_passHours_59 : decode cX9_passHours 59 = .ok (.iload_n 1, 1) := by decide +kernel
theorem dX9_passHours_60 : decode cX9_passHours 60 = .ok (.invokevirtual 385, 3) := by decide +kernel
theorem dX9_passHours_63 : decode cX9_passHours 63 = .ok (.aload_n 0, 1) := by decide +kernel
theorem dX9_passHours_64 : decode cX9_passHours 64 = .ok (.getfield 7, 3) := by decide +kernel
theorem dX9_passHours_67 : decode cX9_passHours 67 = .ok (.bipush 6, 2) := by decide +kernel
theorem dX9_passHours_69 : decode cX9_passHours 69 = .ok (.iaload, 1) := by decide +kernel
theorem dX9_passHours_70 : decode cX9_passHours 70 = .ok (.iload_n 2, 1) := by decide +kernel
theorem dX9_passHours_71 : decode cX9_passHours 71 = .ok (.isub, 1) := by decide +kernel
theorem dX9_passHours_72 : decode cX9_passHours 72 = .ok (.ireturn, 1) := by decide +kernel
theorem dX9_writeByte_0 : decode cX9_writeByte 0 = .ok (.aload_n 0, 1) := by decide +kernel
theorem dX9_writeByte_1 : decode cX9_writeByte 1 = .ok (.getfield 43, 3) := by decide +kernel
theorem dX9_writeByte_4 : decode cX9_writeByte 4 = .ok (.aload_n 0, 1) := by decide +kernel
theorem dX9_writeByte_5 : decode cX9_writeByte 5 = .ok (.getfield 419, 3) := by decide +kernel
theorem dX9_writeByte_8 : decode cX9_writeByte 8 = .ok (.iload_n 1, 1) := by decide +kernel
theorem dX9_writeByte_9 : decode cX9_writeByte 9 = .ok (.i2b, 1) := by decide +kernel
theorem dX9_writeByte_10 : decode cX9_writeByte 10 = .ok (.bastore, 1) := by decide +kernel
theorem dX9_writeByte_11 : decode cX9_writeByte 11 = .ok (.aload_n 0, 1) := by decide +kernel
theorem dX9_writeByte_12 : decode cX9_writeByte 12 = .ok (.dup, 1) := by decide +kernel
theorem dX9_writeByte_13 : decode cX9_writeByte 13 = .ok (.getfield 419, 3) := by decide +kernel
theorem dX9_writeByte_16 : decode cX9_writeByte 16 = .ok (.iconst 1, 1) := by decide +kernel
theorem dX9_writeByte_17 : decode cX9_writeByte 17 = .ok (.iadd, 1) := by decide +kernel
theorem dX9_writeByte_18 : decode cX9_writeByte 18 = .ok (.putfield 419, 3) := by decide +kernel
theorem dX9_writeByte_21 : decode cX9_writeByte 21 = .ok (.return_, 1) := by decide +kernel
theorem dX9_writeNumber_0 : decode cX9_writeNumber 0 = .ok (.iload_n 1, 1) := by decide +kernel
theorem dX9_writeNumber_1 : decode cX9_writeNumber 1 = .ok (.bipush 9, 2) := by decide +kernel
theorem dX9_writeNumber_3 : decode cX9_writeNumber 3 = .ok (.if_icmp .le 11, 3) := by decide +kernel
theorem dX9_writeNumber_6 : decode cX9_writeNumber 6 = .ok (.aload_n 0, 1) := by decide +kernel
theorem dX9_writeNumber_7 : decode cX9_writeNumber 7 = .ok (.iload_n 1, 1) := by decide +kernel
theorem dX9_writeNumber_8 : decode cX9_writeNumber 8 = .ok (.bipush 10, 2) := by decide +kernel
theorem dX9_writeNumber_10 : decode cX9_writeNumber 10 = .ok (.idiv, 1) := by decide +kernel
theorem dX9_writeNumber_11 : decode cX9_writeNumber 11 = .ok (.invokevirtual 422, 3) := by decide +kernel
theorem dX9_writeNumber_14 : decode cX9_writeNumber 14 = .ok (.aload_n 0, 1) := by decide +kernel
theorem dX9_writeNumber_15 : decode cX9_writeNumber 15 = .ok (.bipush 48, 2) := by decide +kernel
theorem dX9_writeNumber_17 : decode cX9_writeNumber 17 = .ok (.iload_n 1, 1) := by decide +kernel
theorem dX9_writeNumber_18 : decode cX9_writeNumber 18 = .ok (.bipush 10, 2) := by decide +kernel
theorem dX9_writeNumber_20 : decode cX9_writeNumber 20 = .ok (.irem, 1) := by decide +kernel
theorem dX9_writeNumber_21 : decode cX9_writeNumber 21 = .ok (.iadd, 1) := by decide +kernel
theorem dX9_writeNumber_22 : decode cX9_writeNumber 22 = .ok (.invokevirtual 425, 3) := by decide +kernel
theorem dX9_writeNumber_25 : decode cX9_writeNumber 25 = .ok (.return_, 1) := by decide +kernel
theorem dX9_writeHiker_0 : decode cX9_writeHiker 0 = .ok (.aload_n 0, 1) := by decide +kernel
theorem dX9_writeHiker_1 : decode cX9_writeHiker 1 = .ok (.bipush 97, 2) := by decide +kernel
theorem dX9_writeHiker_3 : decode cX9_writeHiker 3 = .ok (.iload_n 1, 1) := by decide +kernel
theorem dX9_writeHiker_4 : decode cX9_writeHiker 4 = .ok (.iadd, 1) := by decide +kernel
theorem dX9_writeHiker_5 : decode cX9_writeHiker 5 = .ok (.invokevirtual 425, 3) := by decide +kernel
theorem dX9_writeHiker_8 : decode cX9_writeHiker 8 = .ok (.aload_n 0, 1) := by decide +kernel
theorem dX9_writeHiker_9 : decode cX9_writeHiker 9 = .ok (.iload_n 1, 1) := by decide +kernel
theorem dX9_writeHiker_10 : decode cX9_writeHiker 10 = .ok (.iconst 5, 1) := by decide +kernel
theorem dX9_writeHiker_11 : decode cX9_writeHiker 11 = .ok (.invokevirtual 64, 3) := by decide +kernel
theorem dX9_writeHiker_14 : decode cX9_writeHiker 14 = .ok (.iconst (-1), 1) := by decide +kernel
theorem dX9_writeHiker_15 : decode cX9_writeHiker 15 = .ok (.if_icmp .eq 15, 3) := by decide +kernel
theorem dX9_writeHiker_18 : decode cX9_writeHiker 18 = .ok (.aload_n 0, 1) := by decide +kernel
theorem dX9_writeHiker_19 : decode cX9_writeHiker 19 = .ok (.bipush 48, 2) := by decide +kernel
theorem dX9_writeHiker_21 : decode cX9_writeHiker 21 = .ok (.aload_n 0, 1) := by decide +kernel
theorem dX9_writeHiker_22 : decode cX9_writeHiker 22 = .ok (.iload_n 1, 1) := by decide +kernel
theorem dX9_writeHiker_23 : decode cX9_writeHiker 23 = .ok (.invokevirtual 90, 3) := by decide +kernel
theorem dX9_writeHiker_26 : decode cX9_writeHiker 26 = .ok (.iadd, 1) := by decide +kernel
theorem dX9_writeHiker_27 : decode cX9_writeHiker 27 = .ok (.invokevirtual 425, 3) := by decide +kernel
theorem dX9_writeHiker_30 : decode cX9_writeHiker 30 = .ok (.aload_n 0, 1) := by decide +kernel
theorem dX9_writeHiker_31 : decode cX9_writeHiker 31 = .ok (.iload_n 1, 1) := by decide +kernel
theorem dX9_writeHiker_32 : decode cX9_writeHiker 32 = .ok (.invokevirtual 105, 3) := by decide +kernel
theorem dX9_writeHiker_35 : decode cX9_writeHiker 35 = .ok (.istore_n 2, 1) := by decide +kernel
theorem dX9_writeHiker_36 : decode cX9_writeHiker 36 = .ok (.iload_n 2, 1) := by decide +kernel
theorem dX9_writeHiker_37 : decode cX9_writeHiker 37 = .ok (.ifCond .eq 8, 3) := by decide +kernel
theorem dX9_writeHiker_40 : decode cX9_writeHiker 40 = .ok (.iload_n 2, 1) := by decide +kernel
theorem dX9_writeHiker_41 : decode cX9_writeHiker 41 = .ok (.iconst 1, 1) := by decide +kernel
theorem dX9_writeHiker_42 : decode cX9_writeHiker 42 = .ok (.if_icmp .ne 18, 3) := by decide +kernel
theorem dX9_writeHiker_45 : decode cX9_writeHiker 45 = .ok (.aload_n 0, 1) := by decide +kernel
theorem dX9_writeHiker_46 : decode cX9_writeHiker 46 = .ok (.iload_n 2, 1) := by decide +kernel
theorem dX9_writeHiker_47 : decode cX9_writeHiker 47 = .ok (.ifCond .ne 8, 3) := by decide +kernel
theorem dX9_writeHiker_50 : decode cX9_writeHiker 50 = .ok (.bipush 33, 2) := by decide +kernel
theorem dX9_writeHiker_52 : decode cX9_writeHiker 52 = .ok (.goto 5, 3) := by decide +kernel
theorem dX9_writeHiker_55 : decode cX9_writeHiker 55 = .ok (.bipush 63, 2) := by decide +kernel
theorem dX9_writeHiker_57 : decode cX9_writeHiker 57 = .ok (.invokevirtual 425, 3) := by decide +kernel
theorem dX9_writeHiker_60 : decode cX9_writeHiker 60 = .ok (.return_, 1) := by decide +kernel
theorem dX9_writeBunks_0 : decode cX9_writeBunks 0 = .ok (.aload_n 0, 1) := by decide +kernel
theorem dX9_writeBunks_1 : decode cX9_writeBunks 1 = .ok (.iconst 0, 1) := by decide +kernel
theorem dX9_writeBunks_2 : decode cX9_writeBunks 2 = .ok (.putfield 57, 3) := by decide +kernel
theorem dX9_writeBunks_5 : decode cX9_writeBunks 5 = .ok (.aload_n 0, 1) := by decide +kernel
theorem dX9_writeBunks_6 : decode cX9_writeBunks 6 = .ok (.iconst 0, 1) := by decide +kernel
theorem dX9_writeBunks_7 : decode cX9_writeBunks 7 = .ok (.putfield 419, 3) := by decide +kernel
theorem dX9_writeBunks_10 : decode cX9_writeBunks 10 = .ok (.iconst 0, 1) := by decide +kernel
theorem dX9_writeBunks_11 : decode cX9_writeBunks 11 = .ok (.istore_n 1, 1) := by decide +kernel
theorem dX9_writeBunks_12 : decode cX9_writeBunks 12 = .ok (.iload_n 1, 1) := by decide +kernel
theorem dX9_writeBunks_13 : decode cX9_writeBunks 13 = .ok (.aload_n 0, 1) := by decide +kernel
theorem dX9_writeBunks_14 : decode cX9_writeBunks 14 = .ok (.getfield 7, 3) := by decide +kernel
theorem dX9_writeBunks_17 : decode cX9_writeBunks 17 = .ok (.bipush 9, 2) := by decide +kernel
theorem dX9_writeBunks_19 : decode cX9_writeBunks 19 = .ok (.iaload, 1) := by decide +kernel
theorem dX9_writeBunks_20 : decode cX9_writeBunks 20 = .ok (.if_icmp .ge 46, 3) := by decide +kernel
theorem dX9_writeBunks_23 : decode cX9_writeBunks 23 = .ok (.iload_n 1, 1) := by decide +kernel
theorem dX9_writeBunks_24 : decode cX9_writeBunks 24 = .ok (.ifCond .le 9, 3) := by decide +kernel
theorem dX9_writeBunks_27 : decode cX9_writeBunks 27 = .ok (.aload_n 0, 1) := by decide +kernel
theorem dX9_writeBunks_28 : decode cX9_writeBunks 28 = .ok (.bipush 32, 2) := by decide +kernel
theorem dX9_writeBunks_30 : decode cX9_writeBunks 30 = .ok (.invokevirtual 425, 3) := by decide +kernel
theorem dX9_writeBunks_33 : decode cX9_writeBunks 33 = .ok (.aload_n 0, 1) := by decide +kernel
theorem dX9_writeBunks_34 : decode cX9_writeBunks 34 = .ok (.iload_n 1, 1) := by decide +kernel
theorem dX9_writeBunks_35 : decode cX9_writeBunks 35 = .ok (.invokevirtual 83, 3) := by decide +kernel
theorem dX9_writeBunks_38 : decode cX9_writeBunks 38 = .ok (.iconst (-1), 1) := by decide +kernel
theorem dX9_writeBunks_39 : decode cX9_writeBunks 39 = .ok (.if_icmp .ne 12, 3) := by decide +kernel
theorem dX9_writeBunks_42 : decode cX9_writeBunks 42 = .ok (.aload_n 0, 1) := by decide +kernel
theorem dX9_writeBunks_43 : decode cX9_writeBunks 43 = .ok (.bipush 45, 2) := by decide +kernel
theorem dX9_writeBunks_45 : decode cX9_writeBunks 45 = .ok (.invokevirtual 425, 3) := by decide +kernel
theorem dX9_writeBunks_48 : decode cX9_writeBunks 48 = .ok (.goto 12, 3) := by decide +kernel
theorem dX9_writeBunks_51 : decode cX9_writeBunks 51 = .ok (.aload_n 0, 1) := by decide +kernel
theorem dX9_writeBunks_52 : decode cX9_writeBunks 52 = .ok (.aload_n 0, 1) := by decide +kernel
theorem dX9_writeBunks_53 : decode cX9_writeBunks 53 = .ok (.iload_n 1, 1) := by decide +kernel
theorem dX9_writeBunks_54 : decode cX9_writeBunks 54 = .ok (.invokevirtual 83, 3) := by decide +kernel
theorem dX9_writeBunks_57 : decode cX9_writeBunks 57 = .ok (.invokevirtual 428, 3) := by decide +kernel
theorem dX9_writeBunks_60 : decode cX9_writeBunks 60 = .ok (.iinc 1 1, 3) := by decide +kernel
theorem dX9_writeBunks_63 : decode cX9_writeBunks 63 = .ok (.goto (-51), 3) := by decide +kernel
theorem dX9_writeBunks_66 : decode cX9_writeBunks 66 = .ok (.aload_n 0, 1) := by decide +kernel
theorem dX9_writeBunks_67 : decode cX9_writeBunks 67 = .ok (.getfield 419, 3) := by decide +kernel
theorem dX9_writeBunks_70 : decode cX9_writeBunks 70 = .ok (.ireturn, 1) := by decide +kernel
theorem dX9_writeAccount_0 : decode cX9_writeAccount 0 = .ok (.aload_n 0, 1) := by decide +kernel
theorem dX9_writeAccount_1 : decode cX9_writeAccount 1 = .ok (.bipush 97, 2) := by decide +kernel
theorem dX9_writeAccount_3 : decode cX9_writeAccount 3 = .ok (.iload_n 1, 1) := by decide +kernel
theorem dX9_writeAccount_4 : decode cX9_writeAccount 4 = .ok (.iadd, 1) := by decide +kernel
theorem dX9_writeAccount_5 : decode cX9_writeAccount 5 = .ok (.invokevirtual 425, 3) := by decide +kernel
theorem dX9_writeAccount_8 : decode cX9_writeAccount 8 = .ok (.aload_n 0, 1) := by decide +kernel
theorem dX9_writeAccount_9 : decode cX9_writeAccount 9 = .ok (.bipush 61, 2) := by decide +kernel
theorem dX9_writeAccount_11 : decode cX9_writeAccount 11 = .ok (.invokevirtual 425, 3) := by decide +kernel
theorem dX9_writeAccount_14 : decode cX9_writeAccount 14 = .ok (.aload_n 0, 1) := by decide +kernel
theorem dX9_writeAccount_15 : decode cX9_writeAccount 15 = .ok (.aload_n 0, 1) := by decide +kernel
theorem dX9_writeAccount_16 : decode cX9_writeAccount 16 = .ok (.iload_n 1, 1) := by decide +kernel
theorem dX9_writeAccount_17 : decode cX9_writeAccount 17 = .ok (.iconst 2, 1) := by decide +kernel
theorem dX9_writeAccount_18 : decode cX9_writeAccount 18 = .ok (.invokevirtual 64, 3) := by decide +kernel
theorem dX9_writeAccount_21 : decode cX9_writeAccount 21 = .ok (.invokevirtual 422, 3) := by decide +kernel
theorem dX9_writeAccount_24 : decode cX9_writeAccount 24 = .ok (.aload_n 0, 1) := by decide +kernel
theorem dX9_writeAccount_25 : decode cX9_writeAccount 25 = .ok (.iload_n 1, 1) := by decide +kernel
theorem dX9_writeAccount_26 : decode cX9_writeAccount 26 = .ok (.iconst 3, 1) := by decide +kernel
theorem dX9_writeAccount_27 : decode cX9_writeAccount 27 = .ok (.invokevirtual 64, 3) := by decide +kernel
theorem dX9_writeAccount_30 : decode cX9_writeAccount 30 = .ok (.ifCond .le 19, 3) := by decide +kernel
theorem dX9_writeAccount_33 : decode cX9_writeAccount 33 = .ok (.aload_n 0, 1) := by decide +kernel
theorem dX9_writeAccount_34 : decode cX9_writeAccount 34 = .ok (.bipush 45, 2) := by decide +kernel
theorem dX9_writeAccount_36 : decode cX9_writeAccount 36 = .ok (.invokevirtual 425, 3) := by decide +kernel
theorem dX9_writeAccount_39 : decode cX9_writeAccount 39 = .ok (.aload_n 0, 1) := by decide +kernel
theorem dX9_writeAccount_40 : decode cX9_writeAccount 40 = .ok (.aload_n 0, 1) := by decide +kernel
theorem dX9_writeAccount_41 : decode cX9_writeAccount 41 = .ok (.iload_n 1, 1) := by decide +kernel
theorem dX9_writeAccount_42 : decode cX9_writeAccount 42 = .ok (.iconst 3, 1) := by decide +kernel
theorem dX9_writeAccount_43 : decode cX9_writeAccount 43 = .ok (.invokevirtual 64, 3) := by decide +kernel
theorem dX9_writeAccount_46 : decode cX9_writeAccount 46 = .ok (.invokevirtual 422, 3) := by decide +kernel
theorem dX9_writeAccount_49 : decode cX9_writeAccount 49 = .ok (.aload_n 0, 1) := by decide +kernel
theorem dX9_writeAccount_50 : decode cX9_writeAccount 50 = .ok (.bipush 47, 2) := by decide +kernel
theorem dX9_writeAccount_52 : decode cX9_writeAccount 52 = .ok (.invokevirtual 425, 3) := by decide +kernel
theorem dX9_writeAccount_55 : decode cX9_writeAccount 55 = .ok (.aload_n 0, 1) := by decide +kernel
theorem dX9_writeAccount_56 : decode cX9_writeAccount 56 = .ok (.aload_n 0, 1) := by decide +kernel
theorem dX9_writeAccount_57 : decode cX9_writeAccount 57 = .ok (.iload_n 1, 1) := by decide +kernel
theorem dX9_writeAccount_58 : decode cX9_writeAccount 58 = .ok (.bipush 8, 2) := by decide +kernel
theorem dX9_writeAccount_60 : decode cX9_writeAccount 60 = .ok (.invokevirtual 64, 3) := by decide +kernel
theorem dX9_writeAccount_63 : decode cX9_writeAccount 63 = .ok (.invokevirtual 422, 3) := by decide +kernel
theorem dX9_writeAccount_66 : decode cX9_writeAccount 66 = .ok (.return_, 1) := by decide +kernel
theorem dX9_writeLedger_0 : decode cX9_writeLedger 0 = .ok (.aload_n 0, 1) := by decide +kernel
theorem dX9_writeLedger_1 : decode cX9_writeLedger 1 = .ok (.iconst 0, 1) := by decide +kernel
theorem dX9_writeLedger_2 : decode cX9_writeLedger 2 = .ok (.putfield 57, 3) := by decide +kernel
theorem dX9_writeLedger_5 : decode cX9_writeLedger 5 = .ok (.aload_n 0, 1) := by decide +kernel
theorem dX9_writeLedger_6 : decode cX9_writeLedger 6 = .ok (.iconst 0, 1) := by decide +kernel
theorem dX9_writeLedger_7 : decode cX9_writeLedger 7 = .ok (.putfield 419, 3) := by decide +kernel
theorem dX9_writeLedger_10 : decode cX9_writeLedger 10 = .ok (.iconst 0, 1) := by decide +kernel
theorem dX9_writeLedger_11 : decode cX9_writeLedger 11 = .ok (.istore_n 1, 1) := by decide +kernel
theorem dX9_writeLedger_12 : decode cX9_writeLedger 12 = .ok (.iload_n 1, 1) := by decide +kernel
theorem dX9_writeLedger_13 : decode cX9_writeLedger 13 = .ok (.aload_n 0, 1) := by decide +kernel
theorem dX9_writeLedger_14 : decode cX9_writeLedger 14 = .ok (.getfield 7, 3) := by decide +kernel
theorem dX9_writeLedger_17 : decode cX9_writeLedger 17 = .ok (.bipush 12, 2) := by decide +kernel
theorem dX9_writeLedger_19 : decode cX9_writeLedger 19 = .ok (.iaload, 1) := by decide +kernel
theorem dX9_writeLedger_20 : decode cX9_writeLedger 20 = .ok (.if_icmp .ge 24, 3) := by decide +kernel
theorem dX9_writeLedger_23 : decode cX9_writeLedger 23 = .ok (.iload_n 1, 1) := by decide +kernel
theorem dX9_writeLedger_24 : decode cX9_writeLedger 24 = .ok (.ifCond .le 9, 3) := by decide +kernel
theorem dX9_writeLedger_27 : decode cX9_writeLedger 27 = .ok (.aload_n 0, 1) := by decide +kernel
theorem dX9_writeLedger_28 : decode cX9_writeLedger 28 = .ok (.bipush 32, 2) := by decide +kernel
theorem dX9_writeLedger_30 : decode cX9_writeLedger 30 = .ok (.invokevirtual 425, 3) := by decide +kernel
theorem dX9_writeLedger_33 : decode cX9_writeLedger 33 = .ok (.aload_n 0, 1) := by decide +kernel
theorem dX9_writeLedger_34 : decode cX9_writeLedger 34 = .ok (.iload_n 1, 1) := by decide +kernel
theorem dX9_writeLedger_35 : decode cX9_writeLedger 35 = .ok (.invokevirtual 431, 3) := by decide +kernel
theorem dX9_writeLedger_38 : decode cX9_writeLedger 38 = .ok (.iinc 1 1, 3) := by decide +kernel
theorem dX9_writeLedger_41 : decode cX9_writeLedger 41 = .ok (.goto (-29), 3) := by decide +kernel
theorem dX9_writeLedger_44 : decode cX9_writeLedger 44 = .ok (.aload_n 0, 1) := by decide +kernel
theorem dX9_writeLedger_45 : decode cX9_writeLedger 45 = .ok (.getfield 419, 3) := by decide +kernel
theorem dX9_writeLedger_48 : decode cX9_writeLedger 48 = .ok (.ireturn, 1) := by decide +kernel
theorem dX9_outputByte_0 : decode cX9_outputByte 0 = .ok (.aload_n 0, 1) := by decide +kernel
theorem dX9_outputByte_1 : decode cX9_outputByte 1 = .ok (.iconst 0, 1) := by decide +kernel
theorem dX9_outputByte_2 : decode cX9_outputByte 2 = .ok (.putfield 57, 3) := by decide +kernel
theorem dX9_outputByte_5 : decode cX9_outputByte 5 = .ok (.iload_n 1, 1) := by decide +kernel
theorem dX9_outputByte_6 : decode cX9_outputByte 6 = .ok (.iconst 0, 1) := by decide +kernel
theorem dX9_outputByte_7 : decode cX9_outputByte 7 = .ok (.aload_n 0, 1) := by decide +kernel
theorem dX9_outputByte_8 : decode cX9_outputByte 8 = .ok (.getfield 419, 3) := by decide +kernel
theorem dX9_outputByte_11 : decode cX9_outputByte 11 = .ok (.iconst 1, 1) := by decide +kernel
theorem dX9_outputByte_12 : decode cX9_outputByte 12 = .ok (.isub, 1) := by decide +kernel
theorem dX9_outputByte_13 : decode cX9_outputByte 13 = .ok (.invokestatic 68, 3) := by decide +kernel
theorem dX9_outputByte_16 : decode cX9_outputByte 16 = .ok (.ifCond .eq 16, 3) := by decide +kernel
theorem dX9_outputByte_19 : decode cX9_outputByte 19 = .ok (.aload_n 0, 1) := by decide +kernel
theorem dX9_outputByte_20 : decode cX9_outputByte 20 = .ok (.getfield 43, 3) := by decide +kernel
theorem dX9_outputByte_23 : decode cX9_outputByte 23 = .ok (.iload_n 1, 1) := by decide +kernel
theorem dX9_outputByte_24 : decode cX9_outputByte 24 = .ok (.baload, 1) := by decide +kernel
theorem dX9_outputByte_25 : decode cX9_outputByte 25 = .ok (.sipush 255, 3) := by decide +kernel
theorem dX9_outputByte_28 : decode cX9_outputByte 28 = .ok (.iand, 1) := by decide +kernel
theorem dX9_outputByte_29 : decode cX9_outputByte 29 = .ok (.goto 4, 3) := by decide +kernel
theorem dX9_outputByte_32 : decode cX9_outputByte 32 = .ok (.iconst (-1), 1) := by decide +kernel
theorem dX9_outputByte_33 : decode cX9_outputByte 33 = .ok (.ireturn, 1) := by decide +kernel
theorem dX9_undo_0 : decode cX9_undo 0 = .ok (.aload_n 0, 1) := by decide +kernel
theorem dX9_undo_1 : decode cX9_undo 1 = .ok (.iconst 0, 1) := by decide +kernel
theorem dX9_undo_2 : decode cX9_undo 2 = .ok (.putfield 57, 3) := by decide +kernel
theorem dX9_undo_5 : decode cX9_undo 5 = .ok (.aload_n 0, 1) := by decide +kernel
theorem dX9_undo_6 : decode cX9_undo 6 = .ok (.getfield 241, 3) := by decide +kernel
theorem dX9_undo_9 : decode cX9_undo 9 = .ok (.ifCond .ne 9, 3) := by decide +kernel
theorem dX9_undo_12 : decode cX9_undo 12 = .ok (.aload_n 0, 1) := by decide +kernel
theorem dX9_undo_13 : decode cX9_undo 13 = .ok (.iconst 1, 1) := by decide +kernel
theorem dX9_undo_14 : decode cX9_undo 14 = .ok (.invokevirtual 141, 3) := by decide +kernel
theorem dX9_undo_17 : decode cX9_undo 17 = .ok (.ireturn, 1) := by decide +kernel
theorem dX9_undo_18 : decode cX9_undo 18 = .ok (.aload_n 0, 1) := by decide +kernel
theorem dX9_undo_19 : decode cX9_undo 19 = .ok (.dup, 1) := by decide +kernel
theorem dX9_undo_20 : decode cX9_undo 20 = .ok (.getfield 241, 3) := by decide +kernel
theorem dX9_undo_23 : decode cX9_undo 23 = .ok (.iconst 1, 1) := by decide +kernel
theorem dX9_undo_24 : decode cX9_undo 24 = .ok (.isub, 1) := by decide +kernel
theorem dX9_undo_25 : decode cX9_undo 25 = .ok (.putfield 241, 3) := by decide +kernel
theorem dX9_undo_28 : decode cX9_undo 28 = .ok (.aload_n 0, 1) := by decide +kernel
theorem dX9_undo_29 : decode cX9_undo 29 = .ok (.getfield 16, 3) := by decide +kernel
theorem dX9_undo_32 : decode cX9_undo 32 = .ok (.sipush 149, 3) := by decide +kernel
theorem dX9_undo_35 : decode cX9_undo 35 = .ok (.aload_n 0, 1) := by decide +kernel
theorem dX9_undo_36 : decode cX9_undo 36 = .ok (.getfield 241, 3) := by decide +kernel
theorem dX9_undo_39 : decode cX9_undo 39 = .ok (.imul, 1) := by decide +kernel
theorem dX9_undo_40 : decode cX9_undo 40 = .ok (.aload_n 0, 1) := by decide +kernel
theorem dX9_undo_41 : decode cX9_undo 41 = .ok (.getfield 7, 3) := by decide +kernel
theorem dX9_undo_44 : decode cX9_undo 44 = .ok (.iconst 0, 1) := by decide +kernel
theorem dX9_undo_45 : decode cX9_undo 45 = .ok (.invokestatic 60, 3) := by decide +kernel
theorem dX9_undo_48 : decode cX9_undo 48 = .ok (.aload_n 0, 1) := by decide +kernel
theorem dX9_undo_49 : decode cX9_undo 49 = .ok (.getfield 241, 3) := by decide +kernel
theorem dX9_undo_52 : decode cX9_undo 52 = .ok (.ireturn, 1) := by decide +kernel
theorem dX9_saveSnapshot_0 : decode cX9_saveSnapshot 0 = .ok (.aload_n 0, 1) := by decide +kernel
theorem dX9_saveSnapshot_1 : decode cX9_saveSnapshot 1 = .ok (.iload_n 1, 1) := by decide +kernel
theorem dX9_saveSnapshot_2 : decode cX9_saveSnapshot 2 = .ok (.iconst 0, 1) := by decide +kernel
theorem dX9_saveSnapshot_3 : decode cX9_saveSnapshot 3 = .ok (.iconst 1, 1) := by decide +kernel
theorem dX9_saveSnapshot_4 : decode cX9_saveSnapshot 4 = .ok (.invokestatic 68, 3) := by decide +kernel
theorem dX9_saveSnapshot_7 : decode cX9_saveSnapshot 7 = .ok (.ifCond .eq 7, 3) := by decide +kernel
theorem dX9_saveSnapshot_10 : decode cX9_saveSnapshot 10 = .ok (.iconst 0, 1) := by decide +kernel
theorem dX9_saveSnapshot_11 : decode cX9_saveSnapshot 11 = .ok (.goto 4, 3) := by decide +kernel
theorem dX9_saveSnapshot_14 : decode cX9_saveSnapshot 14 = .ok (.iconst 1, 1) := by decide +kernel
theorem dX9_saveSnapshot_15 : decode cX9_saveSnapshot 15 = .ok (.putfield 57, 3) := by decide +kernel
theorem dX9_saveSnapshot_18 : decode cX9_saveSnapshot 18 = .ok (.aload_n 0, 1) := by decide +kernel
theorem dX9_saveSnapshot_19 : decode cX9_saveSnapshot 19 = .ok (.getfield 57, 3) := by decide +kernel
theorem dX9_saveSnapshot_22 : decode cX9_saveSnapshot 22 = .ok (.ifCond .ne 27, 3) := by decide +kernel
theorem dX9_saveSnapshot_25 : decode cX9_saveSnapshot 25 = .ok (.aload_n 0, 1) := by decide +kernel
theorem dX9_saveSnapshot_26 : decode cX9_saveSnapshot 26 = .ok (.getfield 7, 3) := by decide +kernel
theorem dX9_saveSnapshot_29 : decode cX9_saveSnapshot 29 = .ok (.iconst 0, 1) := by decide +kernel
theorem dX9_saveSnapshot_30 : decode cX9_saveSnapshot 30 = .ok (.aload_n 0, 1) := by decide +kernel
theorem dX9_saveSnapshot_31 : decode cX9_saveSnapshot 31 = .ok (.getfield 19, 3) := by decide +kernel
theorem dX9_saveSnapshot_34 : decode cX9_saveSnapshot 34 = .ok (.sipush 149, 3) := by decide +kernel
theorem dX9_saveSnapshot_37 : decode cX9_saveSnapshot 37 = .ok (.iload_n 1, 1) := by decide +kernel
theorem dX9_saveSnapshot_38 : decode cX9_saveSnapshot 38 = .ok (.imul, 1) := by decide +kernel
theorem dX9_saveSnapshot_39 : decode cX9_saveSnapshot 39 = .ok (.invokestatic 60, 3) := by decide +kernel
theorem dX9_saveSnapshot_42 : decode cX9_saveSnapshot 42 = .ok (.aload_n 0, 1) := by decide +kernel
theorem dX9_saveSnapshot_43 : decode cX9_saveSnapshot 43 = .ok (.getfield 22, 3) := by decide +kernel
theorem dX9_saveSnapshot_46 : decode cX9_saveSnapshot 46 = .ok (.iload_n 1, 1) := by decide +kernel
theorem dX9_saveSnapshot_47 : decode cX9_saveSnapshot 47 = .ok (.iconst 1, 1) := by decide +kernel
theorem dX9_saveSnapshot_48 : decode cX9_saveSnapshot 48 = .ok (.bastore, 1) := by decide +kernel
theorem dX9_saveSnapshot_49 : decode cX9_saveSnapshot 49 = .ok (.return_, 1) := by decide +kernel
theorem dX9_restoreSnapshot_0 : decode cX9_restoreSnapshot 0 = .ok (.aload_n 0, 1) := by decide +kernel
theorem dX9_restoreSnapshot_1 : decode cX9_restoreSnapshot 1 = .ok (.iload_n 1, 1) := by decide +kernel
theorem dX9_restoreSnapshot_2 : decode cX9_restoreSnapshot 2 = .ok (.iconst 0, 1) := by decide +kernel
theorem dX9_restoreSnapshot_3 : decode cX9_restoreSnapshot 3 = .ok (.iconst 1, 1) := by decide +kernel
theorem dX9_restoreSnapshot_4 : decode cX9_restoreSnapshot 4 = .ok (.invokestatic 68, 3) := by decide +kernel
theorem dX9_restoreSnapshot_7 : decode cX9_restoreSnapshot 7 = .ok (.ifCond .ne 7, 3) := by decide +kernel
theorem dX9_restoreSnapshot_10 : decode cX9_restoreSnapshot 10 = .ok (.iconst 1, 1) := by decide +kernel
theorem dX9_restoreSnapshot_11 : decode cX9_restoreSnapshot 11 = .ok (.goto 17, 3) := by decide +kernel
theorem dX9_restoreSnapshot_14 : decode cX9_restoreSnapshot 14 = .ok (.aload_n 0, 1) := by decide +kernel
theorem dX9_restoreSnapshot_15 : decode cX9_restoreSnapshot 15 = .ok (.getfield 22, 3) := by decide +kernel
theorem dX9_restoreSnapshot_18 : decode cX9_restoreSnapshot 18 = .ok (.iload_n 1, 1) := by decide +kernel
theorem dX9_restoreSnapshot_19 : decode cX9_restoreSnapshot 19 = .ok (.baload, 1) := by decide +kernel
theorem dX9_restoreSnapshot_20 : decode cX9_restoreSnapshot 20 = .ok (.ifCond .eq 7, 3) := by decide +kernel
theorem dX9_restoreSnapshot_23 : decode cX9_restoreSnapshot 23 = .ok (.iconst 0, 1) := by decide +kernel
theorem dX9_restoreSnapshot_24 : decode cX9_restoreSnapshot 24 = .ok (.goto 4, 3) := by decide +kernel
theorem dX9_restoreSnapshot_27 : decode cX9_restoreSnapshot 27 = .ok (.iconst 2, 1) := by decide +kernel
theorem dX9_restoreSnapshot_28 : decode cX9_restoreSnapshot 28 = .ok (.putfield 57, 3) := by decide +kernel
theorem dX9_restoreSnapshot_31 : decode cX9_restoreSnapshot 31 = .ok (.aload_n 0, 1) := by decide +kernel
theorem dX9_restoreSnapshot_32 : decode cX9_restoreSnapshot 32 = .ok (.getfield 57, 3) := by decide +kernel
theorem dX9_restoreSnapshot_35 : decode cX9_restoreSnapshot 35 = .ok (.ifCond .ne 25, 3) := by decide +kernel
theorem dX9_restoreSnapshot_38 : decode cX9_restoreSnapshot 38 = .ok (.aload_n 0, 1) := by decide +kernel
theorem dX9_restoreSnapshot_39 : decode cX9_restoreSnapshot 39 = .ok (.getfield 19, 3) := by decide +kernel
theorem dX9_restoreSnapshot_42 : decode cX9_restoreSnapshot 42 = .ok (.sipush 149, 3) := by decide +kernel
theorem dX9_restoreSnapshot_45 : decode cX9_restoreSnapshot 45 = .ok (.iload_n 1, 1) := by decide +kernel
theorem dX9_restoreSnapshot_46 : decode cX9_restoreSnapshot 46 = .ok (.imul, 1) := by decide +kernel
theorem dX9_restoreSnapshot_47 : decode cX9_restoreSnapshot 47 = .ok (.aload_n 0, 1) := by decide +kernel
theorem dX9_restoreSnapshot_48 : decode cX9_restoreSnapshot 48 = .ok (.getfield 7, 3) := by decide +kernel
theorem dX9_restoreSnapshot_51 : decode cX9_restoreSnapshot 51 = .ok (.iconst 0, 1) := by decide +kernel
theorem dX9_restoreSnapshot_52 : decode cX9_restoreSnapshot 52 = .ok (.invokestatic 60, 3) := by decide +kernel
theorem dX9_restoreSnapshot_55 : decode cX9_restoreSnapshot 55 = .ok (.aload_n 0, 1) := by decide +kernel
theorem dX9_restoreSnapshot_56 : decode cX9_restoreSnapshot 56 = .ok (.iconst 0, 1) := by decide +kernel
theorem dX9_restoreSnapshot_57 : decode cX9_restoreSnapshot 57 = .ok (.putfield 241, 3) := by decide +kernel
theorem dX9_restoreSnapshot_60 : decode cX9_restoreSnapshot 60 = .ok (.return_, 1) := by decide +kernel
