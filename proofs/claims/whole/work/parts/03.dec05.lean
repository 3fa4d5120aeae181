theorem dX4_swapped_0 : decode cX4_swapped 0 = .ok (.aload_n 0, 1) := by decide +kernel
theorem dX4_swapped_1 : decode cX4_swapped 1 = .ok (.getfield 28, 3) := by decide +kernel
theorem dX4_swapped_4 : decode cX4_swapped 4 = .ok (.iload_n 3, 1) := by decide +kernel
theorem dX4_swapped_5 : decode cX4_swapped 5 = .ok (.dup2, 1) := by decide +kernel
theorem dX4_swapped_6 : decode cX4_swapped 6 = .ok (.iaload, 1) := by decide +kernel
theorem dX4_swapped_7 : decode cX4_swapped 7 = .ok (.iconst 1, 1) := by decide +kernel
theorem dX4_swapped_8 : decode cX4_swapped 8 = .ok (.iadd, 1) := by decide +kernel
theorem dX4_swapped_9 : decode cX4_swapped 9 = .ok (.iastore, 1) := by decide +kernel
theorem dX4_swapped_10 : decode cX4_swapped 10 = .ok (.iload_n 1, 1) := by decide +kernel
theorem dX4_swapped_11 : decode cX4_swapped 11 = .ok (.iconst 2, 1) := by decide +kernel
theorem dX4_swapped_12 : decode cX4_swapped 12 = .ok (.idiv, 1) := by decide +kernel
theorem dX4_swapped_13 : decode cX4_swapped 13 = .ok (.istore 4, 2) := by decide +kernel
theorem dX4_swapped_15 : decode cX4_swapped 15 = .ok (.iload_n 2, 1) := by decide +kernel
theorem dX4_swapped_16 : decode cX4_swapped 16 = .ok (.iconst 2, 1) := by decide +kernel
theorem dX4_swapped_17 : decode cX4_swapped 17 = .ok (.idiv, 1) := by decide +kernel
theorem dX4_swapped_18 : decode cX4_swapped 18 = .ok (.istore 5, 2) := by decide +kernel
theorem dX4_swapped_20 : decode cX4_swapped 20 = .ok (.iload_n 1, 1) := by decide +kernel
theorem dX4_swapped_21 : decode cX4_swapped 21 = .ok (.iconst 2, 1) := by decide +kernel
theorem dX4_swapped_22 : decode cX4_swapped 22 = .ok (.irem, 1) := by decide +kernel
theorem dX4_swapped_23 : decode cX4_swapped 23 = .ok (.iload_n 2, 1) := by decide +kernel
theorem dX4_swapped_24 : decode cX4_swapped 24 = .ok (.iconst 2, 1) := by decide +kernel
theorem dX4_swapped_25 : decode cX4_swapped 25 = .ok (.irem, 1) := by decide +kernel
theorem dX4_swapped_26 : decode cX4_swapped 26 = .ok (.if_icmp .eq 10, 3) := by decide +kernel
theorem dX4_swapped_29 : decode cX4_swapped 29 = .ok (.iload 4, 2) := by decide +kernel
theorem dX4_swapped_31 : decode cX4_swapped 31 = .ok (.iload 5, 2) := by decide +kernel
theorem dX4_swapped_33 : decode cX4_swapped 33 = .ok (.if_icmp .ne 4, 3) := by decide +kernel
theorem dX4_swapped_36 : decode cX4_swapped 36 = .ok (.return_, 1) := by decide +kernel
theorem dX4_swapped_37 : decode cX4_swapped 37 = .ok (.aload_n 0, 1) := by decide +kernel
theorem dX4_swapped_38 : decode cX4_swapped 38 = .ok (.iload 4, 2) := by decide +kernel
theorem dX4_swapped_40 : decode cX4_swapped 40 = .ok (.iload 5, 2) := by decide +kernel
theorem dX4_swapped_42 : decode cX4_swapped 42 = .ok (.invokevirtual 132, 3) := by decide +kernel
theorem dX4_swapped_45 : decode cX4_swapped 45 = .ok (.istore 6, 2) := by decide +kernel
theorem dX4_swapped_47 : decode cX4_swapped 47 = .ok (.iload_n 1, 1) := by decide +kernel
theorem dX4_swapped_48 : decode cX4_swapped 48 = .ok (.iconst 2, 1) := by decide +kernel
theorem dX4_swapped_49 : decode cX4_swapped 49 = .ok (.irem, 1) := by decide +kernel
theorem dX4_swapped_50 : decode cX4_swapped 50 = .ok (.ifCond .ne 23, 3) := by decide +kernel
theorem dX4_swapped_53 : decode cX4_swapped 53 = .ok (.aload_n 0, 1) := by decide +kernel
theorem dX4_swapped_54 : decode cX4_swapped 54 = .ok (.getfield 19, 3) := by decide +kernel
theorem dX4_swapped_57 : decode cX4_swapped 57 = .ok (.bipush 12, 2) := by decide +kernel
theorem dX4_swapped_59 : decode cX4_swapped 59 = .ok (.iload 4, 2) := by decide +kernel
theorem dX4_swapped_61 : decode cX4_swapped 61 = .ok (.imul, 1) := by decide +kernel
theorem dX4_swapped_62 : decode cX4_swapped 62 = .ok (.iload 5, 2) := by decide +kernel
theorem dX4_swapped_64 : decode cX4_swapped 64 = .ok (.iadd, 1) := by decide +kernel
theorem dX4_swapped_65 : decode cX4_swapped 65 = .ok (.iaload, 1) := by decide +kernel
theorem dX4_swapped_66 : decode cX4_swapped 66 = .ok (.iconst 1, 1) := by decide +kernel
theorem dX4_swapped_67 : decode cX4_swapped 67 = .ok (.iload_n 3, 1) := by decide +kernel
theorem dX4_swapped_68 : decode cX4_swapped 68 = .ok (.ishl, 1) := by decide +kernel
theorem dX4_swapped_69 : decode cX4_swapped 69 = .ok (.ior, 1) := by decide +kernel
theorem dX4_swapped_70 : decode cX4_swapped 70 = .ok (.goto 22, 3) := by decide +kernel
theorem dX4_swapped_73 : decode cX4_swapped 73 = .ok (.aload_n 0, 1) := by decide +kernel
theorem dX4_swapped_74 : decode cX4_swapped 74 = .ok (.getfield 19, 3) := by decide +kernel
theorem dX4_swapped_77 : decode cX4_swapped 77 = .ok (.bipush 12, 2) := by decide +kernel
theorem dX4_swapped_79 : decode cX4_swapped 79 = .ok (.iload 4, 2) := by decide +kernel
theorem dX4_swapped_81 : decode cX4_swapped 81 = .ok (.imul, 1) := by decide +kernel
theorem dX4_swapped_82 : decode cX4_swapped 82 = .ok (.iload 5, 2) := by decide +kernel
theorem dX4_swapped_84 : decode cX4_swapped 84 = .ok (.iadd, 1) := by decide +kernel
theorem dX4_swapped_85 : decode cX4_swapped 85 = .ok (.iaload, 1) := by decide +kernel
theorem dX4_swapped_86 : decode cX4_swapped 86 = .ok (.iconst 1, 1) := by decide +kernel
theorem dX4_swapped_87 : decode cX4_swapped 87 = .ok (.iload_n 3, 1) := by decide +kernel
theorem dX4_swapped_88 : decode cX4_swapped 88 = .ok (.ishl, 1) := by decide +kernel
theorem dX4_swapped_89 : decode cX4_swapped 89 = .ok (.iconst (-1), 1) := by decide +kernel
theorem dX4_swapped_90 : decode cX4_swapped 90 = .ok (.ixor, 1) := by decide +kernel
theorem dX4_swapped_91 : decode cX4_swapped 91 = .ok (.iand, 1) := by decide +kernel
theorem dX4_swapped_92 : decode cX4_swapped 92 = .ok (.istore 7, 2) := by decide +kernel
theorem dX4_swapped_94 : decode cX4_swapped 94 = .ok (.aload_n 0, 1) := by decide +kernel
theorem dX4_swapped_95 : decode cX4_swapped 95 = .ok (.getfield 19, 3) := by decide +kernel
theorem dX4_swapped_98 : decode cX4_swapped 98 = .ok (.bipush 12, 2) := by decide +kernel
theorem dX4_swapped_100 : decode cX4_swapped 100 = .ok (.iload 4, 2) := by decide +kernel
theorem dX4_swapped_102 : decode cX4_swapped 102 = .ok (.imul, 1) := by decide +kernel
theorem dX4_swapped_103 : decode cX4_swapped 103 = .ok (.iload 5, 2) := by decide +kernel
theorem dX4_swapped_105 : decode cX4_swapped 105 = .ok (.iadd, 1) := by decide +kernel
theorem dX4_swapped_106 : decode cX4_swapped 106 = .ok (.iload 7, 2) := by decide +kernel
theorem dX4_swapped_108 : decode cX4_swapped 108 = .ok (.iastore, 1) := by decide +kernel
theorem dX4_swapped_109 : decode cX4_swapped 109 = .ok (.aload_n 0, 1) := by decide +kernel
theorem dX4_swapped_110 : decode cX4_swapped 110 = .ok (.getfield 19, 3) := by decide +kernel
theorem dX4_swapped_113 : decode cX4_swapped 113 = .ok (.bipush 12, 2) := by decide +kernel
theorem dX4_swapped_115 : decode cX4_swapped 115 = .ok (.iload 5, 2) := by decide +kernel
theorem dX4_swapped_117 : decode cX4_swapped 117 = .ok (.imul, 1) := by decide +kernel
theorem dX4_swapped_118 : decode cX4_swapped 118 = .ok (.iload 4, 2) := by decide +kernel
theorem dX4_swapped_120 : decode cX4_swapped 120 = .ok (.iadd, 1) := by decide +kernel
theorem dX4_swapped_121 : decode cX4_swapped 121 = .ok (.iload 7, 2) := by decide +kernel
theorem dX4_swapped_123 : decode cX4_swapped 123 = .ok (.iastore, 1) := by decide +kernel
theorem dX4_swapped_124 : decode cX4_swapped 124 = .ok (.aload_n 0, 1) := by decide +kernel
theorem dX4_swapped_125 : decode cX4_swapped 125 = .ok (.dup, 1) := by decide +kernel
theorem dX4_swapped_126 : decode cX4_swapped 126 = .ok (.getfield 123, 3) := by decide +kernel
theorem dX4_swapped_129 : decode cX4_swapped 129 = .ok (.iload 6, 2) := by decide +kernel
theorem dX4_swapped_131 : decode cX4_swapped 131 = .ok (.aload_n 0, 1) := by decide +kernel
theorem dX4_swapped_132 : decode cX4_swapped 132 = .ok (.iload 4, 2) := by decide +kernel
theorem dX4_swapped_134 : decode cX4_swapped 134 = .ok (.iload 5, 2) := by decide +kernel
theorem dX4_swapped_136 : decode cX4_swapped 136 = .ok (.invokevirtual 132, 3) := by decide +kernel
theorem dX4_swapped_139 : decode cX4_swapped 139 = .ok (.if_icmp .ne 7, 3) := by decide +kernel
theorem dX4_swapped_142 : decode cX4_swapped 142 = .ok (.iconst 0, 1) := by decide +kernel
theorem dX4_swapped_143 : decode cX4_swapped 143 = .ok (.goto 4, 3) := by decide +kernel
theorem dX4_swapped_146 : decode cX4_swapped 146 = .ok (.iconst 1, 1) := by decide +kernel
theorem dX4_swapped_147 : decode cX4_swapped 147 = .ok (.iadd, 1) := by decide +kernel
theorem dX4_swapped_148 : decode cX4_swapped 148 = .ok (.putfield 123, 3) := by decide +kernel
theorem dX4_swapped_151 : decode cX4_swapped 151 = .ok (.return_, 1) := by decide +kernel
theorem dX4_putRight_0 : decode cX4_putRight 0 = .ok (.bipush 24, 2) := by decide +kernel
theorem dX4_putRight_2 : decode cX4_putRight 2 = .ok (.iload_n 3, 1) := by decide +kernel
theorem dX4_putRight_3 : decode cX4_putRight 3 = .ok (.imul, 1) := by decide +kernel
theorem dX4_putRight_4 : decode cX4_putRight 4 = .ok (.istore 4, 2) := by decide +kernel
theorem dX4_putRight_6 : decode cX4_putRight 6 = .ok (.aload_n 0, 1) := by decide +kernel
theorem dX4_putRight_7 : decode cX4_putRight 7 = .ok (.getfield 16, 3) := by decide +kernel
theorem dX4_putRight_10 : decode cX4_putRight 10 = .ok (.iload 4, 2) := by decide +kernel
theorem dX4_putRight_12 : decode cX4_putRight 12 = .ok (.iaload, 1) := by decide +kernel
theorem dX4_putRight_13 : decode cX4_putRight 13 = .ok (.iload_n 1, 1) := by decide +kernel
theorem dX4_putRight_14 : decode cX4_putRight 14 = .ok (.if_icmp .eq 9, 3) := by decide +kernel
theorem dX4_putRight_17 : decode cX4_putRight 17 = .ok (.iinc 4 1, 3) := by decide +kernel
theorem dX4_putRight_20 : decode cX4_putRight 20 = .ok (.goto (-14), 3) := by decide +kernel
theorem dX4_putRight_23 : decode cX4_putRight 23 = .ok (.aload_n 0, 1) := by decide +kernel
theorem dX4_putRight_24 : decode cX4_putRight 24 = .ok (.getfield 13, 3) := by decide +kernel
theorem dX4_putRight_27 : decode cX4_putRight 27 = .ok (.bipush 6, 2) := by decide +kernel
theorem dX4_putRight_29 : decode cX4_putRight 29 = .ok (.iload_n 1, 1) := by decide +kernel
theorem dX4_putRight_30 : decode cX4_putRight 30 = .ok (.iconst 2, 1) := by decide +kernel
theorem dX4_putRight_31 : decode cX4_putRight 31 = .ok (.idiv, 1) := by decide +kernel
theorem dX4_putRight_32 : decode cX4_putRight 32 = .ok (.imul, 1) := by decide +kernel
theorem dX4_putRight_33 : decode cX4_putRight 33 = .ok (.iconst 2, 1) := by decide +kernel
theorem dX4_putRight_34 : decode cX4_putRight 34 = .ok (.iload_n 3, 1) := by decide +kernel
theorem dX4_putRight_35 : decode cX4_putRight 35 = .ok (.imul, 1) := by decide +kernel
theorem dX4_putRight_36 : decode cX4_putRight 36 = .ok (.iadd, 1) := by decide +kernel
theorem dX4_putRight_37 : decode cX4_putRight 37 = .ok (.iload_n 1, 1) := by decide +kernel
theorem dX4_putRight_38 : decode cX4_putRight 38 = .ok (.iconst 2, 1) := by decide +kernel
theorem dX4_putRight_39 : decode cX4_putRight 39 = .ok (.irem, 1) := by decide +kernel
theorem dX4_putRight_40 : decode cX4_putRight 40 = .ok (.iadd, 1) := by decide +kernel
theorem dX4_putRight_41 : decode cX4_putRight 41 = .ok (.iload_n 2, 1) := by decide +kernel
theorem dX4_putRight_42 : decode cX4_putRight 42 = .ok (.iastore, 1) := by decide +kernel
theorem dX4_putRight_43 : decode cX4_putRight 43 = .ok (.iload 4, 2) := by decide +kernel
theorem dX4_putRight_45 : decode cX4_putRight 45 = .ok (.iconst 1, 1) := by decide +kernel
theorem dX4_putRight_46 : decode cX4_putRight 46 = .ok (.iadd, 1) := by decide +kernel
theorem dX4_putRight_47 : decode cX4_putRight 47 = .ok (.bipush 24, 2) := by decide +kernel
theorem dX4_putRight_49 : decode cX4_putRight 49 = .ok (.iload_n 3, 1) := by decide +kernel
theorem dX4_putRight_50 : decode cX4_putRight 50 = .ok (.imul, 1) := by decide +kernel
theorem dX4_putRight_51 : decode cX4_putRight 51 = .ok (.aload_n 0, 1) := by decide +kernel
theorem dX4_putRight_52 : decode cX4_putRight 52 = .ok (.getfield 110, 3) := by decide +kernel
theorem dX4_putRight_55 : decode cX4_putRight 55 = .ok (.iadd, 1) := by decide +kernel
theorem dX4_putRight_56 : decode cX4_putRight 56 = .ok (.if_icmp .ge 80, 3) := by decide +kernel
theorem dX4_putRight_59 : decode cX4_putRight 59 = .ok (.aload_n 0, 1) := by decide +kernel
theorem dX4_putRight_60 : decode cX4_putRight 60 = .ok (.aload_n 0, 1) := by decide +kernel
theorem dX4_putRight_61 : decode cX4_putRight 61 = .ok (.getfield 16, 3) := by decide +kernel
theorem dX4_putRight_64 : decode cX4_putRight 64 = .ok (.iload 4, 2) := by decide +kernel
theorem dX4_putRight_66 : decode cX4_putRight 66 = .ok (.iconst 1, 1) := by decide +kernel
theorem dX4_putRight_67 : decode cX4_putRight 67 = .ok (.iadd, 1) := by decide +kernel
theorem dX4_putRight_68 : decode cX4_putRight 68 = .ok (.iaload, 1) := by decide +kernel
theorem dX4_putRight_69 : decode cX4_putRight 69 = .ok (.aload_n 0, 1) := by decide +kernel
theorem dX4_putRight_70 : decode cX4_putRight 70 = .ok (.aload_n 0, 1) := by decide +kernel
theorem dX4_putRight_71 : decode cX4_putRight 71 = .ok (.getfield 16, 3) := by decide +kernel
theorem dX4_putRight_74 : decode cX4_putRight 74 = .ok (.iload 4, 2) := by decide +kernel
theorem dX4_putRight_76 : decode cX4_putRight 76 = .ok (.iconst 1, 1) := by decide +kernel
theorem dX4_putRight_77 : decode cX4_putRight 77 = .ok (.iadd, 1) := by decide +kernel
theorem dX4_putRight_78 : decode cX4_putRight 78 = .ok (.iaload, 1) := by decide +kernel
theorem dX4_putRight_79 : decode cX4_putRight 79 = .ok (.iload_n 3, 1) := by decide +kernel
theorem dX4_putRight_80 : decode cX4_putRight 80 = .ok (.invokevirtual 97, 3) := by decide +kernel
theorem dX4_putRight_83 : decode cX4_putRight 83 = .ok (.iload_n 1, 1) := by decide +kernel
theorem dX4_putRight_84 : decode cX4_putRight 84 = .ok (.iload_n 3, 1) := by decide +kernel
theorem dX4_putRight_85 : decode cX4_putRight 85 = .ok (.invokevirtual 113, 3) := by decide +kernel
theorem dX4_putRight_88 : decode cX4_putRight 88 = .ok (.ifCond .eq 48, 3) := by decide +kernel
theorem dX4_putRight_91 : decode cX4_putRight 91 = .ok (.aload_n 0, 1) := by decide +kernel
theorem dX4_putRight_92 : decode cX4_putRight 92 = .ok (.getfield 16, 3) := by decide +kernel
theorem dX4_putRight_95 : decode cX4_putRight 95 = .ok (.iload 4, 2) := by decide +kernel
theorem dX4_putRight_97 : decode cX4_putRight 97 = .ok (.aload_n 0, 1) := by decide +kernel
theorem dX4_putRight_98 : decode cX4_putRight 98 = .ok (.getfield 16, 3) := by decide +kernel
theorem dX4_putRight_101 : decode cX4_putRight 101 = .ok (.iload 4, 2) := by decide +kernel
theorem dX4_putRight_103 : decode cX4_putRight 103 = .ok (.iconst 1, 1) := by decide +kernel
theorem dX4_putRight_104 : decode cX4_putRight 104 = .ok (.iadd, 1) := by decide +kernel
theorem dX4_putRight_105 : decode cX4_putRight 105 = .ok (.iaload, 1) := by decide +kernel
theorem dX4_putRight_106 : decode cX4_putRight 106 = .ok (.iastore, 1) := by decide +kernel
theorem dX4_putRight_107 : decode cX4_putRight 107 = .ok (.aload_n 0, 1) := by decide +kernel
theorem dX4_putRight_108 : decode cX4_putRight 108 = .ok (.getfield 16, 3) := by decide +kernel
theorem dX4_putRight_111 : decode cX4_putRight 111 = .ok (.iload 4, 2) := by decide +kernel
theorem dX4_putRight_113 : decode cX4_putRight 113 = .ok (.iconst 1, 1) := by decide +kernel
theorem dX4_putRight_114 : decode cX4_putRight 114 = .ok (.iadd, 1) := by decide +kernel
theorem dX4_putRight_115 : decode cX4_putRight 115 = .ok (.iload_n 1, 1) := by decide +kernel
theorem dX4_putRight_116 : decode cX4_putRight 116 = .ok (.iastore, 1) := by decide +kernel
theorem dX4_putRight_117 : decode cX4_putRight 117 = .ok (.aload_n 0, 1) := by decide +kernel
theorem dX4_putRight_118 : decode cX4_putRight 118 = .ok (.aload_n 0, 1) := by decide +kernel
theorem dX4_putRight_119 : decode cX4_putRight 119 = .ok (.getfield 16, 3) := by decide +kernel
theorem dX4_putRight_122 : decode cX4_putRight 122 = .ok (.iload 4, 2) := by decide +kernel
theorem dX4_putRight_124 : decode cX4_putRight 124 = .ok (.iaload, 1) := by decide +kernel
theorem dX4_putRight_125 : decode cX4_putRight 125 = .ok (.iload_n 1, 1) := by decide +kernel
theorem dX4_putRight_126 : decode cX4_putRight 126 = .ok (.iload_n 3, 1) := by decide +kernel
theorem dX4_putRight_127 : decode cX4_putRight 127 = .ok (.invokevirtual 153, 3) := by decide +kernel
theorem dX4_putRight_130 : decode cX4_putRight 130 = .ok (.iinc 4 1, 3) := by decide +kernel
theorem dX4_putRight_133 : decode cX4_putRight 133 = .ok (.goto (-90), 3) := by decide +kernel
theorem dX4_putRight_136 : decode cX4_putRight 136 = .ok (.iload 4, 2) := by decide +kernel
theorem dX4_putRight_138 : decode cX4_putRight 138 = .ok (.bipush 24, 2) := by decide +kernel
theorem dX4_putRight_140 : decode cX4_putRight 140 = .ok (.iload_n 3, 1) := by decide +kernel
theorem dX4_putRight_141 : decode cX4_putRight 141 = .ok (.imul, 1) := by decide +kernel
theorem dX4_putRight_142 : decode cX4_putRight 142 = .ok (.if_icmp .le 67, 3) := by decide +kernel
theorem dX4_putRight_145 : decode cX4_putRight 145 = .ok (.aload_n 0, 1) := by decide +kernel
theorem dX4_putRight_146 : decode cX4_putRight 146 = .ok (.iload_n 1, 1) := by decide +kernel
theorem dX4_putRight_147 : decode cX4_putRight 147 = .ok (.iload_n 2, 1) := by decide +kernel
theorem dX4_putRight_148 : decode cX4_putRight 148 = .ok (.aload_n 0, 1) := by decide +kernel
theorem dX4_putRight_149 : decode cX4_putRight 149 = .ok (.getfield 16, 3) := by decide +kernel
theorem dX4_putRight_152 : decode cX4_putRight 152 = .ok (.iload 4, 2) := by decide +kernel
theorem dX4_putRight_154 : decode cX4_putRight 154 = .ok (.iconst 1, 1) := by decide +kernel
theorem dX4_putRight_155 : decode cX4_putRight 155 = .ok (.isub, 1) := by decide +kernel
theorem dX4_putRight_156 : decode cX4_putRight 156 = .ok (.iaload, 1) := by decide +kernel
theorem dX4_putRight_157 : decode cX4_putRight 157 = .ok (.iload_n 3, 1) := by decide +kernel
theorem dX4_putRight_158 : decode cX4_putRight 158 = .ok (.invokevirtual 113, 3) := by decide +kernel
theorem dX4_putRight_161 : decode cX4_putRight 161 = .ok (.ifCond .eq 48, 3) := by decide +kernel
theorem dX4_putRight_164 : decode cX4_putRight 164 = .ok (.aload_n 0, 1) := by decide +kernel
theorem dX4_putRight_165 : decode cX4_putRight 165 = .ok (.getfield 16, 3) := by decide +kernel
theorem dX4_putRight_168 : decode cX4_putRight 168 = .ok (.iload 4, 2) := by decide +kernel
theorem dX4_putRight_170 : decode cX4_putRight 170 = .ok (.aload_n 0, 1) := by decide +kernel
theorem dX4_putRight_171 : decode cX4_putRight 171 = .ok (.getfield 16, 3) := by decide +kernel
theorem dX4_putRight_174 : decode cX4_putRight 174 = .ok (.iload 4, 2) := by decide +kernel
theorem dX4_putRight_176 : decode cX4_putRight 176 = .ok (.iconst 1, 1) := by decide +kernel
theorem dX4_putRight_177 : decode cX4_putRight 177 = .ok (.isub, 1) := by decide +kernel
theorem dX4_putRight_178 : decode cX4_putRight 178 = .ok (.iaload, 1) := by decide +kernel
theorem dX4_putRight_179 : decode cX4_putRight 179 = .ok (.iastore, 1) := by decide +kernel
theorem dX4_putRight_180 : decode cX4_putRight 180 = .ok (.aload_n 0, 1) := by decide +kernel
theorem dX4_putRight_181 : decode cX4_putRight 181 = .ok (.getfield 16, 3) := by decide +kernel
theorem dX4_putRight_184 : decode cX4_putRight 184 = .ok (.iload 4, 2) := by decide +kernel
theorem dX4_putRight_186 : decode cX4_putRight 186 = .ok (.iconst 1, 1) := by decide +kernel
theorem dX4_putRight_187 : decode cX4_putRight 187 = .ok (.isub, 1) := by decide +kernel
theorem dX4_putRight_188 : decode cX4_putRight 188 = .ok (.iload_n 1, 1) := by decide +kernel
theorem dX4_putRight_189 : decode cX4_putRight 189 = .ok (.iastore, 1) := by decide +kernel
theorem dX4_putRight_190 : decode cX4_putRight 190 = .ok (.aload_n 0, 1) := by decide +kernel
theorem dX4_putRight_191 : decode cX4_putRight 191 = .ok (.iload_n 1, 1) := by decide +kernel
theorem dX4_putRight_192 : decode cX4_putRight 192 = .ok (.aload_n 0, 1) := by decide +kernel
theorem dX4_putRight_193 : decode cX4_putRight 193 = .ok (.getfield 16, 3) := by decide +kernel
theorem dX4_putRight_196 : decode cX4_putRight 196 = .ok (.iload 4, 2) := by decide +kernel
theorem dX4_putRight_198 : decode cX4_putRight 198 = .ok (.iaload, 1) := by decide +kernel
theorem dX4_putRight_199 : decode cX4_putRight 199 = .ok (.iload_n 3, 1) := by decide +kernel
theorem dX4_putRight_200 : decode cX4_putRight 200 = .ok (.invokevirtual 153, 3) := by decide +kernel
theorem dX4_putRight_203 : decode cX4_putRight 203 = .ok (.iinc 4 (-1), 3) := by decide +kernel
theorem dX4_putRight_206 : decode cX4_putRight 206 = .ok (.goto (-70), 3) := by decide +kernel
theorem dX4_putRight_209 : decode cX4_putRight 209 = .ok (.return_, 1) := by decide +kernel
theorem dX4_layBox_0 : decode cX4_layBox 0 = .ok (.iload_n 3, 1) := by decide +kernel
theorem dX4_layBox_1 : decode cX4_layBox 1 = .ok (.aload_n 0, 1) := by decide +kernel
theorem dX4_layBox_2 : decode cX4_layBox 2 = .ok (.iload_n 1, 1) := by decide +kernel
theorem dX4_layBox_3 : decode cX4_layBox 3 = .ok (.iload_n 2, 1) := by decide +kernel
theorem dX4_layBox_4 : decode cX4_layBox 4 = .ok (.invokevirtual 104, 3) := by decide +kernel
theorem dX4_layBox_7 : decode cX4_layBox 7 = .ok (.if_icmp .le 27, 3) := by decide +kernel
theorem dX4_layBox_10 : decode cX4_layBox 10 = .ok (.aload_n 0, 1) := by decide +kernel
theorem dX4_layBox_11 : decode cX4_layBox 11 = .ok (.iconst 2, 1) := by decide +kernel
theorem dX4_layBox_12 : decode cX4_layBox 12 = .ok (.iload_n 1, 1) := by decide +kernel
theorem dX4_layBox_13 : decode cX4_layBox 13 = .ok (.imul, 1) := by decide +kernel
theorem dX4_layBox_14 : decode cX4_layBox 14 = .ok (.iconst 1, 1) := by decide +kernel
theorem dX4_layBox_15 : decode cX4_layBox 15 = .ok (.iadd, 1) := by decide +kernel
theorem dX4_layBox_16 : decode cX4_layBox 16 = .ok (.iload 4, 2) := by decide +kernel
theorem dX4_layBox_18 : decode cX4_layBox 18 = .ok (.iload_n 2, 1) := by decide +kernel
theorem dX4_layBox_19 : decode cX4_layBox 19 = .ok (.invokevirtual 157, 3) := by decide +kernel
theorem dX4_layBox_22 : decode cX4_layBox 22 = .ok (.aload_n 0, 1) := by decide +kernel
theorem dX4_layBox_23 : decode cX4_layBox 23 = .ok (.iconst 2, 1) := by decide +kernel
theorem dX4_layBox_24 : decode cX4_layBox 24 = .ok (.iload_n 1, 1) := by decide +kernel
theorem dX4_layBox_25 : decode cX4_layBox 25 = .ok (.imul, 1) := by decide +kernel
theorem dX4_layBox_26 : decode cX4_layBox 26 = .ok (.iload_n 3, 1) := by decide +kernel
theorem dX4_layBox_27 : decode cX4_layBox 27 = .ok (.iload_n 2, 1) := by decide +kernel
theorem dX4_layBox_28 : decode cX4_layBox 28 = .ok (.invokevirtual 157, 3) := by decide +kernel
theorem dX4_layBox_31 : decode cX4_layBox 31 = .ok (.goto 24, 3) := by decide +kernel
theorem dX4_layBox_34 : decode cX4_layBox 34 = .ok (.aload_n 0, 1) := by decide +kernel
theorem dX4_layBox_35 : decode cX4_layBox 35 = .ok (.iconst 2, 1) := by decide +kernel
theorem dX4_layBox_36 : decode cX4_layBox 36 = .ok (.iload_n 1, 1) := by decide +kernel
theorem dX4_layBox_37 : decode cX4_layBox 37 = .ok (.imul, 1) := by decide +kernel
theorem dX4_layBox_38 : decode cX4_layBox 38 = .ok (.iload_n 3, 1) := by decide +kernel
theorem dX4_layBox_39 : decode cX4_layBox 39 = .ok (.iload_n 2, 1) := by decide +kernel
theorem dX4_layBox_40 : decode cX4_layBox 40 = .ok (.invokevirtual 157, 3) := by decide +kernel
theorem dX4_layBox_43 : decode cX4_layBox 43 = .ok (.aload_n 0, 1) := by decide +kernel
theorem dX4_layBox_44 : decode cX4_layBox 44 = .ok (.iconst 2, 1) := by decide +kernel
theorem dX4_layBox_45 : decode cX4_layBox 45 = .ok (.iload_n 1, 1) := by decide +kernel
theorem dX4_layBox_46 : decode cX4_layBox 46 = .ok (.imul, 1) := by decide +kernel
theorem dX4_layBox_47 : decode cX4_layBox 47 = .ok (.iconst 1, 1) := by decide +kernel
theorem dX4_layBox_48 : decode cX4_layBox 48 = .ok (.iadd, 1) := by decide +kernel
theorem dX4_layBox_49 : decode cX4_layBox 49 = .ok (.iload 4, 2) := by decide +kernel
theorem dX4_layBox_51 : decode cX4_layBox 51 = .ok (.iload_n 2, 1) := by decide +kernel
theorem dX4_layBox_52 : decode cX4_layBox 52 = .ok (.invokevirtual 157, 3) := by decide +kernel
theorem dX4_layBox_55 : decode cX4_layBox 55 = .ok (.return_, 1) := by decide +kernel
theorem dX4_isBox_0 : decode cX4_isBox 0 = .ok (.iload_n 1, 1) := by decide +kernel
theorem dX4_isBox_1 : decode cX4_isBox 1 = .ok (.iconst 0, 1) := by decide +kernel
theorem dX4_isBox_2 : decode cX4_isBox 2 = .ok (.bipush 11, 2) := by decide +kernel
theorem dX4_isBox_4 : decode cX4_isBox 4 = .ok (.invokestatic 41, 3) := by decide +kernel
theorem dX4_isBox_7 : decode cX4_isBox 7 = .ok (.ifCond .eq 18, 3) := by decide +kernel
theorem dX4_isBox_10 : decode cX4_isBox 10 = .ok (.aload_n 0, 1) := by decide +kernel
theorem dX4_isBox_11 : decode cX4_isBox 11 = .ok (.getfield 73, 3) := by decide +kernel
theorem dX4_isBox_14 : decode cX4_isBox 14 = .ok (.iload_n 1, 1) := by decide +kernel
theorem dX4_isBox_15 : decode cX4_isBox 15 = .ok (.invokestatic 86, 3) := by decide +kernel
theorem dX4_isBox_18 : decode cX4_isBox 18 = .ok (.ifCond .eq 7, 3) := by decide +kernel
theorem dX4_isBox_21 : decode cX4_isBox 21 = .ok (.iconst 1, 1) := by decide +kernel
theorem dX4_isBox_22 : decode cX4_isBox 22 = .ok (.goto 4, 3) := by decide +kernel
theorem dX4_isBox_25 : decode cX4_isBox 25 = .ok (.iconst 0, 1) := by decide +kernel
theorem dX4_isBox_26 : decode cX4_isBox 26 = .ok (.ireturn, 1) := by decide +kernel
theorem dX4_canMove_0 : decode cX4_canMove 0 = .ok (.iload_n 3, 1) := by decide +kernel
theorem dX4_canMove_1 : decode cX4_canMove 1 = .ok (.sipush (-1998), 3) := by decide +kernel
theorem dX4_canMove_4 : decode cX4_canMove 4 = .ok (.sipush 1998, 3) := by decide +kernel
theorem dX4_canMove_7 : decode cX4_canMove 7 = .ok (.invokestatic 41, 3) := by decide +kernel
theorem dX4_canMove_10 : decode cX4_canMove 10 = .ok (.ifCond .eq 35, 3) := by decide +kernel
theorem dX4_canMove_13 : decode cX4_canMove 13 = .ok (.aload_n 0, 1) := by decide +kernel
theorem dX4_canMove_14 : decode cX4_canMove 14 = .ok (.iload_n 1, 1) := by decide +kernel
theorem dX4_canMove_15 : decode cX4_canMove 15 = .ok (.iload_n 2, 1) := by decide +kernel
theorem dX4_canMove_16 : decode cX4_canMove 16 = .ok (.invokevirtual 104, 3) := by decide +kernel
theorem dX4_canMove_19 : decode cX4_canMove 19 = .ok (.iload_n 3, 1) := by decide +kernel
theorem dX4_canMove_20 : decode cX4_canMove 20 = .ok (.iadd, 1) := by decide +kernel
theorem dX4_canMove_21 : decode cX4_canMove 21 = .ok (.sipush (-999), 3) := by decide +kernel
theorem dX4_canMove_24 : decode cX4_canMove 24 = .ok (.if_icmp .lt 21, 3) := by decide +kernel
theorem dX4_canMove_27 : decode cX4_canMove 27 = .ok (.aload_n 0, 1) := by decide +kernel
theorem dX4_canMove_28 : decode cX4_canMove 28 = .ok (.iload_n 1, 1) := by decide +kernel
theorem dX4_canMove_29 : decode cX4_canMove 29 = .ok (.iload_n 2, 1) := by decide +kernel
theorem dX4_canMove_30 : decode cX4_canMove 30 = .ok (.invokevirtual 107, 3) := by decide +kernel
theorem dX4_canMove_33 : decode cX4_canMove 33 = .ok (.iload_n 3, 1) := by decide +kernel
theorem dX4_canMove_34 : decode cX4_canMove 34 = .ok (.iadd, 1) := by decide +kernel
theorem dX4_canMove_35 : decode cX4_canMove 35 = .ok (.sipush 999, 3) := by decide +kernel
theorem dX4_canMove_38 : decode cX4_canMove 38 = .ok (.if_icmp .gt 7, 3) := by decide +kernel
theorem dX4_canMove_41 : decode cX4_canMove 41 = .ok (.iconst 1, 1) := by decide +kernel
theorem dX4_canMove_42 : decode cX4_canMove 42 = .ok (.goto 4, 3) := by decide +kernel
theorem dX4_canMove_45 : decode cX4_canMove 45 = .ok (.iconst 0, 1) := by decide +kernel
theorem dX4_canMove_46 : decode cX4_canMove 46 = .ok (.ireturn, 1) := by decide +kernel
theorem dX4_endSwaps_0 : decode cX4_endSwaps 0 = .ok (.aload_n 0, 1) := by decide +kernel
theorem dX4_endSwaps_1 : decode cX4_endSwaps 1 = .ok (.aload_n 0, 1) := by decide +kernel
theorem dX4_endSwaps_2 : decode cX4_endSwaps 2 = .ok (.getfield 123, 3) := by decide +kernel
theorem dX4_endSwaps_5 : decode cX4_endSwaps 5 = .ok (.invokevirtual 93, 3) := by decide +kernel
theorem dX4_endSwaps_8 : decode cX4_endSwaps 8 = .ok (.aload_n 0, 1) := by decide +kernel
theorem dX4_endSwaps_9 : decode cX4_endSwaps 9 = .ok (.getfield 28, 3) := by decide +kernel
theorem dX4_endSwaps_12 : decode cX4_endSwaps 12 = .ok (.iconst 0, 1) := by decide +kernel
theorem dX4_endSwaps_13 : decode cX4_endSwaps 13 = .ok (.iaload, 1) := by decide +kernel
theorem dX4_endSwaps_14 : decode cX4_endSwaps 14 = .ok (.aload_n 0, 1) := by decide +kernel
theorem dX4_endSwaps_15 : decode cX4_endSwaps 15 = .ok (.getfield 28, 3) := by decide +kernel
theorem dX4_endSwaps_18 : decode cX4_endSwaps 18 = .ok (.iconst 1, 1) := by decide +kernel
theorem dX4_endSwaps_19 : decode cX4_endSwaps 19 = .ok (.iaload, 1) := by decide +kernel
theorem dX4_endSwaps_20 : decode cX4_endSwaps 20 = .ok (.iadd, 1) := by decide +kernel
theorem dX4_endSwaps_21 : decode cX4_endSwaps 21 = .ok (.aload_n 0, 1) := by decide +kernel
theorem dX4_endSwaps_22 : decode cX4_endSwaps 22 = .ok (.getfield 28, 3) := by decide +kernel
theorem dX4_endSwaps_25 : decode cX4_endSwaps 25 = .ok (.iconst 2, 1) := by decide +kernel
theorem dX4_endSwaps_26 : decode cX4_endSwaps 26 = .ok (.iaload, 1) := by decide +kernel
theorem dX4_endSwaps_27 : decode cX4_endSwaps 27 = .ok (.iadd, 1) := by decide +kernel
theorem dX4_endSwaps_28 : decode cX4_endSwaps 28 = .ok (.ireturn, 1) := by decide +kernel
theorem dX4_move_0 : decode cX4_move 0 = .ok (.aload_n 0, 1) := by decide +kernel
theorem dX4_move_1 : decode cX4_move 1 = .ok (.iload_n 1, 1) := by decide +kernel
theorem dX4_move_2 : decode cX4_move 2 = .ok (.invokevirtual 160, 3) := by decide +kernel
theorem dX4_move_5 : decode cX4_move 5 = .ok (.ifCond .ne 7, 3) := by decide +kernel
theorem dX4_move_8 : decode cX4_move 8 = .ok (.sipush (-10002), 3) := by decide +kernel
theorem dX4_move_11 : decode cX4_move 11 = .ok (.ireturn, 1) := by decide +kernel
theorem dX4_move_12 : decode cX4_move 12 = .ok (.aload_n 0, 1) := by decide +kernel
theorem dX4_move_13 : decode cX4_move 13 = .ok (.iload_n 1, 1) := by decide +kernel
theorem dX4_move_14 : decode cX4_move 14 = .ok (.iconst 0, 1) := by decide +kernel
theorem dX4_move_15 : decode cX4_move 15 = .ok (.iload_n 2, 1) := by decide +kernel
theorem dX4_move_16 : decode cX4_move 16 = .ok (.invokevirtual 163, 3) := by decide +kernel
theorem dX4_move_19 : decode cX4_move 19 = .ok (.ifCond .eq 24, 3) := by decide +kernel
theorem dX4_move_22 : decode cX4_move 22 = .ok (.aload_n 0, 1) := by decide +kernel
theorem dX4_move_23 : decode cX4_move 23 = .ok (.iload_n 1, 1) := by decide +kernel
theorem dX4_move_24 : decode cX4_move 24 = .ok (.iconst 1, 1) := by decide +kernel
theorem dX4_move_25 : decode cX4_move 25 = .ok (.iload_n 3, 1) := by decide +kernel
theorem dX4_move_26 : decode cX4_move 26 = .ok (.invokevirtual 163, 3) := by decide +kernel
theorem dX4_move_29 : decode cX4_move 29 = .ok (.ifCond .eq 14, 3) := by decide +kernel
theorem dX4_move_32 : decode cX4_move 32 = .ok (.aload_n 0, 1) := by decide +kernel
theorem dX4_move_33 : decode cX4_move 33 = .ok (.iload_n 1, 1) := by decide +kernel
theorem dX4_move_34 : decode cX4_move 34 = .ok (.iconst 2, 1) := by decide +kernel
theorem dX4_move_35 : decode cX4_move 35 = .ok (.iload 4, 2) := by decide +kernel
theorem dX4_move_37 : decode cX4_move 37 = .ok (.invokevirtual 163, 3) := by decide +kernel
theorem dX4_move_40 : decode cX4_move 40 = .ok (.ifCond .ne 7, 3) := by decide +kernel
theorem dX4_move_43 : decode cX4_move 43 = .ok (.sipush (-10003), 3) := by decide +kernel
theorem dX4_move_46 : decode cX4_move 46 = .ok (.ireturn, 1) := by decide +kernel
theorem dX4_move_47 : decode cX4_move 47 = .ok (.aload_n 0, 1) := by decide +kernel
theorem dX4_move_48 : decode cX4_move 48 = .ok (.invokevirtual 83, 3) := by decide +kernel
theorem dX4_move_51 : decode cX4_move 51 = .ok (.iconst 0, 1) := by decide +kernel
theorem dX4_move_52 : decode cX4_move 52 = .ok (.istore 5, 2) := by decide +kernel
theorem dX4_move_54 : decode cX4_move 54 = .ok (.iload 5, 2) := by decide +kernel
theorem dX4_move_56 : decode cX4_move 56 = .ok (.iconst 3, 1) := by decide +kernel
theorem dX4_move_57 : decode cX4_move 57 = .ok (.if_icmp .ge 59, 3) := by decide +kernel
theorem dX4_move_60 : decode cX4_move 60 = .ok (.iload 5, 2) := by decide +kernel
theorem dX4_move_62 : decode cX4_move 62 = .ok (.ifCond .ne 7, 3) := by decide +kernel
theorem dX4_move_65 : decode cX4_move 65 = .ok (.iload_n 2, 1) := by decide +kernel
theorem dX4_move_66 : decode cX4_move 66 = .ok (.goto 15, 3) := by decide +kernel
theorem dX4_move_69 : decode cX4_move 69 = .ok (.iload 5, 2) := by decide +kernel
theorem dX4_move_71 : decode cX4_move 71 = .ok (.iconst 1, 1) := by decide +kernel
theorem dX4_move_72 : decode cX4_move 72 = .ok (.if_icmp .ne 7, 3) := by decide +kernel
theorem dX4_move_75 : decode cX4_move 75 = .ok (.iload_n 3, 1) := by decide +kernel
theorem dX4_move_76 : decode cX4_move 76 = .ok (.goto 5, 3) := by decide +kernel
theorem dX4_move_79 : decode cX4_move 79 = .ok (.iload 4, 2) := by decide +kernel
theorem dX4_move_81 : decode cX4_move 81 = .ok (.istore 6, 2) := by decide +kernel
theorem dX4_move_83 : decode cX4_move 83 = .ok (.aload_n 0, 1) := by decide +kernel
theorem dX4_move_84 : decode cX4_move 84 = .ok (.iload_n 1, 1) := by decide +kernel
theorem dX4_move_85 : decode cX4_move 85 = .ok (.iload 5, 2) := by decide +kernel
theorem dX4_move_87 : decode cX4_move 87 = .ok (.aload_n 0, 1) := by decide +kernel
theorem dX4_move_88 : decode cX4_move 88 = .ok (.iload_n 1, 1) := by decide +kernel
theorem dX4_move_89 : decode cX4_move 89 = .ok (.iload 5, 2) := by decide +kernel
theorem dX4_move_91 : decode cX4_move 91 = .ok (.invokevirtual 104, 3) := by decide +kernel
theorem dX4_move_94 : decode cX4_move 94 = .ok (.iload 6, 2) := by decide +kernel
theorem dX4_move_96 : decode cX4_move 96 = .ok (.iadd, 1) := by decide +kernel
theorem dX4_move_97 : decode cX4_move 97 = .ok (.aload_n 0, 1) := by decide +kernel
theorem dX4_move_98 : decode cX4_move 98 = .ok (.iload_n 1, 1) := by decide +kernel
theorem dX4_move_99 : decode cX4_move 99 = .ok (.iload 5, 2) := by decide +kernel
theorem dX4_move_101 : decode cX4_move 101 = .ok (.invokevirtual 107, 3) := by decide +kernel
theorem dX4_move_104 : decode cX4_move 104 = .ok (.iload 6, 2) := by decide +kernel
theorem dX4_move_106 : decode cX4_move 106 = .ok (.iadd, 1) := by decide +kernel
theorem dX4_move_107 : decode cX4_move 107 = .ok (.invokevirtual 166, 3) := by decide +kernel
theorem dX4_move_110 : decode cX4_move 110 = .ok (.iinc 5 1, 3) := by decide +kernel
theorem dX4_move_113 : decode cX4_move 113 = .ok (.goto (-59), 3) := by decide +kernel
theorem dX4_move_116 : decode cX4_move 116 = .ok (.aload_n 0, 1) := by decide +kernel
theorem dX4_move_117 : decode cX4_move 117 = .ok (.invokevirtual 170, 3) := by decide +kernel
theorem dX4_move_120 : decode cX4_move 120 = .ok (.ireturn, 1) := by decide +kernel
theorem dX4_isAxis_0 : decode cX4_isAxis 0 = .ok (.iload_n 0, 1) := by decide +kernel
theorem dX4_isAxis_1 : decode cX4_isAxis 1 = .ok (.iconst 0, 1) := by decide +kernel
theorem dX4_isAxis_2 : decode cX4_isAxis 2 = .ok (.iconst 2, 1) := by decide +kernel
theorem dX4_isAxis_3 : decode cX4_isAxis 3 = .ok (.invokestatic 41, 3) := by decide +kernel
theorem dX4_isAxis_6 : decode cX4_isAxis 6 = .ok (.ireturn, 1) := by decide +kernel
theorem dX4_areEnds_0 : decode cX4_areEnds 0 = .ok (.iload_n 0, 1) := by decide +kernel
theorem dX4_areEnds_1 : decode cX4_areEnds 1 = .ok (.sipush (-999), 3) := by decide +kernel
theorem dX4_areEnds_4 : decode cX4_areEnds 4 = .ok (.sipush 999, 3) := by decide +kernel
theorem dX4_areEnds_7 : decode cX4_areEnds 7 = .ok (.invokestatic 41, 3) := by decide +kernel
theorem dX4_areEnds_10 : decode cX4_areEnds 10 = .ok (.ifCond .eq 25, 3) := by decide +kernel
theorem dX4_areEnds_13 : decode cX4_areEnds 13 = .ok (.iload_n 1, 1) := by decide +kernel
theorem dX4_areEnds_14 : decode cX4_areEnds 14 = .ok (.sipush (-999), 3) := by decide +kernel
theorem dX4_areEnds_17 : decode cX4_areEnds 17 = .ok (.sipush 999, 3) := by decide +kernel
theorem dX4_areEnds_20 : decode cX4_areEnds 20 = .ok (.invokestatic 41, 3) := by decide +kernel
theorem dX4_areEnds_23 : decode cX4_areEnds 23 = .ok (.ifCond .eq 12, 3) := by decide +kernel
theorem dX4_areEnds_26 : decode cX4_areEnds 26 = .ok (.iload_n 0, 1) := by decide +kernel
theorem dX4_areEnds_27 : decode cX4_areEnds 27 = .ok (.iload_n 1, 1) := by decide +kernel
theorem dX4_areEnds_28 : decode cX4_areEnds 28 = .ok (.if_icmp .ge 7, 3) := by decide +kernel
theorem dX4_areEnds_31 : decode cX4_areEnds 31 = .ok (.iconst 1, 1) := by decide +kernel
theorem dX4_areEnds_32 : decode cX4_areEnds 32 = .ok (.goto 4, 3) := by decide +kernel
theorem dX4_areEnds_35 : decode cX4_areEnds 35 = .ok (.iconst 0, 1) := by decide +kernel
theorem dX4_areEnds_36 : decode cX4_areEnds 36 = .ok (.ireturn, 1) := by decide +kernel
theorem dX4_lay_0 : decode cX4_lay 0 = .ok (.aload_n 0, 1) := by decide +kernel
theorem dX4_lay_1 : decode cX4_lay 1 = .ok (.iload_n 1, 1) := by decide +kernel
theorem dX4_lay_2 : decode cX4_lay 2 = .ok (.invokevirtual 160, 3) := by decide +kernel
theorem dX4_lay_5 : decode cX4_lay 5 = .ok (.ifCond .eq 10, 3) := by decide +kernel
theorem dX4_lay_8 : decode cX4_lay 8 = .ok (.iload_n 2, 1) := by decide +kernel
theorem dX4_lay_9 : decode cX4_lay 9 = .ok (.invokestatic 173, 3) := by decide +kernel
theorem dX4_lay_12 : decode cX4_lay 12 = .ok (.ifCond .ne 7, 3) := by decide +kernel
theorem dX4_lay_15 : decode cX4_lay 15 = .ok (.sipush (-10002), 3) := by decide +kernel
theorem dX4_lay_18 : decode cX4_lay 18 = .ok (.ireturn, 1) := by decide +kernel
theorem dX4_lay_19 : decode cX4_lay 19 = .ok (.iload_n 3, 1) := by decide +kernel
theorem dX4_lay_20 : decode cX4_lay 20 = .ok (.iload 4, 2) := by decide +kernel
theorem dX4_lay_22 : decode cX4_lay 22 = .ok (.invokestatic 176, 3) := by decide +kernel
theorem dX4_lay_25 : decode cX4_lay 25 = .ok (.ifCond .ne 7, 3) := by decide +kernel
theorem dX4_lay_28 : decode cX4_lay 28 = .ok (.sipush (-10003), 3) := by decide +kernel
theorem dX4_lay_31 : decode cX4_lay 31 = .ok (.ireturn, 1) := by decide +kernel
theorem dX4_lay_32 : decode cX4_lay 32 = .ok (.aload_n 0, 1) := by decide +kernel
theorem dX4_lay_33 : decode cX4_lay 33 = .ok (.invokevirtual 83, 3) := by decide +kernel
theorem dX4_lay_36 : decode cX4_lay 36 = .ok (.aload_n 0, 1) := by decide +kernel
theorem dX4_lay_37 : decode cX4_lay 37 = .ok (.iload_n 1, 1) := by decide +kernel
theorem dX4_lay_38 : decode cX4_lay 38 = .ok (.iload_n 2, 1) := by decide +kernel
theorem dX4_lay_39 : decode cX4_lay 39 = .ok (.iload_n 3, 1) := by decide +kernel
theorem dX4_lay_40 : decode cX4_lay 40 = .ok (.iload 4, 2) := by decide +kernel
theorem dX4_lay_42 : decode cX4_lay 42 = .ok (.invokevirtual 166, 3) := by decide +kernel
theorem dX4_lay_45 : decode cX4_lay 45 = .ok (.aload_n 0, 1) := by decide +kernel
theorem dX4_lay_46 : decode cX4_lay 46 = .ok (.invokevirtual 170, 3) := by decide +kernel
theorem dX4_lay_49 : decode cX4_lay 49 = .ok (.ireturn, 1) := by decide +kernel
theorem dX4_overBits_0 : decode cX4_overBits 0 = .ok (.iconst 0, 1) := by decide +kernel
theorem dX4_overBits_1 : decode cX4_overBits 1 = .ok (.istore_n 2, 1) := by decide +kernel
theorem dX4_overBits_2 : decode cX4_overBits 2 = .ok (.iconst 0, 1) := by decide +kernel
theorem dX4_overBits_3 : decode cX4_overBits 3 = .ok (.istore_n 3, 1) := by decide +kernel
theorem dX4_overBits_4 : decode cX4_overBits 4 = .ok (.iload_n 3, 1) := by decide +kernel
theorem dX4_overBits_5 : decode cX4_overBits 5 = .ok (.bipush 12, 2) := by decide +kernel
theorem dX4_overBits_7 : decode cX4_overBits 7 = .ok (.if_icmp .ge 28, 3) := by decide +kernel
theorem dX4_overBits_10 : decode cX4_overBits 10 = .ok (.iload_n 2, 1) := by decide +kernel
theorem dX4_overBits_11 : decode cX4_overBits 11 = .ok (.aload_n 0, 1) := by decide +kernel
theorem dX4_overBits_12 : decode cX4_overBits 12 = .ok (.iload_n 1, 1) := by decide +kernel
theorem dX4_overBits_13 : decode cX4_overBits 13 = .ok (.iload_n 3, 1) := by decide +kernel
theorem dX4_overBits_14 : decode cX4_overBits 14 = .ok (.invokevirtual 132, 3) := by decide +kernel
theorem dX4_overBits_17 : decode cX4_overBits 17 = .ok (.ifCond .eq 9, 3) := by decide +kernel
theorem dX4_overBits_20 : decode cX4_overBits 20 = .ok (.iconst 1, 1) := by decide +kernel
theorem dX4_overBits_21 : decode cX4_overBits 21 = .ok (.iload_n 3, 1) := by decide +kernel
theorem dX4_overBits_22 : decode cX4_overBits 22 = .ok (.ishl, 1) := by decide +kernel
theorem dX4_overBits_23 : decode cX4_overBits 23 = .ok (.goto 4, 3) := by decide +kernel
theorem dX4_overBits_26 : decode cX4_overBits 26 = .ok (.iconst 0, 1) := by decide +kernel
theorem dX4_overBits_27 : decode cX4_overBits 27 = .ok (.ior, 1) := by decide +kernel
theorem dX4_overBits_28 : decode cX4_overBits 28 = .ok (.istore_n 2, 1) := by decide +kernel
theorem dX4_overBits_29 : decode cX4_overBits 29 = .ok (.iinc 3 1, 3) := by decide +kernel
theorem dX4_overBits_32 : decode cX4_overBits 32 = .ok (.goto (-28), 3) := by decide +kernel
theorem dX4_overBits_35 : decode cX4_overBits 35 = .ok (.iload_n 2, 1) := by decide +kernel
theorem dX4_overBits_36 : decode cX4_overBits 36 = .ok (.ireturn, 1) := by decide +kernel
theorem dX4_ones_0 : decode cX4_ones 0 = .ok (.iconst 0, 1) := by decide +kernel
theorem dX4_ones_1 : decode cX4_ones 1 = .ok (.istore_n 1, 1) := by decide +kernel
theorem dX4_ones_2 : decode cX4_ones 2 = .ok (.iconst 0, 1) := by decide +kernel
theorem dX4_ones_3 : decode cX4_ones 3 = .ok (.istore_n 2, 1) := by decide +kernel
theorem dX4_ones_4 : decode cX4_ones 4 = .ok (.iload_n 2, 1) := by decide +kernel
theorem dX4_ones_5 : decode cX4_ones 5 = .ok (.bipush 12, 2) := by decide +kernel
theorem dX4_ones_7 : decode cX4_ones 7 = .ok (.if_icmp .ge 17, 3) := by decide +kernel
theorem dX4_ones_10 : decode cX4_ones 10 = .ok (.iload_n 1, 1) := by decide +kernel
theorem dX4_ones_11 : decode cX4_ones 11 = .ok (.iload_n 0, 1) := by decide +kernel
theorem dX4_ones_12 : decode cX4_ones 12 = .ok (.iload_n 2, 1) := by decide +kernel
theorem dX4_ones_13 : decode cX4_ones 13 = .ok (.ishr, 1) := by decide +kernel
theorem dX4_ones_14 : decode cX4_ones 14 = .ok (.iconst 1, 1) := by decide +kernel
theorem dX4_ones_15 : decode cX4_ones 15 = .ok (.iand, 1) := by decide +kernel
theorem dX4_ones_16 : decode cX4_ones 16 = .ok (.iadd, 1) := by decide +kernel
theorem dX4_ones_17 : decode cX4_ones 17 = .ok (.istore_n 1, 1) := by decide +kernel
theorem dX4_ones_18 : decode cX4_ones 18 = .ok (.iinc 2 1, 3) := by decide +kernel
theorem dX4_ones_21 : decode cX4_ones 21 = .ok (.goto (-17), 3) := by decide +kernel
theorem dX4_ones_24 : decode cX4_ones 24 = .ok (.iload_n 1, 1) := by decide +kernel
theorem dX4_ones_25 : decode cX4_ones 25 = .ok (.ireturn, 1) := by decide +kernel
theorem dX4_groupOf_0 : decode cX4_groupOf 0 = .ok (.iconst 1, 1) := by decide +kernel
theorem dX4_groupOf_1 : decode cX4_groupOf 1 = .ok (.iload_n 1, 1) := by decide +kernel
theorem dX4_groupOf_2 : decode cX4_groupOf 2 = .ok (.ishl, 1) := by decide +kernel
theorem dX4_groupOf_3 : decode cX4_groupOf 3 = .ok (.istore_n 2, 1) := by decide +kernel
theorem dX4_groupOf_4 : decode cX4_groupOf 4 = .ok (.iconst 0, 1) := by decide +kernel
theorem dX4_groupOf_5 : decode cX4_groupOf 5 = .ok (.istore_n 3, 1) := by decide +kernel
theorem dX4_groupOf_6 : decode cX4_groupOf 6 = .ok (.iload_n 3, 1) := by decide +kernel
theorem dX4_groupOf_7 : decode cX4_groupOf 7 = .ok (.iload_n 2, 1) := by decide +kernel
theorem dX4_groupOf_8 : decode cX4_groupOf 8 = .ok (.if_icmp .eq 46, 3) := by decide +kernel
theorem dX4_groupOf_11 : decode cX4_groupOf 11 = .ok (.iload_n 2, 1) := by decide +kernel
theorem dX4_groupOf_12 : decode cX4_groupOf 12 = .ok (.istore_n 3, 1) := by decide +kernel
theorem dX4_groupOf_13 : decode cX4_groupOf 13 = .ok (.iconst 0, 1) := by decide +kernel
theorem dX4_groupOf_14 : decode cX4_groupOf 14 = .ok (.istore 4, 2) := by decide +kernel
theorem dX4_groupOf_16 : decode cX4_groupOf 16 = .ok (.iload 4, 2) := by decide +kernel
theorem dX4_groupOf_18 : decode cX4_groupOf 18 = .ok (.bipush 12, 2) := by decide +kernel
theorem dX4_groupOf_20 : decode cX4_groupOf 20 = .ok (.if_icmp .ge 31, 3) := by decide +kernel
theorem dX4_groupOf_23 : decode cX4_groupOf 23 = .ok (.iload_n 2, 1) := by decide +kernel
theorem dX4_groupOf_24 : decode cX4_groupOf 24 = .ok (.iload_n 3, 1) := by decide +kernel
theorem dX4_groupOf_25 : decode cX4_groupOf 25 = .ok (.iload 4, 2) := by decide +kernel
theorem dX4_groupOf_27 : decode cX4_groupOf 27 = .ok (.invokestatic 86, 3) := by decide +kernel
theorem dX4_groupOf_30 : decode cX4_groupOf 30 = .ok (.ifCond .eq 12, 3) := by decide +kernel
theorem dX4_groupOf_33 : decode cX4_groupOf 33 = .ok (.aload_n 0, 1) := by decide +kernel
theorem dX4_groupOf_34 : decode cX4_groupOf 34 = .ok (.iload 4, 2) := by decide +kernel
theorem dX4_groupOf_36 : decode cX4_groupOf 36 = .ok (.invokevirtual 179, 3) := by decide +kernel
theorem dX4_groupOf_39 : decode cX4_groupOf 39 = .ok (.goto 4, 3) := by decide +kernel
theorem dX4_groupOf_42 : decode cX4_groupOf 42 = .ok (.iconst 0, 1) := by decide +kernel
theorem dX4_groupOf_43 : decode cX4_groupOf 43 = .ok (.ior, 1) := by decide +kernel
theorem dX4_groupOf_44 : decode cX4_groupOf 44 = .ok (.istore_n 2, 1) := by decide +kernel
theorem dX4_groupOf_45 : decode cX4_groupOf 45 = .ok (.iinc 4 1, 3) := by decide +kernel
theorem dX4_groupOf_48 : decode cX4_groupOf 48 = .ok (.goto (-32), 3) := by decide +kernel
theorem dX4_groupOf_51 : decode cX4_groupOf 51 = .ok (.goto (-45), 3) := by decide +kernel
theorem dX4_groupOf_54 : decode cX4_groupOf 54 = .ok (.iload_n 2, 1) := by decide +kernel
theorem dX4_groupOf_55 : decode cX4_groupOf 55 = .ok (.ireturn, 1) := by decide +kernel
theorem dX4_least_0 : decode cX4_least 0 = .ok (.iconst 0, 1) := by decide +kernel
theorem dX4_least_1 : decode cX4_least 1 = .ok (.istore_n 1, 1) := by decide +kernel
theorem dX4_least_2 : decode cX4_least 2 = .ok (.iload_n 0, 1) := by decide +kernel
theorem dX4_least_3 : decode cX4_least 3 = .ok (.iload_n 1, 1) := by decide +kernel
theorem dX4_least_4 : decode cX4_least 4 = .ok (.invokestatic 86, 3) := by decide +kernel
theorem dX4_least_7 : decode cX4_least 7 = .ok (.ifCond .ne 9, 3) := by decide +kernel
theorem dX4_least_10 : decode cX4_least 10 = .ok (.iinc 1 1, 3) := by decide +kernel
theorem dX4_least_13 : decode cX4_least 13 = .ok (.goto (-11), 3) := by decide +kernel
theorem dX4_least_16 : decode cX4_least 16 = .ok (.iload_n 1, 1) := by decide +kernel
theorem dX4_least_17 : decode cX4_least 17 = .ok (.ireturn, 1) := by decide +kernel
theorem dX4_boxNow_0 : decode cX4_boxNow 0 = .ok (.iload_n 2, 1) := by decide +kernel
theorem dX4_boxNow_1 : decode cX4_boxNow 1 = .ok (.tableswitch 51 6 8 #[27, 36, 42], 27) := by decide +kernel
theorem dX4_boxNow_28 : decode cX4_boxNow 28 = .ok (.aload_n 0, 1) := by decide +kernel
theorem dX4_boxNow_29 : decode cX4_boxNow 29 = .ok (.iload_n 1, 1) := by decide +kernel
theorem dX4_boxNow_30 : decode cX4_boxNow 30 = .ok (.invokevirtual 179, 3) := by decide +kernel
theorem dX4_boxNow_33 : decode cX4_boxNow 33 = .ok (.invokestatic 183, 3) := by decide +kernel
theorem dX4_boxNow_36 : decode cX4_boxNow 36 = .ok (.ireturn, 1) := by decide +kernel
theorem dX4_boxNow_37 : decode cX4_boxNow 37 = .ok (.aload_n 0, 1) := by decide +kernel
theorem dX4_boxNow_38 : decode cX4_boxNow 38 = .ok (.iload_n 1, 1) := by decide +kernel
theorem dX4_boxNow_39 : decode cX4_boxNow 39 = .ok (.invokevirtual 179, 3) := by decide +kernel
theorem dX4_boxNow_42 : decode cX4_boxNow 42 = .ok (.ireturn, 1) := by decide +kernel
theorem dX4_boxNow_43 : decode cX4_boxNow 43 = .ok (.aload_n 0, 1) := by decide +kernel
theorem dX4_boxNow_44 : decode cX4_boxNow 44 = .ok (.iload_n 1, 1) := by decide +kernel
theorem dX4_boxNow_45 : decode cX4_boxNow 45 = .ok (.invokevirtual 186, 3) := by decide +kernel
theorem dX4_boxNow_48 : decode cX4_boxNow 48 = .ok (.invokestatic 189, 3) := by decide +kernel
theorem dX4_boxNow_51 : decode cX4_boxNow 51 = .ok (.ireturn, 1) := by decide +kernel
theorem dX4_boxNow_52 : decode cX4_boxNow 52 = .ok (.aload_n 0, 1) := by decide +kernel
theorem dX4_boxNow_53 : decode cX4_boxNow 53 = .ok (.getfield 13, 3) := by decide +kernel
theorem dX4_boxNow_56 : decode cX4_boxNow 56 = .ok (.bipush 6, 2) := by decide +kernel
theorem dX4_boxNow_58 : decode cX4_boxNow 58 = .ok (.iload_n 1, 1) := by decide +kernel
theorem dX4_boxNow_59 : decode cX4_boxNow 59 = .ok (.imul, 1) := by decide +kernel
theorem dX4_boxNow_60 : decode cX4_boxNow 60 = .ok (.iload_n 2, 1) := by decide +kernel
theorem dX4_boxNow_61 : decode cX4_boxNow 61 = .ok (.iadd, 1) := by decide +kernel
theorem dX4_boxNow_62 : decode cX4_boxNow 62 = .ok (.iaload, 1) := by decide +kernel
theorem dX4_boxNow_63 : decode cX4_boxNow 63 = .ok (.ireturn, 1) := by decide +kernel
theorem dX4_box_0 : decode cX4_box 0 = .ok (.aload_n 0, 1) := by decide +kernel
theorem dX4_box_1 : decode cX4_box 1 = .ok (.iload_n 1, 1) := by decide +kernel
theorem dX4_box_2 : decode cX4_box 2 = .ok (.invokevirtual 160, 3) := by decide +kernel
theorem dX4_box_5 : decode cX4_box 5 = .ok (.ifCond .ne 7, 3) := by decide +kernel
theorem dX4_box_8 : decode cX4_box 8 = .ok (.sipush (-10002), 3) := by decide +kernel
theorem dX4_box_11 : decode cX4_box 11 = .ok (.ireturn, 1) := by decide +kernel
theorem dX4_box_12 : decode cX4_box 12 = .ok (.iload_n 2, 1) := by decide +kernel
theorem dX4_box_13 : decode cX4_box 13 = .ok (.iconst 0, 1) := by decide +kernel
theorem dX4_box_14 : decode cX4_box 14 = .ok (.bipush 8, 2) := by decide +kernel
theorem dX4_box_16 : decode cX4_box 16 = .ok (.invokestatic 41, 3) := by decide +kernel
theorem dX4_box_19 : decode cX4_box 19 = .ok (.ifCond .eq 12, 3) := by decide +kernel
theorem dX4_box_22 : decode cX4_box 22 = .ok (.aload_n 0, 1) := by decide +kernel
theorem dX4_box_23 : decode cX4_box 23 = .ok (.iload_n 1, 1) := by decide +kernel
theorem dX4_box_24 : decode cX4_box 24 = .ok (.iload_n 2, 1) := by decide +kernel
theorem dX4_box_25 : decode cX4_box 25 = .ok (.invokevirtual 192, 3) := by decide +kernel
theorem dX4_box_28 : decode cX4_box 28 = .ok (.goto 6, 3) := by decide +kernel
theorem dX4_box_31 : decode cX4_box 31 = .ok (.sipush (-10003), 3) := by decide +kernel
theorem dX4_box_34 : decode cX4_box 34 = .ok (.ireturn, 1) := by decide +kernel
theorem dX4_endNow_0 : decode cX4_endNow 0 = .ok (.aload_n 0, 1) := by decide +kernel
theorem dX4_endNow_1 : decode cX4_endNow 1 = .ok (.getfield 16, 3) := by decide +kernel
theorem dX4_endNow_4 : decode cX4_endNow 4 = .ok (.bipush 24, 2) := by decide +kernel
theorem dX4_endNow_6 : decode cX4_endNow 6 = .ok (.iload_n 1, 1) := by decide +kernel
theorem dX4_endNow_7 : decode cX4_endNow 7 = .ok (.imul, 1) := by decide +kernel
theorem dX4_endNow_8 : decode cX4_endNow 8 = .ok (.iload_n 2, 1) := by decide +kernel
theorem dX4_endNow_9 : decode cX4_endNow 9 = .ok (.iadd, 1) := by decide +kernel
theorem dX4_endNow_10 : decode cX4_endNow 10 = .ok (.iaload, 1) := by decide +kernel
theorem dX4_endNow_11 : decode cX4_endNow 11 = .ok (.istore 4, 2) := by decide +kernel
theorem dX4_endNow_13 : decode cX4_endNow 13 = .ok (.iload_n 3, 1) := by decide +kernel
theorem dX4_endNow_14 : decode cX4_endNow 14 = .ok (.ifCond .ne 10, 3) := by decide +kernel
theorem dX4_endNow_17 : decode cX4_endNow 17 = .ok (.iload 4, 2) := by decide +kernel
theorem dX4_endNow_19 : decode cX4_endNow 19 = .ok (.iconst 2, 1) := by decide +kernel
theorem dX4_endNow_20 : decode cX4_endNow 20 = .ok (.idiv, 1) := by decide +kernel
theorem dX4_endNow_21 : decode cX4_endNow 21 = .ok (.goto 22, 3) := by decide +kernel
theorem dX4_endNow_24 : decode cX4_endNow 24 = .ok (.iload_n 3, 1) := by decide +kernel
theorem dX4_endNow_25 : decode cX4_endNow 25 = .ok (.iconst 1, 1) := by decide +kernel
theorem dX4_endNow_26 : decode cX4_endNow 26 = .ok (.if_icmp .ne 10, 3) := by decide +kernel
theorem dX4_endNow_29 : decode cX4_endNow 29 = .ok (.iload 4, 2) := by decide +kernel
theorem dX4_endNow_31 : decode cX4_endNow 31 = .ok (.iconst 2, 1) := by decide +kernel
theorem dX4_endNow_32 : decode cX4_endNow 32 = .ok (.irem, 1) := by decide +kernel
theorem dX4_endNow_33 : decode cX4_endNow 33 = .ok (.goto 10, 3) := by decide +kernel
theorem dX4_endNow_36 : decode cX4_endNow 36 = .ok (.aload_n 0, 1) := by decide +kernel
theorem dX4_endNow_37 : decode cX4_endNow 37 = .ok (.iload 4, 2) := by decide +kernel
theorem dX4_endNow_39 : decode cX4_endNow 39 = .ok (.iload_n 1, 1) := by decide +kernel
theorem dX4_endNow_40 : decode cX4_endNow 40 = .ok (.invokevirtual 97, 3) := by decide +kernel
theorem dX4_endNow_43 : decode cX4_endNow 43 = .ok (.ireturn, 1) := by decide +kernel
theorem dX4_end_0 : decode cX4_end 0 = .ok (.iload_n 1, 1) := by decide +kernel
theorem dX4_end_1 : decode cX4_end 1 = .ok (.invokestatic 173, 3) := by decide +kernel
theorem dX4_end_4 : decode cX4_end 4 = .ok (.ifCond .eq 17, 3) := by decide +kernel
theorem dX4_end_7 : decode cX4_end 7 = .ok (.iload_n 2, 1) := by decide +kernel
theorem dX4_end_8 : decode cX4_end 8 = .ok (.iconst 0, 1) := by decide +kernel
theorem dX4_end_9 : decode cX4_end 9 = .ok (.aload_n 0, 1) := by decide +kernel
theorem dX4_end_10 : decode cX4_end 10 = .ok (.getfield 110, 3) := by decide +kernel
theorem dX4_end_13 : decode cX4_end 13 = .ok (.iconst 1, 1) := by decide +kernel
theorem dX4_end_14 : decode cX4_end 14 = .ok (.isub, 1) := by decide +kernel
theorem dX4_end_15 : decode cX4_end 15 = .ok (.invokestatic 41, 3) := by decide +kernel
theorem dX4_end_18 : decode cX4_end 18 = .ok (.ifCond .ne 7, 3) := by decide +kernel
theorem dX4_end_21 : decode cX4_end 21 = .ok (.sipush (-10002), 3) := by decide +kernel
theorem dX4_end_24 : decode cX4_end 24 = .ok (.ireturn, 1) := by decide +kernel
theorem dX4_end_25 : decode cX4_end 25 = .ok (.iload_n 3, 1) := by decide +kernel
theorem dX4_end_26 : decode cX4_end 26 = .ok (.iconst 0, 1) := by decide +kernel
theorem dX4_end_27 : decode cX4_end 27 = .ok (.iconst 2, 1) := by decide +kernel
theorem dX4_end_28 : decode cX4_end 28 = .ok (.invokestatic 41, 3) := by decide +kernel
theorem dX4_end_31 : decode cX4_end 31 = .ok (.ifCond .eq 13, 3) := by decide +kernel
theorem dX4_end_34 : decode cX4_end 34 = .ok (.aload_n 0, 1) := by decide +kernel
theorem dX4_end_35 : decode cX4_end 35 = .ok (.iload_n 1, 1) := by decide +kernel
theorem dX4_end_36 : decode cX4_end 36 = .ok (.iload_n 2, 1) := by decide +kernel
theorem dX4_end_37 : decode cX4_end 37 = .ok (.iload_n 3, 1) := by decide +kernel
theorem dX4_end_38 : decode cX4_end 38 = .ok (.invokevirtual 195, 3) := by decide +kernel
theorem dX4_end_41 : decode cX4_end 41 = .ok (.goto 6, 3) := by decide +kernel
theorem dX4_end_44 : decode cX4_end 44 = .ok (.sipush (-10003), 3) := by decide +kernel
theorem dX4_end_47 : decode cX4_end 47 = .ok (.ireturn, 1) := by decide +kernel
theorem dX4_meet_0 : decode cX4_meet 0 = .ok (.aload_n 0, 1) := by decide +kernel
theorem dX4_meet_1 : decode cX4_meet 1 = .ok (.iload_n 1, 1) := by decide +kernel
theorem dX4_meet_2 : decode cX4_meet 2 = .ok (.invokevirtual 160, 3) := by decide +kernel
theorem dX4_meet_5 : decode cX4_meet 5 = .ok (.ifCond .eq 33, 3) := by decide +kernel
theorem dX4_meet_8 : decode cX4_meet 8 = .ok (.aload_n 0, 1) := by decide +kernel
theorem dX4_meet_9 : decode cX4_meet 9 = .ok (.iload_n 2, 1) := by decide +kernel
theorem dX4_meet_10 : decode cX4_meet 10 = .ok (.invokevirtual 160, 3) := by decide +kernel
theorem dX4_meet_13 : decode cX4_meet 13 = .ok (.ifCond .eq 25, 3) := by decide +kernel
theorem dX4_meet_16 : decode cX4_meet 16 = .ok (.iload_n 1, 1) := by decide +kernel
theorem dX4_meet_17 : decode cX4_meet 17 = .ok (.iload_n 2, 1) := by decide +kernel
theorem dX4_meet_18 : decode cX4_meet 18 = .ok (.if_icmp .eq 20, 3) := by decide +kernel
theorem dX4_meet_21 : decode cX4_meet 21 = .ok (.aload_n 0, 1) := by decide +kernel
theorem dX4_meet_22 : decode cX4_meet 22 = .ok (.getfield 19, 3) := by decide +kernel
theorem dX4_meet_25 : decode cX4_meet 25 = .ok (.bipush 12, 2) := by decide +kernel
theorem dX4_meet_27 : decode cX4_meet 27 = .ok (.iload_n 1, 1) := by decide +kernel
theorem dX4_meet_28 : decode cX4_meet 28 = .ok (.imul, 1) := by decide +kernel
theorem dX4_meet_29 : decode cX4_meet 29 = .ok (.iload_n 2, 1) := by decide +kernel
theorem dX4_meet_30 : decode cX4_meet 30 = .ok (.iadd, 1) := by decide +kernel
theorem dX4_meet_31 : decode cX4_meet 31 = .ok (.iaload, 1) := by decide +kernel
theorem dX4_meet_32 : decode cX4_meet 32 = .ok (.invokestatic 183, 3) := by decide +kernel
theorem dX4_meet_35 : decode cX4_meet 35 = .ok (.goto 6, 3) := by decide +kernel
theorem dX4_meet_38 : decode cX4_meet 38 = .ok (.sipush (-10002), 3) := by decide +kernel
theorem dX4_meet_41 : decode cX4_meet 41 = .ok (.ireturn, 1) := by decide +kernel
theorem dX4_layPairs_0 : decode cX4_layPairs 0 = .ok (.aload_n 0, 1) := by decide +kernel
theorem dX4_layPairs_1 : decode cX4_layPairs 1 = .ok (.iconst 0, 1) := by decide +kernel
theorem dX4_layPairs_2 : decode cX4_layPairs 2 = .ok (.putfield 199, 3) := by decide +kernel
theorem dX4_layPairs_5 : decode cX4_layPairs 5 = .ok (.iconst 0, 1) := by decide +kernel
theorem dX4_layPairs_6 : decode cX4_layPairs 6 = .ok (.istore_n 1, 1) := by decide +kernel
theorem dX4_layPairs_7 : decode cX4_layPairs 7 = .ok (.iload_n 1, 1) := by decide +kernel
theorem dX4_layPairs_8 : decode cX4_layPairs 8 = .ok (.bipush 12, 2) := by decide +kernel
theorem dX4_layPairs_10 : decode cX4_layPairs 10 = .ok (.if_icmp .ge 59, 3) := by decide +kernel
theorem dX4_layPairs_13 : decode cX4_layPairs 13 = .ok (.iload_n 1, 1) := by decide +kernel
theorem dX4_layPairs_14 : decode cX4_layPairs 14 = .ok (.iconst 1, 1) := by decide +kernel
theorem dX4_layPairs_15 : decode cX4_layPairs 15 = .ok (.iadd, 1) := by decide +kernel
theorem dX4_layPairs_16 : decode cX4_layPairs 16 = .ok (.istore_n 2, 1) := by decide +kernel
theorem dX4_layPairs_17 : decode cX4_layPairs 17 = .ok (.iload_n 2, 1) := by decide +kernel
theorem dX4_layPairs_18 : decode cX4_layPairs 18 = .ok (.bipush 12, 2) := by decide +kernel
theorem dX4_layPairs_20 : decode cX4_layPairs 20 = .ok (.if_icmp .ge 43, 3) := by decide +kernel
theorem dX4_layPairs_23 : decode cX4_layPairs 23 = .ok (.aload_n 0, 1) := by decide +kernel
theorem dX4_layPairs_24 : decode cX4_layPairs 24 = .ok (.iload_n 1, 1) := by decide +kernel
theorem dX4_layPairs_25 : decode cX4_layPairs 25 = .ok (.iload_n 2, 1) := by decide +kernel
theorem dX4_layPairs_26 : decode cX4_layPairs 26 = .ok (.invokevirtual 132, 3) := by decide +kernel
theorem dX4_layPairs_29 : decode cX4_layPairs 29 = .ok (.ifCond .eq 28, 3) := by decide +kernel
theorem dX4_layPairs_32 : decode cX4_layPairs 32 = .ok (.aload_n 0, 1) := by decide +kernel
theorem dX4_layPairs_33 : decode cX4_layPairs 33 = .ok (.getfield 38, 3) := by decide +kernel
theorem dX4_layPairs_36 : decode cX4_layPairs 36 = .ok (.aload_n 0, 1) := by decide +kernel
theorem dX4_layPairs_37 : decode cX4_layPairs 37 = .ok (.getfield 199, 3) := by decide +kernel
theorem dX4_layPairs_40 : decode cX4_layPairs 40 = .ok (.bipush 12, 2) := by decide +kernel
theorem dX4_layPairs_42 : decode cX4_layPairs 42 = .ok (.iload_n 1, 1) := by decide +kernel
theorem dX4_layPairs_43 : decode cX4_layPairs 43 = .ok (.imul, 1) := by decide +kernel
theorem dX4_layPairs_44 : decode cX4_layPairs 44 = .ok (.iload_n 2, 1) := by decide +kernel
theorem dX4_layPairs_45 : decode cX4_layPairs 45 = .ok (.iadd, 1) := by decide +kernel
theorem dX4_layPairs_46 : decode cX4_layPairs 46 = .ok (.iastore, 1) := by decide +kernel
theorem dX4_layPairs_47 : decode cX4_layPairs 47 = .ok (.aload_n 0, 1) := by decide +kernel
theorem dX4_layPairs_48 : decode cX4_layPairs 48 = .ok (.dup, 1) := by decide +kernel
theorem dX4_layPairs_49 : decode cX4_layPairs 49 = .ok (.getfield 199, 3) := by decide +kernel
theorem dX4_layPairs_52 : decode cX4_layPairs 52 = .ok (.iconst 1, 1) := by decide +kernel
theorem dX4_layPairs_53 : decode cX4_layPairs 53 = .ok (.iadd, 1) := by decide +kernel
theorem dX4_layPairs_54 : decode cX4_layPairs 54 = .ok (.putfield 199, 3) := by decide +kernel
theorem dX4_layPairs_57 : decode cX4_layPairs 57 = .ok (.iinc 2 1, 3) := by decide +kernel
theorem dX4_layPairs_60 : decode cX4_layPairs 60 = .ok (.goto (-43), 3) := by decide +kernel
theorem dX4_layPairs_63 : decode cX4_layPairs 63 = .ok (.iinc 1 1, 3) := by decide +kernel
theorem dX4_layPairs_66 : decode cX4_layPairs 66 = .ok (.goto (-59), 3) := by decide +kernel
theorem dX4_layPairs_69 : decode cX4_layPairs 69 = .ok (.return_, 1) := by decide +kernel
