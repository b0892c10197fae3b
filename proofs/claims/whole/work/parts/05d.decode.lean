theorem dX9_orders_128 : decode cX9_orders 128 = .ok (.iadd, 1) := by decide +kernel
theorem dX9_orders_129 : decode cX9_orders 129 = .ok (.laload, 1) := by decide +kernel
theorem dX9_orders_130 : decode cX9_orders 130 = .ok (.ladd, 1) := by decide +kernel
theorem dX9_orders_131 : decode cX9_orders 131 = .ok (.lastore, 1) := by decide +kernel
theorem dX9_orders_132 : decode cX9_orders 132 = .ok (.iinc 7 1, 3) := by decide +kernel
theorem dX9_orders_135 : decode cX9_orders 135 = .ok (.goto (-56), 3) := by decide +kernel
theorem dX9_orders_138 : decode cX9_orders 138 = .ok (.iinc 6 1, 3) := by decide +kernel
theorem dX9_orders_141 : decode cX9_orders 141 = .ok (.goto (-71), 3) := by decide +kernel
theorem dX9_orders_144 : decode cX9_orders 144 = .ok (.iload 5, 2) := by decide +kernel
theorem dX9_orders_146 : decode cX9_orders 146 = .ok (.iload_n 2, 1) := by decide +kernel
theorem dX9_orders_147 : decode cX9_orders 147 = .ok (.if_icmp .ge 8, 3) := by decide +kernel
theorem dX9_orders_150 : decode cX9_orders 150 = .ok (.aload_n 0, 1) := by decide +kernel
theorem dX9_orders_151 : decode cX9_orders 151 = .ok (.iload_n 1, 1) := by decide +kernel
theorem dX9_orders_152 : decode cX9_orders 152 = .ok (.invokevirtual 282, 3) := by decide +kernel
theorem dX9_orders_155 : decode cX9_orders 155 = .ok (.iinc 5 1, 3) := by decide +kernel
theorem dX9_orders_158 : decode cX9_orders 158 = .ok (.goto (-97), 3) := by decide +kernel
theorem dX9_orders_161 : decode cX9_orders 161 = .ok (.aload_n 0, 1) := by decide +kernel
theorem dX9_orders_162 : decode cX9_orders 162 = .ok (.getfield 71, 3) := by decide +kernel
theorem dX9_orders_165 : decode cX9_orders 165 = .ok (.bipush 96, 2) := by decide +kernel
theorem dX9_orders_167 : decode cX9_orders 167 = .ok (.iload_n 1, 1) := by decide +kernel
theorem dX9_orders_168 : decode cX9_orders 168 = .ok (.imul, 1) := by decide +kernel
theorem dX9_orders_169 : decode cX9_orders 169 = .ok (.iload 4, 2) := by decide +kernel
theorem dX9_orders_171 : decode cX9_orders 171 = .ok (.iadd, 1) := by decide +kernel
theorem dX9_orders_172 : decode cX9_orders 172 = .ok (.laload, 1) := by decide +kernel
theorem dX9_orders_173 : decode cX9_orders 173 = .ok (.lreturn, 1) := by decide +kernel
theorem dX9_raise_0 : decode cX9_raise 0 = .ok (.iconst 0, 1) := by decide +kernel
theorem dX9_raise_1 : decode cX9_raise 1 = .ok (.istore_n 2, 1) := by decide +kernel
theorem dX9_raise_2 : decode cX9_raise 2 = .ok (.iload_n 2, 1) := by decide +kernel
theorem dX9_raise_3 : decode cX9_raise 3 = .ok (.iload_n 1, 1) := by decide +kernel
theorem dX9_raise_4 : decode cX9_raise 4 = .ok (.if_icmp .gt 56, 3) := by decide +kernel
theorem dX9_raise_7 : decode cX9_raise 7 = .ok (.bipush 95, 2) := by decide +kernel
theorem dX9_raise_9 : decode cX9_raise 9 = .ok (.istore_n 3, 1) := by decide +kernel
theorem dX9_raise_10 : decode cX9_raise 10 = .ok (.iload_n 3, 1) := by decide +kernel
theorem dX9_raise_11 : decode cX9_raise 11 = .ok (.ifCond .le 33, 3) := by decide +kernel
theorem dX9_raise_14 : decode cX9_raise 14 = .ok (.aload_n 0, 1) := by decide +kernel
theorem dX9_raise_15 : decode cX9_raise 15 = .ok (.getfield 71, 3) := by decide +kernel
theorem dX9_raise_18 : decode cX9_raise 18 = .ok (.bipush 96, 2) := by decide +kernel
theorem dX9_raise_20 : decode cX9_raise 20 = .ok (.iload_n 2, 1) := by decide +kernel
theorem dX9_raise_21 : decode cX9_raise 21 = .ok (.imul, 1) := by decide +kernel
theorem dX9_raise_22 : decode cX9_raise 22 = .ok (.iload_n 3, 1) := by decide +kernel
theorem dX9_raise_23 : decode cX9_raise 23 = .ok (.iadd, 1) := by decide +kernel
theorem dX9_raise_24 : decode cX9_raise 24 = .ok (.aload_n 0, 1) := by decide +kernel
theorem dX9_raise_25 : decode cX9_raise 25 = .ok (.getfield 71, 3) := by decide +kernel
theorem dX9_raise_28 : decode cX9_raise 28 = .ok (.bipush 96, 2) := by decide +kernel
theorem dX9_raise_30 : decode cX9_raise 30 = .ok (.iload_n 2, 1) := by decide +kernel
theorem dX9_raise_31 : decode cX9_raise 31 = .ok (.imul, 1) := by decide +kernel
theorem dX9_raise_32 : decode cX9_raise 32 = .ok (.iload_n 3, 1) := by decide +kernel
theorem dX9_raise_33 : decode cX9_raise 33 = .ok (.iadd, 1) := by decide +kernel
theorem dX9_raise_34 : decode cX9_raise 34 = .ok (.iconst 1, 1) := by decide +kernel
theorem dX9_raise_35 : decode cX9_raise 35 = .ok (.isub, 1) := by decide +kernel
theorem dX9_raise_36 : decode cX9_raise 36 = .ok (.laload, 1) := by decide +kernel
theorem dX9_raise_37 : decode cX9_raise 37 = .ok (.lastore, 1) := by decide +kernel
theorem dX9_raise_38 : decode cX9_raise 38 = .ok (.iinc 3 (-1), 3) := by decide +kernel
theorem dX9_raise_41 : decode cX9_raise 41 = .ok (.goto (-31), 3) := by decide +kernel
theorem dX9_raise_44 : decode cX9_raise 44 = .ok (.aload_n 0, 1) := by decide +kernel
theorem dX9_raise_45 : decode cX9_raise 45 = .ok (.getfield 71, 3) := by decide +kernel
theorem dX9_raise_48 : decode cX9_raise 48 = .ok (.bipush 96, 2) := by decide +kernel
theorem dX9_raise_50 : decode cX9_raise 50 = .ok (.iload_n 2, 1) := by decide +kernel
theorem dX9_raise_51 : decode cX9_raise 51 = .ok (.imul, 1) := by decide +kernel
theorem dX9_raise_52 : decode cX9_raise 52 = .ok (.lconst 0, 1) := by decide +kernel
theorem dX9_raise_53 : decode cX9_raise 53 = .ok (.lastore, 1) := by decide +kernel
theorem dX9_raise_54 : decode cX9_raise 54 = .ok (.iinc 2 1, 3) := by decide +kernel
theorem dX9_raise_57 : decode cX9_raise 57 = .ok (.goto (-55), 3) := by decide +kernel
theorem dX9_raise_60 : decode cX9_raise 60 = .ok (.return_, 1) := by decide +kernel
theorem dX9_left_0 : decode cX9_left 0 = .ok (.iload_n 1, 1) := by decide +kernel
theorem dX9_left_1 : decode cX9_left 1 = .ok (.iload_n 2, 1) := by decide +kernel
theorem dX9_left_2 : decode cX9_left 2 = .ok (.iload_n 3, 1) := by decide +kernel
theorem dX9_left_3 : decode cX9_left 3 = .ok (.invokestatic 274, 3) := by decide +kernel
theorem dX9_left_6 : decode cX9_left 6 = .ok (.ifCond .eq 14, 3) := by decide +kernel
theorem dX9_left_9 : decode cX9_left 9 = .ok (.iload 4, 2) := by decide +kernel
theorem dX9_left_11 : decode cX9_left 11 = .ok (.i2l, 1) := by decide +kernel
theorem dX9_left_12 : decode cX9_left 12 = .ok (.lconst 0, 1) := by decide +kernel
theorem dX9_left_13 : decode cX9_left 13 = .ok (.lconst 1, 1) := by decide +kernel
theorem dX9_left_14 : decode cX9_left 14 = .ok (.invokestatic 101, 3) := by decide +kernel
theorem dX9_left_17 : decode cX9_left 17 = .ok (.ifCond .ne 6, 3) := by decide +kernel
theorem dX9_left_20 : decode cX9_left 20 = .ok (.bipush (-2), 2) := by decide +kernel
theorem dX9_left_22 : decode cX9_left 22 = .ok (.ireturn, 1) := by decide +kernel
theorem dX9_left_23 : decode cX9_left 23 = .ok (.iload 4, 2) := by decide +kernel
theorem dX9_left_25 : decode cX9_left 25 = .ok (.ifCond .ne 20, 3) := by decide +kernel
theorem dX9_left_28 : decode cX9_left 28 = .ok (.iload_n 3, 1) := by decide +kernel
theorem dX9_left_29 : decode cX9_left 29 = .ok (.iload_n 2, 1) := by decide +kernel
theorem dX9_left_30 : decode cX9_left 30 = .ok (.iadd, 1) := by decide +kernel
theorem dX9_left_31 : decode cX9_left 31 = .ok (.iload_n 1, 1) := by decide +kernel
theorem dX9_left_32 : decode cX9_left 32 = .ok (.if_icmp .le 11, 3) := by decide +kernel
theorem dX9_left_35 : decode cX9_left 35 = .ok (.iload_n 3, 1) := by decide +kernel
theorem dX9_left_36 : decode cX9_left 36 = .ok (.iload_n 2, 1) := by decide +kernel
theorem dX9_left_37 : decode cX9_left 37 = .ok (.iadd, 1) := by decide +kernel
theorem dX9_left_38 : decode cX9_left 38 = .ok (.iload_n 1, 1) := by decide +kernel
theorem dX9_left_39 : decode cX9_left 39 = .ok (.isub, 1) := by decide +kernel
theorem dX9_left_40 : decode cX9_left 40 = .ok (.goto 4, 3) := by decide +kernel
theorem dX9_left_43 : decode cX9_left 43 = .ok (.iconst 0, 1) := by decide +kernel
theorem dX9_left_44 : decode cX9_left 44 = .ok (.ireturn, 1) := by decide +kernel
theorem dX9_left_45 : decode cX9_left 45 = .ok (.iload_n 3, 1) := by decide +kernel
theorem dX9_left_46 : decode cX9_left 46 = .ok (.iload_n 1, 1) := by decide +kernel
theorem dX9_left_47 : decode cX9_left 47 = .ok (.if_icmp .le 9, 3) := by decide +kernel
theorem dX9_left_50 : decode cX9_left 50 = .ok (.iload_n 3, 1) := by decide +kernel
theorem dX9_left_51 : decode cX9_left 51 = .ok (.iload_n 1, 1) := by decide +kernel
theorem dX9_left_52 : decode cX9_left 52 = .ok (.isub, 1) := by decide +kernel
theorem dX9_left_53 : decode cX9_left 53 = .ok (.goto 4, 3) := by decide +kernel
theorem dX9_left_56 : decode cX9_left 56 = .ok (.iconst 0, 1) := by decide +kernel
theorem dX9_left_57 : decode cX9_left 57 = .ok (.iload_n 2, 1) := by decide +kernel
theorem dX9_left_58 : decode cX9_left 58 = .ok (.iadd, 1) := by decide +kernel
theorem dX9_left_59 : decode cX9_left 59 = .ok (.ireturn, 1) := by decide +kernel
theorem dX9_goChance_0 : decode cX9_goChance 0 = .ok (.iconst 0, 1) := by decide +kernel
theorem dX9_goChance_1 : decode cX9_goChance 1 = .ok (.istore 4, 2) := by decide +kernel
theorem dX9_goChance_3 : decode cX9_goChance 3 = .ok (.iload 4, 2) := by decide +kernel
theorem dX9_goChance_5 : decode cX9_goChance 5 = .ok (.bipush 96, 2) := by decide +kernel
theorem dX9_goChance_7 : decode cX9_goChance 7 = .ok (.if_icmp .ge 27, 3) := by decide +kernel
theorem dX9_goChance_10 : decode cX9_goChance 10 = .ok (.aload_n 0, 1) := by decide +kernel
theorem dX9_goChance_11 : decode cX9_goChance 11 = .ok (.getfield 64, 3) := by decide +kernel
theorem dX9_goChance_14 : decode cX9_goChance 14 = .ok (.iload 4, 2) := by decide +kernel
theorem dX9_goChance_16 : decode cX9_goChance 16 = .ok (.iload 4, 2) := by decide +kernel
theorem dX9_goChance_18 : decode cX9_goChance 18 = .ok (.iload_n 1, 1) := by decide +kernel
theorem dX9_goChance_19 : decode cX9_goChance 19 = .ok (.if_icmp .ne 7, 3) := by decide +kernel
theorem dX9_goChance_22 : decode cX9_goChance 22 = .ok (.lconst 1, 1) := by decide +kernel
theorem dX9_goChance_23 : decode cX9_goChance 23 = .ok (.goto 4, 3) := by decide +kernel
theorem dX9_goChance_26 : decode cX9_goChance 26 = .ok (.lconst 0, 1) := by decide +kernel
theorem dX9_goChance_27 : decode cX9_goChance 27 = .ok (.lastore, 1) := by decide +kernel
theorem dX9_goChance_28 : decode cX9_goChance 28 = .ok (.iinc 4 1, 3) := by decide +kernel
theorem dX9_goChance_31 : decode cX9_goChance 31 = .ok (.goto (-28), 3) := by decide +kernel
theorem dX9_goChance_34 : decode cX9_goChance 34 = .ok (.iconst 0, 1) := by decide +kernel
theorem dX9_goChance_35 : decode cX9_goChance 35 = .ok (.istore 4, 2) := by decide +kernel
theorem dX9_goChance_37 : decode cX9_goChance 37 = .ok (.iload 4, 2) := by decide +kernel
theorem dX9_goChance_39 : decode cX9_goChance 39 = .ok (.iload_n 2, 1) := by decide +kernel
theorem dX9_goChance_40 : decode cX9_goChance 40 = .ok (.if_icmp .ge 129, 3) := by decide +kernel
theorem dX9_goChance_43 : decode cX9_goChance 43 = .ok (.iconst 0, 1) := by decide +kernel
theorem dX9_goChance_44 : decode cX9_goChance 44 = .ok (.istore 5, 2) := by decide +kernel
theorem dX9_goChance_46 : decode cX9_goChance 46 = .ok (.iload 5, 2) := by decide +kernel
theorem dX9_goChance_48 : decode cX9_goChance 48 = .ok (.bipush 96, 2) := by decide +kernel
theorem dX9_goChance_50 : decode cX9_goChance 50 = .ok (.if_icmp .ge 83, 3) := by decide +kernel
theorem dX9_goChance_53 : decode cX9_goChance 53 = .ok (.aload_n 0, 1) := by decide +kernel
theorem dX9_goChance_54 : decode cX9_goChance 54 = .ok (.getfield 68, 3) := by decide +kernel
theorem dX9_goChance_57 : decode cX9_goChance 57 = .ok (.iload 5, 2) := by decide +kernel
theorem dX9_goChance_59 : decode cX9_goChance 59 = .ok (.iload 5, 2) := by decide +kernel
theorem dX9_goChance_61 : decode cX9_goChance 61 = .ok (.ifCond .le 21, 3) := by decide +kernel
theorem dX9_goChance_64 : decode cX9_goChance 64 = .ok (.aload_n 0, 1) := by decide +kernel
theorem dX9_goChance_65 : decode cX9_goChance 65 = .ok (.getfield 64, 3) := by decide +kernel
theorem dX9_goChance_68 : decode cX9_goChance 68 = .ok (.iload 5, 2) := by decide +kernel
theorem dX9_goChance_70 : decode cX9_goChance 70 = .ok (.iconst 1, 1) := by decide +kernel
theorem dX9_goChance_71 : decode cX9_goChance 71 = .ok (.isub, 1) := by decide +kernel
theorem dX9_goChance_72 : decode cX9_goChance 72 = .ok (.laload, 1) := by decide +kernel
theorem dX9_goChance_73 : decode cX9_goChance 73 = .ok (.bipush 10, 2) := by decide +kernel
theorem dX9_goChance_75 : decode cX9_goChance 75 = .ok (.iload_n 3, 1) := by decide +kernel
theorem dX9_goChance_76 : decode cX9_goChance 76 = .ok (.isub, 1) := by decide +kernel
theorem dX9_goChance_77 : decode cX9_goChance 77 = .ok (.i2l, 1) := by decide +kernel
theorem dX9_goChance_78 : decode cX9_goChance 78 = .ok (.lmul, 1) := by decide +kernel
theorem dX9_goChance_79 : decode cX9_goChance 79 = .ok (.goto 12, 3) := by decide +kernel
theorem dX9_goChance_82 : decode cX9_goChance 82 = .ok (.aload_n 0, 1) := by decide +kernel
theorem dX9_goChance_83 : decode cX9_goChance 83 = .ok (.getfield 64, 3) := by decide +kernel
theorem dX9_goChance_86 : decode cX9_goChance 86 = .ok (.iconst 0, 1) := by decide +kernel
theorem dX9_goChance_87 : decode cX9_goChance 87 = .ok (.laload, 1) := by decide +kernel
theorem dX9_goChance_88 : decode cX9_goChance 88 = .ok (.iload_n 3, 1) := by decide +kernel
theorem dX9_goChance_89 : decode cX9_goChance 89 = .ok (.i2l, 1) := by decide +kernel
theorem dX9_goChance_90 : decode cX9_goChance 90 = .ok (.lmul, 1) := by decide +kernel
theorem dX9_goChance_91 : decode cX9_goChance 91 = .ok (.lastore, 1) := by decide +kernel
theorem dX9_goChance_92 : decode cX9_goChance 92 = .ok (.aload_n 0, 1) := by decide +kernel
theorem dX9_goChance_93 : decode cX9_goChance 93 = .ok (.getfield 68, 3) := by decide +kernel
theorem dX9_goChance_96 : decode cX9_goChance 96 = .ok (.iload 5, 2) := by decide +kernel
theorem dX9_goChance_98 : decode cX9_goChance 98 = .ok (.dup2, 1) := by decide +kernel
theorem dX9_goChance_99 : decode cX9_goChance 99 = .ok (.laload, 1) := by decide +kernel
theorem dX9_goChance_100 : decode cX9_goChance 100 = .ok (.iload 5, 2) := by decide +kernel
theorem dX9_goChance_102 : decode cX9_goChance 102 = .ok (.iconst 1, 1) := by decide +kernel
theorem dX9_goChance_103 : decode cX9_goChance 103 = .ok (.iadd, 1) := by decide +kernel
theorem dX9_goChance_104 : decode cX9_goChance 104 = .ok (.bipush 96, 2) := by decide +kernel
theorem dX9_goChance_106 : decode cX9_goChance 106 = .ok (.if_icmp .ge 18, 3) := by decide +kernel
theorem dX9_goChance_109 : decode cX9_goChance 109 = .ok (.aload_n 0, 1) := by decide +kernel
theorem dX9_goChance_110 : decode cX9_goChance 110 = .ok (.getfield 64, 3) := by decide +kernel
theorem dX9_goChance_113 : decode cX9_goChance 113 = .ok (.iload 5, 2) := by decide +kernel
theorem dX9_goChance_115 : decode cX9_goChance 115 = .ok (.iconst 1, 1) := by decide +kernel
theorem dX9_goChance_116 : decode cX9_goChance 116 = .ok (.iadd, 1) := by decide +kernel
theorem dX9_goChance_117 : decode cX9_goChance 117 = .ok (.laload, 1) := by decide +kernel
theorem dX9_goChance_118 : decode cX9_goChance 118 = .ok (.iload_n 3, 1) := by decide +kernel
theorem dX9_goChance_119 : decode cX9_goChance 119 = .ok (.i2l, 1) := by decide +kernel
theorem dX9_goChance_120 : decode cX9_goChance 120 = .ok (.lmul, 1) := by decide +kernel
theorem dX9_goChance_121 : decode cX9_goChance 121 = .ok (.goto 4, 3) := by decide +kernel
theorem dX9_goChance_124 : decode cX9_goChance 124 = .ok (.lconst 0, 1) := by decide +kernel
theorem dX9_goChance_125 : decode cX9_goChance 125 = .ok (.ladd, 1) := by decide +kernel
theorem dX9_goChance_126 : decode cX9_goChance 126 = .ok (.lastore, 1) := by decide +kernel
theorem dX9_goChance_127 : decode cX9_goChance 127 = .ok (.iinc 5 1, 3) := by decide +kernel
theorem dX9_goChance_130 : decode cX9_goChance 130 = .ok (.goto (-84), 3) := by decide +kernel
theorem dX9_goChance_133 : decode cX9_goChance 133 = .ok (.iconst 0, 1) := by decide +kernel
theorem dX9_goChance_134 : decode cX9_goChance 134 = .ok (.istore 5, 2) := by decide +kernel
theorem dX9_goChance_136 : decode cX9_goChance 136 = .ok (.iload 5, 2) := by decide +kernel
theorem dX9_goChance_138 : decode cX9_goChance 138 = .ok (.bipush 96, 2) := by decide +kernel
theorem dX9_goChance_140 : decode cX9_goChance 140 = .ok (.if_icmp .ge 23, 3) := by decide +kernel
theorem dX9_goChance_143 : decode cX9_goChance 143 = .ok (.aload_n 0, 1) := by decide +kernel
theorem dX9_goChance_144 : decode cX9_goChance 144 = .ok (.getfield 64, 3) := by decide +kernel
theorem dX9_goChance_147 : decode cX9_goChance 147 = .ok (.iload 5, 2) := by decide +kernel
theorem dX9_goChance_149 : decode cX9_goChance 149 = .ok (.aload_n 0, 1) := by decide +kernel
theorem dX9_goChance_150 : decode cX9_goChance 150 = .ok (.getfield 68, 3) := by decide +kernel
theorem dX9_goChance_153 : decode cX9_goChance 153 = .ok (.iload 5, 2) := by decide +kernel
theorem dX9_goChance_155 : decode cX9_goChance 155 = .ok (.laload, 1) := by decide +kernel
theorem dX9_goChance_156 : decode cX9_goChance 156 = .ok (.lastore, 1) := by decide +kernel
theorem dX9_goChance_157 : decode cX9_goChance 157 = .ok (.iinc 5 1, 3) := by decide +kernel
theorem dX9_goChance_160 : decode cX9_goChance 160 = .ok (.goto (-24), 3) := by decide +kernel
theorem dX9_goChance_163 : decode cX9_goChance 163 = .ok (.iinc 4 1, 3) := by decide +kernel
theorem dX9_goChance_166 : decode cX9_goChance 166 = .ok (.goto (-129), 3) := by decide +kernel
theorem dX9_goChance_169 : decode cX9_goChance 169 = .ok (.return_, 1) := by decide +kernel
theorem dX9_tens_0 : decode cX9_tens 0 = .ok (.lconst 1, 1) := by decide +kernel
theorem dX9_tens_1 : decode cX9_tens 1 = .ok (.lstore_n 1, 1) := by decide +kernel
theorem dX9_tens_2 : decode cX9_tens 2 = .ok (.iconst 0, 1) := by decide +kernel
theorem dX9_tens_3 : decode cX9_tens 3 = .ok (.istore_n 3, 1) := by decide +kernel
theorem dX9_tens_4 : decode cX9_tens 4 = .ok (.iload_n 3, 1) := by decide +kernel
theorem dX9_tens_5 : decode cX9_tens 5 = .ok (.iload_n 0, 1) := by decide +kernel
theorem dX9_tens_6 : decode cX9_tens 6 = .ok (.if_icmp .ge 15, 3) := by decide +kernel
theorem dX9_tens_9 : decode cX9_tens 9 = .ok (.lload_n 1, 1) := by decide +kernel
theorem dX9_tens_10 : decode cX9_tens 10 = .ok (.ldc2_w 285, 3) := by decide +kernel
theorem dX9_tens_13 : decode cX9_tens 13 = .ok (.lmul, 1) := by decide +kernel
theorem dX9_tens_14 : decode cX9_tens 14 = .ok (.lstore_n 1, 1) := by decide +kernel
theorem dX9_tens_15 : decode cX9_tens 15 = .ok (.iinc 3 1, 3) := by decide +kernel
theorem dX9_tens_18 : decode cX9_tens 18 = .ok (.goto (-14), 3) := by decide +kernel
theorem dX9_tens_21 : decode cX9_tens 21 = .ok (.lload_n 1, 1) := by decide +kernel
theorem dX9_tens_22 : decode cX9_tens 22 = .ok (.lreturn, 1) := by decide +kernel
theorem dX9_lowest_0 : decode cX9_lowest 0 = .ok (.lload_n 2, 1) := by decide +kernel
theorem dX9_lowest_1 : decode cX9_lowest 1 = .ok (.lstore 5, 2) := by decide +kernel
theorem dX9_lowest_3 : decode cX9_lowest 3 = .ok (.lload_n 0, 1) := by decide +kernel
theorem dX9_lowest_4 : decode cX9_lowest 4 = .ok (.lstore 7, 2) := by decide +kernel
theorem dX9_lowest_6 : decode cX9_lowest 6 = .ok (.lload 7, 2) := by decide +kernel
theorem dX9_lowest_8 : decode cX9_lowest 8 = .ok (.lconst 0, 1) := by decide +kernel
theorem dX9_lowest_9 : decode cX9_lowest 9 = .ok (.lcmp, 1) := by decide +kernel
theorem dX9_lowest_10 : decode cX9_lowest 10 = .ok (.ifCond .eq 21, 3) := by decide +kernel
theorem dX9_lowest_13 : decode cX9_lowest 13 = .ok (.lload 5, 2) := by decide +kernel
theorem dX9_lowest_15 : decode cX9_lowest 15 = .ok (.lload 7, 2) := by decide +kernel
theorem dX9_lowest_17 : decode cX9_lowest 17 = .ok (.lrem, 1) := by decide +kernel
theorem dX9_lowest_18 : decode cX9_lowest 18 = .ok (.lstore 9, 2) := by decide +kernel
theorem dX9_lowest_20 : decode cX9_lowest 20 = .ok (.lload 7, 2) := by decide +kernel
theorem dX9_lowest_22 : decode cX9_lowest 22 = .ok (.lstore 5, 2) := by decide +kernel
theorem dX9_lowest_24 : decode cX9_lowest 24 = .ok (.lload 9, 2) := by decide +kernel
theorem dX9_lowest_26 : decode cX9_lowest 26 = .ok (.lstore 7, 2) := by decide +kernel
theorem dX9_lowest_28 : decode cX9_lowest 28 = .ok (.goto (-22), 3) := by decide +kernel
theorem dX9_lowest_31 : decode cX9_lowest 31 = .ok (.iload 4, 2) := by decide +kernel
theorem dX9_lowest_33 : decode cX9_lowest 33 = .ok (.ifCond .ne 10, 3) := by decide +kernel
theorem dX9_lowest_36 : decode cX9_lowest 36 = .ok (.lload_n 0, 1) := by decide +kernel
theorem dX9_lowest_37 : decode cX9_lowest 37 = .ok (.lload 5, 2) := by decide +kernel
theorem dX9_lowest_39 : decode cX9_lowest 39 = .ok (.ldiv, 1) := by decide +kernel
theorem dX9_lowest_40 : decode cX9_lowest 40 = .ok (.goto 7, 3) := by decide +kernel
theorem dX9_lowest_43 : decode cX9_lowest 43 = .ok (.lload_n 2, 1) := by decide +kernel
theorem dX9_lowest_44 : decode cX9_lowest 44 = .ok (.lload 5, 2) := by decide +kernel
theorem dX9_lowest_46 : decode cX9_lowest 46 = .ok (.ldiv, 1) := by decide +kernel
theorem dX9_lowest_47 : decode cX9_lowest 47 = .ok (.lreturn, 1) := by decide +kernel
theorem dX9_atLeast_0 : decode cX9_atLeast 0 = .ok (.lconst 0, 1) := by decide +kernel
theorem dX9_atLeast_1 : decode cX9_atLeast 1 = .ok (.lstore_n 2, 1) := by decide +kernel
theorem dX9_atLeast_2 : decode cX9_atLeast 2 = .ok (.iload_n 1, 1) := by decide +kernel
theorem dX9_atLeast_3 : decode cX9_atLeast 3 = .ok (.istore 4, 2) := by decide +kernel
theorem dX9_atLeast_5 : decode cX9_atLeast 5 = .ok (.iload 4, 2) := by decide +kernel
theorem dX9_atLeast_7 : decode cX9_atLeast 7 = .ok (.bipush 96, 2) := by decide +kernel
theorem dX9_atLeast_9 : decode cX9_atLeast 9 = .ok (.if_icmp .ge 19, 3) := by decide +kernel
theorem dX9_atLeast_12 : decode cX9_atLeast 12 = .ok (.lload_n 2, 1) := by decide +kernel
theorem dX9_atLeast_13 : decode cX9_atLeast 13 = .ok (.aload_n 0, 1) := by decide +kernel
theorem dX9_atLeast_14 : decode cX9_atLeast 14 = .ok (.getfield 64, 3) := by decide +kernel
theorem dX9_atLeast_17 : decode cX9_atLeast 17 = .ok (.iload 4, 2) := by decide +kernel
theorem dX9_atLeast_19 : decode cX9_atLeast 19 = .ok (.laload, 1) := by decide +kernel
theorem dX9_atLeast_20 : decode cX9_atLeast 20 = .ok (.ladd, 1) := by decide +kernel
theorem dX9_atLeast_21 : decode cX9_atLeast 21 = .ok (.lstore_n 2, 1) := by decide +kernel
theorem dX9_atLeast_22 : decode cX9_atLeast 22 = .ok (.iinc 4 1, 3) := by decide +kernel
theorem dX9_atLeast_25 : decode cX9_atLeast 25 = .ok (.goto (-20), 3) := by decide +kernel
theorem dX9_atLeast_28 : decode cX9_atLeast 28 = .ok (.lload_n 2, 1) := by decide +kernel
theorem dX9_atLeast_29 : decode cX9_atLeast 29 = .ok (.lreturn, 1) := by decide +kernel
theorem dX9_chance_0 : decode cX9_chance 0 = .ok (.iload_n 1, 1) := by decide +kernel
theorem dX9_chance_1 : decode cX9_chance 1 = .ok (.i2l, 1) := by decide +kernel
theorem dX9_chance_2 : decode cX9_chance 2 = .ok (.lconst 0, 1) := by decide +kernel
theorem dX9_chance_3 : decode cX9_chance 3 = .ok (.ldc2_w 272, 3) := by decide +kernel
theorem dX9_chance_6 : decode cX9_chance 6 = .ok (.invokestatic 101, 3) := by decide +kernel
theorem dX9_chance_9 : decode cX9_chance 9 = .ok (.ifCond .eq 40, 3) := by decide +kernel
theorem dX9_chance_12 : decode cX9_chance 12 = .ok (.iload_n 2, 1) := by decide +kernel
theorem dX9_chance_13 : decode cX9_chance 13 = .ok (.i2l, 1) := by decide +kernel
theorem dX9_chance_14 : decode cX9_chance 14 = .ok (.lconst 0, 1) := by decide +kernel
theorem dX9_chance_15 : decode cX9_chance 15 = .ok (.ldc2_w 285, 3) := by decide +kernel
theorem dX9_chance_18 : decode cX9_chance 18 = .ok (.invokestatic 101, 3) := by decide +kernel
theorem dX9_chance_21 : decode cX9_chance 21 = .ok (.ifCond .eq 28, 3) := by decide +kernel
theorem dX9_chance_24 : decode cX9_chance 24 = .ok (.iload_n 3, 1) := by decide +kernel
theorem dX9_chance_25 : decode cX9_chance 25 = .ok (.i2l, 1) := by decide +kernel
theorem dX9_chance_26 : decode cX9_chance 26 = .ok (.ldc2_w 287, 3) := by decide +kernel
theorem dX9_chance_29 : decode cX9_chance 29 = .ok (.ldc2_w 278, 3) := by decide +kernel
theorem dX9_chance_32 : decode cX9_chance 32 = .ok (.invokestatic 101, 3) := by decide +kernel
theorem dX9_chance_35 : decode cX9_chance 35 = .ok (.ifCond .eq 14, 3) := by decide +kernel
theorem dX9_chance_38 : decode cX9_chance 38 = .ok (.iload 4, 2) := by decide +kernel
theorem dX9_chance_40 : decode cX9_chance 40 = .ok (.i2l, 1) := by decide +kernel
theorem dX9_chance_41 : decode cX9_chance 41 = .ok (.lconst 0, 1) := by decide +kernel
theorem dX9_chance_42 : decode cX9_chance 42 = .ok (.lconst 1, 1) := by decide +kernel
theorem dX9_chance_43 : decode cX9_chance 43 = .ok (.invokestatic 101, 3) := by decide +kernel
theorem dX9_chance_46 : decode cX9_chance 46 = .ok (.ifCond .ne 7, 3) := by decide +kernel
theorem dX9_chance_49 : decode cX9_chance 49 = .ok (.ldc2_w 280, 3) := by decide +kernel
theorem dX9_chance_52 : decode cX9_chance 52 = .ok (.lreturn, 1) := by decide +kernel
theorem dX9_chance_53 : decode cX9_chance 53 = .ok (.aload_n 0, 1) := by decide +kernel
theorem dX9_chance_54 : decode cX9_chance 54 = .ok (.aload_n 0, 1) := by decide +kernel
theorem dX9_chance_55 : decode cX9_chance 55 = .ok (.getfield 92, 3) := by decide +kernel
theorem dX9_chance_58 : decode cX9_chance 58 = .ok (.iload_n 1, 1) := by decide +kernel
theorem dX9_chance_59 : decode cX9_chance 59 = .ok (.iload_n 2, 1) := by decide +kernel
theorem dX9_chance_60 : decode cX9_chance 60 = .ok (.invokevirtual 289, 3) := by decide +kernel
theorem dX9_chance_63 : decode cX9_chance 63 = .ok (.lconst 0, 1) := by decide +kernel
theorem dX9_chance_64 : decode cX9_chance 64 = .ok (.lstore 5, 2) := by decide +kernel
theorem dX9_chance_66 : decode cX9_chance 66 = .ok (.iconst 0, 1) := by decide +kernel
theorem dX9_chance_67 : decode cX9_chance 67 = .ok (.istore 7, 2) := by decide +kernel
theorem dX9_chance_69 : decode cX9_chance 69 = .ok (.iload 7, 2) := by decide +kernel
theorem dX9_chance_71 : decode cX9_chance 71 = .ok (.bipush 96, 2) := by decide +kernel
theorem dX9_chance_73 : decode cX9_chance 73 = .ok (.if_icmp .ge 25, 3) := by decide +kernel
theorem dX9_chance_76 : decode cX9_chance 76 = .ok (.lload 5, 2) := by decide +kernel
theorem dX9_chance_78 : decode cX9_chance 78 = .ok (.iload 7, 2) := by decide +kernel
theorem dX9_chance_80 : decode cX9_chance 80 = .ok (.i2l, 1) := by decide +kernel
theorem dX9_chance_81 : decode cX9_chance 81 = .ok (.aload_n 0, 1) := by decide +kernel
theorem dX9_chance_82 : decode cX9_chance 82 = .ok (.getfield 64, 3) := by decide +kernel
theorem dX9_chance_85 : decode cX9_chance 85 = .ok (.iload 7, 2) := by decide +kernel
theorem dX9_chance_87 : decode cX9_chance 87 = .ok (.laload, 1) := by decide +kernel
theorem dX9_chance_88 : decode cX9_chance 88 = .ok (.lmul, 1) := by decide +kernel
theorem dX9_chance_89 : decode cX9_chance 89 = .ok (.ladd, 1) := by decide +kernel
theorem dX9_chance_90 : decode cX9_chance 90 = .ok (.lstore 5, 2) := by decide +kernel
theorem dX9_chance_92 : decode cX9_chance 92 = .ok (.iinc 7 1, 3) := by decide +kernel
theorem dX9_chance_95 : decode cX9_chance 95 = .ok (.goto (-26), 3) := by decide +kernel
theorem dX9_chance_98 : decode cX9_chance 98 = .ok (.iload_n 3, 1) := by decide +kernel
theorem dX9_chance_99 : decode cX9_chance 99 = .ok (.ifCond .ge 8, 3) := by decide +kernel
theorem dX9_chance_102 : decode cX9_chance 102 = .ok (.lload 5, 2) := by decide +kernel
theorem dX9_chance_104 : decode cX9_chance 104 = .ok (.goto 8, 3) := by decide +kernel
theorem dX9_chance_107 : decode cX9_chance 107 = .ok (.aload_n 0, 1) := by decide +kernel
theorem dX9_chance_108 : decode cX9_chance 108 = .ok (.iload_n 3, 1) := by decide +kernel
theorem dX9_chance_109 : decode cX9_chance 109 = .ok (.invokevirtual 293, 3) := by decide +kernel
theorem dX9_chance_112 : decode cX9_chance 112 = .ok (.iload_n 1, 1) := by decide +kernel
theorem dX9_chance_113 : decode cX9_chance 113 = .ok (.invokestatic 297, 3) := by decide +kernel
theorem dX9_chance_116 : decode cX9_chance 116 = .ok (.iload 4, 2) := by decide +kernel
theorem dX9_chance_118 : decode cX9_chance 118 = .ok (.invokestatic 300, 3) := by decide +kernel
theorem dX9_chance_121 : decode cX9_chance 121 = .ok (.lreturn, 1) := by decide +kernel
theorem dX9_over_0 : decode cX9_over 0 = .ok (.iload_n 1, 1) := by decide +kernel
theorem dX9_over_1 : decode cX9_over 1 = .ok (.i2l, 1) := by decide +kernel
theorem dX9_over_2 : decode cX9_over 2 = .ok (.lconst 0, 1) := by decide +kernel
theorem dX9_over_3 : decode cX9_over 3 = .ok (.ldc2_w 272, 3) := by decide +kernel
theorem dX9_over_6 : decode cX9_over 6 = .ok (.invokestatic 101, 3) := by decide +kernel
theorem dX9_over_9 : decode cX9_over 9 = .ok (.ifCond .eq 53, 3) := by decide +kernel
theorem dX9_over_12 : decode cX9_over 12 = .ok (.iload_n 2, 1) := by decide +kernel
theorem dX9_over_13 : decode cX9_over 13 = .ok (.i2l, 1) := by decide +kernel
theorem dX9_over_14 : decode cX9_over 14 = .ok (.lconst 0, 1) := by decide +kernel
theorem dX9_over_15 : decode cX9_over 15 = .ok (.ldc2_w 285, 3) := by decide +kernel
theorem dX9_over_18 : decode cX9_over 18 = .ok (.invokestatic 101, 3) := by decide +kernel
theorem dX9_over_21 : decode cX9_over 21 = .ok (.ifCond .eq 41, 3) := by decide +kernel
theorem dX9_over_24 : decode cX9_over 24 = .ok (.iload_n 3, 1) := by decide +kernel
theorem dX9_over_25 : decode cX9_over 25 = .ok (.i2l, 1) := by decide +kernel
theorem dX9_over_26 : decode cX9_over 26 = .ok (.lconst 0, 1) := by decide +kernel
theorem dX9_over_27 : decode cX9_over 27 = .ok (.ldc2_w 278, 3) := by decide +kernel
theorem dX9_over_30 : decode cX9_over 30 = .ok (.invokestatic 101, 3) := by decide +kernel
theorem dX9_over_33 : decode cX9_over 33 = .ok (.ifCond .eq 29, 3) := by decide +kernel
theorem dX9_over_36 : decode cX9_over 36 = .ok (.iload 5, 2) := by decide +kernel
theorem dX9_over_38 : decode cX9_over 38 = .ok (.i2l, 1) := by decide +kernel
theorem dX9_over_39 : decode cX9_over 39 = .ok (.lconst 1, 1) := by decide +kernel
theorem dX9_over_40 : decode cX9_over 40 = .ok (.ldc2_w 304, 3) := by decide +kernel
theorem dX9_over_43 : decode cX9_over 43 = .ok (.invokestatic 101, 3) := by decide +kernel
theorem dX9_over_46 : decode cX9_over 46 = .ok (.ifCond .eq 16, 3) := by decide +kernel
theorem dX9_over_49 : decode cX9_over 49 = .ok (.iload 4, 2) := by decide +kernel
theorem dX9_over_51 : decode cX9_over 51 = .ok (.i2l, 1) := by decide +kernel
theorem dX9_over_52 : decode cX9_over 52 = .ok (.lconst 0, 1) := by decide +kernel
theorem dX9_over_53 : decode cX9_over 53 = .ok (.iload 5, 2) := by decide +kernel
theorem dX9_over_55 : decode cX9_over 55 = .ok (.i2l, 1) := by decide +kernel
theorem dX9_over_56 : decode cX9_over 56 = .ok (.invokestatic 101, 3) := by decide +kernel
theorem dX9_over_59 : decode cX9_over 59 = .ok (.ifCond .ne 6, 3) := by decide +kernel
theorem dX9_over_62 : decode cX9_over 62 = .ok (.bipush (-2), 2) := by decide +kernel
theorem dX9_over_64 : decode cX9_over 64 = .ok (.ireturn, 1) := by decide +kernel
theorem dX9_over_65 : decode cX9_over 65 = .ok (.iconst 0, 1) := by decide +kernel
theorem dX9_over_66 : decode cX9_over 66 = .ok (.istore 6, 2) := by decide +kernel
theorem dX9_over_68 : decode cX9_over 68 = .ok (.iload 6, 2) := by decide +kernel
theorem dX9_over_70 : decode cX9_over 70 = .ok (.bipush 40, 2) := by decide +kernel
theorem dX9_over_72 : decode cX9_over 72 = .ok (.if_icmp .gt 82, 3) := by decide +kernel
theorem dX9_over_75 : decode cX9_over 75 = .ok (.aload_n 0, 1) := by decide +kernel
theorem dX9_over_76 : decode cX9_over 76 = .ok (.getfield 92, 3) := by decide +kernel
theorem dX9_over_79 : decode cX9_over 79 = .ok (.iload 6, 2) := by decide +kernel
theorem dX9_over_81 : decode cX9_over 81 = .ok (.iadd, 1) := by decide +kernel
theorem dX9_over_82 : decode cX9_over 82 = .ok (.istore 7, 2) := by decide +kernel
theorem dX9_over_84 : decode cX9_over 84 = .ok (.iload 7, 2) := by decide +kernel
theorem dX9_over_86 : decode cX9_over 86 = .ok (.iload_n 1, 1) := by decide +kernel
theorem dX9_over_87 : decode cX9_over 87 = .ok (.isub, 1) := by decide +kernel
theorem dX9_over_88 : decode cX9_over 88 = .ok (.iload_n 3, 1) := by decide +kernel
theorem dX9_over_89 : decode cX9_over 89 = .ok (.if_icmp .lt 7, 3) := by decide +kernel
theorem dX9_over_92 : decode cX9_over 92 = .ok (.iconst 1, 1) := by decide +kernel
theorem dX9_over_93 : decode cX9_over 93 = .ok (.goto 4, 3) := by decide +kernel
theorem dX9_over_96 : decode cX9_over 96 = .ok (.iconst 0, 1) := by decide +kernel
theorem dX9_over_97 : decode cX9_over 97 = .ok (.istore 8, 2) := by decide +kernel
theorem dX9_over_99 : decode cX9_over 99 = .ok (.iload 8, 2) := by decide +kernel
theorem dX9_over_101 : decode cX9_over 101 = .ok (.ifCond .ne 39, 3) := by decide +kernel
theorem dX9_over_104 : decode cX9_over 104 = .ok (.aload_n 0, 1) := by decide +kernel
theorem dX9_over_105 : decode cX9_over 105 = .ok (.iload 7, 2) := by decide +kernel
theorem dX9_over_107 : decode cX9_over 107 = .ok (.iload_n 1, 1) := by decide +kernel
theorem dX9_over_108 : decode cX9_over 108 = .ok (.iload_n 2, 1) := by decide +kernel
theorem dX9_over_109 : decode cX9_over 109 = .ok (.invokevirtual 289, 3) := by decide +kernel
theorem dX9_over_112 : decode cX9_over 112 = .ok (.aload_n 0, 1) := by decide +kernel
theorem dX9_over_113 : decode cX9_over 113 = .ok (.iload_n 3, 1) := by decide +kernel
theorem dX9_over_114 : decode cX9_over 114 = .ok (.invokevirtual 293, 3) := by decide +kernel
theorem dX9_over_117 : decode cX9_over 117 = .ok (.iload 5, 2) := by decide +kernel
theorem dX9_over_119 : decode cX9_over 119 = .ok (.i2l, 1) := by decide +kernel
theorem dX9_over_120 : decode cX9_over 120 = .ok (.lmul, 1) := by decide +kernel
theorem dX9_over_121 : decode cX9_over 121 = .ok (.iload 4, 2) := by decide +kernel
theorem dX9_over_123 : decode cX9_over 123 = .ok (.i2l, 1) := by decide +kernel
theorem dX9_over_124 : decode cX9_over 124 = .ok (.iload_n 1, 1) := by decide +kernel
theorem dX9_over_125 : decode cX9_over 125 = .ok (.invokestatic 297, 3) := by decide +kernel
theorem dX9_over_128 : decode cX9_over 128 = .ok (.lmul, 1) := by decide +kernel
theorem dX9_over_129 : decode cX9_over 129 = .ok (.lcmp, 1) := by decide +kernel
theorem dX9_over_130 : decode cX9_over 130 = .ok (.ifCond .lt 7, 3) := by decide +kernel
theorem dX9_over_133 : decode cX9_over 133 = .ok (.iconst 1, 1) := by decide +kernel
theorem dX9_over_134 : decode cX9_over 134 = .ok (.goto 4, 3) := by decide +kernel
theorem dX9_over_137 : decode cX9_over 137 = .ok (.iconst 0, 1) := by decide +kernel
theorem dX9_over_138 : decode cX9_over 138 = .ok (.istore 8, 2) := by decide +kernel
theorem dX9_over_140 : decode cX9_over 140 = .ok (.iload 8, 2) := by decide +kernel
theorem dX9_over_142 : decode cX9_over 142 = .ok (.ifCond .eq 6, 3) := by decide +kernel
theorem dX9_over_145 : decode cX9_over 145 = .ok (.iload 6, 2) := by decide +kernel
theorem dX9_over_147 : decode cX9_over 147 = .ok (.ireturn, 1) := by decide +kernel
theorem dX9_over_148 : decode cX9_over 148 = .ok (.iinc 6 1, 3) := by decide +kernel
theorem dX9_over_151 : decode cX9_over 151 = .ok (.goto (-83), 3) := by decide +kernel
theorem dX9_over_154 : decode cX9_over 154 = .ok (.bipush (-6), 2) := by decide +kernel
theorem dX9_over_156 : decode cX9_over 156 = .ok (.ireturn, 1) := by decide +kernel
theorem dX9_patterns_0 : decode cX9_patterns 0 = .ok (.iload_n 1, 1) := by decide +kernel
theorem dX9_patterns_1 : decode cX9_patterns 1 = .ok (.i2l, 1) := by decide +kernel
theorem dX9_patterns_2 : decode cX9_patterns 2 = .ok (.lconst 0, 1) := by decide +kernel
theorem dX9_patterns_3 : decode cX9_patterns 3 = .ok (.ldc2_w 107, 3) := by decide +kernel
theorem dX9_patterns_6 : decode cX9_patterns 6 = .ok (.invokestatic 101, 3) := by decide +kernel
theorem dX9_patterns_9 : decode cX9_patterns 9 = .ok (.ifCond .ne 6, 3) := by decide +kernel
theorem dX9_patterns_12 : decode cX9_patterns 12 = .ok (.bipush (-2), 2) := by decide +kernel
theorem dX9_patterns_14 : decode cX9_patterns 14 = .ok (.ireturn, 1) := by decide +kernel
theorem dX9_patterns_15 : decode cX9_patterns 15 = .ok (.iconst 0, 1) := by decide +kernel
theorem dX9_patterns_16 : decode cX9_patterns 16 = .ok (.istore_n 2, 1) := by decide +kernel
theorem dX9_patterns_17 : decode cX9_patterns 17 = .ok (.iconst 0, 1) := by decide +kernel
theorem dX9_patterns_18 : decode cX9_patterns 18 = .ok (.istore_n 3, 1) := by decide +kernel
theorem dX9_patterns_19 : decode cX9_patterns 19 = .ok (.iload_n 3, 1) := by decide +kernel
theorem dX9_patterns_20 : decode cX9_patterns 20 = .ok (.bipush 6, 2) := by decide +kernel
theorem dX9_patterns_22 : decode cX9_patterns 22 = .ok (.if_icmp .ge 27, 3) := by decide +kernel
theorem dX9_patterns_25 : decode cX9_patterns 25 = .ok (.iload_n 2, 1) := by decide +kernel
theorem dX9_patterns_26 : decode cX9_patterns 26 = .ok (.aload_n 0, 1) := by decide +kernel
theorem dX9_patterns_27 : decode cX9_patterns 27 = .ok (.getfield 7, 3) := by decide +kernel
theorem dX9_patterns_30 : decode cX9_patterns 30 = .ok (.iload_n 3, 1) := by decide +kernel
theorem dX9_patterns_31 : decode cX9_patterns 31 = .ok (.iaload, 1) := by decide +kernel
theorem dX9_patterns_32 : decode cX9_patterns 32 = .ok (.iconst 1, 1) := by decide +kernel
theorem dX9_patterns_33 : decode cX9_patterns 33 = .ok (.if_icmp .eq 7, 3) := by decide +kernel
theorem dX9_patterns_36 : decode cX9_patterns 36 = .ok (.iconst 1, 1) := by decide +kernel
theorem dX9_patterns_37 : decode cX9_patterns 37 = .ok (.goto 4, 3) := by decide +kernel
theorem dX9_patterns_40 : decode cX9_patterns 40 = .ok (.iconst 0, 1) := by decide +kernel
theorem dX9_patterns_41 : decode cX9_patterns 41 = .ok (.iadd, 1) := by decide +kernel
theorem dX9_patterns_42 : decode cX9_patterns 42 = .ok (.istore_n 2, 1) := by decide +kernel
theorem dX9_patterns_43 : decode cX9_patterns 43 = .ok (.iinc 3 1, 3) := by decide +kernel
theorem dX9_patterns_46 : decode cX9_patterns 46 = .ok (.goto (-27), 3) := by decide +kernel
theorem dX9_patterns_49 : decode cX9_patterns 49 = .ok (.iconst 1, 1) := by decide +kernel
theorem dX9_patterns_50 : decode cX9_patterns 50 = .ok (.istore_n 3, 1) := by decide +kernel
theorem dX9_patterns_51 : decode cX9_patterns 51 = .ok (.iconst 0, 1) := by decide +kernel
theorem dX9_patterns_52 : decode cX9_patterns 52 = .ok (.istore 4, 2) := by decide +kernel
theorem dX9_patterns_54 : decode cX9_patterns 54 = .ok (.iconst 0, 1) := by decide +kernel
theorem dX9_patterns_55 : decode cX9_patterns 55 = .ok (.istore 5, 2) := by decide +kernel
theorem dX9_patterns_57 : decode cX9_patterns 57 = .ok (.iload 5, 2) := by decide +kernel
theorem dX9_patterns_59 : decode cX9_patterns 59 = .ok (.iload_n 1, 1) := by decide +kernel
theorem dX9_patterns_60 : decode cX9_patterns 60 = .ok (.if_icmp .ge 27, 3) := by decide +kernel
theorem dX9_patterns_63 : decode cX9_patterns 63 = .ok (.iload_n 3, 1) := by decide +kernel
theorem dX9_patterns_64 : decode cX9_patterns 64 = .ok (.iload 4, 2) := by decide +kernel
theorem dX9_patterns_66 : decode cX9_patterns 66 = .ok (.iadd, 1) := by decide +kernel
theorem dX9_patterns_67 : decode cX9_patterns 67 = .ok (.istore 6, 2) := by decide +kernel
theorem dX9_patterns_69 : decode cX9_patterns 69 = .ok (.iload 4, 2) := by decide +kernel
theorem dX9_patterns_71 : decode cX9_patterns 71 = .ok (.iload_n 2, 1) := by decide +kernel
theorem dX9_patterns_72 : decode cX9_patterns 72 = .ok (.iload 6, 2) := by decide +kernel
theorem dX9_patterns_74 : decode cX9_patterns 74 = .ok (.imul, 1) := by decide +kernel
theorem dX9_patterns_75 : decode cX9_patterns 75 = .ok (.iadd, 1) := by decide +kernel
theorem dX9_patterns_76 : decode cX9_patterns 76 = .ok (.istore 4, 2) := by decide +kernel
theorem dX9_patterns_78 : decode cX9_patterns 78 = .ok (.iload 6, 2) := by decide +kernel
theorem dX9_patterns_80 : decode cX9_patterns 80 = .ok (.istore_n 3, 1) := by decide +kernel
theorem dX9_patterns_81 : decode cX9_patterns 81 = .ok (.iinc 5 1, 3) := by decide +kernel
theorem dX9_patterns_84 : decode cX9_patterns 84 = .ok (.goto (-27), 3) := by decide +kernel
theorem dX9_patterns_87 : decode cX9_patterns 87 = .ok (.iload_n 3, 1) := by decide +kernel
theorem dX9_patterns_88 : decode cX9_patterns 88 = .ok (.iload 4, 2) := by decide +kernel
theorem dX9_patterns_90 : decode cX9_patterns 90 = .ok (.iadd, 1) := by decide +kernel
theorem dX9_patterns_91 : decode cX9_patterns 91 = .ok (.ireturn, 1) := by decide +kernel
theorem dX9_draws_0 : decode cX9_draws 0 = .ok (.iload_n 1, 1) := by decide +kernel
theorem dX9_draws_1 : decode cX9_draws 1 = .ok (.i2l, 1) := by decide +kernel
theorem dX9_draws_2 : decode cX9_draws 2 = .ok (.lconst 0, 1) := by decide +kernel
theorem dX9_draws_3 : decode cX9_draws 3 = .ok (.ldc2_w 306, 3) := by decide +kernel
theorem dX9_draws_6 : decode cX9_draws 6 = .ok (.invokestatic 101, 3) := by decide +kernel
theorem dX9_draws_9 : decode cX9_draws 9 = .ok (.ifCond .eq 27, 3) := by decide +kernel
theorem dX9_draws_12 : decode cX9_draws 12 = .ok (.iload_n 2, 1) := by decide +kernel
theorem dX9_draws_13 : decode cX9_draws 13 = .ok (.i2l, 1) := by decide +kernel
theorem dX9_draws_14 : decode cX9_draws 14 = .ok (.lconst 1, 1) := by decide +kernel
theorem dX9_draws_15 : decode cX9_draws 15 = .ok (.ldc2_w 308, 3) := by decide +kernel
theorem dX9_draws_18 : decode cX9_draws 18 = .ok (.invokestatic 101, 3) := by decide +kernel
theorem dX9_draws_21 : decode cX9_draws 21 = .ok (.ifCond .eq 15, 3) := by decide +kernel
theorem dX9_draws_24 : decode cX9_draws 24 = .ok (.iload_n 3, 1) := by decide +kernel
theorem dX9_draws_25 : decode cX9_draws 25 = .ok (.i2l, 1) := by decide +kernel
theorem dX9_draws_26 : decode cX9_draws 26 = .ok (.lconst 0, 1) := by decide +kernel
theorem dX9_draws_27 : decode cX9_draws 27 = .ok (.ldc2_w 116, 3) := by decide +kernel
theorem dX9_draws_30 : decode cX9_draws 30 = .ok (.invokestatic 101, 3) := by decide +kernel
theorem dX9_draws_33 : decode cX9_draws 33 = .ok (.ifCond .ne 6, 3) := by decide +kernel
theorem dX9_draws_36 : decode cX9_draws 36 = .ok (.bipush (-2), 2) := by decide +kernel
theorem dX9_draws_38 : decode cX9_draws 38 = .ok (.ireturn, 1) := by decide +kernel
theorem dX9_draws_39 : decode cX9_draws 39 = .ok (.aload_n 0, 1) := by decide +kernel
theorem dX9_draws_40 : decode cX9_draws 40 = .ok (.invokevirtual 207, 3) := by decide +kernel
theorem dX9_draws_43 : decode cX9_draws 43 = .ok (.aload_n 0, 1) := by decide +kernel
theorem dX9_draws_44 : decode cX9_draws 44 = .ok (.iconst 0, 1) := by decide +kernel
theorem dX9_draws_45 : decode cX9_draws 45 = .ok (.putfield 155, 3) := by decide +kernel
theorem dX9_draws_48 : decode cX9_draws 48 = .ok (.aload_n 0, 1) := by decide +kernel
theorem dX9_draws_49 : decode cX9_draws 49 = .ok (.bipush (-6), 2) := by decide +kernel
theorem dX9_draws_51 : decode cX9_draws 51 = .ok (.putfield 164, 3) := by decide +kernel
theorem dX9_draws_54 : decode cX9_draws 54 = .ok (.iload_n 1, 1) := by decide +kernel
theorem dX9_draws_55 : decode cX9_draws 55 = .ok (.istore 4, 2) := by decide +kernel
theorem dX9_draws_57 : decode cX9_draws 57 = .ok (.iconst 0, 1) := by decide +kernel
theorem dX9_draws_58 : decode cX9_draws 58 = .ok (.istore 5, 2) := by decide +kernel
theorem dX9_draws_60 : decode cX9_draws 60 = .ok (.iload 5, 2) := by decide +kernel
theorem dX9_draws_62 : decode cX9_draws 62 = .ok (.iload_n 2, 1) := by decide +kernel
theorem dX9_draws_63 : decode cX9_draws 63 = .ok (.if_icmp .ge 33, 3) := by decide +kernel
theorem dX9_draws_66 : decode cX9_draws 66 = .ok (.ldc2_w 310, 3) := by decide +kernel
theorem dX9_draws_69 : decode cX9_draws 69 = .ok (.iload 4, 2) := by decide +kernel
theorem dX9_draws_71 : decode cX9_draws 71 = .ok (.i2l, 1) := by decide +kernel
theorem dX9_draws_72 : decode cX9_draws 72 = .ok (.lmul, 1) := by decide +kernel
theorem dX9_draws_73 : decode cX9_draws 73 = .ok (.ldc2_w 312, 3) := by decide +kernel
theorem dX9_draws_76 : decode cX9_draws 76 = .ok (.ladd, 1) := by decide +kernel
theorem dX9_draws_77 : decode cX9_draws 77 = .ok (.ldc2_w 314, 3) := by decide +kernel
theorem dX9_draws_80 : decode cX9_draws 80 = .ok (.lrem, 1) := by decide +kernel
theorem dX9_draws_81 : decode cX9_draws 81 = .ok (.l2i, 1) := by decide +kernel
theorem dX9_draws_82 : decode cX9_draws 82 = .ok (.istore 4, 2) := by decide +kernel
theorem dX9_draws_84 : decode cX9_draws 84 = .ok (.aload_n 0, 1) := by decide +kernel
theorem dX9_draws_85 : decode cX9_draws 85 = .ok (.iload 4, 2) := by decide +kernel
theorem dX9_draws_87 : decode cX9_draws 87 = .ok (.invokevirtual 316, 3) := by decide +kernel
theorem dX9_draws_90 : decode cX9_draws 90 = .ok (.iinc 5 1, 3) := by decide +kernel
theorem dX9_draws_93 : decode cX9_draws 93 = .ok (.goto (-33), 3) := by decide +kernel
theorem dX9_draws_96 : decode cX9_draws 96 = .ok (.iload_n 3, 1) := by decide +kernel
theorem dX9_draws_97 : decode cX9_draws 97 = .ok (.ifCond .ne 10, 3) := by decide +kernel
theorem dX9_draws_100 : decode cX9_draws 100 = .ok (.aload_n 0, 1) := by decide +kernel
theorem dX9_draws_101 : decode cX9_draws 101 = .ok (.getfield 92, 3) := by decide +kernel
theorem dX9_draws_104 : decode cX9_draws 104 = .ok (.goto 19, 3) := by decide +kernel
theorem dX9_draws_107 : decode cX9_draws 107 = .ok (.iload_n 3, 1) := by decide +kernel
theorem dX9_draws_108 : decode cX9_draws 108 = .ok (.iconst 1, 1) := by decide +kernel
theorem dX9_draws_109 : decode cX9_draws 109 = .ok (.if_icmp .ne 10, 3) := by decide +kernel
theorem dX9_draws_112 : decode cX9_draws 112 = .ok (.aload_n 0, 1) := by decide +kernel
theorem dX9_draws_113 : decode cX9_draws 113 = .ok (.getfield 155, 3) := by decide +kernel
theorem dX9_draws_116 : decode cX9_draws 116 = .ok (.goto 7, 3) := by decide +kernel
theorem dX9_draws_119 : decode cX9_draws 119 = .ok (.aload_n 0, 1) := by decide +kernel
theorem dX9_draws_120 : decode cX9_draws 120 = .ok (.getfield 95, 3) := by decide +kernel
theorem dX9_draws_123 : decode cX9_draws 123 = .ok (.istore 5, 2) := by decide +kernel
theorem dX9_draws_125 : decode cX9_draws 125 = .ok (.aload_n 0, 1) := by decide +kernel
theorem dX9_draws_126 : decode cX9_draws 126 = .ok (.invokevirtual 219, 3) := by decide +kernel
theorem dX9_draws_129 : decode cX9_draws 129 = .ok (.iload 5, 2) := by decide +kernel
theorem dX9_draws_131 : decode cX9_draws 131 = .ok (.ireturn, 1) := by decide +kernel
theorem dX9_drawn_0 : decode cX9_drawn 0 = .ok (.iload_n 1, 1) := by decide +kernel
theorem dX9_drawn_1 : decode cX9_drawn 1 = .ok (.bipush 8, 2) := by decide +kernel
theorem dX9_drawn_3 : decode cX9_drawn 3 = .ok (.irem, 1) := by decide +kernel
theorem dX9_drawn_4 : decode cX9_drawn 4 = .ok (.istore_n 2, 1) := by decide +kernel
theorem dX9_drawn_5 : decode cX9_drawn 5 = .ok (.aload_n 0, 1) := by decide +kernel
theorem dX9_drawn_6 : decode cX9_drawn 6 = .ok (.getfield 31, 3) := by decide +kernel
theorem dX9_drawn_9 : decode cX9_drawn 9 = .ok (.iconst 0, 1) := by decide +kernel
theorem dX9_drawn_10 : decode cX9_drawn 10 = .ok (.iload_n 2, 1) := by decide +kernel
theorem dX9_drawn_11 : decode cX9_drawn 11 = .ok (.ifCond .ne 7, 3) := by decide +kernel
theorem dX9_drawn_14 : decode cX9_drawn 14 = .ok (.iconst 1, 1) := by decide +kernel
theorem dX9_drawn_15 : decode cX9_drawn 15 = .ok (.goto 22, 3) := by decide +kernel
theorem dX9_drawn_18 : decode cX9_drawn 18 = .ok (.iload_n 2, 1) := by decide +kernel
theorem dX9_drawn_19 : decode cX9_drawn 19 = .ok (.iconst 1, 1) := by decide +kernel
theorem dX9_drawn_20 : decode cX9_drawn 20 = .ok (.if_icmp .ne 7, 3) := by decide +kernel
theorem dX9_drawn_23 : decode cX9_drawn 23 = .ok (.iconst 2, 1) := by decide +kernel
theorem dX9_drawn_24 : decode cX9_drawn 24 = .ok (.goto 13, 3) := by decide +kernel
theorem dX9_drawn_27 : decode cX9_drawn 27 = .ok (.iload_n 2, 1) := by decide +kernel
theorem dX9_drawn_28 : decode cX9_drawn 28 = .ok (.iconst 2, 1) := by decide +kernel
theorem dX9_drawn_29 : decode cX9_drawn 29 = .ok (.if_icmp .ne 7, 3) := by decide +kernel
theorem dX9_drawn_32 : decode cX9_drawn 32 = .ok (.iconst 3, 1) := by decide +kernel
theorem dX9_drawn_33 : decode cX9_drawn 33 = .ok (.goto 4, 3) := by decide +kernel
theorem dX9_drawn_36 : decode cX9_drawn 36 = .ok (.iconst 0, 1) := by decide +kernel
theorem dX9_drawn_37 : decode cX9_drawn 37 = .ok (.iastore, 1) := by decide +kernel
theorem dX9_drawn_38 : decode cX9_drawn 38 = .ok (.aload_n 0, 1) := by decide +kernel
theorem dX9_drawn_39 : decode cX9_drawn 39 = .ok (.getfield 34, 3) := by decide +kernel
theorem dX9_drawn_42 : decode cX9_drawn 42 = .ok (.iconst 0, 1) := by decide +kernel
theorem dX9_drawn_43 : decode cX9_drawn 43 = .ok (.iload_n 1, 1) := by decide +kernel
theorem dX9_drawn_44 : decode cX9_drawn 44 = .ok (.bipush 8, 2) := by decide +kernel
theorem dX9_drawn_46 : decode cX9_drawn 46 = .ok (.idiv, 1) := by decide +kernel
theorem dX9_drawn_47 : decode cX9_drawn 47 = .ok (.bipush 6, 2) := by decide +kernel
theorem dX9_drawn_49 : decode cX9_drawn 49 = .ok (.irem, 1) := by decide +kernel
theorem dX9_drawn_50 : decode cX9_drawn 50 = .ok (.iastore, 1) := by decide +kernel
theorem dX9_drawn_51 : decode cX9_drawn 51 = .ok (.aload_n 0, 1) := by decide +kernel
theorem dX9_drawn_52 : decode cX9_drawn 52 = .ok (.getfield 37, 3) := by decide +kernel
theorem dX9_drawn_55 : decode cX9_drawn 55 = .ok (.iconst 0, 1) := by decide +kernel
theorem dX9_drawn_56 : decode cX9_drawn 56 = .ok (.iload_n 1, 1) := by decide +kernel
theorem dX9_drawn_57 : decode cX9_drawn 57 = .ok (.bipush 48, 2) := by decide +kernel
theorem dX9_drawn_59 : decode cX9_drawn 59 = .ok (.idiv, 1) := by decide +kernel
theorem dX9_drawn_60 : decode cX9_drawn 60 = .ok (.aload_n 0, 1) := by decide +kernel
theorem dX9_drawn_61 : decode cX9_drawn 61 = .ok (.getfield 85, 3) := by decide +kernel
theorem dX9_drawn_64 : decode cX9_drawn 64 = .ok (.irem, 1) := by decide +kernel
theorem dX9_drawn_65 : decode cX9_drawn 65 = .ok (.iastore, 1) := by decide +kernel
theorem dX9_drawn_66 : decode cX9_drawn 66 = .ok (.aload_n 0, 1) := by decide +kernel
theorem dX9_drawn_67 : decode cX9_drawn 67 = .ok (.getfield 40, 3) := by decide +kernel
theorem dX9_drawn_70 : decode cX9_drawn 70 = .ok (.iconst 0, 1) := by decide +kernel
theorem dX9_drawn_71 : decode cX9_drawn 71 = .ok (.iload_n 1, 1) := by decide +kernel
theorem dX9_drawn_72 : decode cX9_drawn 72 = .ok (.sipush 480, 3) := by decide +kernel
theorem dX9_drawn_75 : decode cX9_drawn 75 = .ok (.idiv, 1) := by decide +kernel
theorem dX9_drawn_76 : decode cX9_drawn 76 = .ok (.iconst 2, 1) := by decide +kernel
theorem dX9_drawn_77 : decode cX9_drawn 77 = .ok (.irem, 1) := by decide +kernel
theorem dX9_drawn_78 : decode cX9_drawn 78 = .ok (.iastore, 1) := by decide +kernel
theorem dX9_drawn_79 : decode cX9_drawn 79 = .ok (.aload_n 0, 1) := by decide +kernel
theorem dX9_drawn_80 : decode cX9_drawn 80 = .ok (.iconst 0, 1) := by decide +kernel
theorem dX9_drawn_81 : decode cX9_drawn 81 = .ok (.aload_n 0, 1) := by decide +kernel
theorem dX9_drawn_82 : decode cX9_drawn 82 = .ok (.getfield 89, 3) := by decide +kernel
theorem dX9_drawn_85 : decode cX9_drawn 85 = .ok (.invokevirtual 197, 3) := by decide +kernel
theorem dX9_drawn_88 : decode cX9_drawn 88 = .ok (.ifCond .ne 12, 3) := by decide +kernel
theorem dX9_drawn_91 : decode cX9_drawn 91 = .ok (.aload_n 0, 1) := by decide +kernel
theorem dX9_drawn_92 : decode cX9_drawn 92 = .ok (.iconst 0, 1) := by decide +kernel
theorem dX9_drawn_93 : decode cX9_drawn 93 = .ok (.aload_n 0, 1) := by decide +kernel
theorem dX9_drawn_94 : decode cX9_drawn 94 = .ok (.getfield 89, 3) := by decide +kernel
theorem dX9_drawn_97 : decode cX9_drawn 97 = .ok (.invokevirtual 201, 3) := by decide +kernel
theorem dX9_drawn_100 : decode cX9_drawn 100 = .ok (.return_, 1) := by decide +kernel
theorem dX9_pass_0 : decode cX9_pass 0 = .ok (.aload_n 0, 1) := by decide +kernel
theorem dX9_pass_1 : decode cX9_pass 1 = .ok (.getfield 319, 3) := by decide +kernel
theorem dX9_pass_4 : decode cX9_pass 4 = .ok (.ifCond .eq 7, 3) := by decide +kernel
theorem dX9_pass_7 : decode cX9_pass 7 = .ok (.iload_n 1, 1) := by decide +kernel
theorem dX9_pass_8 : decode cX9_pass 8 = .ok (.goto 12, 3) := by decide +kernel
theorem dX9_pass_11 : decode cX9_pass 11 = .ok (.aload_n 0, 1) := by decide +kernel
theorem dX9_pass_12 : decode cX9_pass 12 = .ok (.getfield 74, 3) := by decide +kernel
theorem dX9_pass_15 : decode cX9_pass 15 = .ok (.aload_n 0, 1) := by decide +kernel
theorem dX9_pass_16 : decode cX9_pass 16 = .ok (.getfield 322, 3) := by decide +kernel
theorem dX9_pass_19 : decode cX9_pass 19 = .ok (.iaload, 1) := by decide +kernel
theorem dX9_pass_20 : decode cX9_pass 20 = .ok (.istore_n 2, 1) := by decide +kernel
theorem dX9_pass_21 : decode cX9_pass 21 = .ok (.aload_n 0, 1) := by decide +kernel
theorem dX9_pass_22 : decode cX9_pass 22 = .ok (.getfield 74, 3) := by decide +kernel
theorem dX9_pass_25 : decode cX9_pass 25 = .ok (.aload_n 0, 1) := by decide +kernel
theorem dX9_pass_26 : decode cX9_pass 26 = .ok (.getfield 322, 3) := by decide +kernel
theorem dX9_pass_29 : decode cX9_pass 29 = .ok (.iload_n 2, 1) := by decide +kernel
theorem dX9_pass_30 : decode cX9_pass 30 = .ok (.iastore, 1) := by decide +kernel
theorem dX9_pass_31 : decode cX9_pass 31 = .ok (.aload_n 0, 1) := by decide +kernel
theorem dX9_pass_32 : decode cX9_pass 32 = .ok (.dup, 1) := by decide +kernel
theorem dX9_pass_33 : decode cX9_pass 33 = .ok (.getfield 322, 3) := by decide +kernel
theorem dX9_pass_36 : decode cX9_pass 36 = .ok (.iconst 1, 1) := by decide +kernel
theorem dX9_pass_37 : decode cX9_pass 37 = .ok (.iadd, 1) := by decide +kernel
theorem dX9_pass_38 : decode cX9_pass 38 = .ok (.putfield 322, 3) := by decide +kernel
theorem dX9_pass_41 : decode cX9_pass 41 = .ok (.iload_n 2, 1) := by decide +kernel
theorem dX9_pass_42 : decode cX9_pass 42 = .ok (.ireturn, 1) := by decide +kernel
theorem dX9_passAll_0 : decode cX9_passAll 0 = .ok (.aload_n 0, 1) := by decide +kernel
theorem dX9_passAll_1 : decode cX9_passAll 1 = .ok (.aload_n 0, 1) := by decide +kernel
theorem dX9_passAll_2 : decode cX9_passAll 2 = .ok (.aload_n 0, 1) := by decide +kernel
theorem dX9_passAll_3 : decode cX9_passAll 3 = .ok (.getfield 85, 3) := by decide +kernel
theorem dX9_passAll_6 : decode cX9_passAll 6 = .ok (.invokevirtual 325, 3) := by decide +kernel
theorem dX9_passAll_9 : decode cX9_passAll 9 = .ok (.putfield 85, 3) := by decide +kernel
theorem dX9_passAll_12 : decode cX9_passAll 12 = .ok (.aload_n 0, 1) := by decide +kernel
theorem dX9_passAll_13 : decode cX9_passAll 13 = .ok (.aload_n 0, 1) := by decide +kernel
theorem dX9_passAll_14 : decode cX9_passAll 14 = .ok (.aload_n 0, 1) := by decide +kernel
theorem dX9_passAll_15 : decode cX9_passAll 15 = .ok (.getfield 89, 3) := by decide +kernel
theorem dX9_passAll_18 : decode cX9_passAll 18 = .ok (.invokevirtual 325, 3) := by decide +kernel
theorem dX9_passAll_21 : decode cX9_passAll 21 = .ok (.putfield 89, 3) := by decide +kernel
theorem dX9_passAll_24 : decode cX9_passAll 24 = .ok (.aload_n 0, 1) := by decide +kernel
theorem dX9_passAll_25 : decode cX9_passAll 25 = .ok (.aload_n 0, 1) := by decide +kernel
theorem dX9_passAll_26 : decode cX9_passAll 26 = .ok (.aload_n 0, 1) := by decide +kernel
theorem dX9_passAll_27 : decode cX9_passAll 27 = .ok (.getfield 92, 3) := by decide +kernel
theorem dX9_passAll_30 : decode cX9_passAll 30 = .ok (.invokevirtual 325, 3) := by decide +kernel
theorem dX9_passAll_33 : decode cX9_passAll 33 = .ok (.putfield 92, 3) := by decide +kernel
theorem dX9_passAll_36 : decode cX9_passAll 36 = .ok (.aload_n 0, 1) := by decide +kernel
theorem dX9_passAll_37 : decode cX9_passAll 37 = .ok (.aload_n 0, 1) := by decide +kernel
theorem dX9_passAll_38 : decode cX9_passAll 38 = .ok (.aload_n 0, 1) := by decide +kernel
theorem dX9_passAll_39 : decode cX9_passAll 39 = .ok (.getfield 95, 3) := by decide +kernel
theorem dX9_passAll_42 : decode cX9_passAll 42 = .ok (.invokevirtual 325, 3) := by decide +kernel
theorem dX9_passAll_45 : decode cX9_passAll 45 = .ok (.putfield 95, 3) := by decide +kernel
theorem dX9_passAll_48 : decode cX9_passAll 48 = .ok (.aload_n 0, 1) := by decide +kernel
theorem dX9_passAll_49 : decode cX9_passAll 49 = .ok (.aload_n 0, 1) := by decide +kernel
theorem dX9_passAll_50 : decode cX9_passAll 50 = .ok (.aload_n 0, 1) := by decide +kernel
theorem dX9_passAll_51 : decode cX9_passAll 51 = .ok (.getfield 98, 3) := by decide +kernel
theorem dX9_passAll_54 : decode cX9_passAll 54 = .ok (.invokevirtual 325, 3) := by decide +kernel
theorem dX9_passAll_57 : decode cX9_passAll 57 = .ok (.putfield 98, 3) := by decide +kernel
theorem dX9_passAll_60 : decode cX9_passAll 60 = .ok (.iconst 0, 1) := by decide +kernel
theorem dX9_passAll_61 : decode cX9_passAll 61 = .ok (.istore_n 1, 1) := by decide +kernel
theorem dX9_passAll_62 : decode cX9_passAll 62 = .ok (.iload_n 1, 1) := by decide +kernel
theorem dX9_passAll_63 : decode cX9_passAll 63 = .ok (.bipush 6, 2) := by decide +kernel
theorem dX9_passAll_65 : decode cX9_passAll 65 = .ok (.if_icmp .ge 25, 3) := by decide +kernel
theorem dX9_passAll_68 : decode cX9_passAll 68 = .ok (.aload_n 0, 1) := by decide +kernel
theorem dX9_passAll_69 : decode cX9_passAll 69 = .ok (.getfield 7, 3) := by decide +kernel
theorem dX9_passAll_72 : decode cX9_passAll 72 = .ok (.iload_n 1, 1) := by decide +kernel
theorem dX9_passAll_73 : decode cX9_passAll 73 = .ok (.aload_n 0, 1) := by decide +kernel
theorem dX9_passAll_74 : decode cX9_passAll 74 = .ok (.aload_n 0, 1) := by decide +kernel
theorem dX9_passAll_75 : decode cX9_passAll 75 = .ok (.getfield 7, 3) := by decide +kernel
theorem dX9_passAll_78 : decode cX9_passAll 78 = .ok (.iload_n 1, 1) := by decide +kernel
theorem dX9_passAll_79 : decode cX9_passAll 79 = .ok (.iaload, 1) := by decide +kernel
theorem dX9_passAll_80 : decode cX9_passAll 80 = .ok (.invokevirtual 325, 3) := by decide +kernel
theorem dX9_passAll_83 : decode cX9_passAll 83 = .ok (.iastore, 1) := by decide +kernel
theorem dX9_passAll_84 : decode cX9_passAll 84 = .ok (.iinc 1 1, 3) := by decide +kernel
theorem dX9_passAll_87 : decode cX9_passAll 87 = .ok (.goto (-25), 3) := by decide +kernel
theorem dX9_passAll_90 : decode cX9_passAll 90 = .ok (.iconst 0, 1) := by decide +kernel
theorem dX9_passAll_91 : decode cX9_passAll 91 = .ok (.istore_n 1, 1) := by decide +kernel
theorem dX9_passAll_92 : decode cX9_passAll 92 = .ok (.iload_n 1, 1) := by decide +kernel
theorem dX9_passAll_93 : decode cX9_passAll 93 = .ok (.bipush 30, 2) := by decide +kernel
theorem dX9_passAll_95 : decode cX9_passAll 95 = .ok (.if_icmp .ge 57, 3) := by decide +kernel
theorem dX9_passAll_98 : decode cX9_passAll 98 = .ok (.aload_n 0, 1) := by decide +kernel
theorem dX9_passAll_99 : decode cX9_passAll 99 = .ok (.getfield 13, 3) := by decide +kernel
theorem dX9_passAll_102 : decode cX9_passAll 102 = .ok (.iload_n 1, 1) := by decide +kernel
theorem dX9_passAll_103 : decode cX9_passAll 103 = .ok (.aload_n 0, 1) := by decide +kernel
theorem dX9_passAll_104 : decode cX9_passAll 104 = .ok (.aload_n 0, 1) := by decide +kernel
theorem dX9_passAll_105 : decode cX9_passAll 105 = .ok (.getfield 13, 3) := by decide +kernel
theorem dX9_passAll_108 : decode cX9_passAll 108 = .ok (.iload_n 1, 1) := by decide +kernel
theorem dX9_passAll_109 : decode cX9_passAll 109 = .ok (.iaload, 1) := by decide +kernel
theorem dX9_passAll_110 : decode cX9_passAll 110 = .ok (.invokevirtual 325, 3) := by decide +kernel
theorem dX9_passAll_113 : decode cX9_passAll 113 = .ok (.iastore, 1) := by decide +kernel
theorem dX9_passAll_114 : decode cX9_passAll 114 = .ok (.aload_n 0, 1) := by decide +kernel
theorem dX9_passAll_115 : decode cX9_passAll 115 = .ok (.getfield 16, 3) := by decide +kernel
theorem dX9_passAll_118 : decode cX9_passAll 118 = .ok (.iload_n 1, 1) := by decide +kernel
theorem dX9_passAll_119 : decode cX9_passAll 119 = .ok (.aload_n 0, 1) := by decide +kernel
theorem dX9_passAll_120 : decode cX9_passAll 120 = .ok (.aload_n 0, 1) := by decide +kernel
theorem dX9_passAll_121 : decode cX9_passAll 121 = .ok (.getfield 16, 3) := by decide +kernel
theorem dX9_passAll_124 : decode cX9_passAll 124 = .ok (.iload_n 1, 1) := by decide +kernel
theorem dX9_passAll_125 : decode cX9_passAll 125 = .ok (.iaload, 1) := by decide +kernel
theorem dX9_passAll_126 : decode cX9_passAll 126 = .ok (.invokevirtual 325, 3) := by decide +kernel
theorem dX9_passAll_129 : decode cX9_passAll 129 = .ok (.iastore, 1) := by decide +kernel
theorem dX9_passAll_130 : decode cX9_passAll 130 = .ok (.aload_n 0, 1) := by decide +kernel
theorem dX9_passAll_131 : decode cX9_passAll 131 = .ok (.getfield 19, 3) := by decide +kernel
theorem dX9_passAll_134 : decode cX9_passAll 134 = .ok (.iload_n 1, 1) := by decide +kernel
theorem dX9_passAll_135 : decode cX9_passAll 135 = .ok (.aload_n 0, 1) := by decide +kernel
theorem dX9_passAll_136 : decode cX9_passAll 136 = .ok (.aload_n 0, 1) := by decide +kernel
theorem dX9_passAll_137 : decode cX9_passAll 137 = .ok (.getfield 19, 3) := by decide +kernel
theorem dX9_passAll_140 : decode cX9_passAll 140 = .ok (.iload_n 1, 1) := by decide +kernel
theorem dX9_passAll_141 : decode cX9_passAll 141 = .ok (.iaload, 1) := by decide +kernel
theorem dX9_passAll_142 : decode cX9_passAll 142 = .ok (.invokevirtual 325, 3) := by decide +kernel
theorem dX9_passAll_145 : decode cX9_passAll 145 = .ok (.iastore, 1) := by decide +kernel
theorem dX9_passAll_146 : decode cX9_passAll 146 = .ok (.iinc 1 1, 3) := by decide +kernel
theorem dX9_passAll_149 : decode cX9_passAll 149 = .ok (.goto (-57), 3) := by decide +kernel
theorem dX9_passAll_152 : decode cX9_passAll 152 = .ok (.iconst 0, 1) := by decide +kernel
theorem dX9_passAll_153 : decode cX9_passAll 153 = .ok (.istore_n 1, 1) := by decide +kernel
theorem dX9_passAll_154 : decode cX9_passAll 154 = .ok (.iload_n 1, 1) := by decide +kernel
theorem dX9_passAll_155 : decode cX9_passAll 155 = .ok (.bipush 8, 2) := by decide +kernel
theorem dX9_passAll_157 : decode cX9_passAll 157 = .ok (.if_icmp .ge 41, 3) := by decide +kernel
theorem dX9_passAll_160 : decode cX9_passAll 160 = .ok (.aload_n 0, 1) := by decide +kernel
theorem dX9_passAll_161 : decode cX9_passAll 161 = .ok (.getfield 22, 3) := by decide +kernel
theorem dX9_passAll_164 : decode cX9_passAll 164 = .ok (.iload_n 1, 1) := by decide +kernel
theorem dX9_passAll_165 : decode cX9_passAll 165 = .ok (.aload_n 0, 1) := by decide +kernel
theorem dX9_passAll_166 : decode cX9_passAll 166 = .ok (.aload_n 0, 1) := by decide +kernel
theorem dX9_passAll_167 : decode cX9_passAll 167 = .ok (.getfield 22, 3) := by decide +kernel
theorem dX9_passAll_170 : decode cX9_passAll 170 = .ok (.iload_n 1, 1) := by decide +kernel
theorem dX9_passAll_171 : decode cX9_passAll 171 = .ok (.iaload, 1) := by decide +kernel
theorem dX9_passAll_172 : decode cX9_passAll 172 = .ok (.invokevirtual 325, 3) := by decide +kernel
theorem dX9_passAll_175 : decode cX9_passAll 175 = .ok (.iastore, 1) := by decide +kernel
theorem dX9_passAll_176 : decode cX9_passAll 176 = .ok (.aload_n 0, 1) := by decide +kernel
theorem dX9_passAll_177 : decode cX9_passAll 177 = .ok (.getfield 25, 3) := by decide +kernel
theorem dX9_passAll_180 : decode cX9_passAll 180 = .ok (.iload_n 1, 1) := by decide +kernel
theorem dX9_passAll_181 : decode cX9_passAll 181 = .ok (.aload_n 0, 1) := by decide +kernel
theorem dX9_passAll_182 : decode cX9_passAll 182 = .ok (.aload_n 0, 1) := by decide +kernel
theorem dX9_passAll_183 : decode cX9_passAll 183 = .ok (.getfield 25, 3) := by decide +kernel
theorem dX9_passAll_186 : decode cX9_passAll 186 = .ok (.iload_n 1, 1) := by decide +kernel
theorem dX9_passAll_187 : decode cX9_passAll 187 = .ok (.iaload, 1) := by decide +kernel
theorem dX9_passAll_188 : decode cX9_passAll 188 = .ok (.invokevirtual 325, 3) := by decide +kernel
theorem dX9_passAll_191 : decode cX9_passAll 191 = .ok (.iastore, 1) := by decide +kernel
theorem dX9_passAll_192 : decode cX9_passAll 192 = .ok (.iinc 1 1, 3) := by decide +kernel
theorem dX9_passAll_195 : decode cX9_passAll 195 = .ok (.goto (-41), 3) := by decide +kernel
theorem dX9_passAll_198 : decode cX9_passAll 198 = .ok (.return_, 1) := by decide +kernel
theorem dX9_image_0 : decode cX9_image 0 = .ok (.iload_n 1, 1) := by decide +kernel
theorem dX9_image_1 : decode cX9_image 1 = .ok (.i2l, 1) := by decide +kernel
theorem dX9_image_2 : decode cX9_image 2 = .ok (.lconst 0, 1) := by decide +kernel
theorem dX9_image_3 : decode cX9_image 3 = .ok (.lconst 1, 1) := by decide +kernel
theorem dX9_image_4 : decode cX9_image 4 = .ok (.invokestatic 101, 3) := by decide +kernel
theorem dX9_image_7 : decode cX9_image 7 = .ok (.ifCond .ne 6, 3) := by decide +kernel
theorem dX9_image_10 : decode cX9_image 10 = .ok (.bipush (-2), 2) := by decide +kernel
theorem dX9_image_12 : decode cX9_image 12 = .ok (.ireturn, 1) := by decide +kernel
theorem dX9_image_13 : decode cX9_image 13 = .ok (.aload_n 0, 1) := by decide +kernel
theorem dX9_image_14 : decode cX9_image 14 = .ok (.sipush 130, 3) := by decide +kernel
theorem dX9_image_17 : decode cX9_image 17 = .ok (.iload_n 1, 1) := by decide +kernel
theorem dX9_image_18 : decode cX9_image 18 = .ok (.imul, 1) := by decide +kernel
theorem dX9_image_19 : decode cX9_image 19 = .ok (.putfield 322, 3) := by decide +kernel
theorem dX9_image_22 : decode cX9_image 22 = .ok (.aload_n 0, 1) := by decide +kernel
theorem dX9_image_23 : decode cX9_image 23 = .ok (.iconst 1, 1) := by decide +kernel
theorem dX9_image_24 : decode cX9_image 24 = .ok (.putfield 319, 3) := by decide +kernel
theorem dX9_image_27 : decode cX9_image 27 = .ok (.aload_n 0, 1) := by decide +kernel
theorem dX9_image_28 : decode cX9_image 28 = .ok (.invokevirtual 328, 3) := by decide +kernel
theorem dX9_image_31 : decode cX9_image 31 = .ok (.aload_n 0, 1) := by decide +kernel
theorem dX9_image_32 : decode cX9_image 32 = .ok (.getfield 77, 3) := by decide +kernel
theorem dX9_image_35 : decode cX9_image 35 = .ok (.iload_n 1, 1) := by decide +kernel
theorem dX9_image_36 : decode cX9_image 36 = .ok (.iconst 1, 1) := by decide +kernel
theorem dX9_image_37 : decode cX9_image 37 = .ok (.bastore, 1) := by decide +kernel
theorem dX9_image_38 : decode cX9_image 38 = .ok (.iconst 1, 1) := by decide +kernel
theorem dX9_image_39 : decode cX9_image 39 = .ok (.ireturn, 1) := by decide +kernel
theorem dX9_restore_0 : decode cX9_restore 0 = .ok (.iload_n 1, 1) := by decide +kernel
theorem dX9_restore_1 : decode cX9_restore 1 = .ok (.i2l, 1) := by decide +kernel
theorem dX9_restore_2 : decode cX9_restore 2 = .ok (.lconst 0, 1) := by decide +kernel
theorem dX9_restore_3 : decode cX9_restore 3 = .ok (.lconst 1, 1) := by decide +kernel
theorem dX9_restore_4 : decode cX9_restore 4 = .ok (.invokestatic 101, 3) := by decide +kernel
theorem dX9_restore_7 : decode cX9_restore 7 = .ok (.ifCond .ne 6, 3) := by decide +kernel
theorem dX9_restore_10 : decode cX9_restore 10 = .ok (.bipush (-2), 2) := by decide +kernel
theorem dX9_restore_12 : decode cX9_restore 12 = .ok (.ireturn, 1) := by decide +kernel
theorem dX9_restore_13 : decode cX9_restore 13 = .ok (.aload_n 0, 1) := by decide +kernel
theorem dX9_restore_14 : decode cX9_restore 14 = .ok (.getfield 77, 3) := by decide +kernel
theorem dX9_restore_17 : decode cX9_restore 17 = .ok (.iload_n 1, 1) := by decide +kernel
theorem dX9_restore_18 : decode cX9_restore 18 = .ok (.baload, 1) := by decide +kernel
theorem dX9_restore_19 : decode cX9_restore 19 = .ok (.ifCond .ne 6, 3) := by decide +kernel
theorem dX9_restore_22 : decode cX9_restore 22 = .ok (.bipush (-3), 2) := by decide +kernel
theorem dX9_restore_24 : decode cX9_restore 24 = .ok (.ireturn, 1) := by decide +kernel
theorem dX9_restore_25 : decode cX9_restore 25 = .ok (.aload_n 0, 1) := by decide +kernel
theorem dX9_restore_26 : decode cX9_restore 26 = .ok (.sipush 130, 3) := by decide +kernel
theorem dX9_restore_29 : decode cX9_restore 29 = .ok (.iload_n 1, 1) := by decide +kernel
theorem dX9_restore_30 : decode cX9_restore 30 = .ok (.imul, 1) := by decide +kernel
theorem dX9_restore_31 : decode cX9_restore 31 = .ok (.putfield 322, 3) := by decide +kernel
theorem dX9_restore_34 : decode cX9_restore 34 = .ok (.aload_n 0, 1) := by decide +kernel
theorem dX9_restore_35 : decode cX9_restore 35 = .ok (.iconst 0, 1) := by decide +kernel
theorem dX9_restore_36 : decode cX9_restore 36 = .ok (.putfield 319, 3) := by decide +kernel
theorem dX9_restore_39 : decode cX9_restore 39 = .ok (.aload_n 0, 1) := by decide +kernel
theorem dX9_restore_40 : decode cX9_restore 40 = .ok (.invokevirtual 328, 3) := by decide +kernel
theorem dX9_restore_43 : decode cX9_restore 43 = .ok (.iconst 1, 1) := by decide +kernel
theorem dX9_restore_44 : decode cX9_restore 44 = .ok (.ireturn, 1) := by decide +kernel
theorem dX9_told_0 : decode cX9_told 0 = .ok (.iload_n 1, 1) := by decide +kernel
theorem dX9_told_1 : decode cX9_told 1 = .ok (.i2l, 1) := by decide +kernel
theorem dX9_told_2 : decode cX9_told 2 = .ok (.ldc2_w 285, 3) := by decide +kernel
theorem dX9_told_5 : decode cX9_told 5 = .ok (.ldc2_w 331, 3) := by decide +kernel
theorem dX9_told_8 : decode cX9_told 8 = .ok (.invokestatic 101, 3) := by decide +kernel
theorem dX9_told_11 : decode cX9_told 11 = .ok (.ifCond .eq 13, 3) := by decide +kernel
theorem dX9_told_14 : decode cX9_told 14 = .ok (.aload_n 0, 1) := by decide +kernel
theorem dX9_told_15 : decode cX9_told 15 = .ok (.getfield 7, 3) := by decide +kernel
theorem dX9_told_18 : decode cX9_told 18 = .ok (.iload_n 1, 1) := by decide +kernel
theorem dX9_told_19 : decode cX9_told 19 = .ok (.bipush 10, 2) := by decide +kernel
theorem dX9_told_21 : decode cX9_told 21 = .ok (.isub, 1) := by decide +kernel
theorem dX9_told_22 : decode cX9_told 22 = .ok (.iaload, 1) := by decide +kernel
theorem dX9_told_23 : decode cX9_told 23 = .ok (.ireturn, 1) := by decide +kernel
theorem dX9_told_24 : decode cX9_told 24 = .ok (.iload_n 1, 1) := by decide +kernel
theorem dX9_told_25 : decode cX9_told 25 = .ok (.ifCond .ne 10, 3) := by decide +kernel
theorem dX9_told_28 : decode cX9_told 28 = .ok (.aload_n 0, 1) := by decide +kernel
theorem dX9_told_29 : decode cX9_told 29 = .ok (.getfield 124, 3) := by decide +kernel
theorem dX9_told_32 : decode cX9_told 32 = .ok (.goto 65, 3) := by decide +kernel
theorem dX9_told_35 : decode cX9_told 35 = .ok (.iload_n 1, 1) := by decide +kernel
theorem dX9_told_36 : decode cX9_told 36 = .ok (.iconst 1, 1) := by decide +kernel
theorem dX9_told_37 : decode cX9_told 37 = .ok (.if_icmp .ne 10, 3) := by decide +kernel
theorem dX9_told_40 : decode cX9_told 40 = .ok (.aload_n 0, 1) := by decide +kernel
theorem dX9_told_41 : decode cX9_told 41 = .ok (.getfield 85, 3) := by decide +kernel
theorem dX9_told_44 : decode cX9_told 44 = .ok (.goto 53, 3) := by decide +kernel
theorem dX9_told_47 : decode cX9_told 47 = .ok (.iload_n 1, 1) := by decide +kernel
theorem dX9_told_48 : decode cX9_told 48 = .ok (.iconst 2, 1) := by decide +kernel
theorem dX9_told_49 : decode cX9_told 49 = .ok (.if_icmp .ne 10, 3) := by decide +kernel
theorem dX9_told_52 : decode cX9_told 52 = .ok (.aload_n 0, 1) := by decide +kernel
theorem dX9_told_53 : decode cX9_told 53 = .ok (.getfield 89, 3) := by decide +kernel
theorem dX9_told_56 : decode cX9_told 56 = .ok (.goto 41, 3) := by decide +kernel
theorem dX9_told_59 : decode cX9_told 59 = .ok (.iload_n 1, 1) := by decide +kernel
theorem dX9_told_60 : decode cX9_told 60 = .ok (.iconst 3, 1) := by decide +kernel
theorem dX9_told_61 : decode cX9_told 61 = .ok (.if_icmp .ne 10, 3) := by decide +kernel
theorem dX9_told_64 : decode cX9_told 64 = .ok (.aload_n 0, 1) := by decide +kernel
theorem dX9_told_65 : decode cX9_told 65 = .ok (.getfield 92, 3) := by decide +kernel
theorem dX9_told_68 : decode cX9_told 68 = .ok (.goto 29, 3) := by decide +kernel
theorem dX9_told_71 : decode cX9_told 71 = .ok (.iload_n 1, 1) := by decide +kernel
theorem dX9_told_72 : decode cX9_told 72 = .ok (.iconst 4, 1) := by decide +kernel
theorem dX9_told_73 : decode cX9_told 73 = .ok (.if_icmp .ne 10, 3) := by decide +kernel
theorem dX9_told_76 : decode cX9_told 76 = .ok (.aload_n 0, 1) := by decide +kernel
theorem dX9_told_77 : decode cX9_told 77 = .ok (.getfield 95, 3) := by decide +kernel
theorem dX9_told_80 : decode cX9_told 80 = .ok (.goto 17, 3) := by decide +kernel
theorem dX9_told_83 : decode cX9_told 83 = .ok (.iload_n 1, 1) := by decide +kernel
theorem dX9_told_84 : decode cX9_told 84 = .ok (.iconst 5, 1) := by decide +kernel
theorem dX9_told_85 : decode cX9_told 85 = .ok (.if_icmp .ne 10, 3) := by decide +kernel
theorem dX9_told_88 : decode cX9_told 88 = .ok (.aload_n 0, 1) := by decide +kernel
theorem dX9_told_89 : decode cX9_told 89 = .ok (.getfield 98, 3) := by decide +kernel
theorem dX9_told_92 : decode cX9_told 92 = .ok (.goto 5, 3) := by decide +kernel
theorem dX9_told_95 : decode cX9_told 95 = .ok (.bipush (-2), 2) := by decide +kernel
theorem dX9_told_97 : decode cX9_told 97 = .ok (.ireturn, 1) := by decide +kernel
theorem dL_law_0 : decode cL_law 0 = .ok (.new 7, 3) := by decide +kernel
theorem dL_law_3 : decode cL_law 3 = .ok (.dup, 1) := by decide +kernel
theorem dL_law_4 : decode cL_law 4 = .ok (.invokespecial 9, 3) := by decide +kernel
theorem dL_law_7 : decode cL_law 7 = .ok (.astore_n 1, 1) := by decide +kernel
theorem dL_law_8 : decode cL_law 8 = .ok (.new 10, 3) := by decide +kernel
theorem dL_law_11 : decode cL_law 11 = .ok (.dup, 1) := by decide +kernel
theorem dL_law_12 : decode cL_law 12 = .ok (.invokespecial 12, 3) := by decide +kernel
theorem dL_law_15 : decode cL_law 15 = .ok (.astore_n 2, 1) := by decide +kernel
theorem dL_law_16 : decode cL_law 16 = .ok (.iconst 0, 1) := by decide +kernel
theorem dL_law_17 : decode cL_law 17 = .ok (.istore_n 3, 1) := by decide +kernel
theorem dL_law_18 : decode cL_law 18 = .ok (.iload_n 3, 1) := by decide +kernel
theorem dL_law_19 : decode cL_law 19 = .ok (.aload_n 0, 1) := by decide +kernel
theorem dL_law_20 : decode cL_law 20 = .ok (.arraylength, 1) := by decide +kernel
theorem dL_law_21 : decode cL_law 21 = .ok (.bipush 6, 2) := by decide +kernel
theorem dL_law_23 : decode cL_law 23 = .ok (.isub, 1) := by decide +kernel
theorem dL_law_24 : decode cL_law 24 = .ok (.if_icmp .gt 981, 3) := by decide +kernel
theorem dL_law_27 : decode cL_law 27 = .ok (.aload_n 0, 1) := by decide +kernel
theorem dL_law_28 : decode cL_law 28 = .ok (.iload_n 3, 1) := by decide +kernel
theorem dL_law_29 : decode cL_law 29 = .ok (.iaload, 1) := by decide +kernel
theorem dL_law_30 : decode cL_law 30 = .ok (.bipush 31, 2) := by decide +kernel
theorem dL_law_32 : decode cL_law 32 = .ok (.iand, 1) := by decide +kernel
theorem dL_law_33 : decode cL_law 33 = .ok (.tableswitch 966 0 28 #[131, 154, 203, 236, 259, 282, 295, 318, 341, 364, 397, 420, 433, 466, 479, 492, 525, 538, 561, 584, 607, 661, 714, 768, 831, 854, 897, 920, 943], 131) := by decide +kernel
theorem dL_law_164 : decode cL_law 164 = .ok (.aload_n 1, 1) := by decide +kernel
theorem dL_law_165 : decode cL_law 165 = .ok (.aload_n 0, 1) := by decide +kernel
theorem dL_law_166 : decode cL_law 166 = .ok (.iload_n 3, 1) := by decide +kernel
theorem dL_law_167 : decode cL_law 167 = .ok (.iconst 1, 1) := by decide +kernel
theorem dL_law_168 : decode cL_law 168 = .ok (.iadd, 1) := by decide +kernel
theorem dL_law_169 : decode cL_law 169 = .ok (.iaload, 1) := by decide +kernel
theorem dL_law_170 : decode cL_law 170 = .ok (.invokevirtual 13, 3) := by decide +kernel
theorem dL_law_173 : decode cL_law 173 = .ok (.aload_n 2, 1) := by decide +kernel
theorem dL_law_174 : decode cL_law 174 = .ok (.aload_n 0, 1) := by decide +kernel
theorem dL_law_175 : decode cL_law 175 = .ok (.iload_n 3, 1) := by decide +kernel
theorem dL_law_176 : decode cL_law 176 = .ok (.iconst 1, 1) := by decide +kernel
theorem dL_law_177 : decode cL_law 177 = .ok (.iadd, 1) := by decide +kernel
theorem dL_law_178 : decode cL_law 178 = .ok (.iaload, 1) := by decide +kernel
theorem dL_law_179 : decode cL_law 179 = .ok (.invokevirtual 17, 3) := by decide +kernel
theorem dL_law_182 : decode cL_law 182 = .ok (.if_icmp .eq 817, 3) := by decide +kernel
theorem dL_law_185 : decode cL_law 185 = .ok (.iconst 0, 1) := by decide +kernel
theorem dL_law_186 : decode cL_law 186 = .ok (.ireturn, 1) := by decide +kernel
theorem dL_law_187 : decode cL_law 187 = .ok (.aload_n 1, 1) := by decide +kernel
theorem dL_law_188 : decode cL_law 188 = .ok (.aload_n 0, 1) := by decide +kernel
theorem dL_law_189 : decode cL_law 189 = .ok (.iload_n 3, 1) := by decide +kernel
theorem dL_law_190 : decode cL_law 190 = .ok (.iconst 1, 1) := by decide +kernel
theorem dL_law_191 : decode cL_law 191 = .ok (.iadd, 1) := by decide +kernel
theorem dL_law_192 : decode cL_law 192 = .ok (.iaload, 1) := by decide +kernel
theorem dL_law_193 : decode cL_law 193 = .ok (.aload_n 0, 1) := by decide +kernel
theorem dL_law_194 : decode cL_law 194 = .ok (.iload_n 3, 1) := by decide +kernel
theorem dL_law_195 : decode cL_law 195 = .ok (.iconst 2, 1) := by decide +kernel
theorem dL_law_196 : decode cL_law 196 = .ok (.iadd, 1) := by decide +kernel
theorem dL_law_197 : decode cL_law 197 = .ok (.iaload, 1) := by decide +kernel
theorem dL_law_198 : decode cL_law 198 = .ok (.ifCond .eq 7, 3) := by decide +kernel
theorem dL_law_201 : decode cL_law 201 = .ok (.iconst 1, 1) := by decide +kernel
theorem dL_law_202 : decode cL_law 202 = .ok (.goto 4, 3) := by decide +kernel
theorem dL_law_205 : decode cL_law 205 = .ok (.iconst 0, 1) := by decide +kernel
theorem dL_law_206 : decode cL_law 206 = .ok (.invokevirtual 18, 3) := by decide +kernel
theorem dL_law_209 : decode cL_law 209 = .ok (.aload_n 2, 1) := by decide +kernel
theorem dL_law_210 : decode cL_law 210 = .ok (.aload_n 0, 1) := by decide +kernel
theorem dL_law_211 : decode cL_law 211 = .ok (.iload_n 3, 1) := by decide +kernel
theorem dL_law_212 : decode cL_law 212 = .ok (.iconst 1, 1) := by decide +kernel
theorem dL_law_213 : decode cL_law 213 = .ok (.iadd, 1) := by decide +kernel
theorem dL_law_214 : decode cL_law 214 = .ok (.iaload, 1) := by decide +kernel
theorem dL_law_215 : decode cL_law 215 = .ok (.aload_n 0, 1) := by decide +kernel
theorem dL_law_216 : decode cL_law 216 = .ok (.iload_n 3, 1) := by decide +kernel
theorem dL_law_217 : decode cL_law 217 = .ok (.iconst 2, 1) := by decide +kernel
theorem dL_law_218 : decode cL_law 218 = .ok (.iadd, 1) := by decide +kernel
theorem dL_law_219 : decode cL_law 219 = .ok (.iaload, 1) := by decide +kernel
theorem dL_law_220 : decode cL_law 220 = .ok (.ifCond .eq 7, 3) := by decide +kernel
theorem dL_law_223 : decode cL_law 223 = .ok (.iconst 1, 1) := by decide +kernel
theorem dL_law_224 : decode cL_law 224 = .ok (.goto 4, 3) := by decide +kernel
theorem dL_law_227 : decode cL_law 227 = .ok (.iconst 0, 1) := by decide +kernel
theorem dL_law_228 : decode cL_law 228 = .ok (.invokevirtual 22, 3) := by decide +kernel
theorem dL_law_231 : decode cL_law 231 = .ok (.if_icmp .eq 768, 3) := by decide +kernel
theorem dL_law_234 : decode cL_law 234 = .ok (.iconst 0, 1) := by decide +kernel
theorem dL_law_235 : decode cL_law 235 = .ok (.ireturn, 1) := by decide +kernel
theorem dL_law_236 : decode cL_law 236 = .ok (.aload_n 1, 1) := by decide +kernel
theorem dL_law_237 : decode cL_law 237 = .ok (.aload_n 0, 1) := by decide +kernel
theorem dL_law_238 : decode cL_law 238 = .ok (.iload_n 3, 1) := by decide +kernel
theorem dL_law_239 : decode cL_law 239 = .ok (.iconst 1, 1) := by decide +kernel
theorem dL_law_240 : decode cL_law 240 = .ok (.iadd, 1) := by decide +kernel
theorem dL_law_241 : decode cL_law 241 = .ok (.iaload, 1) := by decide +kernel
theorem dL_law_242 : decode cL_law 242 = .ok (.aload_n 0, 1) := by decide +kernel
theorem dL_law_243 : decode cL_law 243 = .ok (.iload_n 3, 1) := by decide +kernel
theorem dL_law_244 : decode cL_law 244 = .ok (.iconst 2, 1) := by decide +kernel
theorem dL_law_245 : decode cL_law 245 = .ok (.iadd, 1) := by decide +kernel
theorem dL_law_246 : decode cL_law 246 = .ok (.iaload, 1) := by decide +kernel
theorem dL_law_247 : decode cL_law 247 = .ok (.invokevirtual 23, 3) := by decide +kernel
theorem dL_law_250 : decode cL_law 250 = .ok (.aload_n 2, 1) := by decide +kernel
theorem dL_law_251 : decode cL_law 251 = .ok (.aload_n 0, 1) := by decide +kernel
theorem dL_law_252 : decode cL_law 252 = .ok (.iload_n 3, 1) := by decide +kernel
theorem dL_law_253 : decode cL_law 253 = .ok (.iconst 1, 1) := by decide +kernel
theorem dL_law_254 : decode cL_law 254 = .ok (.iadd, 1) := by decide +kernel
theorem dL_law_255 : decode cL_law 255 = .ok (.iaload, 1) := by decide +kernel
theorem dL_law_256 : decode cL_law 256 = .ok (.aload_n 0, 1) := by decide +kernel
theorem dL_law_257 : decode cL_law 257 = .ok (.iload_n 3, 1) := by decide +kernel
theorem dL_law_258 : decode cL_law 258 = .ok (.iconst 2, 1) := by decide +kernel
theorem dL_law_259 : decode cL_law 259 = .ok (.iadd, 1) := by decide +kernel
theorem dL_law_260 : decode cL_law 260 = .ok (.iaload, 1) := by decide +kernel
theorem dL_law_261 : decode cL_law 261 = .ok (.invokevirtual 27, 3) := by decide +kernel
theorem dL_law_264 : decode cL_law 264 = .ok (.if_icmp .eq 735, 3) := by decide +kernel
theorem dL_law_267 : decode cL_law 267 = .ok (.iconst 0, 1) := by decide +kernel
theorem dL_law_268 : decode cL_law 268 = .ok (.ireturn, 1) := by decide +kernel
theorem dL_law_269 : decode cL_law 269 = .ok (.aload_n 1, 1) := by decide +kernel
theorem dL_law_270 : decode cL_law 270 = .ok (.aload_n 0, 1) := by decide +kernel
theorem dL_law_271 : decode cL_law 271 = .ok (.iload_n 3, 1) := by decide +kernel
theorem dL_law_272 : decode cL_law 272 = .ok (.iconst 1, 1) := by decide +kernel
theorem dL_law_273 : decode cL_law 273 = .ok (.iadd, 1) := by decide +kernel
theorem dL_law_274 : decode cL_law 274 = .ok (.iaload, 1) := by decide +kernel
theorem dL_law_275 : decode cL_law 275 = .ok (.invokevirtual 28, 3) := by decide +kernel
theorem dL_law_278 : decode cL_law 278 = .ok (.aload_n 2, 1) := by decide +kernel
theorem dL_law_279 : decode cL_law 279 = .ok (.aload_n 0, 1) := by decide +kernel
theorem dL_law_280 : decode cL_law 280 = .ok (.iload_n 3, 1) := by decide +kernel
theorem dL_law_281 : decode cL_law 281 = .ok (.iconst 1, 1) := by decide +kernel
theorem dL_law_282 : decode cL_law 282 = .ok (.iadd, 1) := by decide +kernel
theorem dL_law_283 : decode cL_law 283 = .ok (.iaload, 1) := by decide +kernel
theorem dL_law_284 : decode cL_law 284 = .ok (.invokevirtual 31, 3) := by decide +kernel
theorem dL_law_287 : decode cL_law 287 = .ok (.if_icmp .eq 712, 3) := by decide +kernel
theorem dL_law_290 : decode cL_law 290 = .ok (.iconst 0, 1) := by decide +kernel
theorem dL_law_291 : decode cL_law 291 = .ok (.ireturn, 1) := by decide +kernel
theorem dL_law_292 : decode cL_law 292 = .ok (.aload_n 1, 1) := by decide +kernel
theorem dL_law_293 : decode cL_law 293 = .ok (.aload_n 0, 1) := by decide +kernel
theorem dL_law_294 : decode cL_law 294 = .ok (.iload_n 3, 1) := by decide +kernel
theorem dL_law_295 : decode cL_law 295 = .ok (.iconst 1, 1) := by decide +kernel
theorem dL_law_296 : decode cL_law 296 = .ok (.iadd, 1) := by decide +kernel
theorem dL_law_297 : decode cL_law 297 = .ok (.iaload, 1) := by decide +kernel
theorem dL_law_298 : decode cL_law 298 = .ok (.invokevirtual 32, 3) := by decide +kernel
theorem dL_law_301 : decode cL_law 301 = .ok (.aload_n 2, 1) := by decide +kernel
theorem dL_law_302 : decode cL_law 302 = .ok (.aload_n 0, 1) := by decide +kernel
theorem dL_law_303 : decode cL_law 303 = .ok (.iload_n 3, 1) := by decide +kernel
theorem dL_law_304 : decode cL_law 304 = .ok (.iconst 1, 1) := by decide +kernel
theorem dL_law_305 : decode cL_law 305 = .ok (.iadd, 1) := by decide +kernel
theorem dL_law_306 : decode cL_law 306 = .ok (.iaload, 1) := by decide +kernel
theorem dL_law_307 : decode cL_law 307 = .ok (.invokevirtual 35, 3) := by decide +kernel
theorem dL_law_310 : decode cL_law 310 = .ok (.if_icmp .eq 689, 3) := by decide +kernel
theorem dL_law_313 : decode cL_law 313 = .ok (.iconst 0, 1) := by decide +kernel
theorem dL_law_314 : decode cL_law 314 = .ok (.ireturn, 1) := by decide +kernel
theorem dL_law_315 : decode cL_law 315 = .ok (.aload_n 1, 1) := by decide +kernel
theorem dL_law_316 : decode cL_law 316 = .ok (.invokevirtual 36, 3) := by decide +kernel
theorem dL_law_319 : decode cL_law 319 = .ok (.aload_n 2, 1) := by decide +kernel
theorem dL_law_320 : decode cL_law 320 = .ok (.invokevirtual 40, 3) := by decide +kernel
theorem dL_law_323 : decode cL_law 323 = .ok (.if_icmp .eq 676, 3) := by decide +kernel
theorem dL_law_326 : decode cL_law 326 = .ok (.iconst 0, 1) := by decide +kernel
theorem dL_law_327 : decode cL_law 327 = .ok (.ireturn, 1) := by decide +kernel
theorem dL_law_328 : decode cL_law 328 = .ok (.aload_n 1, 1) := by decide +kernel
theorem dL_law_329 : decode cL_law 329 = .ok (.aload_n 0, 1) := by decide +kernel
theorem dL_law_330 : decode cL_law 330 = .ok (.iload_n 3, 1) := by decide +kernel
theorem dL_law_331 : decode cL_law 331 = .ok (.iconst 1, 1) := by decide +kernel
theorem dL_law_332 : decode cL_law 332 = .ok (.iadd, 1) := by decide +kernel
theorem dL_law_333 : decode cL_law 333 = .ok (.iaload, 1) := by decide +kernel
theorem dL_law_334 : decode cL_law 334 = .ok (.invokevirtual 41, 3) := by decide +kernel
theorem dL_law_337 : decode cL_law 337 = .ok (.aload_n 2, 1) := by decide +kernel
theorem dL_law_338 : decode cL_law 338 = .ok (.aload_n 0, 1) := by decide +kernel
theorem dL_law_339 : decode cL_law 339 = .ok (.iload_n 3, 1) := by decide +kernel
theorem dL_law_340 : decode cL_law 340 = .ok (.iconst 1, 1) := by decide +kernel
theorem dL_law_341 : decode cL_law 341 = .ok (.iadd, 1) := by decide +kernel
theorem dL_law_342 : decode cL_law 342 = .ok (.iaload, 1) := by decide +kernel
theorem dL_law_343 : decode cL_law 343 = .ok (.invokevirtual 44, 3) := by decide +kernel
theorem dL_law_346 : decode cL_law 346 = .ok (.if_icmp .eq 653, 3) := by decide +kernel
theorem dL_law_349 : decode cL_law 349 = .ok (.iconst 0, 1) := by decide +kernel
theorem dL_law_350 : decode cL_law 350 = .ok (.ireturn, 1) := by decide +kernel
theorem dL_law_351 : decode cL_law 351 = .ok (.aload_n 1, 1) := by decide +kernel
theorem dL_law_352 : decode cL_law 352 = .ok (.aload_n 0, 1) := by decide +kernel
theorem dL_law_353 : decode cL_law 353 = .ok (.iload_n 3, 1) := by decide +kernel
theorem dL_law_354 : decode cL_law 354 = .ok (.iconst 1, 1) := by decide +kernel
theorem dL_law_355 : decode cL_law 355 = .ok (.iadd, 1) := by decide +kernel
theorem dL_law_356 : decode cL_law 356 = .ok (.iaload, 1) := by decide +kernel
theorem dL_law_357 : decode cL_law 357 = .ok (.invokevirtual 45, 3) := by decide +kernel
theorem dL_law_360 : decode cL_law 360 = .ok (.aload_n 2, 1) := by decide +kernel
theorem dL_law_361 : decode cL_law 361 = .ok (.aload_n 0, 1) := by decide +kernel
theorem dL_law_362 : decode cL_law 362 = .ok (.iload_n 3, 1) := by decide +kernel
theorem dL_law_363 : decode cL_law 363 = .ok (.iconst 1, 1) := by decide +kernel
theorem dL_law_364 : decode cL_law 364 = .ok (.iadd, 1) := by decide +kernel
theorem dL_law_365 : decode cL_law 365 = .ok (.iaload, 1) := by decide +kernel
theorem dL_law_366 : decode cL_law 366 = .ok (.invokevirtual 48, 3) := by decide +kernel
theorem dL_law_369 : decode cL_law 369 = .ok (.if_icmp .eq 630, 3) := by decide +kernel
theorem dL_law_372 : decode cL_law 372 = .ok (.iconst 0, 1) := by decide +kernel
theorem dL_law_373 : decode cL_law 373 = .ok (.ireturn, 1) := by decide +kernel
theorem dL_law_374 : decode cL_law 374 = .ok (.aload_n 1, 1) := by decide +kernel
theorem dL_law_375 : decode cL_law 375 = .ok (.aload_n 0, 1) := by decide +kernel
theorem dL_law_376 : decode cL_law 376 = .ok (.iload_n 3, 1) := by decide +kernel
theorem dL_law_377 : decode cL_law 377 = .ok (.iconst 1, 1) := by decide +kernel
theorem dL_law_378 : decode cL_law 378 = .ok (.iadd, 1) := by decide +kernel
theorem dL_law_379 : decode cL_law 379 = .ok (.iaload, 1) := by decide +kernel
theorem dL_law_380 : decode cL_law 380 = .ok (.invokevirtual 49, 3) := by decide +kernel
theorem dL_law_383 : decode cL_law 383 = .ok (.aload_n 2, 1) := by decide +kernel
theorem dL_law_384 : decode cL_law 384 = .ok (.aload_n 0, 1) := by decide +kernel
theorem dL_law_385 : decode cL_law 385 = .ok (.iload_n 3, 1) := by decide +kernel
theorem dL_law_386 : decode cL_law 386 = .ok (.iconst 1, 1) := by decide +kernel
theorem dL_law_387 : decode cL_law 387 = .ok (.iadd, 1) := by decide +kernel
theorem dL_law_388 : decode cL_law 388 = .ok (.iaload, 1) := by decide +kernel
theorem dL_law_389 : decode cL_law 389 = .ok (.invokevirtual 52, 3) := by decide +kernel
theorem dL_law_392 : decode cL_law 392 = .ok (.if_icmp .eq 607, 3) := by decide +kernel
theorem dL_law_395 : decode cL_law 395 = .ok (.iconst 0, 1) := by decide +kernel
theorem dL_law_396 : decode cL_law 396 = .ok (.ireturn, 1) := by decide +kernel
theorem dL_law_397 : decode cL_law 397 = .ok (.aload_n 1, 1) := by decide +kernel
theorem dL_law_398 : decode cL_law 398 = .ok (.aload_n 0, 1) := by decide +kernel
theorem dL_law_399 : decode cL_law 399 = .ok (.iload_n 3, 1) := by decide +kernel
theorem dL_law_400 : decode cL_law 400 = .ok (.iconst 1, 1) := by decide +kernel
theorem dL_law_401 : decode cL_law 401 = .ok (.iadd, 1) := by decide +kernel
theorem dL_law_402 : decode cL_law 402 = .ok (.iaload, 1) := by decide +kernel
theorem dL_law_403 : decode cL_law 403 = .ok (.aload_n 0, 1) := by decide +kernel
theorem dL_law_404 : decode cL_law 404 = .ok (.iload_n 3, 1) := by decide +kernel
theorem dL_law_405 : decode cL_law 405 = .ok (.iconst 2, 1) := by decide +kernel
theorem dL_law_406 : decode cL_law 406 = .ok (.iadd, 1) := by decide +kernel
theorem dL_law_407 : decode cL_law 407 = .ok (.iaload, 1) := by decide +kernel
theorem dL_law_408 : decode cL_law 408 = .ok (.invokevirtual 53, 3) := by decide +kernel
theorem dL_law_411 : decode cL_law 411 = .ok (.aload_n 2, 1) := by decide +kernel
theorem dL_law_412 : decode cL_law 412 = .ok (.aload_n 0, 1) := by decide +kernel
theorem dL_law_413 : decode cL_law 413 = .ok (.iload_n 3, 1) := by decide +kernel
theorem dL_law_414 : decode cL_law 414 = .ok (.iconst 1, 1) := by decide +kernel
theorem dL_law_415 : decode cL_law 415 = .ok (.iadd, 1) := by decide +kernel
theorem dL_law_416 : decode cL_law 416 = .ok (.iaload, 1) := by decide +kernel
theorem dL_law_417 : decode cL_law 417 = .ok (.aload_n 0, 1) := by decide +kernel
theorem dL_law_418 : decode cL_law 418 = .ok (.iload_n 3, 1) := by decide +kernel
theorem dL_law_419 : decode cL_law 419 = .ok (.iconst 2, 1) := by decide +kernel
theorem dL_law_420 : decode cL_law 420 = .ok (.iadd, 1) := by decide +kernel
theorem dL_law_421 : decode cL_law 421 = .ok (.iaload, 1) := by decide +kernel
theorem dL_law_422 : decode cL_law 422 = .ok (.invokevirtual 56, 3) := by decide +kernel
theorem dL_law_425 : decode cL_law 425 = .ok (.if_icmp .eq 574, 3) := by decide +kernel
theorem dL_law_428 : decode cL_law 428 = .ok (.iconst 0, 1) := by decide +kernel
theorem dL_law_429 : decode cL_law 429 = .ok (.ireturn, 1) := by decide +kernel
theorem dL_law_430 : decode cL_law 430 = .ok (.aload_n 1, 1) := by decide +kernel
theorem dL_law_431 : decode cL_law 431 = .ok (.aload_n 0, 1) := by decide +kernel
theorem dL_law_432 : decode cL_law 432 = .ok (.iload_n 3, 1) := by decide +kernel
theorem dL_law_433 : decode cL_law 433 = .ok (.iconst 1, 1) := by decide +kernel
theorem dL_law_434 : decode cL_law 434 = .ok (.iadd, 1) := by decide +kernel
theorem dL_law_435 : decode cL_law 435 = .ok (.iaload, 1) := by decide +kernel
theorem dL_law_436 : decode cL_law 436 = .ok (.invokevirtual 57, 3) := by decide +kernel
theorem dL_law_439 : decode cL_law 439 = .ok (.aload_n 2, 1) := by decide +kernel
theorem dL_law_440 : decode cL_law 440 = .ok (.aload_n 0, 1) := by decide +kernel
theorem dL_law_441 : decode cL_law 441 = .ok (.iload_n 3, 1) := by decide +kernel
theorem dL_law_442 : decode cL_law 442 = .ok (.iconst 1, 1) := by decide +kernel
theorem dL_law_443 : decode cL_law 443 = .ok (.iadd, 1) := by decide +kernel
theorem dL_law_444 : decode cL_law 444 = .ok (.iaload, 1) := by decide +kernel
theorem dL_law_445 : decode cL_law 445 = .ok (.invokevirtual 60, 3) := by decide +kernel
theorem dL_law_448 : decode cL_law 448 = .ok (.if_icmp .eq 551, 3) := by decide +kernel
theorem dL_law_451 : decode cL_law 451 = .ok (.iconst 0, 1) := by decide +kernel
theorem dL_law_452 : decode cL_law 452 = .ok (.ireturn, 1) := by decide +kernel
theorem dL_law_453 : decode cL_law 453 = .ok (.aload_n 1, 1) := by decide +kernel
theorem dL_law_454 : decode cL_law 454 = .ok (.invokevirtual 61, 3) := by decide +kernel
theorem dL_law_457 : decode cL_law 457 = .ok (.aload_n 2, 1) := by decide +kernel
theorem dL_law_458 : decode cL_law 458 = .ok (.invokevirtual 64, 3) := by decide +kernel
theorem dL_law_461 : decode cL_law 461 = .ok (.if_icmp .eq 538, 3) := by decide +kernel
theorem dL_law_464 : decode cL_law 464 = .ok (.iconst 0, 1) := by decide +kernel
theorem dL_law_465 : decode cL_law 465 = .ok (.ireturn, 1) := by decide +kernel
theorem dL_law_466 : decode cL_law 466 = .ok (.aload_n 1, 1) := by decide +kernel
theorem dL_law_467 : decode cL_law 467 = .ok (.aload_n 0, 1) := by decide +kernel
theorem dL_law_468 : decode cL_law 468 = .ok (.iload_n 3, 1) := by decide +kernel
theorem dL_law_469 : decode cL_law 469 = .ok (.iconst 1, 1) := by decide +kernel
theorem dL_law_470 : decode cL_law 470 = .ok (.iadd, 1) := by decide +kernel
theorem dL_law_471 : decode cL_law 471 = .ok (.iaload, 1) := by decide +kernel
theorem dL_law_472 : decode cL_law 472 = .ok (.aload_n 0, 1) := by decide +kernel
theorem dL_law_473 : decode cL_law 473 = .ok (.iload_n 3, 1) := by decide +kernel
theorem dL_law_474 : decode cL_law 474 = .ok (.iconst 2, 1) := by decide +kernel
theorem dL_law_475 : decode cL_law 475 = .ok (.iadd, 1) := by decide +kernel
theorem dL_law_476 : decode cL_law 476 = .ok (.iaload, 1) := by decide +kernel
theorem dL_law_477 : decode cL_law 477 = .ok (.invokevirtual 65, 3) := by decide +kernel
theorem dL_law_480 : decode cL_law 480 = .ok (.aload_n 2, 1) := by decide +kernel
theorem dL_law_481 : decode cL_law 481 = .ok (.aload_n 0, 1) := by decide +kernel
theorem dL_law_482 : decode cL_law 482 = .ok (.iload_n 3, 1) := by decide +kernel
theorem dL_law_483 : decode cL_law 483 = .ok (.iconst 1, 1) := by decide +kernel
theorem dL_law_484 : decode cL_law 484 = .ok (.iadd, 1) := by decide +kernel
theorem dL_law_485 : decode cL_law 485 = .ok (.iaload, 1) := by decide +kernel
theorem dL_law_486 : decode cL_law 486 = .ok (.aload_n 0, 1) := by decide +kernel
theorem dL_law_487 : decode cL_law 487 = .ok (.iload_n 3, 1) := by decide +kernel
theorem dL_law_488 : decode cL_law 488 = .ok (.iconst 2, 1) := by decide +kernel
theorem dL_law_489 : decode cL_law 489 = .ok (.iadd, 1) := by decide +kernel
theorem dL_law_490 : decode cL_law 490 = .ok (.iaload, 1) := by decide +kernel
theorem dL_law_491 : decode cL_law 491 = .ok (.invokevirtual 68, 3) := by decide +kernel
theorem dL_law_494 : decode cL_law 494 = .ok (.if_icmp .eq 505, 3) := by decide +kernel
theorem dL_law_497 : decode cL_law 497 = .ok (.iconst 0, 1) := by decide +kernel
theorem dL_law_498 : decode cL_law 498 = .ok (.ireturn, 1) := by decide +kernel
theorem dL_law_499 : decode cL_law 499 = .ok (.aload_n 1, 1) := by decide +kernel
theorem dL_law_500 : decode cL_law 500 = .ok (.invokevirtual 69, 3) := by decide +kernel
theorem dL_law_503 : decode cL_law 503 = .ok (.aload_n 2, 1) := by decide +kernel
theorem dL_law_504 : decode cL_law 504 = .ok (.invokevirtual 72, 3) := by decide +kernel
theorem dL_law_507 : decode cL_law 507 = .ok (.if_icmp .eq 492, 3) := by decide +kernel
theorem dL_law_510 : decode cL_law 510 = .ok (.iconst 0, 1) := by decide +kernel
theorem dL_law_511 : decode cL_law 511 = .ok (.ireturn, 1) := by decide +kernel
theorem dL_law_512 : decode cL_law 512 = .ok (.aload_n 1, 1) := by decide +kernel
theorem dL_law_513 : decode cL_law 513 = .ok (.invokevirtual 73, 3) := by decide +kernel
theorem dL_law_516 : decode cL_law 516 = .ok (.aload_n 2, 1) := by decide +kernel
theorem dL_law_517 : decode cL_law 517 = .ok (.invokevirtual 76, 3) := by decide +kernel
theorem dL_law_520 : decode cL_law 520 = .ok (.if_icmp .eq 479, 3) := by decide +kernel
theorem dL_law_523 : decode cL_law 523 = .ok (.iconst 0, 1) := by decide +kernel
theorem dL_law_524 : decode cL_law 524 = .ok (.ireturn, 1) := by decide +kernel
theorem dL_law_525 : decode cL_law 525 = .ok (.aload_n 1, 1) := by decide +kernel
theorem dL_law_526 : decode cL_law 526 = .ok (.aload_n 0, 1) := by decide +kernel
theorem dL_law_527 : decode cL_law 527 = .ok (.iload_n 3, 1) := by decide +kernel
theorem dL_law_528 : decode cL_law 528 = .ok (.iconst 1, 1) := by decide +kernel
theorem dL_law_529 : decode cL_law 529 = .ok (.iadd, 1) := by decide +kernel
theorem dL_law_530 : decode cL_law 530 = .ok (.iaload, 1) := by decide +kernel
theorem dL_law_531 : decode cL_law 531 = .ok (.aload_n 0, 1) := by decide +kernel
theorem dL_law_532 : decode cL_law 532 = .ok (.iload_n 3, 1) := by decide +kernel
theorem dL_law_533 : decode cL_law 533 = .ok (.iconst 2, 1) := by decide +kernel
theorem dL_law_534 : decode cL_law 534 = .ok (.iadd, 1) := by decide +kernel
theorem dL_law_535 : decode cL_law 535 = .ok (.iaload, 1) := by decide +kernel
theorem dL_law_536 : decode cL_law 536 = .ok (.invokevirtual 77, 3) := by decide +kernel
theorem dL_law_539 : decode cL_law 539 = .ok (.aload_n 2, 1) := by decide +kernel
theorem dL_law_540 : decode cL_law 540 = .ok (.aload_n 0, 1) := by decide +kernel
theorem dL_law_541 : decode cL_law 541 = .ok (.iload_n 3, 1) := by decide +kernel
theorem dL_law_542 : decode cL_law 542 = .ok (.iconst 1, 1) := by decide +kernel
theorem dL_law_543 : decode cL_law 543 = .ok (.iadd, 1) := by decide +kernel
theorem dL_law_544 : decode cL_law 544 = .ok (.iaload, 1) := by decide +kernel
theorem dL_law_545 : decode cL_law 545 = .ok (.aload_n 0, 1) := by decide +kernel
theorem dL_law_546 : decode cL_law 546 = .ok (.iload_n 3, 1) := by decide +kernel
theorem dL_law_547 : decode cL_law 547 = .ok (.iconst 2, 1) := by decide +kernel
theorem dL_law_548 : decode cL_law 548 = .ok (.iadd, 1) := by decide +kernel
theorem dL_law_549 : decode cL_law 549 = .ok (.iaload, 1) := by decide +kernel
theorem dL_law_550 : decode cL_law 550 = .ok (.invokevirtual 80, 3) := by decide +kernel
theorem dL_law_553 : decode cL_law 553 = .ok (.if_icmp .eq 446, 3) := by decide +kernel
theorem dL_law_556 : decode cL_law 556 = .ok (.iconst 0, 1) := by decide +kernel
theorem dL_law_557 : decode cL_law 557 = .ok (.ireturn, 1) := by decide +kernel
theorem dL_law_558 : decode cL_law 558 = .ok (.aload_n 1, 1) := by decide +kernel
theorem dL_law_559 : decode cL_law 559 = .ok (.invokevirtual 81, 3) := by decide +kernel
theorem dL_law_562 : decode cL_law 562 = .ok (.aload_n 2, 1) := by decide +kernel
theorem dL_law_563 : decode cL_law 563 = .ok (.invokevirtual 84, 3) := by decide +kernel
theorem dL_law_566 : decode cL_law 566 = .ok (.if_icmp .eq 433, 3) := by decide +kernel
theorem dL_law_569 : decode cL_law 569 = .ok (.iconst 0, 1) := by decide +kernel
theorem dL_law_570 : decode cL_law 570 = .ok (.ireturn, 1) := by decide +kernel
theorem dL_law_571 : decode cL_law 571 = .ok (.aload_n 1, 1) := by decide +kernel
theorem dL_law_572 : decode cL_law 572 = .ok (.aload_n 0, 1) := by decide +kernel
theorem dL_law_573 : decode cL_law 573 = .ok (.iload_n 3, 1) := by decide +kernel
theorem dL_law_574 : decode cL_law 574 = .ok (.iconst 1, 1) := by decide +kernel
theorem dL_law_575 : decode cL_law 575 = .ok (.iadd, 1) := by decide +kernel
theorem dL_law_576 : decode cL_law 576 = .ok (.iaload, 1) := by decide +kernel
theorem dL_law_577 : decode cL_law 577 = .ok (.invokevirtual 85, 3) := by decide +kernel
theorem dL_law_580 : decode cL_law 580 = .ok (.aload_n 2, 1) := by decide +kernel
theorem dL_law_581 : decode cL_law 581 = .ok (.aload_n 0, 1) := by decide +kernel
theorem dL_law_582 : decode cL_law 582 = .ok (.iload_n 3, 1) := by decide +kernel
theorem dL_law_583 : decode cL_law 583 = .ok (.iconst 1, 1) := by decide +kernel
theorem dL_law_584 : decode cL_law 584 = .ok (.iadd, 1) := by decide +kernel
theorem dL_law_585 : decode cL_law 585 = .ok (.iaload, 1) := by decide +kernel
theorem dL_law_586 : decode cL_law 586 = .ok (.invokevirtual 88, 3) := by decide +kernel
theorem dL_law_589 : decode cL_law 589 = .ok (.if_icmp .eq 410, 3) := by decide +kernel
theorem dL_law_592 : decode cL_law 592 = .ok (.iconst 0, 1) := by decide +kernel
theorem dL_law_593 : decode cL_law 593 = .ok (.ireturn, 1) := by decide +kernel
theorem dL_law_594 : decode cL_law 594 = .ok (.aload_n 1, 1) := by decide +kernel
theorem dL_law_595 : decode cL_law 595 = .ok (.aload_n 0, 1) := by decide +kernel
theorem dL_law_596 : decode cL_law 596 = .ok (.iload_n 3, 1) := by decide +kernel
theorem dL_law_597 : decode cL_law 597 = .ok (.iconst 1, 1) := by decide +kernel
theorem dL_law_598 : decode cL_law 598 = .ok (.iadd, 1) := by decide +kernel
theorem dL_law_599 : decode cL_law 599 = .ok (.iaload, 1) := by decide +kernel
theorem dL_law_600 : decode cL_law 600 = .ok (.invokevirtual 89, 3) := by decide +kernel
theorem dL_law_603 : decode cL_law 603 = .ok (.aload_n 2, 1) := by decide +kernel
theorem dL_law_604 : decode cL_law 604 = .ok (.aload_n 0, 1) := by decide +kernel
theorem dL_law_605 : decode cL_law 605 = .ok (.iload_n 3, 1) := by decide +kernel
theorem dL_law_606 : decode cL_law 606 = .ok (.iconst 1, 1) := by decide +kernel
theorem dL_law_607 : decode cL_law 607 = .ok (.iadd, 1) := by decide +kernel
theorem dL_law_608 : decode cL_law 608 = .ok (.iaload, 1) := by decide +kernel
theorem dL_law_609 : decode cL_law 609 = .ok (.invokevirtual 92, 3) := by decide +kernel
theorem dL_law_612 : decode cL_law 612 = .ok (.if_icmp .eq 387, 3) := by decide +kernel
theorem dL_law_615 : decode cL_law 615 = .ok (.iconst 0, 1) := by decide +kernel
theorem dL_law_616 : decode cL_law 616 = .ok (.ireturn, 1) := by decide +kernel
theorem dL_law_617 : decode cL_law 617 = .ok (.aload_n 1, 1) := by decide +kernel
theorem dL_law_618 : decode cL_law 618 = .ok (.aload_n 0, 1) := by decide +kernel
theorem dL_law_619 : decode cL_law 619 = .ok (.iload_n 3, 1) := by decide +kernel
theorem dL_law_620 : decode cL_law 620 = .ok (.iconst 1, 1) := by decide +kernel
theorem dL_law_621 : decode cL_law 621 = .ok (.iadd, 1) := by decide +kernel
theorem dL_law_622 : decode cL_law 622 = .ok (.iaload, 1) := by decide +kernel
theorem dL_law_623 : decode cL_law 623 = .ok (.invokevirtual 93, 3) := by decide +kernel
theorem dL_law_626 : decode cL_law 626 = .ok (.aload_n 2, 1) := by decide +kernel
theorem dL_law_627 : decode cL_law 627 = .ok (.aload_n 0, 1) := by decide +kernel
theorem dL_law_628 : decode cL_law 628 = .ok (.iload_n 3, 1) := by decide +kernel
theorem dL_law_629 : decode cL_law 629 = .ok (.iconst 1, 1) := by decide +kernel
theorem dL_law_630 : decode cL_law 630 = .ok (.iadd, 1) := by decide +kernel
theorem dL_law_631 : decode cL_law 631 = .ok (.iaload, 1) := by decide +kernel
theorem dL_law_632 : decode cL_law 632 = .ok (.invokevirtual 96, 3) := by decide +kernel
theorem dL_law_635 : decode cL_law 635 = .ok (.if_icmp .eq 364, 3) := by decide +kernel
theorem dL_law_638 : decode cL_law 638 = .ok (.iconst 0, 1) := by decide +kernel
theorem dL_law_639 : decode cL_law 639 = .ok (.ireturn, 1) := by decide +kernel
theorem dL_law_640 : decode cL_law 640 = .ok (.aload_n 1, 1) := by decide +kernel
theorem dL_law_641 : decode cL_law 641 = .ok (.aload_n 0, 1) := by decide +kernel
theorem dL_law_642 : decode cL_law 642 = .ok (.iload_n 3, 1) := by decide +kernel
theorem dL_law_643 : decode cL_law 643 = .ok (.iconst 1, 1) := by decide +kernel
theorem dL_law_644 : decode cL_law 644 = .ok (.iadd, 1) := by decide +kernel
theorem dL_law_645 : decode cL_law 645 = .ok (.iaload, 1) := by decide +kernel
theorem dL_law_646 : decode cL_law 646 = .ok (.aload_n 0, 1) := by decide +kernel
theorem dL_law_647 : decode cL_law 647 = .ok (.iload_n 3, 1) := by decide +kernel
theorem dL_law_648 : decode cL_law 648 = .ok (.iconst 2, 1) := by decide +kernel
theorem dL_law_649 : decode cL_law 649 = .ok (.iadd, 1) := by decide +kernel
theorem dL_law_650 : decode cL_law 650 = .ok (.iaload, 1) := by decide +kernel
theorem dL_law_651 : decode cL_law 651 = .ok (.aload_n 0, 1) := by decide +kernel
theorem dL_law_652 : decode cL_law 652 = .ok (.iload_n 3, 1) := by decide +kernel
theorem dL_law_653 : decode cL_law 653 = .ok (.iconst 3, 1) := by decide +kernel
theorem dL_law_654 : decode cL_law 654 = .ok (.iadd, 1) := by decide +kernel
theorem dL_law_655 : decode cL_law 655 = .ok (.iaload, 1) := by decide +kernel
theorem dL_law_656 : decode cL_law 656 = .ok (.aload_n 0, 1) := by decide +kernel
theorem dL_law_657 : decode cL_law 657 = .ok (.iload_n 3, 1) := by decide +kernel
theorem dL_law_658 : decode cL_law 658 = .ok (.iconst 4, 1) := by decide +kernel
theorem dL_law_659 : decode cL_law 659 = .ok (.iadd, 1) := by decide +kernel
theorem dL_law_660 : decode cL_law 660 = .ok (.iaload, 1) := by decide +kernel
theorem dL_law_661 : decode cL_law 661 = .ok (.invokevirtual 97, 3) := by decide +kernel
theorem dL_law_664 : decode cL_law 664 = .ok (.aload_n 2, 1) := by decide +kernel
theorem dL_law_665 : decode cL_law 665 = .ok (.aload_n 0, 1) := by decide +kernel
theorem dL_law_666 : decode cL_law 666 = .ok (.iload_n 3, 1) := by decide +kernel
theorem dL_law_667 : decode cL_law 667 = .ok (.iconst 1, 1) := by decide +kernel
theorem dL_law_668 : decode cL_law 668 = .ok (.iadd, 1) := by decide +kernel
theorem dL_law_669 : decode cL_law 669 = .ok (.iaload, 1) := by decide +kernel
theorem dL_law_670 : decode cL_law 670 = .ok (.aload_n 0, 1) := by decide +kernel
theorem dL_law_671 : decode cL_law 671 = .ok (.iload_n 3, 1) := by decide +kernel
theorem dL_law_672 : decode cL_law 672 = .ok (.iconst 2, 1) := by decide +kernel
theorem dL_law_673 : decode cL_law 673 = .ok (.iadd, 1) := by decide +kernel
theorem dL_law_674 : decode cL_law 674 = .ok (.iaload, 1) := by decide +kernel
theorem dL_law_675 : decode cL_law 675 = .ok (.aload_n 0, 1) := by decide +kernel
theorem dL_law_676 : decode cL_law 676 = .ok (.iload_n 3, 1) := by decide +kernel
theorem dL_law_677 : decode cL_law 677 = .ok (.iconst 3, 1) := by decide +kernel
theorem dL_law_678 : decode cL_law 678 = .ok (.iadd, 1) := by decide +kernel
theorem dL_law_679 : decode cL_law 679 = .ok (.iaload, 1) := by decide +kernel
theorem dL_law_680 : decode cL_law 680 = .ok (.aload_n 0, 1) := by decide +kernel
theorem dL_law_681 : decode cL_law 681 = .ok (.iload_n 3, 1) := by decide +kernel
theorem dL_law_682 : decode cL_law 682 = .ok (.iconst 4, 1) := by decide +kernel
theorem dL_law_683 : decode cL_law 683 = .ok (.iadd, 1) := by decide +kernel
theorem dL_law_684 : decode cL_law 684 = .ok (.iaload, 1) := by decide +kernel
theorem dL_law_685 : decode cL_law 685 = .ok (.invokevirtual 101, 3) := by decide +kernel
theorem dL_law_688 : decode cL_law 688 = .ok (.lcmp, 1) := by decide +kernel
theorem dL_law_689 : decode cL_law 689 = .ok (.ifCond .eq 310, 3) := by decide +kernel
theorem dL_law_692 : decode cL_law 692 = .ok (.iconst 0, 1) := by decide +kernel
theorem dL_law_693 : decode cL_law 693 = .ok (.ireturn, 1) := by decide +kernel
theorem dL_law_694 : decode cL_law 694 = .ok (.aload_n 1, 1) := by decide +kernel
theorem dL_law_695 : decode cL_law 695 = .ok (.aload_n 0, 1) := by decide +kernel
theorem dL_law_696 : decode cL_law 696 = .ok (.iload_n 3, 1) := by decide +kernel
theorem dL_law_697 : decode cL_law 697 = .ok (.iconst 1, 1) := by decide +kernel
theorem dL_law_698 : decode cL_law 698 = .ok (.iadd, 1) := by decide +kernel
theorem dL_law_699 : decode cL_law 699 = .ok (.iaload, 1) := by decide +kernel
theorem dL_law_700 : decode cL_law 700 = .ok (.aload_n 0, 1) := by decide +kernel
theorem dL_law_701 : decode cL_law 701 = .ok (.iload_n 3, 1) := by decide +kernel
theorem dL_law_702 : decode cL_law 702 = .ok (.iconst 2, 1) := by decide +kernel
theorem dL_law_703 : decode cL_law 703 = .ok (.iadd, 1) := by decide +kernel
theorem dL_law_704 : decode cL_law 704 = .ok (.iaload, 1) := by decide +kernel
theorem dL_law_705 : decode cL_law 705 = .ok (.aload_n 0, 1) := by decide +kernel
theorem dL_law_706 : decode cL_law 706 = .ok (.iload_n 3, 1) := by decide +kernel
theorem dL_law_707 : decode cL_law 707 = .ok (.iconst 3, 1) := by decide +kernel
theorem dL_law_708 : decode cL_law 708 = .ok (.iadd, 1) := by decide +kernel
theorem dL_law_709 : decode cL_law 709 = .ok (.iaload, 1) := by decide +kernel
theorem dL_law_710 : decode cL_law 710 = .ok (.aload_n 0, 1) := by decide +kernel
theorem dL_law_711 : decode cL_law 711 = .ok (.iload_n 3, 1) := by decide +kernel
theorem dL_law_712 : decode cL_law 712 = .ok (.iconst 4, 1) := by decide +kernel
theorem dL_law_713 : decode cL_law 713 = .ok (.iadd, 1) := by decide +kernel
theorem dL_law_714 : decode cL_law 714 = .ok (.iaload, 1) := by decide +kernel
theorem dL_law_715 : decode cL_law 715 = .ok (.invokevirtual 102, 3) := by decide +kernel
theorem dL_law_718 : decode cL_law 718 = .ok (.aload_n 2, 1) := by decide +kernel
theorem dL_law_719 : decode cL_law 719 = .ok (.aload_n 0, 1) := by decide +kernel
theorem dL_law_720 : decode cL_law 720 = .ok (.iload_n 3, 1) := by decide +kernel
theorem dL_law_721 : decode cL_law 721 = .ok (.iconst 1, 1) := by decide +kernel
theorem dL_law_722 : decode cL_law 722 = .ok (.iadd, 1) := by decide +kernel
theorem dL_law_723 : decode cL_law 723 = .ok (.iaload, 1) := by decide +kernel
theorem dL_law_724 : decode cL_law 724 = .ok (.aload_n 0, 1) := by decide +kernel
theorem dL_law_725 : decode cL_law 725 = .ok (.iload_n 3, 1) := by decide +kernel
theorem dL_law_726 : decode cL_law 726 = .ok (.iconst 2, 1) := by decide +kernel
theorem dL_law_727 : decode cL_law 727 = .ok (.iadd, 1) := by decide +kernel
theorem dL_law_728 : decode cL_law 728 = .ok (.iaload, 1) := by decide +kernel
theorem dL_law_729 : decode cL_law 729 = .ok (.aload_n 0, 1) := by decide +kernel
theorem dL_law_730 : decode cL_law 730 = .ok (.iload_n 3, 1) := by decide +kernel
theorem dL_law_731 : decode cL_law 731 = .ok (.iconst 3, 1) := by decide +kernel
theorem dL_law_732 : decode cL_law 732 = .ok (.iadd, 1) := by decide +kernel
theorem dL_law_733 : decode cL_law 733 = .ok (.iaload, 1) := by decide +kernel
theorem dL_law_734 : decode cL_law 734 = .ok (.aload_n 0, 1) := by decide +kernel
theorem dL_law_735 : decode cL_law 735 = .ok (.iload_n 3, 1) := by decide +kernel
theorem dL_law_736 : decode cL_law 736 = .ok (.iconst 4, 1) := by decide +kernel
theorem dL_law_737 : decode cL_law 737 = .ok (.iadd, 1) := by decide +kernel
theorem dL_law_738 : decode cL_law 738 = .ok (.iaload, 1) := by decide +kernel
theorem dL_law_739 : decode cL_law 739 = .ok (.invokevirtual 106, 3) := by decide +kernel
theorem dL_law_742 : decode cL_law 742 = .ok (.if_icmp .eq 257, 3) := by decide +kernel
theorem dL_law_745 : decode cL_law 745 = .ok (.iconst 0, 1) := by decide +kernel
theorem dL_law_746 : decode cL_law 746 = .ok (.ireturn, 1) := by decide +kernel
theorem dL_law_747 : decode cL_law 747 = .ok (.aload_n 1, 1) := by decide +kernel
theorem dL_law_748 : decode cL_law 748 = .ok (.aload_n 0, 1) := by decide +kernel
theorem dL_law_749 : decode cL_law 749 = .ok (.iload_n 3, 1) := by decide +kernel
theorem dL_law_750 : decode cL_law 750 = .ok (.iconst 1, 1) := by decide +kernel
theorem dL_law_751 : decode cL_law 751 = .ok (.iadd, 1) := by decide +kernel
theorem dL_law_752 : decode cL_law 752 = .ok (.iaload, 1) := by decide +kernel
theorem dL_law_753 : decode cL_law 753 = .ok (.aload_n 0, 1) := by decide +kernel
theorem dL_law_754 : decode cL_law 754 = .ok (.iload_n 3, 1) := by decide +kernel
theorem dL_law_755 : decode cL_law 755 = .ok (.iconst 2, 1) := by decide +kernel
theorem dL_law_756 : decode cL_law 756 = .ok (.iadd, 1) := by decide +kernel
theorem dL_law_757 : decode cL_law 757 = .ok (.iaload, 1) := by decide +kernel
theorem dL_law_758 : decode cL_law 758 = .ok (.aload_n 0, 1) := by decide +kernel
theorem dL_law_759 : decode cL_law 759 = .ok (.iload_n 3, 1) := by decide +kernel
theorem dL_law_760 : decode cL_law 760 = .ok (.iconst 3, 1) := by decide +kernel
theorem dL_law_761 : decode cL_law 761 = .ok (.iadd, 1) := by decide +kernel
theorem dL_law_762 : decode cL_law 762 = .ok (.iaload, 1) := by decide +kernel
theorem dL_law_763 : decode cL_law 763 = .ok (.aload_n 0, 1) := by decide +kernel
theorem dL_law_764 : decode cL_law 764 = .ok (.iload_n 3, 1) := by decide +kernel
theorem dL_law_765 : decode cL_law 765 = .ok (.iconst 4, 1) := by decide +kernel
theorem dL_law_766 : decode cL_law 766 = .ok (.iadd, 1) := by decide +kernel
theorem dL_law_767 : decode cL_law 767 = .ok (.iaload, 1) := by decide +kernel
theorem dL_law_768 : decode cL_law 768 = .ok (.invokevirtual 107, 3) := by decide +kernel
theorem dL_law_771 : decode cL_law 771 = .ok (.aload_n 2, 1) := by decide +kernel
theorem dL_law_772 : decode cL_law 772 = .ok (.aload_n 0, 1) := by decide +kernel
theorem dL_law_773 : decode cL_law 773 = .ok (.iload_n 3, 1) := by decide +kernel
theorem dL_law_774 : decode cL_law 774 = .ok (.iconst 1, 1) := by decide +kernel
theorem dL_law_775 : decode cL_law 775 = .ok (.iadd, 1) := by decide +kernel
theorem dL_law_776 : decode cL_law 776 = .ok (.iaload, 1) := by decide +kernel
theorem dL_law_777 : decode cL_law 777 = .ok (.aload_n 0, 1) := by decide +kernel
theorem dL_law_778 : decode cL_law 778 = .ok (.iload_n 3, 1) := by decide +kernel
theorem dL_law_779 : decode cL_law 779 = .ok (.iconst 2, 1) := by decide +kernel
theorem dL_law_780 : decode cL_law 780 = .ok (.iadd, 1) := by decide +kernel
theorem dL_law_781 : decode cL_law 781 = .ok (.iaload, 1) := by decide +kernel
theorem dL_law_782 : decode cL_law 782 = .ok (.aload_n 0, 1) := by decide +kernel
theorem dL_law_783 : decode cL_law 783 = .ok (.iload_n 3, 1) := by decide +kernel
theorem dL_law_784 : decode cL_law 784 = .ok (.iconst 3, 1) := by decide +kernel
theorem dL_law_785 : decode cL_law 785 = .ok (.iadd, 1) := by decide +kernel
theorem dL_law_786 : decode cL_law 786 = .ok (.iaload, 1) := by decide +kernel
theorem dL_law_787 : decode cL_law 787 = .ok (.aload_n 0, 1) := by decide +kernel
theorem dL_law_788 : decode cL_law 788 = .ok (.iload_n 3, 1) := by decide +kernel
theorem dL_law_789 : decode cL_law 789 = .ok (.iconst 4, 1) := by decide +kernel
theorem dL_law_790 : decode cL_law 790 = .ok (.iadd, 1) := by decide +kernel
theorem dL_law_791 : decode cL_law 791 = .ok (.iaload, 1) := by decide +kernel
theorem dL_law_792 : decode cL_law 792 = .ok (.invokevirtual 110, 3) := by decide +kernel
theorem dL_law_795 : decode cL_law 795 = .ok (.lcmp, 1) := by decide +kernel
theorem dL_law_796 : decode cL_law 796 = .ok (.ifCond .eq 203, 3) := by decide +kernel
theorem dL_law_799 : decode cL_law 799 = .ok (.iconst 0, 1) := by decide +kernel
theorem dL_law_800 : decode cL_law 800 = .ok (.ireturn, 1) := by decide +kernel
theorem dL_law_801 : decode cL_law 801 = .ok (.aload_n 1, 1) := by decide +kernel
theorem dL_law_802 : decode cL_law 802 = .ok (.aload_n 0, 1) := by decide +kernel
theorem dL_law_803 : decode cL_law 803 = .ok (.iload_n 3, 1) := by decide +kernel
theorem dL_law_804 : decode cL_law 804 = .ok (.iconst 1, 1) := by decide +kernel
theorem dL_law_805 : decode cL_law 805 = .ok (.iadd, 1) := by decide +kernel
theorem dL_law_806 : decode cL_law 806 = .ok (.iaload, 1) := by decide +kernel
theorem dL_law_807 : decode cL_law 807 = .ok (.aload_n 0, 1) := by decide +kernel
theorem dL_law_808 : decode cL_law 808 = .ok (.iload_n 3, 1) := by decide +kernel
theorem dL_law_809 : decode cL_law 809 = .ok (.iconst 2, 1) := by decide +kernel
theorem dL_law_810 : decode cL_law 810 = .ok (.iadd, 1) := by decide +kernel
theorem dL_law_811 : decode cL_law 811 = .ok (.iaload, 1) := by decide +kernel
theorem dL_law_812 : decode cL_law 812 = .ok (.aload_n 0, 1) := by decide +kernel
theorem dL_law_813 : decode cL_law 813 = .ok (.iload_n 3, 1) := by decide +kernel
theorem dL_law_814 : decode cL_law 814 = .ok (.iconst 3, 1) := by decide +kernel
theorem dL_law_815 : decode cL_law 815 = .ok (.iadd, 1) := by decide +kernel
theorem dL_law_816 : decode cL_law 816 = .ok (.iaload, 1) := by decide +kernel
theorem dL_law_817 : decode cL_law 817 = .ok (.aload_n 0, 1) := by decide +kernel
theorem dL_law_818 : decode cL_law 818 = .ok (.iload_n 3, 1) := by decide +kernel
theorem dL_law_819 : decode cL_law 819 = .ok (.iconst 4, 1) := by decide +kernel
theorem dL_law_820 : decode cL_law 820 = .ok (.iadd, 1) := by decide +kernel
theorem dL_law_821 : decode cL_law 821 = .ok (.iaload, 1) := by decide +kernel
theorem dL_law_822 : decode cL_law 822 = .ok (.aload_n 0, 1) := by decide +kernel
theorem dL_law_823 : decode cL_law 823 = .ok (.iload_n 3, 1) := by decide +kernel
theorem dL_law_824 : decode cL_law 824 = .ok (.iconst 5, 1) := by decide +kernel
theorem dL_law_825 : decode cL_law 825 = .ok (.iadd, 1) := by decide +kernel
theorem dL_law_826 : decode cL_law 826 = .ok (.iaload, 1) := by decide +kernel
theorem dL_law_827 : decode cL_law 827 = .ok (.invokevirtual 111, 3) := by decide +kernel
theorem dL_law_830 : decode cL_law 830 = .ok (.aload_n 2, 1) := by decide +kernel
theorem dL_law_831 : decode cL_law 831 = .ok (.aload_n 0, 1) := by decide +kernel
theorem dL_law_832 : decode cL_law 832 = .ok (.iload_n 3, 1) := by decide +kernel
theorem dL_law_833 : decode cL_law 833 = .ok (.iconst 1, 1) := by decide +kernel
theorem dL_law_834 : decode cL_law 834 = .ok (.iadd, 1) := by decide +kernel
theorem dL_law_835 : decode cL_law 835 = .ok (.iaload, 1) := by decide +kernel
theorem dL_law_836 : decode cL_law 836 = .ok (.aload_n 0, 1) := by decide +kernel
theorem dL_law_837 : decode cL_law 837 = .ok (.iload_n 3, 1) := by decide +kernel
theorem dL_law_838 : decode cL_law 838 = .ok (.iconst 2, 1) := by decide +kernel
theorem dL_law_839 : decode cL_law 839 = .ok (.iadd, 1) := by decide +kernel
theorem dL_law_840 : decode cL_law 840 = .ok (.iaload, 1) := by decide +kernel
theorem dL_law_841 : decode cL_law 841 = .ok (.aload_n 0, 1) := by decide +kernel
theorem dL_law_842 : decode cL_law 842 = .ok (.iload_n 3, 1) := by decide +kernel
theorem dL_law_843 : decode cL_law 843 = .ok (.iconst 3, 1) := by decide +kernel
theorem dL_law_844 : decode cL_law 844 = .ok (.iadd, 1) := by decide +kernel
theorem dL_law_845 : decode cL_law 845 = .ok (.iaload, 1) := by decide +kernel
theorem dL_law_846 : decode cL_law 846 = .ok (.aload_n 0, 1) := by decide +kernel
theorem dL_law_847 : decode cL_law 847 = .ok (.iload_n 3, 1) := by decide +kernel
theorem dL_law_848 : decode cL_law 848 = .ok (.iconst 4, 1) := by decide +kernel
theorem dL_law_849 : decode cL_law 849 = .ok (.iadd, 1) := by decide +kernel
theorem dL_law_850 : decode cL_law 850 = .ok (.iaload, 1) := by decide +kernel
theorem dL_law_851 : decode cL_law 851 = .ok (.aload_n 0, 1) := by decide +kernel
theorem dL_law_852 : decode cL_law 852 = .ok (.iload_n 3, 1) := by decide +kernel
theorem dL_law_853 : decode cL_law 853 = .ok (.iconst 5, 1) := by decide +kernel
theorem dL_law_854 : decode cL_law 854 = .ok (.iadd, 1) := by decide +kernel
theorem dL_law_855 : decode cL_law 855 = .ok (.iaload, 1) := by decide +kernel
theorem dL_law_856 : decode cL_law 856 = .ok (.invokevirtual 115, 3) := by decide +kernel
theorem dL_law_859 : decode cL_law 859 = .ok (.if_icmp .eq 140, 3) := by decide +kernel
theorem dL_law_862 : decode cL_law 862 = .ok (.iconst 0, 1) := by decide +kernel
theorem dL_law_863 : decode cL_law 863 = .ok (.ireturn, 1) := by decide +kernel
theorem dL_law_864 : decode cL_law 864 = .ok (.aload_n 1, 1) := by decide +kernel
theorem dL_law_865 : decode cL_law 865 = .ok (.aload_n 0, 1) := by decide +kernel
theorem dL_law_866 : decode cL_law 866 = .ok (.iload_n 3, 1) := by decide +kernel
theorem dL_law_867 : decode cL_law 867 = .ok (.iconst 1, 1) := by decide +kernel
theorem dL_law_868 : decode cL_law 868 = .ok (.iadd, 1) := by decide +kernel
theorem dL_law_869 : decode cL_law 869 = .ok (.iaload, 1) := by decide +kernel
theorem dL_law_870 : decode cL_law 870 = .ok (.invokevirtual 116, 3) := by decide +kernel
theorem dL_law_873 : decode cL_law 873 = .ok (.aload_n 2, 1) := by decide +kernel
theorem dL_law_874 : decode cL_law 874 = .ok (.aload_n 0, 1) := by decide +kernel
theorem dL_law_875 : decode cL_law 875 = .ok (.iload_n 3, 1) := by decide +kernel
theorem dL_law_876 : decode cL_law 876 = .ok (.iconst 1, 1) := by decide +kernel
theorem dL_law_877 : decode cL_law 877 = .ok (.iadd, 1) := by decide +kernel
theorem dL_law_878 : decode cL_law 878 = .ok (.iaload, 1) := by decide +kernel
theorem dL_law_879 : decode cL_law 879 = .ok (.invokevirtual 119, 3) := by decide +kernel
theorem dL_law_882 : decode cL_law 882 = .ok (.if_icmp .eq 117, 3) := by decide +kernel
theorem dL_law_885 : decode cL_law 885 = .ok (.iconst 0, 1) := by decide +kernel
theorem dL_law_886 : decode cL_law 886 = .ok (.ireturn, 1) := by decide +kernel
theorem dL_law_887 : decode cL_law 887 = .ok (.aload_n 1, 1) := by decide +kernel
theorem dL_law_888 : decode cL_law 888 = .ok (.aload_n 0, 1) := by decide +kernel
theorem dL_law_889 : decode cL_law 889 = .ok (.iload_n 3, 1) := by decide +kernel
theorem dL_law_890 : decode cL_law 890 = .ok (.iconst 1, 1) := by decide +kernel
theorem dL_law_891 : decode cL_law 891 = .ok (.iadd, 1) := by decide +kernel
theorem dL_law_892 : decode cL_law 892 = .ok (.iaload, 1) := by decide +kernel
theorem dL_law_893 : decode cL_law 893 = .ok (.aload_n 0, 1) := by decide +kernel
theorem dL_law_894 : decode cL_law 894 = .ok (.iload_n 3, 1) := by decide +kernel
theorem dL_law_895 : decode cL_law 895 = .ok (.iconst 2, 1) := by decide +kernel
theorem dL_law_896 : decode cL_law 896 = .ok (.iadd, 1) := by decide +kernel
theorem dL_law_897 : decode cL_law 897 = .ok (.iaload, 1) := by decide +kernel
theorem dL_law_898 : decode cL_law 898 = .ok (.aload_n 0, 1) := by decide +kernel
theorem dL_law_899 : decode cL_law 899 = .ok (.iload_n 3, 1) := by decide +kernel
theorem dL_law_900 : decode cL_law 900 = .ok (.iconst 3, 1) := by decide +kernel
theorem dL_law_901 : decode cL_law 901 = .ok (.iadd, 1) := by decide +kernel
theorem dL_law_902 : decode cL_law 902 = .ok (.iaload, 1) := by decide +kernel
theorem dL_law_903 : decode cL_law 903 = .ok (.invokevirtual 120, 3) := by decide +kernel
theorem dL_law_906 : decode cL_law 906 = .ok (.aload_n 2, 1) := by decide +kernel
theorem dL_law_907 : decode cL_law 907 = .ok (.aload_n 0, 1) := by decide +kernel
theorem dL_law_908 : decode cL_law 908 = .ok (.iload_n 3, 1) := by decide +kernel
theorem dL_law_909 : decode cL_law 909 = .ok (.iconst 1, 1) := by decide +kernel
theorem dL_law_910 : decode cL_law 910 = .ok (.iadd, 1) := by decide +kernel
theorem dL_law_911 : decode cL_law 911 = .ok (.iaload, 1) := by decide +kernel
theorem dL_law_912 : decode cL_law 912 = .ok (.aload_n 0, 1) := by decide +kernel
theorem dL_law_913 : decode cL_law 913 = .ok (.iload_n 3, 1) := by decide +kernel
theorem dL_law_914 : decode cL_law 914 = .ok (.iconst 2, 1) := by decide +kernel
theorem dL_law_915 : decode cL_law 915 = .ok (.iadd, 1) := by decide +kernel
theorem dL_law_916 : decode cL_law 916 = .ok (.iaload, 1) := by decide +kernel
theorem dL_law_917 : decode cL_law 917 = .ok (.aload_n 0, 1) := by decide +kernel
theorem dL_law_918 : decode cL_law 918 = .ok (.iload_n 3, 1) := by decide +kernel
theorem dL_law_919 : decode cL_law 919 = .ok (.iconst 3, 1) := by decide +kernel
theorem dL_law_920 : decode cL_law 920 = .ok (.iadd, 1) := by decide +kernel
theorem dL_law_921 : decode cL_law 921 = .ok (.iaload, 1) := by decide +kernel
theorem dL_law_922 : decode cL_law 922 = .ok (.invokevirtual 124, 3) := by decide +kernel
theorem dL_law_925 : decode cL_law 925 = .ok (.if_icmp .eq 74, 3) := by decide +kernel
theorem dL_law_928 : decode cL_law 928 = .ok (.iconst 0, 1) := by decide +kernel
theorem dL_law_929 : decode cL_law 929 = .ok (.ireturn, 1) := by decide +kernel
theorem dL_law_930 : decode cL_law 930 = .ok (.aload_n 1, 1) := by decide +kernel
theorem dL_law_931 : decode cL_law 931 = .ok (.aload_n 0, 1) := by decide +kernel
theorem dL_law_932 : decode cL_law 932 = .ok (.iload_n 3, 1) := by decide +kernel
theorem dL_law_933 : decode cL_law 933 = .ok (.iconst 1, 1) := by decide +kernel
theorem dL_law_934 : decode cL_law 934 = .ok (.iadd, 1) := by decide +kernel
theorem dL_law_935 : decode cL_law 935 = .ok (.iaload, 1) := by decide +kernel
theorem dL_law_936 : decode cL_law 936 = .ok (.invokevirtual 125, 3) := by decide +kernel
theorem dL_law_939 : decode cL_law 939 = .ok (.aload_n 2, 1) := by decide +kernel
theorem dL_law_940 : decode cL_law 940 = .ok (.aload_n 0, 1) := by decide +kernel
theorem dL_law_941 : decode cL_law 941 = .ok (.iload_n 3, 1) := by decide +kernel
theorem dL_law_942 : decode cL_law 942 = .ok (.iconst 1, 1) := by decide +kernel
theorem dL_law_943 : decode cL_law 943 = .ok (.iadd, 1) := by decide +kernel
theorem dL_law_944 : decode cL_law 944 = .ok (.iaload, 1) := by decide +kernel
theorem dL_law_945 : decode cL_law 945 = .ok (.invokevirtual 128, 3) := by decide +kernel
theorem dL_law_948 : decode cL_law 948 = .ok (.if_icmp .eq 51, 3) := by decide +kernel
theorem dL_law_951 : decode cL_law 951 = .ok (.iconst 0, 1) := by decide +kernel
theorem dL_law_952 : decode cL_law 952 = .ok (.ireturn, 1) := by decide +kernel
theorem dL_law_953 : decode cL_law 953 = .ok (.aload_n 1, 1) := by decide +kernel
theorem dL_law_954 : decode cL_law 954 = .ok (.aload_n 0, 1) := by decide +kernel
theorem dL_law_955 : decode cL_law 955 = .ok (.iload_n 3, 1) := by decide +kernel
theorem dL_law_956 : decode cL_law 956 = .ok (.iconst 1, 1) := by decide +kernel
theorem dL_law_957 : decode cL_law 957 = .ok (.iadd, 1) := by decide +kernel
theorem dL_law_958 : decode cL_law 958 = .ok (.iaload, 1) := by decide +kernel
theorem dL_law_959 : decode cL_law 959 = .ok (.invokevirtual 129, 3) := by decide +kernel
theorem dL_law_962 : decode cL_law 962 = .ok (.aload_n 2, 1) := by decide +kernel
theorem dL_law_963 : decode cL_law 963 = .ok (.aload_n 0, 1) := by decide +kernel
theorem dL_law_964 : decode cL_law 964 = .ok (.iload_n 3, 1) := by decide +kernel
theorem dL_law_965 : decode cL_law 965 = .ok (.iconst 1, 1) := by decide +kernel
theorem dL_law_966 : decode cL_law 966 = .ok (.iadd, 1) := by decide +kernel
theorem dL_law_967 : decode cL_law 967 = .ok (.iaload, 1) := by decide +kernel
theorem dL_law_968 : decode cL_law 968 = .ok (.invokevirtual 132, 3) := by decide +kernel
theorem dL_law_971 : decode cL_law 971 = .ok (.if_icmp .eq 28, 3) := by decide +kernel
theorem dL_law_974 : decode cL_law 974 = .ok (.iconst 0, 1) := by decide +kernel
theorem dL_law_975 : decode cL_law 975 = .ok (.ireturn, 1) := by decide +kernel
theorem dL_law_976 : decode cL_law 976 = .ok (.aload_n 1, 1) := by decide +kernel
theorem dL_law_977 : decode cL_law 977 = .ok (.aload_n 0, 1) := by decide +kernel
theorem dL_law_978 : decode cL_law 978 = .ok (.iload_n 3, 1) := by decide +kernel
theorem dL_law_979 : decode cL_law 979 = .ok (.iconst 1, 1) := by decide +kernel
theorem dL_law_980 : decode cL_law 980 = .ok (.iadd, 1) := by decide +kernel
theorem dL_law_981 : decode cL_law 981 = .ok (.iaload, 1) := by decide +kernel
theorem dL_law_982 : decode cL_law 982 = .ok (.invokevirtual 133, 3) := by decide +kernel
theorem dL_law_985 : decode cL_law 985 = .ok (.aload_n 2, 1) := by decide +kernel
theorem dL_law_986 : decode cL_law 986 = .ok (.aload_n 0, 1) := by decide +kernel
theorem dL_law_987 : decode cL_law 987 = .ok (.iload_n 3, 1) := by decide +kernel
theorem dL_law_988 : decode cL_law 988 = .ok (.iconst 1, 1) := by decide +kernel
theorem dL_law_989 : decode cL_law 989 = .ok (.iadd, 1) := by decide +kernel
theorem dL_law_990 : decode cL_law 990 = .ok (.iaload, 1) := by decide +kernel
theorem dL_law_991 : decode cL_law 991 = .ok (.invokevirtual 136, 3) := by decide +kernel
theorem dL_law_994 : decode cL_law 994 = .ok (.if_icmp .eq 5, 3) := by decide +kernel
theorem dL_law_997 : decode cL_law 997 = .ok (.iconst 0, 1) := by decide +kernel
theorem dL_law_998 : decode cL_law 998 = .ok (.ireturn, 1) := by decide +kernel
theorem dL_law_999 : decode cL_law 999 = .ok (.iinc 3 6, 3) := by decide +kernel
theorem dL_law_1002 : decode cL_law 1002 = .ok (.goto (-984), 3) := by decide +kernel
theorem dL_law_1005 : decode cL_law 1005 = .ok (.iconst 1, 1) := by decide +kernel
theorem dL_law_1006 : decode cL_law 1006 = .ok (.ireturn, 1) := by decide +kernel
