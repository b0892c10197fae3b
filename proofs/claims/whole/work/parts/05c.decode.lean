theorem dX9_faultOfPattern_68 : decode cX9_faultOfPattern 68 = .ok (.iload 5, 2) := by decide +kernel
theorem dX9_faultOfPattern_70 : decode cX9_faultOfPattern 70 = .ok (.ifCond .eq 18, 3) := by decide +kernel
theorem dX9_faultOfPattern_73 : decode cX9_faultOfPattern 73 = .ok (.aload_n 0, 1) := by decide +kernel
theorem dX9_faultOfPattern_74 : decode cX9_faultOfPattern 74 = .ok (.getfield 46, 3) := by decide +kernel
theorem dX9_faultOfPattern_77 : decode cX9_faultOfPattern 77 = .ok (.aload_n 0, 1) := by decide +kernel
theorem dX9_faultOfPattern_78 : decode cX9_faultOfPattern 78 = .ok (.getfield 134, 3) := by decide +kernel
theorem dX9_faultOfPattern_81 : decode cX9_faultOfPattern 81 = .ok (.iconst 1, 1) := by decide +kernel
theorem dX9_faultOfPattern_82 : decode cX9_faultOfPattern 82 = .ok (.isub, 1) := by decide +kernel
theorem dX9_faultOfPattern_83 : decode cX9_faultOfPattern 83 = .ok (.iconst 1, 1) := by decide +kernel
theorem dX9_faultOfPattern_84 : decode cX9_faultOfPattern 84 = .ok (.iastore, 1) := by decide +kernel
theorem dX9_faultOfPattern_85 : decode cX9_faultOfPattern 85 = .ok (.goto 55, 3) := by decide +kernel
theorem dX9_faultOfPattern_88 : decode cX9_faultOfPattern 88 = .ok (.aload_n 0, 1) := by decide +kernel
theorem dX9_faultOfPattern_89 : decode cX9_faultOfPattern 89 = .ok (.getfield 43, 3) := by decide +kernel
theorem dX9_faultOfPattern_92 : decode cX9_faultOfPattern 92 = .ok (.aload_n 0, 1) := by decide +kernel
theorem dX9_faultOfPattern_93 : decode cX9_faultOfPattern 93 = .ok (.getfield 134, 3) := by decide +kernel
theorem dX9_faultOfPattern_96 : decode cX9_faultOfPattern 96 = .ok (.iload 4, 2) := by decide +kernel
theorem dX9_faultOfPattern_98 : decode cX9_faultOfPattern 98 = .ok (.ifCond .eq 10, 3) := by decide +kernel
theorem dX9_faultOfPattern_101 : decode cX9_faultOfPattern 101 = .ok (.iload_n 3, 1) := by decide +kernel
theorem dX9_faultOfPattern_102 : decode cX9_faultOfPattern 102 = .ok (.bipush 65, 2) := by decide +kernel
theorem dX9_faultOfPattern_104 : decode cX9_faultOfPattern 104 = .ok (.isub, 1) := by decide +kernel
theorem dX9_faultOfPattern_105 : decode cX9_faultOfPattern 105 = .ok (.goto 5, 3) := by decide +kernel
theorem dX9_faultOfPattern_108 : decode cX9_faultOfPattern 108 = .ok (.bipush 6, 2) := by decide +kernel
theorem dX9_faultOfPattern_110 : decode cX9_faultOfPattern 110 = .ok (.iastore, 1) := by decide +kernel
theorem dX9_faultOfPattern_111 : decode cX9_faultOfPattern 111 = .ok (.aload_n 0, 1) := by decide +kernel
theorem dX9_faultOfPattern_112 : decode cX9_faultOfPattern 112 = .ok (.getfield 46, 3) := by decide +kernel
theorem dX9_faultOfPattern_115 : decode cX9_faultOfPattern 115 = .ok (.aload_n 0, 1) := by decide +kernel
theorem dX9_faultOfPattern_116 : decode cX9_faultOfPattern 116 = .ok (.getfield 134, 3) := by decide +kernel
theorem dX9_faultOfPattern_119 : decode cX9_faultOfPattern 119 = .ok (.iload 4, 2) := by decide +kernel
theorem dX9_faultOfPattern_121 : decode cX9_faultOfPattern 121 = .ok (.ifCond .eq 7, 3) := by decide +kernel
theorem dX9_faultOfPattern_124 : decode cX9_faultOfPattern 124 = .ok (.iconst 0, 1) := by decide +kernel
theorem dX9_faultOfPattern_125 : decode cX9_faultOfPattern 125 = .ok (.goto 4, 3) := by decide +kernel
theorem dX9_faultOfPattern_128 : decode cX9_faultOfPattern 128 = .ok (.iconst 2, 1) := by decide +kernel
theorem dX9_faultOfPattern_129 : decode cX9_faultOfPattern 129 = .ok (.iastore, 1) := by decide +kernel
theorem dX9_faultOfPattern_130 : decode cX9_faultOfPattern 130 = .ok (.aload_n 0, 1) := by decide +kernel
theorem dX9_faultOfPattern_131 : decode cX9_faultOfPattern 131 = .ok (.dup, 1) := by decide +kernel
theorem dX9_faultOfPattern_132 : decode cX9_faultOfPattern 132 = .ok (.getfield 134, 3) := by decide +kernel
theorem dX9_faultOfPattern_135 : decode cX9_faultOfPattern 135 = .ok (.iconst 1, 1) := by decide +kernel
theorem dX9_faultOfPattern_136 : decode cX9_faultOfPattern 136 = .ok (.iadd, 1) := by decide +kernel
theorem dX9_faultOfPattern_137 : decode cX9_faultOfPattern 137 = .ok (.putfield 134, 3) := by decide +kernel
theorem dX9_faultOfPattern_140 : decode cX9_faultOfPattern 140 = .ok (.iload 4, 2) := by decide +kernel
theorem dX9_faultOfPattern_142 : decode cX9_faultOfPattern 142 = .ok (.istore_n 1, 1) := by decide +kernel
theorem dX9_faultOfPattern_143 : decode cX9_faultOfPattern 143 = .ok (.iinc 2 1, 3) := by decide +kernel
theorem dX9_faultOfPattern_146 : decode cX9_faultOfPattern 146 = .ok (.goto (-137), 3) := by decide +kernel
theorem dX9_faultOfPattern_149 : decode cX9_faultOfPattern 149 = .ok (.bipush (-6), 2) := by decide +kernel
theorem dX9_faultOfPattern_151 : decode cX9_faultOfPattern 151 = .ok (.ireturn, 1) := by decide +kernel
theorem dX9_fault_0 : decode cX9_fault 0 = .ok (.iload_n 1, 1) := by decide +kernel
theorem dX9_fault_1 : decode cX9_fault 1 = .ok (.ifCond .ne 10, 3) := by decide +kernel
theorem dX9_fault_4 : decode cX9_fault 4 = .ok (.aload_n 0, 1) := by decide +kernel
theorem dX9_fault_5 : decode cX9_fault 5 = .ok (.invokevirtual 137, 3) := by decide +kernel
theorem dX9_fault_8 : decode cX9_fault 8 = .ok (.goto 17, 3) := by decide +kernel
theorem dX9_fault_11 : decode cX9_fault 11 = .ok (.iload_n 1, 1) := by decide +kernel
theorem dX9_fault_12 : decode cX9_fault 12 = .ok (.iconst 1, 1) := by decide +kernel
theorem dX9_fault_13 : decode cX9_fault 13 = .ok (.if_icmp .ne 10, 3) := by decide +kernel
theorem dX9_fault_16 : decode cX9_fault 16 = .ok (.aload_n 0, 1) := by decide +kernel
theorem dX9_fault_17 : decode cX9_fault 17 = .ok (.invokevirtual 141, 3) := by decide +kernel
theorem dX9_fault_20 : decode cX9_fault 20 = .ok (.goto 5, 3) := by decide +kernel
theorem dX9_fault_23 : decode cX9_fault 23 = .ok (.bipush (-2), 2) := by decide +kernel
theorem dX9_fault_25 : decode cX9_fault 25 = .ok (.ireturn, 1) := by decide +kernel
theorem dX9_isLie_0 : decode cX9_isLie 0 = .ok (.aload_n 0, 1) := by decide +kernel
theorem dX9_isLie_1 : decode cX9_isLie 1 = .ok (.getfield 40, 3) := by decide +kernel
theorem dX9_isLie_4 : decode cX9_isLie 4 = .ok (.iload_n 1, 1) := by decide +kernel
theorem dX9_isLie_5 : decode cX9_isLie 5 = .ok (.iaload, 1) := by decide +kernel
theorem dX9_isLie_6 : decode cX9_isLie 6 = .ok (.iload_n 2, 1) := by decide +kernel
theorem dX9_isLie_7 : decode cX9_isLie 7 = .ok (.aload_n 0, 1) := by decide +kernel
theorem dX9_isLie_8 : decode cX9_isLie 8 = .ok (.getfield 37, 3) := by decide +kernel
theorem dX9_isLie_11 : decode cX9_isLie 11 = .ok (.iload_n 1, 1) := by decide +kernel
theorem dX9_isLie_12 : decode cX9_isLie 12 = .ok (.iaload, 1) := by decide +kernel
theorem dX9_isLie_13 : decode cX9_isLie 13 = .ok (.ishr, 1) := by decide +kernel
theorem dX9_isLie_14 : decode cX9_isLie 14 = .ok (.iconst 1, 1) := by decide +kernel
theorem dX9_isLie_15 : decode cX9_isLie 15 = .ok (.iand, 1) := by decide +kernel
theorem dX9_isLie_16 : decode cX9_isLie 16 = .ok (.if_icmp .eq 7, 3) := by decide +kernel
theorem dX9_isLie_19 : decode cX9_isLie 19 = .ok (.iconst 1, 1) := by decide +kernel
theorem dX9_isLie_20 : decode cX9_isLie 20 = .ok (.goto 4, 3) := by decide +kernel
theorem dX9_isLie_23 : decode cX9_isLie 23 = .ok (.iconst 0, 1) := by decide +kernel
theorem dX9_isLie_24 : decode cX9_isLie 24 = .ok (.ireturn, 1) := by decide +kernel
theorem dX9_whyNotKnit_0 : decode cX9_whyNotKnit 0 = .ok (.aload_n 0, 1) := by decide +kernel
theorem dX9_whyNotKnit_1 : decode cX9_whyNotKnit 1 = .ok (.getfield 92, 3) := by decide +kernel
theorem dX9_whyNotKnit_4 : decode cX9_whyNotKnit 4 = .ok (.bipush 30, 2) := by decide +kernel
theorem dX9_whyNotKnit_6 : decode cX9_whyNotKnit 6 = .ok (.if_icmp .ne 7, 3) := by decide +kernel
theorem dX9_whyNotKnit_9 : decode cX9_whyNotKnit 9 = .ok (.iconst 2, 1) := by decide +kernel
theorem dX9_whyNotKnit_10 : decode cX9_whyNotKnit 10 = .ok (.goto 15, 3) := by decide +kernel
theorem dX9_whyNotKnit_13 : decode cX9_whyNotKnit 13 = .ok (.aload_n 0, 1) := by decide +kernel
theorem dX9_whyNotKnit_14 : decode cX9_whyNotKnit 14 = .ok (.getfield 95, 3) := by decide +kernel
theorem dX9_whyNotKnit_17 : decode cX9_whyNotKnit 17 = .ok (.ifCond .ne 7, 3) := by decide +kernel
theorem dX9_whyNotKnit_20 : decode cX9_whyNotKnit 20 = .ok (.iconst 3, 1) := by decide +kernel
theorem dX9_whyNotKnit_21 : decode cX9_whyNotKnit 21 = .ok (.goto 4, 3) := by decide +kernel
theorem dX9_whyNotKnit_24 : decode cX9_whyNotKnit 24 = .ok (.iconst 0, 1) := by decide +kernel
theorem dX9_whyNotKnit_25 : decode cX9_whyNotKnit 25 = .ok (.ireturn, 1) := by decide +kernel
theorem dX9_whyNotSay_0 : decode cX9_whyNotSay 0 = .ok (.aload_n 0, 1) := by decide +kernel
theorem dX9_whyNotSay_1 : decode cX9_whyNotSay 1 = .ok (.getfield 7, 3) := by decide +kernel
theorem dX9_whyNotSay_4 : decode cX9_whyNotSay 4 = .ok (.iload_n 1, 1) := by decide +kernel
theorem dX9_whyNotSay_5 : decode cX9_whyNotSay 5 = .ok (.iaload, 1) := by decide +kernel
theorem dX9_whyNotSay_6 : decode cX9_whyNotSay 6 = .ok (.iload_n 2, 1) := by decide +kernel
theorem dX9_whyNotSay_7 : decode cX9_whyNotSay 7 = .ok (.ifCond .eq 7, 3) := by decide +kernel
theorem dX9_whyNotSay_10 : decode cX9_whyNotSay 10 = .ok (.iconst 1, 1) := by decide +kernel
theorem dX9_whyNotSay_11 : decode cX9_whyNotSay 11 = .ok (.goto 4, 3) := by decide +kernel
theorem dX9_whyNotSay_14 : decode cX9_whyNotSay 14 = .ok (.iconst 2, 1) := by decide +kernel
theorem dX9_whyNotSay_15 : decode cX9_whyNotSay 15 = .ok (.if_icmp .ne 5, 3) := by decide +kernel
theorem dX9_whyNotSay_18 : decode cX9_whyNotSay 18 = .ok (.iconst 1, 1) := by decide +kernel
theorem dX9_whyNotSay_19 : decode cX9_whyNotSay 19 = .ok (.ireturn, 1) := by decide +kernel
theorem dX9_whyNotSay_20 : decode cX9_whyNotSay 20 = .ok (.iload_n 2, 1) := by decide +kernel
theorem dX9_whyNotSay_21 : decode cX9_whyNotSay 21 = .ok (.ifCond .eq 10, 3) := by decide +kernel
theorem dX9_whyNotSay_24 : decode cX9_whyNotSay 24 = .ok (.aload_n 0, 1) := by decide +kernel
theorem dX9_whyNotSay_25 : decode cX9_whyNotSay 25 = .ok (.invokevirtual 144, 3) := by decide +kernel
theorem dX9_whyNotSay_28 : decode cX9_whyNotSay 28 = .ok (.goto 4, 3) := by decide +kernel
theorem dX9_whyNotSay_31 : decode cX9_whyNotSay 31 = .ok (.iconst 0, 1) := by decide +kernel
theorem dX9_whyNotSay_32 : decode cX9_whyNotSay 32 = .ok (.ireturn, 1) := by decide +kernel
theorem dX9_whyNot_0 : decode cX9_whyNot 0 = .ok (.aload_n 0, 1) := by decide +kernel
theorem dX9_whyNot_1 : decode cX9_whyNot 1 = .ok (.getfield 31, 3) := by decide +kernel
theorem dX9_whyNot_4 : decode cX9_whyNot 4 = .ok (.iload_n 1, 1) := by decide +kernel
theorem dX9_whyNot_5 : decode cX9_whyNot 5 = .ok (.iaload, 1) := by decide +kernel
theorem dX9_whyNot_6 : decode cX9_whyNot 6 = .ok (.tableswitch 61 0 2 #[26, 43, 48], 26) := by decide +kernel
theorem dX9_whyNot_32 : decode cX9_whyNot 32 = .ok (.aload_n 0, 1) := by decide +kernel
theorem dX9_whyNot_33 : decode cX9_whyNot 33 = .ok (.aload_n 0, 1) := by decide +kernel
theorem dX9_whyNot_34 : decode cX9_whyNot 34 = .ok (.getfield 34, 3) := by decide +kernel
theorem dX9_whyNot_37 : decode cX9_whyNot 37 = .ok (.iload_n 1, 1) := by decide +kernel
theorem dX9_whyNot_38 : decode cX9_whyNot 38 = .ok (.iaload, 1) := by decide +kernel
theorem dX9_whyNot_39 : decode cX9_whyNot 39 = .ok (.aload_n 0, 1) := by decide +kernel
theorem dX9_whyNot_40 : decode cX9_whyNot 40 = .ok (.iload_n 1, 1) := by decide +kernel
theorem dX9_whyNot_41 : decode cX9_whyNot 41 = .ok (.iload_n 2, 1) := by decide +kernel
theorem dX9_whyNot_42 : decode cX9_whyNot 42 = .ok (.invokevirtual 147, 3) := by decide +kernel
theorem dX9_whyNot_45 : decode cX9_whyNot 45 = .ok (.invokevirtual 151, 3) := by decide +kernel
theorem dX9_whyNot_48 : decode cX9_whyNot 48 = .ok (.ireturn, 1) := by decide +kernel
theorem dX9_whyNot_49 : decode cX9_whyNot 49 = .ok (.aload_n 0, 1) := by decide +kernel
theorem dX9_whyNot_50 : decode cX9_whyNot 50 = .ok (.invokevirtual 144, 3) := by decide +kernel
theorem dX9_whyNot_53 : decode cX9_whyNot 53 = .ok (.ireturn, 1) := by decide +kernel
theorem dX9_whyNot_54 : decode cX9_whyNot 54 = .ok (.aload_n 0, 1) := by decide +kernel
theorem dX9_whyNot_55 : decode cX9_whyNot 55 = .ok (.getfield 95, 3) := by decide +kernel
theorem dX9_whyNot_58 : decode cX9_whyNot 58 = .ok (.ifCond .ne 7, 3) := by decide +kernel
theorem dX9_whyNot_61 : decode cX9_whyNot 61 = .ok (.iconst 3, 1) := by decide +kernel
theorem dX9_whyNot_62 : decode cX9_whyNot 62 = .ok (.goto 4, 3) := by decide +kernel
theorem dX9_whyNot_65 : decode cX9_whyNot 65 = .ok (.iconst 0, 1) := by decide +kernel
theorem dX9_whyNot_66 : decode cX9_whyNot 66 = .ok (.ireturn, 1) := by decide +kernel
theorem dX9_whyNot_67 : decode cX9_whyNot 67 = .ok (.iconst 0, 1) := by decide +kernel
theorem dX9_whyNot_68 : decode cX9_whyNot 68 = .ok (.ireturn, 1) := by decide +kernel
theorem dX9_knit_0 : decode cX9_knit 0 = .ok (.aload_n 0, 1) := by decide +kernel
theorem dX9_knit_1 : decode cX9_knit 1 = .ok (.getfield 13, 3) := by decide +kernel
theorem dX9_knit_4 : decode cX9_knit 4 = .ok (.aload_n 0, 1) := by decide +kernel
theorem dX9_knit_5 : decode cX9_knit 5 = .ok (.getfield 92, 3) := by decide +kernel
theorem dX9_knit_8 : decode cX9_knit 8 = .ok (.iload_n 1, 1) := by decide +kernel
theorem dX9_knit_9 : decode cX9_knit 9 = .ok (.iastore, 1) := by decide +kernel
theorem dX9_knit_10 : decode cX9_knit 10 = .ok (.aload_n 0, 1) := by decide +kernel
theorem dX9_knit_11 : decode cX9_knit 11 = .ok (.getfield 16, 3) := by decide +kernel
theorem dX9_knit_14 : decode cX9_knit 14 = .ok (.aload_n 0, 1) := by decide +kernel
theorem dX9_knit_15 : decode cX9_knit 15 = .ok (.getfield 92, 3) := by decide +kernel
theorem dX9_knit_18 : decode cX9_knit 18 = .ok (.iload_n 2, 1) := by decide +kernel
theorem dX9_knit_19 : decode cX9_knit 19 = .ok (.iastore, 1) := by decide +kernel
theorem dX9_knit_20 : decode cX9_knit 20 = .ok (.aload_n 0, 1) := by decide +kernel
theorem dX9_knit_21 : decode cX9_knit 21 = .ok (.getfield 19, 3) := by decide +kernel
theorem dX9_knit_24 : decode cX9_knit 24 = .ok (.aload_n 0, 1) := by decide +kernel
theorem dX9_knit_25 : decode cX9_knit 25 = .ok (.getfield 92, 3) := by decide +kernel
theorem dX9_knit_28 : decode cX9_knit 28 = .ok (.aload_n 0, 1) := by decide +kernel
theorem dX9_knit_29 : decode cX9_knit 29 = .ok (.getfield 95, 3) := by decide +kernel
theorem dX9_knit_32 : decode cX9_knit 32 = .ok (.iastore, 1) := by decide +kernel
theorem dX9_knit_33 : decode cX9_knit 33 = .ok (.aload_n 0, 1) := by decide +kernel
theorem dX9_knit_34 : decode cX9_knit 34 = .ok (.dup, 1) := by decide +kernel
theorem dX9_knit_35 : decode cX9_knit 35 = .ok (.getfield 92, 3) := by decide +kernel
theorem dX9_knit_38 : decode cX9_knit 38 = .ok (.iconst 1, 1) := by decide +kernel
theorem dX9_knit_39 : decode cX9_knit 39 = .ok (.iadd, 1) := by decide +kernel
theorem dX9_knit_40 : decode cX9_knit 40 = .ok (.putfield 92, 3) := by decide +kernel
theorem dX9_knit_43 : decode cX9_knit 43 = .ok (.aload_n 0, 1) := by decide +kernel
theorem dX9_knit_44 : decode cX9_knit 44 = .ok (.dup, 1) := by decide +kernel
theorem dX9_knit_45 : decode cX9_knit 45 = .ok (.getfield 155, 3) := by decide +kernel
theorem dX9_knit_48 : decode cX9_knit 48 = .ok (.iconst 1, 1) := by decide +kernel
theorem dX9_knit_49 : decode cX9_knit 49 = .ok (.iadd, 1) := by decide +kernel
theorem dX9_knit_50 : decode cX9_knit 50 = .ok (.putfield 155, 3) := by decide +kernel
theorem dX9_knit_53 : decode cX9_knit 53 = .ok (.return_, 1) := by decide +kernel
theorem dX9_ravel_0 : decode cX9_ravel 0 = .ok (.aload_n 0, 1) := by decide +kernel
theorem dX9_ravel_1 : decode cX9_ravel 1 = .ok (.getfield 92, 3) := by decide +kernel
theorem dX9_ravel_4 : decode cX9_ravel 4 = .ok (.ifCond .le 23, 3) := by decide +kernel
theorem dX9_ravel_7 : decode cX9_ravel 7 = .ok (.aload_n 0, 1) := by decide +kernel
theorem dX9_ravel_8 : decode cX9_ravel 8 = .ok (.dup, 1) := by decide +kernel
theorem dX9_ravel_9 : decode cX9_ravel 9 = .ok (.getfield 92, 3) := by decide +kernel
theorem dX9_ravel_12 : decode cX9_ravel 12 = .ok (.iconst 1, 1) := by decide +kernel
theorem dX9_ravel_13 : decode cX9_ravel 13 = .ok (.isub, 1) := by decide +kernel
theorem dX9_ravel_14 : decode cX9_ravel 14 = .ok (.putfield 92, 3) := by decide +kernel
theorem dX9_ravel_17 : decode cX9_ravel 17 = .ok (.aload_n 0, 1) := by decide +kernel
theorem dX9_ravel_18 : decode cX9_ravel 18 = .ok (.dup, 1) := by decide +kernel
theorem dX9_ravel_19 : decode cX9_ravel 19 = .ok (.getfield 158, 3) := by decide +kernel
theorem dX9_ravel_22 : decode cX9_ravel 22 = .ok (.iconst 1, 1) := by decide +kernel
theorem dX9_ravel_23 : decode cX9_ravel 23 = .ok (.iadd, 1) := by decide +kernel
theorem dX9_ravel_24 : decode cX9_ravel 24 = .ok (.putfield 158, 3) := by decide +kernel
theorem dX9_ravel_27 : decode cX9_ravel 27 = .ok (.return_, 1) := by decide +kernel
theorem dX9_undo_0 : decode cX9_undo 0 = .ok (.aload_n 0, 1) := by decide +kernel
theorem dX9_undo_1 : decode cX9_undo 1 = .ok (.getfield 92, 3) := by decide +kernel
theorem dX9_undo_4 : decode cX9_undo 4 = .ok (.ifCond .le 17, 3) := by decide +kernel
theorem dX9_undo_7 : decode cX9_undo 7 = .ok (.aload_n 0, 1) := by decide +kernel
theorem dX9_undo_8 : decode cX9_undo 8 = .ok (.getfield 13, 3) := by decide +kernel
theorem dX9_undo_11 : decode cX9_undo 11 = .ok (.aload_n 0, 1) := by decide +kernel
theorem dX9_undo_12 : decode cX9_undo 12 = .ok (.getfield 92, 3) := by decide +kernel
theorem dX9_undo_15 : decode cX9_undo 15 = .ok (.iconst 1, 1) := by decide +kernel
theorem dX9_undo_16 : decode cX9_undo 16 = .ok (.isub, 1) := by decide +kernel
theorem dX9_undo_17 : decode cX9_undo 17 = .ok (.iaload, 1) := by decide +kernel
theorem dX9_undo_18 : decode cX9_undo 18 = .ok (.goto 5, 3) := by decide +kernel
theorem dX9_undo_21 : decode cX9_undo 21 = .ok (.bipush (-6), 2) := by decide +kernel
theorem dX9_undo_23 : decode cX9_undo 23 = .ok (.istore_n 1, 1) := by decide +kernel
theorem dX9_undo_24 : decode cX9_undo 24 = .ok (.aload_n 0, 1) := by decide +kernel
theorem dX9_undo_25 : decode cX9_undo 25 = .ok (.getfield 92, 3) := by decide +kernel
theorem dX9_undo_28 : decode cX9_undo 28 = .ok (.ifCond .le 25, 3) := by decide +kernel
theorem dX9_undo_31 : decode cX9_undo 31 = .ok (.aload_n 0, 1) := by decide +kernel
theorem dX9_undo_32 : decode cX9_undo 32 = .ok (.getfield 13, 3) := by decide +kernel
theorem dX9_undo_35 : decode cX9_undo 35 = .ok (.aload_n 0, 1) := by decide +kernel
theorem dX9_undo_36 : decode cX9_undo 36 = .ok (.getfield 92, 3) := by decide +kernel
theorem dX9_undo_39 : decode cX9_undo 39 = .ok (.iconst 1, 1) := by decide +kernel
theorem dX9_undo_40 : decode cX9_undo 40 = .ok (.isub, 1) := by decide +kernel
theorem dX9_undo_41 : decode cX9_undo 41 = .ok (.iaload, 1) := by decide +kernel
theorem dX9_undo_42 : decode cX9_undo 42 = .ok (.iload_n 1, 1) := by decide +kernel
theorem dX9_undo_43 : decode cX9_undo 43 = .ok (.if_icmp .ne 10, 3) := by decide +kernel
theorem dX9_undo_46 : decode cX9_undo 46 = .ok (.aload_n 0, 1) := by decide +kernel
theorem dX9_undo_47 : decode cX9_undo 47 = .ok (.invokevirtual 161, 3) := by decide +kernel
theorem dX9_undo_50 : decode cX9_undo 50 = .ok (.goto (-26), 3) := by decide +kernel
theorem dX9_undo_53 : decode cX9_undo 53 = .ok (.return_, 1) := by decide +kernel
theorem dX9_tells_0 : decode cX9_tells 0 = .ok (.iload_n 2, 1) := by decide +kernel
theorem dX9_tells_1 : decode cX9_tells 1 = .ok (.ifCond .eq 24, 3) := by decide +kernel
theorem dX9_tells_4 : decode cX9_tells 4 = .ok (.aload_n 0, 1) := by decide +kernel
theorem dX9_tells_5 : decode cX9_tells 5 = .ok (.iload_n 1, 1) := by decide +kernel
theorem dX9_tells_6 : decode cX9_tells 6 = .ok (.aload_n 0, 1) := by decide +kernel
theorem dX9_tells_7 : decode cX9_tells 7 = .ok (.getfield 164, 3) := by decide +kernel
theorem dX9_tells_10 : decode cX9_tells 10 = .ok (.iload_n 1, 1) := by decide +kernel
theorem dX9_tells_11 : decode cX9_tells 11 = .ok (.if_icmp .ne 7, 3) := by decide +kernel
theorem dX9_tells_14 : decode cX9_tells 14 = .ok (.iconst 1, 1) := by decide +kernel
theorem dX9_tells_15 : decode cX9_tells 15 = .ok (.goto 4, 3) := by decide +kernel
theorem dX9_tells_18 : decode cX9_tells 18 = .ok (.iconst 0, 1) := by decide +kernel
theorem dX9_tells_19 : decode cX9_tells 19 = .ok (.invokevirtual 167, 3) := by decide +kernel
theorem dX9_tells_22 : decode cX9_tells 22 = .ok (.goto 7, 3) := by decide +kernel
theorem dX9_tells_25 : decode cX9_tells 25 = .ok (.aload_n 0, 1) := by decide +kernel
theorem dX9_tells_26 : decode cX9_tells 26 = .ok (.invokevirtual 161, 3) := by decide +kernel
theorem dX9_tells_29 : decode cX9_tells 29 = .ok (.aload_n 0, 1) := by decide +kernel
theorem dX9_tells_30 : decode cX9_tells 30 = .ok (.iload_n 2, 1) := by decide +kernel
theorem dX9_tells_31 : decode cX9_tells 31 = .ok (.ifCond .eq 7, 3) := by decide +kernel
theorem dX9_tells_34 : decode cX9_tells 34 = .ok (.iload_n 1, 1) := by decide +kernel
theorem dX9_tells_35 : decode cX9_tells 35 = .ok (.goto 5, 3) := by decide +kernel
theorem dX9_tells_38 : decode cX9_tells 38 = .ok (.bipush (-6), 2) := by decide +kernel
theorem dX9_tells_40 : decode cX9_tells 40 = .ok (.putfield 164, 3) := by decide +kernel
theorem dX9_tells_43 : decode cX9_tells 43 = .ok (.return_, 1) := by decide +kernel
theorem dX9_happen_0 : decode cX9_happen 0 = .ok (.aload_n 0, 1) := by decide +kernel
theorem dX9_happen_1 : decode cX9_happen 1 = .ok (.getfield 31, 3) := by decide +kernel
theorem dX9_happen_4 : decode cX9_happen 4 = .ok (.iload_n 1, 1) := by decide +kernel
theorem dX9_happen_5 : decode cX9_happen 5 = .ok (.iaload, 1) := by decide +kernel
theorem dX9_happen_6 : decode cX9_happen 6 = .ok (.ifCond .ne 20, 3) := by decide +kernel
theorem dX9_happen_9 : decode cX9_happen 9 = .ok (.aload_n 0, 1) := by decide +kernel
theorem dX9_happen_10 : decode cX9_happen 10 = .ok (.aload_n 0, 1) := by decide +kernel
theorem dX9_happen_11 : decode cX9_happen 11 = .ok (.getfield 34, 3) := by decide +kernel
theorem dX9_happen_14 : decode cX9_happen 14 = .ok (.iload_n 1, 1) := by decide +kernel
theorem dX9_happen_15 : decode cX9_happen 15 = .ok (.iaload, 1) := by decide +kernel
theorem dX9_happen_16 : decode cX9_happen 16 = .ok (.aload_n 0, 1) := by decide +kernel
theorem dX9_happen_17 : decode cX9_happen 17 = .ok (.iload_n 1, 1) := by decide +kernel
theorem dX9_happen_18 : decode cX9_happen 18 = .ok (.iload_n 2, 1) := by decide +kernel
theorem dX9_happen_19 : decode cX9_happen 19 = .ok (.invokevirtual 147, 3) := by decide +kernel
theorem dX9_happen_22 : decode cX9_happen 22 = .ok (.invokevirtual 171, 3) := by decide +kernel
theorem dX9_happen_25 : decode cX9_happen 25 = .ok (.return_, 1) := by decide +kernel
theorem dX9_happen_26 : decode cX9_happen 26 = .ok (.aload_n 0, 1) := by decide +kernel
theorem dX9_happen_27 : decode cX9_happen 27 = .ok (.bipush (-6), 2) := by decide +kernel
theorem dX9_happen_29 : decode cX9_happen 29 = .ok (.putfield 164, 3) := by decide +kernel
theorem dX9_happen_32 : decode cX9_happen 32 = .ok (.aload_n 0, 1) := by decide +kernel
theorem dX9_happen_33 : decode cX9_happen 33 = .ok (.getfield 31, 3) := by decide +kernel
theorem dX9_happen_36 : decode cX9_happen 36 = .ok (.iload_n 1, 1) := by decide +kernel
theorem dX9_happen_37 : decode cX9_happen 37 = .ok (.iaload, 1) := by decide +kernel
theorem dX9_happen_38 : decode cX9_happen 38 = .ok (.iconst 1, 1) := by decide +kernel
theorem dX9_happen_39 : decode cX9_happen 39 = .ok (.if_icmp .ne 13, 3) := by decide +kernel
theorem dX9_happen_42 : decode cX9_happen 42 = .ok (.aload_n 0, 1) := by decide +kernel
theorem dX9_happen_43 : decode cX9_happen 43 = .ok (.bipush 6, 2) := by decide +kernel
theorem dX9_happen_45 : decode cX9_happen 45 = .ok (.iconst 2, 1) := by decide +kernel
theorem dX9_happen_46 : decode cX9_happen 46 = .ok (.invokevirtual 167, 3) := by decide +kernel
theorem dX9_happen_49 : decode cX9_happen 49 = .ok (.goto 30, 3) := by decide +kernel
theorem dX9_happen_52 : decode cX9_happen 52 = .ok (.aload_n 0, 1) := by decide +kernel
theorem dX9_happen_53 : decode cX9_happen 53 = .ok (.getfield 31, 3) := by decide +kernel
theorem dX9_happen_56 : decode cX9_happen 56 = .ok (.iload_n 1, 1) := by decide +kernel
theorem dX9_happen_57 : decode cX9_happen 57 = .ok (.iaload, 1) := by decide +kernel
theorem dX9_happen_58 : decode cX9_happen 58 = .ok (.iconst 2, 1) := by decide +kernel
theorem dX9_happen_59 : decode cX9_happen 59 = .ok (.if_icmp .ne 16, 3) := by decide +kernel
theorem dX9_happen_62 : decode cX9_happen 62 = .ok (.aload_n 0, 1) := by decide +kernel
theorem dX9_happen_63 : decode cX9_happen 63 = .ok (.dup, 1) := by decide +kernel
theorem dX9_happen_64 : decode cX9_happen 64 = .ok (.getfield 95, 3) := by decide +kernel
theorem dX9_happen_67 : decode cX9_happen 67 = .ok (.iconst 1, 1) := by decide +kernel
theorem dX9_happen_68 : decode cX9_happen 68 = .ok (.isub, 1) := by decide +kernel
theorem dX9_happen_69 : decode cX9_happen 69 = .ok (.putfield 95, 3) := by decide +kernel
theorem dX9_happen_72 : decode cX9_happen 72 = .ok (.goto 7, 3) := by decide +kernel
theorem dX9_happen_75 : decode cX9_happen 75 = .ok (.aload_n 0, 1) := by decide +kernel
theorem dX9_happen_76 : decode cX9_happen 76 = .ok (.invokevirtual 175, 3) := by decide +kernel
theorem dX9_happen_79 : decode cX9_happen 79 = .ok (.return_, 1) := by decide +kernel
theorem dX9_keepNow_0 : decode cX9_keepNow 0 = .ok (.iconst 0, 1) := by decide +kernel
theorem dX9_keepNow_1 : decode cX9_keepNow 1 = .ok (.istore_n 1, 1) := by decide +kernel
theorem dX9_keepNow_2 : decode cX9_keepNow 2 = .ok (.iload_n 1, 1) := by decide +kernel
theorem dX9_keepNow_3 : decode cX9_keepNow 3 = .ok (.bipush 30, 2) := by decide +kernel
theorem dX9_keepNow_5 : decode cX9_keepNow 5 = .ok (.if_icmp .ge 51, 3) := by decide +kernel
theorem dX9_keepNow_8 : decode cX9_keepNow 8 = .ok (.aload_n 0, 1) := by decide +kernel
theorem dX9_keepNow_9 : decode cX9_keepNow 9 = .ok (.getfield 52, 3) := by decide +kernel
theorem dX9_keepNow_12 : decode cX9_keepNow 12 = .ok (.iload_n 1, 1) := by decide +kernel
theorem dX9_keepNow_13 : decode cX9_keepNow 13 = .ok (.aload_n 0, 1) := by decide +kernel
theorem dX9_keepNow_14 : decode cX9_keepNow 14 = .ok (.getfield 13, 3) := by decide +kernel
theorem dX9_keepNow_17 : decode cX9_keepNow 17 = .ok (.iload_n 1, 1) := by decide +kernel
theorem dX9_keepNow_18 : decode cX9_keepNow 18 = .ok (.iaload, 1) := by decide +kernel
theorem dX9_keepNow_19 : decode cX9_keepNow 19 = .ok (.iastore, 1) := by decide +kernel
theorem dX9_keepNow_20 : decode cX9_keepNow 20 = .ok (.aload_n 0, 1) := by decide +kernel
theorem dX9_keepNow_21 : decode cX9_keepNow 21 = .ok (.getfield 52, 3) := by decide +kernel
theorem dX9_keepNow_24 : decode cX9_keepNow 24 = .ok (.bipush 30, 2) := by decide +kernel
theorem dX9_keepNow_26 : decode cX9_keepNow 26 = .ok (.iload_n 1, 1) := by decide +kernel
theorem dX9_keepNow_27 : decode cX9_keepNow 27 = .ok (.iadd, 1) := by decide +kernel
theorem dX9_keepNow_28 : decode cX9_keepNow 28 = .ok (.aload_n 0, 1) := by decide +kernel
theorem dX9_keepNow_29 : decode cX9_keepNow 29 = .ok (.getfield 16, 3) := by decide +kernel
theorem dX9_keepNow_32 : decode cX9_keepNow 32 = .ok (.iload_n 1, 1) := by decide +kernel
theorem dX9_keepNow_33 : decode cX9_keepNow 33 = .ok (.iaload, 1) := by decide +kernel
theorem dX9_keepNow_34 : decode cX9_keepNow 34 = .ok (.iastore, 1) := by decide +kernel
theorem dX9_keepNow_35 : decode cX9_keepNow 35 = .ok (.aload_n 0, 1) := by decide +kernel
theorem dX9_keepNow_36 : decode cX9_keepNow 36 = .ok (.getfield 52, 3) := by decide +kernel
theorem dX9_keepNow_39 : decode cX9_keepNow 39 = .ok (.bipush 60, 2) := by decide +kernel
theorem dX9_keepNow_41 : decode cX9_keepNow 41 = .ok (.iload_n 1, 1) := by decide +kernel
theorem dX9_keepNow_42 : decode cX9_keepNow 42 = .ok (.iadd, 1) := by decide +kernel
theorem dX9_keepNow_43 : decode cX9_keepNow 43 = .ok (.aload_n 0, 1) := by decide +kernel
theorem dX9_keepNow_44 : decode cX9_keepNow 44 = .ok (.getfield 19, 3) := by decide +kernel
theorem dX9_keepNow_47 : decode cX9_keepNow 47 = .ok (.iload_n 1, 1) := by decide +kernel
theorem dX9_keepNow_48 : decode cX9_keepNow 48 = .ok (.iaload, 1) := by decide +kernel
theorem dX9_keepNow_49 : decode cX9_keepNow 49 = .ok (.iastore, 1) := by decide +kernel
theorem dX9_keepNow_50 : decode cX9_keepNow 50 = .ok (.iinc 1 1, 3) := by decide +kernel
theorem dX9_keepNow_53 : decode cX9_keepNow 53 = .ok (.goto (-51), 3) := by decide +kernel
theorem dX9_keepNow_56 : decode cX9_keepNow 56 = .ok (.aload_n 0, 1) := by decide +kernel
theorem dX9_keepNow_57 : decode cX9_keepNow 57 = .ok (.getfield 52, 3) := by decide +kernel
theorem dX9_keepNow_60 : decode cX9_keepNow 60 = .ok (.bipush 90, 2) := by decide +kernel
theorem dX9_keepNow_62 : decode cX9_keepNow 62 = .ok (.aload_n 0, 1) := by decide +kernel
theorem dX9_keepNow_63 : decode cX9_keepNow 63 = .ok (.getfield 92, 3) := by decide +kernel
theorem dX9_keepNow_66 : decode cX9_keepNow 66 = .ok (.iastore, 1) := by decide +kernel
theorem dX9_keepNow_67 : decode cX9_keepNow 67 = .ok (.aload_n 0, 1) := by decide +kernel
theorem dX9_keepNow_68 : decode cX9_keepNow 68 = .ok (.getfield 52, 3) := by decide +kernel
theorem dX9_keepNow_71 : decode cX9_keepNow 71 = .ok (.bipush 91, 2) := by decide +kernel
theorem dX9_keepNow_73 : decode cX9_keepNow 73 = .ok (.aload_n 0, 1) := by decide +kernel
theorem dX9_keepNow_74 : decode cX9_keepNow 74 = .ok (.getfield 95, 3) := by decide +kernel
theorem dX9_keepNow_77 : decode cX9_keepNow 77 = .ok (.iastore, 1) := by decide +kernel
theorem dX9_keepNow_78 : decode cX9_keepNow 78 = .ok (.return_, 1) := by decide +kernel
theorem dX9_putBack_0 : decode cX9_putBack 0 = .ok (.iconst 0, 1) := by decide +kernel
theorem dX9_putBack_1 : decode cX9_putBack 1 = .ok (.istore_n 1, 1) := by decide +kernel
theorem dX9_putBack_2 : decode cX9_putBack 2 = .ok (.iload_n 1, 1) := by decide +kernel
theorem dX9_putBack_3 : decode cX9_putBack 3 = .ok (.bipush 30, 2) := by decide +kernel
theorem dX9_putBack_5 : decode cX9_putBack 5 = .ok (.if_icmp .ge 51, 3) := by decide +kernel
theorem dX9_putBack_8 : decode cX9_putBack 8 = .ok (.aload_n 0, 1) := by decide +kernel
theorem dX9_putBack_9 : decode cX9_putBack 9 = .ok (.getfield 13, 3) := by decide +kernel
theorem dX9_putBack_12 : decode cX9_putBack 12 = .ok (.iload_n 1, 1) := by decide +kernel
theorem dX9_putBack_13 : decode cX9_putBack 13 = .ok (.aload_n 0, 1) := by decide +kernel
theorem dX9_putBack_14 : decode cX9_putBack 14 = .ok (.getfield 52, 3) := by decide +kernel
theorem dX9_putBack_17 : decode cX9_putBack 17 = .ok (.iload_n 1, 1) := by decide +kernel
theorem dX9_putBack_18 : decode cX9_putBack 18 = .ok (.iaload, 1) := by decide +kernel
theorem dX9_putBack_19 : decode cX9_putBack 19 = .ok (.iastore, 1) := by decide +kernel
theorem dX9_putBack_20 : decode cX9_putBack 20 = .ok (.aload_n 0, 1) := by decide +kernel
theorem dX9_putBack_21 : decode cX9_putBack 21 = .ok (.getfield 16, 3) := by decide +kernel
theorem dX9_putBack_24 : decode cX9_putBack 24 = .ok (.iload_n 1, 1) := by decide +kernel
theorem dX9_putBack_25 : decode cX9_putBack 25 = .ok (.aload_n 0, 1) := by decide +kernel
theorem dX9_putBack_26 : decode cX9_putBack 26 = .ok (.getfield 52, 3) := by decide +kernel
theorem dX9_putBack_29 : decode cX9_putBack 29 = .ok (.bipush 30, 2) := by decide +kernel
theorem dX9_putBack_31 : decode cX9_putBack 31 = .ok (.iload_n 1, 1) := by decide +kernel
theorem dX9_putBack_32 : decode cX9_putBack 32 = .ok (.iadd, 1) := by decide +kernel
theorem dX9_putBack_33 : decode cX9_putBack 33 = .ok (.iaload, 1) := by decide +kernel
theorem dX9_putBack_34 : decode cX9_putBack 34 = .ok (.iastore, 1) := by decide +kernel
theorem dX9_putBack_35 : decode cX9_putBack 35 = .ok (.aload_n 0, 1) := by decide +kernel
theorem dX9_putBack_36 : decode cX9_putBack 36 = .ok (.getfield 19, 3) := by decide +kernel
theorem dX9_putBack_39 : decode cX9_putBack 39 = .ok (.iload_n 1, 1) := by decide +kernel
theorem dX9_putBack_40 : decode cX9_putBack 40 = .ok (.aload_n 0, 1) := by decide +kernel
theorem dX9_putBack_41 : decode cX9_putBack 41 = .ok (.getfield 52, 3) := by decide +kernel
theorem dX9_putBack_44 : decode cX9_putBack 44 = .ok (.bipush 60, 2) := by decide +kernel
theorem dX9_putBack_46 : decode cX9_putBack 46 = .ok (.iload_n 1, 1) := by decide +kernel
theorem dX9_putBack_47 : decode cX9_putBack 47 = .ok (.iadd, 1) := by decide +kernel
theorem dX9_putBack_48 : decode cX9_putBack 48 = .ok (.iaload, 1) := by decide +kernel
theorem dX9_putBack_49 : decode cX9_putBack 49 = .ok (.iastore, 1) := by decide +kernel
theorem dX9_putBack_50 : decode cX9_putBack 50 = .ok (.iinc 1 1, 3) := by decide +kernel
theorem dX9_putBack_53 : decode cX9_putBack 53 = .ok (.goto (-51), 3) := by decide +kernel
theorem dX9_putBack_56 : decode cX9_putBack 56 = .ok (.aload_n 0, 1) := by decide +kernel
theorem dX9_putBack_57 : decode cX9_putBack 57 = .ok (.aload_n 0, 1) := by decide +kernel
theorem dX9_putBack_58 : decode cX9_putBack 58 = .ok (.getfield 52, 3) := by decide +kernel
theorem dX9_putBack_61 : decode cX9_putBack 61 = .ok (.bipush 90, 2) := by decide +kernel
theorem dX9_putBack_63 : decode cX9_putBack 63 = .ok (.iaload, 1) := by decide +kernel
theorem dX9_putBack_64 : decode cX9_putBack 64 = .ok (.putfield 92, 3) := by decide +kernel
theorem dX9_putBack_67 : decode cX9_putBack 67 = .ok (.aload_n 0, 1) := by decide +kernel
theorem dX9_putBack_68 : decode cX9_putBack 68 = .ok (.aload_n 0, 1) := by decide +kernel
theorem dX9_putBack_69 : decode cX9_putBack 69 = .ok (.getfield 52, 3) := by decide +kernel
theorem dX9_putBack_72 : decode cX9_putBack 72 = .ok (.bipush 91, 2) := by decide +kernel
theorem dX9_putBack_74 : decode cX9_putBack 74 = .ok (.iaload, 1) := by decide +kernel
theorem dX9_putBack_75 : decode cX9_putBack 75 = .ok (.putfield 95, 3) := by decide +kernel
theorem dX9_putBack_78 : decode cX9_putBack 78 = .ok (.return_, 1) := by decide +kernel
theorem dX9_look_0 : decode cX9_look 0 = .ok (.aload_n 0, 1) := by decide +kernel
theorem dX9_look_1 : decode cX9_look 1 = .ok (.getfield 92, 3) := by decide +kernel
theorem dX9_look_4 : decode cX9_look 4 = .ok (.istore_n 2, 1) := by decide +kernel
theorem dX9_look_5 : decode cX9_look 5 = .ok (.iload_n 2, 1) := by decide +kernel
theorem dX9_look_6 : decode cX9_look 6 = .ok (.aload_n 0, 1) := by decide +kernel
theorem dX9_look_7 : decode cX9_look 7 = .ok (.getfield 52, 3) := by decide +kernel
theorem dX9_look_10 : decode cX9_look 10 = .ok (.bipush 90, 2) := by decide +kernel
theorem dX9_look_12 : decode cX9_look 12 = .ok (.iaload, 1) := by decide +kernel
theorem dX9_look_13 : decode cX9_look 13 = .ok (.if_icmp .ge 34, 3) := by decide +kernel
theorem dX9_look_16 : decode cX9_look 16 = .ok (.aload_n 0, 1) := by decide +kernel
theorem dX9_look_17 : decode cX9_look 17 = .ok (.getfield 49, 3) := by decide +kernel
theorem dX9_look_20 : decode cX9_look 20 = .ok (.iload_n 2, 1) := by decide +kernel
theorem dX9_look_21 : decode cX9_look 21 = .ok (.aload_n 0, 1) := by decide +kernel
theorem dX9_look_22 : decode cX9_look 22 = .ok (.getfield 49, 3) := by decide +kernel
theorem dX9_look_25 : decode cX9_look 25 = .ok (.iload_n 2, 1) := by decide +kernel
theorem dX9_look_26 : decode cX9_look 26 = .ok (.iaload, 1) := by decide +kernel
theorem dX9_look_27 : decode cX9_look 27 = .ok (.ifCond .ge 7, 3) := by decide +kernel
theorem dX9_look_30 : decode cX9_look 30 = .ok (.iload_n 1, 1) := by decide +kernel
theorem dX9_look_31 : decode cX9_look 31 = .ok (.goto 9, 3) := by decide +kernel
theorem dX9_look_34 : decode cX9_look 34 = .ok (.aload_n 0, 1) := by decide +kernel
theorem dX9_look_35 : decode cX9_look 35 = .ok (.getfield 49, 3) := by decide +kernel
theorem dX9_look_38 : decode cX9_look 38 = .ok (.iload_n 2, 1) := by decide +kernel
theorem dX9_look_39 : decode cX9_look 39 = .ok (.iaload, 1) := by decide +kernel
theorem dX9_look_40 : decode cX9_look 40 = .ok (.iastore, 1) := by decide +kernel
theorem dX9_look_41 : decode cX9_look 41 = .ok (.iinc 2 1, 3) := by decide +kernel
theorem dX9_look_44 : decode cX9_look 44 = .ok (.goto (-39), 3) := by decide +kernel
theorem dX9_look_47 : decode cX9_look 47 = .ok (.aload_n 0, 1) := by decide +kernel
theorem dX9_look_48 : decode cX9_look 48 = .ok (.aload_n 0, 1) := by decide +kernel
theorem dX9_look_49 : decode cX9_look 49 = .ok (.getfield 92, 3) := by decide +kernel
theorem dX9_look_52 : decode cX9_look 52 = .ok (.aload_n 0, 1) := by decide +kernel
theorem dX9_look_53 : decode cX9_look 53 = .ok (.getfield 178, 3) := by decide +kernel
theorem dX9_look_56 : decode cX9_look 56 = .ok (.if_icmp .ge 10, 3) := by decide +kernel
theorem dX9_look_59 : decode cX9_look 59 = .ok (.aload_n 0, 1) := by decide +kernel
theorem dX9_look_60 : decode cX9_look 60 = .ok (.getfield 92, 3) := by decide +kernel
theorem dX9_look_63 : decode cX9_look 63 = .ok (.goto 7, 3) := by decide +kernel
theorem dX9_look_66 : decode cX9_look 66 = .ok (.aload_n 0, 1) := by decide +kernel
theorem dX9_look_67 : decode cX9_look 67 = .ok (.getfield 178, 3) := by decide +kernel
theorem dX9_look_70 : decode cX9_look 70 = .ok (.putfield 178, 3) := by decide +kernel
theorem dX9_look_73 : decode cX9_look 73 = .ok (.aload_n 0, 1) := by decide +kernel
theorem dX9_look_74 : decode cX9_look 74 = .ok (.aload_n 0, 1) := by decide +kernel
theorem dX9_look_75 : decode cX9_look 75 = .ok (.getfield 92, 3) := by decide +kernel
theorem dX9_look_78 : decode cX9_look 78 = .ok (.aload_n 0, 1) := by decide +kernel
theorem dX9_look_79 : decode cX9_look 79 = .ok (.getfield 181, 3) := by decide +kernel
theorem dX9_look_82 : decode cX9_look 82 = .ok (.if_icmp .le 10, 3) := by decide +kernel
theorem dX9_look_85 : decode cX9_look 85 = .ok (.aload_n 0, 1) := by decide +kernel
theorem dX9_look_86 : decode cX9_look 86 = .ok (.getfield 92, 3) := by decide +kernel
theorem dX9_look_89 : decode cX9_look 89 = .ok (.goto 7, 3) := by decide +kernel
theorem dX9_look_92 : decode cX9_look 92 = .ok (.aload_n 0, 1) := by decide +kernel
theorem dX9_look_93 : decode cX9_look 93 = .ok (.getfield 181, 3) := by decide +kernel
theorem dX9_look_96 : decode cX9_look 96 = .ok (.putfield 181, 3) := by decide +kernel
theorem dX9_look_99 : decode cX9_look 99 = .ok (.return_, 1) := by decide +kernel
theorem dX9_isSeenSo_0 : decode cX9_isSeenSo 0 = .ok (.iconst 1, 1) := by decide +kernel
theorem dX9_isSeenSo_1 : decode cX9_isSeenSo 1 = .ok (.istore_n 2, 1) := by decide +kernel
theorem dX9_isSeenSo_2 : decode cX9_isSeenSo 2 = .ok (.iconst 0, 1) := by decide +kernel
theorem dX9_isSeenSo_3 : decode cX9_isSeenSo 3 = .ok (.istore_n 3, 1) := by decide +kernel
theorem dX9_isSeenSo_4 : decode cX9_isSeenSo 4 = .ok (.iload_n 3, 1) := by decide +kernel
theorem dX9_isSeenSo_5 : decode cX9_isSeenSo 5 = .ok (.aload_n 0, 1) := by decide +kernel
theorem dX9_isSeenSo_6 : decode cX9_isSeenSo 6 = .ok (.getfield 98, 3) := by decide +kernel
theorem dX9_isSeenSo_9 : decode cX9_isSeenSo 9 = .ok (.if_icmp .ge 42, 3) := by decide +kernel
theorem dX9_isSeenSo_12 : decode cX9_isSeenSo 12 = .ok (.iload_n 2, 1) := by decide +kernel
theorem dX9_isSeenSo_13 : decode cX9_isSeenSo 13 = .ok (.ifCond .eq 30, 3) := by decide +kernel
theorem dX9_isSeenSo_16 : decode cX9_isSeenSo 16 = .ok (.aload_n 0, 1) := by decide +kernel
theorem dX9_isSeenSo_17 : decode cX9_isSeenSo 17 = .ok (.getfield 22, 3) := by decide +kernel
theorem dX9_isSeenSo_20 : decode cX9_isSeenSo 20 = .ok (.iload_n 3, 1) := by decide +kernel
theorem dX9_isSeenSo_21 : decode cX9_isSeenSo 21 = .ok (.iaload, 1) := by decide +kernel
theorem dX9_isSeenSo_22 : decode cX9_isSeenSo 22 = .ok (.iload_n 1, 1) := by decide +kernel
theorem dX9_isSeenSo_23 : decode cX9_isSeenSo 23 = .ok (.if_icmp .ne 16, 3) := by decide +kernel
theorem dX9_isSeenSo_26 : decode cX9_isSeenSo 26 = .ok (.aload_n 0, 1) := by decide +kernel
theorem dX9_isSeenSo_27 : decode cX9_isSeenSo 27 = .ok (.getfield 25, 3) := by decide +kernel
theorem dX9_isSeenSo_30 : decode cX9_isSeenSo 30 = .ok (.iload_n 3, 1) := by decide +kernel
theorem dX9_isSeenSo_31 : decode cX9_isSeenSo 31 = .ok (.iaload, 1) := by decide +kernel
theorem dX9_isSeenSo_32 : decode cX9_isSeenSo 32 = .ok (.aload_n 0, 1) := by decide +kernel
theorem dX9_isSeenSo_33 : decode cX9_isSeenSo 33 = .ok (.getfield 92, 3) := by decide +kernel
theorem dX9_isSeenSo_36 : decode cX9_isSeenSo 36 = .ok (.if_icmp .ne 7, 3) := by decide +kernel
theorem dX9_isSeenSo_39 : decode cX9_isSeenSo 39 = .ok (.iconst 1, 1) := by decide +kernel
theorem dX9_isSeenSo_40 : decode cX9_isSeenSo 40 = .ok (.goto 4, 3) := by decide +kernel
theorem dX9_isSeenSo_43 : decode cX9_isSeenSo 43 = .ok (.iconst 0, 1) := by decide +kernel
theorem dX9_isSeenSo_44 : decode cX9_isSeenSo 44 = .ok (.istore_n 2, 1) := by decide +kernel
theorem dX9_isSeenSo_45 : decode cX9_isSeenSo 45 = .ok (.iinc 3 1, 3) := by decide +kernel
theorem dX9_isSeenSo_48 : decode cX9_isSeenSo 48 = .ok (.goto (-44), 3) := by decide +kernel
theorem dX9_isSeenSo_51 : decode cX9_isSeenSo 51 = .ok (.iload_n 2, 1) := by decide +kernel
theorem dX9_isSeenSo_52 : decode cX9_isSeenSo 52 = .ok (.ireturn, 1) := by decide +kernel
theorem dX9_goEvening_0 : decode cX9_goEvening 0 = .ok (.aload_n 0, 1) := by decide +kernel
theorem dX9_goEvening_1 : decode cX9_goEvening 1 = .ok (.bipush (-6), 2) := by decide +kernel
theorem dX9_goEvening_3 : decode cX9_goEvening 3 = .ok (.putfield 184, 3) := by decide +kernel
theorem dX9_goEvening_6 : decode cX9_goEvening 6 = .ok (.aload_n 0, 1) := by decide +kernel
theorem dX9_goEvening_7 : decode cX9_goEvening 7 = .ok (.bipush (-6), 2) := by decide +kernel
theorem dX9_goEvening_9 : decode cX9_goEvening 9 = .ok (.putfield 187, 3) := by decide +kernel
theorem dX9_goEvening_12 : decode cX9_goEvening 12 = .ok (.aload_n 0, 1) := by decide +kernel
theorem dX9_goEvening_13 : decode cX9_goEvening 13 = .ok (.iconst 0, 1) := by decide +kernel
theorem dX9_goEvening_14 : decode cX9_goEvening 14 = .ok (.putfield 155, 3) := by decide +kernel
theorem dX9_goEvening_17 : decode cX9_goEvening 17 = .ok (.aload_n 0, 1) := by decide +kernel
theorem dX9_goEvening_18 : decode cX9_goEvening 18 = .ok (.iconst 0, 1) := by decide +kernel
theorem dX9_goEvening_19 : decode cX9_goEvening 19 = .ok (.putfield 158, 3) := by decide +kernel
theorem dX9_goEvening_22 : decode cX9_goEvening 22 = .ok (.aload_n 0, 1) := by decide +kernel
theorem dX9_goEvening_23 : decode cX9_goEvening 23 = .ok (.aload_n 0, 1) := by decide +kernel
theorem dX9_goEvening_24 : decode cX9_goEvening 24 = .ok (.getfield 92, 3) := by decide +kernel
theorem dX9_goEvening_27 : decode cX9_goEvening 27 = .ok (.putfield 178, 3) := by decide +kernel
theorem dX9_goEvening_30 : decode cX9_goEvening 30 = .ok (.aload_n 0, 1) := by decide +kernel
theorem dX9_goEvening_31 : decode cX9_goEvening 31 = .ok (.aload_n 0, 1) := by decide +kernel
theorem dX9_goEvening_32 : decode cX9_goEvening 32 = .ok (.getfield 92, 3) := by decide +kernel
theorem dX9_goEvening_35 : decode cX9_goEvening 35 = .ok (.putfield 181, 3) := by decide +kernel
theorem dX9_goEvening_38 : decode cX9_goEvening 38 = .ok (.aload_n 0, 1) := by decide +kernel
theorem dX9_goEvening_39 : decode cX9_goEvening 39 = .ok (.bipush (-6), 2) := by decide +kernel
theorem dX9_goEvening_41 : decode cX9_goEvening 41 = .ok (.putfield 164, 3) := by decide +kernel
theorem dX9_goEvening_44 : decode cX9_goEvening 44 = .ok (.aload_n 0, 1) := by decide +kernel
theorem dX9_goEvening_45 : decode cX9_goEvening 45 = .ok (.aload_n 0, 1) := by decide +kernel
theorem dX9_goEvening_46 : decode cX9_goEvening 46 = .ok (.iconst 0, 1) := by decide +kernel
theorem dX9_goEvening_47 : decode cX9_goEvening 47 = .ok (.invokevirtual 190, 3) := by decide +kernel
theorem dX9_goEvening_50 : decode cX9_goEvening 50 = .ok (.putfield 193, 3) := by decide +kernel
theorem dX9_goEvening_53 : decode cX9_goEvening 53 = .ok (.iconst 0, 1) := by decide +kernel
theorem dX9_goEvening_54 : decode cX9_goEvening 54 = .ok (.istore_n 2, 1) := by decide +kernel
theorem dX9_goEvening_55 : decode cX9_goEvening 55 = .ok (.iload_n 2, 1) := by decide +kernel
theorem dX9_goEvening_56 : decode cX9_goEvening 56 = .ok (.bipush 30, 2) := by decide +kernel
theorem dX9_goEvening_58 : decode cX9_goEvening 58 = .ok (.if_icmp .ge 17, 3) := by decide +kernel
theorem dX9_goEvening_61 : decode cX9_goEvening 61 = .ok (.aload_n 0, 1) := by decide +kernel
theorem dX9_goEvening_62 : decode cX9_goEvening 62 = .ok (.getfield 49, 3) := by decide +kernel
theorem dX9_goEvening_65 : decode cX9_goEvening 65 = .ok (.iload_n 2, 1) := by decide +kernel
theorem dX9_goEvening_66 : decode cX9_goEvening 66 = .ok (.bipush (-6), 2) := by decide +kernel
theorem dX9_goEvening_68 : decode cX9_goEvening 68 = .ok (.iastore, 1) := by decide +kernel
theorem dX9_goEvening_69 : decode cX9_goEvening 69 = .ok (.iinc 2 1, 3) := by decide +kernel
theorem dX9_goEvening_72 : decode cX9_goEvening 72 = .ok (.goto (-17), 3) := by decide +kernel
theorem dX9_goEvening_75 : decode cX9_goEvening 75 = .ok (.iconst 0, 1) := by decide +kernel
theorem dX9_goEvening_76 : decode cX9_goEvening 76 = .ok (.istore_n 2, 1) := by decide +kernel
theorem dX9_goEvening_77 : decode cX9_goEvening 77 = .ok (.iload_n 2, 1) := by decide +kernel
theorem dX9_goEvening_78 : decode cX9_goEvening 78 = .ok (.aload_n 0, 1) := by decide +kernel
theorem dX9_goEvening_79 : decode cX9_goEvening 79 = .ok (.getfield 127, 3) := by decide +kernel
theorem dX9_goEvening_82 : decode cX9_goEvening 82 = .ok (.if_icmp .ge 92, 3) := by decide +kernel
theorem dX9_goEvening_85 : decode cX9_goEvening 85 = .ok (.aload_n 0, 1) := by decide +kernel
theorem dX9_goEvening_86 : decode cX9_goEvening 86 = .ok (.getfield 184, 3) := by decide +kernel
theorem dX9_goEvening_89 : decode cX9_goEvening 89 = .ok (.ifCond .ge 85, 3) := by decide +kernel
theorem dX9_goEvening_92 : decode cX9_goEvening 92 = .ok (.aload_n 0, 1) := by decide +kernel
theorem dX9_goEvening_93 : decode cX9_goEvening 93 = .ok (.iload_n 2, 1) := by decide +kernel
theorem dX9_goEvening_94 : decode cX9_goEvening 94 = .ok (.iload_n 1, 1) := by decide +kernel
theorem dX9_goEvening_95 : decode cX9_goEvening 95 = .ok (.invokevirtual 197, 3) := by decide +kernel
theorem dX9_goEvening_98 : decode cX9_goEvening 98 = .ok (.istore_n 3, 1) := by decide +kernel
theorem dX9_goEvening_99 : decode cX9_goEvening 99 = .ok (.aload_n 0, 1) := by decide +kernel
theorem dX9_goEvening_100 : decode cX9_goEvening 100 = .ok (.iload_n 3, 1) := by decide +kernel
theorem dX9_goEvening_101 : decode cX9_goEvening 101 = .ok (.ifCond .le 7, 3) := by decide +kernel
theorem dX9_goEvening_104 : decode cX9_goEvening 104 = .ok (.iload_n 2, 1) := by decide +kernel
theorem dX9_goEvening_105 : decode cX9_goEvening 105 = .ok (.goto 5, 3) := by decide +kernel
theorem dX9_goEvening_108 : decode cX9_goEvening 108 = .ok (.bipush (-6), 2) := by decide +kernel
theorem dX9_goEvening_110 : decode cX9_goEvening 110 = .ok (.putfield 184, 3) := by decide +kernel
theorem dX9_goEvening_113 : decode cX9_goEvening 113 = .ok (.aload_n 0, 1) := by decide +kernel
theorem dX9_goEvening_114 : decode cX9_goEvening 114 = .ok (.iload_n 3, 1) := by decide +kernel
theorem dX9_goEvening_115 : decode cX9_goEvening 115 = .ok (.ifCond .le 7, 3) := by decide +kernel
theorem dX9_goEvening_118 : decode cX9_goEvening 118 = .ok (.iload_n 3, 1) := by decide +kernel
theorem dX9_goEvening_119 : decode cX9_goEvening 119 = .ok (.goto 5, 3) := by decide +kernel
theorem dX9_goEvening_122 : decode cX9_goEvening 122 = .ok (.bipush (-6), 2) := by decide +kernel
theorem dX9_goEvening_124 : decode cX9_goEvening 124 = .ok (.putfield 187, 3) := by decide +kernel
theorem dX9_goEvening_127 : decode cX9_goEvening 127 = .ok (.iload_n 3, 1) := by decide +kernel
theorem dX9_goEvening_128 : decode cX9_goEvening 128 = .ok (.ifCond .ne 40, 3) := by decide +kernel
theorem dX9_goEvening_131 : decode cX9_goEvening 131 = .ok (.aload_n 0, 1) := by decide +kernel
theorem dX9_goEvening_132 : decode cX9_goEvening 132 = .ok (.iload_n 2, 1) := by decide +kernel
theorem dX9_goEvening_133 : decode cX9_goEvening 133 = .ok (.iload_n 1, 1) := by decide +kernel
theorem dX9_goEvening_134 : decode cX9_goEvening 134 = .ok (.invokevirtual 201, 3) := by decide +kernel
theorem dX9_goEvening_137 : decode cX9_goEvening 137 = .ok (.aload_n 0, 1) := by decide +kernel
theorem dX9_goEvening_138 : decode cX9_goEvening 138 = .ok (.iload_n 2, 1) := by decide +kernel
theorem dX9_goEvening_139 : decode cX9_goEvening 139 = .ok (.invokevirtual 204, 3) := by decide +kernel
theorem dX9_goEvening_142 : decode cX9_goEvening 142 = .ok (.aload_n 0, 1) := by decide +kernel
theorem dX9_goEvening_143 : decode cX9_goEvening 143 = .ok (.aload_n 0, 1) := by decide +kernel
theorem dX9_goEvening_144 : decode cX9_goEvening 144 = .ok (.getfield 193, 3) := by decide +kernel
theorem dX9_goEvening_147 : decode cX9_goEvening 147 = .ok (.ifCond .eq 17, 3) := by decide +kernel
theorem dX9_goEvening_150 : decode cX9_goEvening 150 = .ok (.aload_n 0, 1) := by decide +kernel
theorem dX9_goEvening_151 : decode cX9_goEvening 151 = .ok (.iload_n 2, 1) := by decide +kernel
theorem dX9_goEvening_152 : decode cX9_goEvening 152 = .ok (.iconst 1, 1) := by decide +kernel
theorem dX9_goEvening_153 : decode cX9_goEvening 153 = .ok (.iadd, 1) := by decide +kernel
theorem dX9_goEvening_154 : decode cX9_goEvening 154 = .ok (.invokevirtual 190, 3) := by decide +kernel
theorem dX9_goEvening_157 : decode cX9_goEvening 157 = .ok (.ifCond .eq 7, 3) := by decide +kernel
theorem dX9_goEvening_160 : decode cX9_goEvening 160 = .ok (.iconst 1, 1) := by decide +kernel
theorem dX9_goEvening_161 : decode cX9_goEvening 161 = .ok (.goto 4, 3) := by decide +kernel
theorem dX9_goEvening_164 : decode cX9_goEvening 164 = .ok (.iconst 0, 1) := by decide +kernel
theorem dX9_goEvening_165 : decode cX9_goEvening 165 = .ok (.putfield 193, 3) := by decide +kernel
theorem dX9_goEvening_168 : decode cX9_goEvening 168 = .ok (.iinc 2 1, 3) := by decide +kernel
theorem dX9_goEvening_171 : decode cX9_goEvening 171 = .ok (.goto (-94), 3) := by decide +kernel
theorem dX9_goEvening_174 : decode cX9_goEvening 174 = .ok (.return_, 1) := by decide +kernel
theorem dX9_refusal_0 : decode cX9_refusal 0 = .ok (.aload_n 0, 1) := by decide +kernel
theorem dX9_refusal_1 : decode cX9_refusal 1 = .ok (.invokevirtual 137, 3) := by decide +kernel
theorem dX9_refusal_4 : decode cX9_refusal 4 = .ok (.ifCond .lt 6, 3) := by decide +kernel
theorem dX9_refusal_7 : decode cX9_refusal 7 = .ok (.bipush (-5), 2) := by decide +kernel
theorem dX9_refusal_9 : decode cX9_refusal 9 = .ok (.ireturn, 1) := by decide +kernel
theorem dX9_refusal_10 : decode cX9_refusal 10 = .ok (.aload_n 0, 1) := by decide +kernel
theorem dX9_refusal_11 : decode cX9_refusal 11 = .ok (.invokevirtual 207, 3) := by decide +kernel
theorem dX9_refusal_14 : decode cX9_refusal 14 = .ok (.aload_n 0, 1) := by decide +kernel
theorem dX9_refusal_15 : decode cX9_refusal 15 = .ok (.aload_n 0, 1) := by decide +kernel
theorem dX9_refusal_16 : decode cX9_refusal 16 = .ok (.getfield 89, 3) := by decide +kernel
theorem dX9_refusal_19 : decode cX9_refusal 19 = .ok (.invokevirtual 210, 3) := by decide +kernel
theorem dX9_refusal_22 : decode cX9_refusal 22 = .ok (.iconst 0, 1) := by decide +kernel
theorem dX9_refusal_23 : decode cX9_refusal 23 = .ok (.istore_n 1, 1) := by decide +kernel
theorem dX9_refusal_24 : decode cX9_refusal 24 = .ok (.iload_n 1, 1) := by decide +kernel
theorem dX9_refusal_25 : decode cX9_refusal 25 = .ok (.bipush 30, 2) := by decide +kernel
theorem dX9_refusal_27 : decode cX9_refusal 27 = .ok (.if_icmp .ge 55, 3) := by decide +kernel
theorem dX9_refusal_30 : decode cX9_refusal 30 = .ok (.aload_n 0, 1) := by decide +kernel
theorem dX9_refusal_31 : decode cX9_refusal 31 = .ok (.getfield 55, 3) := by decide +kernel
theorem dX9_refusal_34 : decode cX9_refusal 34 = .ok (.iconst 3, 1) := by decide +kernel
theorem dX9_refusal_35 : decode cX9_refusal 35 = .ok (.iload_n 1, 1) := by decide +kernel
theorem dX9_refusal_36 : decode cX9_refusal 36 = .ok (.imul, 1) := by decide +kernel
theorem dX9_refusal_37 : decode cX9_refusal 37 = .ok (.aload_n 0, 1) := by decide +kernel
theorem dX9_refusal_38 : decode cX9_refusal 38 = .ok (.getfield 13, 3) := by decide +kernel
theorem dX9_refusal_41 : decode cX9_refusal 41 = .ok (.iload_n 1, 1) := by decide +kernel
theorem dX9_refusal_42 : decode cX9_refusal 42 = .ok (.iaload, 1) := by decide +kernel
theorem dX9_refusal_43 : decode cX9_refusal 43 = .ok (.iastore, 1) := by decide +kernel
theorem dX9_refusal_44 : decode cX9_refusal 44 = .ok (.aload_n 0, 1) := by decide +kernel
theorem dX9_refusal_45 : decode cX9_refusal 45 = .ok (.getfield 55, 3) := by decide +kernel
theorem dX9_refusal_48 : decode cX9_refusal 48 = .ok (.iconst 3, 1) := by decide +kernel
theorem dX9_refusal_49 : decode cX9_refusal 49 = .ok (.iload_n 1, 1) := by decide +kernel
theorem dX9_refusal_50 : decode cX9_refusal 50 = .ok (.imul, 1) := by decide +kernel
theorem dX9_refusal_51 : decode cX9_refusal 51 = .ok (.iconst 1, 1) := by decide +kernel
theorem dX9_refusal_52 : decode cX9_refusal 52 = .ok (.iadd, 1) := by decide +kernel
theorem dX9_refusal_53 : decode cX9_refusal 53 = .ok (.aload_n 0, 1) := by decide +kernel
theorem dX9_refusal_54 : decode cX9_refusal 54 = .ok (.getfield 16, 3) := by decide +kernel
theorem dX9_refusal_57 : decode cX9_refusal 57 = .ok (.iload_n 1, 1) := by decide +kernel
theorem dX9_refusal_58 : decode cX9_refusal 58 = .ok (.iaload, 1) := by decide +kernel
theorem dX9_refusal_59 : decode cX9_refusal 59 = .ok (.iastore, 1) := by decide +kernel
theorem dX9_refusal_60 : decode cX9_refusal 60 = .ok (.aload_n 0, 1) := by decide +kernel
theorem dX9_refusal_61 : decode cX9_refusal 61 = .ok (.getfield 55, 3) := by decide +kernel
theorem dX9_refusal_64 : decode cX9_refusal 64 = .ok (.iconst 3, 1) := by decide +kernel
theorem dX9_refusal_65 : decode cX9_refusal 65 = .ok (.iload_n 1, 1) := by decide +kernel
theorem dX9_refusal_66 : decode cX9_refusal 66 = .ok (.imul, 1) := by decide +kernel
theorem dX9_refusal_67 : decode cX9_refusal 67 = .ok (.iconst 2, 1) := by decide +kernel
theorem dX9_refusal_68 : decode cX9_refusal 68 = .ok (.iadd, 1) := by decide +kernel
theorem dX9_refusal_69 : decode cX9_refusal 69 = .ok (.aload_n 0, 1) := by decide +kernel
theorem dX9_refusal_70 : decode cX9_refusal 70 = .ok (.getfield 19, 3) := by decide +kernel
theorem dX9_refusal_73 : decode cX9_refusal 73 = .ok (.iload_n 1, 1) := by decide +kernel
theorem dX9_refusal_74 : decode cX9_refusal 74 = .ok (.iaload, 1) := by decide +kernel
theorem dX9_refusal_75 : decode cX9_refusal 75 = .ok (.iastore, 1) := by decide +kernel
theorem dX9_refusal_76 : decode cX9_refusal 76 = .ok (.iinc 1 1, 3) := by decide +kernel
theorem dX9_refusal_79 : decode cX9_refusal 79 = .ok (.goto (-55), 3) := by decide +kernel
theorem dX9_refusal_82 : decode cX9_refusal 82 = .ok (.aload_n 0, 1) := by decide +kernel
theorem dX9_refusal_83 : decode cX9_refusal 83 = .ok (.aload_n 0, 1) := by decide +kernel
theorem dX9_refusal_84 : decode cX9_refusal 84 = .ok (.getfield 92, 3) := by decide +kernel
theorem dX9_refusal_87 : decode cX9_refusal 87 = .ok (.putfield 213, 3) := by decide +kernel
theorem dX9_refusal_90 : decode cX9_refusal 90 = .ok (.aload_n 0, 1) := by decide +kernel
theorem dX9_refusal_91 : decode cX9_refusal 91 = .ok (.aload_n 0, 1) := by decide +kernel
theorem dX9_refusal_92 : decode cX9_refusal 92 = .ok (.getfield 95, 3) := by decide +kernel
theorem dX9_refusal_95 : decode cX9_refusal 95 = .ok (.putfield 216, 3) := by decide +kernel
theorem dX9_refusal_98 : decode cX9_refusal 98 = .ok (.aload_n 0, 1) := by decide +kernel
theorem dX9_refusal_99 : decode cX9_refusal 99 = .ok (.invokevirtual 219, 3) := by decide +kernel
theorem dX9_refusal_102 : decode cX9_refusal 102 = .ok (.aload_n 0, 1) := by decide +kernel
theorem dX9_refusal_103 : decode cX9_refusal 103 = .ok (.getfield 184, 3) := by decide +kernel
theorem dX9_refusal_106 : decode cX9_refusal 106 = .ok (.ifCond .lt 8, 3) := by decide +kernel
theorem dX9_refusal_109 : decode cX9_refusal 109 = .ok (.bipush (-3), 2) := by decide +kernel
theorem dX9_refusal_111 : decode cX9_refusal 111 = .ok (.goto 5, 3) := by decide +kernel
theorem dX9_refusal_114 : decode cX9_refusal 114 = .ok (.bipush (-6), 2) := by decide +kernel
theorem dX9_refusal_116 : decode cX9_refusal 116 = .ok (.ireturn, 1) := by decide +kernel
theorem dX9_judge_0 : decode cX9_judge 0 = .ok (.iload_n 1, 1) := by decide +kernel
theorem dX9_judge_1 : decode cX9_judge 1 = .ok (.i2l, 1) := by decide +kernel
theorem dX9_judge_2 : decode cX9_judge 2 = .ok (.lconst 0, 1) := by decide +kernel
theorem dX9_judge_3 : decode cX9_judge 3 = .ok (.ldc2_w 222, 3) := by decide +kernel
theorem dX9_judge_6 : decode cX9_judge 6 = .ok (.invokestatic 101, 3) := by decide +kernel
theorem dX9_judge_9 : decode cX9_judge 9 = .ok (.ifCond .ne 6, 3) := by decide +kernel
theorem dX9_judge_12 : decode cX9_judge 12 = .ok (.bipush (-2), 2) := by decide +kernel
theorem dX9_judge_14 : decode cX9_judge 14 = .ok (.ireturn, 1) := by decide +kernel
theorem dX9_judge_15 : decode cX9_judge 15 = .ok (.aload_n 0, 1) := by decide +kernel
theorem dX9_judge_16 : decode cX9_judge 16 = .ok (.invokevirtual 224, 3) := by decide +kernel
theorem dX9_judge_19 : decode cX9_judge 19 = .ok (.istore_n 2, 1) := by decide +kernel
theorem dX9_judge_20 : decode cX9_judge 20 = .ok (.iload_n 2, 1) := by decide +kernel
theorem dX9_judge_21 : decode cX9_judge 21 = .ok (.bipush (-5), 2) := by decide +kernel
theorem dX9_judge_23 : decode cX9_judge 23 = .ok (.if_icmp .eq 14, 3) := by decide +kernel
theorem dX9_judge_26 : decode cX9_judge 26 = .ok (.iload_n 1, 1) := by decide +kernel
theorem dX9_judge_27 : decode cX9_judge 27 = .ok (.iconst 1, 1) := by decide +kernel
theorem dX9_judge_28 : decode cX9_judge 28 = .ok (.if_icmp .le 11, 3) := by decide +kernel
theorem dX9_judge_31 : decode cX9_judge 31 = .ok (.iload_n 2, 1) := by decide +kernel
theorem dX9_judge_32 : decode cX9_judge 32 = .ok (.bipush (-3), 2) := by decide +kernel
theorem dX9_judge_34 : decode cX9_judge 34 = .ok (.if_icmp .ne 5, 3) := by decide +kernel
theorem dX9_judge_37 : decode cX9_judge 37 = .ok (.iload_n 2, 1) := by decide +kernel
theorem dX9_judge_38 : decode cX9_judge 38 = .ok (.ireturn, 1) := by decide +kernel
theorem dX9_judge_39 : decode cX9_judge 39 = .ok (.iload_n 1, 1) := by decide +kernel
theorem dX9_judge_40 : decode cX9_judge 40 = .ok (.ifCond .ne 10, 3) := by decide +kernel
theorem dX9_judge_43 : decode cX9_judge 43 = .ok (.aload_n 0, 1) := by decide +kernel
theorem dX9_judge_44 : decode cX9_judge 44 = .ok (.getfield 184, 3) := by decide +kernel
theorem dX9_judge_47 : decode cX9_judge 47 = .ok (.goto 31, 3) := by decide +kernel
theorem dX9_judge_50 : decode cX9_judge 50 = .ok (.iload_n 1, 1) := by decide +kernel
theorem dX9_judge_51 : decode cX9_judge 51 = .ok (.iconst 1, 1) := by decide +kernel
theorem dX9_judge_52 : decode cX9_judge 52 = .ok (.if_icmp .ne 10, 3) := by decide +kernel
theorem dX9_judge_55 : decode cX9_judge 55 = .ok (.aload_n 0, 1) := by decide +kernel
theorem dX9_judge_56 : decode cX9_judge 56 = .ok (.getfield 187, 3) := by decide +kernel
theorem dX9_judge_59 : decode cX9_judge 59 = .ok (.goto 19, 3) := by decide +kernel
theorem dX9_judge_62 : decode cX9_judge 62 = .ok (.iload_n 1, 1) := by decide +kernel
theorem dX9_judge_63 : decode cX9_judge 63 = .ok (.iconst 2, 1) := by decide +kernel
theorem dX9_judge_64 : decode cX9_judge 64 = .ok (.if_icmp .ne 10, 3) := by decide +kernel
theorem dX9_judge_67 : decode cX9_judge 67 = .ok (.aload_n 0, 1) := by decide +kernel
theorem dX9_judge_68 : decode cX9_judge 68 = .ok (.getfield 155, 3) := by decide +kernel
theorem dX9_judge_71 : decode cX9_judge 71 = .ok (.goto 7, 3) := by decide +kernel
theorem dX9_judge_74 : decode cX9_judge 74 = .ok (.aload_n 0, 1) := by decide +kernel
theorem dX9_judge_75 : decode cX9_judge 75 = .ok (.getfield 158, 3) := by decide +kernel
theorem dX9_judge_78 : decode cX9_judge 78 = .ok (.ireturn, 1) := by decide +kernel
theorem dX9_behind_0 : decode cX9_behind 0 = .ok (.iload_n 1, 1) := by decide +kernel
theorem dX9_behind_1 : decode cX9_behind 1 = .ok (.i2l, 1) := by decide +kernel
theorem dX9_behind_2 : decode cX9_behind 2 = .ok (.lconst 0, 1) := by decide +kernel
theorem dX9_behind_3 : decode cX9_behind 3 = .ok (.ldc2_w 222, 3) := by decide +kernel
theorem dX9_behind_6 : decode cX9_behind 6 = .ok (.invokestatic 101, 3) := by decide +kernel
theorem dX9_behind_9 : decode cX9_behind 9 = .ok (.ifCond .ne 6, 3) := by decide +kernel
theorem dX9_behind_12 : decode cX9_behind 12 = .ok (.bipush (-2), 2) := by decide +kernel
theorem dX9_behind_14 : decode cX9_behind 14 = .ok (.ireturn, 1) := by decide +kernel
theorem dX9_behind_15 : decode cX9_behind 15 = .ok (.aload_n 0, 1) := by decide +kernel
theorem dX9_behind_16 : decode cX9_behind 16 = .ok (.invokevirtual 224, 3) := by decide +kernel
theorem dX9_behind_19 : decode cX9_behind 19 = .ok (.istore_n 2, 1) := by decide +kernel
theorem dX9_behind_20 : decode cX9_behind 20 = .ok (.iload_n 2, 1) := by decide +kernel
theorem dX9_behind_21 : decode cX9_behind 21 = .ok (.bipush (-6), 2) := by decide +kernel
theorem dX9_behind_23 : decode cX9_behind 23 = .ok (.if_icmp .eq 5, 3) := by decide +kernel
theorem dX9_behind_26 : decode cX9_behind 26 = .ok (.iload_n 2, 1) := by decide +kernel
theorem dX9_behind_27 : decode cX9_behind 27 = .ok (.ireturn, 1) := by decide +kernel
theorem dX9_behind_28 : decode cX9_behind 28 = .ok (.iload_n 1, 1) := by decide +kernel
theorem dX9_behind_29 : decode cX9_behind 29 = .ok (.ifCond .ne 10, 3) := by decide +kernel
theorem dX9_behind_32 : decode cX9_behind 32 = .ok (.aload_n 0, 1) := by decide +kernel
theorem dX9_behind_33 : decode cX9_behind 33 = .ok (.getfield 213, 3) := by decide +kernel
theorem dX9_behind_36 : decode cX9_behind 36 = .ok (.goto 31, 3) := by decide +kernel
theorem dX9_behind_39 : decode cX9_behind 39 = .ok (.iload_n 1, 1) := by decide +kernel
theorem dX9_behind_40 : decode cX9_behind 40 = .ok (.iconst 1, 1) := by decide +kernel
theorem dX9_behind_41 : decode cX9_behind 41 = .ok (.if_icmp .ne 10, 3) := by decide +kernel
theorem dX9_behind_44 : decode cX9_behind 44 = .ok (.aload_n 0, 1) := by decide +kernel
theorem dX9_behind_45 : decode cX9_behind 45 = .ok (.getfield 216, 3) := by decide +kernel
theorem dX9_behind_48 : decode cX9_behind 48 = .ok (.goto 19, 3) := by decide +kernel
theorem dX9_behind_51 : decode cX9_behind 51 = .ok (.iload_n 1, 1) := by decide +kernel
theorem dX9_behind_52 : decode cX9_behind 52 = .ok (.iconst 2, 1) := by decide +kernel
theorem dX9_behind_53 : decode cX9_behind 53 = .ok (.if_icmp .ne 10, 3) := by decide +kernel
theorem dX9_behind_56 : decode cX9_behind 56 = .ok (.aload_n 0, 1) := by decide +kernel
theorem dX9_behind_57 : decode cX9_behind 57 = .ok (.getfield 178, 3) := by decide +kernel
theorem dX9_behind_60 : decode cX9_behind 60 = .ok (.goto 7, 3) := by decide +kernel
theorem dX9_behind_63 : decode cX9_behind 63 = .ok (.aload_n 0, 1) := by decide +kernel
theorem dX9_behind_64 : decode cX9_behind 64 = .ok (.getfield 181, 3) := by decide +kernel
theorem dX9_behind_67 : decode cX9_behind 67 = .ok (.ireturn, 1) := by decide +kernel
theorem dX9_row_0 : decode cX9_row 0 = .ok (.iload_n 2, 1) := by decide +kernel
theorem dX9_row_1 : decode cX9_row 1 = .ok (.i2l, 1) := by decide +kernel
theorem dX9_row_2 : decode cX9_row 2 = .ok (.lconst 0, 1) := by decide +kernel
theorem dX9_row_3 : decode cX9_row 3 = .ok (.ldc2_w 116, 3) := by decide +kernel
theorem dX9_row_6 : decode cX9_row 6 = .ok (.invokestatic 101, 3) := by decide +kernel
theorem dX9_row_9 : decode cX9_row 9 = .ok (.ifCond .ne 6, 3) := by decide +kernel
theorem dX9_row_12 : decode cX9_row 12 = .ok (.bipush (-2), 2) := by decide +kernel
theorem dX9_row_14 : decode cX9_row 14 = .ok (.ireturn, 1) := by decide +kernel
theorem dX9_row_15 : decode cX9_row 15 = .ok (.aload_n 0, 1) := by decide +kernel
theorem dX9_row_16 : decode cX9_row 16 = .ok (.invokevirtual 224, 3) := by decide +kernel
theorem dX9_row_19 : decode cX9_row 19 = .ok (.istore_n 3, 1) := by decide +kernel
theorem dX9_row_20 : decode cX9_row 20 = .ok (.iload_n 3, 1) := by decide +kernel
theorem dX9_row_21 : decode cX9_row 21 = .ok (.bipush (-6), 2) := by decide +kernel
theorem dX9_row_23 : decode cX9_row 23 = .ok (.if_icmp .eq 5, 3) := by decide +kernel
theorem dX9_row_26 : decode cX9_row 26 = .ok (.iload_n 3, 1) := by decide +kernel
theorem dX9_row_27 : decode cX9_row 27 = .ok (.ireturn, 1) := by decide +kernel
theorem dX9_row_28 : decode cX9_row 28 = .ok (.iload_n 1, 1) := by decide +kernel
theorem dX9_row_29 : decode cX9_row 29 = .ok (.i2l, 1) := by decide +kernel
theorem dX9_row_30 : decode cX9_row 30 = .ok (.lconst 0, 1) := by decide +kernel
theorem dX9_row_31 : decode cX9_row 31 = .ok (.aload_n 0, 1) := by decide +kernel
theorem dX9_row_32 : decode cX9_row 32 = .ok (.getfield 213, 3) := by decide +kernel
theorem dX9_row_35 : decode cX9_row 35 = .ok (.iconst 1, 1) := by decide +kernel
theorem dX9_row_36 : decode cX9_row 36 = .ok (.isub, 1) := by decide +kernel
theorem dX9_row_37 : decode cX9_row 37 = .ok (.i2l, 1) := by decide +kernel
theorem dX9_row_38 : decode cX9_row 38 = .ok (.invokestatic 101, 3) := by decide +kernel
theorem dX9_row_41 : decode cX9_row 41 = .ok (.ifCond .eq 16, 3) := by decide +kernel
theorem dX9_row_44 : decode cX9_row 44 = .ok (.aload_n 0, 1) := by decide +kernel
theorem dX9_row_45 : decode cX9_row 45 = .ok (.getfield 55, 3) := by decide +kernel
theorem dX9_row_48 : decode cX9_row 48 = .ok (.iconst 3, 1) := by decide +kernel
theorem dX9_row_49 : decode cX9_row 49 = .ok (.iload_n 1, 1) := by decide +kernel
theorem dX9_row_50 : decode cX9_row 50 = .ok (.imul, 1) := by decide +kernel
theorem dX9_row_51 : decode cX9_row 51 = .ok (.iload_n 2, 1) := by decide +kernel
theorem dX9_row_52 : decode cX9_row 52 = .ok (.iadd, 1) := by decide +kernel
theorem dX9_row_53 : decode cX9_row 53 = .ok (.iaload, 1) := by decide +kernel
theorem dX9_row_54 : decode cX9_row 54 = .ok (.goto 4, 3) := by decide +kernel
theorem dX9_row_57 : decode cX9_row 57 = .ok (.iconst (-1), 1) := by decide +kernel
theorem dX9_row_58 : decode cX9_row 58 = .ok (.ireturn, 1) := by decide +kernel
theorem dX9_lost_0 : decode cX9_lost 0 = .ok (.aload_n 0, 1) := by decide +kernel
theorem dX9_lost_1 : decode cX9_lost 1 = .ok (.iload_n 1, 1) := by decide +kernel
theorem dX9_lost_2 : decode cX9_lost 2 = .ok (.invokevirtual 227, 3) := by decide +kernel
theorem dX9_lost_5 : decode cX9_lost 5 = .ok (.ifCond .ne 5, 3) := by decide +kernel
theorem dX9_lost_8 : decode cX9_lost 8 = .ok (.iconst (-1), 1) := by decide +kernel
theorem dX9_lost_9 : decode cX9_lost 9 = .ok (.ireturn, 1) := by decide +kernel
theorem dX9_lost_10 : decode cX9_lost 10 = .ok (.aload_n 0, 1) := by decide +kernel
theorem dX9_lost_11 : decode cX9_lost 11 = .ok (.invokevirtual 224, 3) := by decide +kernel
theorem dX9_lost_14 : decode cX9_lost 14 = .ok (.istore_n 2, 1) := by decide +kernel
theorem dX9_lost_15 : decode cX9_lost 15 = .ok (.iload_n 2, 1) := by decide +kernel
theorem dX9_lost_16 : decode cX9_lost 16 = .ok (.bipush (-6), 2) := by decide +kernel
theorem dX9_lost_18 : decode cX9_lost 18 = .ok (.if_icmp .eq 7, 3) := by decide +kernel
theorem dX9_lost_21 : decode cX9_lost 21 = .ok (.iload_n 2, 1) := by decide +kernel
theorem dX9_lost_22 : decode cX9_lost 22 = .ok (.goto 9, 3) := by decide +kernel
theorem dX9_lost_25 : decode cX9_lost 25 = .ok (.aload_n 0, 1) := by decide +kernel
theorem dX9_lost_26 : decode cX9_lost 26 = .ok (.getfield 49, 3) := by decide +kernel
theorem dX9_lost_29 : decode cX9_lost 29 = .ok (.iload_n 1, 1) := by decide +kernel
theorem dX9_lost_30 : decode cX9_lost 30 = .ok (.iaload, 1) := by decide +kernel
theorem dX9_lost_31 : decode cX9_lost 31 = .ok (.ireturn, 1) := by decide +kernel
theorem dX9_done_0 : decode cX9_done 0 = .ok (.aload_n 0, 1) := by decide +kernel
theorem dX9_done_1 : decode cX9_done 1 = .ok (.invokevirtual 224, 3) := by decide +kernel
theorem dX9_done_4 : decode cX9_done 4 = .ok (.istore_n 1, 1) := by decide +kernel
theorem dX9_done_5 : decode cX9_done 5 = .ok (.iload_n 1, 1) := by decide +kernel
theorem dX9_done_6 : decode cX9_done 6 = .ok (.bipush (-6), 2) := by decide +kernel
theorem dX9_done_8 : decode cX9_done 8 = .ok (.if_icmp .eq 5, 3) := by decide +kernel
theorem dX9_done_11 : decode cX9_done 11 = .ok (.iload_n 1, 1) := by decide +kernel
theorem dX9_done_12 : decode cX9_done 12 = .ok (.ireturn, 1) := by decide +kernel
theorem dX9_done_13 : decode cX9_done 13 = .ok (.aload_n 0, 1) := by decide +kernel
theorem dX9_done_14 : decode cX9_done 14 = .ok (.aload_n 0, 1) := by decide +kernel
theorem dX9_done_15 : decode cX9_done 15 = .ok (.getfield 89, 3) := by decide +kernel
theorem dX9_done_18 : decode cX9_done 18 = .ok (.invokevirtual 210, 3) := by decide +kernel
theorem dX9_done_21 : decode cX9_done 21 = .ok (.aload_n 0, 1) := by decide +kernel
theorem dX9_done_22 : decode cX9_done 22 = .ok (.iconst 0, 1) := by decide +kernel
theorem dX9_done_23 : decode cX9_done 23 = .ok (.putfield 124, 3) := by decide +kernel
theorem dX9_done_26 : decode cX9_done 26 = .ok (.aload_n 0, 1) := by decide +kernel
theorem dX9_done_27 : decode cX9_done 27 = .ok (.getfield 127, 3) := by decide +kernel
theorem dX9_done_30 : decode cX9_done 30 = .ok (.ireturn, 1) := by decide +kernel
theorem dX9_state_0 : decode cX9_state 0 = .ok (.aload_n 0, 1) := by decide +kernel
theorem dX9_state_1 : decode cX9_state 1 = .ok (.iload_n 1, 1) := by decide +kernel
theorem dX9_state_2 : decode cX9_state 2 = .ok (.invokevirtual 227, 3) := by decide +kernel
theorem dX9_state_5 : decode cX9_state 5 = .ok (.ifCond .ne 5, 3) := by decide +kernel
theorem dX9_state_8 : decode cX9_state 8 = .ok (.iconst (-1), 1) := by decide +kernel
theorem dX9_state_9 : decode cX9_state 9 = .ok (.ireturn, 1) := by decide +kernel
theorem dX9_state_10 : decode cX9_state 10 = .ok (.iload_n 2, 1) := by decide +kernel
theorem dX9_state_11 : decode cX9_state 11 = .ok (.ifCond .ne 12, 3) := by decide +kernel
theorem dX9_state_14 : decode cX9_state 14 = .ok (.aload_n 0, 1) := by decide +kernel
theorem dX9_state_15 : decode cX9_state 15 = .ok (.getfield 13, 3) := by decide +kernel
theorem dX9_state_18 : decode cX9_state 18 = .ok (.iload_n 1, 1) := by decide +kernel
theorem dX9_state_19 : decode cX9_state 19 = .ok (.iaload, 1) := by decide +kernel
theorem dX9_state_20 : decode cX9_state 20 = .ok (.goto 33, 3) := by decide +kernel
theorem dX9_state_23 : decode cX9_state 23 = .ok (.iload_n 2, 1) := by decide +kernel
theorem dX9_state_24 : decode cX9_state 24 = .ok (.iconst 1, 1) := by decide +kernel
theorem dX9_state_25 : decode cX9_state 25 = .ok (.if_icmp .ne 12, 3) := by decide +kernel
theorem dX9_state_28 : decode cX9_state 28 = .ok (.aload_n 0, 1) := by decide +kernel
theorem dX9_state_29 : decode cX9_state 29 = .ok (.getfield 16, 3) := by decide +kernel
theorem dX9_state_32 : decode cX9_state 32 = .ok (.iload_n 1, 1) := by decide +kernel
theorem dX9_state_33 : decode cX9_state 33 = .ok (.iaload, 1) := by decide +kernel
theorem dX9_state_34 : decode cX9_state 34 = .ok (.goto 19, 3) := by decide +kernel
theorem dX9_state_37 : decode cX9_state 37 = .ok (.iload_n 2, 1) := by decide +kernel
theorem dX9_state_38 : decode cX9_state 38 = .ok (.iconst 2, 1) := by decide +kernel
theorem dX9_state_39 : decode cX9_state 39 = .ok (.if_icmp .ne 12, 3) := by decide +kernel
theorem dX9_state_42 : decode cX9_state 42 = .ok (.aload_n 0, 1) := by decide +kernel
theorem dX9_state_43 : decode cX9_state 43 = .ok (.getfield 19, 3) := by decide +kernel
theorem dX9_state_46 : decode cX9_state 46 = .ok (.iload_n 1, 1) := by decide +kernel
theorem dX9_state_47 : decode cX9_state 47 = .ok (.iaload, 1) := by decide +kernel
theorem dX9_state_48 : decode cX9_state 48 = .ok (.goto 5, 3) := by decide +kernel
theorem dX9_state_51 : decode cX9_state 51 = .ok (.bipush (-2), 2) := by decide +kernel
theorem dX9_state_53 : decode cX9_state 53 = .ok (.ireturn, 1) := by decide +kernel
theorem dX9_canTell_0 : decode cX9_canTell 0 = .ok (.iconst 0, 1) := by decide +kernel
theorem dX9_canTell_1 : decode cX9_canTell 1 = .ok (.istore_n 1, 1) := by decide +kernel
theorem dX9_canTell_2 : decode cX9_canTell 2 = .ok (.iconst 0, 1) := by decide +kernel
theorem dX9_canTell_3 : decode cX9_canTell 3 = .ok (.istore_n 2, 1) := by decide +kernel
theorem dX9_canTell_4 : decode cX9_canTell 4 = .ok (.iload_n 2, 1) := by decide +kernel
theorem dX9_canTell_5 : decode cX9_canTell 5 = .ok (.bipush 6, 2) := by decide +kernel
theorem dX9_canTell_7 : decode cX9_canTell 7 = .ok (.if_icmp .ge 29, 3) := by decide +kernel
theorem dX9_canTell_10 : decode cX9_canTell 10 = .ok (.iload_n 1, 1) := by decide +kernel
theorem dX9_canTell_11 : decode cX9_canTell 11 = .ok (.ifCond .ne 13, 3) := by decide +kernel
theorem dX9_canTell_14 : decode cX9_canTell 14 = .ok (.aload_n 0, 1) := by decide +kernel
theorem dX9_canTell_15 : decode cX9_canTell 15 = .ok (.getfield 7, 3) := by decide +kernel
theorem dX9_canTell_18 : decode cX9_canTell 18 = .ok (.iload_n 2, 1) := by decide +kernel
theorem dX9_canTell_19 : decode cX9_canTell 19 = .ok (.iaload, 1) := by decide +kernel
theorem dX9_canTell_20 : decode cX9_canTell 20 = .ok (.iconst 2, 1) := by decide +kernel
theorem dX9_canTell_21 : decode cX9_canTell 21 = .ok (.if_icmp .eq 7, 3) := by decide +kernel
theorem dX9_canTell_24 : decode cX9_canTell 24 = .ok (.iconst 1, 1) := by decide +kernel
theorem dX9_canTell_25 : decode cX9_canTell 25 = .ok (.goto 4, 3) := by decide +kernel
theorem dX9_canTell_28 : decode cX9_canTell 28 = .ok (.iconst 0, 1) := by decide +kernel
theorem dX9_canTell_29 : decode cX9_canTell 29 = .ok (.istore_n 1, 1) := by decide +kernel
theorem dX9_canTell_30 : decode cX9_canTell 30 = .ok (.iinc 2 1, 3) := by decide +kernel
theorem dX9_canTell_33 : decode cX9_canTell 33 = .ok (.goto (-29), 3) := by decide +kernel
theorem dX9_canTell_36 : decode cX9_canTell 36 = .ok (.iload_n 1, 1) := by decide +kernel
theorem dX9_canTell_37 : decode cX9_canTell 37 = .ok (.ireturn, 1) := by decide +kernel
theorem dX9_alikeUpTo_0 : decode cX9_alikeUpTo 0 = .ok (.iconst 0, 1) := by decide +kernel
theorem dX9_alikeUpTo_1 : decode cX9_alikeUpTo 1 = .ok (.istore_n 2, 1) := by decide +kernel
theorem dX9_alikeUpTo_2 : decode cX9_alikeUpTo 2 = .ok (.iload_n 2, 1) := by decide +kernel
theorem dX9_alikeUpTo_3 : decode cX9_alikeUpTo 3 = .ok (.iload_n 1, 1) := by decide +kernel
theorem dX9_alikeUpTo_4 : decode cX9_alikeUpTo 4 = .ok (.if_icmp .ge 47, 3) := by decide +kernel
theorem dX9_alikeUpTo_7 : decode cX9_alikeUpTo 7 = .ok (.iload_n 2, 1) := by decide +kernel
theorem dX9_alikeUpTo_8 : decode cX9_alikeUpTo 8 = .ok (.aload_n 0, 1) := by decide +kernel
theorem dX9_alikeUpTo_9 : decode cX9_alikeUpTo 9 = .ok (.getfield 92, 3) := by decide +kernel
theorem dX9_alikeUpTo_12 : decode cX9_alikeUpTo 12 = .ok (.if_icmp .ge 39, 3) := by decide +kernel
theorem dX9_alikeUpTo_15 : decode cX9_alikeUpTo 15 = .ok (.aload_n 0, 1) := by decide +kernel
theorem dX9_alikeUpTo_16 : decode cX9_alikeUpTo 16 = .ok (.getfield 13, 3) := by decide +kernel
theorem dX9_alikeUpTo_19 : decode cX9_alikeUpTo 19 = .ok (.iload_n 2, 1) := by decide +kernel
theorem dX9_alikeUpTo_20 : decode cX9_alikeUpTo 20 = .ok (.iaload, 1) := by decide +kernel
theorem dX9_alikeUpTo_21 : decode cX9_alikeUpTo 21 = .ok (.aload_n 0, 1) := by decide +kernel
theorem dX9_alikeUpTo_22 : decode cX9_alikeUpTo 22 = .ok (.getfield 43, 3) := by decide +kernel
theorem dX9_alikeUpTo_25 : decode cX9_alikeUpTo 25 = .ok (.iload_n 2, 1) := by decide +kernel
theorem dX9_alikeUpTo_26 : decode cX9_alikeUpTo 26 = .ok (.iaload, 1) := by decide +kernel
theorem dX9_alikeUpTo_27 : decode cX9_alikeUpTo 27 = .ok (.if_icmp .ne 24, 3) := by decide +kernel
theorem dX9_alikeUpTo_30 : decode cX9_alikeUpTo 30 = .ok (.aload_n 0, 1) := by decide +kernel
theorem dX9_alikeUpTo_31 : decode cX9_alikeUpTo 31 = .ok (.getfield 16, 3) := by decide +kernel
theorem dX9_alikeUpTo_34 : decode cX9_alikeUpTo 34 = .ok (.iload_n 2, 1) := by decide +kernel
theorem dX9_alikeUpTo_35 : decode cX9_alikeUpTo 35 = .ok (.iaload, 1) := by decide +kernel
theorem dX9_alikeUpTo_36 : decode cX9_alikeUpTo 36 = .ok (.aload_n 0, 1) := by decide +kernel
theorem dX9_alikeUpTo_37 : decode cX9_alikeUpTo 37 = .ok (.getfield 46, 3) := by decide +kernel
theorem dX9_alikeUpTo_40 : decode cX9_alikeUpTo 40 = .ok (.iload_n 2, 1) := by decide +kernel
theorem dX9_alikeUpTo_41 : decode cX9_alikeUpTo 41 = .ok (.iaload, 1) := by decide +kernel
theorem dX9_alikeUpTo_42 : decode cX9_alikeUpTo 42 = .ok (.if_icmp .ne 9, 3) := by decide +kernel
theorem dX9_alikeUpTo_45 : decode cX9_alikeUpTo 45 = .ok (.iinc 2 1, 3) := by decide +kernel
theorem dX9_alikeUpTo_48 : decode cX9_alikeUpTo 48 = .ok (.goto (-46), 3) := by decide +kernel
theorem dX9_alikeUpTo_51 : decode cX9_alikeUpTo 51 = .ok (.iload_n 2, 1) := by decide +kernel
theorem dX9_alikeUpTo_52 : decode cX9_alikeUpTo 52 = .ok (.ireturn, 1) := by decide +kernel
theorem dX9_findDown_0 : decode cX9_findDown 0 = .ok (.iconst 0, 1) := by decide +kernel
theorem dX9_findDown_1 : decode cX9_findDown 1 = .ok (.istore_n 1, 1) := by decide +kernel
theorem dX9_findDown_2 : decode cX9_findDown 2 = .ok (.iload_n 1, 1) := by decide +kernel
theorem dX9_findDown_3 : decode cX9_findDown 3 = .ok (.bipush 30, 2) := by decide +kernel
theorem dX9_findDown_5 : decode cX9_findDown 5 = .ok (.if_icmp .gt 29, 3) := by decide +kernel
theorem dX9_findDown_8 : decode cX9_findDown 8 = .ok (.aload_n 0, 1) := by decide +kernel
theorem dX9_findDown_9 : decode cX9_findDown 9 = .ok (.getfield 58, 3) := by decide +kernel
theorem dX9_findDown_12 : decode cX9_findDown 12 = .ok (.iload_n 1, 1) := by decide +kernel
theorem dX9_findDown_13 : decode cX9_findDown 13 = .ok (.iload_n 1, 1) := by decide +kernel
theorem dX9_findDown_14 : decode cX9_findDown 14 = .ok (.aload_n 0, 1) := by decide +kernel
theorem dX9_findDown_15 : decode cX9_findDown 15 = .ok (.getfield 92, 3) := by decide +kernel
theorem dX9_findDown_18 : decode cX9_findDown 18 = .ok (.if_icmp .ne 7, 3) := by decide +kernel
theorem dX9_findDown_21 : decode cX9_findDown 21 = .ok (.iconst 0, 1) := by decide +kernel
theorem dX9_findDown_22 : decode cX9_findDown 22 = .ok (.goto 5, 3) := by decide +kernel
theorem dX9_findDown_25 : decode cX9_findDown 25 = .ok (.ldc 230, 2) := by decide +kernel
theorem dX9_findDown_27 : decode cX9_findDown 27 = .ok (.iastore, 1) := by decide +kernel
theorem dX9_findDown_28 : decode cX9_findDown 28 = .ok (.iinc 1 1, 3) := by decide +kernel
theorem dX9_findDown_31 : decode cX9_findDown 31 = .ok (.goto (-29), 3) := by decide +kernel
theorem dX9_findDown_34 : decode cX9_findDown 34 = .ok (.aload_n 0, 1) := by decide +kernel
theorem dX9_findDown_35 : decode cX9_findDown 35 = .ok (.invokevirtual 231, 3) := by decide +kernel
theorem dX9_findDown_38 : decode cX9_findDown 38 = .ok (.istore_n 1, 1) := by decide +kernel
theorem dX9_findDown_39 : decode cX9_findDown 39 = .ok (.aload_n 0, 1) := by decide +kernel
theorem dX9_findDown_40 : decode cX9_findDown 40 = .ok (.getfield 92, 3) := by decide +kernel
theorem dX9_findDown_43 : decode cX9_findDown 43 = .ok (.istore_n 2, 1) := by decide +kernel
theorem dX9_findDown_44 : decode cX9_findDown 44 = .ok (.iload_n 2, 1) := by decide +kernel
theorem dX9_findDown_45 : decode cX9_findDown 45 = .ok (.ifCond .le 118, 3) := by decide +kernel
theorem dX9_findDown_48 : decode cX9_findDown 48 = .ok (.iload_n 2, 1) := by decide +kernel
theorem dX9_findDown_49 : decode cX9_findDown 49 = .ok (.iconst 1, 1) := by decide +kernel
theorem dX9_findDown_50 : decode cX9_findDown 50 = .ok (.isub, 1) := by decide +kernel
theorem dX9_findDown_51 : decode cX9_findDown 51 = .ok (.istore_n 3, 1) := by decide +kernel
theorem dX9_findDown_52 : decode cX9_findDown 52 = .ok (.iload_n 3, 1) := by decide +kernel
theorem dX9_findDown_53 : decode cX9_findDown 53 = .ok (.ifCond .le 28, 3) := by decide +kernel
theorem dX9_findDown_56 : decode cX9_findDown 56 = .ok (.aload_n 0, 1) := by decide +kernel
theorem dX9_findDown_57 : decode cX9_findDown 57 = .ok (.getfield 13, 3) := by decide +kernel
theorem dX9_findDown_60 : decode cX9_findDown 60 = .ok (.iload_n 3, 1) := by decide +kernel
theorem dX9_findDown_61 : decode cX9_findDown 61 = .ok (.iconst 1, 1) := by decide +kernel
theorem dX9_findDown_62 : decode cX9_findDown 62 = .ok (.isub, 1) := by decide +kernel
theorem dX9_findDown_63 : decode cX9_findDown 63 = .ok (.iaload, 1) := by decide +kernel
theorem dX9_findDown_64 : decode cX9_findDown 64 = .ok (.aload_n 0, 1) := by decide +kernel
theorem dX9_findDown_65 : decode cX9_findDown 65 = .ok (.getfield 13, 3) := by decide +kernel
theorem dX9_findDown_68 : decode cX9_findDown 68 = .ok (.iload_n 2, 1) := by decide +kernel
theorem dX9_findDown_69 : decode cX9_findDown 69 = .ok (.iconst 1, 1) := by decide +kernel
theorem dX9_findDown_70 : decode cX9_findDown 70 = .ok (.isub, 1) := by decide +kernel
theorem dX9_findDown_71 : decode cX9_findDown 71 = .ok (.iaload, 1) := by decide +kernel
theorem dX9_findDown_72 : decode cX9_findDown 72 = .ok (.if_icmp .ne 9, 3) := by decide +kernel
theorem dX9_findDown_75 : decode cX9_findDown 75 = .ok (.iinc 3 (-1), 3) := by decide +kernel
theorem dX9_findDown_78 : decode cX9_findDown 78 = .ok (.goto (-26), 3) := by decide +kernel
theorem dX9_findDown_81 : decode cX9_findDown 81 = .ok (.aload_n 0, 1) := by decide +kernel
theorem dX9_findDown_82 : decode cX9_findDown 82 = .ok (.getfield 58, 3) := by decide +kernel
theorem dX9_findDown_85 : decode cX9_findDown 85 = .ok (.iload_n 2, 1) := by decide +kernel
theorem dX9_findDown_86 : decode cX9_findDown 86 = .ok (.iaload, 1) := by decide +kernel
theorem dX9_findDown_87 : decode cX9_findDown 87 = .ok (.iconst 1, 1) := by decide +kernel
theorem dX9_findDown_88 : decode cX9_findDown 88 = .ok (.iadd, 1) := by decide +kernel
theorem dX9_findDown_89 : decode cX9_findDown 89 = .ok (.istore 4, 2) := by decide +kernel
theorem dX9_findDown_91 : decode cX9_findDown 91 = .ok (.aload_n 0, 1) := by decide +kernel
theorem dX9_findDown_92 : decode cX9_findDown 92 = .ok (.getfield 58, 3) := by decide +kernel
theorem dX9_findDown_95 : decode cX9_findDown 95 = .ok (.iload_n 3, 1) := by decide +kernel
theorem dX9_findDown_96 : decode cX9_findDown 96 = .ok (.iload 4, 2) := by decide +kernel
theorem dX9_findDown_98 : decode cX9_findDown 98 = .ok (.aload_n 0, 1) := by decide +kernel
theorem dX9_findDown_99 : decode cX9_findDown 99 = .ok (.getfield 58, 3) := by decide +kernel
theorem dX9_findDown_102 : decode cX9_findDown 102 = .ok (.iload_n 3, 1) := by decide +kernel
theorem dX9_findDown_103 : decode cX9_findDown 103 = .ok (.iaload, 1) := by decide +kernel
theorem dX9_findDown_104 : decode cX9_findDown 104 = .ok (.if_icmp .ge 8, 3) := by decide +kernel
theorem dX9_findDown_107 : decode cX9_findDown 107 = .ok (.iload 4, 2) := by decide +kernel
theorem dX9_findDown_109 : decode cX9_findDown 109 = .ok (.goto 9, 3) := by decide +kernel
theorem dX9_findDown_112 : decode cX9_findDown 112 = .ok (.aload_n 0, 1) := by decide +kernel
theorem dX9_findDown_113 : decode cX9_findDown 113 = .ok (.getfield 58, 3) := by decide +kernel
theorem dX9_findDown_116 : decode cX9_findDown 116 = .ok (.iload_n 3, 1) := by decide +kernel
theorem dX9_findDown_117 : decode cX9_findDown 117 = .ok (.iaload, 1) := by decide +kernel
theorem dX9_findDown_118 : decode cX9_findDown 118 = .ok (.iastore, 1) := by decide +kernel
theorem dX9_findDown_119 : decode cX9_findDown 119 = .ok (.aload_n 0, 1) := by decide +kernel
theorem dX9_findDown_120 : decode cX9_findDown 120 = .ok (.getfield 58, 3) := by decide +kernel
theorem dX9_findDown_123 : decode cX9_findDown 123 = .ok (.iload_n 2, 1) := by decide +kernel
theorem dX9_findDown_124 : decode cX9_findDown 124 = .ok (.iconst 1, 1) := by decide +kernel
theorem dX9_findDown_125 : decode cX9_findDown 125 = .ok (.isub, 1) := by decide +kernel
theorem dX9_findDown_126 : decode cX9_findDown 126 = .ok (.iload_n 1, 1) := by decide +kernel
theorem dX9_findDown_127 : decode cX9_findDown 127 = .ok (.ifCond .eq 21, 3) := by decide +kernel
theorem dX9_findDown_130 : decode cX9_findDown 130 = .ok (.iload 4, 2) := by decide +kernel
theorem dX9_findDown_132 : decode cX9_findDown 132 = .ok (.aload_n 0, 1) := by decide +kernel
theorem dX9_findDown_133 : decode cX9_findDown 133 = .ok (.getfield 58, 3) := by decide +kernel
theorem dX9_findDown_136 : decode cX9_findDown 136 = .ok (.iload_n 2, 1) := by decide +kernel
theorem dX9_findDown_137 : decode cX9_findDown 137 = .ok (.iconst 1, 1) := by decide +kernel
theorem dX9_findDown_138 : decode cX9_findDown 138 = .ok (.isub, 1) := by decide +kernel
theorem dX9_findDown_139 : decode cX9_findDown 139 = .ok (.iaload, 1) := by decide +kernel
theorem dX9_findDown_140 : decode cX9_findDown 140 = .ok (.if_icmp .ge 8, 3) := by decide +kernel
theorem dX9_findDown_143 : decode cX9_findDown 143 = .ok (.iload 4, 2) := by decide +kernel
theorem dX9_findDown_145 : decode cX9_findDown 145 = .ok (.goto 11, 3) := by decide +kernel
theorem dX9_findDown_148 : decode cX9_findDown 148 = .ok (.aload_n 0, 1) := by decide +kernel
theorem dX9_findDown_149 : decode cX9_findDown 149 = .ok (.getfield 58, 3) := by decide +kernel
theorem dX9_findDown_152 : decode cX9_findDown 152 = .ok (.iload_n 2, 1) := by decide +kernel
theorem dX9_findDown_153 : decode cX9_findDown 153 = .ok (.iconst 1, 1) := by decide +kernel
theorem dX9_findDown_154 : decode cX9_findDown 154 = .ok (.isub, 1) := by decide +kernel
theorem dX9_findDown_155 : decode cX9_findDown 155 = .ok (.iaload, 1) := by decide +kernel
theorem dX9_findDown_156 : decode cX9_findDown 156 = .ok (.iastore, 1) := by decide +kernel
theorem dX9_findDown_157 : decode cX9_findDown 157 = .ok (.iinc 2 (-1), 3) := by decide +kernel
theorem dX9_findDown_160 : decode cX9_findDown 160 = .ok (.goto (-116), 3) := by decide +kernel
theorem dX9_findDown_163 : decode cX9_findDown 163 = .ok (.return_, 1) := by decide +kernel
theorem dX9_building_0 : decode cX9_building 0 = .ok (.iload_n 1, 1) := by decide +kernel
theorem dX9_building_1 : decode cX9_building 1 = .ok (.iload_n 2, 1) := by decide +kernel
theorem dX9_building_2 : decode cX9_building 2 = .ok (.if_icmp .ge 13, 3) := by decide +kernel
theorem dX9_building_5 : decode cX9_building 5 = .ok (.aload_n 0, 1) := by decide +kernel
theorem dX9_building_6 : decode cX9_building 6 = .ok (.getfield 95, 3) := by decide +kernel
theorem dX9_building_9 : decode cX9_building 9 = .ok (.ifCond .ne 6, 3) := by decide +kernel
theorem dX9_building_12 : decode cX9_building 12 = .ok (.ldc 230, 2) := by decide +kernel
theorem dX9_building_14 : decode cX9_building 14 = .ok (.ireturn, 1) := by decide +kernel
theorem dX9_building_15 : decode cX9_building 15 = .ok (.iconst 0, 1) := by decide +kernel
theorem dX9_building_16 : decode cX9_building 16 = .ok (.istore_n 3, 1) := by decide +kernel
theorem dX9_building_17 : decode cX9_building 17 = .ok (.iconst 0, 1) := by decide +kernel
theorem dX9_building_18 : decode cX9_building 18 = .ok (.istore 4, 2) := by decide +kernel
theorem dX9_building_20 : decode cX9_building 20 = .ok (.iload_n 1, 1) := by decide +kernel
theorem dX9_building_21 : decode cX9_building 21 = .ok (.istore 5, 2) := by decide +kernel
theorem dX9_building_23 : decode cX9_building 23 = .ok (.iload 5, 2) := by decide +kernel
theorem dX9_building_25 : decode cX9_building 25 = .ok (.iload_n 2, 1) := by decide +kernel
theorem dX9_building_26 : decode cX9_building 26 = .ok (.if_icmp .ge 125, 3) := by decide +kernel
theorem dX9_building_29 : decode cX9_building 29 = .ok (.aload_n 0, 1) := by decide +kernel
theorem dX9_building_30 : decode cX9_building 30 = .ok (.getfield 46, 3) := by decide +kernel
theorem dX9_building_33 : decode cX9_building 33 = .ok (.iload 5, 2) := by decide +kernel
theorem dX9_building_35 : decode cX9_building 35 = .ok (.iaload, 1) := by decide +kernel
theorem dX9_building_36 : decode cX9_building 36 = .ok (.iconst 2, 1) := by decide +kernel
theorem dX9_building_37 : decode cX9_building 37 = .ok (.if_icmp .eq 7, 3) := by decide +kernel
theorem dX9_building_40 : decode cX9_building 40 = .ok (.iconst 1, 1) := by decide +kernel
theorem dX9_building_41 : decode cX9_building 41 = .ok (.goto 4, 3) := by decide +kernel
theorem dX9_building_44 : decode cX9_building 44 = .ok (.iconst 0, 1) := by decide +kernel
theorem dX9_building_45 : decode cX9_building 45 = .ok (.istore 6, 2) := by decide +kernel
theorem dX9_building_47 : decode cX9_building 47 = .ok (.iload 5, 2) := by decide +kernel
theorem dX9_building_49 : decode cX9_building 49 = .ok (.iload_n 1, 1) := by decide +kernel
theorem dX9_building_50 : decode cX9_building 50 = .ok (.if_icmp .le 26, 3) := by decide +kernel
theorem dX9_building_53 : decode cX9_building 53 = .ok (.aload_n 0, 1) := by decide +kernel
theorem dX9_building_54 : decode cX9_building 54 = .ok (.getfield 43, 3) := by decide +kernel
theorem dX9_building_57 : decode cX9_building 57 = .ok (.iload 5, 2) := by decide +kernel
theorem dX9_building_59 : decode cX9_building 59 = .ok (.iconst 1, 1) := by decide +kernel
theorem dX9_building_60 : decode cX9_building 60 = .ok (.isub, 1) := by decide +kernel
theorem dX9_building_61 : decode cX9_building 61 = .ok (.iaload, 1) := by decide +kernel
theorem dX9_building_62 : decode cX9_building 62 = .ok (.aload_n 0, 1) := by decide +kernel
theorem dX9_building_63 : decode cX9_building 63 = .ok (.getfield 43, 3) := by decide +kernel
theorem dX9_building_66 : decode cX9_building 66 = .ok (.iload 5, 2) := by decide +kernel
theorem dX9_building_68 : decode cX9_building 68 = .ok (.iaload, 1) := by decide +kernel
theorem dX9_building_69 : decode cX9_building 69 = .ok (.if_icmp .ne 7, 3) := by decide +kernel
theorem dX9_building_72 : decode cX9_building 72 = .ok (.iconst 1, 1) := by decide +kernel
theorem dX9_building_73 : decode cX9_building 73 = .ok (.goto 4, 3) := by decide +kernel
theorem dX9_building_76 : decode cX9_building 76 = .ok (.iconst 0, 1) := by decide +kernel
theorem dX9_building_77 : decode cX9_building 77 = .ok (.istore 7, 2) := by decide +kernel
theorem dX9_building_79 : decode cX9_building 79 = .ok (.iload 6, 2) := by decide +kernel
theorem dX9_building_81 : decode cX9_building 81 = .ok (.ifCond .eq 19, 3) := by decide +kernel
theorem dX9_building_84 : decode cX9_building 84 = .ok (.aload_n 0, 1) := by decide +kernel
theorem dX9_building_85 : decode cX9_building 85 = .ok (.getfield 7, 3) := by decide +kernel
theorem dX9_building_88 : decode cX9_building 88 = .ok (.aload_n 0, 1) := by decide +kernel
theorem dX9_building_89 : decode cX9_building 89 = .ok (.getfield 43, 3) := by decide +kernel
theorem dX9_building_92 : decode cX9_building 92 = .ok (.iload 5, 2) := by decide +kernel
theorem dX9_building_94 : decode cX9_building 94 = .ok (.iaload, 1) := by decide +kernel
theorem dX9_building_95 : decode cX9_building 95 = .ok (.iaload, 1) := by decide +kernel
theorem dX9_building_96 : decode cX9_building 96 = .ok (.iconst 1, 1) := by decide +kernel
theorem dX9_building_97 : decode cX9_building 97 = .ok (.if_icmp .eq 19, 3) := by decide +kernel
theorem dX9_building_100 : decode cX9_building 100 = .ok (.aload_n 0, 1) := by decide +kernel
theorem dX9_building_101 : decode cX9_building 101 = .ok (.getfield 46, 3) := by decide +kernel
theorem dX9_building_104 : decode cX9_building 104 = .ok (.iload 5, 2) := by decide +kernel
theorem dX9_building_106 : decode cX9_building 106 = .ok (.iaload, 1) := by decide +kernel
theorem dX9_building_107 : decode cX9_building 107 = .ok (.iconst 1, 1) := by decide +kernel
theorem dX9_building_108 : decode cX9_building 108 = .ok (.if_icmp .ne 11, 3) := by decide +kernel
theorem dX9_building_111 : decode cX9_building 111 = .ok (.iload 7, 2) := by decide +kernel
theorem dX9_building_113 : decode cX9_building 113 = .ok (.ifCond .ne 6, 3) := by decide +kernel
theorem dX9_building_116 : decode cX9_building 116 = .ok (.ldc 230, 2) := by decide +kernel
theorem dX9_building_118 : decode cX9_building 118 = .ok (.ireturn, 1) := by decide +kernel
theorem dX9_building_119 : decode cX9_building 119 = .ok (.iload_n 3, 1) := by decide +kernel
theorem dX9_building_120 : decode cX9_building 120 = .ok (.aload_n 0, 1) := by decide +kernel
theorem dX9_building_121 : decode cX9_building 121 = .ok (.getfield 46, 3) := by decide +kernel
theorem dX9_building_124 : decode cX9_building 124 = .ok (.iload 5, 2) := by decide +kernel
theorem dX9_building_126 : decode cX9_building 126 = .ok (.iaload, 1) := by decide +kernel
theorem dX9_building_127 : decode cX9_building 127 = .ok (.ifCond .ne 12, 3) := by decide +kernel
theorem dX9_building_130 : decode cX9_building 130 = .ok (.iload 7, 2) := by decide +kernel
theorem dX9_building_132 : decode cX9_building 132 = .ok (.ifCond .eq 7, 3) := by decide +kernel
theorem dX9_building_135 : decode cX9_building 135 = .ok (.iconst 1, 1) := by decide +kernel
theorem dX9_building_136 : decode cX9_building 136 = .ok (.goto 4, 3) := by decide +kernel
theorem dX9_building_139 : decode cX9_building 139 = .ok (.iconst 0, 1) := by decide +kernel
theorem dX9_building_140 : decode cX9_building 140 = .ok (.iadd, 1) := by decide +kernel
theorem dX9_building_141 : decode cX9_building 141 = .ok (.istore_n 3, 1) := by decide +kernel
theorem dX9_building_142 : decode cX9_building 142 = .ok (.iinc 4 1, 3) := by decide +kernel
theorem dX9_building_145 : decode cX9_building 145 = .ok (.iinc 5 1, 3) := by decide +kernel
theorem dX9_building_148 : decode cX9_building 148 = .ok (.goto (-125), 3) := by decide +kernel
theorem dX9_building_151 : decode cX9_building 151 = .ok (.iload_n 3, 1) := by decide +kernel
theorem dX9_building_152 : decode cX9_building 152 = .ok (.aload_n 0, 1) := by decide +kernel
theorem dX9_building_153 : decode cX9_building 153 = .ok (.getfield 95, 3) := by decide +kernel
theorem dX9_building_156 : decode cX9_building 156 = .ok (.iconst 1, 1) := by decide +kernel
theorem dX9_building_157 : decode cX9_building 157 = .ok (.isub, 1) := by decide +kernel
theorem dX9_building_158 : decode cX9_building 158 = .ok (.if_icmp .ge 7, 3) := by decide +kernel
theorem dX9_building_161 : decode cX9_building 161 = .ok (.iload_n 3, 1) := by decide +kernel
theorem dX9_building_162 : decode cX9_building 162 = .ok (.goto 9, 3) := by decide +kernel
theorem dX9_building_165 : decode cX9_building 165 = .ok (.aload_n 0, 1) := by decide +kernel
theorem dX9_building_166 : decode cX9_building 166 = .ok (.getfield 95, 3) := by decide +kernel
theorem dX9_building_169 : decode cX9_building 169 = .ok (.iconst 1, 1) := by decide +kernel
theorem dX9_building_170 : decode cX9_building 170 = .ok (.isub, 1) := by decide +kernel
theorem dX9_building_171 : decode cX9_building 171 = .ok (.istore 5, 2) := by decide +kernel
theorem dX9_building_173 : decode cX9_building 173 = .ok (.iload 4, 2) := by decide +kernel
theorem dX9_building_175 : decode cX9_building 175 = .ok (.iload_n 3, 1) := by decide +kernel
theorem dX9_building_176 : decode cX9_building 176 = .ok (.ifCond .ne 7, 3) := by decide +kernel
theorem dX9_building_179 : decode cX9_building 179 = .ok (.iconst 0, 1) := by decide +kernel
theorem dX9_building_180 : decode cX9_building 180 = .ok (.goto 9, 3) := by decide +kernel
theorem dX9_building_183 : decode cX9_building 183 = .ok (.iconst 2, 1) := by decide +kernel
theorem dX9_building_184 : decode cX9_building 184 = .ok (.iload_n 3, 1) := by decide +kernel
theorem dX9_building_185 : decode cX9_building 185 = .ok (.imul, 1) := by decide +kernel
theorem dX9_building_186 : decode cX9_building 186 = .ok (.iload 5, 2) := by decide +kernel
theorem dX9_building_188 : decode cX9_building 188 = .ok (.isub, 1) := by decide +kernel
theorem dX9_building_189 : decode cX9_building 189 = .ok (.iadd, 1) := by decide +kernel
theorem dX9_building_190 : decode cX9_building 190 = .ok (.ireturn, 1) := by decide +kernel
theorem dX9_madeOf_0 : decode cX9_madeOf 0 = .ok (.aload_n 0, 1) := by decide +kernel
theorem dX9_madeOf_1 : decode cX9_madeOf 1 = .ok (.iload_n 1, 1) := by decide +kernel
theorem dX9_madeOf_2 : decode cX9_madeOf 2 = .ok (.invokevirtual 235, 3) := by decide +kernel
theorem dX9_madeOf_5 : decode cX9_madeOf 5 = .ok (.istore_n 2, 1) := by decide +kernel
theorem dX9_madeOf_6 : decode cX9_madeOf 6 = .ok (.aload_n 0, 1) := by decide +kernel
theorem dX9_madeOf_7 : decode cX9_madeOf 7 = .ok (.invokevirtual 238, 3) := by decide +kernel
theorem dX9_madeOf_10 : decode cX9_madeOf 10 = .ok (.ldc 230, 2) := by decide +kernel
theorem dX9_madeOf_12 : decode cX9_madeOf 12 = .ok (.istore_n 3, 1) := by decide +kernel
theorem dX9_madeOf_13 : decode cX9_madeOf 13 = .ok (.iconst 0, 1) := by decide +kernel
theorem dX9_madeOf_14 : decode cX9_madeOf 14 = .ok (.istore 4, 2) := by decide +kernel
theorem dX9_madeOf_16 : decode cX9_madeOf 16 = .ok (.iload 4, 2) := by decide +kernel
theorem dX9_madeOf_18 : decode cX9_madeOf 18 = .ok (.iload_n 2, 1) := by decide +kernel
theorem dX9_madeOf_19 : decode cX9_madeOf 19 = .ok (.if_icmp .gt 81, 3) := by decide +kernel
theorem dX9_madeOf_22 : decode cX9_madeOf 22 = .ok (.iload 4, 2) := by decide +kernel
theorem dX9_madeOf_24 : decode cX9_madeOf 24 = .ok (.aload_n 0, 1) := by decide +kernel
theorem dX9_madeOf_25 : decode cX9_madeOf 25 = .ok (.getfield 92, 3) := by decide +kernel
theorem dX9_madeOf_28 : decode cX9_madeOf 28 = .ok (.if_icmp .gt 72, 3) := by decide +kernel
theorem dX9_madeOf_31 : decode cX9_madeOf 31 = .ok (.aload_n 0, 1) := by decide +kernel
theorem dX9_madeOf_32 : decode cX9_madeOf 32 = .ok (.getfield 58, 3) := by decide +kernel
theorem dX9_madeOf_35 : decode cX9_madeOf 35 = .ok (.iload 4, 2) := by decide +kernel
theorem dX9_madeOf_37 : decode cX9_madeOf 37 = .ok (.iaload, 1) := by decide +kernel
theorem dX9_madeOf_38 : decode cX9_madeOf 38 = .ok (.ldc 230, 2) := by decide +kernel
theorem dX9_madeOf_40 : decode cX9_madeOf 40 = .ok (.if_icmp .ge 13, 3) := by decide +kernel
theorem dX9_madeOf_43 : decode cX9_madeOf 43 = .ok (.aload_n 0, 1) := by decide +kernel
theorem dX9_madeOf_44 : decode cX9_madeOf 44 = .ok (.iload 4, 2) := by decide +kernel
theorem dX9_madeOf_46 : decode cX9_madeOf 46 = .ok (.iload_n 1, 1) := by decide +kernel
theorem dX9_madeOf_47 : decode cX9_madeOf 47 = .ok (.invokevirtual 241, 3) := by decide +kernel
theorem dX9_madeOf_50 : decode cX9_madeOf 50 = .ok (.goto 5, 3) := by decide +kernel
theorem dX9_madeOf_53 : decode cX9_madeOf 53 = .ok (.ldc 230, 2) := by decide +kernel
theorem dX9_madeOf_55 : decode cX9_madeOf 55 = .ok (.istore 5, 2) := by decide +kernel
theorem dX9_madeOf_57 : decode cX9_madeOf 57 = .ok (.iload 5, 2) := by decide +kernel
theorem dX9_madeOf_59 : decode cX9_madeOf 59 = .ok (.ldc 230, 2) := by decide +kernel
theorem dX9_madeOf_61 : decode cX9_madeOf 61 = .ok (.if_icmp .ge 16, 3) := by decide +kernel
theorem dX9_madeOf_64 : decode cX9_madeOf 64 = .ok (.aload_n 0, 1) := by decide +kernel
theorem dX9_madeOf_65 : decode cX9_madeOf 65 = .ok (.getfield 58, 3) := by decide +kernel
theorem dX9_madeOf_68 : decode cX9_madeOf 68 = .ok (.iload 4, 2) := by decide +kernel
theorem dX9_madeOf_70 : decode cX9_madeOf 70 = .ok (.iaload, 1) := by decide +kernel
theorem dX9_madeOf_71 : decode cX9_madeOf 71 = .ok (.iload 5, 2) := by decide +kernel
theorem dX9_madeOf_73 : decode cX9_madeOf 73 = .ok (.iadd, 1) := by decide +kernel
theorem dX9_madeOf_74 : decode cX9_madeOf 74 = .ok (.goto 5, 3) := by decide +kernel
theorem dX9_madeOf_77 : decode cX9_madeOf 77 = .ok (.ldc 230, 2) := by decide +kernel
theorem dX9_madeOf_79 : decode cX9_madeOf 79 = .ok (.istore 6, 2) := by decide +kernel
theorem dX9_madeOf_81 : decode cX9_madeOf 81 = .ok (.iload 6, 2) := by decide +kernel
theorem dX9_madeOf_83 : decode cX9_madeOf 83 = .ok (.iload_n 3, 1) := by decide +kernel
theorem dX9_madeOf_84 : decode cX9_madeOf 84 = .ok (.if_icmp .ge 8, 3) := by decide +kernel
theorem dX9_madeOf_87 : decode cX9_madeOf 87 = .ok (.iload 6, 2) := by decide +kernel
theorem dX9_madeOf_89 : decode cX9_madeOf 89 = .ok (.goto 4, 3) := by decide +kernel
theorem dX9_madeOf_92 : decode cX9_madeOf 92 = .ok (.iload_n 3, 1) := by decide +kernel
theorem dX9_madeOf_93 : decode cX9_madeOf 93 = .ok (.istore_n 3, 1) := by decide +kernel
theorem dX9_madeOf_94 : decode cX9_madeOf 94 = .ok (.iinc 4 1, 3) := by decide +kernel
theorem dX9_madeOf_97 : decode cX9_madeOf 97 = .ok (.goto (-81), 3) := by decide +kernel
theorem dX9_madeOf_100 : decode cX9_madeOf 100 = .ok (.iload_n 3, 1) := by decide +kernel
theorem dX9_madeOf_101 : decode cX9_madeOf 101 = .ok (.ldc 230, 2) := by decide +kernel
theorem dX9_madeOf_103 : decode cX9_madeOf 103 = .ok (.if_icmp .ne 8, 3) := by decide +kernel
theorem dX9_madeOf_106 : decode cX9_madeOf 106 = .ok (.bipush (-6), 2) := by decide +kernel
theorem dX9_madeOf_108 : decode cX9_madeOf 108 = .ok (.goto 4, 3) := by decide +kernel
theorem dX9_madeOf_111 : decode cX9_madeOf 111 = .ok (.iload_n 3, 1) := by decide +kernel
theorem dX9_madeOf_112 : decode cX9_madeOf 112 = .ok (.ireturn, 1) := by decide +kernel
theorem dX9_made_0 : decode cX9_made 0 = .ok (.aload_n 0, 1) := by decide +kernel
theorem dX9_made_1 : decode cX9_made 1 = .ok (.invokevirtual 141, 3) := by decide +kernel
theorem dX9_made_4 : decode cX9_made 4 = .ok (.ifCond .lt 6, 3) := by decide +kernel
theorem dX9_made_7 : decode cX9_made 7 = .ok (.bipush (-5), 2) := by decide +kernel
theorem dX9_made_9 : decode cX9_made 9 = .ok (.ireturn, 1) := by decide +kernel
theorem dX9_made_10 : decode cX9_made 10 = .ok (.aload_n 0, 1) := by decide +kernel
theorem dX9_made_11 : decode cX9_made 11 = .ok (.getfield 134, 3) := by decide +kernel
theorem dX9_made_14 : decode cX9_made 14 = .ok (.bipush 30, 2) := by decide +kernel
theorem dX9_made_16 : decode cX9_made 16 = .ok (.if_icmp .le 8, 3) := by decide +kernel
theorem dX9_made_19 : decode cX9_made 19 = .ok (.bipush (-4), 2) := by decide +kernel
theorem dX9_made_21 : decode cX9_made 21 = .ok (.goto 11, 3) := by decide +kernel
theorem dX9_made_24 : decode cX9_made 24 = .ok (.aload_n 0, 1) := by decide +kernel
theorem dX9_made_25 : decode cX9_made 25 = .ok (.aload_n 0, 1) := by decide +kernel
theorem dX9_made_26 : decode cX9_made 26 = .ok (.getfield 134, 3) := by decide +kernel
theorem dX9_made_29 : decode cX9_made 29 = .ok (.invokevirtual 244, 3) := by decide +kernel
theorem dX9_made_32 : decode cX9_made 32 = .ok (.ireturn, 1) := by decide +kernel
theorem dX9_bars_0 : decode cX9_bars 0 = .ok (.aload_n 0, 1) := by decide +kernel
theorem dX9_bars_1 : decode cX9_bars 1 = .ok (.invokevirtual 141, 3) := by decide +kernel
theorem dX9_bars_4 : decode cX9_bars 4 = .ok (.ifCond .lt 6, 3) := by decide +kernel
theorem dX9_bars_7 : decode cX9_bars 7 = .ok (.bipush (-5), 2) := by decide +kernel
theorem dX9_bars_9 : decode cX9_bars 9 = .ok (.ireturn, 1) := by decide +kernel
theorem dX9_bars_10 : decode cX9_bars 10 = .ok (.aload_n 0, 1) := by decide +kernel
theorem dX9_bars_11 : decode cX9_bars 11 = .ok (.getfield 134, 3) := by decide +kernel
theorem dX9_bars_14 : decode cX9_bars 14 = .ok (.bipush 30, 2) := by decide +kernel
theorem dX9_bars_16 : decode cX9_bars 16 = .ok (.if_icmp .le 6, 3) := by decide +kernel
theorem dX9_bars_19 : decode cX9_bars 19 = .ok (.bipush (-4), 2) := by decide +kernel
theorem dX9_bars_21 : decode cX9_bars 21 = .ok (.ireturn, 1) := by decide +kernel
theorem dX9_bars_22 : decode cX9_bars 22 = .ok (.iconst 0, 1) := by decide +kernel
theorem dX9_bars_23 : decode cX9_bars 23 = .ok (.istore_n 1, 1) := by decide +kernel
theorem dX9_bars_24 : decode cX9_bars 24 = .ok (.iload_n 1, 1) := by decide +kernel
theorem dX9_bars_25 : decode cX9_bars 25 = .ok (.aload_n 0, 1) := by decide +kernel
theorem dX9_bars_26 : decode cX9_bars 26 = .ok (.getfield 134, 3) := by decide +kernel
theorem dX9_bars_29 : decode cX9_bars 29 = .ok (.if_icmp .ge 21, 3) := by decide +kernel
theorem dX9_bars_32 : decode cX9_bars 32 = .ok (.aload_n 0, 1) := by decide +kernel
theorem dX9_bars_33 : decode cX9_bars 33 = .ok (.iload_n 1, 1) := by decide +kernel
theorem dX9_bars_34 : decode cX9_bars 34 = .ok (.iconst 1, 1) := by decide +kernel
theorem dX9_bars_35 : decode cX9_bars 35 = .ok (.iadd, 1) := by decide +kernel
theorem dX9_bars_36 : decode cX9_bars 36 = .ok (.invokevirtual 244, 3) := by decide +kernel
theorem dX9_bars_39 : decode cX9_bars 39 = .ok (.ifCond .ge 5, 3) := by decide +kernel
theorem dX9_bars_42 : decode cX9_bars 42 = .ok (.iload_n 1, 1) := by decide +kernel
theorem dX9_bars_43 : decode cX9_bars 43 = .ok (.ireturn, 1) := by decide +kernel
theorem dX9_bars_44 : decode cX9_bars 44 = .ok (.iinc 1 1, 3) := by decide +kernel
theorem dX9_bars_47 : decode cX9_bars 47 = .ok (.goto (-23), 3) := by decide +kernel
theorem dX9_bars_50 : decode cX9_bars 50 = .ok (.bipush (-6), 2) := by decide +kernel
theorem dX9_bars_52 : decode cX9_bars 52 = .ok (.ireturn, 1) := by decide +kernel
theorem dX9_seen_0 : decode cX9_seen 0 = .ok (.iload_n 1, 1) := by decide +kernel
theorem dX9_seen_1 : decode cX9_seen 1 = .ok (.i2l, 1) := by decide +kernel
theorem dX9_seen_2 : decode cX9_seen 2 = .ok (.lconst 0, 1) := by decide +kernel
theorem dX9_seen_3 : decode cX9_seen 3 = .ok (.ldc2_w 247, 3) := by decide +kernel
theorem dX9_seen_6 : decode cX9_seen 6 = .ok (.invokestatic 101, 3) := by decide +kernel
theorem dX9_seen_9 : decode cX9_seen 9 = .ok (.ifCond .eq 15, 3) := by decide +kernel
theorem dX9_seen_12 : decode cX9_seen 12 = .ok (.iload_n 2, 1) := by decide +kernel
theorem dX9_seen_13 : decode cX9_seen 13 = .ok (.i2l, 1) := by decide +kernel
theorem dX9_seen_14 : decode cX9_seen 14 = .ok (.lconst 0, 1) := by decide +kernel
theorem dX9_seen_15 : decode cX9_seen 15 = .ok (.ldc2_w 249, 3) := by decide +kernel
theorem dX9_seen_18 : decode cX9_seen 18 = .ok (.invokestatic 101, 3) := by decide +kernel
theorem dX9_seen_21 : decode cX9_seen 21 = .ok (.ifCond .ne 6, 3) := by decide +kernel
theorem dX9_seen_24 : decode cX9_seen 24 = .ok (.bipush (-2), 2) := by decide +kernel
theorem dX9_seen_26 : decode cX9_seen 26 = .ok (.ireturn, 1) := by decide +kernel
theorem dX9_seen_27 : decode cX9_seen 27 = .ok (.aload_n 0, 1) := by decide +kernel
theorem dX9_seen_28 : decode cX9_seen 28 = .ok (.getfield 98, 3) := by decide +kernel
theorem dX9_seen_31 : decode cX9_seen 31 = .ok (.bipush 8, 2) := by decide +kernel
theorem dX9_seen_33 : decode cX9_seen 33 = .ok (.if_icmp .ne 6, 3) := by decide +kernel
theorem dX9_seen_36 : decode cX9_seen 36 = .ok (.bipush (-4), 2) := by decide +kernel
theorem dX9_seen_38 : decode cX9_seen 38 = .ok (.ireturn, 1) := by decide +kernel
theorem dX9_seen_39 : decode cX9_seen 39 = .ok (.aload_n 0, 1) := by decide +kernel
theorem dX9_seen_40 : decode cX9_seen 40 = .ok (.getfield 22, 3) := by decide +kernel
theorem dX9_seen_43 : decode cX9_seen 43 = .ok (.aload_n 0, 1) := by decide +kernel
theorem dX9_seen_44 : decode cX9_seen 44 = .ok (.getfield 98, 3) := by decide +kernel
theorem dX9_seen_47 : decode cX9_seen 47 = .ok (.iload_n 1, 1) := by decide +kernel
theorem dX9_seen_48 : decode cX9_seen 48 = .ok (.iastore, 1) := by decide +kernel
theorem dX9_seen_49 : decode cX9_seen 49 = .ok (.aload_n 0, 1) := by decide +kernel
theorem dX9_seen_50 : decode cX9_seen 50 = .ok (.getfield 25, 3) := by decide +kernel
theorem dX9_seen_53 : decode cX9_seen 53 = .ok (.aload_n 0, 1) := by decide +kernel
theorem dX9_seen_54 : decode cX9_seen 54 = .ok (.getfield 98, 3) := by decide +kernel
theorem dX9_seen_57 : decode cX9_seen 57 = .ok (.iload_n 2, 1) := by decide +kernel
theorem dX9_seen_58 : decode cX9_seen 58 = .ok (.iastore, 1) := by decide +kernel
theorem dX9_seen_59 : decode cX9_seen 59 = .ok (.aload_n 0, 1) := by decide +kernel
theorem dX9_seen_60 : decode cX9_seen 60 = .ok (.dup, 1) := by decide +kernel
theorem dX9_seen_61 : decode cX9_seen 61 = .ok (.getfield 98, 3) := by decide +kernel
theorem dX9_seen_64 : decode cX9_seen 64 = .ok (.iconst 1, 1) := by decide +kernel
theorem dX9_seen_65 : decode cX9_seen 65 = .ok (.iadd, 1) := by decide +kernel
theorem dX9_seen_66 : decode cX9_seen 66 = .ok (.putfield 98, 3) := by decide +kernel
theorem dX9_seen_69 : decode cX9_seen 69 = .ok (.aload_n 0, 1) := by decide +kernel
theorem dX9_seen_70 : decode cX9_seen 70 = .ok (.getfield 98, 3) := by decide +kernel
theorem dX9_seen_73 : decode cX9_seen 73 = .ok (.ireturn, 1) := by decide +kernel
theorem dX9_forget_0 : decode cX9_forget 0 = .ok (.aload_n 0, 1) := by decide +kernel
theorem dX9_forget_1 : decode cX9_forget 1 = .ok (.getfield 98, 3) := by decide +kernel
theorem dX9_forget_4 : decode cX9_forget 4 = .ok (.istore_n 1, 1) := by decide +kernel
theorem dX9_forget_5 : decode cX9_forget 5 = .ok (.aload_n 0, 1) := by decide +kernel
theorem dX9_forget_6 : decode cX9_forget 6 = .ok (.iconst 0, 1) := by decide +kernel
theorem dX9_forget_7 : decode cX9_forget 7 = .ok (.putfield 98, 3) := by decide +kernel
theorem dX9_forget_10 : decode cX9_forget 10 = .ok (.iload_n 1, 1) := by decide +kernel
theorem dX9_forget_11 : decode cX9_forget 11 = .ok (.ireturn, 1) := by decide +kernel
theorem dX9_isWorld_0 : decode cX9_isWorld 0 = .ok (.aload_n 0, 1) := by decide +kernel
theorem dX9_isWorld_1 : decode cX9_isWorld 1 = .ok (.iload_n 1, 1) := by decide +kernel
theorem dX9_isWorld_2 : decode cX9_isWorld 2 = .ok (.invokevirtual 210, 3) := by decide +kernel
theorem dX9_isWorld_5 : decode cX9_isWorld 5 = .ok (.aload_n 0, 1) := by decide +kernel
theorem dX9_isWorld_6 : decode cX9_isWorld 6 = .ok (.getfield 184, 3) := by decide +kernel
theorem dX9_isWorld_9 : decode cX9_isWorld 9 = .ok (.ifCond .ge 14, 3) := by decide +kernel
theorem dX9_isWorld_12 : decode cX9_isWorld 12 = .ok (.aload_n 0, 1) := by decide +kernel
theorem dX9_isWorld_13 : decode cX9_isWorld 13 = .ok (.getfield 193, 3) := by decide +kernel
theorem dX9_isWorld_16 : decode cX9_isWorld 16 = .ok (.ifCond .eq 7, 3) := by decide +kernel
theorem dX9_isWorld_19 : decode cX9_isWorld 19 = .ok (.iconst 1, 1) := by decide +kernel
theorem dX9_isWorld_20 : decode cX9_isWorld 20 = .ok (.goto 4, 3) := by decide +kernel
theorem dX9_isWorld_23 : decode cX9_isWorld 23 = .ok (.iconst 0, 1) := by decide +kernel
theorem dX9_isWorld_24 : decode cX9_isWorld 24 = .ok (.istore_n 2, 1) := by decide +kernel
theorem dX9_isWorld_25 : decode cX9_isWorld 25 = .ok (.iconst 0, 1) := by decide +kernel
theorem dX9_isWorld_26 : decode cX9_isWorld 26 = .ok (.istore_n 3, 1) := by decide +kernel
theorem dX9_isWorld_27 : decode cX9_isWorld 27 = .ok (.iload_n 3, 1) := by decide +kernel
theorem dX9_isWorld_28 : decode cX9_isWorld 28 = .ok (.aload_n 0, 1) := by decide +kernel
theorem dX9_isWorld_29 : decode cX9_isWorld 29 = .ok (.getfield 98, 3) := by decide +kernel
theorem dX9_isWorld_32 : decode cX9_isWorld 32 = .ok (.if_icmp .ge 32, 3) := by decide +kernel
theorem dX9_isWorld_35 : decode cX9_isWorld 35 = .ok (.iload_n 2, 1) := by decide +kernel
theorem dX9_isWorld_36 : decode cX9_isWorld 36 = .ok (.ifCond .eq 20, 3) := by decide +kernel
theorem dX9_isWorld_39 : decode cX9_isWorld 39 = .ok (.aload_n 0, 1) := by decide +kernel
theorem dX9_isWorld_40 : decode cX9_isWorld 40 = .ok (.getfield 22, 3) := by decide +kernel
theorem dX9_isWorld_43 : decode cX9_isWorld 43 = .ok (.iload_n 3, 1) := by decide +kernel
theorem dX9_isWorld_44 : decode cX9_isWorld 44 = .ok (.iaload, 1) := by decide +kernel
theorem dX9_isWorld_45 : decode cX9_isWorld 45 = .ok (.aload_n 0, 1) := by decide +kernel
theorem dX9_isWorld_46 : decode cX9_isWorld 46 = .ok (.getfield 127, 3) := by decide +kernel
theorem dX9_isWorld_49 : decode cX9_isWorld 49 = .ok (.if_icmp .gt 7, 3) := by decide +kernel
theorem dX9_isWorld_52 : decode cX9_isWorld 52 = .ok (.iconst 1, 1) := by decide +kernel
theorem dX9_isWorld_53 : decode cX9_isWorld 53 = .ok (.goto 4, 3) := by decide +kernel
theorem dX9_isWorld_56 : decode cX9_isWorld 56 = .ok (.iconst 0, 1) := by decide +kernel
theorem dX9_isWorld_57 : decode cX9_isWorld 57 = .ok (.istore_n 2, 1) := by decide +kernel
theorem dX9_isWorld_58 : decode cX9_isWorld 58 = .ok (.iinc 3 1, 3) := by decide +kernel
theorem dX9_isWorld_61 : decode cX9_isWorld 61 = .ok (.goto (-34), 3) := by decide +kernel
theorem dX9_isWorld_64 : decode cX9_isWorld 64 = .ok (.aload_n 0, 1) := by decide +kernel
theorem dX9_isWorld_65 : decode cX9_isWorld 65 = .ok (.invokevirtual 219, 3) := by decide +kernel
theorem dX9_isWorld_68 : decode cX9_isWorld 68 = .ok (.iload_n 2, 1) := by decide +kernel
theorem dX9_isWorld_69 : decode cX9_isWorld 69 = .ok (.ireturn, 1) := by decide +kernel
theorem dX9_findWorlds_0 : decode cX9_findWorlds 0 = .ok (.aload_n 0, 1) := by decide +kernel
theorem dX9_findWorlds_1 : decode cX9_findWorlds 1 = .ok (.iconst 0, 1) := by decide +kernel
theorem dX9_findWorlds_2 : decode cX9_findWorlds 2 = .ok (.putfield 251, 3) := by decide +kernel
theorem dX9_findWorlds_5 : decode cX9_findWorlds 5 = .ok (.aload_n 0, 1) := by decide +kernel
theorem dX9_findWorlds_6 : decode cX9_findWorlds 6 = .ok (.bipush (-6), 2) := by decide +kernel
theorem dX9_findWorlds_8 : decode cX9_findWorlds 8 = .ok (.putfield 254, 3) := by decide +kernel
theorem dX9_findWorlds_11 : decode cX9_findWorlds 11 = .ok (.aload_n 0, 1) := by decide +kernel
theorem dX9_findWorlds_12 : decode cX9_findWorlds 12 = .ok (.iconst 0, 1) := by decide +kernel
theorem dX9_findWorlds_13 : decode cX9_findWorlds 13 = .ok (.putfield 257, 3) := by decide +kernel
theorem dX9_findWorlds_16 : decode cX9_findWorlds 16 = .ok (.aload_n 0, 1) := by decide +kernel
theorem dX9_findWorlds_17 : decode cX9_findWorlds 17 = .ok (.iconst 0, 1) := by decide +kernel
theorem dX9_findWorlds_18 : decode cX9_findWorlds 18 = .ok (.putfield 260, 3) := by decide +kernel
theorem dX9_findWorlds_21 : decode cX9_findWorlds 21 = .ok (.iconst 0, 1) := by decide +kernel
theorem dX9_findWorlds_22 : decode cX9_findWorlds 22 = .ok (.istore_n 1, 1) := by decide +kernel
theorem dX9_findWorlds_23 : decode cX9_findWorlds 23 = .ok (.iload_n 1, 1) := by decide +kernel
theorem dX9_findWorlds_24 : decode cX9_findWorlds 24 = .ok (.bipush 8, 2) := by decide +kernel
theorem dX9_findWorlds_26 : decode cX9_findWorlds 26 = .ok (.if_icmp .ge 16, 3) := by decide +kernel
theorem dX9_findWorlds_29 : decode cX9_findWorlds 29 = .ok (.aload_n 0, 1) := by decide +kernel
theorem dX9_findWorlds_30 : decode cX9_findWorlds 30 = .ok (.getfield 61, 3) := by decide +kernel
theorem dX9_findWorlds_33 : decode cX9_findWorlds 33 = .ok (.iload_n 1, 1) := by decide +kernel
theorem dX9_findWorlds_34 : decode cX9_findWorlds 34 = .ok (.iconst 0, 1) := by decide +kernel
theorem dX9_findWorlds_35 : decode cX9_findWorlds 35 = .ok (.iastore, 1) := by decide +kernel
theorem dX9_findWorlds_36 : decode cX9_findWorlds 36 = .ok (.iinc 1 1, 3) := by decide +kernel
theorem dX9_findWorlds_39 : decode cX9_findWorlds 39 = .ok (.goto (-16), 3) := by decide +kernel
theorem dX9_findWorlds_42 : decode cX9_findWorlds 42 = .ok (.aload_n 0, 1) := by decide +kernel
theorem dX9_findWorlds_43 : decode cX9_findWorlds 43 = .ok (.invokevirtual 207, 3) := by decide +kernel
theorem dX9_findWorlds_46 : decode cX9_findWorlds 46 = .ok (.iconst 0, 1) := by decide +kernel
theorem dX9_findWorlds_47 : decode cX9_findWorlds 47 = .ok (.istore_n 1, 1) := by decide +kernel
theorem dX9_findWorlds_48 : decode cX9_findWorlds 48 = .ok (.iload_n 1, 1) := by decide +kernel
theorem dX9_findWorlds_49 : decode cX9_findWorlds 49 = .ok (.iconst 1, 1) := by decide +kernel
theorem dX9_findWorlds_50 : decode cX9_findWorlds 50 = .ok (.aload_n 0, 1) := by decide +kernel
theorem dX9_findWorlds_51 : decode cX9_findWorlds 51 = .ok (.getfield 85, 3) := by decide +kernel
theorem dX9_findWorlds_54 : decode cX9_findWorlds 54 = .ok (.ishl, 1) := by decide +kernel
theorem dX9_findWorlds_55 : decode cX9_findWorlds 55 = .ok (.if_icmp .ge 107, 3) := by decide +kernel
theorem dX9_findWorlds_58 : decode cX9_findWorlds 58 = .ok (.aload_n 0, 1) := by decide +kernel
theorem dX9_findWorlds_59 : decode cX9_findWorlds 59 = .ok (.iload_n 1, 1) := by decide +kernel
theorem dX9_findWorlds_60 : decode cX9_findWorlds 60 = .ok (.invokevirtual 263, 3) := by decide +kernel
theorem dX9_findWorlds_63 : decode cX9_findWorlds 63 = .ok (.ifCond .eq 93, 3) := by decide +kernel
theorem dX9_findWorlds_66 : decode cX9_findWorlds 66 = .ok (.aload_n 0, 1) := by decide +kernel
theorem dX9_findWorlds_67 : decode cX9_findWorlds 67 = .ok (.aload_n 0, 1) := by decide +kernel
theorem dX9_findWorlds_68 : decode cX9_findWorlds 68 = .ok (.getfield 251, 3) := by decide +kernel
theorem dX9_findWorlds_71 : decode cX9_findWorlds 71 = .ok (.ifCond .ne 7, 3) := by decide +kernel
theorem dX9_findWorlds_74 : decode cX9_findWorlds 74 = .ok (.iload_n 1, 1) := by decide +kernel
theorem dX9_findWorlds_75 : decode cX9_findWorlds 75 = .ok (.goto 7, 3) := by decide +kernel
theorem dX9_findWorlds_78 : decode cX9_findWorlds 78 = .ok (.aload_n 0, 1) := by decide +kernel
theorem dX9_findWorlds_79 : decode cX9_findWorlds 79 = .ok (.getfield 254, 3) := by decide +kernel
theorem dX9_findWorlds_82 : decode cX9_findWorlds 82 = .ok (.putfield 254, 3) := by decide +kernel
theorem dX9_findWorlds_85 : decode cX9_findWorlds 85 = .ok (.aload_n 0, 1) := by decide +kernel
theorem dX9_findWorlds_86 : decode cX9_findWorlds 86 = .ok (.aload_n 0, 1) := by decide +kernel
theorem dX9_findWorlds_87 : decode cX9_findWorlds 87 = .ok (.getfield 251, 3) := by decide +kernel
theorem dX9_findWorlds_90 : decode cX9_findWorlds 90 = .ok (.ifCond .ne 7, 3) := by decide +kernel
theorem dX9_findWorlds_93 : decode cX9_findWorlds 93 = .ok (.iload_n 1, 1) := by decide +kernel
theorem dX9_findWorlds_94 : decode cX9_findWorlds 94 = .ok (.goto 9, 3) := by decide +kernel
theorem dX9_findWorlds_97 : decode cX9_findWorlds 97 = .ok (.aload_n 0, 1) := by decide +kernel
theorem dX9_findWorlds_98 : decode cX9_findWorlds 98 = .ok (.getfield 257, 3) := by decide +kernel
theorem dX9_findWorlds_101 : decode cX9_findWorlds 101 = .ok (.iload_n 1, 1) := by decide +kernel
theorem dX9_findWorlds_102 : decode cX9_findWorlds 102 = .ok (.iand, 1) := by decide +kernel
theorem dX9_findWorlds_103 : decode cX9_findWorlds 103 = .ok (.putfield 257, 3) := by decide +kernel
theorem dX9_findWorlds_106 : decode cX9_findWorlds 106 = .ok (.aload_n 0, 1) := by decide +kernel
theorem dX9_findWorlds_107 : decode cX9_findWorlds 107 = .ok (.dup, 1) := by decide +kernel
theorem dX9_findWorlds_108 : decode cX9_findWorlds 108 = .ok (.getfield 260, 3) := by decide +kernel
theorem dX9_findWorlds_111 : decode cX9_findWorlds 111 = .ok (.iload_n 1, 1) := by decide +kernel
theorem dX9_findWorlds_112 : decode cX9_findWorlds 112 = .ok (.ior, 1) := by decide +kernel
theorem dX9_findWorlds_113 : decode cX9_findWorlds 113 = .ok (.putfield 260, 3) := by decide +kernel
theorem dX9_findWorlds_116 : decode cX9_findWorlds 116 = .ok (.aload_n 0, 1) := by decide +kernel
theorem dX9_findWorlds_117 : decode cX9_findWorlds 117 = .ok (.dup, 1) := by decide +kernel
theorem dX9_findWorlds_118 : decode cX9_findWorlds 118 = .ok (.getfield 251, 3) := by decide +kernel
theorem dX9_findWorlds_121 : decode cX9_findWorlds 121 = .ok (.iconst 1, 1) := by decide +kernel
theorem dX9_findWorlds_122 : decode cX9_findWorlds 122 = .ok (.iadd, 1) := by decide +kernel
theorem dX9_findWorlds_123 : decode cX9_findWorlds 123 = .ok (.putfield 251, 3) := by decide +kernel
theorem dX9_findWorlds_126 : decode cX9_findWorlds 126 = .ok (.iconst 0, 1) := by decide +kernel
theorem dX9_findWorlds_127 : decode cX9_findWorlds 127 = .ok (.istore_n 2, 1) := by decide +kernel
theorem dX9_findWorlds_128 : decode cX9_findWorlds 128 = .ok (.iload_n 2, 1) := by decide +kernel
theorem dX9_findWorlds_129 : decode cX9_findWorlds 129 = .ok (.aload_n 0, 1) := by decide +kernel
theorem dX9_findWorlds_130 : decode cX9_findWorlds 130 = .ok (.getfield 85, 3) := by decide +kernel
theorem dX9_findWorlds_133 : decode cX9_findWorlds 133 = .ok (.if_icmp .ge 23, 3) := by decide +kernel
theorem dX9_findWorlds_136 : decode cX9_findWorlds 136 = .ok (.aload_n 0, 1) := by decide +kernel
theorem dX9_findWorlds_137 : decode cX9_findWorlds 137 = .ok (.getfield 61, 3) := by decide +kernel
theorem dX9_findWorlds_140 : decode cX9_findWorlds 140 = .ok (.iload_n 2, 1) := by decide +kernel
theorem dX9_findWorlds_141 : decode cX9_findWorlds 141 = .ok (.dup2, 1) := by decide +kernel
theorem dX9_findWorlds_142 : decode cX9_findWorlds 142 = .ok (.iaload, 1) := by decide +kernel
theorem dX9_findWorlds_143 : decode cX9_findWorlds 143 = .ok (.iload_n 1, 1) := by decide +kernel
theorem dX9_findWorlds_144 : decode cX9_findWorlds 144 = .ok (.iload_n 2, 1) := by decide +kernel
theorem dX9_findWorlds_145 : decode cX9_findWorlds 145 = .ok (.ishr, 1) := by decide +kernel
theorem dX9_findWorlds_146 : decode cX9_findWorlds 146 = .ok (.iconst 1, 1) := by decide +kernel
theorem dX9_findWorlds_147 : decode cX9_findWorlds 147 = .ok (.iand, 1) := by decide +kernel
theorem dX9_findWorlds_148 : decode cX9_findWorlds 148 = .ok (.iadd, 1) := by decide +kernel
theorem dX9_findWorlds_149 : decode cX9_findWorlds 149 = .ok (.iastore, 1) := by decide +kernel
theorem dX9_findWorlds_150 : decode cX9_findWorlds 150 = .ok (.iinc 2 1, 3) := by decide +kernel
theorem dX9_findWorlds_153 : decode cX9_findWorlds 153 = .ok (.goto (-25), 3) := by decide +kernel
theorem dX9_findWorlds_156 : decode cX9_findWorlds 156 = .ok (.iinc 1 1, 3) := by decide +kernel
theorem dX9_findWorlds_159 : decode cX9_findWorlds 159 = .ok (.goto (-111), 3) := by decide +kernel
theorem dX9_findWorlds_162 : decode cX9_findWorlds 162 = .ok (.return_, 1) := by decide +kernel
theorem dX9_worlds_0 : decode cX9_worlds 0 = .ok (.iload_n 1, 1) := by decide +kernel
theorem dX9_worlds_1 : decode cX9_worlds 1 = .ok (.i2l, 1) := by decide +kernel
theorem dX9_worlds_2 : decode cX9_worlds 2 = .ok (.lconst 0, 1) := by decide +kernel
theorem dX9_worlds_3 : decode cX9_worlds 3 = .ok (.ldc2_w 222, 3) := by decide +kernel
theorem dX9_worlds_6 : decode cX9_worlds 6 = .ok (.invokestatic 101, 3) := by decide +kernel
theorem dX9_worlds_9 : decode cX9_worlds 9 = .ok (.ifCond .ne 6, 3) := by decide +kernel
theorem dX9_worlds_12 : decode cX9_worlds 12 = .ok (.bipush (-2), 2) := by decide +kernel
theorem dX9_worlds_14 : decode cX9_worlds 14 = .ok (.ireturn, 1) := by decide +kernel
theorem dX9_worlds_15 : decode cX9_worlds 15 = .ok (.aload_n 0, 1) := by decide +kernel
theorem dX9_worlds_16 : decode cX9_worlds 16 = .ok (.invokevirtual 137, 3) := by decide +kernel
theorem dX9_worlds_19 : decode cX9_worlds 19 = .ok (.ifCond .lt 6, 3) := by decide +kernel
theorem dX9_worlds_22 : decode cX9_worlds 22 = .ok (.bipush (-5), 2) := by decide +kernel
theorem dX9_worlds_24 : decode cX9_worlds 24 = .ok (.ireturn, 1) := by decide +kernel
theorem dX9_worlds_25 : decode cX9_worlds 25 = .ok (.aload_n 0, 1) := by decide +kernel
theorem dX9_worlds_26 : decode cX9_worlds 26 = .ok (.invokevirtual 266, 3) := by decide +kernel
theorem dX9_worlds_29 : decode cX9_worlds 29 = .ok (.iload_n 1, 1) := by decide +kernel
theorem dX9_worlds_30 : decode cX9_worlds 30 = .ok (.ifCond .ne 10, 3) := by decide +kernel
theorem dX9_worlds_33 : decode cX9_worlds 33 = .ok (.aload_n 0, 1) := by decide +kernel
theorem dX9_worlds_34 : decode cX9_worlds 34 = .ok (.getfield 251, 3) := by decide +kernel
theorem dX9_worlds_37 : decode cX9_worlds 37 = .ok (.goto 31, 3) := by decide +kernel
theorem dX9_worlds_40 : decode cX9_worlds 40 = .ok (.iload_n 1, 1) := by decide +kernel
theorem dX9_worlds_41 : decode cX9_worlds 41 = .ok (.iconst 1, 1) := by decide +kernel
theorem dX9_worlds_42 : decode cX9_worlds 42 = .ok (.if_icmp .ne 10, 3) := by decide +kernel
theorem dX9_worlds_45 : decode cX9_worlds 45 = .ok (.aload_n 0, 1) := by decide +kernel
theorem dX9_worlds_46 : decode cX9_worlds 46 = .ok (.getfield 254, 3) := by decide +kernel
theorem dX9_worlds_49 : decode cX9_worlds 49 = .ok (.goto 19, 3) := by decide +kernel
theorem dX9_worlds_52 : decode cX9_worlds 52 = .ok (.iload_n 1, 1) := by decide +kernel
theorem dX9_worlds_53 : decode cX9_worlds 53 = .ok (.iconst 2, 1) := by decide +kernel
theorem dX9_worlds_54 : decode cX9_worlds 54 = .ok (.if_icmp .ne 10, 3) := by decide +kernel
theorem dX9_worlds_57 : decode cX9_worlds 57 = .ok (.aload_n 0, 1) := by decide +kernel
theorem dX9_worlds_58 : decode cX9_worlds 58 = .ok (.getfield 257, 3) := by decide +kernel
theorem dX9_worlds_61 : decode cX9_worlds 61 = .ok (.goto 7, 3) := by decide +kernel
theorem dX9_worlds_64 : decode cX9_worlds 64 = .ok (.aload_n 0, 1) := by decide +kernel
theorem dX9_worlds_65 : decode cX9_worlds 65 = .ok (.getfield 260, 3) := by decide +kernel
theorem dX9_worlds_68 : decode cX9_worlds 68 = .ok (.ireturn, 1) := by decide +kernel
theorem dX9_mostLeft_0 : decode cX9_mostLeft 0 = .ok (.aload_n 0, 1) := by decide +kernel
theorem dX9_mostLeft_1 : decode cX9_mostLeft 1 = .ok (.getfield 61, 3) := by decide +kernel
theorem dX9_mostLeft_4 : decode cX9_mostLeft 4 = .ok (.iload_n 1, 1) := by decide +kernel
theorem dX9_mostLeft_5 : decode cX9_mostLeft 5 = .ok (.iaload, 1) := by decide +kernel
theorem dX9_mostLeft_6 : decode cX9_mostLeft 6 = .ok (.aload_n 0, 1) := by decide +kernel
theorem dX9_mostLeft_7 : decode cX9_mostLeft 7 = .ok (.getfield 251, 3) := by decide +kernel
theorem dX9_mostLeft_10 : decode cX9_mostLeft 10 = .ok (.aload_n 0, 1) := by decide +kernel
theorem dX9_mostLeft_11 : decode cX9_mostLeft 11 = .ok (.getfield 61, 3) := by decide +kernel
theorem dX9_mostLeft_14 : decode cX9_mostLeft 14 = .ok (.iload_n 1, 1) := by decide +kernel
theorem dX9_mostLeft_15 : decode cX9_mostLeft 15 = .ok (.iaload, 1) := by decide +kernel
theorem dX9_mostLeft_16 : decode cX9_mostLeft 16 = .ok (.isub, 1) := by decide +kernel
theorem dX9_mostLeft_17 : decode cX9_mostLeft 17 = .ok (.if_icmp .le 12, 3) := by decide +kernel
theorem dX9_mostLeft_20 : decode cX9_mostLeft 20 = .ok (.aload_n 0, 1) := by decide +kernel
theorem dX9_mostLeft_21 : decode cX9_mostLeft 21 = .ok (.getfield 61, 3) := by decide +kernel
theorem dX9_mostLeft_24 : decode cX9_mostLeft 24 = .ok (.iload_n 1, 1) := by decide +kernel
theorem dX9_mostLeft_25 : decode cX9_mostLeft 25 = .ok (.iaload, 1) := by decide +kernel
theorem dX9_mostLeft_26 : decode cX9_mostLeft 26 = .ok (.goto 14, 3) := by decide +kernel
theorem dX9_mostLeft_29 : decode cX9_mostLeft 29 = .ok (.aload_n 0, 1) := by decide +kernel
theorem dX9_mostLeft_30 : decode cX9_mostLeft 30 = .ok (.getfield 251, 3) := by decide +kernel
theorem dX9_mostLeft_33 : decode cX9_mostLeft 33 = .ok (.aload_n 0, 1) := by decide +kernel
theorem dX9_mostLeft_34 : decode cX9_mostLeft 34 = .ok (.getfield 61, 3) := by decide +kernel
theorem dX9_mostLeft_37 : decode cX9_mostLeft 37 = .ok (.iload_n 1, 1) := by decide +kernel
theorem dX9_mostLeft_38 : decode cX9_mostLeft 38 = .ok (.iaload, 1) := by decide +kernel
theorem dX9_mostLeft_39 : decode cX9_mostLeft 39 = .ok (.isub, 1) := by decide +kernel
theorem dX9_mostLeft_40 : decode cX9_mostLeft 40 = .ok (.ireturn, 1) := by decide +kernel
theorem dX9_tell_0 : decode cX9_tell 0 = .ok (.iload_n 1, 1) := by decide +kernel
theorem dX9_tell_1 : decode cX9_tell 1 = .ok (.i2l, 1) := by decide +kernel
theorem dX9_tell_2 : decode cX9_tell 2 = .ok (.lconst 0, 1) := by decide +kernel
theorem dX9_tell_3 : decode cX9_tell 3 = .ok (.lconst 1, 1) := by decide +kernel
theorem dX9_tell_4 : decode cX9_tell 4 = .ok (.invokestatic 101, 3) := by decide +kernel
theorem dX9_tell_7 : decode cX9_tell 7 = .ok (.ifCond .ne 6, 3) := by decide +kernel
theorem dX9_tell_10 : decode cX9_tell 10 = .ok (.bipush (-2), 2) := by decide +kernel
theorem dX9_tell_12 : decode cX9_tell 12 = .ok (.ireturn, 1) := by decide +kernel
theorem dX9_tell_13 : decode cX9_tell 13 = .ok (.aload_n 0, 1) := by decide +kernel
theorem dX9_tell_14 : decode cX9_tell 14 = .ok (.invokevirtual 137, 3) := by decide +kernel
theorem dX9_tell_17 : decode cX9_tell 17 = .ok (.ifCond .lt 6, 3) := by decide +kernel
theorem dX9_tell_20 : decode cX9_tell 20 = .ok (.bipush (-5), 2) := by decide +kernel
theorem dX9_tell_22 : decode cX9_tell 22 = .ok (.ireturn, 1) := by decide +kernel
theorem dX9_tell_23 : decode cX9_tell 23 = .ok (.aload_n 0, 1) := by decide +kernel
theorem dX9_tell_24 : decode cX9_tell 24 = .ok (.invokevirtual 266, 3) := by decide +kernel
theorem dX9_tell_27 : decode cX9_tell 27 = .ok (.aload_n 0, 1) := by decide +kernel
theorem dX9_tell_28 : decode cX9_tell 28 = .ok (.getfield 251, 3) := by decide +kernel
theorem dX9_tell_31 : decode cX9_tell 31 = .ok (.ifCond .ne 6, 3) := by decide +kernel
theorem dX9_tell_34 : decode cX9_tell 34 = .ok (.bipush (-6), 2) := by decide +kernel
theorem dX9_tell_36 : decode cX9_tell 36 = .ok (.ireturn, 1) := by decide +kernel
theorem dX9_tell_37 : decode cX9_tell 37 = .ok (.iconst 0, 1) := by decide +kernel
theorem dX9_tell_38 : decode cX9_tell 38 = .ok (.istore_n 2, 1) := by decide +kernel
theorem dX9_tell_39 : decode cX9_tell 39 = .ok (.iconst 1, 1) := by decide +kernel
theorem dX9_tell_40 : decode cX9_tell 40 = .ok (.istore_n 3, 1) := by decide +kernel
theorem dX9_tell_41 : decode cX9_tell 41 = .ok (.iload_n 3, 1) := by decide +kernel
theorem dX9_tell_42 : decode cX9_tell 42 = .ok (.aload_n 0, 1) := by decide +kernel
theorem dX9_tell_43 : decode cX9_tell 43 = .ok (.getfield 85, 3) := by decide +kernel
theorem dX9_tell_46 : decode cX9_tell 46 = .ok (.if_icmp .ge 28, 3) := by decide +kernel
theorem dX9_tell_49 : decode cX9_tell 49 = .ok (.aload_n 0, 1) := by decide +kernel
theorem dX9_tell_50 : decode cX9_tell 50 = .ok (.iload_n 3, 1) := by decide +kernel
theorem dX9_tell_51 : decode cX9_tell 51 = .ok (.invokevirtual 269, 3) := by decide +kernel
theorem dX9_tell_54 : decode cX9_tell 54 = .ok (.aload_n 0, 1) := by decide +kernel
theorem dX9_tell_55 : decode cX9_tell 55 = .ok (.iload_n 2, 1) := by decide +kernel
theorem dX9_tell_56 : decode cX9_tell 56 = .ok (.invokevirtual 269, 3) := by decide +kernel
theorem dX9_tell_59 : decode cX9_tell 59 = .ok (.if_icmp .ge 7, 3) := by decide +kernel
theorem dX9_tell_62 : decode cX9_tell 62 = .ok (.iload_n 3, 1) := by decide +kernel
theorem dX9_tell_63 : decode cX9_tell 63 = .ok (.goto 4, 3) := by decide +kernel
theorem dX9_tell_66 : decode cX9_tell 66 = .ok (.iload_n 2, 1) := by decide +kernel
theorem dX9_tell_67 : decode cX9_tell 67 = .ok (.istore_n 2, 1) := by decide +kernel
theorem dX9_tell_68 : decode cX9_tell 68 = .ok (.iinc 3 1, 3) := by decide +kernel
theorem dX9_tell_71 : decode cX9_tell 71 = .ok (.goto (-30), 3) := by decide +kernel
theorem dX9_tell_74 : decode cX9_tell 74 = .ok (.iload_n 1, 1) := by decide +kernel
theorem dX9_tell_75 : decode cX9_tell 75 = .ok (.ifCond .ne 7, 3) := by decide +kernel
theorem dX9_tell_78 : decode cX9_tell 78 = .ok (.iload_n 2, 1) := by decide +kernel
theorem dX9_tell_79 : decode cX9_tell 79 = .ok (.goto 8, 3) := by decide +kernel
theorem dX9_tell_82 : decode cX9_tell 82 = .ok (.aload_n 0, 1) := by decide +kernel
theorem dX9_tell_83 : decode cX9_tell 83 = .ok (.iload_n 2, 1) := by decide +kernel
theorem dX9_tell_84 : decode cX9_tell 84 = .ok (.invokevirtual 269, 3) := by decide +kernel
theorem dX9_tell_87 : decode cX9_tell 87 = .ok (.ireturn, 1) := by decide +kernel
theorem dX9_says_0 : decode cX9_says 0 = .ok (.iload_n 1, 1) := by decide +kernel
theorem dX9_says_1 : decode cX9_says 1 = .ok (.invokestatic 113, 3) := by decide +kernel
theorem dX9_says_4 : decode cX9_says 4 = .ok (.ifCond .ne 5, 3) := by decide +kernel
theorem dX9_says_7 : decode cX9_says 7 = .ok (.iconst (-1), 1) := by decide +kernel
theorem dX9_says_8 : decode cX9_says 8 = .ok (.ireturn, 1) := by decide +kernel
theorem dX9_says_9 : decode cX9_says 9 = .ok (.aload_n 0, 1) := by decide +kernel
theorem dX9_says_10 : decode cX9_says 10 = .ok (.invokevirtual 137, 3) := by decide +kernel
theorem dX9_says_13 : decode cX9_says 13 = .ok (.ifCond .lt 6, 3) := by decide +kernel
theorem dX9_says_16 : decode cX9_says 16 = .ok (.bipush (-5), 2) := by decide +kernel
theorem dX9_says_18 : decode cX9_says 18 = .ok (.ireturn, 1) := by decide +kernel
theorem dX9_says_19 : decode cX9_says 19 = .ok (.iconst 0, 1) := by decide +kernel
theorem dX9_says_20 : decode cX9_says 20 = .ok (.istore_n 2, 1) := by decide +kernel
theorem dX9_says_21 : decode cX9_says 21 = .ok (.iconst 0, 1) := by decide +kernel
theorem dX9_says_22 : decode cX9_says 22 = .ok (.istore_n 3, 1) := by decide +kernel
theorem dX9_says_23 : decode cX9_says 23 = .ok (.iload_n 3, 1) := by decide +kernel
theorem dX9_says_24 : decode cX9_says 24 = .ok (.aload_n 0, 1) := by decide +kernel
theorem dX9_says_25 : decode cX9_says 25 = .ok (.getfield 127, 3) := by decide +kernel
theorem dX9_says_28 : decode cX9_says 28 = .ok (.if_icmp .ge 64, 3) := by decide +kernel
theorem dX9_says_31 : decode cX9_says 31 = .ok (.aload_n 0, 1) := by decide +kernel
theorem dX9_says_32 : decode cX9_says 32 = .ok (.getfield 31, 3) := by decide +kernel
theorem dX9_says_35 : decode cX9_says 35 = .ok (.iload_n 3, 1) := by decide +kernel
theorem dX9_says_36 : decode cX9_says 36 = .ok (.iaload, 1) := by decide +kernel
theorem dX9_says_37 : decode cX9_says 37 = .ok (.ifCond .ne 17, 3) := by decide +kernel
theorem dX9_says_40 : decode cX9_says 40 = .ok (.aload_n 0, 1) := by decide +kernel
theorem dX9_says_41 : decode cX9_says 41 = .ok (.getfield 34, 3) := by decide +kernel
theorem dX9_says_44 : decode cX9_says 44 = .ok (.iload_n 3, 1) := by decide +kernel
theorem dX9_says_45 : decode cX9_says 45 = .ok (.iaload, 1) := by decide +kernel
theorem dX9_says_46 : decode cX9_says 46 = .ok (.iload_n 1, 1) := by decide +kernel
theorem dX9_says_47 : decode cX9_says 47 = .ok (.if_icmp .ne 7, 3) := by decide +kernel
theorem dX9_says_50 : decode cX9_says 50 = .ok (.iconst 1, 1) := by decide +kernel
theorem dX9_says_51 : decode cX9_says 51 = .ok (.goto 4, 3) := by decide +kernel
theorem dX9_says_54 : decode cX9_says 54 = .ok (.iconst 0, 1) := by decide +kernel
theorem dX9_says_55 : decode cX9_says 55 = .ok (.istore 4, 2) := by decide +kernel
theorem dX9_says_57 : decode cX9_says 57 = .ok (.iload_n 2, 1) := by decide +kernel
theorem dX9_says_58 : decode cX9_says 58 = .ok (.iload 4, 2) := by decide +kernel
theorem dX9_says_60 : decode cX9_says 60 = .ok (.ifCond .ne 7, 3) := by decide +kernel
theorem dX9_says_63 : decode cX9_says 63 = .ok (.iconst 0, 1) := by decide +kernel
theorem dX9_says_64 : decode cX9_says 64 = .ok (.goto 20, 3) := by decide +kernel
theorem dX9_says_67 : decode cX9_says 67 = .ok (.aload_n 0, 1) := by decide +kernel
theorem dX9_says_68 : decode cX9_says 68 = .ok (.iload_n 3, 1) := by decide +kernel
theorem dX9_says_69 : decode cX9_says 69 = .ok (.aload_n 0, 1) := by decide +kernel
theorem dX9_says_70 : decode cX9_says 70 = .ok (.getfield 89, 3) := by decide +kernel
theorem dX9_says_73 : decode cX9_says 73 = .ok (.invokevirtual 147, 3) := by decide +kernel
theorem dX9_says_76 : decode cX9_says 76 = .ok (.ifCond .eq 7, 3) := by decide +kernel
theorem dX9_says_79 : decode cX9_says 79 = .ok (.iconst 2, 1) := by decide +kernel
theorem dX9_says_80 : decode cX9_says 80 = .ok (.goto 4, 3) := by decide +kernel
theorem dX9_says_83 : decode cX9_says 83 = .ok (.iconst 1, 1) := by decide +kernel
theorem dX9_says_84 : decode cX9_says 84 = .ok (.ior, 1) := by decide +kernel
theorem dX9_says_85 : decode cX9_says 85 = .ok (.istore_n 2, 1) := by decide +kernel
theorem dX9_says_86 : decode cX9_says 86 = .ok (.iinc 3 1, 3) := by decide +kernel
theorem dX9_says_89 : decode cX9_says 89 = .ok (.goto (-66), 3) := by decide +kernel
theorem dX9_says_92 : decode cX9_says 92 = .ok (.iload_n 2, 1) := by decide +kernel
theorem dX9_says_93 : decode cX9_says 93 = .ok (.ireturn, 1) := by decide +kernel
theorem dX9_areRemarks_0 : decode cX9_areRemarks 0 = .ok (.iload_n 0, 1) := by decide +kernel
theorem dX9_areRemarks_1 : decode cX9_areRemarks 1 = .ok (.i2l, 1) := by decide +kernel
theorem dX9_areRemarks_2 : decode cX9_areRemarks 2 = .ok (.lconst 0, 1) := by decide +kernel
theorem dX9_areRemarks_3 : decode cX9_areRemarks 3 = .ok (.ldc2_w 272, 3) := by decide +kernel
theorem dX9_areRemarks_6 : decode cX9_areRemarks 6 = .ok (.invokestatic 101, 3) := by decide +kernel
theorem dX9_areRemarks_9 : decode cX9_areRemarks 9 = .ok (.ifCond .eq 31, 3) := by decide +kernel
theorem dX9_areRemarks_12 : decode cX9_areRemarks 12 = .ok (.iload_n 1, 1) := by decide +kernel
theorem dX9_areRemarks_13 : decode cX9_areRemarks 13 = .ok (.i2l, 1) := by decide +kernel
theorem dX9_areRemarks_14 : decode cX9_areRemarks 14 = .ok (.lconst 0, 1) := by decide +kernel
theorem dX9_areRemarks_15 : decode cX9_areRemarks 15 = .ok (.ldc2_w 272, 3) := by decide +kernel
theorem dX9_areRemarks_18 : decode cX9_areRemarks 18 = .ok (.invokestatic 101, 3) := by decide +kernel
theorem dX9_areRemarks_21 : decode cX9_areRemarks 21 = .ok (.ifCond .eq 19, 3) := by decide +kernel
theorem dX9_areRemarks_24 : decode cX9_areRemarks 24 = .ok (.iload_n 2, 1) := by decide +kernel
theorem dX9_areRemarks_25 : decode cX9_areRemarks 25 = .ok (.i2l, 1) := by decide +kernel
theorem dX9_areRemarks_26 : decode cX9_areRemarks 26 = .ok (.lconst 0, 1) := by decide +kernel
theorem dX9_areRemarks_27 : decode cX9_areRemarks 27 = .ok (.ldc2_w 249, 3) := by decide +kernel
theorem dX9_areRemarks_30 : decode cX9_areRemarks 30 = .ok (.invokestatic 101, 3) := by decide +kernel
theorem dX9_areRemarks_33 : decode cX9_areRemarks 33 = .ok (.ifCond .eq 7, 3) := by decide +kernel
theorem dX9_areRemarks_36 : decode cX9_areRemarks 36 = .ok (.iconst 1, 1) := by decide +kernel
theorem dX9_areRemarks_37 : decode cX9_areRemarks 37 = .ok (.goto 4, 3) := by decide +kernel
theorem dX9_areRemarks_40 : decode cX9_areRemarks 40 = .ok (.iconst 0, 1) := by decide +kernel
theorem dX9_areRemarks_41 : decode cX9_areRemarks 41 = .ok (.ireturn, 1) := by decide +kernel
theorem dX9_orders_0 : decode cX9_orders 0 = .ok (.iload_n 1, 1) := by decide +kernel
theorem dX9_orders_1 : decode cX9_orders 1 = .ok (.iload_n 2, 1) := by decide +kernel
theorem dX9_orders_2 : decode cX9_orders 2 = .ok (.iload_n 3, 1) := by decide +kernel
theorem dX9_orders_3 : decode cX9_orders 3 = .ok (.invokestatic 274, 3) := by decide +kernel
theorem dX9_orders_6 : decode cX9_orders 6 = .ok (.ifCond .eq 16, 3) := by decide +kernel
theorem dX9_orders_9 : decode cX9_orders 9 = .ok (.iload 4, 2) := by decide +kernel
theorem dX9_orders_11 : decode cX9_orders 11 = .ok (.i2l, 1) := by decide +kernel
theorem dX9_orders_12 : decode cX9_orders 12 = .ok (.lconst 0, 1) := by decide +kernel
theorem dX9_orders_13 : decode cX9_orders 13 = .ok (.ldc2_w 278, 3) := by decide +kernel
theorem dX9_orders_16 : decode cX9_orders 16 = .ok (.invokestatic 101, 3) := by decide +kernel
theorem dX9_orders_19 : decode cX9_orders 19 = .ok (.ifCond .ne 7, 3) := by decide +kernel
theorem dX9_orders_22 : decode cX9_orders 22 = .ok (.ldc2_w 280, 3) := by decide +kernel
theorem dX9_orders_25 : decode cX9_orders 25 = .ok (.lreturn, 1) := by decide +kernel
theorem dX9_orders_26 : decode cX9_orders 26 = .ok (.iconst 0, 1) := by decide +kernel
theorem dX9_orders_27 : decode cX9_orders 27 = .ok (.istore 5, 2) := by decide +kernel
theorem dX9_orders_29 : decode cX9_orders 29 = .ok (.iload 5, 2) := by decide +kernel
theorem dX9_orders_31 : decode cX9_orders 31 = .ok (.sipush 1248, 3) := by decide +kernel
theorem dX9_orders_34 : decode cX9_orders 34 = .ok (.if_icmp .ge 17, 3) := by decide +kernel
theorem dX9_orders_37 : decode cX9_orders 37 = .ok (.aload_n 0, 1) := by decide +kernel
theorem dX9_orders_38 : decode cX9_orders 38 = .ok (.getfield 71, 3) := by decide +kernel
theorem dX9_orders_41 : decode cX9_orders 41 = .ok (.iload 5, 2) := by decide +kernel
theorem dX9_orders_43 : decode cX9_orders 43 = .ok (.lconst 0, 1) := by decide +kernel
theorem dX9_orders_44 : decode cX9_orders 44 = .ok (.lastore, 1) := by decide +kernel
theorem dX9_orders_45 : decode cX9_orders 45 = .ok (.iinc 5 1, 3) := by decide +kernel
theorem dX9_orders_48 : decode cX9_orders 48 = .ok (.goto (-19), 3) := by decide +kernel
theorem dX9_orders_51 : decode cX9_orders 51 = .ok (.aload_n 0, 1) := by decide +kernel
theorem dX9_orders_52 : decode cX9_orders 52 = .ok (.getfield 71, 3) := by decide +kernel
theorem dX9_orders_55 : decode cX9_orders 55 = .ok (.iload_n 3, 1) := by decide +kernel
theorem dX9_orders_56 : decode cX9_orders 56 = .ok (.lconst 1, 1) := by decide +kernel
theorem dX9_orders_57 : decode cX9_orders 57 = .ok (.lastore, 1) := by decide +kernel
theorem dX9_orders_58 : decode cX9_orders 58 = .ok (.iconst 0, 1) := by decide +kernel
theorem dX9_orders_59 : decode cX9_orders 59 = .ok (.istore 5, 2) := by decide +kernel
theorem dX9_orders_61 : decode cX9_orders 61 = .ok (.iload 5, 2) := by decide +kernel
theorem dX9_orders_63 : decode cX9_orders 63 = .ok (.iload_n 2, 1) := by decide +kernel
theorem dX9_orders_64 : decode cX9_orders 64 = .ok (.if_icmp .gt 97, 3) := by decide +kernel
theorem dX9_orders_67 : decode cX9_orders 67 = .ok (.iconst 0, 1) := by decide +kernel
theorem dX9_orders_68 : decode cX9_orders 68 = .ok (.istore 6, 2) := by decide +kernel
theorem dX9_orders_70 : decode cX9_orders 70 = .ok (.iload 6, 2) := by decide +kernel
theorem dX9_orders_72 : decode cX9_orders 72 = .ok (.iload_n 1, 1) := by decide +kernel
theorem dX9_orders_73 : decode cX9_orders 73 = .ok (.if_icmp .ge 71, 3) := by decide +kernel
theorem dX9_orders_76 : decode cX9_orders 76 = .ok (.iconst 0, 1) := by decide +kernel
theorem dX9_orders_77 : decode cX9_orders 77 = .ok (.istore 7, 2) := by decide +kernel
theorem dX9_orders_79 : decode cX9_orders 79 = .ok (.iload 7, 2) := by decide +kernel
theorem dX9_orders_81 : decode cX9_orders 81 = .ok (.bipush 96, 2) := by decide +kernel
theorem dX9_orders_83 : decode cX9_orders 83 = .ok (.if_icmp .ge 55, 3) := by decide +kernel
theorem dX9_orders_86 : decode cX9_orders 86 = .ok (.iload 7, 2) := by decide +kernel
theorem dX9_orders_88 : decode cX9_orders 88 = .ok (.ifCond .le 10, 3) := by decide +kernel
theorem dX9_orders_91 : decode cX9_orders 91 = .ok (.iload 7, 2) := by decide +kernel
theorem dX9_orders_93 : decode cX9_orders 93 = .ok (.iconst 1, 1) := by decide +kernel
theorem dX9_orders_94 : decode cX9_orders 94 = .ok (.isub, 1) := by decide +kernel
theorem dX9_orders_95 : decode cX9_orders 95 = .ok (.goto 4, 3) := by decide +kernel
theorem dX9_orders_98 : decode cX9_orders 98 = .ok (.iconst 0, 1) := by decide +kernel
theorem dX9_orders_99 : decode cX9_orders 99 = .ok (.istore 8, 2) := by decide +kernel
theorem dX9_orders_101 : decode cX9_orders 101 = .ok (.aload_n 0, 1) := by decide +kernel
theorem dX9_orders_102 : decode cX9_orders 102 = .ok (.getfield 71, 3) := by decide +kernel
theorem dX9_orders_105 : decode cX9_orders 105 = .ok (.bipush 96, 2) := by decide +kernel
theorem dX9_orders_107 : decode cX9_orders 107 = .ok (.iload 6, 2) := by decide +kernel
theorem dX9_orders_109 : decode cX9_orders 109 = .ok (.iconst 1, 1) := by decide +kernel
theorem dX9_orders_110 : decode cX9_orders 110 = .ok (.iadd, 1) := by decide +kernel
theorem dX9_orders_111 : decode cX9_orders 111 = .ok (.imul, 1) := by decide +kernel
theorem dX9_orders_112 : decode cX9_orders 112 = .ok (.iload 8, 2) := by decide +kernel
theorem dX9_orders_114 : decode cX9_orders 114 = .ok (.iadd, 1) := by decide +kernel
theorem dX9_orders_115 : decode cX9_orders 115 = .ok (.dup2, 1) := by decide +kernel
theorem dX9_orders_116 : decode cX9_orders 116 = .ok (.laload, 1) := by decide +kernel
theorem dX9_orders_117 : decode cX9_orders 117 = .ok (.aload_n 0, 1) := by decide +kernel
theorem dX9_orders_118 : decode cX9_orders 118 = .ok (.getfield 71, 3) := by decide +kernel
theorem dX9_orders_121 : decode cX9_orders 121 = .ok (.bipush 96, 2) := by decide +kernel
theorem dX9_orders_123 : decode cX9_orders 123 = .ok (.iload 6, 2) := by decide +kernel
theorem dX9_orders_125 : decode cX9_orders 125 = .ok (.imul, 1) := by decide +kernel
theorem dX9_orders_126 : decode cX9_orders 126 = .ok (.iload 7, 2) := by decide +kernel
