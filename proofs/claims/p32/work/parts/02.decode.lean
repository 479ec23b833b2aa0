theorem dX0_init_0 : decode cX0_init 0 = .ok (.aload_n 0, 1) := by decide +kernel
theorem dX0_init_1 : decode cX0_init 1 = .ok (.invokespecial 3, 3) := by decide +kernel
theorem dX0_init_4 : decode cX0_init 4 = .ok (.aload_n 0, 1) := by decide +kernel
theorem dX0_init_5 : decode cX0_init 5 = .ok (.bipush 40, 2) := by decide +kernel
theorem dX0_init_7 : decode cX0_init 7 = .ok (.newarray .int, 2) := by decide +kernel
theorem dX0_init_9 : decode cX0_init 9 = .ok (.putfield 9, 3) := by decide +kernel
theorem dX0_init_12 : decode cX0_init 12 = .ok (.aload_n 0, 1) := by decide +kernel
theorem dX0_init_13 : decode cX0_init 13 = .ok (.iconst 0, 1) := by decide +kernel
theorem dX0_init_14 : decode cX0_init 14 = .ok (.putfield 15, 3) := by decide +kernel
theorem dX0_init_17 : decode cX0_init 17 = .ok (.aload_n 0, 1) := by decide +kernel
theorem dX0_init_18 : decode cX0_init 18 = .ok (.iconst 0, 1) := by decide +kernel
theorem dX0_init_19 : decode cX0_init 19 = .ok (.putfield 19, 3) := by decide +kernel
theorem dX0_init_22 : decode cX0_init 22 = .ok (.return_, 1) := by decide +kernel
theorem dX0_become_0 : decode cX0_become 0 = .ok (.aload_n 1, 1) := by decide +kernel
theorem dX0_become_1 : decode cX0_become 1 = .ok (.iconst 0, 1) := by decide +kernel
theorem dX0_become_2 : decode cX0_become 2 = .ok (.aload_n 0, 1) := by decide +kernel
theorem dX0_become_3 : decode cX0_become 3 = .ok (.getfield 9, 3) := by decide +kernel
theorem dX0_become_6 : decode cX0_become 6 = .ok (.iconst 0, 1) := by decide +kernel
theorem dX0_become_7 : decode cX0_become 7 = .ok (.iload_n 2, 1) := by decide +kernel
theorem dX0_become_8 : decode cX0_become 8 = .ok (.invokestatic 23, 3) := by decide +kernel
theorem dX0_become_11 : decode cX0_become 11 = .ok (.aload_n 0, 1) := by decide +kernel
theorem dX0_become_12 : decode cX0_become 12 = .ok (.iload_n 2, 1) := by decide +kernel
theorem dX0_become_13 : decode cX0_become 13 = .ok (.putfield 15, 3) := by decide +kernel
theorem dX0_become_16 : decode cX0_become 16 = .ok (.aload_n 0, 1) := by decide +kernel
theorem dX0_become_17 : decode cX0_become 17 = .ok (.iconst 1, 1) := by decide +kernel
theorem dX0_become_18 : decode cX0_become 18 = .ok (.putfield 19, 3) := by decide +kernel
theorem dX0_become_21 : decode cX0_become 21 = .ok (.return_, 1) := by decide +kernel
theorem dX1_init_0 : decode cX1_init 0 = .ok (.aload_n 0, 1) := by decide +kernel
theorem dX1_init_1 : decode cX1_init 1 = .ok (.invokespecial 3, 3) := by decide +kernel
theorem dX1_init_4 : decode cX1_init 4 = .ok (.aload_n 0, 1) := by decide +kernel
theorem dX1_init_5 : decode cX1_init 5 = .ok (.bipush 40, 2) := by decide +kernel
theorem dX1_init_7 : decode cX1_init 7 = .ok (.newarray .int, 2) := by decide +kernel
theorem dX1_init_9 : decode cX1_init 9 = .ok (.putfield 9, 3) := by decide +kernel
theorem dX1_init_12 : decode cX1_init 12 = .ok (.aload_n 0, 1) := by decide +kernel
theorem dX1_init_13 : decode cX1_init 13 = .ok (.bipush 40, 2) := by decide +kernel
theorem dX1_init_15 : decode cX1_init 15 = .ok (.newarray .int, 2) := by decide +kernel
theorem dX1_init_17 : decode cX1_init 17 = .ok (.putfield 15, 3) := by decide +kernel
theorem dX1_init_20 : decode cX1_init 20 = .ok (.aload_n 0, 1) := by decide +kernel
theorem dX1_init_21 : decode cX1_init 21 = .ok (.bipush 40, 2) := by decide +kernel
theorem dX1_init_23 : decode cX1_init 23 = .ok (.newarray .int, 2) := by decide +kernel
theorem dX1_init_25 : decode cX1_init 25 = .ok (.putfield 18, 3) := by decide +kernel
theorem dX1_init_28 : decode cX1_init 28 = .ok (.aload_n 0, 1) := by decide +kernel
theorem dX1_init_29 : decode cX1_init 29 = .ok (.bipush 40, 2) := by decide +kernel
theorem dX1_init_31 : decode cX1_init 31 = .ok (.newarray .int, 2) := by decide +kernel
theorem dX1_init_33 : decode cX1_init 33 = .ok (.putfield 21, 3) := by decide +kernel
theorem dX1_init_36 : decode cX1_init 36 = .ok (.aload_n 0, 1) := by decide +kernel
theorem dX1_init_37 : decode cX1_init 37 = .ok (.bipush 40, 2) := by decide +kernel
theorem dX1_init_39 : decode cX1_init 39 = .ok (.newarray .int, 2) := by decide +kernel
theorem dX1_init_41 : decode cX1_init 41 = .ok (.putfield 24, 3) := by decide +kernel
theorem dX1_init_44 : decode cX1_init 44 = .ok (.aload_n 0, 1) := by decide +kernel
theorem dX1_init_45 : decode cX1_init 45 = .ok (.iconst 0, 1) := by decide +kernel
theorem dX1_init_46 : decode cX1_init 46 = .ok (.putfield 27, 3) := by decide +kernel
theorem dX1_init_49 : decode cX1_init 49 = .ok (.aload_n 0, 1) := by decide +kernel
theorem dX1_init_50 : decode cX1_init 50 = .ok (.iconst 0, 1) := by decide +kernel
theorem dX1_init_51 : decode cX1_init 51 = .ok (.putfield 31, 3) := by decide +kernel
theorem dX1_init_54 : decode cX1_init 54 = .ok (.return_, 1) := by decide +kernel
theorem dX1_follow_0 : decode cX1_follow 0 = .ok (.aload_n 0, 1) := by decide +kernel
theorem dX1_follow_1 : decode cX1_follow 1 = .ok (.iload_n 1, 1) := by decide +kernel
theorem dX1_follow_2 : decode cX1_follow 2 = .ok (.putfield 27, 3) := by decide +kernel
theorem dX1_follow_5 : decode cX1_follow 5 = .ok (.aload_n 0, 1) := by decide +kernel
theorem dX1_follow_6 : decode cX1_follow 6 = .ok (.iload_n 2, 1) := by decide +kernel
theorem dX1_follow_7 : decode cX1_follow 7 = .ok (.putfield 31, 3) := by decide +kernel
theorem dX1_follow_10 : decode cX1_follow 10 = .ok (.return_, 1) := by decide +kernel
theorem dX1_endOf_0 : decode cX1_endOf 0 = .ok (.iload_n 3, 1) := by decide +kernel
theorem dX1_endOf_1 : decode cX1_endOf 1 = .ok (.istore 4, 2) := by decide +kernel
theorem dX1_endOf_3 : decode cX1_endOf 3 = .ok (.iload 4, 2) := by decide +kernel
theorem dX1_endOf_5 : decode cX1_endOf 5 = .ok (.aload_n 1, 1) := by decide +kernel
theorem dX1_endOf_6 : decode cX1_endOf 6 = .ok (.getfield 34, 3) := by decide +kernel
theorem dX1_endOf_9 : decode cX1_endOf 9 = .ok (.if_icmp .ge 33, 3) := by decide +kernel
theorem dX1_endOf_12 : decode cX1_endOf 12 = .ok (.aload_n 0, 1) := by decide +kernel
theorem dX1_endOf_13 : decode cX1_endOf 13 = .ok (.iload 4, 2) := by decide +kernel
theorem dX1_endOf_15 : decode cX1_endOf 15 = .ok (.aload_n 1, 1) := by decide +kernel
theorem dX1_endOf_16 : decode cX1_endOf 16 = .ok (.getfield 39, 3) := by decide +kernel
theorem dX1_endOf_19 : decode cX1_endOf 19 = .ok (.aload_n 2, 1) := by decide +kernel
theorem dX1_endOf_20 : decode cX1_endOf 20 = .ok (.iload 4, 2) := by decide +kernel
theorem dX1_endOf_22 : decode cX1_endOf 22 = .ok (.iaload, 1) := by decide +kernel
theorem dX1_endOf_23 : decode cX1_endOf 23 = .ok (.iaload, 1) := by decide +kernel
theorem dX1_endOf_24 : decode cX1_endOf 24 = .ok (.aload_n 1, 1) := by decide +kernel
theorem dX1_endOf_25 : decode cX1_endOf 25 = .ok (.getfield 42, 3) := by decide +kernel
theorem dX1_endOf_28 : decode cX1_endOf 28 = .ok (.aload_n 2, 1) := by decide +kernel
theorem dX1_endOf_29 : decode cX1_endOf 29 = .ok (.iload 4, 2) := by decide +kernel
theorem dX1_endOf_31 : decode cX1_endOf 31 = .ok (.iaload, 1) := by decide +kernel
theorem dX1_endOf_32 : decode cX1_endOf 32 = .ok (.iaload, 1) := by decide +kernel
theorem dX1_endOf_33 : decode cX1_endOf 33 = .ok (.invokevirtual 45, 3) := by decide +kernel
theorem dX1_endOf_36 : decode cX1_endOf 36 = .ok (.iinc 4 1, 3) := by decide +kernel
theorem dX1_endOf_39 : decode cX1_endOf 39 = .ok (.goto (-36), 3) := by decide +kernel
theorem dX1_endOf_42 : decode cX1_endOf 42 = .ok (.aload_n 1, 1) := by decide +kernel
theorem dX1_endOf_43 : decode cX1_endOf 43 = .ok (.getfield 34, 3) := by decide +kernel
theorem dX1_endOf_46 : decode cX1_endOf 46 = .ok (.ifCond .ne 7, 3) := by decide +kernel
theorem dX1_endOf_49 : decode cX1_endOf 49 = .ok (.iconst 0, 1) := by decide +kernel
theorem dX1_endOf_50 : decode cX1_endOf 50 = .ok (.goto 14, 3) := by decide +kernel
theorem dX1_endOf_53 : decode cX1_endOf 53 = .ok (.aload_n 0, 1) := by decide +kernel
theorem dX1_endOf_54 : decode cX1_endOf 54 = .ok (.getfield 21, 3) := by decide +kernel
theorem dX1_endOf_57 : decode cX1_endOf 57 = .ok (.aload_n 1, 1) := by decide +kernel
theorem dX1_endOf_58 : decode cX1_endOf 58 = .ok (.getfield 34, 3) := by decide +kernel
theorem dX1_endOf_61 : decode cX1_endOf 61 = .ok (.iconst 1, 1) := by decide +kernel
theorem dX1_endOf_62 : decode cX1_endOf 62 = .ok (.isub, 1) := by decide +kernel
theorem dX1_endOf_63 : decode cX1_endOf 63 = .ok (.iaload, 1) := by decide +kernel
theorem dX1_endOf_64 : decode cX1_endOf 64 = .ok (.ireturn, 1) := by decide +kernel
theorem dX1_lay_0 : decode cX1_lay 0 = .ok (.iload_n 1, 1) := by decide +kernel
theorem dX1_lay_1 : decode cX1_lay 1 = .ok (.ifCond .ne 7, 3) := by decide +kernel
theorem dX1_lay_4 : decode cX1_lay 4 = .ok (.iconst 0, 1) := by decide +kernel
theorem dX1_lay_5 : decode cX1_lay 5 = .ok (.goto 11, 3) := by decide +kernel
theorem dX1_lay_8 : decode cX1_lay 8 = .ok (.aload_n 0, 1) := by decide +kernel
theorem dX1_lay_9 : decode cX1_lay 9 = .ok (.getfield 24, 3) := by decide +kernel
theorem dX1_lay_12 : decode cX1_lay 12 = .ok (.iload_n 1, 1) := by decide +kernel
theorem dX1_lay_13 : decode cX1_lay 13 = .ok (.iconst 1, 1) := by decide +kernel
theorem dX1_lay_14 : decode cX1_lay 14 = .ok (.isub, 1) := by decide +kernel
theorem dX1_lay_15 : decode cX1_lay 15 = .ok (.iaload, 1) := by decide +kernel
theorem dX1_lay_16 : decode cX1_lay 16 = .ok (.istore 4, 2) := by decide +kernel
theorem dX1_lay_18 : decode cX1_lay 18 = .ok (.iload_n 1, 1) := by decide +kernel
theorem dX1_lay_19 : decode cX1_lay 19 = .ok (.ifCond .ne 7, 3) := by decide +kernel
theorem dX1_lay_22 : decode cX1_lay 22 = .ok (.iconst 0, 1) := by decide +kernel
theorem dX1_lay_23 : decode cX1_lay 23 = .ok (.goto 11, 3) := by decide +kernel
theorem dX1_lay_26 : decode cX1_lay 26 = .ok (.aload_n 0, 1) := by decide +kernel
theorem dX1_lay_27 : decode cX1_lay 27 = .ok (.getfield 21, 3) := by decide +kernel
theorem dX1_lay_30 : decode cX1_lay 30 = .ok (.iload_n 1, 1) := by decide +kernel
theorem dX1_lay_31 : decode cX1_lay 31 = .ok (.iconst 1, 1) := by decide +kernel
theorem dX1_lay_32 : decode cX1_lay 32 = .ok (.isub, 1) := by decide +kernel
theorem dX1_lay_33 : decode cX1_lay 33 = .ok (.iaload, 1) := by decide +kernel
theorem dX1_lay_34 : decode cX1_lay 34 = .ok (.istore 5, 2) := by decide +kernel
theorem dX1_lay_36 : decode cX1_lay 36 = .ok (.aload_n 0, 1) := by decide +kernel
theorem dX1_lay_37 : decode cX1_lay 37 = .ok (.getfield 9, 3) := by decide +kernel
theorem dX1_lay_40 : decode cX1_lay 40 = .ok (.iload_n 1, 1) := by decide +kernel
theorem dX1_lay_41 : decode cX1_lay 41 = .ok (.aload_n 0, 1) := by decide +kernel
theorem dX1_lay_42 : decode cX1_lay 42 = .ok (.getfield 27, 3) := by decide +kernel
theorem dX1_lay_45 : decode cX1_lay 45 = .ok (.ifCond .ne 15, 3) := by decide +kernel
theorem dX1_lay_48 : decode cX1_lay 48 = .ok (.iload 4, 2) := by decide +kernel
theorem dX1_lay_50 : decode cX1_lay 50 = .ok (.iload 5, 2) := by decide +kernel
theorem dX1_lay_52 : decode cX1_lay 52 = .ok (.iload_n 2, 1) := by decide +kernel
theorem dX1_lay_53 : decode cX1_lay 53 = .ok (.isub, 1) := by decide +kernel
theorem dX1_lay_54 : decode cX1_lay 54 = .ok (.invokestatic 49, 3) := by decide +kernel
theorem dX1_lay_57 : decode cX1_lay 57 = .ok (.goto 5, 3) := by decide +kernel
theorem dX1_lay_60 : decode cX1_lay 60 = .ok (.iload 4, 2) := by decide +kernel
theorem dX1_lay_62 : decode cX1_lay 62 = .ok (.iastore, 1) := by decide +kernel
theorem dX1_lay_63 : decode cX1_lay 63 = .ok (.aload_n 0, 1) := by decide +kernel
theorem dX1_lay_64 : decode cX1_lay 64 = .ok (.getfield 15, 3) := by decide +kernel
theorem dX1_lay_67 : decode cX1_lay 67 = .ok (.iload_n 1, 1) := by decide +kernel
theorem dX1_lay_68 : decode cX1_lay 68 = .ok (.aload_n 0, 1) := by decide +kernel
theorem dX1_lay_69 : decode cX1_lay 69 = .ok (.getfield 9, 3) := by decide +kernel
theorem dX1_lay_72 : decode cX1_lay 72 = .ok (.iload_n 1, 1) := by decide +kernel
theorem dX1_lay_73 : decode cX1_lay 73 = .ok (.iaload, 1) := by decide +kernel
theorem dX1_lay_74 : decode cX1_lay 74 = .ok (.iload_n 2, 1) := by decide +kernel
theorem dX1_lay_75 : decode cX1_lay 75 = .ok (.iadd, 1) := by decide +kernel
theorem dX1_lay_76 : decode cX1_lay 76 = .ok (.iastore, 1) := by decide +kernel
theorem dX1_lay_77 : decode cX1_lay 77 = .ok (.aload_n 0, 1) := by decide +kernel
theorem dX1_lay_78 : decode cX1_lay 78 = .ok (.getfield 18, 3) := by decide +kernel
theorem dX1_lay_81 : decode cX1_lay 81 = .ok (.iload_n 1, 1) := by decide +kernel
theorem dX1_lay_82 : decode cX1_lay 82 = .ok (.aload_n 0, 1) := by decide +kernel
theorem dX1_lay_83 : decode cX1_lay 83 = .ok (.getfield 15, 3) := by decide +kernel
theorem dX1_lay_86 : decode cX1_lay 86 = .ok (.iload_n 1, 1) := by decide +kernel
theorem dX1_lay_87 : decode cX1_lay 87 = .ok (.iaload, 1) := by decide +kernel
theorem dX1_lay_88 : decode cX1_lay 88 = .ok (.iload 5, 2) := by decide +kernel
theorem dX1_lay_90 : decode cX1_lay 90 = .ok (.invokestatic 49, 3) := by decide +kernel
theorem dX1_lay_93 : decode cX1_lay 93 = .ok (.iastore, 1) := by decide +kernel
theorem dX1_lay_94 : decode cX1_lay 94 = .ok (.aload_n 0, 1) := by decide +kernel
theorem dX1_lay_95 : decode cX1_lay 95 = .ok (.getfield 21, 3) := by decide +kernel
theorem dX1_lay_98 : decode cX1_lay 98 = .ok (.iload_n 1, 1) := by decide +kernel
theorem dX1_lay_99 : decode cX1_lay 99 = .ok (.aload_n 0, 1) := by decide +kernel
theorem dX1_lay_100 : decode cX1_lay 100 = .ok (.getfield 18, 3) := by decide +kernel
theorem dX1_lay_103 : decode cX1_lay 103 = .ok (.iload_n 1, 1) := by decide +kernel
theorem dX1_lay_104 : decode cX1_lay 104 = .ok (.iaload, 1) := by decide +kernel
theorem dX1_lay_105 : decode cX1_lay 105 = .ok (.iload_n 3, 1) := by decide +kernel
theorem dX1_lay_106 : decode cX1_lay 106 = .ok (.iadd, 1) := by decide +kernel
theorem dX1_lay_107 : decode cX1_lay 107 = .ok (.iastore, 1) := by decide +kernel
theorem dX1_lay_108 : decode cX1_lay 108 = .ok (.aload_n 0, 1) := by decide +kernel
theorem dX1_lay_109 : decode cX1_lay 109 = .ok (.getfield 24, 3) := by decide +kernel
theorem dX1_lay_112 : decode cX1_lay 112 = .ok (.iload_n 1, 1) := by decide +kernel
theorem dX1_lay_113 : decode cX1_lay 113 = .ok (.aload_n 0, 1) := by decide +kernel
theorem dX1_lay_114 : decode cX1_lay 114 = .ok (.getfield 15, 3) := by decide +kernel
theorem dX1_lay_117 : decode cX1_lay 117 = .ok (.iload_n 1, 1) := by decide +kernel
theorem dX1_lay_118 : decode cX1_lay 118 = .ok (.iaload, 1) := by decide +kernel
theorem dX1_lay_119 : decode cX1_lay 119 = .ok (.iastore, 1) := by decide +kernel
theorem dX1_lay_120 : decode cX1_lay 120 = .ok (.aload_n 0, 1) := by decide +kernel
theorem dX1_lay_121 : decode cX1_lay 121 = .ok (.getfield 27, 3) := by decide +kernel
theorem dX1_lay_124 : decode cX1_lay 124 = .ok (.iconst 2, 1) := by decide +kernel
theorem dX1_lay_125 : decode cX1_lay 125 = .ok (.if_icmp .ne 37, 3) := by decide +kernel
theorem dX1_lay_128 : decode cX1_lay 128 = .ok (.iload_n 1, 1) := by decide +kernel
theorem dX1_lay_129 : decode cX1_lay 129 = .ok (.aload_n 0, 1) := by decide +kernel
theorem dX1_lay_130 : decode cX1_lay 130 = .ok (.getfield 31, 3) := by decide +kernel
theorem dX1_lay_133 : decode cX1_lay 133 = .ok (.if_icmp .lt 29, 3) := by decide +kernel
theorem dX1_lay_136 : decode cX1_lay 136 = .ok (.aload_n 0, 1) := by decide +kernel
theorem dX1_lay_137 : decode cX1_lay 137 = .ok (.getfield 24, 3) := by decide +kernel
theorem dX1_lay_140 : decode cX1_lay 140 = .ok (.iload_n 1, 1) := by decide +kernel
theorem dX1_lay_141 : decode cX1_lay 141 = .ok (.aload_n 0, 1) := by decide +kernel
theorem dX1_lay_142 : decode cX1_lay 142 = .ok (.getfield 15, 3) := by decide +kernel
theorem dX1_lay_145 : decode cX1_lay 145 = .ok (.iload_n 1, 1) := by decide +kernel
theorem dX1_lay_146 : decode cX1_lay 146 = .ok (.iaload, 1) := by decide +kernel
theorem dX1_lay_147 : decode cX1_lay 147 = .ok (.aload_n 0, 1) := by decide +kernel
theorem dX1_lay_148 : decode cX1_lay 148 = .ok (.getfield 18, 3) := by decide +kernel
theorem dX1_lay_151 : decode cX1_lay 151 = .ok (.iload_n 1, 1) := by decide +kernel
theorem dX1_lay_152 : decode cX1_lay 152 = .ok (.aload_n 0, 1) := by decide +kernel
theorem dX1_lay_153 : decode cX1_lay 153 = .ok (.getfield 31, 3) := by decide +kernel
theorem dX1_lay_156 : decode cX1_lay 156 = .ok (.isub, 1) := by decide +kernel
theorem dX1_lay_157 : decode cX1_lay 157 = .ok (.iaload, 1) := by decide +kernel
theorem dX1_lay_158 : decode cX1_lay 158 = .ok (.invokestatic 49, 3) := by decide +kernel
theorem dX1_lay_161 : decode cX1_lay 161 = .ok (.iastore, 1) := by decide +kernel
theorem dX1_lay_162 : decode cX1_lay 162 = .ok (.return_, 1) := by decide +kernel
theorem dX2_init_0 : decode cX2_init 0 = .ok (.aload_n 0, 1) := by decide +kernel
theorem dX2_init_1 : decode cX2_init 1 = .ok (.invokespecial 3, 3) := by decide +kernel
theorem dX2_init_4 : decode cX2_init 4 = .ok (.aload_n 0, 1) := by decide +kernel
theorem dX2_init_5 : decode cX2_init 5 = .ok (.iconst 5, 1) := by decide +kernel
theorem dX2_init_6 : decode cX2_init 6 = .ok (.anewarray 9, 3) := by decide +kernel
theorem dX2_init_9 : decode cX2_init 9 = .ok (.putfield 11, 3) := by decide +kernel
theorem dX2_init_12 : decode cX2_init 12 = .ok (.aload_n 0, 1) := by decide +kernel
theorem dX2_init_13 : decode cX2_init 13 = .ok (.iconst 0, 1) := by decide +kernel
theorem dX2_init_14 : decode cX2_init 14 = .ok (.putfield 17, 3) := by decide +kernel
theorem dX2_init_17 : decode cX2_init 17 = .ok (.aload_n 0, 1) := by decide +kernel
theorem dX2_init_18 : decode cX2_init 18 = .ok (.iconst 0, 1) := by decide +kernel
theorem dX2_init_19 : decode cX2_init 19 = .ok (.putfield 21, 3) := by decide +kernel
theorem dX2_init_22 : decode cX2_init 22 = .ok (.iconst 0, 1) := by decide +kernel
theorem dX2_init_23 : decode cX2_init 23 = .ok (.istore_n 1, 1) := by decide +kernel
theorem dX2_init_24 : decode cX2_init 24 = .ok (.iload_n 1, 1) := by decide +kernel
theorem dX2_init_25 : decode cX2_init 25 = .ok (.iconst 5, 1) := by decide +kernel
theorem dX2_init_26 : decode cX2_init 26 = .ok (.if_icmp .ge 22, 3) := by decide +kernel
theorem dX2_init_29 : decode cX2_init 29 = .ok (.aload_n 0, 1) := by decide +kernel
theorem dX2_init_30 : decode cX2_init 30 = .ok (.getfield 11, 3) := by decide +kernel
theorem dX2_init_33 : decode cX2_init 33 = .ok (.iload_n 1, 1) := by decide +kernel
theorem dX2_init_34 : decode cX2_init 34 = .ok (.new 9, 3) := by decide +kernel
theorem dX2_init_37 : decode cX2_init 37 = .ok (.dup, 1) := by decide +kernel
theorem dX2_init_38 : decode cX2_init 38 = .ok (.invokespecial 24, 3) := by decide +kernel
theorem dX2_init_41 : decode cX2_init 41 = .ok (.aastore, 1) := by decide +kernel
theorem dX2_init_42 : decode cX2_init 42 = .ok (.iinc 1 1, 3) := by decide +kernel
theorem dX2_init_45 : decode cX2_init 45 = .ok (.goto (-21), 3) := by decide +kernel
theorem dX2_init_48 : decode cX2_init 48 = .ok (.return_, 1) := by decide +kernel
theorem dX2_keep_0 : decode cX2_keep 0 = .ok (.aload_n 0, 1) := by decide +kernel
theorem dX2_keep_1 : decode cX2_keep 1 = .ok (.getfield 11, 3) := by decide +kernel
theorem dX2_keep_4 : decode cX2_keep 4 = .ok (.aload_n 0, 1) := by decide +kernel
theorem dX2_keep_5 : decode cX2_keep 5 = .ok (.getfield 17, 3) := by decide +kernel
theorem dX2_keep_8 : decode cX2_keep 8 = .ok (.aaload, 1) := by decide +kernel
theorem dX2_keep_9 : decode cX2_keep 9 = .ok (.aload_n 1, 1) := by decide +kernel
theorem dX2_keep_10 : decode cX2_keep 10 = .ok (.invokevirtual 25, 3) := by decide +kernel
theorem dX2_keep_13 : decode cX2_keep 13 = .ok (.aload_n 0, 1) := by decide +kernel
theorem dX2_keep_14 : decode cX2_keep 14 = .ok (.aload_n 0, 1) := by decide +kernel
theorem dX2_keep_15 : decode cX2_keep 15 = .ok (.getfield 17, 3) := by decide +kernel
theorem dX2_keep_18 : decode cX2_keep 18 = .ok (.iconst 1, 1) := by decide +kernel
theorem dX2_keep_19 : decode cX2_keep 19 = .ok (.iadd, 1) := by decide +kernel
theorem dX2_keep_20 : decode cX2_keep 20 = .ok (.iconst 5, 1) := by decide +kernel
theorem dX2_keep_21 : decode cX2_keep 21 = .ok (.if_icmp .ge 12, 3) := by decide +kernel
theorem dX2_keep_24 : decode cX2_keep 24 = .ok (.aload_n 0, 1) := by decide +kernel
theorem dX2_keep_25 : decode cX2_keep 25 = .ok (.getfield 17, 3) := by decide +kernel
theorem dX2_keep_28 : decode cX2_keep 28 = .ok (.iconst 1, 1) := by decide +kernel
theorem dX2_keep_29 : decode cX2_keep 29 = .ok (.iadd, 1) := by decide +kernel
theorem dX2_keep_30 : decode cX2_keep 30 = .ok (.goto 4, 3) := by decide +kernel
theorem dX2_keep_33 : decode cX2_keep 33 = .ok (.iconst 0, 1) := by decide +kernel
theorem dX2_keep_34 : decode cX2_keep 34 = .ok (.putfield 17, 3) := by decide +kernel
theorem dX2_keep_37 : decode cX2_keep 37 = .ok (.aload_n 0, 1) := by decide +kernel
theorem dX2_keep_38 : decode cX2_keep 38 = .ok (.aload_n 0, 1) := by decide +kernel
theorem dX2_keep_39 : decode cX2_keep 39 = .ok (.getfield 21, 3) := by decide +kernel
theorem dX2_keep_42 : decode cX2_keep 42 = .ok (.iconst 1, 1) := by decide +kernel
theorem dX2_keep_43 : decode cX2_keep 43 = .ok (.iadd, 1) := by decide +kernel
theorem dX2_keep_44 : decode cX2_keep 44 = .ok (.iconst 5, 1) := by decide +kernel
theorem dX2_keep_45 : decode cX2_keep 45 = .ok (.invokestatic 29, 3) := by decide +kernel
theorem dX2_keep_48 : decode cX2_keep 48 = .ok (.putfield 21, 3) := by decide +kernel
theorem dX2_keep_51 : decode cX2_keep 51 = .ok (.return_, 1) := by decide +kernel
theorem dX2_giveBack_0 : decode cX2_giveBack 0 = .ok (.aload_n 0, 1) := by decide +kernel
theorem dX2_giveBack_1 : decode cX2_giveBack 1 = .ok (.aload_n 0, 1) := by decide +kernel
theorem dX2_giveBack_2 : decode cX2_giveBack 2 = .ok (.getfield 17, 3) := by decide +kernel
theorem dX2_giveBack_5 : decode cX2_giveBack 5 = .ok (.ifCond .le 12, 3) := by decide +kernel
theorem dX2_giveBack_8 : decode cX2_giveBack 8 = .ok (.aload_n 0, 1) := by decide +kernel
theorem dX2_giveBack_9 : decode cX2_giveBack 9 = .ok (.getfield 17, 3) := by decide +kernel
theorem dX2_giveBack_12 : decode cX2_giveBack 12 = .ok (.iconst 1, 1) := by decide +kernel
theorem dX2_giveBack_13 : decode cX2_giveBack 13 = .ok (.isub, 1) := by decide +kernel
theorem dX2_giveBack_14 : decode cX2_giveBack 14 = .ok (.goto 4, 3) := by decide +kernel
theorem dX2_giveBack_17 : decode cX2_giveBack 17 = .ok (.iconst 4, 1) := by decide +kernel
theorem dX2_giveBack_18 : decode cX2_giveBack 18 = .ok (.putfield 17, 3) := by decide +kernel
theorem dX2_giveBack_21 : decode cX2_giveBack 21 = .ok (.aload_n 0, 1) := by decide +kernel
theorem dX2_giveBack_22 : decode cX2_giveBack 22 = .ok (.dup, 1) := by decide +kernel
theorem dX2_giveBack_23 : decode cX2_giveBack 23 = .ok (.getfield 21, 3) := by decide +kernel
theorem dX2_giveBack_26 : decode cX2_giveBack 26 = .ok (.iconst 1, 1) := by decide +kernel
theorem dX2_giveBack_27 : decode cX2_giveBack 27 = .ok (.isub, 1) := by decide +kernel
theorem dX2_giveBack_28 : decode cX2_giveBack 28 = .ok (.putfield 21, 3) := by decide +kernel
theorem dX2_giveBack_31 : decode cX2_giveBack 31 = .ok (.aload_n 1, 1) := by decide +kernel
theorem dX2_giveBack_32 : decode cX2_giveBack 32 = .ok (.aload_n 0, 1) := by decide +kernel
theorem dX2_giveBack_33 : decode cX2_giveBack 33 = .ok (.getfield 11, 3) := by decide +kernel
theorem dX2_giveBack_36 : decode cX2_giveBack 36 = .ok (.aload_n 0, 1) := by decide +kernel
theorem dX2_giveBack_37 : decode cX2_giveBack 37 = .ok (.getfield 17, 3) := by decide +kernel
theorem dX2_giveBack_40 : decode cX2_giveBack 40 = .ok (.aaload, 1) := by decide +kernel
theorem dX2_giveBack_41 : decode cX2_giveBack 41 = .ok (.invokevirtual 25, 3) := by decide +kernel
theorem dX2_giveBack_44 : decode cX2_giveBack 44 = .ok (.return_, 1) := by decide +kernel
theorem dX3_init_0 : decode cX3_init 0 = .ok (.aload_n 0, 1) := by decide +kernel
theorem dX3_init_1 : decode cX3_init 1 = .ok (.invokespecial 3, 3) := by decide +kernel
theorem dX3_init_4 : decode cX3_init 4 = .ok (.aload_n 0, 1) := by decide +kernel
theorem dX3_init_5 : decode cX3_init 5 = .ok (.bipush 40, 2) := by decide +kernel
theorem dX3_init_7 : decode cX3_init 7 = .ok (.newarray .int, 2) := by decide +kernel
theorem dX3_init_9 : decode cX3_init 9 = .ok (.putfield 9, 3) := by decide +kernel
theorem dX3_init_12 : decode cX3_init 12 = .ok (.aload_n 0, 1) := by decide +kernel
theorem dX3_init_13 : decode cX3_init 13 = .ok (.bipush 40, 2) := by decide +kernel
theorem dX3_init_15 : decode cX3_init 15 = .ok (.newarray .int, 2) := by decide +kernel
theorem dX3_init_17 : decode cX3_init 17 = .ok (.putfield 15, 3) := by decide +kernel
theorem dX3_init_20 : decode cX3_init 20 = .ok (.aload_n 0, 1) := by decide +kernel
theorem dX3_init_21 : decode cX3_init 21 = .ok (.bipush 40, 2) := by decide +kernel
theorem dX3_init_23 : decode cX3_init 23 = .ok (.newarray .int, 2) := by decide +kernel
theorem dX3_init_25 : decode cX3_init 25 = .ok (.putfield 18, 3) := by decide +kernel
theorem dX3_init_28 : decode cX3_init 28 = .ok (.aload_n 0, 1) := by decide +kernel
theorem dX3_init_29 : decode cX3_init 29 = .ok (.bipush 40, 2) := by decide +kernel
theorem dX3_init_31 : decode cX3_init 31 = .ok (.newarray .int, 2) := by decide +kernel
theorem dX3_init_33 : decode cX3_init 33 = .ok (.putfield 21, 3) := by decide +kernel
theorem dX3_init_36 : decode cX3_init 36 = .ok (.aload_n 0, 1) := by decide +kernel
theorem dX3_init_37 : decode cX3_init 37 = .ok (.bipush 40, 2) := by decide +kernel
theorem dX3_init_39 : decode cX3_init 39 = .ok (.newarray .int, 2) := by decide +kernel
theorem dX3_init_41 : decode cX3_init 41 = .ok (.putfield 24, 3) := by decide +kernel
theorem dX3_init_44 : decode cX3_init 44 = .ok (.aload_n 0, 1) := by decide +kernel
theorem dX3_init_45 : decode cX3_init 45 = .ok (.bipush 40, 2) := by decide +kernel
theorem dX3_init_47 : decode cX3_init 47 = .ok (.newarray .int, 2) := by decide +kernel
theorem dX3_init_49 : decode cX3_init 49 = .ok (.putfield 27, 3) := by decide +kernel
theorem dX3_init_52 : decode cX3_init 52 = .ok (.aload_n 0, 1) := by decide +kernel
theorem dX3_init_53 : decode cX3_init 53 = .ok (.iconst 0, 1) := by decide +kernel
theorem dX3_init_54 : decode cX3_init 54 = .ok (.putfield 30, 3) := by decide +kernel
theorem dX3_init_57 : decode cX3_init 57 = .ok (.return_, 1) := by decide +kernel
theorem dX3_has_0 : decode cX3_has 0 = .ok (.iload_n 1, 1) := by decide +kernel
theorem dX3_has_1 : decode cX3_has 1 = .ok (.ifCond .lt 15, 3) := by decide +kernel
theorem dX3_has_4 : decode cX3_has 4 = .ok (.iload_n 1, 1) := by decide +kernel
theorem dX3_has_5 : decode cX3_has 5 = .ok (.aload_n 0, 1) := by decide +kernel
theorem dX3_has_6 : decode cX3_has 6 = .ok (.getfield 30, 3) := by decide +kernel
theorem dX3_has_9 : decode cX3_has 9 = .ok (.if_icmp .ge 7, 3) := by decide +kernel
theorem dX3_has_12 : decode cX3_has 12 = .ok (.iconst 1, 1) := by decide +kernel
theorem dX3_has_13 : decode cX3_has 13 = .ok (.goto 4, 3) := by decide +kernel
theorem dX3_has_16 : decode cX3_has 16 = .ok (.iconst 0, 1) := by decide +kernel
theorem dX3_has_17 : decode cX3_has 17 = .ok (.ireturn, 1) := by decide +kernel
theorem dX3_add_0 : decode cX3_add 0 = .ok (.aload_n 0, 1) := by decide +kernel
theorem dX3_add_1 : decode cX3_add 1 = .ok (.getfield 9, 3) := by decide +kernel
theorem dX3_add_4 : decode cX3_add 4 = .ok (.aload_n 0, 1) := by decide +kernel
theorem dX3_add_5 : decode cX3_add 5 = .ok (.getfield 30, 3) := by decide +kernel
theorem dX3_add_8 : decode cX3_add 8 = .ok (.iload_n 1, 1) := by decide +kernel
theorem dX3_add_9 : decode cX3_add 9 = .ok (.iastore, 1) := by decide +kernel
theorem dX3_add_10 : decode cX3_add 10 = .ok (.aload_n 0, 1) := by decide +kernel
theorem dX3_add_11 : decode cX3_add 11 = .ok (.getfield 15, 3) := by decide +kernel
theorem dX3_add_14 : decode cX3_add 14 = .ok (.aload_n 0, 1) := by decide +kernel
theorem dX3_add_15 : decode cX3_add 15 = .ok (.getfield 30, 3) := by decide +kernel
theorem dX3_add_18 : decode cX3_add 18 = .ok (.iload_n 2, 1) := by decide +kernel
theorem dX3_add_19 : decode cX3_add 19 = .ok (.iastore, 1) := by decide +kernel
theorem dX3_add_20 : decode cX3_add 20 = .ok (.aload_n 0, 1) := by decide +kernel
theorem dX3_add_21 : decode cX3_add 21 = .ok (.getfield 18, 3) := by decide +kernel
theorem dX3_add_24 : decode cX3_add 24 = .ok (.aload_n 0, 1) := by decide +kernel
theorem dX3_add_25 : decode cX3_add 25 = .ok (.getfield 30, 3) := by decide +kernel
theorem dX3_add_28 : decode cX3_add 28 = .ok (.iconst 0, 1) := by decide +kernel
theorem dX3_add_29 : decode cX3_add 29 = .ok (.iastore, 1) := by decide +kernel
theorem dX3_add_30 : decode cX3_add 30 = .ok (.aload_n 0, 1) := by decide +kernel
theorem dX3_add_31 : decode cX3_add 31 = .ok (.getfield 21, 3) := by decide +kernel
theorem dX3_add_34 : decode cX3_add 34 = .ok (.aload_n 0, 1) := by decide +kernel
theorem dX3_add_35 : decode cX3_add 35 = .ok (.getfield 30, 3) := by decide +kernel
theorem dX3_add_38 : decode cX3_add 38 = .ok (.iconst 0, 1) := by decide +kernel
theorem dX3_add_39 : decode cX3_add 39 = .ok (.iastore, 1) := by decide +kernel
theorem dX3_add_40 : decode cX3_add 40 = .ok (.aload_n 0, 1) := by decide +kernel
theorem dX3_add_41 : decode cX3_add 41 = .ok (.getfield 24, 3) := by decide +kernel
theorem dX3_add_44 : decode cX3_add 44 = .ok (.aload_n 0, 1) := by decide +kernel
theorem dX3_add_45 : decode cX3_add 45 = .ok (.getfield 30, 3) := by decide +kernel
theorem dX3_add_48 : decode cX3_add 48 = .ok (.aload_n 0, 1) := by decide +kernel
theorem dX3_add_49 : decode cX3_add 49 = .ok (.getfield 30, 3) := by decide +kernel
theorem dX3_add_52 : decode cX3_add 52 = .ok (.iastore, 1) := by decide +kernel
theorem dX3_add_53 : decode cX3_add 53 = .ok (.aload_n 0, 1) := by decide +kernel
theorem dX3_add_54 : decode cX3_add 54 = .ok (.dup, 1) := by decide +kernel
theorem dX3_add_55 : decode cX3_add 55 = .ok (.getfield 30, 3) := by decide +kernel
theorem dX3_add_58 : decode cX3_add 58 = .ok (.iconst 1, 1) := by decide +kernel
theorem dX3_add_59 : decode cX3_add 59 = .ok (.iadd, 1) := by decide +kernel
theorem dX3_add_60 : decode cX3_add 60 = .ok (.putfield 30, 3) := by decide +kernel
theorem dX3_add_63 : decode cX3_add 63 = .ok (.return_, 1) := by decide +kernel
theorem dX3_become_0 : decode cX3_become 0 = .ok (.aload_n 0, 1) := by decide +kernel
theorem dX3_become_1 : decode cX3_become 1 = .ok (.aload_n 1, 1) := by decide +kernel
theorem dX3_become_2 : decode cX3_become 2 = .ok (.getfield 30, 3) := by decide +kernel
theorem dX3_become_5 : decode cX3_become 5 = .ok (.putfield 30, 3) := by decide +kernel
theorem dX3_become_8 : decode cX3_become 8 = .ok (.aload_n 1, 1) := by decide +kernel
theorem dX3_become_9 : decode cX3_become 9 = .ok (.getfield 9, 3) := by decide +kernel
theorem dX3_become_12 : decode cX3_become 12 = .ok (.iconst 0, 1) := by decide +kernel
theorem dX3_become_13 : decode cX3_become 13 = .ok (.aload_n 0, 1) := by decide +kernel
theorem dX3_become_14 : decode cX3_become 14 = .ok (.getfield 9, 3) := by decide +kernel
theorem dX3_become_17 : decode cX3_become 17 = .ok (.iconst 0, 1) := by decide +kernel
theorem dX3_become_18 : decode cX3_become 18 = .ok (.aload_n 0, 1) := by decide +kernel
theorem dX3_become_19 : decode cX3_become 19 = .ok (.getfield 30, 3) := by decide +kernel
theorem dX3_become_22 : decode cX3_become 22 = .ok (.invokestatic 34, 3) := by decide +kernel
theorem dX3_become_25 : decode cX3_become 25 = .ok (.aload_n 1, 1) := by decide +kernel
theorem dX3_become_26 : decode cX3_become 26 = .ok (.getfield 15, 3) := by decide +kernel
theorem dX3_become_29 : decode cX3_become 29 = .ok (.iconst 0, 1) := by decide +kernel
theorem dX3_become_30 : decode cX3_become 30 = .ok (.aload_n 0, 1) := by decide +kernel
theorem dX3_become_31 : decode cX3_become 31 = .ok (.getfield 15, 3) := by decide +kernel
theorem dX3_become_34 : decode cX3_become 34 = .ok (.iconst 0, 1) := by decide +kernel
theorem dX3_become_35 : decode cX3_become 35 = .ok (.aload_n 0, 1) := by decide +kernel
theorem dX3_become_36 : decode cX3_become 36 = .ok (.getfield 30, 3) := by decide +kernel
theorem dX3_become_39 : decode cX3_become 39 = .ok (.invokestatic 34, 3) := by decide +kernel
theorem dX3_become_42 : decode cX3_become 42 = .ok (.aload_n 1, 1) := by decide +kernel
theorem dX3_become_43 : decode cX3_become 43 = .ok (.getfield 18, 3) := by decide +kernel
theorem dX3_become_46 : decode cX3_become 46 = .ok (.iconst 0, 1) := by decide +kernel
theorem dX3_become_47 : decode cX3_become 47 = .ok (.aload_n 0, 1) := by decide +kernel
theorem dX3_become_48 : decode cX3_become 48 = .ok (.getfield 18, 3) := by decide +kernel
theorem dX3_become_51 : decode cX3_become 51 = .ok (.iconst 0, 1) := by decide +kernel
theorem dX3_become_52 : decode cX3_become 52 = .ok (.aload_n 0, 1) := by decide +kernel
theorem dX3_become_53 : decode cX3_become 53 = .ok (.getfield 30, 3) := by decide +kernel
theorem dX3_become_56 : decode cX3_become 56 = .ok (.invokestatic 34, 3) := by decide +kernel
theorem dX3_become_59 : decode cX3_become 59 = .ok (.aload_n 1, 1) := by decide +kernel
theorem dX3_become_60 : decode cX3_become 60 = .ok (.getfield 21, 3) := by decide +kernel
theorem dX3_become_63 : decode cX3_become 63 = .ok (.iconst 0, 1) := by decide +kernel
theorem dX3_become_64 : decode cX3_become 64 = .ok (.aload_n 0, 1) := by decide +kernel
theorem dX3_become_65 : decode cX3_become 65 = .ok (.getfield 21, 3) := by decide +kernel
theorem dX3_become_68 : decode cX3_become 68 = .ok (.iconst 0, 1) := by decide +kernel
theorem dX3_become_69 : decode cX3_become 69 = .ok (.aload_n 0, 1) := by decide +kernel
theorem dX3_become_70 : decode cX3_become 70 = .ok (.getfield 30, 3) := by decide +kernel
theorem dX3_become_73 : decode cX3_become 73 = .ok (.invokestatic 34, 3) := by decide +kernel
theorem dX3_become_76 : decode cX3_become 76 = .ok (.aload_n 1, 1) := by decide +kernel
theorem dX3_become_77 : decode cX3_become 77 = .ok (.getfield 24, 3) := by decide +kernel
theorem dX3_become_80 : decode cX3_become 80 = .ok (.iconst 0, 1) := by decide +kernel
theorem dX3_become_81 : decode cX3_become 81 = .ok (.aload_n 0, 1) := by decide +kernel
theorem dX3_become_82 : decode cX3_become 82 = .ok (.getfield 24, 3) := by decide +kernel
theorem dX3_become_85 : decode cX3_become 85 = .ok (.iconst 0, 1) := by decide +kernel
theorem dX3_become_86 : decode cX3_become 86 = .ok (.aload_n 0, 1) := by decide +kernel
theorem dX3_become_87 : decode cX3_become 87 = .ok (.getfield 30, 3) := by decide +kernel
theorem dX3_become_90 : decode cX3_become 90 = .ok (.invokestatic 34, 3) := by decide +kernel
theorem dX3_become_93 : decode cX3_become 93 = .ok (.return_, 1) := by decide +kernel
theorem dX3_kindOf_0 : decode cX3_kindOf 0 = .ok (.aload_n 0, 1) := by decide +kernel
theorem dX3_kindOf_1 : decode cX3_kindOf 1 = .ok (.getfield 9, 3) := by decide +kernel
theorem dX3_kindOf_4 : decode cX3_kindOf 4 = .ok (.iload_n 1, 1) := by decide +kernel
theorem dX3_kindOf_5 : decode cX3_kindOf 5 = .ok (.iaload, 1) := by decide +kernel
theorem dX3_kindOf_6 : decode cX3_kindOf 6 = .ok (.ifCond .ne 5, 3) := by decide +kernel
theorem dX3_kindOf_9 : decode cX3_kindOf 9 = .ok (.iconst 3, 1) := by decide +kernel
theorem dX3_kindOf_10 : decode cX3_kindOf 10 = .ok (.ireturn, 1) := by decide +kernel
theorem dX3_kindOf_11 : decode cX3_kindOf 11 = .ok (.aload_n 0, 1) := by decide +kernel
theorem dX3_kindOf_12 : decode cX3_kindOf 12 = .ok (.getfield 15, 3) := by decide +kernel
theorem dX3_kindOf_15 : decode cX3_kindOf 15 = .ok (.iload_n 1, 1) := by decide +kernel
theorem dX3_kindOf_16 : decode cX3_kindOf 16 = .ok (.iaload, 1) := by decide +kernel
theorem dX3_kindOf_17 : decode cX3_kindOf 17 = .ok (.ifCond .ne 5, 3) := by decide +kernel
theorem dX3_kindOf_20 : decode cX3_kindOf 20 = .ok (.iconst 4, 1) := by decide +kernel
theorem dX3_kindOf_21 : decode cX3_kindOf 21 = .ok (.ireturn, 1) := by decide +kernel
theorem dX3_kindOf_22 : decode cX3_kindOf 22 = .ok (.aload_n 0, 1) := by decide +kernel
theorem dX3_kindOf_23 : decode cX3_kindOf 23 = .ok (.getfield 9, 3) := by decide +kernel
theorem dX3_kindOf_26 : decode cX3_kindOf 26 = .ok (.iload_n 1, 1) := by decide +kernel
theorem dX3_kindOf_27 : decode cX3_kindOf 27 = .ok (.iaload, 1) := by decide +kernel
theorem dX3_kindOf_28 : decode cX3_kindOf 28 = .ok (.aload_n 0, 1) := by decide +kernel
theorem dX3_kindOf_29 : decode cX3_kindOf 29 = .ok (.getfield 15, 3) := by decide +kernel
theorem dX3_kindOf_32 : decode cX3_kindOf 32 = .ok (.iload_n 1, 1) := by decide +kernel
theorem dX3_kindOf_33 : decode cX3_kindOf 33 = .ok (.iaload, 1) := by decide +kernel
theorem dX3_kindOf_34 : decode cX3_kindOf 34 = .ok (.if_icmp .gt 7, 3) := by decide +kernel
theorem dX3_kindOf_37 : decode cX3_kindOf 37 = .ok (.iconst 1, 1) := by decide +kernel
theorem dX3_kindOf_38 : decode cX3_kindOf 38 = .ok (.goto 4, 3) := by decide +kernel
theorem dX3_kindOf_41 : decode cX3_kindOf 41 = .ok (.iconst 2, 1) := by decide +kernel
theorem dX3_kindOf_42 : decode cX3_kindOf 42 = .ok (.ireturn, 1) := by decide +kernel
theorem dX3_placeOf_0 : decode cX3_placeOf 0 = .ok (.iconst 0, 1) := by decide +kernel
theorem dX3_placeOf_1 : decode cX3_placeOf 1 = .ok (.istore_n 2, 1) := by decide +kernel
theorem dX3_placeOf_2 : decode cX3_placeOf 2 = .ok (.iload_n 2, 1) := by decide +kernel
theorem dX3_placeOf_3 : decode cX3_placeOf 3 = .ok (.aload_n 0, 1) := by decide +kernel
theorem dX3_placeOf_4 : decode cX3_placeOf 4 = .ok (.getfield 30, 3) := by decide +kernel
theorem dX3_placeOf_7 : decode cX3_placeOf 7 = .ok (.if_icmp .ge 21, 3) := by decide +kernel
theorem dX3_placeOf_10 : decode cX3_placeOf 10 = .ok (.aload_n 0, 1) := by decide +kernel
theorem dX3_placeOf_11 : decode cX3_placeOf 11 = .ok (.getfield 24, 3) := by decide +kernel
theorem dX3_placeOf_14 : decode cX3_placeOf 14 = .ok (.iload_n 2, 1) := by decide +kernel
theorem dX3_placeOf_15 : decode cX3_placeOf 15 = .ok (.iaload, 1) := by decide +kernel
theorem dX3_placeOf_16 : decode cX3_placeOf 16 = .ok (.iload_n 1, 1) := by decide +kernel
theorem dX3_placeOf_17 : decode cX3_placeOf 17 = .ok (.if_icmp .ne 5, 3) := by decide +kernel
theorem dX3_placeOf_20 : decode cX3_placeOf 20 = .ok (.iload_n 2, 1) := by decide +kernel
theorem dX3_placeOf_21 : decode cX3_placeOf 21 = .ok (.ireturn, 1) := by decide +kernel
theorem dX3_placeOf_22 : decode cX3_placeOf 22 = .ok (.iinc 2 1, 3) := by decide +kernel
theorem dX3_placeOf_25 : decode cX3_placeOf 25 = .ok (.goto (-23), 3) := by decide +kernel
theorem dX3_placeOf_28 : decode cX3_placeOf 28 = .ok (.iconst (-1), 1) := by decide +kernel
theorem dX3_placeOf_29 : decode cX3_placeOf 29 = .ok (.ireturn, 1) := by decide +kernel
theorem dX3_sum_0 : decode cX3_sum 0 = .ok (.iconst 0, 1) := by decide +kernel
theorem dX3_sum_1 : decode cX3_sum 1 = .ok (.istore_n 2, 1) := by decide +kernel
theorem dX3_sum_2 : decode cX3_sum 2 = .ok (.iconst 0, 1) := by decide +kernel
theorem dX3_sum_3 : decode cX3_sum 3 = .ok (.istore_n 3, 1) := by decide +kernel
theorem dX3_sum_4 : decode cX3_sum 4 = .ok (.iload_n 3, 1) := by decide +kernel
theorem dX3_sum_5 : decode cX3_sum 5 = .ok (.aload_n 0, 1) := by decide +kernel
theorem dX3_sum_6 : decode cX3_sum 6 = .ok (.getfield 30, 3) := by decide +kernel
theorem dX3_sum_9 : decode cX3_sum 9 = .ok (.if_icmp .ge 15, 3) := by decide +kernel
theorem dX3_sum_12 : decode cX3_sum 12 = .ok (.iload_n 2, 1) := by decide +kernel
theorem dX3_sum_13 : decode cX3_sum 13 = .ok (.aload_n 1, 1) := by decide +kernel
theorem dX3_sum_14 : decode cX3_sum 14 = .ok (.iload_n 3, 1) := by decide +kernel
theorem dX3_sum_15 : decode cX3_sum 15 = .ok (.iaload, 1) := by decide +kernel
theorem dX3_sum_16 : decode cX3_sum 16 = .ok (.iadd, 1) := by decide +kernel
theorem dX3_sum_17 : decode cX3_sum 17 = .ok (.istore_n 2, 1) := by decide +kernel
theorem dX3_sum_18 : decode cX3_sum 18 = .ok (.iinc 3 1, 3) := by decide +kernel
theorem dX3_sum_21 : decode cX3_sum 21 = .ok (.goto (-17), 3) := by decide +kernel
theorem dX3_sum_24 : decode cX3_sum 24 = .ok (.iload_n 2, 1) := by decide +kernel
theorem dX3_sum_25 : decode cX3_sum 25 = .ok (.ireturn, 1) := by decide +kernel
theorem dX3_leastOf_0 : decode cX3_leastOf 0 = .ok (.ldc 40, 2) := by decide +kernel
theorem dX3_leastOf_2 : decode cX3_leastOf 2 = .ok (.istore_n 2, 1) := by decide +kernel
theorem dX3_leastOf_3 : decode cX3_leastOf 3 = .ok (.iconst 0, 1) := by decide +kernel
theorem dX3_leastOf_4 : decode cX3_leastOf 4 = .ok (.istore_n 3, 1) := by decide +kernel
theorem dX3_leastOf_5 : decode cX3_leastOf 5 = .ok (.iload_n 3, 1) := by decide +kernel
theorem dX3_leastOf_6 : decode cX3_leastOf 6 = .ok (.aload_n 0, 1) := by decide +kernel
theorem dX3_leastOf_7 : decode cX3_leastOf 7 = .ok (.getfield 30, 3) := by decide +kernel
theorem dX3_leastOf_10 : decode cX3_leastOf 10 = .ok (.if_icmp .ge 17, 3) := by decide +kernel
theorem dX3_leastOf_13 : decode cX3_leastOf 13 = .ok (.iload_n 2, 1) := by decide +kernel
theorem dX3_leastOf_14 : decode cX3_leastOf 14 = .ok (.aload_n 1, 1) := by decide +kernel
theorem dX3_leastOf_15 : decode cX3_leastOf 15 = .ok (.iload_n 3, 1) := by decide +kernel
theorem dX3_leastOf_16 : decode cX3_leastOf 16 = .ok (.iaload, 1) := by decide +kernel
theorem dX3_leastOf_17 : decode cX3_leastOf 17 = .ok (.invokestatic 41, 3) := by decide +kernel
theorem dX3_leastOf_20 : decode cX3_leastOf 20 = .ok (.istore_n 2, 1) := by decide +kernel
theorem dX3_leastOf_21 : decode cX3_leastOf 21 = .ok (.iinc 3 1, 3) := by decide +kernel
theorem dX3_leastOf_24 : decode cX3_leastOf 24 = .ok (.goto (-19), 3) := by decide +kernel
theorem dX3_leastOf_27 : decode cX3_leastOf 27 = .ok (.iload_n 2, 1) := by decide +kernel
theorem dX3_leastOf_28 : decode cX3_leastOf 28 = .ok (.ireturn, 1) := by decide +kernel
theorem dX3_isOrder_0 : decode cX3_isOrder 0 = .ok (.iconst 0, 1) := by decide +kernel
theorem dX3_isOrder_1 : decode cX3_isOrder 1 = .ok (.istore_n 2, 1) := by decide +kernel
theorem dX3_isOrder_2 : decode cX3_isOrder 2 = .ok (.iload_n 2, 1) := by decide +kernel
theorem dX3_isOrder_3 : decode cX3_isOrder 3 = .ok (.aload_n 0, 1) := by decide +kernel
theorem dX3_isOrder_4 : decode cX3_isOrder 4 = .ok (.getfield 30, 3) := by decide +kernel
theorem dX3_isOrder_7 : decode cX3_isOrder 7 = .ok (.if_icmp .ge 23, 3) := by decide +kernel
theorem dX3_isOrder_10 : decode cX3_isOrder 10 = .ok (.aload_n 1, 1) := by decide +kernel
theorem dX3_isOrder_11 : decode cX3_isOrder 11 = .ok (.iload_n 2, 1) := by decide +kernel
theorem dX3_isOrder_12 : decode cX3_isOrder 12 = .ok (.iaload, 1) := by decide +kernel
theorem dX3_isOrder_13 : decode cX3_isOrder 13 = .ok (.aload_n 0, 1) := by decide +kernel
theorem dX3_isOrder_14 : decode cX3_isOrder 14 = .ok (.getfield 24, 3) := by decide +kernel
theorem dX3_isOrder_17 : decode cX3_isOrder 17 = .ok (.iload_n 2, 1) := by decide +kernel
theorem dX3_isOrder_18 : decode cX3_isOrder 18 = .ok (.iaload, 1) := by decide +kernel
theorem dX3_isOrder_19 : decode cX3_isOrder 19 = .ok (.if_icmp .eq 5, 3) := by decide +kernel
theorem dX3_isOrder_22 : decode cX3_isOrder 22 = .ok (.iconst 0, 1) := by decide +kernel
theorem dX3_isOrder_23 : decode cX3_isOrder 23 = .ok (.ireturn, 1) := by decide +kernel
theorem dX3_isOrder_24 : decode cX3_isOrder 24 = .ok (.iinc 2 1, 3) := by decide +kernel
theorem dX3_isOrder_27 : decode cX3_isOrder 27 = .ok (.goto (-25), 3) := by decide +kernel
theorem dX3_isOrder_30 : decode cX3_isOrder 30 = .ok (.iconst 1, 1) := by decide +kernel
theorem dX3_isOrder_31 : decode cX3_isOrder 31 = .ok (.ireturn, 1) := by decide +kernel
theorem dX3_byRule_0 : decode cX3_byRule 0 = .ok (.iconst 0, 1) := by decide +kernel
theorem dX3_byRule_1 : decode cX3_byRule 1 = .ok (.istore_n 2, 1) := by decide +kernel
theorem dX3_byRule_2 : decode cX3_byRule 2 = .ok (.iload_n 2, 1) := by decide +kernel
theorem dX3_byRule_3 : decode cX3_byRule 3 = .ok (.aload_n 0, 1) := by decide +kernel
theorem dX3_byRule_4 : decode cX3_byRule 4 = .ok (.getfield 30, 3) := by decide +kernel
theorem dX3_byRule_7 : decode cX3_byRule 7 = .ok (.if_icmp .ge 48, 3) := by decide +kernel
theorem dX3_byRule_10 : decode cX3_byRule 10 = .ok (.aload_n 0, 1) := by decide +kernel
theorem dX3_byRule_11 : decode cX3_byRule 11 = .ok (.getfield 27, 3) := by decide +kernel
theorem dX3_byRule_14 : decode cX3_byRule 14 = .ok (.iload_n 2, 1) := by decide +kernel
theorem dX3_byRule_15 : decode cX3_byRule 15 = .ok (.aload_n 0, 1) := by decide +kernel
theorem dX3_byRule_16 : decode cX3_byRule 16 = .ok (.getfield 9, 3) := by decide +kernel
theorem dX3_byRule_19 : decode cX3_byRule 19 = .ok (.iload_n 2, 1) := by decide +kernel
theorem dX3_byRule_20 : decode cX3_byRule 20 = .ok (.iaload, 1) := by decide +kernel
theorem dX3_byRule_21 : decode cX3_byRule 21 = .ok (.aload_n 0, 1) := by decide +kernel
theorem dX3_byRule_22 : decode cX3_byRule 22 = .ok (.getfield 15, 3) := by decide +kernel
theorem dX3_byRule_25 : decode cX3_byRule 25 = .ok (.iload_n 2, 1) := by decide +kernel
theorem dX3_byRule_26 : decode cX3_byRule 26 = .ok (.iaload, 1) := by decide +kernel
theorem dX3_byRule_27 : decode cX3_byRule 27 = .ok (.if_icmp .gt 12, 3) := by decide +kernel
theorem dX3_byRule_30 : decode cX3_byRule 30 = .ok (.aload_n 0, 1) := by decide +kernel
theorem dX3_byRule_31 : decode cX3_byRule 31 = .ok (.getfield 9, 3) := by decide +kernel
theorem dX3_byRule_34 : decode cX3_byRule 34 = .ok (.iload_n 2, 1) := by decide +kernel
theorem dX3_byRule_35 : decode cX3_byRule 35 = .ok (.iaload, 1) := by decide +kernel
theorem dX3_byRule_36 : decode cX3_byRule 36 = .ok (.goto 12, 3) := by decide +kernel
theorem dX3_byRule_39 : decode cX3_byRule 39 = .ok (.ldc 47, 2) := by decide +kernel
theorem dX3_byRule_41 : decode cX3_byRule 41 = .ok (.aload_n 0, 1) := by decide +kernel
theorem dX3_byRule_42 : decode cX3_byRule 42 = .ok (.getfield 15, 3) := by decide +kernel
theorem dX3_byRule_45 : decode cX3_byRule 45 = .ok (.iload_n 2, 1) := by decide +kernel
theorem dX3_byRule_46 : decode cX3_byRule 46 = .ok (.iaload, 1) := by decide +kernel
theorem dX3_byRule_47 : decode cX3_byRule 47 = .ok (.isub, 1) := by decide +kernel
theorem dX3_byRule_48 : decode cX3_byRule 48 = .ok (.iastore, 1) := by decide +kernel
theorem dX3_byRule_49 : decode cX3_byRule 49 = .ok (.iinc 2 1, 3) := by decide +kernel
theorem dX3_byRule_52 : decode cX3_byRule 52 = .ok (.goto (-50), 3) := by decide +kernel
theorem dX3_byRule_55 : decode cX3_byRule 55 = .ok (.aload_n 0, 1) := by decide +kernel
theorem dX3_byRule_56 : decode cX3_byRule 56 = .ok (.getfield 27, 3) := by decide +kernel
theorem dX3_byRule_59 : decode cX3_byRule 59 = .ok (.aload_n 0, 1) := by decide +kernel
theorem dX3_byRule_60 : decode cX3_byRule 60 = .ok (.getfield 30, 3) := by decide +kernel
theorem dX3_byRule_63 : decode cX3_byRule 63 = .ok (.aload_n 1, 1) := by decide +kernel
theorem dX3_byRule_64 : decode cX3_byRule 64 = .ok (.invokestatic 48, 3) := by decide +kernel
theorem dX3_byRule_67 : decode cX3_byRule 67 = .ok (.return_, 1) := by decide +kernel
theorem dX3_turnAbout_0 : decode cX3_turnAbout 0 = .ok (.iconst 0, 1) := by decide +kernel
theorem dX3_turnAbout_1 : decode cX3_turnAbout 1 = .ok (.istore_n 1, 1) := by decide +kernel
theorem dX3_turnAbout_2 : decode cX3_turnAbout 2 = .ok (.iload_n 1, 1) := by decide +kernel
theorem dX3_turnAbout_3 : decode cX3_turnAbout 3 = .ok (.aload_n 0, 1) := by decide +kernel
theorem dX3_turnAbout_4 : decode cX3_turnAbout 4 = .ok (.getfield 30, 3) := by decide +kernel
theorem dX3_turnAbout_7 : decode cX3_turnAbout 7 = .ok (.if_icmp .ge 61, 3) := by decide +kernel
theorem dX3_turnAbout_10 : decode cX3_turnAbout 10 = .ok (.aload_n 0, 1) := by decide +kernel
theorem dX3_turnAbout_11 : decode cX3_turnAbout 11 = .ok (.getfield 9, 3) := by decide +kernel
theorem dX3_turnAbout_14 : decode cX3_turnAbout 14 = .ok (.iload_n 1, 1) := by decide +kernel
theorem dX3_turnAbout_15 : decode cX3_turnAbout 15 = .ok (.iaload, 1) := by decide +kernel
theorem dX3_turnAbout_16 : decode cX3_turnAbout 16 = .ok (.istore_n 2, 1) := by decide +kernel
theorem dX3_turnAbout_17 : decode cX3_turnAbout 17 = .ok (.aload_n 0, 1) := by decide +kernel
theorem dX3_turnAbout_18 : decode cX3_turnAbout 18 = .ok (.getfield 9, 3) := by decide +kernel
theorem dX3_turnAbout_21 : decode cX3_turnAbout 21 = .ok (.iload_n 1, 1) := by decide +kernel
theorem dX3_turnAbout_22 : decode cX3_turnAbout 22 = .ok (.aload_n 0, 1) := by decide +kernel
theorem dX3_turnAbout_23 : decode cX3_turnAbout 23 = .ok (.getfield 15, 3) := by decide +kernel
theorem dX3_turnAbout_26 : decode cX3_turnAbout 26 = .ok (.iload_n 1, 1) := by decide +kernel
theorem dX3_turnAbout_27 : decode cX3_turnAbout 27 = .ok (.iaload, 1) := by decide +kernel
theorem dX3_turnAbout_28 : decode cX3_turnAbout 28 = .ok (.iastore, 1) := by decide +kernel
theorem dX3_turnAbout_29 : decode cX3_turnAbout 29 = .ok (.aload_n 0, 1) := by decide +kernel
theorem dX3_turnAbout_30 : decode cX3_turnAbout 30 = .ok (.getfield 15, 3) := by decide +kernel
theorem dX3_turnAbout_33 : decode cX3_turnAbout 33 = .ok (.iload_n 1, 1) := by decide +kernel
theorem dX3_turnAbout_34 : decode cX3_turnAbout 34 = .ok (.iload_n 2, 1) := by decide +kernel
theorem dX3_turnAbout_35 : decode cX3_turnAbout 35 = .ok (.iastore, 1) := by decide +kernel
theorem dX3_turnAbout_36 : decode cX3_turnAbout 36 = .ok (.aload_n 0, 1) := by decide +kernel
theorem dX3_turnAbout_37 : decode cX3_turnAbout 37 = .ok (.getfield 18, 3) := by decide +kernel
theorem dX3_turnAbout_40 : decode cX3_turnAbout 40 = .ok (.iload_n 1, 1) := by decide +kernel
theorem dX3_turnAbout_41 : decode cX3_turnAbout 41 = .ok (.iaload, 1) := by decide +kernel
theorem dX3_turnAbout_42 : decode cX3_turnAbout 42 = .ok (.istore_n 3, 1) := by decide +kernel
theorem dX3_turnAbout_43 : decode cX3_turnAbout 43 = .ok (.aload_n 0, 1) := by decide +kernel
theorem dX3_turnAbout_44 : decode cX3_turnAbout 44 = .ok (.getfield 18, 3) := by decide +kernel
theorem dX3_turnAbout_47 : decode cX3_turnAbout 47 = .ok (.iload_n 1, 1) := by decide +kernel
theorem dX3_turnAbout_48 : decode cX3_turnAbout 48 = .ok (.aload_n 0, 1) := by decide +kernel
theorem dX3_turnAbout_49 : decode cX3_turnAbout 49 = .ok (.getfield 21, 3) := by decide +kernel
theorem dX3_turnAbout_52 : decode cX3_turnAbout 52 = .ok (.iload_n 1, 1) := by decide +kernel
theorem dX3_turnAbout_53 : decode cX3_turnAbout 53 = .ok (.iaload, 1) := by decide +kernel
theorem dX3_turnAbout_54 : decode cX3_turnAbout 54 = .ok (.iastore, 1) := by decide +kernel
theorem dX3_turnAbout_55 : decode cX3_turnAbout 55 = .ok (.aload_n 0, 1) := by decide +kernel
theorem dX3_turnAbout_56 : decode cX3_turnAbout 56 = .ok (.getfield 21, 3) := by decide +kernel
theorem dX3_turnAbout_59 : decode cX3_turnAbout 59 = .ok (.iload_n 1, 1) := by decide +kernel
theorem dX3_turnAbout_60 : decode cX3_turnAbout 60 = .ok (.iload_n 3, 1) := by decide +kernel
theorem dX3_turnAbout_61 : decode cX3_turnAbout 61 = .ok (.iastore, 1) := by decide +kernel
theorem dX3_turnAbout_62 : decode cX3_turnAbout 62 = .ok (.iinc 1 1, 3) := by decide +kernel
theorem dX3_turnAbout_65 : decode cX3_turnAbout 65 = .ok (.goto (-63), 3) := by decide +kernel
theorem dX3_turnAbout_68 : decode cX3_turnAbout 68 = .ok (.iconst 0, 1) := by decide +kernel
theorem dX3_turnAbout_69 : decode cX3_turnAbout 69 = .ok (.istore_n 1, 1) := by decide +kernel
theorem dX3_turnAbout_70 : decode cX3_turnAbout 70 = .ok (.iload_n 1, 1) := by decide +kernel
theorem dX3_turnAbout_71 : decode cX3_turnAbout 71 = .ok (.aload_n 0, 1) := by decide +kernel
theorem dX3_turnAbout_72 : decode cX3_turnAbout 72 = .ok (.getfield 30, 3) := by decide +kernel
theorem dX3_turnAbout_75 : decode cX3_turnAbout 75 = .ok (.iconst 1, 1) := by decide +kernel
theorem dX3_turnAbout_76 : decode cX3_turnAbout 76 = .ok (.isub, 1) := by decide +kernel
theorem dX3_turnAbout_77 : decode cX3_turnAbout 77 = .ok (.iload_n 1, 1) := by decide +kernel
theorem dX3_turnAbout_78 : decode cX3_turnAbout 78 = .ok (.isub, 1) := by decide +kernel
theorem dX3_turnAbout_79 : decode cX3_turnAbout 79 = .ok (.if_icmp .ge 25, 3) := by decide +kernel
theorem dX3_turnAbout_82 : decode cX3_turnAbout 82 = .ok (.aload_n 0, 1) := by decide +kernel
theorem dX3_turnAbout_83 : decode cX3_turnAbout 83 = .ok (.getfield 24, 3) := by decide +kernel
theorem dX3_turnAbout_86 : decode cX3_turnAbout 86 = .ok (.iload_n 1, 1) := by decide +kernel
theorem dX3_turnAbout_87 : decode cX3_turnAbout 87 = .ok (.aload_n 0, 1) := by decide +kernel
theorem dX3_turnAbout_88 : decode cX3_turnAbout 88 = .ok (.getfield 30, 3) := by decide +kernel
theorem dX3_turnAbout_91 : decode cX3_turnAbout 91 = .ok (.iconst 1, 1) := by decide +kernel
theorem dX3_turnAbout_92 : decode cX3_turnAbout 92 = .ok (.isub, 1) := by decide +kernel
theorem dX3_turnAbout_93 : decode cX3_turnAbout 93 = .ok (.iload_n 1, 1) := by decide +kernel
theorem dX3_turnAbout_94 : decode cX3_turnAbout 94 = .ok (.isub, 1) := by decide +kernel
theorem dX3_turnAbout_95 : decode cX3_turnAbout 95 = .ok (.invokestatic 52, 3) := by decide +kernel
theorem dX3_turnAbout_98 : decode cX3_turnAbout 98 = .ok (.iinc 1 1, 3) := by decide +kernel
theorem dX3_turnAbout_101 : decode cX3_turnAbout 101 = .ok (.goto (-31), 3) := by decide +kernel
theorem dX3_turnAbout_104 : decode cX3_turnAbout 104 = .ok (.return_, 1) := by decide +kernel
theorem dX4_init_0 : decode cX4_init 0 = .ok (.aload_n 0, 1) := by decide +kernel
theorem dX4_init_1 : decode cX4_init 1 = .ok (.invokespecial 3, 3) := by decide +kernel
theorem dX4_init_4 : decode cX4_init 4 = .ok (.aload_n 0, 1) := by decide +kernel
theorem dX4_init_5 : decode cX4_init 5 = .ok (.bipush 8, 2) := by decide +kernel
theorem dX4_init_7 : decode cX4_init 7 = .ok (.newarray .int, 2) := by decide +kernel
theorem dX4_init_9 : decode cX4_init 9 = .ok (.putfield 9, 3) := by decide +kernel
theorem dX4_init_12 : decode cX4_init 12 = .ok (.aload_n 0, 1) := by decide +kernel
theorem dX4_init_13 : decode cX4_init 13 = .ok (.bipush 8, 2) := by decide +kernel
theorem dX4_init_15 : decode cX4_init 15 = .ok (.newarray .int, 2) := by decide +kernel
theorem dX4_init_17 : decode cX4_init 17 = .ok (.putfield 15, 3) := by decide +kernel
theorem dX4_init_20 : decode cX4_init 20 = .ok (.aload_n 0, 1) := by decide +kernel
theorem dX4_init_21 : decode cX4_init 21 = .ok (.getfield 9, 3) := by decide +kernel
theorem dX4_init_24 : decode cX4_init 24 = .ok (.iload_n 1, 1) := by decide +kernel
theorem dX4_init_25 : decode cX4_init 25 = .ok (.invokestatic 18, 3) := by decide +kernel
theorem dX4_init_28 : decode cX4_init 28 = .ok (.return_, 1) := by decide +kernel
theorem dX4_hasLossyStretch_0 : decode cX4_hasLossyStretch 0 = .ok (.iconst 0, 1) := by decide +kernel
theorem dX4_hasLossyStretch_1 : decode cX4_hasLossyStretch 1 = .ok (.istore_n 1, 1) := by decide +kernel
theorem dX4_hasLossyStretch_2 : decode cX4_hasLossyStretch 2 = .ok (.iload_n 1, 1) := by decide +kernel
theorem dX4_hasLossyStretch_3 : decode cX4_hasLossyStretch 3 = .ok (.bipush 8, 2) := by decide +kernel
theorem dX4_hasLossyStretch_5 : decode cX4_hasLossyStretch 5 = .ok (.if_icmp .ge 27, 3) := by decide +kernel
theorem dX4_hasLossyStretch_8 : decode cX4_hasLossyStretch 8 = .ok (.aload_n 0, 1) := by decide +kernel
theorem dX4_hasLossyStretch_9 : decode cX4_hasLossyStretch 9 = .ok (.getfield 9, 3) := by decide +kernel
theorem dX4_hasLossyStretch_12 : decode cX4_hasLossyStretch 12 = .ok (.iload_n 1, 1) := by decide +kernel
theorem dX4_hasLossyStretch_13 : decode cX4_hasLossyStretch 13 = .ok (.iaload, 1) := by decide +kernel
theorem dX4_hasLossyStretch_14 : decode cX4_hasLossyStretch 14 = .ok (.aload_n 0, 1) := by decide +kernel
theorem dX4_hasLossyStretch_15 : decode cX4_hasLossyStretch 15 = .ok (.getfield 15, 3) := by decide +kernel
theorem dX4_hasLossyStretch_18 : decode cX4_hasLossyStretch 18 = .ok (.iload_n 1, 1) := by decide +kernel
theorem dX4_hasLossyStretch_19 : decode cX4_hasLossyStretch 19 = .ok (.iaload, 1) := by decide +kernel
theorem dX4_hasLossyStretch_20 : decode cX4_hasLossyStretch 20 = .ok (.iadd, 1) := by decide +kernel
theorem dX4_hasLossyStretch_21 : decode cX4_hasLossyStretch 21 = .ok (.ifCond .ge 5, 3) := by decide +kernel
theorem dX4_hasLossyStretch_24 : decode cX4_hasLossyStretch 24 = .ok (.iconst 1, 1) := by decide +kernel
theorem dX4_hasLossyStretch_25 : decode cX4_hasLossyStretch 25 = .ok (.ireturn, 1) := by decide +kernel
theorem dX4_hasLossyStretch_26 : decode cX4_hasLossyStretch 26 = .ok (.iinc 1 1, 3) := by decide +kernel
theorem dX4_hasLossyStretch_29 : decode cX4_hasLossyStretch 29 = .ok (.goto (-27), 3) := by decide +kernel
theorem dX4_hasLossyStretch_32 : decode cX4_hasLossyStretch 32 = .ok (.iconst 0, 1) := by decide +kernel
theorem dX4_hasLossyStretch_33 : decode cX4_hasLossyStretch 33 = .ok (.ireturn, 1) := by decide +kernel
theorem dX4_going_0 : decode cX4_going 0 = .ok (.iload_n 1, 1) := by decide +kernel
theorem dX4_going_1 : decode cX4_going 1 = .ok (.iload_n 2, 1) := by decide +kernel
theorem dX4_going_2 : decode cX4_going 2 = .ok (.if_icmp .ge 23, 3) := by decide +kernel
theorem dX4_going_5 : decode cX4_going 5 = .ok (.aload_n 0, 1) := by decide +kernel
theorem dX4_going_6 : decode cX4_going 6 = .ok (.getfield 9, 3) := by decide +kernel
theorem dX4_going_9 : decode cX4_going 9 = .ok (.iload_n 2, 1) := by decide +kernel
theorem dX4_going_10 : decode cX4_going 10 = .ok (.invokestatic 24, 3) := by decide +kernel
theorem dX4_going_13 : decode cX4_going 13 = .ok (.aload_n 0, 1) := by decide +kernel
theorem dX4_going_14 : decode cX4_going 14 = .ok (.getfield 9, 3) := by decide +kernel
theorem dX4_going_17 : decode cX4_going 17 = .ok (.iload_n 1, 1) := by decide +kernel
theorem dX4_going_18 : decode cX4_going 18 = .ok (.invokestatic 24, 3) := by decide +kernel
theorem dX4_going_21 : decode cX4_going 21 = .ok (.isub, 1) := by decide +kernel
theorem dX4_going_22 : decode cX4_going 22 = .ok (.goto 20, 3) := by decide +kernel
theorem dX4_going_25 : decode cX4_going 25 = .ok (.aload_n 0, 1) := by decide +kernel
theorem dX4_going_26 : decode cX4_going 26 = .ok (.getfield 15, 3) := by decide +kernel
theorem dX4_going_29 : decode cX4_going 29 = .ok (.iload_n 1, 1) := by decide +kernel
theorem dX4_going_30 : decode cX4_going 30 = .ok (.invokestatic 24, 3) := by decide +kernel
theorem dX4_going_33 : decode cX4_going 33 = .ok (.aload_n 0, 1) := by decide +kernel
theorem dX4_going_34 : decode cX4_going 34 = .ok (.getfield 15, 3) := by decide +kernel
theorem dX4_going_37 : decode cX4_going 37 = .ok (.iload_n 2, 1) := by decide +kernel
theorem dX4_going_38 : decode cX4_going 38 = .ok (.invokestatic 24, 3) := by decide +kernel
theorem dX4_going_41 : decode cX4_going 41 = .ok (.isub, 1) := by decide +kernel
theorem dX4_going_42 : decode cX4_going 42 = .ok (.ireturn, 1) := by decide +kernel
theorem dX4_below_0 : decode cX4_below 0 = .ok (.iconst 0, 1) := by decide +kernel
theorem dX4_below_1 : decode cX4_below 1 = .ok (.istore_n 2, 1) := by decide +kernel
theorem dX4_below_2 : decode cX4_below 2 = .ok (.iconst 0, 1) := by decide +kernel
theorem dX4_below_3 : decode cX4_below 3 = .ok (.istore_n 3, 1) := by decide +kernel
theorem dX4_below_4 : decode cX4_below 4 = .ok (.iload_n 3, 1) := by decide +kernel
theorem dX4_below_5 : decode cX4_below 5 = .ok (.bipush 8, 2) := by decide +kernel
theorem dX4_below_7 : decode cX4_below 7 = .ok (.if_icmp .ge 54, 3) := by decide +kernel
theorem dX4_below_10 : decode cX4_below 10 = .ok (.iload_n 3, 1) := by decide +kernel
theorem dX4_below_11 : decode cX4_below 11 = .ok (.bipush 50, 2) := by decide +kernel
theorem dX4_below_13 : decode cX4_below 13 = .ok (.imul, 1) := by decide +kernel
theorem dX4_below_14 : decode cX4_below 14 = .ok (.istore 4, 2) := by decide +kernel
theorem dX4_below_16 : decode cX4_below 16 = .ok (.iload_n 3, 1) := by decide +kernel
theorem dX4_below_17 : decode cX4_below 17 = .ok (.iconst 1, 1) := by decide +kernel
theorem dX4_below_18 : decode cX4_below 18 = .ok (.iadd, 1) := by decide +kernel
theorem dX4_below_19 : decode cX4_below 19 = .ok (.bipush 8, 2) := by decide +kernel
theorem dX4_below_21 : decode cX4_below 21 = .ok (.if_icmp .ge 15, 3) := by decide +kernel
theorem dX4_below_24 : decode cX4_below 24 = .ok (.iload_n 1, 1) := by decide +kernel
theorem dX4_below_25 : decode cX4_below 25 = .ok (.iload 4, 2) := by decide +kernel
theorem dX4_below_27 : decode cX4_below 27 = .ok (.bipush 50, 2) := by decide +kernel
theorem dX4_below_29 : decode cX4_below 29 = .ok (.iadd, 1) := by decide +kernel
theorem dX4_below_30 : decode cX4_below 30 = .ok (.invokestatic 28, 3) := by decide +kernel
theorem dX4_below_33 : decode cX4_below 33 = .ok (.goto 4, 3) := by decide +kernel
theorem dX4_below_36 : decode cX4_below 36 = .ok (.iload_n 1, 1) := by decide +kernel
theorem dX4_below_37 : decode cX4_below 37 = .ok (.istore 5, 2) := by decide +kernel
theorem dX4_below_39 : decode cX4_below 39 = .ok (.iload_n 2, 1) := by decide +kernel
theorem dX4_below_40 : decode cX4_below 40 = .ok (.aload_n 0, 1) := by decide +kernel
theorem dX4_below_41 : decode cX4_below 41 = .ok (.iload_n 3, 1) := by decide +kernel
theorem dX4_below_42 : decode cX4_below 42 = .ok (.iaload, 1) := by decide +kernel
theorem dX4_below_43 : decode cX4_below 43 = .ok (.iconst 0, 1) := by decide +kernel
theorem dX4_below_44 : decode cX4_below 44 = .ok (.iload 5, 2) := by decide +kernel
theorem dX4_below_46 : decode cX4_below 46 = .ok (.iload 4, 2) := by decide +kernel
theorem dX4_below_48 : decode cX4_below 48 = .ok (.isub, 1) := by decide +kernel
theorem dX4_below_49 : decode cX4_below 49 = .ok (.invokestatic 34, 3) := by decide +kernel
theorem dX4_below_52 : decode cX4_below 52 = .ok (.imul, 1) := by decide +kernel
theorem dX4_below_53 : decode cX4_below 53 = .ok (.iadd, 1) := by decide +kernel
theorem dX4_below_54 : decode cX4_below 54 = .ok (.istore_n 2, 1) := by decide +kernel
theorem dX4_below_55 : decode cX4_below 55 = .ok (.iinc 3 1, 3) := by decide +kernel
theorem dX4_below_58 : decode cX4_below 58 = .ok (.goto (-54), 3) := by decide +kernel
theorem dX4_below_61 : decode cX4_below 61 = .ok (.iload_n 2, 1) := by decide +kernel
theorem dX4_below_62 : decode cX4_below 62 = .ok (.ireturn, 1) := by decide +kernel
theorem dX5_init_0 : decode cX5_init 0 = .ok (.aload_n 0, 1) := by decide +kernel
theorem dX5_init_1 : decode cX5_init 1 = .ok (.invokespecial 3, 3) := by decide +kernel
theorem dX5_init_4 : decode cX5_init 4 = .ok (.aload_n 0, 1) := by decide +kernel
theorem dX5_init_5 : decode cX5_init 5 = .ok (.bipush 41, 2) := by decide +kernel
theorem dX5_init_7 : decode cX5_init 7 = .ok (.newarray .int, 2) := by decide +kernel
theorem dX5_init_9 : decode cX5_init 9 = .ok (.putfield 9, 3) := by decide +kernel
theorem dX5_init_12 : decode cX5_init 12 = .ok (.aload_n 0, 1) := by decide +kernel
theorem dX5_init_13 : decode cX5_init 13 = .ok (.bipush 41, 2) := by decide +kernel
theorem dX5_init_15 : decode cX5_init 15 = .ok (.newarray .int, 2) := by decide +kernel
theorem dX5_init_17 : decode cX5_init 17 = .ok (.putfield 15, 3) := by decide +kernel
theorem dX5_init_20 : decode cX5_init 20 = .ok (.aload_n 0, 1) := by decide +kernel
theorem dX5_init_21 : decode cX5_init 21 = .ok (.bipush 41, 2) := by decide +kernel
theorem dX5_init_23 : decode cX5_init 23 = .ok (.newarray .int, 2) := by decide +kernel
theorem dX5_init_25 : decode cX5_init 25 = .ok (.putfield 18, 3) := by decide +kernel
theorem dX5_init_28 : decode cX5_init 28 = .ok (.aload_n 0, 1) := by decide +kernel
theorem dX5_init_29 : decode cX5_init 29 = .ok (.bipush 41, 2) := by decide +kernel
theorem dX5_init_31 : decode cX5_init 31 = .ok (.newarray .int, 2) := by decide +kernel
theorem dX5_init_33 : decode cX5_init 33 = .ok (.putfield 21, 3) := by decide +kernel
theorem dX5_init_36 : decode cX5_init 36 = .ok (.aload_n 0, 1) := by decide +kernel
theorem dX5_init_37 : decode cX5_init 37 = .ok (.bipush 41, 2) := by decide +kernel
theorem dX5_init_39 : decode cX5_init 39 = .ok (.newarray .int, 2) := by decide +kernel
theorem dX5_init_41 : decode cX5_init 41 = .ok (.putfield 24, 3) := by decide +kernel
theorem dX5_init_44 : decode cX5_init 44 = .ok (.aload_n 0, 1) := by decide +kernel
theorem dX5_init_45 : decode cX5_init 45 = .ok (.bipush 41, 2) := by decide +kernel
theorem dX5_init_47 : decode cX5_init 47 = .ok (.newarray .int, 2) := by decide +kernel
theorem dX5_init_49 : decode cX5_init 49 = .ok (.putfield 27, 3) := by decide +kernel
theorem dX5_init_52 : decode cX5_init 52 = .ok (.aload_n 0, 1) := by decide +kernel
theorem dX5_init_53 : decode cX5_init 53 = .ok (.bipush 40, 2) := by decide +kernel
theorem dX5_init_55 : decode cX5_init 55 = .ok (.newarray .int, 2) := by decide +kernel
theorem dX5_init_57 : decode cX5_init 57 = .ok (.putfield 30, 3) := by decide +kernel
theorem dX5_init_60 : decode cX5_init 60 = .ok (.aload_n 0, 1) := by decide +kernel
theorem dX5_init_61 : decode cX5_init 61 = .ok (.bipush 40, 2) := by decide +kernel
theorem dX5_init_63 : decode cX5_init 63 = .ok (.newarray .int, 2) := by decide +kernel
theorem dX5_init_65 : decode cX5_init 65 = .ok (.putfield 33, 3) := by decide +kernel
theorem dX5_init_68 : decode cX5_init 68 = .ok (.aload_n 0, 1) := by decide +kernel
theorem dX5_init_69 : decode cX5_init 69 = .ok (.bipush 40, 2) := by decide +kernel
theorem dX5_init_71 : decode cX5_init 71 = .ok (.newarray .boolean, 2) := by decide +kernel
theorem dX5_init_73 : decode cX5_init 73 = .ok (.putfield 36, 3) := by decide +kernel
theorem dX5_init_76 : decode cX5_init 76 = .ok (.aload_n 0, 1) := by decide +kernel
theorem dX5_init_77 : decode cX5_init 77 = .ok (.iconst 0, 1) := by decide +kernel
theorem dX5_init_78 : decode cX5_init 78 = .ok (.putfield 40, 3) := by decide +kernel
theorem dX5_init_81 : decode cX5_init 81 = .ok (.aload_n 0, 1) := by decide +kernel
theorem dX5_init_82 : decode cX5_init 82 = .ok (.iconst 0, 1) := by decide +kernel
theorem dX5_init_83 : decode cX5_init 83 = .ok (.putfield 44, 3) := by decide +kernel
theorem dX5_init_86 : decode cX5_init 86 = .ok (.aload_n 0, 1) := by decide +kernel
theorem dX5_init_87 : decode cX5_init 87 = .ok (.iconst 0, 1) := by decide +kernel
theorem dX5_init_88 : decode cX5_init 88 = .ok (.putfield 48, 3) := by decide +kernel
theorem dX5_init_91 : decode cX5_init 91 = .ok (.aload_n 0, 1) := by decide +kernel
theorem dX5_init_92 : decode cX5_init 92 = .ok (.iconst 0, 1) := by decide +kernel
theorem dX5_init_93 : decode cX5_init 93 = .ok (.putfield 51, 3) := by decide +kernel
theorem dX5_init_96 : decode cX5_init 96 = .ok (.aload_n 0, 1) := by decide +kernel
theorem dX5_init_97 : decode cX5_init 97 = .ok (.iconst 0, 1) := by decide +kernel
theorem dX5_init_98 : decode cX5_init 98 = .ok (.putfield 54, 3) := by decide +kernel
theorem dX5_init_101 : decode cX5_init 101 = .ok (.aload_n 0, 1) := by decide +kernel
theorem dX5_init_102 : decode cX5_init 102 = .ok (.iconst 0, 1) := by decide +kernel
theorem dX5_init_103 : decode cX5_init 103 = .ok (.putfield 57, 3) := by decide +kernel
theorem dX5_init_106 : decode cX5_init 106 = .ok (.return_, 1) := by decide +kernel
theorem dX5_joinAll_0 : decode cX5_joinAll 0 = .ok (.aload_n 0, 1) := by decide +kernel
theorem dX5_joinAll_1 : decode cX5_joinAll 1 = .ok (.getfield 15, 3) := by decide +kernel
theorem dX5_joinAll_4 : decode cX5_joinAll 4 = .ok (.aload_n 0, 1) := by decide +kernel
theorem dX5_joinAll_5 : decode cX5_joinAll 5 = .ok (.getfield 40, 3) := by decide +kernel
theorem dX5_joinAll_8 : decode cX5_joinAll 8 = .ok (.aload_n 0, 1) := by decide +kernel
theorem dX5_joinAll_9 : decode cX5_joinAll 9 = .ok (.getfield 18, 3) := by decide +kernel
theorem dX5_joinAll_12 : decode cX5_joinAll 12 = .ok (.invokestatic 60, 3) := by decide +kernel
theorem dX5_joinAll_15 : decode cX5_joinAll 15 = .ok (.aload_n 0, 1) := by decide +kernel
theorem dX5_joinAll_16 : decode cX5_joinAll 16 = .ok (.getfield 9, 3) := by decide +kernel
theorem dX5_joinAll_19 : decode cX5_joinAll 19 = .ok (.aload_n 0, 1) := by decide +kernel
theorem dX5_joinAll_20 : decode cX5_joinAll 20 = .ok (.getfield 40, 3) := by decide +kernel
theorem dX5_joinAll_23 : decode cX5_joinAll 23 = .ok (.aload_n 0, 1) := by decide +kernel
theorem dX5_joinAll_24 : decode cX5_joinAll 24 = .ok (.getfield 21, 3) := by decide +kernel
theorem dX5_joinAll_27 : decode cX5_joinAll 27 = .ok (.invokestatic 60, 3) := by decide +kernel
theorem dX5_joinAll_30 : decode cX5_joinAll 30 = .ok (.iconst 0, 1) := by decide +kernel
theorem dX5_joinAll_31 : decode cX5_joinAll 31 = .ok (.istore_n 2, 1) := by decide +kernel
theorem dX5_joinAll_32 : decode cX5_joinAll 32 = .ok (.iload_n 2, 1) := by decide +kernel
theorem dX5_joinAll_33 : decode cX5_joinAll 33 = .ok (.aload_n 0, 1) := by decide +kernel
theorem dX5_joinAll_34 : decode cX5_joinAll 34 = .ok (.getfield 40, 3) := by decide +kernel
theorem dX5_joinAll_37 : decode cX5_joinAll 37 = .ok (.if_icmp .ge 26, 3) := by decide +kernel
theorem dX5_joinAll_40 : decode cX5_joinAll 40 = .ok (.aload_n 0, 1) := by decide +kernel
theorem dX5_joinAll_41 : decode cX5_joinAll 41 = .ok (.getfield 24, 3) := by decide +kernel
theorem dX5_joinAll_44 : decode cX5_joinAll 44 = .ok (.aload_n 0, 1) := by decide +kernel
theorem dX5_joinAll_45 : decode cX5_joinAll 45 = .ok (.getfield 18, 3) := by decide +kernel
theorem dX5_joinAll_48 : decode cX5_joinAll 48 = .ok (.iload_n 2, 1) := by decide +kernel
theorem dX5_joinAll_49 : decode cX5_joinAll 49 = .ok (.iaload, 1) := by decide +kernel
theorem dX5_joinAll_50 : decode cX5_joinAll 50 = .ok (.aload_n 0, 1) := by decide +kernel
theorem dX5_joinAll_51 : decode cX5_joinAll 51 = .ok (.getfield 21, 3) := by decide +kernel
theorem dX5_joinAll_54 : decode cX5_joinAll 54 = .ok (.iload_n 2, 1) := by decide +kernel
theorem dX5_joinAll_55 : decode cX5_joinAll 55 = .ok (.iaload, 1) := by decide +kernel
theorem dX5_joinAll_56 : decode cX5_joinAll 56 = .ok (.iastore, 1) := by decide +kernel
theorem dX5_joinAll_57 : decode cX5_joinAll 57 = .ok (.iinc 2 1, 3) := by decide +kernel
theorem dX5_joinAll_60 : decode cX5_joinAll 60 = .ok (.goto (-28), 3) := by decide +kernel
theorem dX5_joinAll_63 : decode cX5_joinAll 63 = .ok (.aload_n 0, 1) := by decide +kernel
theorem dX5_joinAll_64 : decode cX5_joinAll 64 = .ok (.iconst 1, 1) := by decide +kernel
theorem dX5_joinAll_65 : decode cX5_joinAll 65 = .ok (.putfield 44, 3) := by decide +kernel
theorem dX5_joinAll_68 : decode cX5_joinAll 68 = .ok (.aload_n 0, 1) := by decide +kernel
theorem dX5_joinAll_69 : decode cX5_joinAll 69 = .ok (.aload_n 0, 1) := by decide +kernel
theorem dX5_joinAll_70 : decode cX5_joinAll 70 = .ok (.aload_n 1, 1) := by decide +kernel
theorem dX5_joinAll_71 : decode cX5_joinAll 71 = .ok (.invokevirtual 64, 3) := by decide +kernel
theorem dX5_joinAll_74 : decode cX5_joinAll 74 = .ok (.putfield 51, 3) := by decide +kernel
theorem dX5_joinAll_77 : decode cX5_joinAll 77 = .ok (.aload_n 0, 1) := by decide +kernel
theorem dX5_joinAll_78 : decode cX5_joinAll 78 = .ok (.invokevirtual 68, 3) := by decide +kernel
theorem dX5_joinAll_81 : decode cX5_joinAll 81 = .ok (.iconst 0, 1) := by decide +kernel
theorem dX5_joinAll_82 : decode cX5_joinAll 82 = .ok (.istore_n 2, 1) := by decide +kernel
theorem dX5_joinAll_83 : decode cX5_joinAll 83 = .ok (.iload_n 2, 1) := by decide +kernel
theorem dX5_joinAll_84 : decode cX5_joinAll 84 = .ok (.iconst 1, 1) := by decide +kernel
theorem dX5_joinAll_85 : decode cX5_joinAll 85 = .ok (.iadd, 1) := by decide +kernel
theorem dX5_joinAll_86 : decode cX5_joinAll 86 = .ok (.aload_n 0, 1) := by decide +kernel
theorem dX5_joinAll_87 : decode cX5_joinAll 87 = .ok (.getfield 40, 3) := by decide +kernel
theorem dX5_joinAll_90 : decode cX5_joinAll 90 = .ok (.if_icmp .ge 21, 3) := by decide +kernel
theorem dX5_joinAll_93 : decode cX5_joinAll 93 = .ok (.aload_n 0, 1) := by decide +kernel
theorem dX5_joinAll_94 : decode cX5_joinAll 94 = .ok (.getfield 30, 3) := by decide +kernel
theorem dX5_joinAll_97 : decode cX5_joinAll 97 = .ok (.iload_n 2, 1) := by decide +kernel
theorem dX5_joinAll_98 : decode cX5_joinAll 98 = .ok (.aload_n 0, 1) := by decide +kernel
theorem dX5_joinAll_99 : decode cX5_joinAll 99 = .ok (.iload_n 2, 1) := by decide +kernel
theorem dX5_joinAll_100 : decode cX5_joinAll 100 = .ok (.aload_n 1, 1) := by decide +kernel
theorem dX5_joinAll_101 : decode cX5_joinAll 101 = .ok (.invokevirtual 71, 3) := by decide +kernel
theorem dX5_joinAll_104 : decode cX5_joinAll 104 = .ok (.iastore, 1) := by decide +kernel
theorem dX5_joinAll_105 : decode cX5_joinAll 105 = .ok (.iinc 2 1, 3) := by decide +kernel
theorem dX5_joinAll_108 : decode cX5_joinAll 108 = .ok (.goto (-25), 3) := by decide +kernel
theorem dX5_joinAll_111 : decode cX5_joinAll 111 = .ok (.aload_n 0, 1) := by decide +kernel
theorem dX5_joinAll_112 : decode cX5_joinAll 112 = .ok (.getfield 30, 3) := by decide +kernel
theorem dX5_joinAll_115 : decode cX5_joinAll 115 = .ok (.aload_n 0, 1) := by decide +kernel
theorem dX5_joinAll_116 : decode cX5_joinAll 116 = .ok (.getfield 40, 3) := by decide +kernel
theorem dX5_joinAll_119 : decode cX5_joinAll 119 = .ok (.iconst 1, 1) := by decide +kernel
theorem dX5_joinAll_120 : decode cX5_joinAll 120 = .ok (.isub, 1) := by decide +kernel
theorem dX5_joinAll_121 : decode cX5_joinAll 121 = .ok (.aload_n 0, 1) := by decide +kernel
theorem dX5_joinAll_122 : decode cX5_joinAll 122 = .ok (.getfield 33, 3) := by decide +kernel
theorem dX5_joinAll_125 : decode cX5_joinAll 125 = .ok (.invokestatic 60, 3) := by decide +kernel
theorem dX5_joinAll_128 : decode cX5_joinAll 128 = .ok (.aload_n 0, 1) := by decide +kernel
theorem dX5_joinAll_129 : decode cX5_joinAll 129 = .ok (.invokevirtual 75, 3) := by decide +kernel
theorem dX5_joinAll_132 : decode cX5_joinAll 132 = .ok (.aload_n 0, 1) := by decide +kernel
theorem dX5_joinAll_133 : decode cX5_joinAll 133 = .ok (.invokevirtual 78, 3) := by decide +kernel
theorem dX5_joinAll_136 : decode cX5_joinAll 136 = .ok (.aload_n 0, 1) := by decide +kernel
theorem dX5_joinAll_137 : decode cX5_joinAll 137 = .ok (.aload_n 1, 1) := by decide +kernel
theorem dX5_joinAll_138 : decode cX5_joinAll 138 = .ok (.invokevirtual 64, 3) := by decide +kernel
theorem dX5_joinAll_141 : decode cX5_joinAll 141 = .ok (.ireturn, 1) := by decide +kernel
theorem dX5_rowFrom_0 : decode cX5_rowFrom 0 = .ok (.iload_n 1, 1) := by decide +kernel
theorem dX5_rowFrom_1 : decode cX5_rowFrom 1 = .ok (.istore 4, 2) := by decide +kernel
theorem dX5_rowFrom_3 : decode cX5_rowFrom 3 = .ok (.iconst 0, 1) := by decide +kernel
theorem dX5_rowFrom_4 : decode cX5_rowFrom 4 = .ok (.istore 5, 2) := by decide +kernel
theorem dX5_rowFrom_6 : decode cX5_rowFrom 6 = .ok (.iload 5, 2) := by decide +kernel
theorem dX5_rowFrom_8 : decode cX5_rowFrom 8 = .ok (.iload_n 3, 1) := by decide +kernel
theorem dX5_rowFrom_9 : decode cX5_rowFrom 9 = .ok (.if_icmp .ge 24, 3) := by decide +kernel
theorem dX5_rowFrom_12 : decode cX5_rowFrom 12 = .ok (.aload_n 2, 1) := by decide +kernel
theorem dX5_rowFrom_13 : decode cX5_rowFrom 13 = .ok (.iload 5, 2) := by decide +kernel
theorem dX5_rowFrom_15 : decode cX5_rowFrom 15 = .ok (.iload 4, 2) := by decide +kernel
theorem dX5_rowFrom_17 : decode cX5_rowFrom 17 = .ok (.iastore, 1) := by decide +kernel
theorem dX5_rowFrom_18 : decode cX5_rowFrom 18 = .ok (.aload_n 0, 1) := by decide +kernel
theorem dX5_rowFrom_19 : decode cX5_rowFrom 19 = .ok (.getfield 24, 3) := by decide +kernel
theorem dX5_rowFrom_22 : decode cX5_rowFrom 22 = .ok (.iload 4, 2) := by decide +kernel
theorem dX5_rowFrom_24 : decode cX5_rowFrom 24 = .ok (.iaload, 1) := by decide +kernel
theorem dX5_rowFrom_25 : decode cX5_rowFrom 25 = .ok (.istore 4, 2) := by decide +kernel
theorem dX5_rowFrom_27 : decode cX5_rowFrom 27 = .ok (.iinc 5 1, 3) := by decide +kernel
theorem dX5_rowFrom_30 : decode cX5_rowFrom 30 = .ok (.goto (-24), 3) := by decide +kernel
theorem dX5_rowFrom_33 : decode cX5_rowFrom 33 = .ok (.return_, 1) := by decide +kernel
theorem dX5_costOfAll_0 : decode cX5_costOfAll 0 = .ok (.iconst 0, 1) := by decide +kernel
theorem dX5_costOfAll_1 : decode cX5_costOfAll 1 = .ok (.istore_n 2, 1) := by decide +kernel
theorem dX5_costOfAll_2 : decode cX5_costOfAll 2 = .ok (.iconst 0, 1) := by decide +kernel
theorem dX5_costOfAll_3 : decode cX5_costOfAll 3 = .ok (.istore_n 3, 1) := by decide +kernel
theorem dX5_costOfAll_4 : decode cX5_costOfAll 4 = .ok (.iload_n 3, 1) := by decide +kernel
theorem dX5_costOfAll_5 : decode cX5_costOfAll 5 = .ok (.aload_n 0, 1) := by decide +kernel
theorem dX5_costOfAll_6 : decode cX5_costOfAll 6 = .ok (.getfield 40, 3) := by decide +kernel
theorem dX5_costOfAll_9 : decode cX5_costOfAll 9 = .ok (.if_icmp .ge 33, 3) := by decide +kernel
theorem dX5_costOfAll_12 : decode cX5_costOfAll 12 = .ok (.iload_n 2, 1) := by decide +kernel
theorem dX5_costOfAll_13 : decode cX5_costOfAll 13 = .ok (.aload_n 1, 1) := by decide +kernel
theorem dX5_costOfAll_14 : decode cX5_costOfAll 14 = .ok (.aload_n 0, 1) := by decide +kernel
theorem dX5_costOfAll_15 : decode cX5_costOfAll 15 = .ok (.getfield 15, 3) := by decide +kernel
theorem dX5_costOfAll_18 : decode cX5_costOfAll 18 = .ok (.iload_n 3, 1) := by decide +kernel
theorem dX5_costOfAll_19 : decode cX5_costOfAll 19 = .ok (.iaload, 1) := by decide +kernel
theorem dX5_costOfAll_20 : decode cX5_costOfAll 20 = .ok (.aload_n 0, 1) := by decide +kernel
theorem dX5_costOfAll_21 : decode cX5_costOfAll 21 = .ok (.getfield 9, 3) := by decide +kernel
theorem dX5_costOfAll_24 : decode cX5_costOfAll 24 = .ok (.aload_n 0, 1) := by decide +kernel
theorem dX5_costOfAll_25 : decode cX5_costOfAll 25 = .ok (.getfield 24, 3) := by decide +kernel
theorem dX5_costOfAll_28 : decode cX5_costOfAll 28 = .ok (.iload_n 3, 1) := by decide +kernel
theorem dX5_costOfAll_29 : decode cX5_costOfAll 29 = .ok (.iaload, 1) := by decide +kernel
theorem dX5_costOfAll_30 : decode cX5_costOfAll 30 = .ok (.iaload, 1) := by decide +kernel
theorem dX5_costOfAll_31 : decode cX5_costOfAll 31 = .ok (.invokevirtual 81, 3) := by decide +kernel
theorem dX5_costOfAll_34 : decode cX5_costOfAll 34 = .ok (.iadd, 1) := by decide +kernel
theorem dX5_costOfAll_35 : decode cX5_costOfAll 35 = .ok (.istore_n 2, 1) := by decide +kernel
theorem dX5_costOfAll_36 : decode cX5_costOfAll 36 = .ok (.iinc 3 1, 3) := by decide +kernel
theorem dX5_costOfAll_39 : decode cX5_costOfAll 39 = .ok (.goto (-35), 3) := by decide +kernel
theorem dX5_costOfAll_42 : decode cX5_costOfAll 42 = .ok (.iload_n 2, 1) := by decide +kernel
theorem dX5_costOfAll_43 : decode cX5_costOfAll 43 = .ok (.ireturn, 1) := by decide +kernel
theorem dX5_nameRings_0 : decode cX5_nameRings 0 = .ok (.aload_n 0, 1) := by decide +kernel
theorem dX5_nameRings_1 : decode cX5_nameRings 1 = .ok (.getfield 27, 3) := by decide +kernel
theorem dX5_nameRings_4 : decode cX5_nameRings 4 = .ok (.iconst (-1), 1) := by decide +kernel
theorem dX5_nameRings_5 : decode cX5_nameRings 5 = .ok (.invokestatic 87, 3) := by decide +kernel
theorem dX5_nameRings_8 : decode cX5_nameRings 8 = .ok (.aload_n 0, 1) := by decide +kernel
theorem dX5_nameRings_9 : decode cX5_nameRings 9 = .ok (.iconst 0, 1) := by decide +kernel
theorem dX5_nameRings_10 : decode cX5_nameRings 10 = .ok (.putfield 48, 3) := by decide +kernel
theorem dX5_nameRings_13 : decode cX5_nameRings 13 = .ok (.iconst 0, 1) := by decide +kernel
theorem dX5_nameRings_14 : decode cX5_nameRings 14 = .ok (.istore_n 1, 1) := by decide +kernel
theorem dX5_nameRings_15 : decode cX5_nameRings 15 = .ok (.iload_n 1, 1) := by decide +kernel
theorem dX5_nameRings_16 : decode cX5_nameRings 16 = .ok (.aload_n 0, 1) := by decide +kernel
theorem dX5_nameRings_17 : decode cX5_nameRings 17 = .ok (.getfield 40, 3) := by decide +kernel
theorem dX5_nameRings_20 : decode cX5_nameRings 20 = .ok (.if_icmp .ge 38, 3) := by decide +kernel
theorem dX5_nameRings_23 : decode cX5_nameRings 23 = .ok (.aload_n 0, 1) := by decide +kernel
theorem dX5_nameRings_24 : decode cX5_nameRings 24 = .ok (.getfield 27, 3) := by decide +kernel
theorem dX5_nameRings_27 : decode cX5_nameRings 27 = .ok (.iload_n 1, 1) := by decide +kernel
theorem dX5_nameRings_28 : decode cX5_nameRings 28 = .ok (.iaload, 1) := by decide +kernel
theorem dX5_nameRings_29 : decode cX5_nameRings 29 = .ok (.iconst (-1), 1) := by decide +kernel
theorem dX5_nameRings_30 : decode cX5_nameRings 30 = .ok (.if_icmp .ne 22, 3) := by decide +kernel
theorem dX5_nameRings_33 : decode cX5_nameRings 33 = .ok (.aload_n 0, 1) := by decide +kernel
theorem dX5_nameRings_34 : decode cX5_nameRings 34 = .ok (.iload_n 1, 1) := by decide +kernel
theorem dX5_nameRings_35 : decode cX5_nameRings 35 = .ok (.aload_n 0, 1) := by decide +kernel
theorem dX5_nameRings_36 : decode cX5_nameRings 36 = .ok (.getfield 48, 3) := by decide +kernel
theorem dX5_nameRings_39 : decode cX5_nameRings 39 = .ok (.invokevirtual 93, 3) := by decide +kernel
theorem dX5_nameRings_42 : decode cX5_nameRings 42 = .ok (.aload_n 0, 1) := by decide +kernel
theorem dX5_nameRings_43 : decode cX5_nameRings 43 = .ok (.dup, 1) := by decide +kernel
theorem dX5_nameRings_44 : decode cX5_nameRings 44 = .ok (.getfield 48, 3) := by decide +kernel
theorem dX5_nameRings_47 : decode cX5_nameRings 47 = .ok (.iconst 1, 1) := by decide +kernel
theorem dX5_nameRings_48 : decode cX5_nameRings 48 = .ok (.iadd, 1) := by decide +kernel
theorem dX5_nameRings_49 : decode cX5_nameRings 49 = .ok (.putfield 48, 3) := by decide +kernel
theorem dX5_nameRings_52 : decode cX5_nameRings 52 = .ok (.iinc 1 1, 3) := by decide +kernel
theorem dX5_nameRings_55 : decode cX5_nameRings 55 = .ok (.goto (-40), 3) := by decide +kernel
theorem dX5_nameRings_58 : decode cX5_nameRings 58 = .ok (.return_, 1) := by decide +kernel
theorem dX5_nameRing_0 : decode cX5_nameRing 0 = .ok (.iload_n 1, 1) := by decide +kernel
theorem dX5_nameRing_1 : decode cX5_nameRing 1 = .ok (.istore_n 3, 1) := by decide +kernel
theorem dX5_nameRing_2 : decode cX5_nameRing 2 = .ok (.iconst 0, 1) := by decide +kernel
theorem dX5_nameRing_3 : decode cX5_nameRing 3 = .ok (.istore 4, 2) := by decide +kernel
theorem dX5_nameRing_5 : decode cX5_nameRing 5 = .ok (.iload 4, 2) := by decide +kernel
theorem dX5_nameRing_7 : decode cX5_nameRing 7 = .ok (.aload_n 0, 1) := by decide +kernel
theorem dX5_nameRing_8 : decode cX5_nameRing 8 = .ok (.getfield 40, 3) := by decide +kernel
theorem dX5_nameRing_11 : decode cX5_nameRing 11 = .ok (.if_icmp .ge 33, 3) := by decide +kernel
theorem dX5_nameRing_14 : decode cX5_nameRing 14 = .ok (.aload_n 0, 1) := by decide +kernel
theorem dX5_nameRing_15 : decode cX5_nameRing 15 = .ok (.getfield 27, 3) := by decide +kernel
theorem dX5_nameRing_18 : decode cX5_nameRing 18 = .ok (.iload_n 3, 1) := by decide +kernel
theorem dX5_nameRing_19 : decode cX5_nameRing 19 = .ok (.iaload, 1) := by decide +kernel
theorem dX5_nameRing_20 : decode cX5_nameRing 20 = .ok (.iconst (-1), 1) := by decide +kernel
theorem dX5_nameRing_21 : decode cX5_nameRing 21 = .ok (.if_icmp .ne 23, 3) := by decide +kernel
theorem dX5_nameRing_24 : decode cX5_nameRing 24 = .ok (.aload_n 0, 1) := by decide +kernel
theorem dX5_nameRing_25 : decode cX5_nameRing 25 = .ok (.getfield 27, 3) := by decide +kernel
theorem dX5_nameRing_28 : decode cX5_nameRing 28 = .ok (.iload_n 3, 1) := by decide +kernel
theorem dX5_nameRing_29 : decode cX5_nameRing 29 = .ok (.iload_n 2, 1) := by decide +kernel
theorem dX5_nameRing_30 : decode cX5_nameRing 30 = .ok (.iastore, 1) := by decide +kernel
theorem dX5_nameRing_31 : decode cX5_nameRing 31 = .ok (.aload_n 0, 1) := by decide +kernel
theorem dX5_nameRing_32 : decode cX5_nameRing 32 = .ok (.getfield 24, 3) := by decide +kernel
theorem dX5_nameRing_35 : decode cX5_nameRing 35 = .ok (.iload_n 3, 1) := by decide +kernel
theorem dX5_nameRing_36 : decode cX5_nameRing 36 = .ok (.iaload, 1) := by decide +kernel
theorem dX5_nameRing_37 : decode cX5_nameRing 37 = .ok (.istore_n 3, 1) := by decide +kernel
theorem dX5_nameRing_38 : decode cX5_nameRing 38 = .ok (.iinc 4 1, 3) := by decide +kernel
theorem dX5_nameRing_41 : decode cX5_nameRing 41 = .ok (.goto (-36), 3) := by decide +kernel
theorem dX5_nameRing_44 : decode cX5_nameRing 44 = .ok (.return_, 1) := by decide +kernel
theorem dX5_weightOf_0 : decode cX5_weightOf 0 = .ok (.aload_n 0, 1) := by decide +kernel
theorem dX5_weightOf_1 : decode cX5_weightOf 1 = .ok (.getfield 15, 3) := by decide +kernel
theorem dX5_weightOf_4 : decode cX5_weightOf 4 = .ok (.aload_n 0, 1) := by decide +kernel
theorem dX5_weightOf_5 : decode cX5_weightOf 5 = .ok (.getfield 18, 3) := by decide +kernel
theorem dX5_weightOf_8 : decode cX5_weightOf 8 = .ok (.iload_n 1, 1) := by decide +kernel
theorem dX5_weightOf_9 : decode cX5_weightOf 9 = .ok (.iaload, 1) := by decide +kernel
theorem dX5_weightOf_10 : decode cX5_weightOf 10 = .ok (.iaload, 1) := by decide +kernel
theorem dX5_weightOf_11 : decode cX5_weightOf 11 = .ok (.aload_n 0, 1) := by decide +kernel
theorem dX5_weightOf_12 : decode cX5_weightOf 12 = .ok (.getfield 9, 3) := by decide +kernel
theorem dX5_weightOf_15 : decode cX5_weightOf 15 = .ok (.aload_n 0, 1) := by decide +kernel
theorem dX5_weightOf_16 : decode cX5_weightOf 16 = .ok (.getfield 21, 3) := by decide +kernel
theorem dX5_weightOf_19 : decode cX5_weightOf 19 = .ok (.iload_n 1, 1) := by decide +kernel
theorem dX5_weightOf_20 : decode cX5_weightOf 20 = .ok (.iaload, 1) := by decide +kernel
theorem dX5_weightOf_21 : decode cX5_weightOf 21 = .ok (.iaload, 1) := by decide +kernel
theorem dX5_weightOf_22 : decode cX5_weightOf 22 = .ok (.invokestatic 97, 3) := by decide +kernel
theorem dX5_weightOf_25 : decode cX5_weightOf 25 = .ok (.istore_n 3, 1) := by decide +kernel
theorem dX5_weightOf_26 : decode cX5_weightOf 26 = .ok (.aload_n 0, 1) := by decide +kernel
theorem dX5_weightOf_27 : decode cX5_weightOf 27 = .ok (.getfield 15, 3) := by decide +kernel
theorem dX5_weightOf_30 : decode cX5_weightOf 30 = .ok (.aload_n 0, 1) := by decide +kernel
theorem dX5_weightOf_31 : decode cX5_weightOf 31 = .ok (.getfield 18, 3) := by decide +kernel
theorem dX5_weightOf_34 : decode cX5_weightOf 34 = .ok (.iload_n 1, 1) := by decide +kernel
theorem dX5_weightOf_35 : decode cX5_weightOf 35 = .ok (.iconst 1, 1) := by decide +kernel
theorem dX5_weightOf_36 : decode cX5_weightOf 36 = .ok (.iadd, 1) := by decide +kernel
theorem dX5_weightOf_37 : decode cX5_weightOf 37 = .ok (.iaload, 1) := by decide +kernel
theorem dX5_weightOf_38 : decode cX5_weightOf 38 = .ok (.iaload, 1) := by decide +kernel
theorem dX5_weightOf_39 : decode cX5_weightOf 39 = .ok (.aload_n 0, 1) := by decide +kernel
theorem dX5_weightOf_40 : decode cX5_weightOf 40 = .ok (.getfield 9, 3) := by decide +kernel
theorem dX5_weightOf_43 : decode cX5_weightOf 43 = .ok (.aload_n 0, 1) := by decide +kernel
theorem dX5_weightOf_44 : decode cX5_weightOf 44 = .ok (.getfield 21, 3) := by decide +kernel
theorem dX5_weightOf_47 : decode cX5_weightOf 47 = .ok (.iload_n 1, 1) := by decide +kernel
theorem dX5_weightOf_48 : decode cX5_weightOf 48 = .ok (.iconst 1, 1) := by decide +kernel
theorem dX5_weightOf_49 : decode cX5_weightOf 49 = .ok (.iadd, 1) := by decide +kernel
theorem dX5_weightOf_50 : decode cX5_weightOf 50 = .ok (.iaload, 1) := by decide +kernel
theorem dX5_weightOf_51 : decode cX5_weightOf 51 = .ok (.iaload, 1) := by decide +kernel
theorem dX5_weightOf_52 : decode cX5_weightOf 52 = .ok (.invokestatic 102, 3) := by decide +kernel
theorem dX5_weightOf_55 : decode cX5_weightOf 55 = .ok (.istore 4, 2) := by decide +kernel
theorem dX5_weightOf_57 : decode cX5_weightOf 57 = .ok (.iload_n 3, 1) := by decide +kernel
theorem dX5_weightOf_58 : decode cX5_weightOf 58 = .ok (.iload 4, 2) := by decide +kernel
theorem dX5_weightOf_60 : decode cX5_weightOf 60 = .ok (.if_icmp .ge 21, 3) := by decide +kernel
theorem dX5_weightOf_63 : decode cX5_weightOf 63 = .ok (.aload_n 2, 1) := by decide +kernel
theorem dX5_weightOf_64 : decode cX5_weightOf 64 = .ok (.iload_n 3, 1) := by decide +kernel
theorem dX5_weightOf_65 : decode cX5_weightOf 65 = .ok (.iload 4, 2) := by decide +kernel
theorem dX5_weightOf_67 : decode cX5_weightOf 67 = .ok (.invokevirtual 81, 3) := by decide +kernel
theorem dX5_weightOf_70 : decode cX5_weightOf 70 = .ok (.aload_n 2, 1) := by decide +kernel
theorem dX5_weightOf_71 : decode cX5_weightOf 71 = .ok (.iload 4, 2) := by decide +kernel
theorem dX5_weightOf_73 : decode cX5_weightOf 73 = .ok (.iload_n 3, 1) := by decide +kernel
theorem dX5_weightOf_74 : decode cX5_weightOf 74 = .ok (.invokevirtual 81, 3) := by decide +kernel
theorem dX5_weightOf_77 : decode cX5_weightOf 77 = .ok (.iadd, 1) := by decide +kernel
theorem dX5_weightOf_78 : decode cX5_weightOf 78 = .ok (.goto 4, 3) := by decide +kernel
theorem dX5_weightOf_81 : decode cX5_weightOf 81 = .ok (.iconst 0, 1) := by decide +kernel
theorem dX5_weightOf_82 : decode cX5_weightOf 82 = .ok (.ireturn, 1) := by decide +kernel
theorem dX5_takeJoins_0 : decode cX5_takeJoins 0 = .ok (.aload_n 0, 1) := by decide +kernel
theorem dX5_takeJoins_1 : decode cX5_takeJoins 1 = .ok (.iconst 0, 1) := by decide +kernel
theorem dX5_takeJoins_2 : decode cX5_takeJoins 2 = .ok (.putfield 54, 3) := by decide +kernel
theorem dX5_takeJoins_5 : decode cX5_takeJoins 5 = .ok (.aload_n 0, 1) := by decide +kernel
theorem dX5_takeJoins_6 : decode cX5_takeJoins 6 = .ok (.iconst 0, 1) := by decide +kernel
theorem dX5_takeJoins_7 : decode cX5_takeJoins 7 = .ok (.putfield 57, 3) := by decide +kernel
theorem dX5_takeJoins_10 : decode cX5_takeJoins 10 = .ok (.iconst 0, 1) := by decide +kernel
theorem dX5_takeJoins_11 : decode cX5_takeJoins 11 = .ok (.istore_n 1, 1) := by decide +kernel
theorem dX5_takeJoins_12 : decode cX5_takeJoins 12 = .ok (.iload_n 1, 1) := by decide +kernel
theorem dX5_takeJoins_13 : decode cX5_takeJoins 13 = .ok (.iconst 1, 1) := by decide +kernel
theorem dX5_takeJoins_14 : decode cX5_takeJoins 14 = .ok (.iadd, 1) := by decide +kernel
theorem dX5_takeJoins_15 : decode cX5_takeJoins 15 = .ok (.aload_n 0, 1) := by decide +kernel
theorem dX5_takeJoins_16 : decode cX5_takeJoins 16 = .ok (.getfield 40, 3) := by decide +kernel
theorem dX5_takeJoins_19 : decode cX5_takeJoins 19 = .ok (.if_icmp .ge 101, 3) := by decide +kernel
theorem dX5_takeJoins_22 : decode cX5_takeJoins 22 = .ok (.aload_n 0, 1) := by decide +kernel
theorem dX5_takeJoins_23 : decode cX5_takeJoins 23 = .ok (.getfield 33, 3) := by decide +kernel
theorem dX5_takeJoins_26 : decode cX5_takeJoins 26 = .ok (.iload_n 1, 1) := by decide +kernel
theorem dX5_takeJoins_27 : decode cX5_takeJoins 27 = .ok (.iaload, 1) := by decide +kernel
theorem dX5_takeJoins_28 : decode cX5_takeJoins 28 = .ok (.istore_n 2, 1) := by decide +kernel
theorem dX5_takeJoins_29 : decode cX5_takeJoins 29 = .ok (.aload_n 0, 1) := by decide +kernel
theorem dX5_takeJoins_30 : decode cX5_takeJoins 30 = .ok (.getfield 27, 3) := by decide +kernel
theorem dX5_takeJoins_33 : decode cX5_takeJoins 33 = .ok (.aload_n 0, 1) := by decide +kernel
theorem dX5_takeJoins_34 : decode cX5_takeJoins 34 = .ok (.getfield 18, 3) := by decide +kernel
theorem dX5_takeJoins_37 : decode cX5_takeJoins 37 = .ok (.iload_n 2, 1) := by decide +kernel
theorem dX5_takeJoins_38 : decode cX5_takeJoins 38 = .ok (.iaload, 1) := by decide +kernel
theorem dX5_takeJoins_39 : decode cX5_takeJoins 39 = .ok (.iaload, 1) := by decide +kernel
theorem dX5_takeJoins_40 : decode cX5_takeJoins 40 = .ok (.istore_n 3, 1) := by decide +kernel
theorem dX5_takeJoins_41 : decode cX5_takeJoins 41 = .ok (.aload_n 0, 1) := by decide +kernel
theorem dX5_takeJoins_42 : decode cX5_takeJoins 42 = .ok (.getfield 27, 3) := by decide +kernel
theorem dX5_takeJoins_45 : decode cX5_takeJoins 45 = .ok (.aload_n 0, 1) := by decide +kernel
theorem dX5_takeJoins_46 : decode cX5_takeJoins 46 = .ok (.getfield 18, 3) := by decide +kernel
theorem dX5_takeJoins_49 : decode cX5_takeJoins 49 = .ok (.iload_n 2, 1) := by decide +kernel
theorem dX5_takeJoins_50 : decode cX5_takeJoins 50 = .ok (.iconst 1, 1) := by decide +kernel
theorem dX5_takeJoins_51 : decode cX5_takeJoins 51 = .ok (.iadd, 1) := by decide +kernel
theorem dX5_takeJoins_52 : decode cX5_takeJoins 52 = .ok (.iaload, 1) := by decide +kernel
theorem dX5_takeJoins_53 : decode cX5_takeJoins 53 = .ok (.iaload, 1) := by decide +kernel
theorem dX5_takeJoins_54 : decode cX5_takeJoins 54 = .ok (.istore 4, 2) := by decide +kernel
theorem dX5_takeJoins_56 : decode cX5_takeJoins 56 = .ok (.aload_n 0, 1) := by decide +kernel
theorem dX5_takeJoins_57 : decode cX5_takeJoins 57 = .ok (.getfield 36, 3) := by decide +kernel
theorem dX5_takeJoins_60 : decode cX5_takeJoins 60 = .ok (.iload_n 2, 1) := by decide +kernel
theorem dX5_takeJoins_61 : decode cX5_takeJoins 61 = .ok (.iload_n 3, 1) := by decide +kernel
theorem dX5_takeJoins_62 : decode cX5_takeJoins 62 = .ok (.iload 4, 2) := by decide +kernel
theorem dX5_takeJoins_64 : decode cX5_takeJoins 64 = .ok (.if_icmp .eq 7, 3) := by decide +kernel
theorem dX5_takeJoins_67 : decode cX5_takeJoins 67 = .ok (.iconst 1, 1) := by decide +kernel
theorem dX5_takeJoins_68 : decode cX5_takeJoins 68 = .ok (.goto 4, 3) := by decide +kernel
theorem dX5_takeJoins_71 : decode cX5_takeJoins 71 = .ok (.iconst 0, 1) := by decide +kernel
theorem dX5_takeJoins_72 : decode cX5_takeJoins 72 = .ok (.bastore, 1) := by decide +kernel
theorem dX5_takeJoins_73 : decode cX5_takeJoins 73 = .ok (.aload_n 0, 1) := by decide +kernel
theorem dX5_takeJoins_74 : decode cX5_takeJoins 74 = .ok (.getfield 36, 3) := by decide +kernel
theorem dX5_takeJoins_77 : decode cX5_takeJoins 77 = .ok (.iload_n 2, 1) := by decide +kernel
theorem dX5_takeJoins_78 : decode cX5_takeJoins 78 = .ok (.baload, 1) := by decide +kernel
theorem dX5_takeJoins_79 : decode cX5_takeJoins 79 = .ok (.ifCond .eq 35, 3) := by decide +kernel
theorem dX5_takeJoins_82 : decode cX5_takeJoins 82 = .ok (.aload_n 0, 1) := by decide +kernel
theorem dX5_takeJoins_83 : decode cX5_takeJoins 83 = .ok (.dup, 1) := by decide +kernel
theorem dX5_takeJoins_84 : decode cX5_takeJoins 84 = .ok (.getfield 54, 3) := by decide +kernel
theorem dX5_takeJoins_87 : decode cX5_takeJoins 87 = .ok (.iconst 1, 1) := by decide +kernel
theorem dX5_takeJoins_88 : decode cX5_takeJoins 88 = .ok (.iadd, 1) := by decide +kernel
theorem dX5_takeJoins_89 : decode cX5_takeJoins 89 = .ok (.putfield 54, 3) := by decide +kernel
theorem dX5_takeJoins_92 : decode cX5_takeJoins 92 = .ok (.aload_n 0, 1) := by decide +kernel
theorem dX5_takeJoins_93 : decode cX5_takeJoins 93 = .ok (.dup, 1) := by decide +kernel
theorem dX5_takeJoins_94 : decode cX5_takeJoins 94 = .ok (.getfield 57, 3) := by decide +kernel
theorem dX5_takeJoins_97 : decode cX5_takeJoins 97 = .ok (.aload_n 0, 1) := by decide +kernel
theorem dX5_takeJoins_98 : decode cX5_takeJoins 98 = .ok (.getfield 30, 3) := by decide +kernel
theorem dX5_takeJoins_101 : decode cX5_takeJoins 101 = .ok (.iload_n 2, 1) := by decide +kernel
theorem dX5_takeJoins_102 : decode cX5_takeJoins 102 = .ok (.iaload, 1) := by decide +kernel
theorem dX5_takeJoins_103 : decode cX5_takeJoins 103 = .ok (.iadd, 1) := by decide +kernel
theorem dX5_takeJoins_104 : decode cX5_takeJoins 104 = .ok (.putfield 57, 3) := by decide +kernel
theorem dX5_takeJoins_107 : decode cX5_takeJoins 107 = .ok (.aload_n 0, 1) := by decide +kernel
theorem dX5_takeJoins_108 : decode cX5_takeJoins 108 = .ok (.iload 4, 2) := by decide +kernel
theorem dX5_takeJoins_110 : decode cX5_takeJoins 110 = .ok (.iload_n 3, 1) := by decide +kernel
theorem dX5_takeJoins_111 : decode cX5_takeJoins 111 = .ok (.invokevirtual 105, 3) := by decide +kernel
theorem dX5_takeJoins_114 : decode cX5_takeJoins 114 = .ok (.iinc 1 1, 3) := by decide +kernel
theorem dX5_takeJoins_117 : decode cX5_takeJoins 117 = .ok (.goto (-105), 3) := by decide +kernel
theorem dX5_takeJoins_120 : decode cX5_takeJoins 120 = .ok (.return_, 1) := by decide +kernel
theorem dX5_rename_0 : decode cX5_rename 0 = .ok (.iconst 0, 1) := by decide +kernel
theorem dX5_rename_1 : decode cX5_rename 1 = .ok (.istore_n 3, 1) := by decide +kernel
theorem dX5_rename_2 : decode cX5_rename 2 = .ok (.iload_n 3, 1) := by decide +kernel
theorem dX5_rename_3 : decode cX5_rename 3 = .ok (.aload_n 0, 1) := by decide +kernel
theorem dX5_rename_4 : decode cX5_rename 4 = .ok (.getfield 40, 3) := by decide +kernel
theorem dX5_rename_7 : decode cX5_rename 7 = .ok (.if_icmp .ge 26, 3) := by decide +kernel
theorem dX5_rename_10 : decode cX5_rename 10 = .ok (.aload_n 0, 1) := by decide +kernel
theorem dX5_rename_11 : decode cX5_rename 11 = .ok (.getfield 27, 3) := by decide +kernel
theorem dX5_rename_14 : decode cX5_rename 14 = .ok (.iload_n 3, 1) := by decide +kernel
theorem dX5_rename_15 : decode cX5_rename 15 = .ok (.iaload, 1) := by decide +kernel
theorem dX5_rename_16 : decode cX5_rename 16 = .ok (.iload_n 1, 1) := by decide +kernel
theorem dX5_rename_17 : decode cX5_rename 17 = .ok (.if_icmp .ne 10, 3) := by decide +kernel
theorem dX5_rename_20 : decode cX5_rename 20 = .ok (.aload_n 0, 1) := by decide +kernel
theorem dX5_rename_21 : decode cX5_rename 21 = .ok (.getfield 27, 3) := by decide +kernel
theorem dX5_rename_24 : decode cX5_rename 24 = .ok (.iload_n 3, 1) := by decide +kernel
theorem dX5_rename_25 : decode cX5_rename 25 = .ok (.iload_n 2, 1) := by decide +kernel
theorem dX5_rename_26 : decode cX5_rename 26 = .ok (.iastore, 1) := by decide +kernel
theorem dX5_rename_27 : decode cX5_rename 27 = .ok (.iinc 3 1, 3) := by decide +kernel
theorem dX5_rename_30 : decode cX5_rename 30 = .ok (.goto (-28), 3) := by decide +kernel
theorem dX5_rename_33 : decode cX5_rename 33 = .ok (.return_, 1) := by decide +kernel
theorem dX5_exchangeTaken_0 : decode cX5_exchangeTaken 0 = .ok (.aload_n 0, 1) := by decide +kernel
theorem dX5_exchangeTaken_1 : decode cX5_exchangeTaken 1 = .ok (.getfield 40, 3) := by decide +kernel
theorem dX5_exchangeTaken_4 : decode cX5_exchangeTaken 4 = .ok (.iconst 2, 1) := by decide +kernel
theorem dX5_exchangeTaken_5 : decode cX5_exchangeTaken 5 = .ok (.isub, 1) := by decide +kernel
theorem dX5_exchangeTaken_6 : decode cX5_exchangeTaken 6 = .ok (.istore_n 1, 1) := by decide +kernel
theorem dX5_exchangeTaken_7 : decode cX5_exchangeTaken 7 = .ok (.iload_n 1, 1) := by decide +kernel
theorem dX5_exchangeTaken_8 : decode cX5_exchangeTaken 8 = .ok (.ifCond .lt 47, 3) := by decide +kernel
theorem dX5_exchangeTaken_11 : decode cX5_exchangeTaken 11 = .ok (.aload_n 0, 1) := by decide +kernel
theorem dX5_exchangeTaken_12 : decode cX5_exchangeTaken 12 = .ok (.getfield 36, 3) := by decide +kernel
theorem dX5_exchangeTaken_15 : decode cX5_exchangeTaken 15 = .ok (.iload_n 1, 1) := by decide +kernel
theorem dX5_exchangeTaken_16 : decode cX5_exchangeTaken 16 = .ok (.baload, 1) := by decide +kernel
theorem dX5_exchangeTaken_17 : decode cX5_exchangeTaken 17 = .ok (.ifCond .eq 32, 3) := by decide +kernel
theorem dX5_exchangeTaken_20 : decode cX5_exchangeTaken 20 = .ok (.aload_n 0, 1) := by decide +kernel
theorem dX5_exchangeTaken_21 : decode cX5_exchangeTaken 21 = .ok (.iload_n 1, 1) := by decide +kernel
theorem dX5_exchangeTaken_22 : decode cX5_exchangeTaken 22 = .ok (.invokevirtual 108, 3) := by decide +kernel
theorem dX5_exchangeTaken_25 : decode cX5_exchangeTaken 25 = .ok (.ifCond .ne 24, 3) := by decide +kernel
theorem dX5_exchangeTaken_28 : decode cX5_exchangeTaken 28 = .ok (.aload_n 0, 1) := by decide +kernel
theorem dX5_exchangeTaken_29 : decode cX5_exchangeTaken 29 = .ok (.getfield 24, 3) := by decide +kernel
theorem dX5_exchangeTaken_32 : decode cX5_exchangeTaken 32 = .ok (.aload_n 0, 1) := by decide +kernel
theorem dX5_exchangeTaken_33 : decode cX5_exchangeTaken 33 = .ok (.getfield 18, 3) := by decide +kernel
theorem dX5_exchangeTaken_36 : decode cX5_exchangeTaken 36 = .ok (.iload_n 1, 1) := by decide +kernel
theorem dX5_exchangeTaken_37 : decode cX5_exchangeTaken 37 = .ok (.iaload, 1) := by decide +kernel
theorem dX5_exchangeTaken_38 : decode cX5_exchangeTaken 38 = .ok (.aload_n 0, 1) := by decide +kernel
theorem dX5_exchangeTaken_39 : decode cX5_exchangeTaken 39 = .ok (.getfield 18, 3) := by decide +kernel
theorem dX5_exchangeTaken_42 : decode cX5_exchangeTaken 42 = .ok (.iload_n 1, 1) := by decide +kernel
theorem dX5_exchangeTaken_43 : decode cX5_exchangeTaken 43 = .ok (.iconst 1, 1) := by decide +kernel
theorem dX5_exchangeTaken_44 : decode cX5_exchangeTaken 44 = .ok (.iadd, 1) := by decide +kernel
theorem dX5_exchangeTaken_45 : decode cX5_exchangeTaken 45 = .ok (.iaload, 1) := by decide +kernel
theorem dX5_exchangeTaken_46 : decode cX5_exchangeTaken 46 = .ok (.invokestatic 112, 3) := by decide +kernel
theorem dX5_exchangeTaken_49 : decode cX5_exchangeTaken 49 = .ok (.iinc 1 (-1), 3) := by decide +kernel
theorem dX5_exchangeTaken_52 : decode cX5_exchangeTaken 52 = .ok (.goto (-45), 3) := by decide +kernel
theorem dX5_exchangeTaken_55 : decode cX5_exchangeTaken 55 = .ok (.iconst 0, 1) := by decide +kernel
theorem dX5_exchangeTaken_56 : decode cX5_exchangeTaken 56 = .ok (.istore_n 1, 1) := by decide +kernel
theorem dX5_exchangeTaken_57 : decode cX5_exchangeTaken 57 = .ok (.iload_n 1, 1) := by decide +kernel
theorem dX5_exchangeTaken_58 : decode cX5_exchangeTaken 58 = .ok (.iconst 1, 1) := by decide +kernel
theorem dX5_exchangeTaken_59 : decode cX5_exchangeTaken 59 = .ok (.iadd, 1) := by decide +kernel
theorem dX5_exchangeTaken_60 : decode cX5_exchangeTaken 60 = .ok (.aload_n 0, 1) := by decide +kernel
theorem dX5_exchangeTaken_61 : decode cX5_exchangeTaken 61 = .ok (.getfield 40, 3) := by decide +kernel
theorem dX5_exchangeTaken_64 : decode cX5_exchangeTaken 64 = .ok (.if_icmp .ge 47, 3) := by decide +kernel
theorem dX5_exchangeTaken_67 : decode cX5_exchangeTaken 67 = .ok (.aload_n 0, 1) := by decide +kernel
theorem dX5_exchangeTaken_68 : decode cX5_exchangeTaken 68 = .ok (.getfield 36, 3) := by decide +kernel
theorem dX5_exchangeTaken_71 : decode cX5_exchangeTaken 71 = .ok (.iload_n 1, 1) := by decide +kernel
theorem dX5_exchangeTaken_72 : decode cX5_exchangeTaken 72 = .ok (.baload, 1) := by decide +kernel
theorem dX5_exchangeTaken_73 : decode cX5_exchangeTaken 73 = .ok (.ifCond .eq 32, 3) := by decide +kernel
theorem dX5_exchangeTaken_76 : decode cX5_exchangeTaken 76 = .ok (.aload_n 0, 1) := by decide +kernel
theorem dX5_exchangeTaken_77 : decode cX5_exchangeTaken 77 = .ok (.iload_n 1, 1) := by decide +kernel
theorem dX5_exchangeTaken_78 : decode cX5_exchangeTaken 78 = .ok (.invokevirtual 108, 3) := by decide +kernel
theorem dX5_exchangeTaken_81 : decode cX5_exchangeTaken 81 = .ok (.ifCond .eq 24, 3) := by decide +kernel
theorem dX5_exchangeTaken_84 : decode cX5_exchangeTaken 84 = .ok (.aload_n 0, 1) := by decide +kernel
theorem dX5_exchangeTaken_85 : decode cX5_exchangeTaken 85 = .ok (.getfield 24, 3) := by decide +kernel
theorem dX5_exchangeTaken_88 : decode cX5_exchangeTaken 88 = .ok (.aload_n 0, 1) := by decide +kernel
theorem dX5_exchangeTaken_89 : decode cX5_exchangeTaken 89 = .ok (.getfield 18, 3) := by decide +kernel
theorem dX5_exchangeTaken_92 : decode cX5_exchangeTaken 92 = .ok (.iload_n 1, 1) := by decide +kernel
theorem dX5_exchangeTaken_93 : decode cX5_exchangeTaken 93 = .ok (.iaload, 1) := by decide +kernel
theorem dX5_exchangeTaken_94 : decode cX5_exchangeTaken 94 = .ok (.aload_n 0, 1) := by decide +kernel
theorem dX5_exchangeTaken_95 : decode cX5_exchangeTaken 95 = .ok (.getfield 18, 3) := by decide +kernel
theorem dX5_exchangeTaken_98 : decode cX5_exchangeTaken 98 = .ok (.iload_n 1, 1) := by decide +kernel
theorem dX5_exchangeTaken_99 : decode cX5_exchangeTaken 99 = .ok (.iconst 1, 1) := by decide +kernel
theorem dX5_exchangeTaken_100 : decode cX5_exchangeTaken 100 = .ok (.iadd, 1) := by decide +kernel
theorem dX5_exchangeTaken_101 : decode cX5_exchangeTaken 101 = .ok (.iaload, 1) := by decide +kernel
theorem dX5_exchangeTaken_102 : decode cX5_exchangeTaken 102 = .ok (.invokestatic 112, 3) := by decide +kernel
theorem dX5_exchangeTaken_105 : decode cX5_exchangeTaken 105 = .ok (.iinc 1 1, 3) := by decide +kernel
theorem dX5_exchangeTaken_108 : decode cX5_exchangeTaken 108 = .ok (.goto (-51), 3) := by decide +kernel
theorem dX5_exchangeTaken_111 : decode cX5_exchangeTaken 111 = .ok (.return_, 1) := by decide +kernel
theorem dX5_endsAbove_0 : decode cX5_endsAbove 0 = .ok (.aload_n 0, 1) := by decide +kernel
theorem dX5_endsAbove_1 : decode cX5_endsAbove 1 = .ok (.getfield 15, 3) := by decide +kernel
theorem dX5_endsAbove_4 : decode cX5_endsAbove 4 = .ok (.aload_n 0, 1) := by decide +kernel
theorem dX5_endsAbove_5 : decode cX5_endsAbove 5 = .ok (.getfield 18, 3) := by decide +kernel
theorem dX5_endsAbove_8 : decode cX5_endsAbove 8 = .ok (.iload_n 1, 1) := by decide +kernel
theorem dX5_endsAbove_9 : decode cX5_endsAbove 9 = .ok (.iaload, 1) := by decide +kernel
theorem dX5_endsAbove_10 : decode cX5_endsAbove 10 = .ok (.iaload, 1) := by decide +kernel
theorem dX5_endsAbove_11 : decode cX5_endsAbove 11 = .ok (.aload_n 0, 1) := by decide +kernel
theorem dX5_endsAbove_12 : decode cX5_endsAbove 12 = .ok (.getfield 9, 3) := by decide +kernel
theorem dX5_endsAbove_15 : decode cX5_endsAbove 15 = .ok (.aload_n 0, 1) := by decide +kernel
theorem dX5_endsAbove_16 : decode cX5_endsAbove 16 = .ok (.getfield 21, 3) := by decide +kernel
theorem dX5_endsAbove_19 : decode cX5_endsAbove 19 = .ok (.iload_n 1, 1) := by decide +kernel
theorem dX5_endsAbove_20 : decode cX5_endsAbove 20 = .ok (.iaload, 1) := by decide +kernel
theorem dX5_endsAbove_21 : decode cX5_endsAbove 21 = .ok (.iaload, 1) := by decide +kernel
theorem dX5_endsAbove_22 : decode cX5_endsAbove 22 = .ok (.if_icmp .le 7, 3) := by decide +kernel
theorem dX5_endsAbove_25 : decode cX5_endsAbove 25 = .ok (.iconst 1, 1) := by decide +kernel
theorem dX5_endsAbove_26 : decode cX5_endsAbove 26 = .ok (.goto 4, 3) := by decide +kernel
theorem dX5_endsAbove_29 : decode cX5_endsAbove 29 = .ok (.iconst 0, 1) := by decide +kernel
theorem dX5_endsAbove_30 : decode cX5_endsAbove 30 = .ok (.ireturn, 1) := by decide +kernel
theorem dX6_init_0 : decode cX6_init 0 = .ok (.aload_n 0, 1) := by decide +kernel
theorem dX6_init_1 : decode cX6_init 1 = .ok (.invokespecial 3, 3) := by decide +kernel
theorem dX6_init_4 : decode cX6_init 4 = .ok (.aload_n 0, 1) := by decide +kernel
theorem dX6_init_5 : decode cX6_init 5 = .ok (.bipush 8, 2) := by decide +kernel
theorem dX6_init_7 : decode cX6_init 7 = .ok (.newarray .int, 2) := by decide +kernel
theorem dX6_init_9 : decode cX6_init 9 = .ok (.putfield 9, 3) := by decide +kernel
theorem dX6_init_12 : decode cX6_init 12 = .ok (.aload_n 0, 1) := by decide +kernel
theorem dX6_init_13 : decode cX6_init 13 = .ok (.iconst 0, 1) := by decide +kernel
theorem dX6_init_14 : decode cX6_init 14 = .ok (.putfield 15, 3) := by decide +kernel
theorem dX6_init_17 : decode cX6_init 17 = .ok (.return_, 1) := by decide +kernel
theorem dX6_begin_0 : decode cX6_begin 0 = .ok (.aload_n 0, 1) := by decide +kernel
theorem dX6_begin_1 : decode cX6_begin 1 = .ok (.iload_n 1, 1) := by decide +kernel
theorem dX6_begin_2 : decode cX6_begin 2 = .ok (.putfield 15, 3) := by decide +kernel
theorem dX6_begin_5 : decode cX6_begin 5 = .ok (.iconst 0, 1) := by decide +kernel
theorem dX6_begin_6 : decode cX6_begin 6 = .ok (.istore_n 2, 1) := by decide +kernel
theorem dX6_begin_7 : decode cX6_begin 7 = .ok (.iload_n 2, 1) := by decide +kernel
theorem dX6_begin_8 : decode cX6_begin 8 = .ok (.aload_n 0, 1) := by decide +kernel
theorem dX6_begin_9 : decode cX6_begin 9 = .ok (.getfield 15, 3) := by decide +kernel
theorem dX6_begin_12 : decode cX6_begin 12 = .ok (.if_icmp .ge 16, 3) := by decide +kernel
theorem dX6_begin_15 : decode cX6_begin 15 = .ok (.aload_n 0, 1) := by decide +kernel
theorem dX6_begin_16 : decode cX6_begin 16 = .ok (.getfield 9, 3) := by decide +kernel
theorem dX6_begin_19 : decode cX6_begin 19 = .ok (.iload_n 2, 1) := by decide +kernel
theorem dX6_begin_20 : decode cX6_begin 20 = .ok (.iload_n 2, 1) := by decide +kernel
theorem dX6_begin_21 : decode cX6_begin 21 = .ok (.iastore, 1) := by decide +kernel
theorem dX6_begin_22 : decode cX6_begin 22 = .ok (.iinc 2 1, 3) := by decide +kernel
theorem dX6_begin_25 : decode cX6_begin 25 = .ok (.goto (-18), 3) := by decide +kernel
theorem dX6_begin_28 : decode cX6_begin 28 = .ok (.return_, 1) := by decide +kernel
theorem dX6_step_0 : decode cX6_step 0 = .ok (.aload_n 0, 1) := by decide +kernel
theorem dX6_step_1 : decode cX6_step 1 = .ok (.getfield 15, 3) := by decide +kernel
theorem dX6_step_4 : decode cX6_step 4 = .ok (.iconst 2, 1) := by decide +kernel
theorem dX6_step_5 : decode cX6_step 5 = .ok (.isub, 1) := by decide +kernel
theorem dX6_step_6 : decode cX6_step 6 = .ok (.istore_n 1, 1) := by decide +kernel
theorem dX6_step_7 : decode cX6_step 7 = .ok (.iload_n 1, 1) := by decide +kernel
theorem dX6_step_8 : decode cX6_step 8 = .ok (.ifCond .lt 26, 3) := by decide +kernel
theorem dX6_step_11 : decode cX6_step 11 = .ok (.aload_n 0, 1) := by decide +kernel
theorem dX6_step_12 : decode cX6_step 12 = .ok (.getfield 9, 3) := by decide +kernel
theorem dX6_step_15 : decode cX6_step 15 = .ok (.iload_n 1, 1) := by decide +kernel
theorem dX6_step_16 : decode cX6_step 16 = .ok (.iaload, 1) := by decide +kernel
theorem dX6_step_17 : decode cX6_step 17 = .ok (.aload_n 0, 1) := by decide +kernel
theorem dX6_step_18 : decode cX6_step 18 = .ok (.getfield 9, 3) := by decide +kernel
theorem dX6_step_21 : decode cX6_step 21 = .ok (.iload_n 1, 1) := by decide +kernel
theorem dX6_step_22 : decode cX6_step 22 = .ok (.iconst 1, 1) := by decide +kernel
theorem dX6_step_23 : decode cX6_step 23 = .ok (.iadd, 1) := by decide +kernel
theorem dX6_step_24 : decode cX6_step 24 = .ok (.iaload, 1) := by decide +kernel
theorem dX6_step_25 : decode cX6_step 25 = .ok (.if_icmp .le 9, 3) := by decide +kernel
theorem dX6_step_28 : decode cX6_step 28 = .ok (.iinc 1 (-1), 3) := by decide +kernel
theorem dX6_step_31 : decode cX6_step 31 = .ok (.goto (-24), 3) := by decide +kernel
theorem dX6_step_34 : decode cX6_step 34 = .ok (.iload_n 1, 1) := by decide +kernel
theorem dX6_step_35 : decode cX6_step 35 = .ok (.ifCond .ge 5, 3) := by decide +kernel
theorem dX6_step_38 : decode cX6_step 38 = .ok (.iconst (-1), 1) := by decide +kernel
theorem dX6_step_39 : decode cX6_step 39 = .ok (.ireturn, 1) := by decide +kernel
theorem dX6_step_40 : decode cX6_step 40 = .ok (.aload_n 0, 1) := by decide +kernel
theorem dX6_step_41 : decode cX6_step 41 = .ok (.getfield 15, 3) := by decide +kernel
theorem dX6_step_44 : decode cX6_step 44 = .ok (.iconst 1, 1) := by decide +kernel
theorem dX6_step_45 : decode cX6_step 45 = .ok (.isub, 1) := by decide +kernel
theorem dX6_step_46 : decode cX6_step 46 = .ok (.istore_n 2, 1) := by decide +kernel
theorem dX6_step_47 : decode cX6_step 47 = .ok (.iload_n 2, 1) := by decide +kernel
theorem dX6_step_48 : decode cX6_step 48 = .ok (.iload_n 1, 1) := by decide +kernel
theorem dX6_step_49 : decode cX6_step 49 = .ok (.iconst 1, 1) := by decide +kernel
theorem dX6_step_50 : decode cX6_step 50 = .ok (.iadd, 1) := by decide +kernel
theorem dX6_step_51 : decode cX6_step 51 = .ok (.if_icmp .le 24, 3) := by decide +kernel
theorem dX6_step_54 : decode cX6_step 54 = .ok (.aload_n 0, 1) := by decide +kernel
theorem dX6_step_55 : decode cX6_step 55 = .ok (.getfield 9, 3) := by decide +kernel
theorem dX6_step_58 : decode cX6_step 58 = .ok (.iload_n 2, 1) := by decide +kernel
theorem dX6_step_59 : decode cX6_step 59 = .ok (.iaload, 1) := by decide +kernel
theorem dX6_step_60 : decode cX6_step 60 = .ok (.aload_n 0, 1) := by decide +kernel
theorem dX6_step_61 : decode cX6_step 61 = .ok (.getfield 9, 3) := by decide +kernel
theorem dX6_step_64 : decode cX6_step 64 = .ok (.iload_n 1, 1) := by decide +kernel
theorem dX6_step_65 : decode cX6_step 65 = .ok (.iaload, 1) := by decide +kernel
theorem dX6_step_66 : decode cX6_step 66 = .ok (.if_icmp .ge 9, 3) := by decide +kernel
theorem dX6_step_69 : decode cX6_step 69 = .ok (.iinc 2 (-1), 3) := by decide +kernel
theorem dX6_step_72 : decode cX6_step 72 = .ok (.goto (-25), 3) := by decide +kernel
theorem dX6_step_75 : decode cX6_step 75 = .ok (.aload_n 0, 1) := by decide +kernel
theorem dX6_step_76 : decode cX6_step 76 = .ok (.getfield 9, 3) := by decide +kernel
theorem dX6_step_79 : decode cX6_step 79 = .ok (.iload_n 1, 1) := by decide +kernel
theorem dX6_step_80 : decode cX6_step 80 = .ok (.iload_n 2, 1) := by decide +kernel
theorem dX6_step_81 : decode cX6_step 81 = .ok (.invokestatic 19, 3) := by decide +kernel
theorem dX6_step_84 : decode cX6_step 84 = .ok (.iload_n 1, 1) := by decide +kernel
theorem dX6_step_85 : decode cX6_step 85 = .ok (.iconst 1, 1) := by decide +kernel
theorem dX6_step_86 : decode cX6_step 86 = .ok (.iadd, 1) := by decide +kernel
theorem dX6_step_87 : decode cX6_step 87 = .ok (.istore_n 3, 1) := by decide +kernel
theorem dX6_step_88 : decode cX6_step 88 = .ok (.aload_n 0, 1) := by decide +kernel
theorem dX6_step_89 : decode cX6_step 89 = .ok (.getfield 15, 3) := by decide +kernel
theorem dX6_step_92 : decode cX6_step 92 = .ok (.iconst 1, 1) := by decide +kernel
theorem dX6_step_93 : decode cX6_step 93 = .ok (.isub, 1) := by decide +kernel
theorem dX6_step_94 : decode cX6_step 94 = .ok (.istore 4, 2) := by decide +kernel
theorem dX6_step_96 : decode cX6_step 96 = .ok (.iload_n 3, 1) := by decide +kernel
theorem dX6_step_97 : decode cX6_step 97 = .ok (.iload 4, 2) := by decide +kernel
theorem dX6_step_99 : decode cX6_step 99 = .ok (.if_icmp .ge 22, 3) := by decide +kernel
theorem dX6_step_102 : decode cX6_step 102 = .ok (.aload_n 0, 1) := by decide +kernel
theorem dX6_step_103 : decode cX6_step 103 = .ok (.getfield 9, 3) := by decide +kernel
theorem dX6_step_106 : decode cX6_step 106 = .ok (.iload_n 3, 1) := by decide +kernel
theorem dX6_step_107 : decode cX6_step 107 = .ok (.iload 4, 2) := by decide +kernel
theorem dX6_step_109 : decode cX6_step 109 = .ok (.invokestatic 19, 3) := by decide +kernel
theorem dX6_step_112 : decode cX6_step 112 = .ok (.iinc 3 1, 3) := by decide +kernel
theorem dX6_step_115 : decode cX6_step 115 = .ok (.iinc 4 (-1), 3) := by decide +kernel
theorem dX6_step_118 : decode cX6_step 118 = .ok (.goto (-22), 3) := by decide +kernel
theorem dX6_step_121 : decode cX6_step 121 = .ok (.iload_n 1, 1) := by decide +kernel
theorem dX6_step_122 : decode cX6_step 122 = .ok (.ireturn, 1) := by decide +kernel
theorem dX7_init_0 : decode cX7_init 0 = .ok (.aload_n 0, 1) := by decide +kernel
theorem dX7_init_1 : decode cX7_init 1 = .ok (.invokespecial 3, 3) := by decide +kernel
theorem dX7_init_4 : decode cX7_init 4 = .ok (.aload_n 0, 1) := by decide +kernel
theorem dX7_init_5 : decode cX7_init 5 = .ok (.iconst 4, 1) := by decide +kernel
theorem dX7_init_6 : decode cX7_init 6 = .ok (.newarray .int, 2) := by decide +kernel
theorem dX7_init_8 : decode cX7_init 8 = .ok (.putfield 9, 3) := by decide +kernel
theorem dX7_init_11 : decode cX7_init 11 = .ok (.aload_n 0, 1) := by decide +kernel
theorem dX7_init_12 : decode cX7_init 12 = .ok (.iconst 4, 1) := by decide +kernel
theorem dX7_init_13 : decode cX7_init 13 = .ok (.newarray .int, 2) := by decide +kernel
theorem dX7_init_15 : decode cX7_init 15 = .ok (.putfield 15, 3) := by decide +kernel
theorem dX7_init_18 : decode cX7_init 18 = .ok (.aload_n 0, 1) := by decide +kernel
theorem dX7_init_19 : decode cX7_init 19 = .ok (.iconst 4, 1) := by decide +kernel
theorem dX7_init_20 : decode cX7_init 20 = .ok (.bipush 40, 2) := by decide +kernel
theorem dX7_init_22 : decode cX7_init 22 = .ok (.multianewarray 18 2, 4) := by decide +kernel
theorem dX7_init_26 : decode cX7_init 26 = .ok (.putfield 20, 3) := by decide +kernel
theorem dX7_init_29 : decode cX7_init 29 = .ok (.aload_n 0, 1) := by decide +kernel
theorem dX7_init_30 : decode cX7_init 30 = .ok (.iconst 0, 1) := by decide +kernel
theorem dX7_init_31 : decode cX7_init 31 = .ok (.putfield 23, 3) := by decide +kernel
theorem dX7_init_34 : decode cX7_init 34 = .ok (.aload_n 0, 1) := by decide +kernel
theorem dX7_init_35 : decode cX7_init 35 = .ok (.getfield 9, 3) := by decide +kernel
theorem dX7_init_38 : decode cX7_init 38 = .ok (.iconst (-1), 1) := by decide +kernel
theorem dX7_init_39 : decode cX7_init 39 = .ok (.invokestatic 27, 3) := by decide +kernel
theorem dX7_init_42 : decode cX7_init 42 = .ok (.return_, 1) := by decide +kernel
theorem dX7_finding_0 : decode cX7_finding 0 = .ok (.aload_n 0, 1) := by decide +kernel
theorem dX7_finding_1 : decode cX7_finding 1 = .ok (.iload_n 1, 1) := by decide +kernel
theorem dX7_finding_2 : decode cX7_finding 2 = .ok (.putfield 23, 3) := by decide +kernel
theorem dX7_finding_5 : decode cX7_finding 5 = .ok (.bipush (-10), 2) := by decide +kernel
theorem dX7_finding_7 : decode cX7_finding 7 = .ok (.iload_n 1, 1) := by decide +kernel
theorem dX7_finding_8 : decode cX7_finding 8 = .ok (.isub, 1) := by decide +kernel
theorem dX7_finding_9 : decode cX7_finding 9 = .ok (.ireturn, 1) := by decide +kernel
theorem dX7_isLost_0 : decode cX7_isLost 0 = .ok (.aload_n 0, 1) := by decide +kernel
theorem dX7_isLost_1 : decode cX7_isLost 1 = .ok (.getfield 9, 3) := by decide +kernel
theorem dX7_isLost_4 : decode cX7_isLost 4 = .ok (.iload_n 1, 1) := by decide +kernel
theorem dX7_isLost_5 : decode cX7_isLost 5 = .ok (.iaload, 1) := by decide +kernel
theorem dX7_isLost_6 : decode cX7_isLost 6 = .ok (.iconst (-1), 1) := by decide +kernel
theorem dX7_isLost_7 : decode cX7_isLost 7 = .ok (.if_icmp .ne 7, 3) := by decide +kernel
theorem dX7_isLost_10 : decode cX7_isLost 10 = .ok (.iconst 1, 1) := by decide +kernel
theorem dX7_isLost_11 : decode cX7_isLost 11 = .ok (.goto 4, 3) := by decide +kernel
theorem dX7_isLost_14 : decode cX7_isLost 14 = .ok (.iconst 0, 1) := by decide +kernel
theorem dX7_isLost_15 : decode cX7_isLost 15 = .ok (.ireturn, 1) := by decide +kernel
theorem dX7_renew_0 : decode cX7_renew 0 = .ok (.aload_n 0, 1) := by decide +kernel
theorem dX7_renew_1 : decode cX7_renew 1 = .ok (.getfield 9, 3) := by decide +kernel
theorem dX7_renew_4 : decode cX7_renew 4 = .ok (.iload_n 1, 1) := by decide +kernel
theorem dX7_renew_5 : decode cX7_renew 5 = .ok (.iload_n 2, 1) := by decide +kernel
theorem dX7_renew_6 : decode cX7_renew 6 = .ok (.iastore, 1) := by decide +kernel
theorem dX7_renew_7 : decode cX7_renew 7 = .ok (.aload_n 0, 1) := by decide +kernel
theorem dX7_renew_8 : decode cX7_renew 8 = .ok (.getfield 15, 3) := by decide +kernel
theorem dX7_renew_11 : decode cX7_renew 11 = .ok (.iload_n 1, 1) := by decide +kernel
theorem dX7_renew_12 : decode cX7_renew 12 = .ok (.iload_n 3, 1) := by decide +kernel
theorem dX7_renew_13 : decode cX7_renew 13 = .ok (.iastore, 1) := by decide +kernel
theorem dX7_renew_14 : decode cX7_renew 14 = .ok (.aload_n 0, 1) := by decide +kernel
theorem dX7_renew_15 : decode cX7_renew 15 = .ok (.getfield 20, 3) := by decide +kernel
theorem dX7_renew_18 : decode cX7_renew 18 = .ok (.iload_n 1, 1) := by decide +kernel
theorem dX7_renew_19 : decode cX7_renew 19 = .ok (.aaload, 1) := by decide +kernel
theorem dX7_renew_20 : decode cX7_renew 20 = .ok (.iconst 0, 1) := by decide +kernel
theorem dX7_renew_21 : decode cX7_renew 21 = .ok (.invokestatic 27, 3) := by decide +kernel
theorem dX7_renew_24 : decode cX7_renew 24 = .ok (.return_, 1) := by decide +kernel
theorem dX7_hasItems_0 : decode cX7_hasItems 0 = .ok (.iload_n 2, 1) := by decide +kernel
theorem dX7_hasItems_1 : decode cX7_hasItems 1 = .ok (.ifCond .lt 23, 3) := by decide +kernel
theorem dX7_hasItems_4 : decode cX7_hasItems 4 = .ok (.iload_n 3, 1) := by decide +kernel
theorem dX7_hasItems_5 : decode cX7_hasItems 5 = .ok (.ifCond .lt 19, 3) := by decide +kernel
theorem dX7_hasItems_8 : decode cX7_hasItems 8 = .ok (.iload_n 2, 1) := by decide +kernel
theorem dX7_hasItems_9 : decode cX7_hasItems 9 = .ok (.aload_n 0, 1) := by decide +kernel
theorem dX7_hasItems_10 : decode cX7_hasItems 10 = .ok (.getfield 15, 3) := by decide +kernel
theorem dX7_hasItems_13 : decode cX7_hasItems 13 = .ok (.iload_n 1, 1) := by decide +kernel
theorem dX7_hasItems_14 : decode cX7_hasItems 14 = .ok (.iaload, 1) := by decide +kernel
theorem dX7_hasItems_15 : decode cX7_hasItems 15 = .ok (.iload_n 3, 1) := by decide +kernel
theorem dX7_hasItems_16 : decode cX7_hasItems 16 = .ok (.isub, 1) := by decide +kernel
theorem dX7_hasItems_17 : decode cX7_hasItems 17 = .ok (.if_icmp .gt 7, 3) := by decide +kernel
theorem dX7_hasItems_20 : decode cX7_hasItems 20 = .ok (.iconst 1, 1) := by decide +kernel
theorem dX7_hasItems_21 : decode cX7_hasItems 21 = .ok (.goto 4, 3) := by decide +kernel
theorem dX7_hasItems_24 : decode cX7_hasItems 24 = .ok (.iconst 0, 1) := by decide +kernel
theorem dX7_hasItems_25 : decode cX7_hasItems 25 = .ok (.ireturn, 1) := by decide +kernel
theorem dX7_lookAt_0 : decode cX7_lookAt 0 = .ok (.aload_n 0, 1) := by decide +kernel
theorem dX7_lookAt_1 : decode cX7_lookAt 1 = .ok (.iload_n 1, 1) := by decide +kernel
theorem dX7_lookAt_2 : decode cX7_lookAt 2 = .ok (.invokevirtual 33, 3) := by decide +kernel
theorem dX7_lookAt_5 : decode cX7_lookAt 5 = .ok (.ifCond .eq 5, 3) := by decide +kernel
theorem dX7_lookAt_8 : decode cX7_lookAt 8 = .ok (.iconst 1, 1) := by decide +kernel
theorem dX7_lookAt_9 : decode cX7_lookAt 9 = .ok (.ireturn, 1) := by decide +kernel
theorem dX7_lookAt_10 : decode cX7_lookAt 10 = .ok (.aload_n 0, 1) := by decide +kernel
theorem dX7_lookAt_11 : decode cX7_lookAt 11 = .ok (.getfield 9, 3) := by decide +kernel
theorem dX7_lookAt_14 : decode cX7_lookAt 14 = .ok (.iload_n 1, 1) := by decide +kernel
theorem dX7_lookAt_15 : decode cX7_lookAt 15 = .ok (.iaload, 1) := by decide +kernel
theorem dX7_lookAt_16 : decode cX7_lookAt 16 = .ok (.iload_n 2, 1) := by decide +kernel
theorem dX7_lookAt_17 : decode cX7_lookAt 17 = .ok (.if_icmp .eq 5, 3) := by decide +kernel
theorem dX7_lookAt_20 : decode cX7_lookAt 20 = .ok (.iconst 3, 1) := by decide +kernel
theorem dX7_lookAt_21 : decode cX7_lookAt 21 = .ok (.ireturn, 1) := by decide +kernel
theorem dX7_lookAt_22 : decode cX7_lookAt 22 = .ok (.aload_n 0, 1) := by decide +kernel
theorem dX7_lookAt_23 : decode cX7_lookAt 23 = .ok (.iload_n 1, 1) := by decide +kernel
theorem dX7_lookAt_24 : decode cX7_lookAt 24 = .ok (.iload_n 3, 1) := by decide +kernel
theorem dX7_lookAt_25 : decode cX7_lookAt 25 = .ok (.iconst 1, 1) := by decide +kernel
theorem dX7_lookAt_26 : decode cX7_lookAt 26 = .ok (.invokevirtual 37, 3) := by decide +kernel
theorem dX7_lookAt_29 : decode cX7_lookAt 29 = .ok (.ifCond .eq 7, 3) := by decide +kernel
theorem dX7_lookAt_32 : decode cX7_lookAt 32 = .ok (.iconst 0, 1) := by decide +kernel
theorem dX7_lookAt_33 : decode cX7_lookAt 33 = .ok (.goto 4, 3) := by decide +kernel
theorem dX7_lookAt_36 : decode cX7_lookAt 36 = .ok (.iconst 2, 1) := by decide +kernel
theorem dX7_lookAt_37 : decode cX7_lookAt 37 = .ok (.ireturn, 1) := by decide +kernel
theorem dX8_init_0 : decode cX8_init 0 = .ok (.aload_n 0, 1) := by decide +kernel
theorem dX8_init_1 : decode cX8_init 1 = .ok (.invokespecial 1, 3) := by decide +kernel
theorem dX8_init_4 : decode cX8_init 4 = .ok (.aload_n 0, 1) := by decide +kernel
theorem dX8_init_5 : decode cX8_init 5 = .ok (.new 7, 3) := by decide +kernel
theorem dX8_init_8 : decode cX8_init 8 = .ok (.dup, 1) := by decide +kernel
theorem dX8_init_9 : decode cX8_init 9 = .ok (.invokespecial 9, 3) := by decide +kernel
theorem dX8_init_12 : decode cX8_init 12 = .ok (.putfield 10, 3) := by decide +kernel
theorem dX8_init_15 : decode cX8_init 15 = .ok (.aload_n 0, 1) := by decide +kernel
theorem dX8_init_16 : decode cX8_init 16 = .ok (.new 16, 3) := by decide +kernel
theorem dX8_init_19 : decode cX8_init 19 = .ok (.dup, 1) := by decide +kernel
theorem dX8_init_20 : decode cX8_init 20 = .ok (.invokespecial 18, 3) := by decide +kernel
theorem dX8_init_23 : decode cX8_init 23 = .ok (.putfield 19, 3) := by decide +kernel
theorem dX8_init_26 : decode cX8_init 26 = .ok (.aload_n 0, 1) := by decide +kernel
theorem dX8_init_27 : decode cX8_init 27 = .ok (.new 23, 3) := by decide +kernel
theorem dX8_init_30 : decode cX8_init 30 = .ok (.dup, 1) := by decide +kernel
theorem dX8_init_31 : decode cX8_init 31 = .ok (.invokespecial 25, 3) := by decide +kernel
theorem dX8_init_34 : decode cX8_init 34 = .ok (.putfield 26, 3) := by decide +kernel
theorem dX8_init_37 : decode cX8_init 37 = .ok (.aload_n 0, 1) := by decide +kernel
theorem dX8_init_38 : decode cX8_init 38 = .ok (.new 30, 3) := by decide +kernel
theorem dX8_init_41 : decode cX8_init 41 = .ok (.dup, 1) := by decide +kernel
theorem dX8_init_42 : decode cX8_init 42 = .ok (.invokespecial 32, 3) := by decide +kernel
theorem dX8_init_45 : decode cX8_init 45 = .ok (.putfield 33, 3) := by decide +kernel
theorem dX8_init_48 : decode cX8_init 48 = .ok (.aload_n 0, 1) := by decide +kernel
theorem dX8_init_49 : decode cX8_init 49 = .ok (.new 37, 3) := by decide +kernel
theorem dX8_init_52 : decode cX8_init 52 = .ok (.dup, 1) := by decide +kernel
theorem dX8_init_53 : decode cX8_init 53 = .ok (.invokespecial 39, 3) := by decide +kernel
theorem dX8_init_56 : decode cX8_init 56 = .ok (.putfield 40, 3) := by decide +kernel
theorem dX8_init_59 : decode cX8_init 59 = .ok (.aload_n 0, 1) := by decide +kernel
theorem dX8_init_60 : decode cX8_init 60 = .ok (.new 44, 3) := by decide +kernel
theorem dX8_init_63 : decode cX8_init 63 = .ok (.dup, 1) := by decide +kernel
theorem dX8_init_64 : decode cX8_init 64 = .ok (.invokespecial 46, 3) := by decide +kernel
theorem dX8_init_67 : decode cX8_init 67 = .ok (.putfield 47, 3) := by decide +kernel
theorem dX8_init_70 : decode cX8_init 70 = .ok (.aload_n 0, 1) := by decide +kernel
theorem dX8_init_71 : decode cX8_init 71 = .ok (.new 51, 3) := by decide +kernel
theorem dX8_init_74 : decode cX8_init 74 = .ok (.dup, 1) := by decide +kernel
theorem dX8_init_75 : decode cX8_init 75 = .ok (.invokespecial 53, 3) := by decide +kernel
theorem dX8_init_78 : decode cX8_init 78 = .ok (.putfield 54, 3) := by decide +kernel
theorem dX8_init_81 : decode cX8_init 81 = .ok (.aload_n 0, 1) := by decide +kernel
theorem dX8_init_82 : decode cX8_init 82 = .ok (.new 58, 3) := by decide +kernel
theorem dX8_init_85 : decode cX8_init 85 = .ok (.dup, 1) := by decide +kernel
theorem dX8_init_86 : decode cX8_init 86 = .ok (.iconst 0, 1) := by decide +kernel
theorem dX8_init_87 : decode cX8_init 87 = .ok (.invokespecial 60, 3) := by decide +kernel
theorem dX8_init_90 : decode cX8_init 90 = .ok (.putfield 63, 3) := by decide +kernel
theorem dX8_init_93 : decode cX8_init 93 = .ok (.aload_n 0, 1) := by decide +kernel
theorem dX8_init_94 : decode cX8_init 94 = .ok (.new 58, 3) := by decide +kernel
theorem dX8_init_97 : decode cX8_init 97 = .ok (.dup, 1) := by decide +kernel
theorem dX8_init_98 : decode cX8_init 98 = .ok (.iconst 1, 1) := by decide +kernel
theorem dX8_init_99 : decode cX8_init 99 = .ok (.invokespecial 60, 3) := by decide +kernel
theorem dX8_init_102 : decode cX8_init 102 = .ok (.putfield 67, 3) := by decide +kernel
theorem dX8_init_105 : decode cX8_init 105 = .ok (.aload_n 0, 1) := by decide +kernel
theorem dX8_init_106 : decode cX8_init 106 = .ok (.bipush 40, 2) := by decide +kernel
theorem dX8_init_108 : decode cX8_init 108 = .ok (.newarray .int, 2) := by decide +kernel
theorem dX8_init_110 : decode cX8_init 110 = .ok (.putfield 70, 3) := by decide +kernel
theorem dX8_init_113 : decode cX8_init 113 = .ok (.aload_n 0, 1) := by decide +kernel
theorem dX8_init_114 : decode cX8_init 114 = .ok (.bipush 8, 2) := by decide +kernel
theorem dX8_init_116 : decode cX8_init 116 = .ok (.bipush 8, 2) := by decide +kernel
theorem dX8_init_118 : decode cX8_init 118 = .ok (.multianewarray 74 2, 4) := by decide +kernel
theorem dX8_init_122 : decode cX8_init 122 = .ok (.putfield 76, 3) := by decide +kernel
theorem dX8_init_125 : decode cX8_init 125 = .ok (.return_, 1) := by decide +kernel
theorem dX8_sheet_0 : decode cX8_sheet 0 = .ok (.iload_n 1, 1) := by decide +kernel
theorem dX8_sheet_1 : decode cX8_sheet 1 = .ok (.invokestatic 79, 3) := by decide +kernel
theorem dX8_sheet_4 : decode cX8_sheet 4 = .ok (.ifCond .eq 16, 3) := by decide +kernel
theorem dX8_sheet_7 : decode cX8_sheet 7 = .ok (.iload_n 2, 1) := by decide +kernel
theorem dX8_sheet_8 : decode cX8_sheet 8 = .ok (.invokestatic 83, 3) := by decide +kernel
theorem dX8_sheet_11 : decode cX8_sheet 11 = .ok (.ifCond .eq 9, 3) := by decide +kernel
theorem dX8_sheet_14 : decode cX8_sheet 14 = .ok (.iload_n 3, 1) := by decide +kernel
theorem dX8_sheet_15 : decode cX8_sheet 15 = .ok (.bipush 40, 2) := by decide +kernel
theorem dX8_sheet_17 : decode cX8_sheet 17 = .ok (.if_icmp .le 6, 3) := by decide +kernel
theorem dX8_sheet_20 : decode cX8_sheet 20 = .ok (.bipush (-2), 2) := by decide +kernel
theorem dX8_sheet_22 : decode cX8_sheet 22 = .ok (.ireturn, 1) := by decide +kernel
theorem dX8_sheet_23 : decode cX8_sheet 23 = .ok (.iload_n 3, 1) := by decide +kernel
theorem dX8_sheet_24 : decode cX8_sheet 24 = .ok (.ifCond .ge 12, 3) := by decide +kernel
theorem dX8_sheet_27 : decode cX8_sheet 27 = .ok (.aload_n 0, 1) := by decide +kernel
theorem dX8_sheet_28 : decode cX8_sheet 28 = .ok (.getfield 10, 3) := by decide +kernel
theorem dX8_sheet_31 : decode cX8_sheet 31 = .ok (.iconst 5, 1) := by decide +kernel
theorem dX8_sheet_32 : decode cX8_sheet 32 = .ok (.invokevirtual 86, 3) := by decide +kernel
theorem dX8_sheet_35 : decode cX8_sheet 35 = .ok (.ireturn, 1) := by decide +kernel
theorem dX8_sheet_36 : decode cX8_sheet 36 = .ok (.aload_n 0, 1) := by decide +kernel
theorem dX8_sheet_37 : decode cX8_sheet 37 = .ok (.getfield 10, 3) := by decide +kernel
theorem dX8_sheet_40 : decode cX8_sheet 40 = .ok (.iload_n 1, 1) := by decide +kernel
theorem dX8_sheet_41 : decode cX8_sheet 41 = .ok (.iload_n 2, 1) := by decide +kernel
theorem dX8_sheet_42 : decode cX8_sheet 42 = .ok (.iload_n 3, 1) := by decide +kernel
theorem dX8_sheet_43 : decode cX8_sheet 43 = .ok (.invokevirtual 90, 3) := by decide +kernel
theorem dX8_sheet_46 : decode cX8_sheet 46 = .ok (.iload_n 3, 1) := by decide +kernel
theorem dX8_sheet_47 : decode cX8_sheet 47 = .ok (.ireturn, 1) := by decide +kernel
theorem dX8_lose_0 : decode cX8_lose 0 = .ok (.iload_n 1, 1) := by decide +kernel
theorem dX8_lose_1 : decode cX8_lose 1 = .ok (.invokestatic 79, 3) := by decide +kernel
theorem dX8_lose_4 : decode cX8_lose 4 = .ok (.ifCond .ne 6, 3) := by decide +kernel
theorem dX8_lose_7 : decode cX8_lose 7 = .ok (.bipush (-2), 2) := by decide +kernel
theorem dX8_lose_9 : decode cX8_lose 9 = .ok (.ireturn, 1) := by decide +kernel
theorem dX8_lose_10 : decode cX8_lose 10 = .ok (.aload_n 0, 1) := by decide +kernel
theorem dX8_lose_11 : decode cX8_lose 11 = .ok (.getfield 10, 3) := by decide +kernel
theorem dX8_lose_14 : decode cX8_lose 14 = .ok (.iload_n 1, 1) := by decide +kernel
theorem dX8_lose_15 : decode cX8_lose 15 = .ok (.invokevirtual 94, 3) := by decide +kernel
theorem dX8_lose_18 : decode cX8_lose 18 = .ok (.ifCond .eq 12, 3) := by decide +kernel
theorem dX8_lose_21 : decode cX8_lose 21 = .ok (.aload_n 0, 1) := by decide +kernel
theorem dX8_lose_22 : decode cX8_lose 22 = .ok (.getfield 10, 3) := by decide +kernel
theorem dX8_lose_25 : decode cX8_lose 25 = .ok (.iconst 1, 1) := by decide +kernel
theorem dX8_lose_26 : decode cX8_lose 26 = .ok (.invokevirtual 86, 3) := by decide +kernel
theorem dX8_lose_29 : decode cX8_lose 29 = .ok (.ireturn, 1) := by decide +kernel
theorem dX8_lose_30 : decode cX8_lose 30 = .ok (.aload_n 0, 1) := by decide +kernel
theorem dX8_lose_31 : decode cX8_lose 31 = .ok (.getfield 10, 3) := by decide +kernel
theorem dX8_lose_34 : decode cX8_lose 34 = .ok (.getfield 97, 3) := by decide +kernel
theorem dX8_lose_37 : decode cX8_lose 37 = .ok (.iload_n 1, 1) := by decide +kernel
theorem dX8_lose_38 : decode cX8_lose 38 = .ok (.iconst (-1), 1) := by decide +kernel
theorem dX8_lose_39 : decode cX8_lose 39 = .ok (.iastore, 1) := by decide +kernel
theorem dX8_lose_40 : decode cX8_lose 40 = .ok (.aload_n 0, 1) := by decide +kernel
theorem dX8_lose_41 : decode cX8_lose 41 = .ok (.getfield 10, 3) := by decide +kernel
theorem dX8_lose_44 : decode cX8_lose 44 = .ok (.getfield 100, 3) := by decide +kernel
theorem dX8_lose_47 : decode cX8_lose 47 = .ok (.iload_n 1, 1) := by decide +kernel
theorem dX8_lose_48 : decode cX8_lose 48 = .ok (.iaload, 1) := by decide +kernel
theorem dX8_lose_49 : decode cX8_lose 49 = .ok (.ireturn, 1) := by decide +kernel
theorem dX8_put_0 : decode cX8_put 0 = .ok (.iload_n 1, 1) := by decide +kernel
theorem dX8_put_1 : decode cX8_put 1 = .ok (.invokestatic 79, 3) := by decide +kernel
theorem dX8_put_4 : decode cX8_put 4 = .ok (.ifCond .eq 10, 3) := by decide +kernel
theorem dX8_put_7 : decode cX8_put 7 = .ok (.iload_n 2, 1) := by decide +kernel
theorem dX8_put_8 : decode cX8_put 8 = .ok (.invokestatic 83, 3) := by decide +kernel
theorem dX8_put_11 : decode cX8_put 11 = .ok (.ifCond .ne 6, 3) := by decide +kernel
theorem dX8_put_14 : decode cX8_put 14 = .ok (.bipush (-2), 2) := by decide +kernel
theorem dX8_put_16 : decode cX8_put 16 = .ok (.ireturn, 1) := by decide +kernel
theorem dX8_put_17 : decode cX8_put 17 = .ok (.aload_n 0, 1) := by decide +kernel
theorem dX8_put_18 : decode cX8_put 18 = .ok (.getfield 10, 3) := by decide +kernel
theorem dX8_put_21 : decode cX8_put 21 = .ok (.iload_n 1, 1) := by decide +kernel
theorem dX8_put_22 : decode cX8_put 22 = .ok (.iload_n 2, 1) := by decide +kernel
theorem dX8_put_23 : decode cX8_put 23 = .ok (.iload_n 3, 1) := by decide +kernel
theorem dX8_put_24 : decode cX8_put 24 = .ok (.invokevirtual 103, 3) := by decide +kernel
theorem dX8_put_27 : decode cX8_put 27 = .ok (.istore 5, 2) := by decide +kernel
theorem dX8_put_29 : decode cX8_put 29 = .ok (.iload 5, 2) := by decide +kernel
theorem dX8_put_31 : decode cX8_put 31 = .ok (.ifCond .eq 13, 3) := by decide +kernel
theorem dX8_put_34 : decode cX8_put 34 = .ok (.aload_n 0, 1) := by decide +kernel
theorem dX8_put_35 : decode cX8_put 35 = .ok (.getfield 10, 3) := by decide +kernel
theorem dX8_put_38 : decode cX8_put 38 = .ok (.iload 5, 2) := by decide +kernel
theorem dX8_put_40 : decode cX8_put 40 = .ok (.invokevirtual 86, 3) := by decide +kernel
theorem dX8_put_43 : decode cX8_put 43 = .ok (.ireturn, 1) := by decide +kernel
theorem dX8_put_44 : decode cX8_put 44 = .ok (.aload_n 0, 1) := by decide +kernel
theorem dX8_put_45 : decode cX8_put 45 = .ok (.getfield 10, 3) := by decide +kernel
theorem dX8_put_48 : decode cX8_put 48 = .ok (.getfield 107, 3) := by decide +kernel
theorem dX8_put_51 : decode cX8_put 51 = .ok (.iload_n 1, 1) := by decide +kernel
theorem dX8_put_52 : decode cX8_put 52 = .ok (.aaload, 1) := by decide +kernel
theorem dX8_put_53 : decode cX8_put 53 = .ok (.iload_n 3, 1) := by decide +kernel
theorem dX8_put_54 : decode cX8_put 54 = .ok (.iload_n 2, 1) := by decide +kernel
theorem dX8_put_55 : decode cX8_put 55 = .ok (.iload 4, 2) := by decide +kernel
theorem dX8_put_57 : decode cX8_put 57 = .ok (.invokestatic 110, 3) := by decide +kernel
theorem dX8_put_60 : decode cX8_put 60 = .ok (.iastore, 1) := by decide +kernel
theorem dX8_put_61 : decode cX8_put 61 = .ok (.iconst 1, 1) := by decide +kernel
theorem dX8_put_62 : decode cX8_put 62 = .ok (.ireturn, 1) := by decide +kernel
theorem dX8_get_0 : decode cX8_get 0 = .ok (.iload_n 1, 1) := by decide +kernel
theorem dX8_get_1 : decode cX8_get 1 = .ok (.invokestatic 79, 3) := by decide +kernel
theorem dX8_get_4 : decode cX8_get 4 = .ok (.ifCond .eq 10, 3) := by decide +kernel
theorem dX8_get_7 : decode cX8_get 7 = .ok (.iload_n 2, 1) := by decide +kernel
theorem dX8_get_8 : decode cX8_get 8 = .ok (.invokestatic 83, 3) := by decide +kernel
theorem dX8_get_11 : decode cX8_get 11 = .ok (.ifCond .ne 6, 3) := by decide +kernel
theorem dX8_get_14 : decode cX8_get 14 = .ok (.ldc 114, 2) := by decide +kernel
theorem dX8_get_16 : decode cX8_get 16 = .ok (.ireturn, 1) := by decide +kernel
theorem dX8_get_17 : decode cX8_get 17 = .ok (.aload_n 0, 1) := by decide +kernel
theorem dX8_get_18 : decode cX8_get 18 = .ok (.getfield 10, 3) := by decide +kernel
theorem dX8_get_21 : decode cX8_get 21 = .ok (.iload_n 1, 1) := by decide +kernel
theorem dX8_get_22 : decode cX8_get 22 = .ok (.iload_n 2, 1) := by decide +kernel
theorem dX8_get_23 : decode cX8_get 23 = .ok (.iload_n 3, 1) := by decide +kernel
theorem dX8_get_24 : decode cX8_get 24 = .ok (.invokevirtual 103, 3) := by decide +kernel
theorem dX8_get_27 : decode cX8_get 27 = .ok (.istore 4, 2) := by decide +kernel
theorem dX8_get_29 : decode cX8_get 29 = .ok (.iload 4, 2) := by decide +kernel
theorem dX8_get_31 : decode cX8_get 31 = .ok (.ifCond .eq 16, 3) := by decide +kernel
theorem dX8_get_34 : decode cX8_get 34 = .ok (.aload_n 0, 1) := by decide +kernel
theorem dX8_get_35 : decode cX8_get 35 = .ok (.getfield 10, 3) := by decide +kernel
theorem dX8_get_38 : decode cX8_get 38 = .ok (.iload 4, 2) := by decide +kernel
theorem dX8_get_40 : decode cX8_get 40 = .ok (.invokevirtual 86, 3) := by decide +kernel
theorem dX8_get_43 : decode cX8_get 43 = .ok (.pop, 1) := by decide +kernel
theorem dX8_get_44 : decode cX8_get 44 = .ok (.ldc 114, 2) := by decide +kernel
theorem dX8_get_46 : decode cX8_get 46 = .ok (.ireturn, 1) := by decide +kernel
theorem dX8_get_47 : decode cX8_get 47 = .ok (.aload_n 0, 1) := by decide +kernel
theorem dX8_get_48 : decode cX8_get 48 = .ok (.getfield 10, 3) := by decide +kernel
theorem dX8_get_51 : decode cX8_get 51 = .ok (.getfield 107, 3) := by decide +kernel
theorem dX8_get_54 : decode cX8_get 54 = .ok (.iload_n 1, 1) := by decide +kernel
theorem dX8_get_55 : decode cX8_get 55 = .ok (.aaload, 1) := by decide +kernel
theorem dX8_get_56 : decode cX8_get 56 = .ok (.iload_n 3, 1) := by decide +kernel
theorem dX8_get_57 : decode cX8_get 57 = .ok (.iaload, 1) := by decide +kernel
theorem dX8_get_58 : decode cX8_get 58 = .ok (.ireturn, 1) := by decide +kernel
theorem dX8_copy_0 : decode cX8_copy 0 = .ok (.iload_n 1, 1) := by decide +kernel
theorem dX8_copy_1 : decode cX8_copy 1 = .ok (.invokestatic 79, 3) := by decide +kernel
theorem dX8_copy_4 : decode cX8_copy 4 = .ok (.ifCond .eq 10, 3) := by decide +kernel
theorem dX8_copy_7 : decode cX8_copy 7 = .ok (.iload_n 3, 1) := by decide +kernel
theorem dX8_copy_8 : decode cX8_copy 8 = .ok (.invokestatic 79, 3) := by decide +kernel
theorem dX8_copy_11 : decode cX8_copy 11 = .ok (.ifCond .ne 6, 3) := by decide +kernel
theorem dX8_copy_14 : decode cX8_copy 14 = .ok (.bipush (-2), 2) := by decide +kernel
theorem dX8_copy_16 : decode cX8_copy 16 = .ok (.ireturn, 1) := by decide +kernel
theorem dX8_copy_17 : decode cX8_copy 17 = .ok (.aload_n 0, 1) := by decide +kernel
theorem dX8_copy_18 : decode cX8_copy 18 = .ok (.getfield 10, 3) := by decide +kernel
theorem dX8_copy_21 : decode cX8_copy 21 = .ok (.iload_n 1, 1) := by decide +kernel
theorem dX8_copy_22 : decode cX8_copy 22 = .ok (.invokevirtual 94, 3) := by decide +kernel
theorem dX8_copy_25 : decode cX8_copy 25 = .ok (.ifCond .ne 14, 3) := by decide +kernel
theorem dX8_copy_28 : decode cX8_copy 28 = .ok (.aload_n 0, 1) := by decide +kernel
theorem dX8_copy_29 : decode cX8_copy 29 = .ok (.getfield 10, 3) := by decide +kernel
theorem dX8_copy_32 : decode cX8_copy 32 = .ok (.iload_n 3, 1) := by decide +kernel
theorem dX8_copy_33 : decode cX8_copy 33 = .ok (.invokevirtual 94, 3) := by decide +kernel
theorem dX8_copy_36 : decode cX8_copy 36 = .ok (.ifCond .eq 12, 3) := by decide +kernel
theorem dX8_copy_39 : decode cX8_copy 39 = .ok (.aload_n 0, 1) := by decide +kernel
theorem dX8_copy_40 : decode cX8_copy 40 = .ok (.getfield 10, 3) := by decide +kernel
theorem dX8_copy_43 : decode cX8_copy 43 = .ok (.iconst 1, 1) := by decide +kernel
theorem dX8_copy_44 : decode cX8_copy 44 = .ok (.invokevirtual 86, 3) := by decide +kernel
theorem dX8_copy_47 : decode cX8_copy 47 = .ok (.ireturn, 1) := by decide +kernel
theorem dX8_copy_48 : decode cX8_copy 48 = .ok (.aload_n 0, 1) := by decide +kernel
theorem dX8_copy_49 : decode cX8_copy 49 = .ok (.getfield 10, 3) := by decide +kernel
theorem dX8_copy_52 : decode cX8_copy 52 = .ok (.getfield 97, 3) := by decide +kernel
theorem dX8_copy_55 : decode cX8_copy 55 = .ok (.iload_n 1, 1) := by decide +kernel
theorem dX8_copy_56 : decode cX8_copy 56 = .ok (.iaload, 1) := by decide +kernel
theorem dX8_copy_57 : decode cX8_copy 57 = .ok (.aload_n 0, 1) := by decide +kernel
theorem dX8_copy_58 : decode cX8_copy 58 = .ok (.getfield 10, 3) := by decide +kernel
theorem dX8_copy_61 : decode cX8_copy 61 = .ok (.getfield 97, 3) := by decide +kernel
theorem dX8_copy_64 : decode cX8_copy 64 = .ok (.iload_n 3, 1) := by decide +kernel
theorem dX8_copy_65 : decode cX8_copy 65 = .ok (.iaload, 1) := by decide +kernel
theorem dX8_copy_66 : decode cX8_copy 66 = .ok (.if_icmp .eq 12, 3) := by decide +kernel
theorem dX8_copy_69 : decode cX8_copy 69 = .ok (.aload_n 0, 1) := by decide +kernel
theorem dX8_copy_70 : decode cX8_copy 70 = .ok (.getfield 10, 3) := by decide +kernel
theorem dX8_copy_73 : decode cX8_copy 73 = .ok (.iconst 4, 1) := by decide +kernel
theorem dX8_copy_74 : decode cX8_copy 74 = .ok (.invokevirtual 86, 3) := by decide +kernel
theorem dX8_copy_77 : decode cX8_copy 77 = .ok (.ireturn, 1) := by decide +kernel
theorem dX8_copy_78 : decode cX8_copy 78 = .ok (.aload_n 0, 1) := by decide +kernel
theorem dX8_copy_79 : decode cX8_copy 79 = .ok (.getfield 10, 3) := by decide +kernel
theorem dX8_copy_82 : decode cX8_copy 82 = .ok (.iload_n 1, 1) := by decide +kernel
theorem dX8_copy_83 : decode cX8_copy 83 = .ok (.iload_n 2, 1) := by decide +kernel
theorem dX8_copy_84 : decode cX8_copy 84 = .ok (.iload 5, 2) := by decide +kernel
theorem dX8_copy_86 : decode cX8_copy 86 = .ok (.invokevirtual 115, 3) := by decide +kernel
theorem dX8_copy_89 : decode cX8_copy 89 = .ok (.ifCond .eq 18, 3) := by decide +kernel
theorem dX8_copy_92 : decode cX8_copy 92 = .ok (.aload_n 0, 1) := by decide +kernel
theorem dX8_copy_93 : decode cX8_copy 93 = .ok (.getfield 10, 3) := by decide +kernel
theorem dX8_copy_96 : decode cX8_copy 96 = .ok (.iload_n 3, 1) := by decide +kernel
theorem dX8_copy_97 : decode cX8_copy 97 = .ok (.iload 4, 2) := by decide +kernel
theorem dX8_copy_99 : decode cX8_copy 99 = .ok (.iload 5, 2) := by decide +kernel
theorem dX8_copy_101 : decode cX8_copy 101 = .ok (.invokevirtual 115, 3) := by decide +kernel
theorem dX8_copy_104 : decode cX8_copy 104 = .ok (.ifCond .ne 12, 3) := by decide +kernel
theorem dX8_copy_107 : decode cX8_copy 107 = .ok (.aload_n 0, 1) := by decide +kernel
theorem dX8_copy_108 : decode cX8_copy 108 = .ok (.getfield 10, 3) := by decide +kernel
theorem dX8_copy_111 : decode cX8_copy 111 = .ok (.iconst 2, 1) := by decide +kernel
theorem dX8_copy_112 : decode cX8_copy 112 = .ok (.invokevirtual 86, 3) := by decide +kernel
theorem dX8_copy_115 : decode cX8_copy 115 = .ok (.ireturn, 1) := by decide +kernel
theorem dX8_copy_116 : decode cX8_copy 116 = .ok (.aload_n 0, 1) := by decide +kernel
theorem dX8_copy_117 : decode cX8_copy 117 = .ok (.getfield 10, 3) := by decide +kernel
theorem dX8_copy_120 : decode cX8_copy 120 = .ok (.getfield 107, 3) := by decide +kernel
theorem dX8_copy_123 : decode cX8_copy 123 = .ok (.iload_n 1, 1) := by decide +kernel
theorem dX8_copy_124 : decode cX8_copy 124 = .ok (.aaload, 1) := by decide +kernel
theorem dX8_copy_125 : decode cX8_copy 125 = .ok (.iload_n 2, 1) := by decide +kernel
theorem dX8_copy_126 : decode cX8_copy 126 = .ok (.aload_n 0, 1) := by decide +kernel
theorem dX8_copy_127 : decode cX8_copy 127 = .ok (.getfield 10, 3) := by decide +kernel
theorem dX8_copy_130 : decode cX8_copy 130 = .ok (.getfield 107, 3) := by decide +kernel
theorem dX8_copy_133 : decode cX8_copy 133 = .ok (.iload_n 3, 1) := by decide +kernel
theorem dX8_copy_134 : decode cX8_copy 134 = .ok (.aaload, 1) := by decide +kernel
theorem dX8_copy_135 : decode cX8_copy 135 = .ok (.iload 4, 2) := by decide +kernel
theorem dX8_copy_137 : decode cX8_copy 137 = .ok (.iload 5, 2) := by decide +kernel
theorem dX8_copy_139 : decode cX8_copy 139 = .ok (.invokestatic 119, 3) := by decide +kernel
theorem dX8_copy_142 : decode cX8_copy 142 = .ok (.iconst 1, 1) := by decide +kernel
theorem dX8_copy_143 : decode cX8_copy 143 = .ok (.ireturn, 1) := by decide +kernel
theorem dX8_take_0 : decode cX8_take 0 = .ok (.iload_n 1, 1) := by decide +kernel
theorem dX8_take_1 : decode cX8_take 1 = .ok (.invokestatic 79, 3) := by decide +kernel
theorem dX8_take_4 : decode cX8_take 4 = .ok (.ifCond .eq 21, 3) := by decide +kernel
theorem dX8_take_7 : decode cX8_take 7 = .ok (.iload_n 2, 1) := by decide +kernel
theorem dX8_take_8 : decode cX8_take 8 = .ok (.invokestatic 79, 3) := by decide +kernel
theorem dX8_take_11 : decode cX8_take 11 = .ok (.ifCond .eq 14, 3) := by decide +kernel
theorem dX8_take_14 : decode cX8_take 14 = .ok (.iload_n 3, 1) := by decide +kernel
theorem dX8_take_15 : decode cX8_take 15 = .ok (.iconst 1, 1) := by decide +kernel
theorem dX8_take_16 : decode cX8_take 16 = .ok (.if_icmp .lt 9, 3) := by decide +kernel
theorem dX8_take_19 : decode cX8_take 19 = .ok (.iload_n 3, 1) := by decide +kernel
theorem dX8_take_20 : decode cX8_take 20 = .ok (.bipush 40, 2) := by decide +kernel
theorem dX8_take_22 : decode cX8_take 22 = .ok (.if_icmp .le 6, 3) := by decide +kernel
theorem dX8_take_25 : decode cX8_take 25 = .ok (.bipush (-2), 2) := by decide +kernel
theorem dX8_take_27 : decode cX8_take 27 = .ok (.ireturn, 1) := by decide +kernel
theorem dX8_take_28 : decode cX8_take 28 = .ok (.aload_n 0, 1) := by decide +kernel
theorem dX8_take_29 : decode cX8_take 29 = .ok (.getfield 19, 3) := by decide +kernel
theorem dX8_take_32 : decode cX8_take 32 = .ok (.getfield 125, 3) := by decide +kernel
theorem dX8_take_35 : decode cX8_take 35 = .ok (.iload_n 3, 1) := by decide +kernel
theorem dX8_take_36 : decode cX8_take 36 = .ok (.iadd, 1) := by decide +kernel
theorem dX8_take_37 : decode cX8_take 37 = .ok (.bipush 40, 2) := by decide +kernel
theorem dX8_take_39 : decode cX8_take 39 = .ok (.if_icmp .le 6, 3) := by decide +kernel
theorem dX8_take_42 : decode cX8_take 42 = .ok (.bipush (-3), 2) := by decide +kernel
theorem dX8_take_44 : decode cX8_take 44 = .ok (.ireturn, 1) := by decide +kernel
theorem dX8_take_45 : decode cX8_take 45 = .ok (.aload_n 0, 1) := by decide +kernel
theorem dX8_take_46 : decode cX8_take 46 = .ok (.getfield 10, 3) := by decide +kernel
theorem dX8_take_49 : decode cX8_take 49 = .ok (.iload_n 1, 1) := by decide +kernel
theorem dX8_take_50 : decode cX8_take 50 = .ok (.invokevirtual 94, 3) := by decide +kernel
theorem dX8_take_53 : decode cX8_take 53 = .ok (.ifCond .ne 14, 3) := by decide +kernel
theorem dX8_take_56 : decode cX8_take 56 = .ok (.aload_n 0, 1) := by decide +kernel
theorem dX8_take_57 : decode cX8_take 57 = .ok (.getfield 10, 3) := by decide +kernel
theorem dX8_take_60 : decode cX8_take 60 = .ok (.iload_n 2, 1) := by decide +kernel
theorem dX8_take_61 : decode cX8_take 61 = .ok (.invokevirtual 94, 3) := by decide +kernel
theorem dX8_take_64 : decode cX8_take 64 = .ok (.ifCond .eq 12, 3) := by decide +kernel
theorem dX8_take_67 : decode cX8_take 67 = .ok (.aload_n 0, 1) := by decide +kernel
theorem dX8_take_68 : decode cX8_take 68 = .ok (.getfield 10, 3) := by decide +kernel
theorem dX8_take_71 : decode cX8_take 71 = .ok (.iconst 1, 1) := by decide +kernel
theorem dX8_take_72 : decode cX8_take 72 = .ok (.invokevirtual 86, 3) := by decide +kernel
theorem dX8_take_75 : decode cX8_take 75 = .ok (.ireturn, 1) := by decide +kernel
theorem dX8_take_76 : decode cX8_take 76 = .ok (.aload_n 0, 1) := by decide +kernel
theorem dX8_take_77 : decode cX8_take 77 = .ok (.getfield 10, 3) := by decide +kernel
theorem dX8_take_80 : decode cX8_take 80 = .ok (.iload_n 1, 1) := by decide +kernel
theorem dX8_take_81 : decode cX8_take 81 = .ok (.iconst 0, 1) := by decide +kernel
theorem dX8_take_82 : decode cX8_take 82 = .ok (.iload_n 3, 1) := by decide +kernel
theorem dX8_take_83 : decode cX8_take 83 = .ok (.invokevirtual 115, 3) := by decide +kernel
theorem dX8_take_86 : decode cX8_take 86 = .ok (.ifCond .eq 16, 3) := by decide +kernel
theorem dX8_take_89 : decode cX8_take 89 = .ok (.aload_n 0, 1) := by decide +kernel
theorem dX8_take_90 : decode cX8_take 90 = .ok (.getfield 10, 3) := by decide +kernel
theorem dX8_take_93 : decode cX8_take 93 = .ok (.iload_n 2, 1) := by decide +kernel
theorem dX8_take_94 : decode cX8_take 94 = .ok (.iconst 0, 1) := by decide +kernel
theorem dX8_take_95 : decode cX8_take 95 = .ok (.iload_n 3, 1) := by decide +kernel
theorem dX8_take_96 : decode cX8_take 96 = .ok (.invokevirtual 115, 3) := by decide +kernel
theorem dX8_take_99 : decode cX8_take 99 = .ok (.ifCond .ne 12, 3) := by decide +kernel
theorem dX8_take_102 : decode cX8_take 102 = .ok (.aload_n 0, 1) := by decide +kernel
theorem dX8_take_103 : decode cX8_take 103 = .ok (.getfield 10, 3) := by decide +kernel
theorem dX8_take_106 : decode cX8_take 106 = .ok (.iconst 2, 1) := by decide +kernel
theorem dX8_take_107 : decode cX8_take 107 = .ok (.invokevirtual 86, 3) := by decide +kernel
theorem dX8_take_110 : decode cX8_take 110 = .ok (.ireturn, 1) := by decide +kernel
theorem dX8_take_111 : decode cX8_take 111 = .ok (.aload_n 0, 1) := by decide +kernel
theorem dX8_take_112 : decode cX8_take 112 = .ok (.getfield 10, 3) := by decide +kernel
theorem dX8_take_115 : decode cX8_take 115 = .ok (.getfield 107, 3) := by decide +kernel
theorem dX8_take_118 : decode cX8_take 118 = .ok (.iload_n 1, 1) := by decide +kernel
theorem dX8_take_119 : decode cX8_take 119 = .ok (.aaload, 1) := by decide +kernel
theorem dX8_take_120 : decode cX8_take 120 = .ok (.iload_n 3, 1) := by decide +kernel
theorem dX8_take_121 : decode cX8_take 121 = .ok (.invokestatic 129, 3) := by decide +kernel
theorem dX8_take_124 : decode cX8_take 124 = .ok (.ifCond .eq 19, 3) := by decide +kernel
theorem dX8_take_127 : decode cX8_take 127 = .ok (.aload_n 0, 1) := by decide +kernel
theorem dX8_take_128 : decode cX8_take 128 = .ok (.getfield 10, 3) := by decide +kernel
theorem dX8_take_131 : decode cX8_take 131 = .ok (.getfield 107, 3) := by decide +kernel
theorem dX8_take_134 : decode cX8_take 134 = .ok (.iload_n 2, 1) := by decide +kernel
theorem dX8_take_135 : decode cX8_take 135 = .ok (.aaload, 1) := by decide +kernel
theorem dX8_take_136 : decode cX8_take 136 = .ok (.iload_n 3, 1) := by decide +kernel
theorem dX8_take_137 : decode cX8_take 137 = .ok (.invokestatic 129, 3) := by decide +kernel
theorem dX8_take_140 : decode cX8_take 140 = .ok (.ifCond .ne 6, 3) := by decide +kernel
theorem dX8_take_143 : decode cX8_take 143 = .ok (.bipush (-2), 2) := by decide +kernel
theorem dX8_take_145 : decode cX8_take 145 = .ok (.ireturn, 1) := by decide +kernel
theorem dX8_take_146 : decode cX8_take 146 = .ok (.aload_n 0, 1) := by decide +kernel
theorem dX8_take_147 : decode cX8_take 147 = .ok (.getfield 26, 3) := by decide +kernel
theorem dX8_take_150 : decode cX8_take 150 = .ok (.aload_n 0, 1) := by decide +kernel
theorem dX8_take_151 : decode cX8_take 151 = .ok (.getfield 19, 3) := by decide +kernel
theorem dX8_take_154 : decode cX8_take 154 = .ok (.invokevirtual 133, 3) := by decide +kernel
theorem dX8_take_157 : decode cX8_take 157 = .ok (.iconst 0, 1) := by decide +kernel
theorem dX8_take_158 : decode cX8_take 158 = .ok (.istore 4, 2) := by decide +kernel
theorem dX8_take_160 : decode cX8_take 160 = .ok (.iload 4, 2) := by decide +kernel
theorem dX8_take_162 : decode cX8_take 162 = .ok (.iload_n 3, 1) := by decide +kernel
theorem dX8_take_163 : decode cX8_take 163 = .ok (.if_icmp .ge 40, 3) := by decide +kernel
theorem dX8_take_166 : decode cX8_take 166 = .ok (.aload_n 0, 1) := by decide +kernel
theorem dX8_take_167 : decode cX8_take 167 = .ok (.getfield 19, 3) := by decide +kernel
theorem dX8_take_170 : decode cX8_take 170 = .ok (.aload_n 0, 1) := by decide +kernel
theorem dX8_take_171 : decode cX8_take 171 = .ok (.getfield 10, 3) := by decide +kernel
theorem dX8_take_174 : decode cX8_take 174 = .ok (.getfield 107, 3) := by decide +kernel
theorem dX8_take_177 : decode cX8_take 177 = .ok (.iload_n 1, 1) := by decide +kernel
theorem dX8_take_178 : decode cX8_take 178 = .ok (.aaload, 1) := by decide +kernel
theorem dX8_take_179 : decode cX8_take 179 = .ok (.iload 4, 2) := by decide +kernel
theorem dX8_take_181 : decode cX8_take 181 = .ok (.iaload, 1) := by decide +kernel
theorem dX8_take_182 : decode cX8_take 182 = .ok (.aload_n 0, 1) := by decide +kernel
theorem dX8_take_183 : decode cX8_take 183 = .ok (.getfield 10, 3) := by decide +kernel
theorem dX8_take_186 : decode cX8_take 186 = .ok (.getfield 107, 3) := by decide +kernel
theorem dX8_take_189 : decode cX8_take 189 = .ok (.iload_n 2, 1) := by decide +kernel
theorem dX8_take_190 : decode cX8_take 190 = .ok (.aaload, 1) := by decide +kernel
theorem dX8_take_191 : decode cX8_take 191 = .ok (.iload 4, 2) := by decide +kernel
theorem dX8_take_193 : decode cX8_take 193 = .ok (.iaload, 1) := by decide +kernel
theorem dX8_take_194 : decode cX8_take 194 = .ok (.invokevirtual 137, 3) := by decide +kernel
theorem dX8_take_197 : decode cX8_take 197 = .ok (.iinc 4 1, 3) := by decide +kernel
theorem dX8_take_200 : decode cX8_take 200 = .ok (.goto (-40), 3) := by decide +kernel
theorem dX8_take_203 : decode cX8_take 203 = .ok (.aload_n 0, 1) := by decide +kernel
theorem dX8_take_204 : decode cX8_take 204 = .ok (.getfield 33, 3) := by decide +kernel
theorem dX8_take_207 : decode cX8_take 207 = .ok (.iconst 0, 1) := by decide +kernel
theorem dX8_take_208 : decode cX8_take 208 = .ok (.putfield 141, 3) := by decide +kernel
theorem dX8_take_211 : decode cX8_take 211 = .ok (.aload_n 0, 1) := by decide +kernel
theorem dX8_take_212 : decode cX8_take 212 = .ok (.getfield 19, 3) := by decide +kernel
theorem dX8_take_215 : decode cX8_take 215 = .ok (.getfield 125, 3) := by decide +kernel
theorem dX8_take_218 : decode cX8_take 218 = .ok (.ireturn, 1) := by decide +kernel
theorem dX8_loaf_0 : decode cX8_loaf 0 = .ok (.iload_n 1, 1) := by decide +kernel
theorem dX8_loaf_1 : decode cX8_loaf 1 = .ok (.invokestatic 145, 3) := by decide +kernel
theorem dX8_loaf_4 : decode cX8_loaf 4 = .ok (.ifCond .eq 10, 3) := by decide +kernel
theorem dX8_loaf_7 : decode cX8_loaf 7 = .ok (.iload_n 2, 1) := by decide +kernel
theorem dX8_loaf_8 : decode cX8_loaf 8 = .ok (.invokestatic 145, 3) := by decide +kernel
theorem dX8_loaf_11 : decode cX8_loaf 11 = .ok (.ifCond .ne 6, 3) := by decide +kernel
theorem dX8_loaf_14 : decode cX8_loaf 14 = .ok (.bipush (-2), 2) := by decide +kernel
theorem dX8_loaf_16 : decode cX8_loaf 16 = .ok (.ireturn, 1) := by decide +kernel
theorem dX8_loaf_17 : decode cX8_loaf 17 = .ok (.aload_n 0, 1) := by decide +kernel
theorem dX8_loaf_18 : decode cX8_loaf 18 = .ok (.getfield 19, 3) := by decide +kernel
theorem dX8_loaf_21 : decode cX8_loaf 21 = .ok (.getfield 125, 3) := by decide +kernel
theorem dX8_loaf_24 : decode cX8_loaf 24 = .ok (.bipush 40, 2) := by decide +kernel
theorem dX8_loaf_26 : decode cX8_loaf 26 = .ok (.if_icmp .lt 6, 3) := by decide +kernel
theorem dX8_loaf_29 : decode cX8_loaf 29 = .ok (.bipush (-3), 2) := by decide +kernel
theorem dX8_loaf_31 : decode cX8_loaf 31 = .ok (.ireturn, 1) := by decide +kernel
theorem dX8_loaf_32 : decode cX8_loaf 32 = .ok (.aload_n 0, 1) := by decide +kernel
theorem dX8_loaf_33 : decode cX8_loaf 33 = .ok (.getfield 26, 3) := by decide +kernel
theorem dX8_loaf_36 : decode cX8_loaf 36 = .ok (.aload_n 0, 1) := by decide +kernel
theorem dX8_loaf_37 : decode cX8_loaf 37 = .ok (.getfield 19, 3) := by decide +kernel
theorem dX8_loaf_40 : decode cX8_loaf 40 = .ok (.invokevirtual 133, 3) := by decide +kernel
theorem dX8_loaf_43 : decode cX8_loaf 43 = .ok (.aload_n 0, 1) := by decide +kernel
theorem dX8_loaf_44 : decode cX8_loaf 44 = .ok (.getfield 19, 3) := by decide +kernel
theorem dX8_loaf_47 : decode cX8_loaf 47 = .ok (.iload_n 1, 1) := by decide +kernel
theorem dX8_loaf_48 : decode cX8_loaf 48 = .ok (.iload_n 2, 1) := by decide +kernel
theorem dX8_loaf_49 : decode cX8_loaf 49 = .ok (.invokevirtual 137, 3) := by decide +kernel
theorem dX8_loaf_52 : decode cX8_loaf 52 = .ok (.aload_n 0, 1) := by decide +kernel
theorem dX8_loaf_53 : decode cX8_loaf 53 = .ok (.getfield 33, 3) := by decide +kernel
theorem dX8_loaf_56 : decode cX8_loaf 56 = .ok (.iconst 0, 1) := by decide +kernel
theorem dX8_loaf_57 : decode cX8_loaf 57 = .ok (.putfield 141, 3) := by decide +kernel
theorem dX8_loaf_60 : decode cX8_loaf 60 = .ok (.aload_n 0, 1) := by decide +kernel
theorem dX8_loaf_61 : decode cX8_loaf 61 = .ok (.getfield 19, 3) := by decide +kernel
theorem dX8_loaf_64 : decode cX8_loaf 64 = .ok (.getfield 125, 3) := by decide +kernel
theorem dX8_loaf_67 : decode cX8_loaf 67 = .ok (.iconst 1, 1) := by decide +kernel
theorem dX8_loaf_68 : decode cX8_loaf 68 = .ok (.isub, 1) := by decide +kernel
theorem dX8_loaf_69 : decode cX8_loaf 69 = .ok (.ireturn, 1) := by decide +kernel
theorem dX8_of_0 : decode cX8_of 0 = .ok (.aload_n 0, 1) := by decide +kernel
theorem dX8_of_1 : decode cX8_of 1 = .ok (.getfield 19, 3) := by decide +kernel
theorem dX8_of_4 : decode cX8_of 4 = .ok (.iload_n 1, 1) := by decide +kernel
theorem dX8_of_5 : decode cX8_of 5 = .ok (.invokevirtual 148, 3) := by decide +kernel
theorem dX8_of_8 : decode cX8_of 8 = .ok (.ifCond .ne 6, 3) := by decide +kernel
theorem dX8_of_11 : decode cX8_of 11 = .ok (.bipush (-2), 2) := by decide +kernel
theorem dX8_of_13 : decode cX8_of 13 = .ok (.ireturn, 1) := by decide +kernel
theorem dX8_of_14 : decode cX8_of 14 = .ok (.iload_n 2, 1) := by decide +kernel
theorem dX8_of_15 : decode cX8_of 15 = .ok (.tableswitch 95 0 5 #[37, 47, 57, 67, 77, 86], 37) := by decide +kernel
theorem dX8_of_52 : decode cX8_of 52 = .ok (.aload_n 0, 1) := by decide +kernel
theorem dX8_of_53 : decode cX8_of 53 = .ok (.getfield 19, 3) := by decide +kernel
theorem dX8_of_56 : decode cX8_of 56 = .ok (.getfield 151, 3) := by decide +kernel
theorem dX8_of_59 : decode cX8_of 59 = .ok (.iload_n 1, 1) := by decide +kernel
theorem dX8_of_60 : decode cX8_of 60 = .ok (.iaload, 1) := by decide +kernel
theorem dX8_of_61 : decode cX8_of 61 = .ok (.ireturn, 1) := by decide +kernel
theorem dX8_of_62 : decode cX8_of 62 = .ok (.aload_n 0, 1) := by decide +kernel
theorem dX8_of_63 : decode cX8_of 63 = .ok (.getfield 19, 3) := by decide +kernel
theorem dX8_of_66 : decode cX8_of 66 = .ok (.getfield 154, 3) := by decide +kernel
theorem dX8_of_69 : decode cX8_of 69 = .ok (.iload_n 1, 1) := by decide +kernel
theorem dX8_of_70 : decode cX8_of 70 = .ok (.iaload, 1) := by decide +kernel
theorem dX8_of_71 : decode cX8_of 71 = .ok (.ireturn, 1) := by decide +kernel
theorem dX8_of_72 : decode cX8_of 72 = .ok (.aload_n 0, 1) := by decide +kernel
theorem dX8_of_73 : decode cX8_of 73 = .ok (.getfield 19, 3) := by decide +kernel
theorem dX8_of_76 : decode cX8_of 76 = .ok (.getfield 157, 3) := by decide +kernel
theorem dX8_of_79 : decode cX8_of 79 = .ok (.iload_n 1, 1) := by decide +kernel
theorem dX8_of_80 : decode cX8_of 80 = .ok (.iaload, 1) := by decide +kernel
theorem dX8_of_81 : decode cX8_of 81 = .ok (.ireturn, 1) := by decide +kernel
theorem dX8_of_82 : decode cX8_of 82 = .ok (.aload_n 0, 1) := by decide +kernel
theorem dX8_of_83 : decode cX8_of 83 = .ok (.getfield 19, 3) := by decide +kernel
theorem dX8_of_86 : decode cX8_of 86 = .ok (.getfield 160, 3) := by decide +kernel
theorem dX8_of_89 : decode cX8_of 89 = .ok (.iload_n 1, 1) := by decide +kernel
theorem dX8_of_90 : decode cX8_of 90 = .ok (.iaload, 1) := by decide +kernel
theorem dX8_of_91 : decode cX8_of 91 = .ok (.ireturn, 1) := by decide +kernel
theorem dX8_of_92 : decode cX8_of 92 = .ok (.aload_n 0, 1) := by decide +kernel
theorem dX8_of_93 : decode cX8_of 93 = .ok (.getfield 19, 3) := by decide +kernel
theorem dX8_of_96 : decode cX8_of 96 = .ok (.iload_n 1, 1) := by decide +kernel
theorem dX8_of_97 : decode cX8_of 97 = .ok (.invokevirtual 163, 3) := by decide +kernel
theorem dX8_of_100 : decode cX8_of 100 = .ok (.ireturn, 1) := by decide +kernel
theorem dX8_of_101 : decode cX8_of 101 = .ok (.aload_n 0, 1) := by decide +kernel
theorem dX8_of_102 : decode cX8_of 102 = .ok (.getfield 19, 3) := by decide +kernel
theorem dX8_of_105 : decode cX8_of 105 = .ok (.iload_n 1, 1) := by decide +kernel
theorem dX8_of_106 : decode cX8_of 106 = .ok (.invokevirtual 166, 3) := by decide +kernel
theorem dX8_of_109 : decode cX8_of 109 = .ok (.ireturn, 1) := by decide +kernel
theorem dX8_of_110 : decode cX8_of 110 = .ok (.bipush (-2), 2) := by decide +kernel
theorem dX8_of_112 : decode cX8_of 112 = .ok (.ireturn, 1) := by decide +kernel
theorem dX8_heat_0 : decode cX8_heat 0 = .ok (.aload_n 0, 1) := by decide +kernel
theorem dX8_heat_1 : decode cX8_heat 1 = .ok (.getfield 19, 3) := by decide +kernel
theorem dX8_heat_4 : decode cX8_heat 4 = .ok (.iload_n 1, 1) := by decide +kernel
theorem dX8_heat_5 : decode cX8_heat 5 = .ok (.invokevirtual 148, 3) := by decide +kernel
theorem dX8_heat_8 : decode cX8_heat 8 = .ok (.ifCond .eq 17, 3) := by decide +kernel
theorem dX8_heat_11 : decode cX8_heat 11 = .ok (.iload_n 2, 1) := by decide +kernel
theorem dX8_heat_12 : decode cX8_heat 12 = .ok (.invokestatic 169, 3) := by decide +kernel
theorem dX8_heat_15 : decode cX8_heat 15 = .ok (.ifCond .eq 10, 3) := by decide +kernel
theorem dX8_heat_18 : decode cX8_heat 18 = .ok (.iload_n 3, 1) := by decide +kernel
theorem dX8_heat_19 : decode cX8_heat 19 = .ok (.invokestatic 169, 3) := by decide +kernel
theorem dX8_heat_22 : decode cX8_heat 22 = .ok (.ifCond .ne 6, 3) := by decide +kernel
theorem dX8_heat_25 : decode cX8_heat 25 = .ok (.bipush (-2), 2) := by decide +kernel
theorem dX8_heat_27 : decode cX8_heat 27 = .ok (.ireturn, 1) := by decide +kernel
theorem dX8_heat_28 : decode cX8_heat 28 = .ok (.aload_n 0, 1) := by decide +kernel
theorem dX8_heat_29 : decode cX8_heat 29 = .ok (.getfield 26, 3) := by decide +kernel
theorem dX8_heat_32 : decode cX8_heat 32 = .ok (.aload_n 0, 1) := by decide +kernel
theorem dX8_heat_33 : decode cX8_heat 33 = .ok (.getfield 19, 3) := by decide +kernel
theorem dX8_heat_36 : decode cX8_heat 36 = .ok (.invokevirtual 133, 3) := by decide +kernel
theorem dX8_heat_39 : decode cX8_heat 39 = .ok (.aload_n 0, 1) := by decide +kernel
theorem dX8_heat_40 : decode cX8_heat 40 = .ok (.getfield 19, 3) := by decide +kernel
theorem dX8_heat_43 : decode cX8_heat 43 = .ok (.getfield 157, 3) := by decide +kernel
theorem dX8_heat_46 : decode cX8_heat 46 = .ok (.iload_n 1, 1) := by decide +kernel
theorem dX8_heat_47 : decode cX8_heat 47 = .ok (.iload_n 2, 1) := by decide +kernel
theorem dX8_heat_48 : decode cX8_heat 48 = .ok (.iastore, 1) := by decide +kernel
theorem dX8_heat_49 : decode cX8_heat 49 = .ok (.aload_n 0, 1) := by decide +kernel
theorem dX8_heat_50 : decode cX8_heat 50 = .ok (.getfield 19, 3) := by decide +kernel
theorem dX8_heat_53 : decode cX8_heat 53 = .ok (.getfield 160, 3) := by decide +kernel
theorem dX8_heat_56 : decode cX8_heat 56 = .ok (.iload_n 1, 1) := by decide +kernel
theorem dX8_heat_57 : decode cX8_heat 57 = .ok (.iload_n 3, 1) := by decide +kernel
theorem dX8_heat_58 : decode cX8_heat 58 = .ok (.iastore, 1) := by decide +kernel
theorem dX8_heat_59 : decode cX8_heat 59 = .ok (.iconst 1, 1) := by decide +kernel
theorem dX8_heat_60 : decode cX8_heat 60 = .ok (.ireturn, 1) := by decide +kernel
theorem dX8_price_0 : decode cX8_price 0 = .ok (.iload_n 1, 1) := by decide +kernel
theorem dX8_price_1 : decode cX8_price 1 = .ok (.ifCond .lt 23, 3) := by decide +kernel
theorem dX8_price_4 : decode cX8_price 4 = .ok (.iload_n 1, 1) := by decide +kernel
theorem dX8_price_5 : decode cX8_price 5 = .ok (.bipush 8, 2) := by decide +kernel
theorem dX8_price_7 : decode cX8_price 7 = .ok (.if_icmp .ge 17, 3) := by decide +kernel
theorem dX8_price_10 : decode cX8_price 10 = .ok (.iload_n 2, 1) := by decide +kernel
theorem dX8_price_11 : decode cX8_price 11 = .ok (.invokestatic 172, 3) := by decide +kernel
theorem dX8_price_14 : decode cX8_price 14 = .ok (.ifCond .eq 10, 3) := by decide +kernel
theorem dX8_price_17 : decode cX8_price 17 = .ok (.iload_n 3, 1) := by decide +kernel
theorem dX8_price_18 : decode cX8_price 18 = .ok (.invokestatic 172, 3) := by decide +kernel
theorem dX8_price_21 : decode cX8_price 21 = .ok (.ifCond .ne 6, 3) := by decide +kernel
theorem dX8_price_24 : decode cX8_price 24 = .ok (.bipush (-2), 2) := by decide +kernel
theorem dX8_price_26 : decode cX8_price 26 = .ok (.ireturn, 1) := by decide +kernel
theorem dX8_price_27 : decode cX8_price 27 = .ok (.aload_n 0, 1) := by decide +kernel
theorem dX8_price_28 : decode cX8_price 28 = .ok (.getfield 63, 3) := by decide +kernel
theorem dX8_price_31 : decode cX8_price 31 = .ok (.getfield 175, 3) := by decide +kernel
theorem dX8_price_34 : decode cX8_price 34 = .ok (.iload_n 1, 1) := by decide +kernel
theorem dX8_price_35 : decode cX8_price 35 = .ok (.iload_n 2, 1) := by decide +kernel
theorem dX8_price_36 : decode cX8_price 36 = .ok (.iastore, 1) := by decide +kernel
theorem dX8_price_37 : decode cX8_price 37 = .ok (.aload_n 0, 1) := by decide +kernel
theorem dX8_price_38 : decode cX8_price 38 = .ok (.getfield 63, 3) := by decide +kernel
theorem dX8_price_41 : decode cX8_price 41 = .ok (.getfield 178, 3) := by decide +kernel
theorem dX8_price_44 : decode cX8_price 44 = .ok (.iload_n 1, 1) := by decide +kernel
theorem dX8_price_45 : decode cX8_price 45 = .ok (.iload_n 3, 1) := by decide +kernel
theorem dX8_price_46 : decode cX8_price 46 = .ok (.iastore, 1) := by decide +kernel
theorem dX8_price_47 : decode cX8_price 47 = .ok (.iconst 1, 1) := by decide +kernel
theorem dX8_price_48 : decode cX8_price 48 = .ok (.ireturn, 1) := by decide +kernel
theorem dX8_at_0 : decode cX8_at 0 = .ok (.aload_n 0, 1) := by decide +kernel
theorem dX8_at_1 : decode cX8_at 1 = .ok (.getfield 19, 3) := by decide +kernel
theorem dX8_at_4 : decode cX8_at 4 = .ok (.iload_n 1, 1) := by decide +kernel
theorem dX8_at_5 : decode cX8_at 5 = .ok (.invokevirtual 148, 3) := by decide +kernel
theorem dX8_at_8 : decode cX8_at 8 = .ok (.ifCond .eq 15, 3) := by decide +kernel
theorem dX8_at_11 : decode cX8_at 11 = .ok (.aload_n 0, 1) := by decide +kernel
theorem dX8_at_12 : decode cX8_at 12 = .ok (.getfield 19, 3) := by decide +kernel
theorem dX8_at_15 : decode cX8_at 15 = .ok (.getfield 181, 3) := by decide +kernel
theorem dX8_at_18 : decode cX8_at 18 = .ok (.iload_n 1, 1) := by decide +kernel
theorem dX8_at_19 : decode cX8_at 19 = .ok (.iaload, 1) := by decide +kernel
theorem dX8_at_20 : decode cX8_at 20 = .ok (.goto 4, 3) := by decide +kernel
theorem dX8_at_23 : decode cX8_at 23 = .ok (.iconst (-1), 1) := by decide +kernel
theorem dX8_at_24 : decode cX8_at 24 = .ok (.ireturn, 1) := by decide +kernel
theorem dX8_swap_0 : decode cX8_swap 0 = .ok (.aload_n 0, 1) := by decide +kernel
theorem dX8_swap_1 : decode cX8_swap 1 = .ok (.getfield 19, 3) := by decide +kernel
theorem dX8_swap_4 : decode cX8_swap 4 = .ok (.iload_n 1, 1) := by decide +kernel
theorem dX8_swap_5 : decode cX8_swap 5 = .ok (.invokevirtual 148, 3) := by decide +kernel
theorem dX8_swap_8 : decode cX8_swap 8 = .ok (.ifCond .eq 14, 3) := by decide +kernel
theorem dX8_swap_11 : decode cX8_swap 11 = .ok (.aload_n 0, 1) := by decide +kernel
theorem dX8_swap_12 : decode cX8_swap 12 = .ok (.getfield 19, 3) := by decide +kernel
theorem dX8_swap_15 : decode cX8_swap 15 = .ok (.iload_n 2, 1) := by decide +kernel
theorem dX8_swap_16 : decode cX8_swap 16 = .ok (.invokevirtual 148, 3) := by decide +kernel
theorem dX8_swap_19 : decode cX8_swap 19 = .ok (.ifCond .ne 6, 3) := by decide +kernel
theorem dX8_swap_22 : decode cX8_swap 22 = .ok (.bipush (-2), 2) := by decide +kernel
theorem dX8_swap_24 : decode cX8_swap 24 = .ok (.ireturn, 1) := by decide +kernel
theorem dX8_swap_25 : decode cX8_swap 25 = .ok (.aload_n 0, 1) := by decide +kernel
theorem dX8_swap_26 : decode cX8_swap 26 = .ok (.getfield 26, 3) := by decide +kernel
theorem dX8_swap_29 : decode cX8_swap 29 = .ok (.aload_n 0, 1) := by decide +kernel
theorem dX8_swap_30 : decode cX8_swap 30 = .ok (.getfield 19, 3) := by decide +kernel
theorem dX8_swap_33 : decode cX8_swap 33 = .ok (.invokevirtual 133, 3) := by decide +kernel
theorem dX8_swap_36 : decode cX8_swap 36 = .ok (.aload_n 0, 1) := by decide +kernel
theorem dX8_swap_37 : decode cX8_swap 37 = .ok (.getfield 19, 3) := by decide +kernel
theorem dX8_swap_40 : decode cX8_swap 40 = .ok (.getfield 181, 3) := by decide +kernel
theorem dX8_swap_43 : decode cX8_swap 43 = .ok (.iload_n 1, 1) := by decide +kernel
theorem dX8_swap_44 : decode cX8_swap 44 = .ok (.iload_n 2, 1) := by decide +kernel
theorem dX8_swap_45 : decode cX8_swap 45 = .ok (.invokestatic 184, 3) := by decide +kernel
theorem dX8_swap_48 : decode cX8_swap 48 = .ok (.iconst 1, 1) := by decide +kernel
theorem dX8_swap_49 : decode cX8_swap 49 = .ok (.ireturn, 1) := by decide +kernel
theorem dX8_rule_0 : decode cX8_rule 0 = .ok (.aload_n 0, 1) := by decide +kernel
theorem dX8_rule_1 : decode cX8_rule 1 = .ok (.getfield 26, 3) := by decide +kernel
theorem dX8_rule_4 : decode cX8_rule 4 = .ok (.aload_n 0, 1) := by decide +kernel
theorem dX8_rule_5 : decode cX8_rule 5 = .ok (.getfield 19, 3) := by decide +kernel
theorem dX8_rule_8 : decode cX8_rule 8 = .ok (.invokevirtual 133, 3) := by decide +kernel
theorem dX8_rule_11 : decode cX8_rule 11 = .ok (.aload_n 0, 1) := by decide +kernel
theorem dX8_rule_12 : decode cX8_rule 12 = .ok (.getfield 19, 3) := by decide +kernel
theorem dX8_rule_15 : decode cX8_rule 15 = .ok (.aload_n 0, 1) := by decide +kernel
theorem dX8_rule_16 : decode cX8_rule 16 = .ok (.getfield 19, 3) := by decide +kernel
theorem dX8_rule_19 : decode cX8_rule 19 = .ok (.getfield 181, 3) := by decide +kernel
theorem dX8_rule_22 : decode cX8_rule 22 = .ok (.invokevirtual 188, 3) := by decide +kernel
theorem dX8_rule_25 : decode cX8_rule 25 = .ok (.aload_n 0, 1) := by decide +kernel
theorem dX8_rule_26 : decode cX8_rule 26 = .ok (.getfield 40, 3) := by decide +kernel
theorem dX8_rule_29 : decode cX8_rule 29 = .ok (.iconst 1, 1) := by decide +kernel
theorem dX8_rule_30 : decode cX8_rule 30 = .ok (.iconst 0, 1) := by decide +kernel
theorem dX8_rule_31 : decode cX8_rule 31 = .ok (.invokevirtual 192, 3) := by decide +kernel
theorem dX8_rule_34 : decode cX8_rule 34 = .ok (.aload_n 0, 1) := by decide +kernel
theorem dX8_rule_35 : decode cX8_rule 35 = .ok (.getfield 40, 3) := by decide +kernel
theorem dX8_rule_38 : decode cX8_rule 38 = .ok (.aload_n 0, 1) := by decide +kernel
theorem dX8_rule_39 : decode cX8_rule 39 = .ok (.getfield 19, 3) := by decide +kernel
theorem dX8_rule_42 : decode cX8_rule 42 = .ok (.aload_n 0, 1) := by decide +kernel
theorem dX8_rule_43 : decode cX8_rule 43 = .ok (.getfield 19, 3) := by decide +kernel
theorem dX8_rule_46 : decode cX8_rule 46 = .ok (.getfield 181, 3) := by decide +kernel
theorem dX8_rule_49 : decode cX8_rule 49 = .ok (.iconst 0, 1) := by decide +kernel
theorem dX8_rule_50 : decode cX8_rule 50 = .ok (.invokevirtual 195, 3) := by decide +kernel
theorem dX8_rule_53 : decode cX8_rule 53 = .ok (.ireturn, 1) := by decide +kernel
theorem dX8_use_0 : decode cX8_use 0 = .ok (.aload_n 0, 1) := by decide +kernel
theorem dX8_use_1 : decode cX8_use 1 = .ok (.getfield 33, 3) := by decide +kernel
theorem dX8_use_4 : decode cX8_use 4 = .ok (.getfield 141, 3) := by decide +kernel
theorem dX8_use_7 : decode cX8_use 7 = .ok (.ifCond .ne 6, 3) := by decide +kernel
theorem dX8_use_10 : decode cX8_use 10 = .ok (.bipush (-5), 2) := by decide +kernel
theorem dX8_use_12 : decode cX8_use 12 = .ok (.ireturn, 1) := by decide +kernel
theorem dX8_use_13 : decode cX8_use 13 = .ok (.aload_n 0, 1) := by decide +kernel
theorem dX8_use_14 : decode cX8_use 14 = .ok (.getfield 26, 3) := by decide +kernel
theorem dX8_use_17 : decode cX8_use 17 = .ok (.aload_n 0, 1) := by decide +kernel
theorem dX8_use_18 : decode cX8_use 18 = .ok (.getfield 19, 3) := by decide +kernel
theorem dX8_use_21 : decode cX8_use 21 = .ok (.invokevirtual 133, 3) := by decide +kernel
theorem dX8_use_24 : decode cX8_use 24 = .ok (.aload_n 0, 1) := by decide +kernel
theorem dX8_use_25 : decode cX8_use 25 = .ok (.getfield 33, 3) := by decide +kernel
theorem dX8_use_28 : decode cX8_use 28 = .ok (.getfield 199, 3) := by decide +kernel
theorem dX8_use_31 : decode cX8_use 31 = .ok (.iconst 0, 1) := by decide +kernel
theorem dX8_use_32 : decode cX8_use 32 = .ok (.aload_n 0, 1) := by decide +kernel
theorem dX8_use_33 : decode cX8_use 33 = .ok (.getfield 19, 3) := by decide +kernel
theorem dX8_use_36 : decode cX8_use 36 = .ok (.getfield 181, 3) := by decide +kernel
theorem dX8_use_39 : decode cX8_use 39 = .ok (.iconst 0, 1) := by decide +kernel
theorem dX8_use_40 : decode cX8_use 40 = .ok (.aload_n 0, 1) := by decide +kernel
theorem dX8_use_41 : decode cX8_use 41 = .ok (.getfield 33, 3) := by decide +kernel
theorem dX8_use_44 : decode cX8_use 44 = .ok (.getfield 202, 3) := by decide +kernel
theorem dX8_use_47 : decode cX8_use 47 = .ok (.invokestatic 119, 3) := by decide +kernel
theorem dX8_use_50 : decode cX8_use 50 = .ok (.iconst 1, 1) := by decide +kernel
theorem dX8_use_51 : decode cX8_use 51 = .ok (.ireturn, 1) := by decide +kernel
theorem dX8_turn_0 : decode cX8_turn 0 = .ok (.aload_n 0, 1) := by decide +kernel
theorem dX8_turn_1 : decode cX8_turn 1 = .ok (.getfield 26, 3) := by decide +kernel
theorem dX8_turn_4 : decode cX8_turn 4 = .ok (.aload_n 0, 1) := by decide +kernel
theorem dX8_turn_5 : decode cX8_turn 5 = .ok (.getfield 19, 3) := by decide +kernel
theorem dX8_turn_8 : decode cX8_turn 8 = .ok (.invokevirtual 133, 3) := by decide +kernel
theorem dX8_turn_11 : decode cX8_turn 11 = .ok (.aload_n 0, 1) := by decide +kernel
theorem dX8_turn_12 : decode cX8_turn 12 = .ok (.getfield 19, 3) := by decide +kernel
theorem dX8_turn_15 : decode cX8_turn 15 = .ok (.invokevirtual 203, 3) := by decide +kernel
theorem dX8_turn_18 : decode cX8_turn 18 = .ok (.aload_n 0, 1) := by decide +kernel
theorem dX8_turn_19 : decode cX8_turn 19 = .ok (.getfield 33, 3) := by decide +kernel
theorem dX8_turn_22 : decode cX8_turn 22 = .ok (.iconst 0, 1) := by decide +kernel
theorem dX8_turn_23 : decode cX8_turn 23 = .ok (.putfield 141, 3) := by decide +kernel
theorem dX8_turn_26 : decode cX8_turn 26 = .ok (.iconst 1, 1) := by decide +kernel
theorem dX8_turn_27 : decode cX8_turn 27 = .ok (.ireturn, 1) := by decide +kernel
theorem dX8_undo_0 : decode cX8_undo 0 = .ok (.aload_n 0, 1) := by decide +kernel
theorem dX8_undo_1 : decode cX8_undo 1 = .ok (.getfield 26, 3) := by decide +kernel
theorem dX8_undo_4 : decode cX8_undo 4 = .ok (.getfield 206, 3) := by decide +kernel
theorem dX8_undo_7 : decode cX8_undo 7 = .ok (.ifCond .ne 6, 3) := by decide +kernel
theorem dX8_undo_10 : decode cX8_undo 10 = .ok (.bipush (-5), 2) := by decide +kernel
theorem dX8_undo_12 : decode cX8_undo 12 = .ok (.ireturn, 1) := by decide +kernel
theorem dX8_undo_13 : decode cX8_undo 13 = .ok (.aload_n 0, 1) := by decide +kernel
theorem dX8_undo_14 : decode cX8_undo 14 = .ok (.getfield 26, 3) := by decide +kernel
theorem dX8_undo_17 : decode cX8_undo 17 = .ok (.aload_n 0, 1) := by decide +kernel
theorem dX8_undo_18 : decode cX8_undo 18 = .ok (.getfield 19, 3) := by decide +kernel
theorem dX8_undo_21 : decode cX8_undo 21 = .ok (.invokevirtual 209, 3) := by decide +kernel
theorem dX8_undo_24 : decode cX8_undo 24 = .ok (.aload_n 0, 1) := by decide +kernel
theorem dX8_undo_25 : decode cX8_undo 25 = .ok (.getfield 33, 3) := by decide +kernel
theorem dX8_undo_28 : decode cX8_undo 28 = .ok (.iconst 0, 1) := by decide +kernel
theorem dX8_undo_29 : decode cX8_undo 29 = .ok (.putfield 141, 3) := by decide +kernel
theorem dX8_undo_32 : decode cX8_undo 32 = .ok (.aload_n 0, 1) := by decide +kernel
theorem dX8_undo_33 : decode cX8_undo 33 = .ok (.getfield 26, 3) := by decide +kernel
theorem dX8_undo_36 : decode cX8_undo 36 = .ok (.getfield 206, 3) := by decide +kernel
theorem dX8_undo_39 : decode cX8_undo 39 = .ok (.ireturn, 1) := by decide +kernel
theorem dX8_day_0 : decode cX8_day 0 = .ok (.iload_n 1, 1) := by decide +kernel
theorem dX8_day_1 : decode cX8_day 1 = .ok (.iload_n 2, 1) := by decide +kernel
theorem dX8_day_2 : decode cX8_day 2 = .ok (.invokestatic 212, 3) := by decide +kernel
theorem dX8_day_5 : decode cX8_day 5 = .ok (.ifCond .ne 6, 3) := by decide +kernel
theorem dX8_day_8 : decode cX8_day 8 = .ok (.bipush (-2), 2) := by decide +kernel
theorem dX8_day_10 : decode cX8_day 10 = .ok (.ireturn, 1) := by decide +kernel
theorem dX8_day_11 : decode cX8_day 11 = .ok (.aload_n 0, 1) := by decide +kernel
theorem dX8_day_12 : decode cX8_day 12 = .ok (.getfield 40, 3) := by decide +kernel
theorem dX8_day_15 : decode cX8_day 15 = .ok (.iload_n 1, 1) := by decide +kernel
theorem dX8_day_16 : decode cX8_day 16 = .ok (.iload_n 2, 1) := by decide +kernel
theorem dX8_day_17 : decode cX8_day 17 = .ok (.invokevirtual 192, 3) := by decide +kernel
theorem dX8_day_20 : decode cX8_day 20 = .ok (.aload_n 0, 1) := by decide +kernel
theorem dX8_day_21 : decode cX8_day 21 = .ok (.getfield 40, 3) := by decide +kernel
theorem dX8_day_24 : decode cX8_day 24 = .ok (.aload_n 0, 1) := by decide +kernel
theorem dX8_day_25 : decode cX8_day 25 = .ok (.getfield 19, 3) := by decide +kernel
theorem dX8_day_28 : decode cX8_day 28 = .ok (.aload_n 0, 1) := by decide +kernel
theorem dX8_day_29 : decode cX8_day 29 = .ok (.getfield 19, 3) := by decide +kernel
theorem dX8_day_32 : decode cX8_day 32 = .ok (.getfield 181, 3) := by decide +kernel
theorem dX8_day_35 : decode cX8_day 35 = .ok (.iconst 0, 1) := by decide +kernel
theorem dX8_day_36 : decode cX8_day 36 = .ok (.invokevirtual 195, 3) := by decide +kernel
theorem dX8_day_39 : decode cX8_day 39 = .ok (.ireturn, 1) := by decide +kernel
theorem dX8_moment_0 : decode cX8_moment 0 = .ok (.iload_n 1, 1) := by decide +kernel
theorem dX8_moment_1 : decode cX8_moment 1 = .ok (.iload_n 2, 1) := by decide +kernel
theorem dX8_moment_2 : decode cX8_moment 2 = .ok (.invokestatic 212, 3) := by decide +kernel
theorem dX8_moment_5 : decode cX8_moment 5 = .ok (.ifCond .eq 14, 3) := by decide +kernel
theorem dX8_moment_8 : decode cX8_moment 8 = .ok (.aload_n 0, 1) := by decide +kernel
theorem dX8_moment_9 : decode cX8_moment 9 = .ok (.getfield 19, 3) := by decide +kernel
theorem dX8_moment_12 : decode cX8_moment 12 = .ok (.iload_n 3, 1) := by decide +kernel
theorem dX8_moment_13 : decode cX8_moment 13 = .ok (.invokevirtual 148, 3) := by decide +kernel
theorem dX8_moment_16 : decode cX8_moment 16 = .ok (.ifCond .ne 6, 3) := by decide +kernel
theorem dX8_moment_19 : decode cX8_moment 19 = .ok (.bipush (-2), 2) := by decide +kernel
theorem dX8_moment_21 : decode cX8_moment 21 = .ok (.ireturn, 1) := by decide +kernel
theorem dX8_moment_22 : decode cX8_moment 22 = .ok (.aload_n 0, 1) := by decide +kernel
theorem dX8_moment_23 : decode cX8_moment 23 = .ok (.getfield 40, 3) := by decide +kernel
theorem dX8_moment_26 : decode cX8_moment 26 = .ok (.iload_n 1, 1) := by decide +kernel
theorem dX8_moment_27 : decode cX8_moment 27 = .ok (.iload_n 2, 1) := by decide +kernel
theorem dX8_moment_28 : decode cX8_moment 28 = .ok (.invokevirtual 192, 3) := by decide +kernel
theorem dX8_moment_31 : decode cX8_moment 31 = .ok (.aload_n 0, 1) := by decide +kernel
theorem dX8_moment_32 : decode cX8_moment 32 = .ok (.getfield 40, 3) := by decide +kernel
theorem dX8_moment_35 : decode cX8_moment 35 = .ok (.aload_n 0, 1) := by decide +kernel
theorem dX8_moment_36 : decode cX8_moment 36 = .ok (.getfield 19, 3) := by decide +kernel
theorem dX8_moment_39 : decode cX8_moment 39 = .ok (.aload_n 0, 1) := by decide +kernel
theorem dX8_moment_40 : decode cX8_moment 40 = .ok (.getfield 19, 3) := by decide +kernel
theorem dX8_moment_43 : decode cX8_moment 43 = .ok (.getfield 181, 3) := by decide +kernel
theorem dX8_moment_46 : decode cX8_moment 46 = .ok (.iconst 0, 1) := by decide +kernel
theorem dX8_moment_47 : decode cX8_moment 47 = .ok (.invokevirtual 195, 3) := by decide +kernel
theorem dX8_moment_50 : decode cX8_moment 50 = .ok (.pop, 1) := by decide +kernel
theorem dX8_moment_51 : decode cX8_moment 51 = .ok (.iload 4, 2) := by decide +kernel
theorem dX8_moment_53 : decode cX8_moment 53 = .ok (.tableswitch 71 0 3 #[31, 41, 51, 61], 31) := by decide +kernel
theorem dX8_moment_84 : decode cX8_moment 84 = .ok (.aload_n 0, 1) := by decide +kernel
theorem dX8_moment_85 : decode cX8_moment 85 = .ok (.getfield 40, 3) := by decide +kernel
theorem dX8_moment_88 : decode cX8_moment 88 = .ok (.getfield 216, 3) := by decide +kernel
theorem dX8_moment_91 : decode cX8_moment 91 = .ok (.iload_n 3, 1) := by decide +kernel
theorem dX8_moment_92 : decode cX8_moment 92 = .ok (.iaload, 1) := by decide +kernel
theorem dX8_moment_93 : decode cX8_moment 93 = .ok (.ireturn, 1) := by decide +kernel
theorem dX8_moment_94 : decode cX8_moment 94 = .ok (.aload_n 0, 1) := by decide +kernel
theorem dX8_moment_95 : decode cX8_moment 95 = .ok (.getfield 40, 3) := by decide +kernel
theorem dX8_moment_98 : decode cX8_moment 98 = .ok (.getfield 219, 3) := by decide +kernel
theorem dX8_moment_101 : decode cX8_moment 101 = .ok (.iload_n 3, 1) := by decide +kernel
theorem dX8_moment_102 : decode cX8_moment 102 = .ok (.iaload, 1) := by decide +kernel
theorem dX8_moment_103 : decode cX8_moment 103 = .ok (.ireturn, 1) := by decide +kernel
theorem dX8_moment_104 : decode cX8_moment 104 = .ok (.aload_n 0, 1) := by decide +kernel
theorem dX8_moment_105 : decode cX8_moment 105 = .ok (.getfield 40, 3) := by decide +kernel
theorem dX8_moment_108 : decode cX8_moment 108 = .ok (.getfield 222, 3) := by decide +kernel
theorem dX8_moment_111 : decode cX8_moment 111 = .ok (.iload_n 3, 1) := by decide +kernel
theorem dX8_moment_112 : decode cX8_moment 112 = .ok (.iaload, 1) := by decide +kernel
theorem dX8_moment_113 : decode cX8_moment 113 = .ok (.ireturn, 1) := by decide +kernel
theorem dX8_moment_114 : decode cX8_moment 114 = .ok (.aload_n 0, 1) := by decide +kernel
theorem dX8_moment_115 : decode cX8_moment 115 = .ok (.getfield 40, 3) := by decide +kernel
theorem dX8_moment_118 : decode cX8_moment 118 = .ok (.getfield 225, 3) := by decide +kernel
theorem dX8_moment_121 : decode cX8_moment 121 = .ok (.iload_n 3, 1) := by decide +kernel
theorem dX8_moment_122 : decode cX8_moment 122 = .ok (.iaload, 1) := by decide +kernel
theorem dX8_moment_123 : decode cX8_moment 123 = .ok (.ireturn, 1) := by decide +kernel
theorem dX8_moment_124 : decode cX8_moment 124 = .ok (.bipush (-2), 2) := by decide +kernel
theorem dX8_moment_126 : decode cX8_moment 126 = .ok (.ireturn, 1) := by decide +kernel
theorem dX8_idle_0 : decode cX8_idle 0 = .ok (.iload_n 1, 1) := by decide +kernel
theorem dX8_idle_1 : decode cX8_idle 1 = .ok (.iload_n 2, 1) := by decide +kernel
theorem dX8_idle_2 : decode cX8_idle 2 = .ok (.invokestatic 212, 3) := by decide +kernel
theorem dX8_idle_5 : decode cX8_idle 5 = .ok (.ifCond .ne 6, 3) := by decide +kernel
theorem dX8_idle_8 : decode cX8_idle 8 = .ok (.bipush (-2), 2) := by decide +kernel
theorem dX8_idle_10 : decode cX8_idle 10 = .ok (.ireturn, 1) := by decide +kernel
theorem dX8_idle_11 : decode cX8_idle 11 = .ok (.aload_n 0, 1) := by decide +kernel
theorem dX8_idle_12 : decode cX8_idle 12 = .ok (.getfield 40, 3) := by decide +kernel
theorem dX8_idle_15 : decode cX8_idle 15 = .ok (.iload_n 1, 1) := by decide +kernel
theorem dX8_idle_16 : decode cX8_idle 16 = .ok (.iload_n 2, 1) := by decide +kernel
theorem dX8_idle_17 : decode cX8_idle 17 = .ok (.invokevirtual 192, 3) := by decide +kernel
theorem dX8_idle_20 : decode cX8_idle 20 = .ok (.aload_n 0, 1) := by decide +kernel
theorem dX8_idle_21 : decode cX8_idle 21 = .ok (.getfield 40, 3) := by decide +kernel
theorem dX8_idle_24 : decode cX8_idle 24 = .ok (.aload_n 0, 1) := by decide +kernel
theorem dX8_idle_25 : decode cX8_idle 25 = .ok (.getfield 19, 3) := by decide +kernel
theorem dX8_idle_28 : decode cX8_idle 28 = .ok (.aload_n 0, 1) := by decide +kernel
theorem dX8_idle_29 : decode cX8_idle 29 = .ok (.getfield 19, 3) := by decide +kernel
theorem dX8_idle_32 : decode cX8_idle 32 = .ok (.getfield 181, 3) := by decide +kernel
theorem dX8_idle_35 : decode cX8_idle 35 = .ok (.iconst 0, 1) := by decide +kernel
theorem dX8_idle_36 : decode cX8_idle 36 = .ok (.invokevirtual 195, 3) := by decide +kernel
theorem dX8_idle_39 : decode cX8_idle 39 = .ok (.aload_n 0, 1) := by decide +kernel
theorem dX8_idle_40 : decode cX8_idle 40 = .ok (.getfield 19, 3) := by decide +kernel
theorem dX8_idle_43 : decode cX8_idle 43 = .ok (.aload_n 0, 1) := by decide +kernel
theorem dX8_idle_44 : decode cX8_idle 44 = .ok (.getfield 19, 3) := by decide +kernel
theorem dX8_idle_47 : decode cX8_idle 47 = .ok (.getfield 154, 3) := by decide +kernel
theorem dX8_idle_50 : decode cX8_idle 50 = .ok (.invokevirtual 228, 3) := by decide +kernel
theorem dX8_idle_53 : decode cX8_idle 53 = .ok (.isub, 1) := by decide +kernel
theorem dX8_idle_54 : decode cX8_idle 54 = .ok (.ireturn, 1) := by decide +kernel
theorem dX8_bound_0 : decode cX8_bound 0 = .ok (.aload_n 0, 1) := by decide +kernel
theorem dX8_bound_1 : decode cX8_bound 1 = .ok (.getfield 19, 3) := by decide +kernel
theorem dX8_bound_4 : decode cX8_bound 4 = .ok (.getfield 125, 3) := by decide +kernel
theorem dX8_bound_7 : decode cX8_bound 7 = .ok (.ifCond .ne 5, 3) := by decide +kernel
theorem dX8_bound_10 : decode cX8_bound 10 = .ok (.iconst 0, 1) := by decide +kernel
theorem dX8_bound_11 : decode cX8_bound 11 = .ok (.ireturn, 1) := by decide +kernel
theorem dX8_bound_12 : decode cX8_bound 12 = .ok (.aload_n 0, 1) := by decide +kernel
theorem dX8_bound_13 : decode cX8_bound 13 = .ok (.getfield 19, 3) := by decide +kernel
theorem dX8_bound_16 : decode cX8_bound 16 = .ok (.aload_n 0, 1) := by decide +kernel
theorem dX8_bound_17 : decode cX8_bound 17 = .ok (.getfield 19, 3) := by decide +kernel
theorem dX8_bound_20 : decode cX8_bound 20 = .ok (.getfield 151, 3) := by decide +kernel
theorem dX8_bound_23 : decode cX8_bound 23 = .ok (.invokevirtual 228, 3) := by decide +kernel
theorem dX8_bound_26 : decode cX8_bound 26 = .ok (.aload_n 0, 1) := by decide +kernel
theorem dX8_bound_27 : decode cX8_bound 27 = .ok (.getfield 19, 3) := by decide +kernel
theorem dX8_bound_30 : decode cX8_bound 30 = .ok (.aload_n 0, 1) := by decide +kernel
theorem dX8_bound_31 : decode cX8_bound 31 = .ok (.getfield 19, 3) := by decide +kernel
theorem dX8_bound_34 : decode cX8_bound 34 = .ok (.getfield 154, 3) := by decide +kernel
theorem dX8_bound_37 : decode cX8_bound 37 = .ok (.invokevirtual 232, 3) := by decide +kernel
theorem dX8_bound_40 : decode cX8_bound 40 = .ok (.iadd, 1) := by decide +kernel
theorem dX8_bound_41 : decode cX8_bound 41 = .ok (.aload_n 0, 1) := by decide +kernel
theorem dX8_bound_42 : decode cX8_bound 42 = .ok (.getfield 19, 3) := by decide +kernel
theorem dX8_bound_45 : decode cX8_bound 45 = .ok (.aload_n 0, 1) := by decide +kernel
theorem dX8_bound_46 : decode cX8_bound 46 = .ok (.getfield 19, 3) := by decide +kernel
theorem dX8_bound_49 : decode cX8_bound 49 = .ok (.getfield 154, 3) := by decide +kernel
theorem dX8_bound_52 : decode cX8_bound 52 = .ok (.invokevirtual 228, 3) := by decide +kernel
theorem dX8_bound_55 : decode cX8_bound 55 = .ok (.aload_n 0, 1) := by decide +kernel
theorem dX8_bound_56 : decode cX8_bound 56 = .ok (.getfield 19, 3) := by decide +kernel
theorem dX8_bound_59 : decode cX8_bound 59 = .ok (.aload_n 0, 1) := by decide +kernel
theorem dX8_bound_60 : decode cX8_bound 60 = .ok (.getfield 19, 3) := by decide +kernel
theorem dX8_bound_63 : decode cX8_bound 63 = .ok (.getfield 151, 3) := by decide +kernel
theorem dX8_bound_66 : decode cX8_bound 66 = .ok (.invokevirtual 232, 3) := by decide +kernel
theorem dX8_bound_69 : decode cX8_bound 69 = .ok (.iadd, 1) := by decide +kernel
theorem dX8_bound_70 : decode cX8_bound 70 = .ok (.invokestatic 235, 3) := by decide +kernel
theorem dX8_bound_73 : decode cX8_bound 73 = .ok (.ireturn, 1) := by decide +kernel
theorem dX8_least_0 : decode cX8_least 0 = .ok (.iload_n 1, 1) := by decide +kernel
theorem dX8_least_1 : decode cX8_least 1 = .ok (.iload_n 2, 1) := by decide +kernel
theorem dX8_least_2 : decode cX8_least 2 = .ok (.invokestatic 212, 3) := by decide +kernel
theorem dX8_least_5 : decode cX8_least 5 = .ok (.ifCond .ne 6, 3) := by decide +kernel
theorem dX8_least_8 : decode cX8_least 8 = .ok (.bipush (-2), 2) := by decide +kernel
theorem dX8_least_10 : decode cX8_least 10 = .ok (.ireturn, 1) := by decide +kernel
theorem dX8_least_11 : decode cX8_least 11 = .ok (.iload_n 1, 1) := by decide +kernel
theorem dX8_least_12 : decode cX8_least 12 = .ok (.iconst 2, 1) := by decide +kernel
theorem dX8_least_13 : decode cX8_least 13 = .ok (.if_icmp .ne 18, 3) := by decide +kernel
theorem dX8_least_16 : decode cX8_least 16 = .ok (.aload_n 0, 1) := by decide +kernel
theorem dX8_least_17 : decode cX8_least 17 = .ok (.getfield 19, 3) := by decide +kernel
theorem dX8_least_20 : decode cX8_least 20 = .ok (.getfield 125, 3) := by decide +kernel
theorem dX8_least_23 : decode cX8_least 23 = .ok (.bipush 7, 2) := by decide +kernel
theorem dX8_least_25 : decode cX8_least 25 = .ok (.if_icmp .le 6, 3) := by decide +kernel
theorem dX8_least_28 : decode cX8_least 28 = .ok (.bipush (-4), 2) := by decide +kernel
theorem dX8_least_30 : decode cX8_least 30 = .ok (.ireturn, 1) := by decide +kernel
theorem dX8_least_31 : decode cX8_least 31 = .ok (.iload_n 1, 1) := by decide +kernel
theorem dX8_least_32 : decode cX8_least 32 = .ok (.ifCond .ne 8, 3) := by decide +kernel
theorem dX8_least_35 : decode cX8_least 35 = .ok (.aload_n 0, 1) := by decide +kernel
theorem dX8_least_36 : decode cX8_least 36 = .ok (.invokevirtual 240, 3) := by decide +kernel
theorem dX8_least_39 : decode cX8_least 39 = .ok (.ireturn, 1) := by decide +kernel
theorem dX8_least_40 : decode cX8_least 40 = .ok (.aload_n 0, 1) := by decide +kernel
theorem dX8_least_41 : decode cX8_least 41 = .ok (.getfield 40, 3) := by decide +kernel
theorem dX8_least_44 : decode cX8_least 44 = .ok (.iload_n 1, 1) := by decide +kernel
theorem dX8_least_45 : decode cX8_least 45 = .ok (.iload_n 2, 1) := by decide +kernel
theorem dX8_least_46 : decode cX8_least 46 = .ok (.invokevirtual 192, 3) := by decide +kernel
theorem dX8_least_49 : decode cX8_least 49 = .ok (.iload_n 1, 1) := by decide +kernel
theorem dX8_least_50 : decode cX8_least 50 = .ok (.iconst 1, 1) := by decide +kernel
theorem dX8_least_51 : decode cX8_least 51 = .ok (.if_icmp .ne 34, 3) := by decide +kernel
theorem dX8_least_54 : decode cX8_least 54 = .ok (.aload_n 0, 1) := by decide +kernel
theorem dX8_least_55 : decode cX8_least 55 = .ok (.getfield 19, 3) := by decide +kernel
theorem dX8_least_58 : decode cX8_least 58 = .ok (.aload_n 0, 1) := by decide +kernel
theorem dX8_least_59 : decode cX8_least 59 = .ok (.getfield 70, 3) := by decide +kernel
theorem dX8_least_62 : decode cX8_least 62 = .ok (.invokevirtual 188, 3) := by decide +kernel
theorem dX8_least_65 : decode cX8_least 65 = .ok (.aload_n 0, 1) := by decide +kernel
theorem dX8_least_66 : decode cX8_least 66 = .ok (.getfield 40, 3) := by decide +kernel
theorem dX8_least_69 : decode cX8_least 69 = .ok (.aload_n 0, 1) := by decide +kernel
theorem dX8_least_70 : decode cX8_least 70 = .ok (.getfield 19, 3) := by decide +kernel
theorem dX8_least_73 : decode cX8_least 73 = .ok (.aload_n 0, 1) := by decide +kernel
theorem dX8_least_74 : decode cX8_least 74 = .ok (.getfield 70, 3) := by decide +kernel
theorem dX8_least_77 : decode cX8_least 77 = .ok (.iconst 0, 1) := by decide +kernel
theorem dX8_least_78 : decode cX8_least 78 = .ok (.invokevirtual 195, 3) := by decide +kernel
theorem dX8_least_81 : decode cX8_least 81 = .ok (.istore_n 3, 1) := by decide +kernel
theorem dX8_least_82 : decode cX8_least 82 = .ok (.goto 9, 3) := by decide +kernel
theorem dX8_least_85 : decode cX8_least 85 = .ok (.aload_n 0, 1) := by decide +kernel
theorem dX8_least_86 : decode cX8_least 86 = .ok (.iconst 0, 1) := by decide +kernel
theorem dX8_least_87 : decode cX8_least 87 = .ok (.invokevirtual 244, 3) := by decide +kernel
theorem dX8_least_90 : decode cX8_least 90 = .ok (.istore_n 3, 1) := by decide +kernel
theorem dX8_least_91 : decode cX8_least 91 = .ok (.aload_n 0, 1) := by decide +kernel
theorem dX8_least_92 : decode cX8_least 92 = .ok (.getfield 33, 3) := by decide +kernel
theorem dX8_least_95 : decode cX8_least 95 = .ok (.aload_n 0, 1) := by decide +kernel
theorem dX8_least_96 : decode cX8_least 96 = .ok (.getfield 70, 3) := by decide +kernel
theorem dX8_least_99 : decode cX8_least 99 = .ok (.aload_n 0, 1) := by decide +kernel
theorem dX8_least_100 : decode cX8_least 100 = .ok (.getfield 19, 3) := by decide +kernel
theorem dX8_least_103 : decode cX8_least 103 = .ok (.getfield 125, 3) := by decide +kernel
theorem dX8_least_106 : decode cX8_least 106 = .ok (.invokevirtual 248, 3) := by decide +kernel
theorem dX8_least_109 : decode cX8_least 109 = .ok (.iload_n 3, 1) := by decide +kernel
theorem dX8_least_110 : decode cX8_least 110 = .ok (.ireturn, 1) := by decide +kernel
theorem dX8_second_0 : decode cX8_second 0 = .ok (.iload_n 1, 1) := by decide +kernel
theorem dX8_second_1 : decode cX8_second 1 = .ok (.iload_n 2, 1) := by decide +kernel
theorem dX8_second_2 : decode cX8_second 2 = .ok (.invokestatic 212, 3) := by decide +kernel
theorem dX8_second_5 : decode cX8_second 5 = .ok (.ifCond .ne 6, 3) := by decide +kernel
theorem dX8_second_8 : decode cX8_second 8 = .ok (.bipush (-2), 2) := by decide +kernel
theorem dX8_second_10 : decode cX8_second 10 = .ok (.ireturn, 1) := by decide +kernel
theorem dX8_second_11 : decode cX8_second 11 = .ok (.aload_n 0, 1) := by decide +kernel
theorem dX8_second_12 : decode cX8_second 12 = .ok (.getfield 19, 3) := by decide +kernel
theorem dX8_second_15 : decode cX8_second 15 = .ok (.getfield 125, 3) := by decide +kernel
theorem dX8_second_18 : decode cX8_second 18 = .ok (.iconst 2, 1) := by decide +kernel
theorem dX8_second_19 : decode cX8_second 19 = .ok (.if_icmp .ge 5, 3) := by decide +kernel
theorem dX8_second_22 : decode cX8_second 22 = .ok (.iconst (-1), 1) := by decide +kernel
theorem dX8_second_23 : decode cX8_second 23 = .ok (.ireturn, 1) := by decide +kernel
theorem dX8_second_24 : decode cX8_second 24 = .ok (.aload_n 0, 1) := by decide +kernel
theorem dX8_second_25 : decode cX8_second 25 = .ok (.getfield 19, 3) := by decide +kernel
theorem dX8_second_28 : decode cX8_second 28 = .ok (.getfield 125, 3) := by decide +kernel
theorem dX8_second_31 : decode cX8_second 31 = .ok (.bipush 7, 2) := by decide +kernel
theorem dX8_second_33 : decode cX8_second 33 = .ok (.if_icmp .le 6, 3) := by decide +kernel
theorem dX8_second_36 : decode cX8_second 36 = .ok (.bipush (-4), 2) := by decide +kernel
theorem dX8_second_38 : decode cX8_second 38 = .ok (.ireturn, 1) := by decide +kernel
theorem dX8_second_39 : decode cX8_second 39 = .ok (.aload_n 0, 1) := by decide +kernel
theorem dX8_second_40 : decode cX8_second 40 = .ok (.getfield 40, 3) := by decide +kernel
theorem dX8_second_43 : decode cX8_second 43 = .ok (.iload_n 1, 1) := by decide +kernel
theorem dX8_second_44 : decode cX8_second 44 = .ok (.iload_n 2, 1) := by decide +kernel
theorem dX8_second_45 : decode cX8_second 45 = .ok (.invokevirtual 192, 3) := by decide +kernel
theorem dX8_second_48 : decode cX8_second 48 = .ok (.aload_n 0, 1) := by decide +kernel
theorem dX8_second_49 : decode cX8_second 49 = .ok (.iconst 1, 1) := by decide +kernel
theorem dX8_second_50 : decode cX8_second 50 = .ok (.invokevirtual 244, 3) := by decide +kernel
theorem dX8_second_53 : decode cX8_second 53 = .ok (.ireturn, 1) := by decide +kernel
theorem dX8_better_0 : decode cX8_better 0 = .ok (.iload_n 1, 1) := by decide +kernel
theorem dX8_better_1 : decode cX8_better 1 = .ok (.iload_n 2, 1) := by decide +kernel
theorem dX8_better_2 : decode cX8_better 2 = .ok (.invokestatic 212, 3) := by decide +kernel
theorem dX8_better_5 : decode cX8_better 5 = .ok (.ifCond .ne 6, 3) := by decide +kernel
theorem dX8_better_8 : decode cX8_better 8 = .ok (.bipush (-2), 2) := by decide +kernel
theorem dX8_better_10 : decode cX8_better 10 = .ok (.ireturn, 1) := by decide +kernel
theorem dX8_better_11 : decode cX8_better 11 = .ok (.aload_n 0, 1) := by decide +kernel
theorem dX8_better_12 : decode cX8_better 12 = .ok (.getfield 26, 3) := by decide +kernel
theorem dX8_better_15 : decode cX8_better 15 = .ok (.aload_n 0, 1) := by decide +kernel
theorem dX8_better_16 : decode cX8_better 16 = .ok (.getfield 19, 3) := by decide +kernel
theorem dX8_better_19 : decode cX8_better 19 = .ok (.invokevirtual 133, 3) := by decide +kernel
theorem dX8_better_22 : decode cX8_better 22 = .ok (.aload_n 0, 1) := by decide +kernel
theorem dX8_better_23 : decode cX8_better 23 = .ok (.getfield 40, 3) := by decide +kernel
theorem dX8_better_26 : decode cX8_better 26 = .ok (.iload_n 1, 1) := by decide +kernel
theorem dX8_better_27 : decode cX8_better 27 = .ok (.iload_n 2, 1) := by decide +kernel
theorem dX8_better_28 : decode cX8_better 28 = .ok (.invokevirtual 192, 3) := by decide +kernel
theorem dX8_better_31 : decode cX8_better 31 = .ok (.iconst 0, 1) := by decide +kernel
theorem dX8_better_32 : decode cX8_better 32 = .ok (.istore_n 3, 1) := by decide +kernel
theorem dX8_better_33 : decode cX8_better 33 = .ok (.iconst 1, 1) := by decide +kernel
theorem dX8_better_34 : decode cX8_better 34 = .ok (.istore 4, 2) := by decide +kernel
theorem dX8_better_36 : decode cX8_better 36 = .ok (.iconst 0, 1) := by decide +kernel
theorem dX8_better_37 : decode cX8_better 37 = .ok (.istore 5, 2) := by decide +kernel
theorem dX8_better_39 : decode cX8_better 39 = .ok (.iload 5, 2) := by decide +kernel
theorem dX8_better_41 : decode cX8_better 41 = .ok (.ldc 252, 2) := by decide +kernel
theorem dX8_better_43 : decode cX8_better 43 = .ok (.if_icmp .ge 25, 3) := by decide +kernel
theorem dX8_better_46 : decode cX8_better 46 = .ok (.iload 4, 2) := by decide +kernel
theorem dX8_better_48 : decode cX8_better 48 = .ok (.ifCond .le 20, 3) := by decide +kernel
theorem dX8_better_51 : decode cX8_better 51 = .ok (.aload_n 0, 1) := by decide +kernel
theorem dX8_better_52 : decode cX8_better 52 = .ok (.invokevirtual 253, 3) := by decide +kernel
theorem dX8_better_55 : decode cX8_better 55 = .ok (.istore 4, 2) := by decide +kernel
theorem dX8_better_57 : decode cX8_better 57 = .ok (.iload_n 3, 1) := by decide +kernel
theorem dX8_better_58 : decode cX8_better 58 = .ok (.iload 4, 2) := by decide +kernel
theorem dX8_better_60 : decode cX8_better 60 = .ok (.iadd, 1) := by decide +kernel
theorem dX8_better_61 : decode cX8_better 61 = .ok (.istore_n 3, 1) := by decide +kernel
theorem dX8_better_62 : decode cX8_better 62 = .ok (.iinc 5 1, 3) := by decide +kernel
theorem dX8_better_65 : decode cX8_better 65 = .ok (.goto (-26), 3) := by decide +kernel
theorem dX8_better_68 : decode cX8_better 68 = .ok (.iload_n 3, 1) := by decide +kernel
theorem dX8_better_69 : decode cX8_better 69 = .ok (.ireturn, 1) := by decide +kernel
theorem dX8_best_0 : decode cX8_best 0 = .ok (.iload_n 1, 1) := by decide +kernel
theorem dX8_best_1 : decode cX8_best 1 = .ok (.ifCond .lt 26, 3) := by decide +kernel
theorem dX8_best_4 : decode cX8_best 4 = .ok (.iload_n 1, 1) := by decide +kernel
theorem dX8_best_5 : decode cX8_best 5 = .ok (.aload_n 0, 1) := by decide +kernel
theorem dX8_best_6 : decode cX8_best 6 = .ok (.getfield 33, 3) := by decide +kernel
theorem dX8_best_9 : decode cX8_best 9 = .ok (.getfield 202, 3) := by decide +kernel
theorem dX8_best_12 : decode cX8_best 12 = .ok (.if_icmp .ge 15, 3) := by decide +kernel
theorem dX8_best_15 : decode cX8_best 15 = .ok (.aload_n 0, 1) := by decide +kernel
theorem dX8_best_16 : decode cX8_best 16 = .ok (.getfield 33, 3) := by decide +kernel
theorem dX8_best_19 : decode cX8_best 19 = .ok (.getfield 199, 3) := by decide +kernel
theorem dX8_best_22 : decode cX8_best 22 = .ok (.iload_n 1, 1) := by decide +kernel
theorem dX8_best_23 : decode cX8_best 23 = .ok (.iaload, 1) := by decide +kernel
theorem dX8_best_24 : decode cX8_best 24 = .ok (.goto 4, 3) := by decide +kernel
theorem dX8_best_27 : decode cX8_best 27 = .ok (.iconst (-1), 1) := by decide +kernel
theorem dX8_best_28 : decode cX8_best 28 = .ok (.ireturn, 1) := by decide +kernel
theorem dX8_rings_0 : decode cX8_rings 0 = .ok (.aload_n 0, 1) := by decide +kernel
theorem dX8_rings_1 : decode cX8_rings 1 = .ok (.getfield 47, 3) := by decide +kernel
theorem dX8_rings_4 : decode cX8_rings 4 = .ok (.getfield 256, 3) := by decide +kernel
theorem dX8_rings_7 : decode cX8_rings 7 = .ok (.ifCond .ne 6, 3) := by decide +kernel
theorem dX8_rings_10 : decode cX8_rings 10 = .ok (.bipush (-2), 2) := by decide +kernel
theorem dX8_rings_12 : decode cX8_rings 12 = .ok (.ireturn, 1) := by decide +kernel
theorem dX8_rings_13 : decode cX8_rings 13 = .ok (.iload_n 1, 1) := by decide +kernel
theorem dX8_rings_14 : decode cX8_rings 14 = .ok (.tableswitch 62 0 3 #[30, 38, 46, 54], 30) := by decide +kernel
theorem dX8_rings_44 : decode cX8_rings 44 = .ok (.aload_n 0, 1) := by decide +kernel
theorem dX8_rings_45 : decode cX8_rings 45 = .ok (.getfield 47, 3) := by decide +kernel
theorem dX8_rings_48 : decode cX8_rings 48 = .ok (.getfield 259, 3) := by decide +kernel
theorem dX8_rings_51 : decode cX8_rings 51 = .ok (.ireturn, 1) := by decide +kernel
theorem dX8_rings_52 : decode cX8_rings 52 = .ok (.aload_n 0, 1) := by decide +kernel
theorem dX8_rings_53 : decode cX8_rings 53 = .ok (.getfield 47, 3) := by decide +kernel
theorem dX8_rings_56 : decode cX8_rings 56 = .ok (.getfield 262, 3) := by decide +kernel
theorem dX8_rings_59 : decode cX8_rings 59 = .ok (.ireturn, 1) := by decide +kernel
theorem dX8_rings_60 : decode cX8_rings 60 = .ok (.aload_n 0, 1) := by decide +kernel
theorem dX8_rings_61 : decode cX8_rings 61 = .ok (.getfield 47, 3) := by decide +kernel
theorem dX8_rings_64 : decode cX8_rings 64 = .ok (.getfield 265, 3) := by decide +kernel
theorem dX8_rings_67 : decode cX8_rings 67 = .ok (.ireturn, 1) := by decide +kernel
theorem dX8_rings_68 : decode cX8_rings 68 = .ok (.aload_n 0, 1) := by decide +kernel
theorem dX8_rings_69 : decode cX8_rings 69 = .ok (.getfield 47, 3) := by decide +kernel
theorem dX8_rings_72 : decode cX8_rings 72 = .ok (.getfield 268, 3) := by decide +kernel
theorem dX8_rings_75 : decode cX8_rings 75 = .ok (.ireturn, 1) := by decide +kernel
theorem dX8_rings_76 : decode cX8_rings 76 = .ok (.bipush (-2), 2) := by decide +kernel
theorem dX8_rings_78 : decode cX8_rings 78 = .ok (.ireturn, 1) := by decide +kernel
theorem dX8_cost_0 : decode cX8_cost 0 = .ok (.iconst 0, 1) := by decide +kernel
theorem dX8_cost_1 : decode cX8_cost 1 = .ok (.istore_n 1, 1) := by decide +kernel
theorem dX8_cost_2 : decode cX8_cost 2 = .ok (.iconst 0, 1) := by decide +kernel
theorem dX8_cost_3 : decode cX8_cost 3 = .ok (.istore_n 2, 1) := by decide +kernel
theorem dX8_cost_4 : decode cX8_cost 4 = .ok (.iload_n 2, 1) := by decide +kernel
theorem dX8_cost_5 : decode cX8_cost 5 = .ok (.aload_n 0, 1) := by decide +kernel
theorem dX8_cost_6 : decode cX8_cost 6 = .ok (.getfield 19, 3) := by decide +kernel
theorem dX8_cost_9 : decode cX8_cost 9 = .ok (.getfield 125, 3) := by decide +kernel
theorem dX8_cost_12 : decode cX8_cost 12 = .ok (.if_icmp .ge 55, 3) := by decide +kernel
theorem dX8_cost_15 : decode cX8_cost 15 = .ok (.iload_n 2, 1) := by decide +kernel
theorem dX8_cost_16 : decode cX8_cost 16 = .ok (.iconst 1, 1) := by decide +kernel
theorem dX8_cost_17 : decode cX8_cost 17 = .ok (.iadd, 1) := by decide +kernel
theorem dX8_cost_18 : decode cX8_cost 18 = .ok (.aload_n 0, 1) := by decide +kernel
theorem dX8_cost_19 : decode cX8_cost 19 = .ok (.getfield 19, 3) := by decide +kernel
theorem dX8_cost_22 : decode cX8_cost 22 = .ok (.getfield 125, 3) := by decide +kernel
theorem dX8_cost_25 : decode cX8_cost 25 = .ok (.if_icmp .ge 9, 3) := by decide +kernel
theorem dX8_cost_28 : decode cX8_cost 28 = .ok (.iload_n 2, 1) := by decide +kernel
theorem dX8_cost_29 : decode cX8_cost 29 = .ok (.iconst 1, 1) := by decide +kernel
theorem dX8_cost_30 : decode cX8_cost 30 = .ok (.iadd, 1) := by decide +kernel
theorem dX8_cost_31 : decode cX8_cost 31 = .ok (.goto 4, 3) := by decide +kernel
theorem dX8_cost_34 : decode cX8_cost 34 = .ok (.iconst 0, 1) := by decide +kernel
theorem dX8_cost_35 : decode cX8_cost 35 = .ok (.istore_n 3, 1) := by decide +kernel
theorem dX8_cost_36 : decode cX8_cost 36 = .ok (.iload_n 1, 1) := by decide +kernel
theorem dX8_cost_37 : decode cX8_cost 37 = .ok (.aload_n 0, 1) := by decide +kernel
theorem dX8_cost_38 : decode cX8_cost 38 = .ok (.aload_n 0, 1) := by decide +kernel
theorem dX8_cost_39 : decode cX8_cost 39 = .ok (.getfield 19, 3) := by decide +kernel
theorem dX8_cost_42 : decode cX8_cost 42 = .ok (.getfield 181, 3) := by decide +kernel
theorem dX8_cost_45 : decode cX8_cost 45 = .ok (.iload_n 2, 1) := by decide +kernel
theorem dX8_cost_46 : decode cX8_cost 46 = .ok (.iaload, 1) := by decide +kernel
theorem dX8_cost_47 : decode cX8_cost 47 = .ok (.aload_n 0, 1) := by decide +kernel
theorem dX8_cost_48 : decode cX8_cost 48 = .ok (.getfield 19, 3) := by decide +kernel
theorem dX8_cost_51 : decode cX8_cost 51 = .ok (.getfield 181, 3) := by decide +kernel
theorem dX8_cost_54 : decode cX8_cost 54 = .ok (.iload_n 3, 1) := by decide +kernel
theorem dX8_cost_55 : decode cX8_cost 55 = .ok (.iaload, 1) := by decide +kernel
theorem dX8_cost_56 : decode cX8_cost 56 = .ok (.invokevirtual 271, 3) := by decide +kernel
theorem dX8_cost_59 : decode cX8_cost 59 = .ok (.iadd, 1) := by decide +kernel
theorem dX8_cost_60 : decode cX8_cost 60 = .ok (.istore_n 1, 1) := by decide +kernel
theorem dX8_cost_61 : decode cX8_cost 61 = .ok (.iinc 2 1, 3) := by decide +kernel
theorem dX8_cost_64 : decode cX8_cost 64 = .ok (.goto (-60), 3) := by decide +kernel
theorem dX8_cost_67 : decode cX8_cost 67 = .ok (.iload_n 1, 1) := by decide +kernel
theorem dX8_cost_68 : decode cX8_cost 68 = .ok (.ireturn, 1) := by decide +kernel
theorem dX8_round_0 : decode cX8_round 0 = .ok (.aload_n 0, 1) := by decide +kernel
theorem dX8_round_1 : decode cX8_round 1 = .ok (.getfield 19, 3) := by decide +kernel
theorem dX8_round_4 : decode cX8_round 4 = .ok (.getfield 125, 3) := by decide +kernel
theorem dX8_round_7 : decode cX8_round 7 = .ok (.ifCond .eq 13, 3) := by decide +kernel
theorem dX8_round_10 : decode cX8_round 10 = .ok (.aload_n 0, 1) := by decide +kernel
theorem dX8_round_11 : decode cX8_round 11 = .ok (.getfield 63, 3) := by decide +kernel
theorem dX8_round_14 : decode cX8_round 14 = .ok (.invokevirtual 274, 3) := by decide +kernel
theorem dX8_round_17 : decode cX8_round 17 = .ok (.ifCond .eq 6, 3) := by decide +kernel
theorem dX8_round_20 : decode cX8_round 20 = .ok (.bipush (-5), 2) := by decide +kernel
theorem dX8_round_22 : decode cX8_round 22 = .ok (.ireturn, 1) := by decide +kernel
theorem dX8_round_23 : decode cX8_round 23 = .ok (.aload_n 0, 1) := by decide +kernel
theorem dX8_round_24 : decode cX8_round 24 = .ok (.getfield 47, 3) := by decide +kernel
theorem dX8_round_27 : decode cX8_round 27 = .ok (.aload_n 0, 1) := by decide +kernel
theorem dX8_round_28 : decode cX8_round 28 = .ok (.getfield 19, 3) := by decide +kernel
theorem dX8_round_31 : decode cX8_round 31 = .ok (.getfield 125, 3) := by decide +kernel
theorem dX8_round_34 : decode cX8_round 34 = .ok (.putfield 278, 3) := by decide +kernel
theorem dX8_round_37 : decode cX8_round 37 = .ok (.aload_n 0, 1) := by decide +kernel
theorem dX8_round_38 : decode cX8_round 38 = .ok (.getfield 19, 3) := by decide +kernel
theorem dX8_round_41 : decode cX8_round 41 = .ok (.getfield 157, 3) := by decide +kernel
theorem dX8_round_44 : decode cX8_round 44 = .ok (.iconst 0, 1) := by decide +kernel
theorem dX8_round_45 : decode cX8_round 45 = .ok (.aload_n 0, 1) := by decide +kernel
theorem dX8_round_46 : decode cX8_round 46 = .ok (.getfield 47, 3) := by decide +kernel
theorem dX8_round_49 : decode cX8_round 49 = .ok (.getfield 281, 3) := by decide +kernel
theorem dX8_round_52 : decode cX8_round 52 = .ok (.iconst 0, 1) := by decide +kernel
theorem dX8_round_53 : decode cX8_round 53 = .ok (.aload_n 0, 1) := by decide +kernel
theorem dX8_round_54 : decode cX8_round 54 = .ok (.getfield 19, 3) := by decide +kernel
theorem dX8_round_57 : decode cX8_round 57 = .ok (.getfield 125, 3) := by decide +kernel
theorem dX8_round_60 : decode cX8_round 60 = .ok (.invokestatic 119, 3) := by decide +kernel
theorem dX8_round_63 : decode cX8_round 63 = .ok (.aload_n 0, 1) := by decide +kernel
theorem dX8_round_64 : decode cX8_round 64 = .ok (.getfield 19, 3) := by decide +kernel
theorem dX8_round_67 : decode cX8_round 67 = .ok (.getfield 160, 3) := by decide +kernel
theorem dX8_round_70 : decode cX8_round 70 = .ok (.iconst 0, 1) := by decide +kernel
theorem dX8_round_71 : decode cX8_round 71 = .ok (.aload_n 0, 1) := by decide +kernel
theorem dX8_round_72 : decode cX8_round 72 = .ok (.getfield 47, 3) := by decide +kernel
theorem dX8_round_75 : decode cX8_round 75 = .ok (.getfield 284, 3) := by decide +kernel
theorem dX8_round_78 : decode cX8_round 78 = .ok (.iconst 0, 1) := by decide +kernel
theorem dX8_round_79 : decode cX8_round 79 = .ok (.aload_n 0, 1) := by decide +kernel
theorem dX8_round_80 : decode cX8_round 80 = .ok (.getfield 19, 3) := by decide +kernel
theorem dX8_round_83 : decode cX8_round 83 = .ok (.getfield 125, 3) := by decide +kernel
theorem dX8_round_86 : decode cX8_round 86 = .ok (.invokestatic 119, 3) := by decide +kernel
theorem dX8_round_89 : decode cX8_round 89 = .ok (.aload_n 0, 1) := by decide +kernel
theorem dX8_round_90 : decode cX8_round 90 = .ok (.getfield 47, 3) := by decide +kernel
theorem dX8_round_93 : decode cX8_round 93 = .ok (.aload_n 0, 1) := by decide +kernel
theorem dX8_round_94 : decode cX8_round 94 = .ok (.getfield 63, 3) := by decide +kernel
theorem dX8_round_97 : decode cX8_round 97 = .ok (.invokevirtual 287, 3) := by decide +kernel
theorem dX8_round_100 : decode cX8_round 100 = .ok (.istore_n 1, 1) := by decide +kernel
theorem dX8_round_101 : decode cX8_round 101 = .ok (.aload_n 0, 1) := by decide +kernel
theorem dX8_round_102 : decode cX8_round 102 = .ok (.getfield 47, 3) := by decide +kernel
theorem dX8_round_105 : decode cX8_round 105 = .ok (.iconst 0, 1) := by decide +kernel
theorem dX8_round_106 : decode cX8_round 106 = .ok (.aload_n 0, 1) := by decide +kernel
theorem dX8_round_107 : decode cX8_round 107 = .ok (.getfield 70, 3) := by decide +kernel
theorem dX8_round_110 : decode cX8_round 110 = .ok (.aload_n 0, 1) := by decide +kernel
theorem dX8_round_111 : decode cX8_round 111 = .ok (.getfield 19, 3) := by decide +kernel
theorem dX8_round_114 : decode cX8_round 114 = .ok (.getfield 125, 3) := by decide +kernel
theorem dX8_round_117 : decode cX8_round 117 = .ok (.invokevirtual 291, 3) := by decide +kernel
theorem dX8_round_120 : decode cX8_round 120 = .ok (.aload_n 0, 1) := by decide +kernel
theorem dX8_round_121 : decode cX8_round 121 = .ok (.getfield 33, 3) := by decide +kernel
theorem dX8_round_124 : decode cX8_round 124 = .ok (.aload_n 0, 1) := by decide +kernel
theorem dX8_round_125 : decode cX8_round 125 = .ok (.getfield 70, 3) := by decide +kernel
theorem dX8_round_128 : decode cX8_round 128 = .ok (.aload_n 0, 1) := by decide +kernel
theorem dX8_round_129 : decode cX8_round 129 = .ok (.getfield 19, 3) := by decide +kernel
theorem dX8_round_132 : decode cX8_round 132 = .ok (.getfield 125, 3) := by decide +kernel
theorem dX8_round_135 : decode cX8_round 135 = .ok (.invokevirtual 248, 3) := by decide +kernel
theorem dX8_round_138 : decode cX8_round 138 = .ok (.iload_n 1, 1) := by decide +kernel
theorem dX8_round_139 : decode cX8_round 139 = .ok (.ireturn, 1) := by decide +kernel
theorem dX8_through_0 : decode cX8_through 0 = .ok (.aload_n 0, 1) := by decide +kernel
theorem dX8_through_1 : decode cX8_through 1 = .ok (.getfield 19, 3) := by decide +kernel
theorem dX8_through_4 : decode cX8_through 4 = .ok (.getfield 125, 3) := by decide +kernel
theorem dX8_through_7 : decode cX8_through 7 = .ok (.ifCond .ne 6, 3) := by decide +kernel
theorem dX8_through_10 : decode cX8_through 10 = .ok (.bipush (-5), 2) := by decide +kernel
theorem dX8_through_12 : decode cX8_through 12 = .ok (.ireturn, 1) := by decide +kernel
theorem dX8_through_13 : decode cX8_through 13 = .ok (.aload_n 0, 1) := by decide +kernel
theorem dX8_through_14 : decode cX8_through 14 = .ok (.getfield 19, 3) := by decide +kernel
theorem dX8_through_17 : decode cX8_through 17 = .ok (.getfield 125, 3) := by decide +kernel
theorem dX8_through_20 : decode cX8_through 20 = .ok (.bipush 8, 2) := by decide +kernel
theorem dX8_through_22 : decode cX8_through 22 = .ok (.if_icmp .le 6, 3) := by decide +kernel
theorem dX8_through_25 : decode cX8_through 25 = .ok (.bipush (-4), 2) := by decide +kernel
theorem dX8_through_27 : decode cX8_through 27 = .ok (.ireturn, 1) := by decide +kernel
theorem dX8_through_28 : decode cX8_through 28 = .ok (.aload_n 0, 1) := by decide +kernel
theorem dX8_through_29 : decode cX8_through 29 = .ok (.invokevirtual 295, 3) := by decide +kernel
theorem dX8_through_32 : decode cX8_through 32 = .ok (.aload_n 0, 1) := by decide +kernel
theorem dX8_through_33 : decode cX8_through 33 = .ok (.getfield 54, 3) := by decide +kernel
theorem dX8_through_36 : decode cX8_through 36 = .ok (.aload_n 0, 1) := by decide +kernel
theorem dX8_through_37 : decode cX8_through 37 = .ok (.getfield 19, 3) := by decide +kernel
theorem dX8_through_40 : decode cX8_through 40 = .ok (.getfield 125, 3) := by decide +kernel
theorem dX8_through_43 : decode cX8_through 43 = .ok (.invokevirtual 298, 3) := by decide +kernel
theorem dX8_through_46 : decode cX8_through 46 = .ok (.ldc_w 301, 3) := by decide +kernel
theorem dX8_through_49 : decode cX8_through 49 = .ok (.istore_n 1, 1) := by decide +kernel
theorem dX8_through_50 : decode cX8_through 50 = .ok (.iconst 1, 1) := by decide +kernel
theorem dX8_through_51 : decode cX8_through 51 = .ok (.istore_n 2, 1) := by decide +kernel
theorem dX8_through_52 : decode cX8_through 52 = .ok (.iconst 0, 1) := by decide +kernel
theorem dX8_through_53 : decode cX8_through 53 = .ok (.istore_n 3, 1) := by decide +kernel
theorem dX8_through_54 : decode cX8_through 54 = .ok (.iload_n 3, 1) := by decide +kernel
theorem dX8_through_55 : decode cX8_through 55 = .ok (.sipush 5040, 3) := by decide +kernel
theorem dX8_through_58 : decode cX8_through 58 = .ok (.if_icmp .ge 37, 3) := by decide +kernel
theorem dX8_through_61 : decode cX8_through 61 = .ok (.iload_n 2, 1) := by decide +kernel
theorem dX8_through_62 : decode cX8_through 62 = .ok (.ifCond .le 33, 3) := by decide +kernel
theorem dX8_through_65 : decode cX8_through 65 = .ok (.iload_n 1, 1) := by decide +kernel
theorem dX8_through_66 : decode cX8_through 66 = .ok (.aload_n 0, 1) := by decide +kernel
theorem dX8_through_67 : decode cX8_through 67 = .ok (.aload_n 0, 1) := by decide +kernel
theorem dX8_through_68 : decode cX8_through 68 = .ok (.getfield 54, 3) := by decide +kernel
theorem dX8_through_71 : decode cX8_through 71 = .ok (.getfield 302, 3) := by decide +kernel
theorem dX8_through_74 : decode cX8_through 74 = .ok (.invokevirtual 303, 3) := by decide +kernel
theorem dX8_through_77 : decode cX8_through 77 = .ok (.invokestatic 306, 3) := by decide +kernel
theorem dX8_through_80 : decode cX8_through 80 = .ok (.istore_n 1, 1) := by decide +kernel
theorem dX8_through_81 : decode cX8_through 81 = .ok (.aload_n 0, 1) := by decide +kernel
theorem dX8_through_82 : decode cX8_through 82 = .ok (.getfield 54, 3) := by decide +kernel
theorem dX8_through_85 : decode cX8_through 85 = .ok (.invokevirtual 309, 3) := by decide +kernel
theorem dX8_through_88 : decode cX8_through 88 = .ok (.istore_n 2, 1) := by decide +kernel
theorem dX8_through_89 : decode cX8_through 89 = .ok (.iinc 3 1, 3) := by decide +kernel
theorem dX8_through_92 : decode cX8_through 92 = .ok (.goto (-38), 3) := by decide +kernel
theorem dX8_through_95 : decode cX8_through 95 = .ok (.iload_n 1, 1) := by decide +kernel
theorem dX8_through_96 : decode cX8_through 96 = .ok (.ireturn, 1) := by decide +kernel
theorem dX8_batches_0 : decode cX8_batches 0 = .ok (.iload_n 1, 1) := by decide +kernel
theorem dX8_batches_1 : decode cX8_batches 1 = .ok (.iconst 1, 1) := by decide +kernel
theorem dX8_batches_2 : decode cX8_batches 2 = .ok (.if_icmp .lt 9, 3) := by decide +kernel
theorem dX8_batches_5 : decode cX8_batches 5 = .ok (.iload_n 1, 1) := by decide +kernel
theorem dX8_batches_6 : decode cX8_batches 6 = .ok (.bipush 40, 2) := by decide +kernel
theorem dX8_batches_8 : decode cX8_batches 8 = .ok (.if_icmp .le 6, 3) := by decide +kernel
theorem dX8_batches_11 : decode cX8_batches 11 = .ok (.bipush (-2), 2) := by decide +kernel
theorem dX8_batches_13 : decode cX8_batches 13 = .ok (.ireturn, 1) := by decide +kernel
theorem dX8_batches_14 : decode cX8_batches 14 = .ok (.aload_n 0, 1) := by decide +kernel
theorem dX8_batches_15 : decode cX8_batches 15 = .ok (.getfield 19, 3) := by decide +kernel
theorem dX8_batches_18 : decode cX8_batches 18 = .ok (.getfield 154, 3) := by decide +kernel
theorem dX8_batches_21 : decode cX8_batches 21 = .ok (.aload_n 0, 1) := by decide +kernel
theorem dX8_batches_22 : decode cX8_batches 22 = .ok (.getfield 19, 3) := by decide +kernel
theorem dX8_batches_25 : decode cX8_batches 25 = .ok (.getfield 125, 3) := by decide +kernel
theorem dX8_batches_28 : decode cX8_batches 28 = .ok (.aload_n 0, 1) := by decide +kernel
theorem dX8_batches_29 : decode cX8_batches 29 = .ok (.getfield 70, 3) := by decide +kernel
theorem dX8_batches_32 : decode cX8_batches 32 = .ok (.invokestatic 312, 3) := by decide +kernel
theorem dX8_batches_35 : decode cX8_batches 35 = .ok (.iconst 0, 1) := by decide +kernel
theorem dX8_batches_36 : decode cX8_batches 36 = .ok (.istore_n 2, 1) := by decide +kernel
theorem dX8_batches_37 : decode cX8_batches 37 = .ok (.aload_n 0, 1) := by decide +kernel
theorem dX8_batches_38 : decode cX8_batches 38 = .ok (.getfield 19, 3) := by decide +kernel
theorem dX8_batches_41 : decode cX8_batches 41 = .ok (.getfield 125, 3) := by decide +kernel
theorem dX8_batches_44 : decode cX8_batches 44 = .ok (.iconst 1, 1) := by decide +kernel
theorem dX8_batches_45 : decode cX8_batches 45 = .ok (.isub, 1) := by decide +kernel
theorem dX8_batches_46 : decode cX8_batches 46 = .ok (.istore_n 3, 1) := by decide +kernel
theorem dX8_batches_47 : decode cX8_batches 47 = .ok (.iload_n 3, 1) := by decide +kernel
theorem dX8_batches_48 : decode cX8_batches 48 = .ok (.ifCond .lt 27, 3) := by decide +kernel
theorem dX8_batches_51 : decode cX8_batches 51 = .ok (.iload_n 2, 1) := by decide +kernel
theorem dX8_batches_52 : decode cX8_batches 52 = .ok (.aload_n 0, 1) := by decide +kernel
theorem dX8_batches_53 : decode cX8_batches 53 = .ok (.getfield 19, 3) := by decide +kernel
theorem dX8_batches_56 : decode cX8_batches 56 = .ok (.getfield 154, 3) := by decide +kernel
theorem dX8_batches_59 : decode cX8_batches 59 = .ok (.aload_n 0, 1) := by decide +kernel
theorem dX8_batches_60 : decode cX8_batches 60 = .ok (.getfield 70, 3) := by decide +kernel
theorem dX8_batches_63 : decode cX8_batches 63 = .ok (.iload_n 3, 1) := by decide +kernel
theorem dX8_batches_64 : decode cX8_batches 64 = .ok (.iaload, 1) := by decide +kernel
theorem dX8_batches_65 : decode cX8_batches 65 = .ok (.iaload, 1) := by decide +kernel
theorem dX8_batches_66 : decode cX8_batches 66 = .ok (.iadd, 1) := by decide +kernel
theorem dX8_batches_67 : decode cX8_batches 67 = .ok (.istore_n 2, 1) := by decide +kernel
theorem dX8_batches_68 : decode cX8_batches 68 = .ok (.iload_n 3, 1) := by decide +kernel
theorem dX8_batches_69 : decode cX8_batches 69 = .ok (.iload_n 1, 1) := by decide +kernel
theorem dX8_batches_70 : decode cX8_batches 70 = .ok (.isub, 1) := by decide +kernel
theorem dX8_batches_71 : decode cX8_batches 71 = .ok (.istore_n 3, 1) := by decide +kernel
theorem dX8_batches_72 : decode cX8_batches 72 = .ok (.goto (-25), 3) := by decide +kernel
theorem dX8_batches_75 : decode cX8_batches 75 = .ok (.iload_n 2, 1) := by decide +kernel
theorem dX8_batches_76 : decode cX8_batches 76 = .ok (.ireturn, 1) := by decide +kernel
theorem dX8_count_0 : decode cX8_count 0 = .ok (.iload_n 1, 1) := by decide +kernel
theorem dX8_count_1 : decode cX8_count 1 = .ok (.tableswitch 109 0 5 #[39, 47, 62, 77, 93, 101], 39) := by decide +kernel
theorem dX8_count_40 : decode cX8_count 40 = .ok (.aload_n 0, 1) := by decide +kernel
theorem dX8_count_41 : decode cX8_count 41 = .ok (.getfield 19, 3) := by decide +kernel
theorem dX8_count_44 : decode cX8_count 44 = .ok (.getfield 125, 3) := by decide +kernel
theorem dX8_count_47 : decode cX8_count 47 = .ok (.ireturn, 1) := by decide +kernel
theorem dX8_count_48 : decode cX8_count 48 = .ok (.aload_n 0, 1) := by decide +kernel
theorem dX8_count_49 : decode cX8_count 49 = .ok (.getfield 19, 3) := by decide +kernel
theorem dX8_count_52 : decode cX8_count 52 = .ok (.aload_n 0, 1) := by decide +kernel
theorem dX8_count_53 : decode cX8_count 53 = .ok (.getfield 19, 3) := by decide +kernel
theorem dX8_count_56 : decode cX8_count 56 = .ok (.getfield 151, 3) := by decide +kernel
theorem dX8_count_59 : decode cX8_count 59 = .ok (.invokevirtual 228, 3) := by decide +kernel
theorem dX8_count_62 : decode cX8_count 62 = .ok (.ireturn, 1) := by decide +kernel
theorem dX8_count_63 : decode cX8_count 63 = .ok (.aload_n 0, 1) := by decide +kernel
theorem dX8_count_64 : decode cX8_count 64 = .ok (.getfield 19, 3) := by decide +kernel
theorem dX8_count_67 : decode cX8_count 67 = .ok (.aload_n 0, 1) := by decide +kernel
theorem dX8_count_68 : decode cX8_count 68 = .ok (.getfield 19, 3) := by decide +kernel
theorem dX8_count_71 : decode cX8_count 71 = .ok (.getfield 154, 3) := by decide +kernel
theorem dX8_count_74 : decode cX8_count 74 = .ok (.invokevirtual 228, 3) := by decide +kernel
theorem dX8_count_77 : decode cX8_count 77 = .ok (.ireturn, 1) := by decide +kernel
theorem dX8_count_78 : decode cX8_count 78 = .ok (.aload_n 0, 1) := by decide +kernel
theorem dX8_count_79 : decode cX8_count 79 = .ok (.getfield 33, 3) := by decide +kernel
theorem dX8_count_82 : decode cX8_count 82 = .ok (.getfield 141, 3) := by decide +kernel
theorem dX8_count_85 : decode cX8_count 85 = .ok (.ifCond .eq 7, 3) := by decide +kernel
theorem dX8_count_88 : decode cX8_count 88 = .ok (.iconst 1, 1) := by decide +kernel
theorem dX8_count_89 : decode cX8_count 89 = .ok (.goto 4, 3) := by decide +kernel
theorem dX8_count_92 : decode cX8_count 92 = .ok (.iconst 0, 1) := by decide +kernel
theorem dX8_count_93 : decode cX8_count 93 = .ok (.ireturn, 1) := by decide +kernel
theorem dX8_count_94 : decode cX8_count 94 = .ok (.aload_n 0, 1) := by decide +kernel
theorem dX8_count_95 : decode cX8_count 95 = .ok (.getfield 26, 3) := by decide +kernel
theorem dX8_count_98 : decode cX8_count 98 = .ok (.getfield 206, 3) := by decide +kernel
theorem dX8_count_101 : decode cX8_count 101 = .ok (.ireturn, 1) := by decide +kernel
theorem dX8_count_102 : decode cX8_count 102 = .ok (.aload_n 0, 1) := by decide +kernel
theorem dX8_count_103 : decode cX8_count 103 = .ok (.getfield 10, 3) := by decide +kernel
theorem dX8_count_106 : decode cX8_count 106 = .ok (.getfield 316, 3) := by decide +kernel
theorem dX8_count_109 : decode cX8_count 109 = .ok (.ireturn, 1) := by decide +kernel
theorem dX8_count_110 : decode cX8_count 110 = .ok (.bipush (-2), 2) := by decide +kernel
theorem dX8_count_112 : decode cX8_count 112 = .ok (.ireturn, 1) := by decide +kernel
theorem dX8_digest_0 : decode cX8_digest 0 = .ok (.ldc2_w 319, 3) := by decide +kernel
theorem dX8_digest_3 : decode cX8_digest 3 = .ok (.lstore_n 1, 1) := by decide +kernel
theorem dX8_digest_4 : decode cX8_digest 4 = .ok (.iconst 0, 1) := by decide +kernel
theorem dX8_digest_5 : decode cX8_digest 5 = .ok (.istore_n 3, 1) := by decide +kernel
theorem dX8_digest_6 : decode cX8_digest 6 = .ok (.iload_n 3, 1) := by decide +kernel
theorem dX8_digest_7 : decode cX8_digest 7 = .ok (.aload_n 0, 1) := by decide +kernel
theorem dX8_digest_8 : decode cX8_digest 8 = .ok (.getfield 19, 3) := by decide +kernel
theorem dX8_digest_11 : decode cX8_digest 11 = .ok (.getfield 125, 3) := by decide +kernel
theorem dX8_digest_14 : decode cX8_digest 14 = .ok (.if_icmp .ge 39, 3) := by decide +kernel
theorem dX8_digest_17 : decode cX8_digest 17 = .ok (.iconst 0, 1) := by decide +kernel
theorem dX8_digest_18 : decode cX8_digest 18 = .ok (.istore 4, 2) := by decide +kernel
theorem dX8_digest_20 : decode cX8_digest 20 = .ok (.iload 4, 2) := by decide +kernel
theorem dX8_digest_22 : decode cX8_digest 22 = .ok (.iconst 5, 1) := by decide +kernel
theorem dX8_digest_23 : decode cX8_digest 23 = .ok (.if_icmp .gt 24, 3) := by decide +kernel
theorem dX8_digest_26 : decode cX8_digest 26 = .ok (.ldc2_w 321, 3) := by decide +kernel
theorem dX8_digest_29 : decode cX8_digest 29 = .ok (.lload_n 1, 1) := by decide +kernel
theorem dX8_digest_30 : decode cX8_digest 30 = .ok (.lmul, 1) := by decide +kernel
theorem dX8_digest_31 : decode cX8_digest 31 = .ok (.aload_n 0, 1) := by decide +kernel
theorem dX8_digest_32 : decode cX8_digest 32 = .ok (.iload_n 3, 1) := by decide +kernel
theorem dX8_digest_33 : decode cX8_digest 33 = .ok (.iload 4, 2) := by decide +kernel
theorem dX8_digest_35 : decode cX8_digest 35 = .ok (.invokevirtual 323, 3) := by decide +kernel
theorem dX8_digest_38 : decode cX8_digest 38 = .ok (.i2l, 1) := by decide +kernel
theorem dX8_digest_39 : decode cX8_digest 39 = .ok (.ladd, 1) := by decide +kernel
theorem dX8_digest_40 : decode cX8_digest 40 = .ok (.lstore_n 1, 1) := by decide +kernel
theorem dX8_digest_41 : decode cX8_digest 41 = .ok (.iinc 4 1, 3) := by decide +kernel
theorem dX8_digest_44 : decode cX8_digest 44 = .ok (.goto (-24), 3) := by decide +kernel
theorem dX8_digest_47 : decode cX8_digest 47 = .ok (.iinc 3 1, 3) := by decide +kernel
theorem dX8_digest_50 : decode cX8_digest 50 = .ok (.goto (-44), 3) := by decide +kernel
theorem dX8_digest_53 : decode cX8_digest 53 = .ok (.iconst 0, 1) := by decide +kernel
theorem dX8_digest_54 : decode cX8_digest 54 = .ok (.istore_n 3, 1) := by decide +kernel
theorem dX8_digest_55 : decode cX8_digest 55 = .ok (.iload_n 3, 1) := by decide +kernel
theorem dX8_digest_56 : decode cX8_digest 56 = .ok (.aload_n 0, 1) := by decide +kernel
theorem dX8_digest_57 : decode cX8_digest 57 = .ok (.getfield 19, 3) := by decide +kernel
theorem dX8_digest_60 : decode cX8_digest 60 = .ok (.getfield 125, 3) := by decide +kernel
theorem dX8_digest_63 : decode cX8_digest 63 = .ok (.if_icmp .ge 26, 3) := by decide +kernel
theorem dX8_digest_66 : decode cX8_digest 66 = .ok (.ldc2_w 321, 3) := by decide +kernel
theorem dX8_digest_69 : decode cX8_digest 69 = .ok (.lload_n 1, 1) := by decide +kernel
theorem dX8_digest_70 : decode cX8_digest 70 = .ok (.lmul, 1) := by decide +kernel
theorem dX8_digest_71 : decode cX8_digest 71 = .ok (.aload_n 0, 1) := by decide +kernel
theorem dX8_digest_72 : decode cX8_digest 72 = .ok (.getfield 19, 3) := by decide +kernel
theorem dX8_digest_75 : decode cX8_digest 75 = .ok (.getfield 181, 3) := by decide +kernel
theorem dX8_digest_78 : decode cX8_digest 78 = .ok (.iload_n 3, 1) := by decide +kernel
theorem dX8_digest_79 : decode cX8_digest 79 = .ok (.iaload, 1) := by decide +kernel
theorem dX8_digest_80 : decode cX8_digest 80 = .ok (.i2l, 1) := by decide +kernel
theorem dX8_digest_81 : decode cX8_digest 81 = .ok (.ladd, 1) := by decide +kernel
theorem dX8_digest_82 : decode cX8_digest 82 = .ok (.lstore_n 1, 1) := by decide +kernel
theorem dX8_digest_83 : decode cX8_digest 83 = .ok (.iinc 3 1, 3) := by decide +kernel
theorem dX8_digest_86 : decode cX8_digest 86 = .ok (.goto (-31), 3) := by decide +kernel
theorem dX8_digest_89 : decode cX8_digest 89 = .ok (.iconst 0, 1) := by decide +kernel
theorem dX8_digest_90 : decode cX8_digest 90 = .ok (.istore_n 3, 1) := by decide +kernel
theorem dX8_digest_91 : decode cX8_digest 91 = .ok (.iload_n 3, 1) := by decide +kernel
theorem dX8_digest_92 : decode cX8_digest 92 = .ok (.bipush 8, 2) := by decide +kernel
theorem dX8_digest_94 : decode cX8_digest 94 = .ok (.if_icmp .ge 43, 3) := by decide +kernel
theorem dX8_digest_97 : decode cX8_digest 97 = .ok (.ldc2_w 321, 3) := by decide +kernel
theorem dX8_digest_100 : decode cX8_digest 100 = .ok (.lload_n 1, 1) := by decide +kernel
theorem dX8_digest_101 : decode cX8_digest 101 = .ok (.lmul, 1) := by decide +kernel
theorem dX8_digest_102 : decode cX8_digest 102 = .ok (.aload_n 0, 1) := by decide +kernel
theorem dX8_digest_103 : decode cX8_digest 103 = .ok (.getfield 63, 3) := by decide +kernel
theorem dX8_digest_106 : decode cX8_digest 106 = .ok (.getfield 175, 3) := by decide +kernel
theorem dX8_digest_109 : decode cX8_digest 109 = .ok (.iload_n 3, 1) := by decide +kernel
theorem dX8_digest_110 : decode cX8_digest 110 = .ok (.iaload, 1) := by decide +kernel
theorem dX8_digest_111 : decode cX8_digest 111 = .ok (.i2l, 1) := by decide +kernel
theorem dX8_digest_112 : decode cX8_digest 112 = .ok (.ladd, 1) := by decide +kernel
theorem dX8_digest_113 : decode cX8_digest 113 = .ok (.lstore_n 1, 1) := by decide +kernel
theorem dX8_digest_114 : decode cX8_digest 114 = .ok (.ldc2_w 321, 3) := by decide +kernel
theorem dX8_digest_117 : decode cX8_digest 117 = .ok (.lload_n 1, 1) := by decide +kernel
theorem dX8_digest_118 : decode cX8_digest 118 = .ok (.lmul, 1) := by decide +kernel
theorem dX8_digest_119 : decode cX8_digest 119 = .ok (.aload_n 0, 1) := by decide +kernel
theorem dX8_digest_120 : decode cX8_digest 120 = .ok (.getfield 63, 3) := by decide +kernel
theorem dX8_digest_123 : decode cX8_digest 123 = .ok (.getfield 178, 3) := by decide +kernel
theorem dX8_digest_126 : decode cX8_digest 126 = .ok (.iload_n 3, 1) := by decide +kernel
theorem dX8_digest_127 : decode cX8_digest 127 = .ok (.iaload, 1) := by decide +kernel
theorem dX8_digest_128 : decode cX8_digest 128 = .ok (.i2l, 1) := by decide +kernel
theorem dX8_digest_129 : decode cX8_digest 129 = .ok (.ladd, 1) := by decide +kernel
theorem dX8_digest_130 : decode cX8_digest 130 = .ok (.lstore_n 1, 1) := by decide +kernel
theorem dX8_digest_131 : decode cX8_digest 131 = .ok (.iinc 3 1, 3) := by decide +kernel
theorem dX8_digest_134 : decode cX8_digest 134 = .ok (.goto (-43), 3) := by decide +kernel
theorem dX8_digest_137 : decode cX8_digest 137 = .ok (.lload_n 1, 1) := by decide +kernel
theorem dX8_digest_138 : decode cX8_digest 138 = .ok (.lreturn, 1) := by decide +kernel
theorem dX8_isSheet_0 : decode cX8_isSheet 0 = .ok (.iload_n 0, 1) := by decide +kernel
theorem dX8_isSheet_1 : decode cX8_isSheet 1 = .ok (.ifCond .lt 12, 3) := by decide +kernel
theorem dX8_isSheet_4 : decode cX8_isSheet 4 = .ok (.iload_n 0, 1) := by decide +kernel
theorem dX8_isSheet_5 : decode cX8_isSheet 5 = .ok (.iconst 4, 1) := by decide +kernel
theorem dX8_isSheet_6 : decode cX8_isSheet 6 = .ok (.if_icmp .ge 7, 3) := by decide +kernel
theorem dX8_isSheet_9 : decode cX8_isSheet 9 = .ok (.iconst 1, 1) := by decide +kernel
theorem dX8_isSheet_10 : decode cX8_isSheet 10 = .ok (.goto 4, 3) := by decide +kernel
theorem dX8_isSheet_13 : decode cX8_isSheet 13 = .ok (.iconst 0, 1) := by decide +kernel
theorem dX8_isSheet_14 : decode cX8_isSheet 14 = .ok (.ireturn, 1) := by decide +kernel
theorem dX8_isForm_0 : decode cX8_isForm 0 = .ok (.iload_n 0, 1) := by decide +kernel
theorem dX8_isForm_1 : decode cX8_isForm 1 = .ok (.ifCond .lt 12, 3) := by decide +kernel
theorem dX8_isForm_4 : decode cX8_isForm 4 = .ok (.iload_n 0, 1) := by decide +kernel
theorem dX8_isForm_5 : decode cX8_isForm 5 = .ok (.iconst 3, 1) := by decide +kernel
theorem dX8_isForm_6 : decode cX8_isForm 6 = .ok (.if_icmp .ge 7, 3) := by decide +kernel
theorem dX8_isForm_9 : decode cX8_isForm 9 = .ok (.iconst 1, 1) := by decide +kernel
theorem dX8_isForm_10 : decode cX8_isForm 10 = .ok (.goto 4, 3) := by decide +kernel
theorem dX8_isForm_13 : decode cX8_isForm 13 = .ok (.iconst 0, 1) := by decide +kernel
theorem dX8_isForm_14 : decode cX8_isForm 14 = .ok (.ireturn, 1) := by decide +kernel
theorem dX8_isSpan_0 : decode cX8_isSpan 0 = .ok (.iload_n 0, 1) := by decide +kernel
theorem dX8_isSpan_1 : decode cX8_isSpan 1 = .ok (.ifCond .lt 14, 3) := by decide +kernel
theorem dX8_isSpan_4 : decode cX8_isSpan 4 = .ok (.iload_n 0, 1) := by decide +kernel
theorem dX8_isSpan_5 : decode cX8_isSpan 5 = .ok (.ldc_w 326, 3) := by decide +kernel
theorem dX8_isSpan_8 : decode cX8_isSpan 8 = .ok (.if_icmp .gt 7, 3) := by decide +kernel
theorem dX8_isSpan_11 : decode cX8_isSpan 11 = .ok (.iconst 1, 1) := by decide +kernel
theorem dX8_isSpan_12 : decode cX8_isSpan 12 = .ok (.goto 4, 3) := by decide +kernel
theorem dX8_isSpan_15 : decode cX8_isSpan 15 = .ok (.iconst 0, 1) := by decide +kernel
theorem dX8_isSpan_16 : decode cX8_isSpan 16 = .ok (.ireturn, 1) := by decide +kernel
theorem dX8_areSpans_0 : decode cX8_areSpans 0 = .ok (.iconst 0, 1) := by decide +kernel
theorem dX8_areSpans_1 : decode cX8_areSpans 1 = .ok (.istore_n 2, 1) := by decide +kernel
theorem dX8_areSpans_2 : decode cX8_areSpans 2 = .ok (.iload_n 2, 1) := by decide +kernel
theorem dX8_areSpans_3 : decode cX8_areSpans 3 = .ok (.iload_n 1, 1) := by decide +kernel
theorem dX8_areSpans_4 : decode cX8_areSpans 4 = .ok (.if_icmp .ge 20, 3) := by decide +kernel
theorem dX8_areSpans_7 : decode cX8_areSpans 7 = .ok (.aload_n 0, 1) := by decide +kernel
theorem dX8_areSpans_8 : decode cX8_areSpans 8 = .ok (.iload_n 2, 1) := by decide +kernel
theorem dX8_areSpans_9 : decode cX8_areSpans 9 = .ok (.iaload, 1) := by decide +kernel
theorem dX8_areSpans_10 : decode cX8_areSpans 10 = .ok (.invokestatic 145, 3) := by decide +kernel
theorem dX8_areSpans_13 : decode cX8_areSpans 13 = .ok (.ifCond .ne 5, 3) := by decide +kernel
theorem dX8_areSpans_16 : decode cX8_areSpans 16 = .ok (.iconst 0, 1) := by decide +kernel
theorem dX8_areSpans_17 : decode cX8_areSpans 17 = .ok (.ireturn, 1) := by decide +kernel
theorem dX8_areSpans_18 : decode cX8_areSpans 18 = .ok (.iinc 2 1, 3) := by decide +kernel
theorem dX8_areSpans_21 : decode cX8_areSpans 21 = .ok (.goto (-19), 3) := by decide +kernel
theorem dX8_areSpans_24 : decode cX8_areSpans 24 = .ok (.iconst 1, 1) := by decide +kernel
theorem dX8_areSpans_25 : decode cX8_areSpans 25 = .ok (.ireturn, 1) := by decide +kernel
theorem dX8_isDegree_0 : decode cX8_isDegree 0 = .ok (.iload_n 0, 1) := by decide +kernel
theorem dX8_isDegree_1 : decode cX8_isDegree 1 = .ok (.ifCond .lt 14, 3) := by decide +kernel
theorem dX8_isDegree_4 : decode cX8_isDegree 4 = .ok (.iload_n 0, 1) := by decide +kernel
theorem dX8_isDegree_5 : decode cX8_isDegree 5 = .ok (.sipush 399, 3) := by decide +kernel
theorem dX8_isDegree_8 : decode cX8_isDegree 8 = .ok (.if_icmp .gt 7, 3) := by decide +kernel
theorem dX8_isDegree_11 : decode cX8_isDegree 11 = .ok (.iconst 1, 1) := by decide +kernel
theorem dX8_isDegree_12 : decode cX8_isDegree 12 = .ok (.goto 4, 3) := by decide +kernel
theorem dX8_isDegree_15 : decode cX8_isDegree 15 = .ok (.iconst 0, 1) := by decide +kernel
theorem dX8_isDegree_16 : decode cX8_isDegree 16 = .ok (.ireturn, 1) := by decide +kernel
theorem dX8_isPrice_0 : decode cX8_isPrice 0 = .ok (.iload_n 0, 1) := by decide +kernel
theorem dX8_isPrice_1 : decode cX8_isPrice 1 = .ok (.bipush (-100), 2) := by decide +kernel
theorem dX8_isPrice_3 : decode cX8_isPrice 3 = .ok (.if_icmp .lt 13, 3) := by decide +kernel
theorem dX8_isPrice_6 : decode cX8_isPrice 6 = .ok (.iload_n 0, 1) := by decide +kernel
theorem dX8_isPrice_7 : decode cX8_isPrice 7 = .ok (.bipush 100, 2) := by decide +kernel
theorem dX8_isPrice_9 : decode cX8_isPrice 9 = .ok (.if_icmp .gt 7, 3) := by decide +kernel
theorem dX8_isPrice_12 : decode cX8_isPrice 12 = .ok (.iconst 1, 1) := by decide +kernel
theorem dX8_isPrice_13 : decode cX8_isPrice 13 = .ok (.goto 4, 3) := by decide +kernel
theorem dX8_isPrice_16 : decode cX8_isPrice 16 = .ok (.iconst 0, 1) := by decide +kernel
theorem dX8_isPrice_17 : decode cX8_isPrice 17 = .ok (.ireturn, 1) := by decide +kernel
theorem dX8_isLaw_0 : decode cX8_isLaw 0 = .ok (.iload_n 0, 1) := by decide +kernel
theorem dX8_isLaw_1 : decode cX8_isLaw 1 = .ok (.iconst 2, 1) := by decide +kernel
theorem dX8_isLaw_2 : decode cX8_isLaw 2 = .ok (.if_icmp .ne 19, 3) := by decide +kernel
theorem dX8_isLaw_5 : decode cX8_isLaw 5 = .ok (.iload_n 1, 1) := by decide +kernel
theorem dX8_isLaw_6 : decode cX8_isLaw 6 = .ok (.iconst 1, 1) := by decide +kernel
theorem dX8_isLaw_7 : decode cX8_isLaw 7 = .ok (.if_icmp .lt 12, 3) := by decide +kernel
theorem dX8_isLaw_10 : decode cX8_isLaw 10 = .ok (.iload_n 1, 1) := by decide +kernel
theorem dX8_isLaw_11 : decode cX8_isLaw 11 = .ok (.iconst 5, 1) := by decide +kernel
theorem dX8_isLaw_12 : decode cX8_isLaw 12 = .ok (.if_icmp .gt 7, 3) := by decide +kernel
theorem dX8_isLaw_15 : decode cX8_isLaw 15 = .ok (.iconst 1, 1) := by decide +kernel
theorem dX8_isLaw_16 : decode cX8_isLaw 16 = .ok (.goto 4, 3) := by decide +kernel
theorem dX8_isLaw_19 : decode cX8_isLaw 19 = .ok (.iconst 0, 1) := by decide +kernel
theorem dX8_isLaw_20 : decode cX8_isLaw 20 = .ok (.ireturn, 1) := by decide +kernel
theorem dX8_isLaw_21 : decode cX8_isLaw 21 = .ok (.iload_n 0, 1) := by decide +kernel
theorem dX8_isLaw_22 : decode cX8_isLaw 22 = .ok (.ifCond .eq 8, 3) := by decide +kernel
theorem dX8_isLaw_25 : decode cX8_isLaw 25 = .ok (.iload_n 0, 1) := by decide +kernel
theorem dX8_isLaw_26 : decode cX8_isLaw 26 = .ok (.iconst 1, 1) := by decide +kernel
theorem dX8_isLaw_27 : decode cX8_isLaw 27 = .ok (.if_icmp .ne 11, 3) := by decide +kernel
theorem dX8_isLaw_30 : decode cX8_isLaw 30 = .ok (.iload_n 1, 1) := by decide +kernel
theorem dX8_isLaw_31 : decode cX8_isLaw 31 = .ok (.ifCond .ne 7, 3) := by decide +kernel
theorem dX8_isLaw_34 : decode cX8_isLaw 34 = .ok (.iconst 1, 1) := by decide +kernel
theorem dX8_isLaw_35 : decode cX8_isLaw 35 = .ok (.goto 4, 3) := by decide +kernel
theorem dX8_isLaw_38 : decode cX8_isLaw 38 = .ok (.iconst 0, 1) := by decide +kernel
theorem dX8_isLaw_39 : decode cX8_isLaw 39 = .ok (.ireturn, 1) := by decide +kernel
theorem dX8_cutToForm_0 : decode cX8_cutToForm 0 = .ok (.iload_n 0, 1) := by decide +kernel
theorem dX8_cutToForm_1 : decode cX8_cutToForm 1 = .ok (.ifCond .ne 6, 3) := by decide +kernel
theorem dX8_cutToForm_4 : decode cX8_cutToForm 4 = .ok (.iload_n 1, 1) := by decide +kernel
theorem dX8_cutToForm_5 : decode cX8_cutToForm 5 = .ok (.i2b, 1) := by decide +kernel
theorem dX8_cutToForm_6 : decode cX8_cutToForm 6 = .ok (.ireturn, 1) := by decide +kernel
theorem dX8_cutToForm_7 : decode cX8_cutToForm 7 = .ok (.iload_n 0, 1) := by decide +kernel
theorem dX8_cutToForm_8 : decode cX8_cutToForm 8 = .ok (.iconst 1, 1) := by decide +kernel
theorem dX8_cutToForm_9 : decode cX8_cutToForm 9 = .ok (.if_icmp .ne 8, 3) := by decide +kernel
theorem dX8_cutToForm_12 : decode cX8_cutToForm 12 = .ok (.iload_n 1, 1) := by decide +kernel
theorem dX8_cutToForm_13 : decode cX8_cutToForm 13 = .ok (.i2s, 1) := by decide +kernel
theorem dX8_cutToForm_14 : decode cX8_cutToForm 14 = .ok (.goto 4, 3) := by decide +kernel
theorem dX8_cutToForm_17 : decode cX8_cutToForm 17 = .ok (.iload_n 1, 1) := by decide +kernel
theorem dX8_cutToForm_18 : decode cX8_cutToForm 18 = .ok (.ireturn, 1) := by decide +kernel
theorem dX8_exchange_0 : decode cX8_exchange 0 = .ok (.aload_n 0, 1) := by decide +kernel
theorem dX8_exchange_1 : decode cX8_exchange 1 = .ok (.iload_n 1, 1) := by decide +kernel
theorem dX8_exchange_2 : decode cX8_exchange 2 = .ok (.iaload, 1) := by decide +kernel
theorem dX8_exchange_3 : decode cX8_exchange 3 = .ok (.istore_n 3, 1) := by decide +kernel
theorem dX8_exchange_4 : decode cX8_exchange 4 = .ok (.aload_n 0, 1) := by decide +kernel
theorem dX8_exchange_5 : decode cX8_exchange 5 = .ok (.iload_n 1, 1) := by decide +kernel
theorem dX8_exchange_6 : decode cX8_exchange 6 = .ok (.aload_n 0, 1) := by decide +kernel
theorem dX8_exchange_7 : decode cX8_exchange 7 = .ok (.iload_n 2, 1) := by decide +kernel
theorem dX8_exchange_8 : decode cX8_exchange 8 = .ok (.iaload, 1) := by decide +kernel
theorem dX8_exchange_9 : decode cX8_exchange 9 = .ok (.iastore, 1) := by decide +kernel
theorem dX8_exchange_10 : decode cX8_exchange 10 = .ok (.aload_n 0, 1) := by decide +kernel
theorem dX8_exchange_11 : decode cX8_exchange 11 = .ok (.iload_n 2, 1) := by decide +kernel
theorem dX8_exchange_12 : decode cX8_exchange 12 = .ok (.iload_n 3, 1) := by decide +kernel
theorem dX8_exchange_13 : decode cX8_exchange 13 = .ok (.iastore, 1) := by decide +kernel
theorem dX8_exchange_14 : decode cX8_exchange 14 = .ok (.return_, 1) := by decide +kernel
theorem dX8_rank_0 : decode cX8_rank 0 = .ok (.iconst 0, 1) := by decide +kernel
theorem dX8_rank_1 : decode cX8_rank 1 = .ok (.istore_n 3, 1) := by decide +kernel
theorem dX8_rank_2 : decode cX8_rank 2 = .ok (.iload_n 3, 1) := by decide +kernel
theorem dX8_rank_3 : decode cX8_rank 3 = .ok (.iload_n 1, 1) := by decide +kernel
theorem dX8_rank_4 : decode cX8_rank 4 = .ok (.if_icmp .ge 52, 3) := by decide +kernel
theorem dX8_rank_7 : decode cX8_rank 7 = .ok (.iload_n 3, 1) := by decide +kernel
theorem dX8_rank_8 : decode cX8_rank 8 = .ok (.istore 4, 2) := by decide +kernel
theorem dX8_rank_10 : decode cX8_rank 10 = .ok (.iload 4, 2) := by decide +kernel
theorem dX8_rank_12 : decode cX8_rank 12 = .ok (.ifCond .le 33, 3) := by decide +kernel
theorem dX8_rank_15 : decode cX8_rank 15 = .ok (.aload_n 0, 1) := by decide +kernel
theorem dX8_rank_16 : decode cX8_rank 16 = .ok (.aload_n 2, 1) := by decide +kernel
theorem dX8_rank_17 : decode cX8_rank 17 = .ok (.iload 4, 2) := by decide +kernel
theorem dX8_rank_19 : decode cX8_rank 19 = .ok (.iconst 1, 1) := by decide +kernel
theorem dX8_rank_20 : decode cX8_rank 20 = .ok (.isub, 1) := by decide +kernel
theorem dX8_rank_21 : decode cX8_rank 21 = .ok (.iaload, 1) := by decide +kernel
theorem dX8_rank_22 : decode cX8_rank 22 = .ok (.iaload, 1) := by decide +kernel
theorem dX8_rank_23 : decode cX8_rank 23 = .ok (.aload_n 0, 1) := by decide +kernel
theorem dX8_rank_24 : decode cX8_rank 24 = .ok (.iload_n 3, 1) := by decide +kernel
theorem dX8_rank_25 : decode cX8_rank 25 = .ok (.iaload, 1) := by decide +kernel
theorem dX8_rank_26 : decode cX8_rank 26 = .ok (.if_icmp .le 19, 3) := by decide +kernel
theorem dX8_rank_29 : decode cX8_rank 29 = .ok (.aload_n 2, 1) := by decide +kernel
theorem dX8_rank_30 : decode cX8_rank 30 = .ok (.iload 4, 2) := by decide +kernel
theorem dX8_rank_32 : decode cX8_rank 32 = .ok (.aload_n 2, 1) := by decide +kernel
theorem dX8_rank_33 : decode cX8_rank 33 = .ok (.iload 4, 2) := by decide +kernel
theorem dX8_rank_35 : decode cX8_rank 35 = .ok (.iconst 1, 1) := by decide +kernel
theorem dX8_rank_36 : decode cX8_rank 36 = .ok (.isub, 1) := by decide +kernel
theorem dX8_rank_37 : decode cX8_rank 37 = .ok (.iaload, 1) := by decide +kernel
theorem dX8_rank_38 : decode cX8_rank 38 = .ok (.iastore, 1) := by decide +kernel
theorem dX8_rank_39 : decode cX8_rank 39 = .ok (.iinc 4 (-1), 3) := by decide +kernel
theorem dX8_rank_42 : decode cX8_rank 42 = .ok (.goto (-32), 3) := by decide +kernel
theorem dX8_rank_45 : decode cX8_rank 45 = .ok (.aload_n 2, 1) := by decide +kernel
theorem dX8_rank_46 : decode cX8_rank 46 = .ok (.iload 4, 2) := by decide +kernel
theorem dX8_rank_48 : decode cX8_rank 48 = .ok (.iload_n 3, 1) := by decide +kernel
theorem dX8_rank_49 : decode cX8_rank 49 = .ok (.iastore, 1) := by decide +kernel
theorem dX8_rank_50 : decode cX8_rank 50 = .ok (.iinc 3 1, 3) := by decide +kernel
theorem dX8_rank_53 : decode cX8_rank 53 = .ok (.goto (-51), 3) := by decide +kernel
theorem dX8_rank_56 : decode cX8_rank 56 = .ok (.return_, 1) := by decide +kernel
theorem dX8_leastByRings_0 : decode cX8_leastByRings 0 = .ok (.aload_n 0, 1) := by decide +kernel
theorem dX8_leastByRings_1 : decode cX8_leastByRings 1 = .ok (.getfield 19, 3) := by decide +kernel
theorem dX8_leastByRings_4 : decode cX8_leastByRings 4 = .ok (.getfield 125, 3) := by decide +kernel
theorem dX8_leastByRings_7 : decode cX8_leastByRings 7 = .ok (.istore_n 1, 1) := by decide +kernel
theorem dX8_leastByRings_8 : decode cX8_leastByRings 8 = .ok (.aload_n 0, 1) := by decide +kernel
theorem dX8_leastByRings_9 : decode cX8_leastByRings 9 = .ok (.getfield 47, 3) := by decide +kernel
theorem dX8_leastByRings_12 : decode cX8_leastByRings 12 = .ok (.iload_n 1, 1) := by decide +kernel
theorem dX8_leastByRings_13 : decode cX8_leastByRings 13 = .ok (.iconst 1, 1) := by decide +kernel
theorem dX8_leastByRings_14 : decode cX8_leastByRings 14 = .ok (.iadd, 1) := by decide +kernel
theorem dX8_leastByRings_15 : decode cX8_leastByRings 15 = .ok (.putfield 278, 3) := by decide +kernel
theorem dX8_leastByRings_18 : decode cX8_leastByRings 18 = .ok (.aload_n 0, 1) := by decide +kernel
theorem dX8_leastByRings_19 : decode cX8_leastByRings 19 = .ok (.getfield 19, 3) := by decide +kernel
theorem dX8_leastByRings_22 : decode cX8_leastByRings 22 = .ok (.getfield 151, 3) := by decide +kernel
theorem dX8_leastByRings_25 : decode cX8_leastByRings 25 = .ok (.iconst 0, 1) := by decide +kernel
theorem dX8_leastByRings_26 : decode cX8_leastByRings 26 = .ok (.aload_n 0, 1) := by decide +kernel
theorem dX8_leastByRings_27 : decode cX8_leastByRings 27 = .ok (.getfield 47, 3) := by decide +kernel
theorem dX8_leastByRings_30 : decode cX8_leastByRings 30 = .ok (.getfield 281, 3) := by decide +kernel
theorem dX8_leastByRings_33 : decode cX8_leastByRings 33 = .ok (.iconst 0, 1) := by decide +kernel
theorem dX8_leastByRings_34 : decode cX8_leastByRings 34 = .ok (.iload_n 1, 1) := by decide +kernel
theorem dX8_leastByRings_35 : decode cX8_leastByRings 35 = .ok (.invokestatic 119, 3) := by decide +kernel
theorem dX8_leastByRings_38 : decode cX8_leastByRings 38 = .ok (.aload_n 0, 1) := by decide +kernel
theorem dX8_leastByRings_39 : decode cX8_leastByRings 39 = .ok (.getfield 19, 3) := by decide +kernel
theorem dX8_leastByRings_42 : decode cX8_leastByRings 42 = .ok (.getfield 154, 3) := by decide +kernel
theorem dX8_leastByRings_45 : decode cX8_leastByRings 45 = .ok (.iconst 0, 1) := by decide +kernel
theorem dX8_leastByRings_46 : decode cX8_leastByRings 46 = .ok (.aload_n 0, 1) := by decide +kernel
theorem dX8_leastByRings_47 : decode cX8_leastByRings 47 = .ok (.getfield 47, 3) := by decide +kernel
theorem dX8_leastByRings_50 : decode cX8_leastByRings 50 = .ok (.getfield 284, 3) := by decide +kernel
theorem dX8_leastByRings_53 : decode cX8_leastByRings 53 = .ok (.iconst 0, 1) := by decide +kernel
theorem dX8_leastByRings_54 : decode cX8_leastByRings 54 = .ok (.iload_n 1, 1) := by decide +kernel
theorem dX8_leastByRings_55 : decode cX8_leastByRings 55 = .ok (.invokestatic 119, 3) := by decide +kernel
theorem dX8_leastByRings_58 : decode cX8_leastByRings 58 = .ok (.aload_n 0, 1) := by decide +kernel
theorem dX8_leastByRings_59 : decode cX8_leastByRings 59 = .ok (.getfield 47, 3) := by decide +kernel
theorem dX8_leastByRings_62 : decode cX8_leastByRings 62 = .ok (.getfield 281, 3) := by decide +kernel
theorem dX8_leastByRings_65 : decode cX8_leastByRings 65 = .ok (.iload_n 1, 1) := by decide +kernel
theorem dX8_leastByRings_66 : decode cX8_leastByRings 66 = .ok (.iconst 0, 1) := by decide +kernel
theorem dX8_leastByRings_67 : decode cX8_leastByRings 67 = .ok (.iastore, 1) := by decide +kernel
theorem dX8_leastByRings_68 : decode cX8_leastByRings 68 = .ok (.aload_n 0, 1) := by decide +kernel
theorem dX8_leastByRings_69 : decode cX8_leastByRings 69 = .ok (.getfield 47, 3) := by decide +kernel
theorem dX8_leastByRings_72 : decode cX8_leastByRings 72 = .ok (.getfield 284, 3) := by decide +kernel
theorem dX8_leastByRings_75 : decode cX8_leastByRings 75 = .ok (.iload_n 1, 1) := by decide +kernel
theorem dX8_leastByRings_76 : decode cX8_leastByRings 76 = .ok (.iconst 0, 1) := by decide +kernel
theorem dX8_leastByRings_77 : decode cX8_leastByRings 77 = .ok (.iastore, 1) := by decide +kernel
theorem dX8_leastByRings_78 : decode cX8_leastByRings 78 = .ok (.aload_n 0, 1) := by decide +kernel
theorem dX8_leastByRings_79 : decode cX8_leastByRings 79 = .ok (.getfield 47, 3) := by decide +kernel
theorem dX8_leastByRings_82 : decode cX8_leastByRings 82 = .ok (.aload_n 0, 1) := by decide +kernel
theorem dX8_leastByRings_83 : decode cX8_leastByRings 83 = .ok (.getfield 67, 3) := by decide +kernel
theorem dX8_leastByRings_86 : decode cX8_leastByRings 86 = .ok (.invokevirtual 287, 3) := by decide +kernel
theorem dX8_leastByRings_89 : decode cX8_leastByRings 89 = .ok (.istore_n 2, 1) := by decide +kernel
theorem dX8_leastByRings_90 : decode cX8_leastByRings 90 = .ok (.aload_n 0, 1) := by decide +kernel
theorem dX8_leastByRings_91 : decode cX8_leastByRings 91 = .ok (.getfield 47, 3) := by decide +kernel
theorem dX8_leastByRings_94 : decode cX8_leastByRings 94 = .ok (.aload_n 0, 1) := by decide +kernel
theorem dX8_leastByRings_95 : decode cX8_leastByRings 95 = .ok (.getfield 47, 3) := by decide +kernel
theorem dX8_leastByRings_98 : decode cX8_leastByRings 98 = .ok (.getfield 327, 3) := by decide +kernel
theorem dX8_leastByRings_101 : decode cX8_leastByRings 101 = .ok (.iload_n 1, 1) := by decide +kernel
theorem dX8_leastByRings_102 : decode cX8_leastByRings 102 = .ok (.iaload, 1) := by decide +kernel
theorem dX8_leastByRings_103 : decode cX8_leastByRings 103 = .ok (.aload_n 0, 1) := by decide +kernel
theorem dX8_leastByRings_104 : decode cX8_leastByRings 104 = .ok (.getfield 70, 3) := by decide +kernel
theorem dX8_leastByRings_107 : decode cX8_leastByRings 107 = .ok (.iload_n 1, 1) := by decide +kernel
theorem dX8_leastByRings_108 : decode cX8_leastByRings 108 = .ok (.invokevirtual 291, 3) := by decide +kernel
theorem dX8_leastByRings_111 : decode cX8_leastByRings 111 = .ok (.aload_n 0, 1) := by decide +kernel
theorem dX8_leastByRings_112 : decode cX8_leastByRings 112 = .ok (.getfield 33, 3) := by decide +kernel
theorem dX8_leastByRings_115 : decode cX8_leastByRings 115 = .ok (.aload_n 0, 1) := by decide +kernel
theorem dX8_leastByRings_116 : decode cX8_leastByRings 116 = .ok (.getfield 70, 3) := by decide +kernel
theorem dX8_leastByRings_119 : decode cX8_leastByRings 119 = .ok (.iload_n 1, 1) := by decide +kernel
theorem dX8_leastByRings_120 : decode cX8_leastByRings 120 = .ok (.invokevirtual 248, 3) := by decide +kernel
theorem dX8_leastByRings_123 : decode cX8_leastByRings 123 = .ok (.aload_n 0, 1) := by decide +kernel
theorem dX8_leastByRings_124 : decode cX8_leastByRings 124 = .ok (.getfield 19, 3) := by decide +kernel
theorem dX8_leastByRings_127 : decode cX8_leastByRings 127 = .ok (.aload_n 0, 1) := by decide +kernel
theorem dX8_leastByRings_128 : decode cX8_leastByRings 128 = .ok (.getfield 19, 3) := by decide +kernel
theorem dX8_leastByRings_131 : decode cX8_leastByRings 131 = .ok (.getfield 154, 3) := by decide +kernel
theorem dX8_leastByRings_134 : decode cX8_leastByRings 134 = .ok (.invokevirtual 228, 3) := by decide +kernel
theorem dX8_leastByRings_137 : decode cX8_leastByRings 137 = .ok (.iload_n 2, 1) := by decide +kernel
theorem dX8_leastByRings_138 : decode cX8_leastByRings 138 = .ok (.iadd, 1) := by decide +kernel
theorem dX8_leastByRings_139 : decode cX8_leastByRings 139 = .ok (.ireturn, 1) := by decide +kernel
theorem dX8_leastOfAllRows_0 : decode cX8_leastOfAllRows 0 = .ok (.aload_n 0, 1) := by decide +kernel
theorem dX8_leastOfAllRows_1 : decode cX8_leastOfAllRows 1 = .ok (.getfield 54, 3) := by decide +kernel
theorem dX8_leastOfAllRows_4 : decode cX8_leastOfAllRows 4 = .ok (.aload_n 0, 1) := by decide +kernel
theorem dX8_leastOfAllRows_5 : decode cX8_leastOfAllRows 5 = .ok (.getfield 19, 3) := by decide +kernel
theorem dX8_leastOfAllRows_8 : decode cX8_leastOfAllRows 8 = .ok (.getfield 125, 3) := by decide +kernel
theorem dX8_leastOfAllRows_11 : decode cX8_leastOfAllRows 11 = .ok (.invokevirtual 298, 3) := by decide +kernel
theorem dX8_leastOfAllRows_14 : decode cX8_leastOfAllRows 14 = .ok (.ldc_w 301, 3) := by decide +kernel
theorem dX8_leastOfAllRows_17 : decode cX8_leastOfAllRows 17 = .ok (.istore_n 2, 1) := by decide +kernel
theorem dX8_leastOfAllRows_18 : decode cX8_leastOfAllRows 18 = .ok (.iconst 0, 1) := by decide +kernel
theorem dX8_leastOfAllRows_19 : decode cX8_leastOfAllRows 19 = .ok (.istore_n 3, 1) := by decide +kernel
theorem dX8_leastOfAllRows_20 : decode cX8_leastOfAllRows 20 = .ok (.iconst 0, 1) := by decide +kernel
theorem dX8_leastOfAllRows_21 : decode cX8_leastOfAllRows 21 = .ok (.istore 4, 2) := by decide +kernel
theorem dX8_leastOfAllRows_23 : decode cX8_leastOfAllRows 23 = .ok (.iload 4, 2) := by decide +kernel
theorem dX8_leastOfAllRows_25 : decode cX8_leastOfAllRows 25 = .ok (.sipush 5040, 3) := by decide +kernel
theorem dX8_leastOfAllRows_28 : decode cX8_leastOfAllRows 28 = .ok (.if_icmp .ge 95, 3) := by decide +kernel
theorem dX8_leastOfAllRows_31 : decode cX8_leastOfAllRows 31 = .ok (.iload_n 3, 1) := by decide +kernel
theorem dX8_leastOfAllRows_32 : decode cX8_leastOfAllRows 32 = .ok (.ifCond .lt 91, 3) := by decide +kernel
theorem dX8_leastOfAllRows_35 : decode cX8_leastOfAllRows 35 = .ok (.aload_n 0, 1) := by decide +kernel
theorem dX8_leastOfAllRows_36 : decode cX8_leastOfAllRows 36 = .ok (.getfield 40, 3) := by decide +kernel
theorem dX8_leastOfAllRows_39 : decode cX8_leastOfAllRows 39 = .ok (.aload_n 0, 1) := by decide +kernel
theorem dX8_leastOfAllRows_40 : decode cX8_leastOfAllRows 40 = .ok (.getfield 19, 3) := by decide +kernel
theorem dX8_leastOfAllRows_43 : decode cX8_leastOfAllRows 43 = .ok (.aload_n 0, 1) := by decide +kernel
theorem dX8_leastOfAllRows_44 : decode cX8_leastOfAllRows 44 = .ok (.getfield 54, 3) := by decide +kernel
theorem dX8_leastOfAllRows_47 : decode cX8_leastOfAllRows 47 = .ok (.getfield 302, 3) := by decide +kernel
theorem dX8_leastOfAllRows_50 : decode cX8_leastOfAllRows 50 = .ok (.iload_n 3, 1) := by decide +kernel
theorem dX8_leastOfAllRows_51 : decode cX8_leastOfAllRows 51 = .ok (.invokevirtual 195, 3) := by decide +kernel
theorem dX8_leastOfAllRows_54 : decode cX8_leastOfAllRows 54 = .ok (.istore 5, 2) := by decide +kernel
theorem dX8_leastOfAllRows_56 : decode cX8_leastOfAllRows 56 = .ok (.iload 5, 2) := by decide +kernel
theorem dX8_leastOfAllRows_58 : decode cX8_leastOfAllRows 58 = .ok (.iload_n 2, 1) := by decide +kernel
theorem dX8_leastOfAllRows_59 : decode cX8_leastOfAllRows 59 = .ok (.if_icmp .ge 50, 3) := by decide +kernel
theorem dX8_leastOfAllRows_62 : decode cX8_leastOfAllRows 62 = .ok (.iload_n 1, 1) := by decide +kernel
theorem dX8_leastOfAllRows_63 : decode cX8_leastOfAllRows 63 = .ok (.ifCond .eq 20, 3) := by decide +kernel
theorem dX8_leastOfAllRows_66 : decode cX8_leastOfAllRows 66 = .ok (.aload_n 0, 1) := by decide +kernel
theorem dX8_leastOfAllRows_67 : decode cX8_leastOfAllRows 67 = .ok (.getfield 19, 3) := by decide +kernel
theorem dX8_leastOfAllRows_70 : decode cX8_leastOfAllRows 70 = .ok (.aload_n 0, 1) := by decide +kernel
theorem dX8_leastOfAllRows_71 : decode cX8_leastOfAllRows 71 = .ok (.getfield 54, 3) := by decide +kernel
theorem dX8_leastOfAllRows_74 : decode cX8_leastOfAllRows 74 = .ok (.getfield 302, 3) := by decide +kernel
theorem dX8_leastOfAllRows_77 : decode cX8_leastOfAllRows 77 = .ok (.invokevirtual 330, 3) := by decide +kernel
theorem dX8_leastOfAllRows_80 : decode cX8_leastOfAllRows 80 = .ok (.ifCond .ne 29, 3) := by decide +kernel
theorem dX8_leastOfAllRows_83 : decode cX8_leastOfAllRows 83 = .ok (.iload 5, 2) := by decide +kernel
theorem dX8_leastOfAllRows_85 : decode cX8_leastOfAllRows 85 = .ok (.istore_n 2, 1) := by decide +kernel
theorem dX8_leastOfAllRows_86 : decode cX8_leastOfAllRows 86 = .ok (.aload_n 0, 1) := by decide +kernel
theorem dX8_leastOfAllRows_87 : decode cX8_leastOfAllRows 87 = .ok (.getfield 54, 3) := by decide +kernel
theorem dX8_leastOfAllRows_90 : decode cX8_leastOfAllRows 90 = .ok (.getfield 302, 3) := by decide +kernel
theorem dX8_leastOfAllRows_93 : decode cX8_leastOfAllRows 93 = .ok (.iconst 0, 1) := by decide +kernel
theorem dX8_leastOfAllRows_94 : decode cX8_leastOfAllRows 94 = .ok (.aload_n 0, 1) := by decide +kernel
theorem dX8_leastOfAllRows_95 : decode cX8_leastOfAllRows 95 = .ok (.getfield 70, 3) := by decide +kernel
theorem dX8_leastOfAllRows_98 : decode cX8_leastOfAllRows 98 = .ok (.iconst 0, 1) := by decide +kernel
theorem dX8_leastOfAllRows_99 : decode cX8_leastOfAllRows 99 = .ok (.aload_n 0, 1) := by decide +kernel
theorem dX8_leastOfAllRows_100 : decode cX8_leastOfAllRows 100 = .ok (.getfield 19, 3) := by decide +kernel
theorem dX8_leastOfAllRows_103 : decode cX8_leastOfAllRows 103 = .ok (.getfield 125, 3) := by decide +kernel
theorem dX8_leastOfAllRows_106 : decode cX8_leastOfAllRows 106 = .ok (.invokestatic 119, 3) := by decide +kernel
theorem dX8_leastOfAllRows_109 : decode cX8_leastOfAllRows 109 = .ok (.aload_n 0, 1) := by decide +kernel
theorem dX8_leastOfAllRows_110 : decode cX8_leastOfAllRows 110 = .ok (.getfield 54, 3) := by decide +kernel
theorem dX8_leastOfAllRows_113 : decode cX8_leastOfAllRows 113 = .ok (.invokevirtual 309, 3) := by decide +kernel
theorem dX8_leastOfAllRows_116 : decode cX8_leastOfAllRows 116 = .ok (.istore_n 3, 1) := by decide +kernel
theorem dX8_leastOfAllRows_117 : decode cX8_leastOfAllRows 117 = .ok (.iinc 4 1, 3) := by decide +kernel
theorem dX8_leastOfAllRows_120 : decode cX8_leastOfAllRows 120 = .ok (.goto (-97), 3) := by decide +kernel
theorem dX8_leastOfAllRows_123 : decode cX8_leastOfAllRows 123 = .ok (.iload_n 2, 1) := by decide +kernel
theorem dX8_leastOfAllRows_124 : decode cX8_leastOfAllRows 124 = .ok (.ireturn, 1) := by decide +kernel
theorem dX8_passOfNeighbours_0 : decode cX8_passOfNeighbours 0 = .ok (.iconst 0, 1) := by decide +kernel
theorem dX8_passOfNeighbours_1 : decode cX8_passOfNeighbours 1 = .ok (.istore_n 1, 1) := by decide +kernel
theorem dX8_passOfNeighbours_2 : decode cX8_passOfNeighbours 2 = .ok (.aload_n 0, 1) := by decide +kernel
theorem dX8_passOfNeighbours_3 : decode cX8_passOfNeighbours 3 = .ok (.getfield 40, 3) := by decide +kernel
theorem dX8_passOfNeighbours_6 : decode cX8_passOfNeighbours 6 = .ok (.aload_n 0, 1) := by decide +kernel
theorem dX8_passOfNeighbours_7 : decode cX8_passOfNeighbours 7 = .ok (.getfield 19, 3) := by decide +kernel
theorem dX8_passOfNeighbours_10 : decode cX8_passOfNeighbours 10 = .ok (.aload_n 0, 1) := by decide +kernel
theorem dX8_passOfNeighbours_11 : decode cX8_passOfNeighbours 11 = .ok (.getfield 19, 3) := by decide +kernel
theorem dX8_passOfNeighbours_14 : decode cX8_passOfNeighbours 14 = .ok (.getfield 181, 3) := by decide +kernel
theorem dX8_passOfNeighbours_17 : decode cX8_passOfNeighbours 17 = .ok (.iconst 0, 1) := by decide +kernel
theorem dX8_passOfNeighbours_18 : decode cX8_passOfNeighbours 18 = .ok (.invokevirtual 195, 3) := by decide +kernel
theorem dX8_passOfNeighbours_21 : decode cX8_passOfNeighbours 21 = .ok (.istore_n 2, 1) := by decide +kernel
theorem dX8_passOfNeighbours_22 : decode cX8_passOfNeighbours 22 = .ok (.iconst 0, 1) := by decide +kernel
theorem dX8_passOfNeighbours_23 : decode cX8_passOfNeighbours 23 = .ok (.istore_n 3, 1) := by decide +kernel
theorem dX8_passOfNeighbours_24 : decode cX8_passOfNeighbours 24 = .ok (.iload_n 3, 1) := by decide +kernel
theorem dX8_passOfNeighbours_25 : decode cX8_passOfNeighbours 25 = .ok (.iconst 1, 1) := by decide +kernel
theorem dX8_passOfNeighbours_26 : decode cX8_passOfNeighbours 26 = .ok (.iadd, 1) := by decide +kernel
theorem dX8_passOfNeighbours_27 : decode cX8_passOfNeighbours 27 = .ok (.aload_n 0, 1) := by decide +kernel
theorem dX8_passOfNeighbours_28 : decode cX8_passOfNeighbours 28 = .ok (.getfield 19, 3) := by decide +kernel
theorem dX8_passOfNeighbours_31 : decode cX8_passOfNeighbours 31 = .ok (.getfield 125, 3) := by decide +kernel
theorem dX8_passOfNeighbours_34 : decode cX8_passOfNeighbours 34 = .ok (.if_icmp .ge 79, 3) := by decide +kernel
theorem dX8_passOfNeighbours_37 : decode cX8_passOfNeighbours 37 = .ok (.aload_n 0, 1) := by decide +kernel
theorem dX8_passOfNeighbours_38 : decode cX8_passOfNeighbours 38 = .ok (.getfield 19, 3) := by decide +kernel
theorem dX8_passOfNeighbours_41 : decode cX8_passOfNeighbours 41 = .ok (.getfield 181, 3) := by decide +kernel
theorem dX8_passOfNeighbours_44 : decode cX8_passOfNeighbours 44 = .ok (.iload_n 3, 1) := by decide +kernel
theorem dX8_passOfNeighbours_45 : decode cX8_passOfNeighbours 45 = .ok (.iload_n 3, 1) := by decide +kernel
theorem dX8_passOfNeighbours_46 : decode cX8_passOfNeighbours 46 = .ok (.iconst 1, 1) := by decide +kernel
theorem dX8_passOfNeighbours_47 : decode cX8_passOfNeighbours 47 = .ok (.iadd, 1) := by decide +kernel
theorem dX8_passOfNeighbours_48 : decode cX8_passOfNeighbours 48 = .ok (.invokestatic 184, 3) := by decide +kernel
theorem dX8_passOfNeighbours_51 : decode cX8_passOfNeighbours 51 = .ok (.aload_n 0, 1) := by decide +kernel
theorem dX8_passOfNeighbours_52 : decode cX8_passOfNeighbours 52 = .ok (.getfield 40, 3) := by decide +kernel
theorem dX8_passOfNeighbours_55 : decode cX8_passOfNeighbours 55 = .ok (.aload_n 0, 1) := by decide +kernel
theorem dX8_passOfNeighbours_56 : decode cX8_passOfNeighbours 56 = .ok (.getfield 19, 3) := by decide +kernel
theorem dX8_passOfNeighbours_59 : decode cX8_passOfNeighbours 59 = .ok (.aload_n 0, 1) := by decide +kernel
theorem dX8_passOfNeighbours_60 : decode cX8_passOfNeighbours 60 = .ok (.getfield 19, 3) := by decide +kernel
theorem dX8_passOfNeighbours_63 : decode cX8_passOfNeighbours 63 = .ok (.getfield 181, 3) := by decide +kernel
theorem dX8_passOfNeighbours_66 : decode cX8_passOfNeighbours 66 = .ok (.iconst 0, 1) := by decide +kernel
theorem dX8_passOfNeighbours_67 : decode cX8_passOfNeighbours 67 = .ok (.iload_n 3, 1) := by decide +kernel
theorem dX8_passOfNeighbours_68 : decode cX8_passOfNeighbours 68 = .ok (.iconst 1, 1) := by decide +kernel
theorem dX8_passOfNeighbours_69 : decode cX8_passOfNeighbours 69 = .ok (.isub, 1) := by decide +kernel
theorem dX8_passOfNeighbours_70 : decode cX8_passOfNeighbours 70 = .ok (.invokestatic 235, 3) := by decide +kernel
theorem dX8_passOfNeighbours_73 : decode cX8_passOfNeighbours 73 = .ok (.invokevirtual 195, 3) := by decide +kernel
theorem dX8_passOfNeighbours_76 : decode cX8_passOfNeighbours 76 = .ok (.istore 4, 2) := by decide +kernel
theorem dX8_passOfNeighbours_78 : decode cX8_passOfNeighbours 78 = .ok (.iload 4, 2) := by decide +kernel
theorem dX8_passOfNeighbours_80 : decode cX8_passOfNeighbours 80 = .ok (.iload_n 2, 1) := by decide +kernel
theorem dX8_passOfNeighbours_81 : decode cX8_passOfNeighbours 81 = .ok (.if_icmp .ge 12, 3) := by decide +kernel
theorem dX8_passOfNeighbours_84 : decode cX8_passOfNeighbours 84 = .ok (.iload 4, 2) := by decide +kernel
theorem dX8_passOfNeighbours_86 : decode cX8_passOfNeighbours 86 = .ok (.istore_n 2, 1) := by decide +kernel
theorem dX8_passOfNeighbours_87 : decode cX8_passOfNeighbours 87 = .ok (.iinc 1 1, 3) := by decide +kernel
theorem dX8_passOfNeighbours_90 : decode cX8_passOfNeighbours 90 = .ok (.goto 17, 3) := by decide +kernel
theorem dX8_passOfNeighbours_93 : decode cX8_passOfNeighbours 93 = .ok (.aload_n 0, 1) := by decide +kernel
theorem dX8_passOfNeighbours_94 : decode cX8_passOfNeighbours 94 = .ok (.getfield 19, 3) := by decide +kernel
theorem dX8_passOfNeighbours_97 : decode cX8_passOfNeighbours 97 = .ok (.getfield 181, 3) := by decide +kernel
theorem dX8_passOfNeighbours_100 : decode cX8_passOfNeighbours 100 = .ok (.iload_n 3, 1) := by decide +kernel
theorem dX8_passOfNeighbours_101 : decode cX8_passOfNeighbours 101 = .ok (.iload_n 3, 1) := by decide +kernel
theorem dX8_passOfNeighbours_102 : decode cX8_passOfNeighbours 102 = .ok (.iconst 1, 1) := by decide +kernel
theorem dX8_passOfNeighbours_103 : decode cX8_passOfNeighbours 103 = .ok (.iadd, 1) := by decide +kernel
theorem dX8_passOfNeighbours_104 : decode cX8_passOfNeighbours 104 = .ok (.invokestatic 184, 3) := by decide +kernel
theorem dX8_passOfNeighbours_107 : decode cX8_passOfNeighbours 107 = .ok (.iinc 3 1, 3) := by decide +kernel
theorem dX8_passOfNeighbours_110 : decode cX8_passOfNeighbours 110 = .ok (.goto (-86), 3) := by decide +kernel
theorem dX8_passOfNeighbours_113 : decode cX8_passOfNeighbours 113 = .ok (.iload_n 1, 1) := by decide +kernel
theorem dX8_passOfNeighbours_114 : decode cX8_passOfNeighbours 114 = .ok (.ireturn, 1) := by decide +kernel
theorem dX8_wayBetween_0 : decode cX8_wayBetween 0 = .ok (.aload_n 0, 1) := by decide +kernel
theorem dX8_wayBetween_1 : decode cX8_wayBetween 1 = .ok (.getfield 63, 3) := by decide +kernel
theorem dX8_wayBetween_4 : decode cX8_wayBetween 4 = .ok (.aload_n 0, 1) := by decide +kernel
theorem dX8_wayBetween_5 : decode cX8_wayBetween 5 = .ok (.getfield 19, 3) := by decide +kernel
theorem dX8_wayBetween_8 : decode cX8_wayBetween 8 = .ok (.getfield 160, 3) := by decide +kernel
theorem dX8_wayBetween_11 : decode cX8_wayBetween 11 = .ok (.iload_n 1, 1) := by decide +kernel
theorem dX8_wayBetween_12 : decode cX8_wayBetween 12 = .ok (.iaload, 1) := by decide +kernel
theorem dX8_wayBetween_13 : decode cX8_wayBetween 13 = .ok (.aload_n 0, 1) := by decide +kernel
theorem dX8_wayBetween_14 : decode cX8_wayBetween 14 = .ok (.getfield 19, 3) := by decide +kernel
theorem dX8_wayBetween_17 : decode cX8_wayBetween 17 = .ok (.getfield 157, 3) := by decide +kernel
theorem dX8_wayBetween_20 : decode cX8_wayBetween 20 = .ok (.iload_n 2, 1) := by decide +kernel
theorem dX8_wayBetween_21 : decode cX8_wayBetween 21 = .ok (.iaload, 1) := by decide +kernel
theorem dX8_wayBetween_22 : decode cX8_wayBetween 22 = .ok (.invokevirtual 334, 3) := by decide +kernel
theorem dX8_wayBetween_25 : decode cX8_wayBetween 25 = .ok (.ireturn, 1) := by decide +kernel
theorem dX8_layWays_0 : decode cX8_layWays 0 = .ok (.iconst 0, 1) := by decide +kernel
theorem dX8_layWays_1 : decode cX8_layWays 1 = .ok (.istore_n 1, 1) := by decide +kernel
theorem dX8_layWays_2 : decode cX8_layWays 2 = .ok (.iload_n 1, 1) := by decide +kernel
theorem dX8_layWays_3 : decode cX8_layWays 3 = .ok (.aload_n 0, 1) := by decide +kernel
theorem dX8_layWays_4 : decode cX8_layWays 4 = .ok (.getfield 19, 3) := by decide +kernel
theorem dX8_layWays_7 : decode cX8_layWays 7 = .ok (.getfield 125, 3) := by decide +kernel
theorem dX8_layWays_10 : decode cX8_layWays 10 = .ok (.if_icmp .ge 42, 3) := by decide +kernel
theorem dX8_layWays_13 : decode cX8_layWays 13 = .ok (.iconst 0, 1) := by decide +kernel
theorem dX8_layWays_14 : decode cX8_layWays 14 = .ok (.istore_n 2, 1) := by decide +kernel
theorem dX8_layWays_15 : decode cX8_layWays 15 = .ok (.iload_n 2, 1) := by decide +kernel
theorem dX8_layWays_16 : decode cX8_layWays 16 = .ok (.aload_n 0, 1) := by decide +kernel
theorem dX8_layWays_17 : decode cX8_layWays 17 = .ok (.getfield 19, 3) := by decide +kernel
theorem dX8_layWays_20 : decode cX8_layWays 20 = .ok (.getfield 125, 3) := by decide +kernel
theorem dX8_layWays_23 : decode cX8_layWays 23 = .ok (.if_icmp .ge 23, 3) := by decide +kernel
theorem dX8_layWays_26 : decode cX8_layWays 26 = .ok (.aload_n 0, 1) := by decide +kernel
theorem dX8_layWays_27 : decode cX8_layWays 27 = .ok (.getfield 76, 3) := by decide +kernel
theorem dX8_layWays_30 : decode cX8_layWays 30 = .ok (.iload_n 1, 1) := by decide +kernel
theorem dX8_layWays_31 : decode cX8_layWays 31 = .ok (.aaload, 1) := by decide +kernel
theorem dX8_layWays_32 : decode cX8_layWays 32 = .ok (.iload_n 2, 1) := by decide +kernel
theorem dX8_layWays_33 : decode cX8_layWays 33 = .ok (.aload_n 0, 1) := by decide +kernel
theorem dX8_layWays_34 : decode cX8_layWays 34 = .ok (.iload_n 1, 1) := by decide +kernel
theorem dX8_layWays_35 : decode cX8_layWays 35 = .ok (.iload_n 2, 1) := by decide +kernel
theorem dX8_layWays_36 : decode cX8_layWays 36 = .ok (.invokevirtual 271, 3) := by decide +kernel
theorem dX8_layWays_39 : decode cX8_layWays 39 = .ok (.iastore, 1) := by decide +kernel
theorem dX8_layWays_40 : decode cX8_layWays 40 = .ok (.iinc 2 1, 3) := by decide +kernel
theorem dX8_layWays_43 : decode cX8_layWays 43 = .ok (.goto (-28), 3) := by decide +kernel
theorem dX8_layWays_46 : decode cX8_layWays 46 = .ok (.iinc 1 1, 3) := by decide +kernel
theorem dX8_layWays_49 : decode cX8_layWays 49 = .ok (.goto (-47), 3) := by decide +kernel
theorem dX8_layWays_52 : decode cX8_layWays 52 = .ok (.return_, 1) := by decide +kernel
theorem dX8_roundOfWays_0 : decode cX8_roundOfWays 0 = .ok (.aload_n 0, 1) := by decide +kernel
theorem dX8_roundOfWays_1 : decode cX8_roundOfWays 1 = .ok (.getfield 19, 3) := by decide +kernel
theorem dX8_roundOfWays_4 : decode cX8_roundOfWays 4 = .ok (.getfield 125, 3) := by decide +kernel
theorem dX8_roundOfWays_7 : decode cX8_roundOfWays 7 = .ok (.iconst 1, 1) := by decide +kernel
theorem dX8_roundOfWays_8 : decode cX8_roundOfWays 8 = .ok (.isub, 1) := by decide +kernel
theorem dX8_roundOfWays_9 : decode cX8_roundOfWays 9 = .ok (.istore_n 2, 1) := by decide +kernel
theorem dX8_roundOfWays_10 : decode cX8_roundOfWays 10 = .ok (.aload_n 0, 1) := by decide +kernel
theorem dX8_roundOfWays_11 : decode cX8_roundOfWays 11 = .ok (.getfield 76, 3) := by decide +kernel
theorem dX8_roundOfWays_14 : decode cX8_roundOfWays 14 = .ok (.aload_n 1, 1) := by decide +kernel
theorem dX8_roundOfWays_15 : decode cX8_roundOfWays 15 = .ok (.iload_n 2, 1) := by decide +kernel
theorem dX8_roundOfWays_16 : decode cX8_roundOfWays 16 = .ok (.iaload, 1) := by decide +kernel
theorem dX8_roundOfWays_17 : decode cX8_roundOfWays 17 = .ok (.aaload, 1) := by decide +kernel
theorem dX8_roundOfWays_18 : decode cX8_roundOfWays 18 = .ok (.aload_n 1, 1) := by decide +kernel
theorem dX8_roundOfWays_19 : decode cX8_roundOfWays 19 = .ok (.iconst 0, 1) := by decide +kernel
theorem dX8_roundOfWays_20 : decode cX8_roundOfWays 20 = .ok (.iaload, 1) := by decide +kernel
theorem dX8_roundOfWays_21 : decode cX8_roundOfWays 21 = .ok (.iaload, 1) := by decide +kernel
theorem dX8_roundOfWays_22 : decode cX8_roundOfWays 22 = .ok (.istore_n 3, 1) := by decide +kernel
theorem dX8_roundOfWays_23 : decode cX8_roundOfWays 23 = .ok (.iconst 0, 1) := by decide +kernel
theorem dX8_roundOfWays_24 : decode cX8_roundOfWays 24 = .ok (.istore 4, 2) := by decide +kernel
theorem dX8_roundOfWays_26 : decode cX8_roundOfWays 26 = .ok (.iload 4, 2) := by decide +kernel
theorem dX8_roundOfWays_28 : decode cX8_roundOfWays 28 = .ok (.iload_n 2, 1) := by decide +kernel
theorem dX8_roundOfWays_29 : decode cX8_roundOfWays 29 = .ok (.if_icmp .ge 28, 3) := by decide +kernel
theorem dX8_roundOfWays_32 : decode cX8_roundOfWays 32 = .ok (.iload_n 3, 1) := by decide +kernel
theorem dX8_roundOfWays_33 : decode cX8_roundOfWays 33 = .ok (.aload_n 0, 1) := by decide +kernel
theorem dX8_roundOfWays_34 : decode cX8_roundOfWays 34 = .ok (.getfield 76, 3) := by decide +kernel
theorem dX8_roundOfWays_37 : decode cX8_roundOfWays 37 = .ok (.aload_n 1, 1) := by decide +kernel
theorem dX8_roundOfWays_38 : decode cX8_roundOfWays 38 = .ok (.iload 4, 2) := by decide +kernel
theorem dX8_roundOfWays_40 : decode cX8_roundOfWays 40 = .ok (.iaload, 1) := by decide +kernel
theorem dX8_roundOfWays_41 : decode cX8_roundOfWays 41 = .ok (.aaload, 1) := by decide +kernel
theorem dX8_roundOfWays_42 : decode cX8_roundOfWays 42 = .ok (.aload_n 1, 1) := by decide +kernel
theorem dX8_roundOfWays_43 : decode cX8_roundOfWays 43 = .ok (.iload 4, 2) := by decide +kernel
theorem dX8_roundOfWays_45 : decode cX8_roundOfWays 45 = .ok (.iconst 1, 1) := by decide +kernel
theorem dX8_roundOfWays_46 : decode cX8_roundOfWays 46 = .ok (.iadd, 1) := by decide +kernel
theorem dX8_roundOfWays_47 : decode cX8_roundOfWays 47 = .ok (.iaload, 1) := by decide +kernel
theorem dX8_roundOfWays_48 : decode cX8_roundOfWays 48 = .ok (.iaload, 1) := by decide +kernel
theorem dX8_roundOfWays_49 : decode cX8_roundOfWays 49 = .ok (.iadd, 1) := by decide +kernel
theorem dX8_roundOfWays_50 : decode cX8_roundOfWays 50 = .ok (.istore_n 3, 1) := by decide +kernel
theorem dX8_roundOfWays_51 : decode cX8_roundOfWays 51 = .ok (.iinc 4 1, 3) := by decide +kernel
theorem dX8_roundOfWays_54 : decode cX8_roundOfWays 54 = .ok (.goto (-28), 3) := by decide +kernel
theorem dX8_roundOfWays_57 : decode cX8_roundOfWays 57 = .ok (.iload_n 3, 1) := by decide +kernel
theorem dX8_roundOfWays_58 : decode cX8_roundOfWays 58 = .ok (.ireturn, 1) := by decide +kernel
theorem dX9_init_0 : decode cX9_init 0 = .ok (.aload_n 0, 1) := by decide +kernel
theorem dX9_init_1 : decode cX9_init 1 = .ok (.invokespecial 1, 3) := by decide +kernel
theorem dX9_init_4 : decode cX9_init 4 = .ok (.aload_n 0, 1) := by decide +kernel
theorem dX9_init_5 : decode cX9_init 5 = .ok (.iconst 4, 1) := by decide +kernel
theorem dX9_init_6 : decode cX9_init 6 = .ok (.newarray .int, 2) := by decide +kernel
theorem dX9_init_8 : decode cX9_init 8 = .ok (.putfield 7, 3) := by decide +kernel
theorem dX9_init_11 : decode cX9_init 11 = .ok (.aload_n 0, 1) := by decide +kernel
theorem dX9_init_12 : decode cX9_init 12 = .ok (.iconst 4, 1) := by decide +kernel
theorem dX9_init_13 : decode cX9_init 13 = .ok (.newarray .int, 2) := by decide +kernel
theorem dX9_init_15 : decode cX9_init 15 = .ok (.putfield 13, 3) := by decide +kernel
theorem dX9_init_18 : decode cX9_init 18 = .ok (.aload_n 0, 1) := by decide +kernel
theorem dX9_init_19 : decode cX9_init 19 = .ok (.sipush 160, 3) := by decide +kernel
theorem dX9_init_22 : decode cX9_init 22 = .ok (.newarray .int, 2) := by decide +kernel
theorem dX9_init_24 : decode cX9_init 24 = .ok (.putfield 16, 3) := by decide +kernel
theorem dX9_init_27 : decode cX9_init 27 = .ok (.aload_n 0, 1) := by decide +kernel
theorem dX9_init_28 : decode cX9_init 28 = .ok (.bipush 40, 2) := by decide +kernel
theorem dX9_init_30 : decode cX9_init 30 = .ok (.newarray .int, 2) := by decide +kernel
theorem dX9_init_32 : decode cX9_init 32 = .ok (.putfield 19, 3) := by decide +kernel
theorem dX9_init_35 : decode cX9_init 35 = .ok (.aload_n 0, 1) := by decide +kernel
theorem dX9_init_36 : decode cX9_init 36 = .ok (.bipush 6, 2) := by decide +kernel
theorem dX9_init_38 : decode cX9_init 38 = .ok (.newarray .int, 2) := by decide +kernel
theorem dX9_init_40 : decode cX9_init 40 = .ok (.putfield 22, 3) := by decide +kernel
theorem dX9_init_43 : decode cX9_init 43 = .ok (.aload_n 0, 1) := by decide +kernel
theorem dX9_init_44 : decode cX9_init 44 = .ok (.sipush 240, 3) := by decide +kernel
theorem dX9_init_47 : decode cX9_init 47 = .ok (.newarray .int, 2) := by decide +kernel
theorem dX9_init_49 : decode cX9_init 49 = .ok (.putfield 25, 3) := by decide +kernel
theorem dX9_init_52 : decode cX9_init 52 = .ok (.aload_n 0, 1) := by decide +kernel
theorem dX9_init_53 : decode cX9_init 53 = .ok (.sipush 240, 3) := by decide +kernel
theorem dX9_init_56 : decode cX9_init 56 = .ok (.newarray .int, 2) := by decide +kernel
theorem dX9_init_58 : decode cX9_init 58 = .ok (.putfield 28, 3) := by decide +kernel
theorem dX9_init_61 : decode cX9_init 61 = .ok (.aload_n 0, 1) := by decide +kernel
theorem dX9_init_62 : decode cX9_init 62 = .ok (.sipush 240, 3) := by decide +kernel
theorem dX9_init_65 : decode cX9_init 65 = .ok (.newarray .int, 2) := by decide +kernel
theorem dX9_init_67 : decode cX9_init 67 = .ok (.putfield 31, 3) := by decide +kernel
theorem dX9_init_70 : decode cX9_init 70 = .ok (.aload_n 0, 1) := by decide +kernel
theorem dX9_init_71 : decode cX9_init 71 = .ok (.sipush 240, 3) := by decide +kernel
theorem dX9_init_74 : decode cX9_init 74 = .ok (.newarray .int, 2) := by decide +kernel
theorem dX9_init_76 : decode cX9_init 76 = .ok (.putfield 34, 3) := by decide +kernel
theorem dX9_init_79 : decode cX9_init 79 = .ok (.aload_n 0, 1) := by decide +kernel
theorem dX9_init_80 : decode cX9_init 80 = .ok (.sipush 240, 3) := by decide +kernel
theorem dX9_init_83 : decode cX9_init 83 = .ok (.newarray .int, 2) := by decide +kernel
theorem dX9_init_85 : decode cX9_init 85 = .ok (.putfield 37, 3) := by decide +kernel
theorem dX9_init_88 : decode cX9_init 88 = .ok (.aload_n 0, 1) := by decide +kernel
theorem dX9_init_89 : decode cX9_init 89 = .ok (.bipush 40, 2) := by decide +kernel
theorem dX9_init_91 : decode cX9_init 91 = .ok (.newarray .int, 2) := by decide +kernel
theorem dX9_init_93 : decode cX9_init 93 = .ok (.putfield 40, 3) := by decide +kernel
theorem dX9_init_96 : decode cX9_init 96 = .ok (.aload_n 0, 1) := by decide +kernel
theorem dX9_init_97 : decode cX9_init 97 = .ok (.bipush 8, 2) := by decide +kernel
theorem dX9_init_99 : decode cX9_init 99 = .ok (.newarray .int, 2) := by decide +kernel
theorem dX9_init_101 : decode cX9_init 101 = .ok (.putfield 43, 3) := by decide +kernel
theorem dX9_init_104 : decode cX9_init 104 = .ok (.aload_n 0, 1) := by decide +kernel
theorem dX9_init_105 : decode cX9_init 105 = .ok (.bipush 8, 2) := by decide +kernel
theorem dX9_init_107 : decode cX9_init 107 = .ok (.newarray .int, 2) := by decide +kernel
theorem dX9_init_109 : decode cX9_init 109 = .ok (.putfield 46, 3) := by decide +kernel
theorem dX9_init_112 : decode cX9_init 112 = .ok (.aload_n 0, 1) := by decide +kernel
theorem dX9_init_113 : decode cX9_init 113 = .ok (.bipush 40, 2) := by decide +kernel
theorem dX9_init_115 : decode cX9_init 115 = .ok (.newarray .int, 2) := by decide +kernel
theorem dX9_init_117 : decode cX9_init 117 = .ok (.putfield 49, 3) := by decide +kernel
theorem dX9_init_120 : decode cX9_init 120 = .ok (.aload_n 0, 1) := by decide +kernel
theorem dX9_init_121 : decode cX9_init 121 = .ok (.bipush 40, 2) := by decide +kernel
theorem dX9_init_123 : decode cX9_init 123 = .ok (.newarray .int, 2) := by decide +kernel
theorem dX9_init_125 : decode cX9_init 125 = .ok (.putfield 52, 3) := by decide +kernel
theorem dX9_init_128 : decode cX9_init 128 = .ok (.aload_n 0, 1) := by decide +kernel
theorem dX9_init_129 : decode cX9_init 129 = .ok (.bipush 40, 2) := by decide +kernel
theorem dX9_init_131 : decode cX9_init 131 = .ok (.newarray .int, 2) := by decide +kernel
theorem dX9_init_133 : decode cX9_init 133 = .ok (.putfield 55, 3) := by decide +kernel
theorem dX9_init_136 : decode cX9_init 136 = .ok (.aload_n 0, 1) := by decide +kernel
theorem dX9_init_137 : decode cX9_init 137 = .ok (.bipush 41, 2) := by decide +kernel
theorem dX9_init_139 : decode cX9_init 139 = .ok (.newarray .int, 2) := by decide +kernel
theorem dX9_init_141 : decode cX9_init 141 = .ok (.putfield 58, 3) := by decide +kernel
theorem dX9_init_144 : decode cX9_init 144 = .ok (.aload_n 0, 1) := by decide +kernel
theorem dX9_init_145 : decode cX9_init 145 = .ok (.bipush 41, 2) := by decide +kernel
theorem dX9_init_147 : decode cX9_init 147 = .ok (.newarray .int, 2) := by decide +kernel
theorem dX9_init_149 : decode cX9_init 149 = .ok (.putfield 61, 3) := by decide +kernel
theorem dX9_init_152 : decode cX9_init 152 = .ok (.aload_n 0, 1) := by decide +kernel
theorem dX9_init_153 : decode cX9_init 153 = .ok (.bipush 41, 2) := by decide +kernel
theorem dX9_init_155 : decode cX9_init 155 = .ok (.newarray .int, 2) := by decide +kernel
theorem dX9_init_157 : decode cX9_init 157 = .ok (.putfield 64, 3) := by decide +kernel
theorem dX9_init_160 : decode cX9_init 160 = .ok (.aload_n 0, 1) := by decide +kernel
theorem dX9_init_161 : decode cX9_init 161 = .ok (.bipush 41, 2) := by decide +kernel
theorem dX9_init_163 : decode cX9_init 163 = .ok (.newarray .int, 2) := by decide +kernel
theorem dX9_init_165 : decode cX9_init 165 = .ok (.putfield 67, 3) := by decide +kernel
theorem dX9_init_168 : decode cX9_init 168 = .ok (.aload_n 0, 1) := by decide +kernel
theorem dX9_init_169 : decode cX9_init 169 = .ok (.bipush 41, 2) := by decide +kernel
theorem dX9_init_171 : decode cX9_init 171 = .ok (.newarray .int, 2) := by decide +kernel
theorem dX9_init_173 : decode cX9_init 173 = .ok (.putfield 70, 3) := by decide +kernel
theorem dX9_init_176 : decode cX9_init 176 = .ok (.aload_n 0, 1) := by decide +kernel
theorem dX9_init_177 : decode cX9_init 177 = .ok (.bipush 41, 2) := by decide +kernel
theorem dX9_init_179 : decode cX9_init 179 = .ok (.newarray .int, 2) := by decide +kernel
theorem dX9_init_181 : decode cX9_init 181 = .ok (.putfield 73, 3) := by decide +kernel
theorem dX9_init_184 : decode cX9_init 184 = .ok (.aload_n 0, 1) := by decide +kernel
theorem dX9_init_185 : decode cX9_init 185 = .ok (.bipush 41, 2) := by decide +kernel
theorem dX9_init_187 : decode cX9_init 187 = .ok (.newarray .int, 2) := by decide +kernel
theorem dX9_init_189 : decode cX9_init 189 = .ok (.putfield 76, 3) := by decide +kernel
theorem dX9_init_192 : decode cX9_init 192 = .ok (.aload_n 0, 1) := by decide +kernel
theorem dX9_init_193 : decode cX9_init 193 = .ok (.bipush 41, 2) := by decide +kernel
theorem dX9_init_195 : decode cX9_init 195 = .ok (.newarray .boolean, 2) := by decide +kernel
theorem dX9_init_197 : decode cX9_init 197 = .ok (.putfield 79, 3) := by decide +kernel
theorem dX9_init_200 : decode cX9_init 200 = .ok (.aload_n 0, 1) := by decide +kernel
theorem dX9_init_201 : decode cX9_init 201 = .ok (.bipush 41, 2) := by decide +kernel
theorem dX9_init_203 : decode cX9_init 203 = .ok (.newarray .boolean, 2) := by decide +kernel
theorem dX9_init_205 : decode cX9_init 205 = .ok (.putfield 83, 3) := by decide +kernel
theorem dX9_init_208 : decode cX9_init 208 = .ok (.aload_n 0, 1) := by decide +kernel
theorem dX9_init_209 : decode cX9_init 209 = .ok (.iconst 4, 1) := by decide +kernel
theorem dX9_init_210 : decode cX9_init 210 = .ok (.newarray .int, 2) := by decide +kernel
theorem dX9_init_212 : decode cX9_init 212 = .ok (.putfield 86, 3) := by decide +kernel
theorem dX9_init_215 : decode cX9_init 215 = .ok (.aload_n 0, 1) := by decide +kernel
theorem dX9_init_216 : decode cX9_init 216 = .ok (.bipush 40, 2) := by decide +kernel
theorem dX9_init_218 : decode cX9_init 218 = .ok (.newarray .int, 2) := by decide +kernel
theorem dX9_init_220 : decode cX9_init 220 = .ok (.putfield 89, 3) := by decide +kernel
theorem dX9_init_223 : decode cX9_init 223 = .ok (.iconst 0, 1) := by decide +kernel
theorem dX9_init_224 : decode cX9_init 224 = .ok (.istore_n 1, 1) := by decide +kernel
theorem dX9_init_225 : decode cX9_init 225 = .ok (.iload_n 1, 1) := by decide +kernel
theorem dX9_init_226 : decode cX9_init 226 = .ok (.iconst 4, 1) := by decide +kernel
theorem dX9_init_227 : decode cX9_init 227 = .ok (.if_icmp .ge 16, 3) := by decide +kernel
theorem dX9_init_230 : decode cX9_init 230 = .ok (.aload_n 0, 1) := by decide +kernel
theorem dX9_init_231 : decode cX9_init 231 = .ok (.getfield 7, 3) := by decide +kernel
theorem dX9_init_234 : decode cX9_init 234 = .ok (.iload_n 1, 1) := by decide +kernel
theorem dX9_init_235 : decode cX9_init 235 = .ok (.iconst (-1), 1) := by decide +kernel
theorem dX9_init_236 : decode cX9_init 236 = .ok (.iastore, 1) := by decide +kernel
theorem dX9_init_237 : decode cX9_init 237 = .ok (.iinc 1 1, 3) := by decide +kernel
theorem dX9_init_240 : decode cX9_init 240 = .ok (.goto (-15), 3) := by decide +kernel
theorem dX9_init_243 : decode cX9_init 243 = .ok (.return_, 1) := by decide +kernel
theorem dX9_in_0 : decode cX9_in 0 = .ok (.lload_n 0, 1) := by decide +kernel
theorem dX9_in_1 : decode cX9_in 1 = .ok (.lload_n 2, 1) := by decide +kernel
theorem dX9_in_2 : decode cX9_in 2 = .ok (.lcmp, 1) := by decide +kernel
theorem dX9_in_3 : decode cX9_in 3 = .ok (.ifCond .lt 14, 3) := by decide +kernel
theorem dX9_in_6 : decode cX9_in 6 = .ok (.lload_n 0, 1) := by decide +kernel
theorem dX9_in_7 : decode cX9_in 7 = .ok (.lload 4, 2) := by decide +kernel
theorem dX9_in_9 : decode cX9_in 9 = .ok (.lcmp, 1) := by decide +kernel
theorem dX9_in_10 : decode cX9_in 10 = .ok (.ifCond .gt 7, 3) := by decide +kernel
theorem dX9_in_13 : decode cX9_in 13 = .ok (.iconst 1, 1) := by decide +kernel
theorem dX9_in_14 : decode cX9_in 14 = .ok (.goto 4, 3) := by decide +kernel
theorem dX9_in_17 : decode cX9_in 17 = .ok (.iconst 0, 1) := by decide +kernel
theorem dX9_in_18 : decode cX9_in 18 = .ok (.ireturn, 1) := by decide +kernel
theorem dX9_met_0 : decode cX9_met 0 = .ok (.aload_n 0, 1) := by decide +kernel
theorem dX9_met_1 : decode cX9_met 1 = .ok (.iload_n 1, 1) := by decide +kernel
theorem dX9_met_2 : decode cX9_met 2 = .ok (.putfield 92, 3) := by decide +kernel
theorem dX9_met_5 : decode cX9_met 5 = .ok (.bipush (-10), 2) := by decide +kernel
theorem dX9_met_7 : decode cX9_met 7 = .ok (.iload_n 1, 1) := by decide +kernel
theorem dX9_met_8 : decode cX9_met 8 = .ok (.isub, 1) := by decide +kernel
theorem dX9_met_9 : decode cX9_met 9 = .ok (.ireturn, 1) := by decide +kernel
theorem dX9_isSheet_0 : decode cX9_isSheet 0 = .ok (.iload_n 0, 1) := by decide +kernel
theorem dX9_isSheet_1 : decode cX9_isSheet 1 = .ok (.i2l, 1) := by decide +kernel
theorem dX9_isSheet_2 : decode cX9_isSheet 2 = .ok (.lconst 0, 1) := by decide +kernel
theorem dX9_isSheet_3 : decode cX9_isSheet 3 = .ok (.ldc2_w 96, 3) := by decide +kernel
theorem dX9_isSheet_6 : decode cX9_isSheet 6 = .ok (.invokestatic 98, 3) := by decide +kernel
theorem dX9_isSheet_9 : decode cX9_isSheet 9 = .ok (.ireturn, 1) := by decide +kernel
theorem dX9_sheet_0 : decode cX9_sheet 0 = .ok (.iload_n 1, 1) := by decide +kernel
theorem dX9_sheet_1 : decode cX9_sheet 1 = .ok (.invokestatic 102, 3) := by decide +kernel
theorem dX9_sheet_4 : decode cX9_sheet 4 = .ok (.ifCond .eq 21, 3) := by decide +kernel
theorem dX9_sheet_7 : decode cX9_sheet 7 = .ok (.iload_n 2, 1) := by decide +kernel
theorem dX9_sheet_8 : decode cX9_sheet 8 = .ok (.i2l, 1) := by decide +kernel
theorem dX9_sheet_9 : decode cX9_sheet 9 = .ok (.lconst 0, 1) := by decide +kernel
theorem dX9_sheet_10 : decode cX9_sheet 10 = .ok (.ldc2_w 106, 3) := by decide +kernel
theorem dX9_sheet_13 : decode cX9_sheet 13 = .ok (.invokestatic 98, 3) := by decide +kernel
theorem dX9_sheet_16 : decode cX9_sheet 16 = .ok (.ifCond .eq 9, 3) := by decide +kernel
theorem dX9_sheet_19 : decode cX9_sheet 19 = .ok (.iload_n 3, 1) := by decide +kernel
theorem dX9_sheet_20 : decode cX9_sheet 20 = .ok (.bipush 40, 2) := by decide +kernel
theorem dX9_sheet_22 : decode cX9_sheet 22 = .ok (.if_icmp .le 6, 3) := by decide +kernel
theorem dX9_sheet_25 : decode cX9_sheet 25 = .ok (.bipush (-2), 2) := by decide +kernel
theorem dX9_sheet_27 : decode cX9_sheet 27 = .ok (.ireturn, 1) := by decide +kernel
theorem dX9_sheet_28 : decode cX9_sheet 28 = .ok (.iload_n 3, 1) := by decide +kernel
theorem dX9_sheet_29 : decode cX9_sheet 29 = .ok (.ifCond .ge 9, 3) := by decide +kernel
theorem dX9_sheet_32 : decode cX9_sheet 32 = .ok (.aload_n 0, 1) := by decide +kernel
theorem dX9_sheet_33 : decode cX9_sheet 33 = .ok (.iconst 5, 1) := by decide +kernel
theorem dX9_sheet_34 : decode cX9_sheet 34 = .ok (.invokevirtual 108, 3) := by decide +kernel
theorem dX9_sheet_37 : decode cX9_sheet 37 = .ok (.ireturn, 1) := by decide +kernel
theorem dX9_sheet_38 : decode cX9_sheet 38 = .ok (.aload_n 0, 1) := by decide +kernel
theorem dX9_sheet_39 : decode cX9_sheet 39 = .ok (.getfield 7, 3) := by decide +kernel
theorem dX9_sheet_42 : decode cX9_sheet 42 = .ok (.iload_n 1, 1) := by decide +kernel
theorem dX9_sheet_43 : decode cX9_sheet 43 = .ok (.iload_n 2, 1) := by decide +kernel
theorem dX9_sheet_44 : decode cX9_sheet 44 = .ok (.iastore, 1) := by decide +kernel
theorem dX9_sheet_45 : decode cX9_sheet 45 = .ok (.aload_n 0, 1) := by decide +kernel
theorem dX9_sheet_46 : decode cX9_sheet 46 = .ok (.getfield 13, 3) := by decide +kernel
theorem dX9_sheet_49 : decode cX9_sheet 49 = .ok (.iload_n 1, 1) := by decide +kernel
theorem dX9_sheet_50 : decode cX9_sheet 50 = .ok (.iload_n 3, 1) := by decide +kernel
theorem dX9_sheet_51 : decode cX9_sheet 51 = .ok (.iastore, 1) := by decide +kernel
theorem dX9_sheet_52 : decode cX9_sheet 52 = .ok (.iconst 0, 1) := by decide +kernel
theorem dX9_sheet_53 : decode cX9_sheet 53 = .ok (.istore 4, 2) := by decide +kernel
theorem dX9_sheet_55 : decode cX9_sheet 55 = .ok (.iload 4, 2) := by decide +kernel
theorem dX9_sheet_57 : decode cX9_sheet 57 = .ok (.iload_n 3, 1) := by decide +kernel
theorem dX9_sheet_58 : decode cX9_sheet 58 = .ok (.if_icmp .ge 22, 3) := by decide +kernel
theorem dX9_sheet_61 : decode cX9_sheet 61 = .ok (.aload_n 0, 1) := by decide +kernel
theorem dX9_sheet_62 : decode cX9_sheet 62 = .ok (.getfield 16, 3) := by decide +kernel
theorem dX9_sheet_65 : decode cX9_sheet 65 = .ok (.bipush 40, 2) := by decide +kernel
theorem dX9_sheet_67 : decode cX9_sheet 67 = .ok (.iload_n 1, 1) := by decide +kernel
theorem dX9_sheet_68 : decode cX9_sheet 68 = .ok (.imul, 1) := by decide +kernel
theorem dX9_sheet_69 : decode cX9_sheet 69 = .ok (.iload 4, 2) := by decide +kernel
theorem dX9_sheet_71 : decode cX9_sheet 71 = .ok (.iadd, 1) := by decide +kernel
theorem dX9_sheet_72 : decode cX9_sheet 72 = .ok (.iconst 0, 1) := by decide +kernel
theorem dX9_sheet_73 : decode cX9_sheet 73 = .ok (.iastore, 1) := by decide +kernel
theorem dX9_sheet_74 : decode cX9_sheet 74 = .ok (.iinc 4 1, 3) := by decide +kernel
theorem dX9_sheet_77 : decode cX9_sheet 77 = .ok (.goto (-22), 3) := by decide +kernel
theorem dX9_sheet_80 : decode cX9_sheet 80 = .ok (.iload_n 3, 1) := by decide +kernel
theorem dX9_sheet_81 : decode cX9_sheet 81 = .ok (.ireturn, 1) := by decide +kernel
theorem dX9_lose_0 : decode cX9_lose 0 = .ok (.iload_n 1, 1) := by decide +kernel
theorem dX9_lose_1 : decode cX9_lose 1 = .ok (.invokestatic 102, 3) := by decide +kernel
theorem dX9_lose_4 : decode cX9_lose 4 = .ok (.ifCond .ne 6, 3) := by decide +kernel
theorem dX9_lose_7 : decode cX9_lose 7 = .ok (.bipush (-2), 2) := by decide +kernel
theorem dX9_lose_9 : decode cX9_lose 9 = .ok (.ireturn, 1) := by decide +kernel
theorem dX9_lose_10 : decode cX9_lose 10 = .ok (.aload_n 0, 1) := by decide +kernel
theorem dX9_lose_11 : decode cX9_lose 11 = .ok (.getfield 7, 3) := by decide +kernel
theorem dX9_lose_14 : decode cX9_lose 14 = .ok (.iload_n 1, 1) := by decide +kernel
theorem dX9_lose_15 : decode cX9_lose 15 = .ok (.iaload, 1) := by decide +kernel
theorem dX9_lose_16 : decode cX9_lose 16 = .ok (.ifCond .ge 9, 3) := by decide +kernel
theorem dX9_lose_19 : decode cX9_lose 19 = .ok (.aload_n 0, 1) := by decide +kernel
theorem dX9_lose_20 : decode cX9_lose 20 = .ok (.iconst 1, 1) := by decide +kernel
theorem dX9_lose_21 : decode cX9_lose 21 = .ok (.invokevirtual 108, 3) := by decide +kernel
theorem dX9_lose_24 : decode cX9_lose 24 = .ok (.ireturn, 1) := by decide +kernel
theorem dX9_lose_25 : decode cX9_lose 25 = .ok (.aload_n 0, 1) := by decide +kernel
theorem dX9_lose_26 : decode cX9_lose 26 = .ok (.getfield 7, 3) := by decide +kernel
theorem dX9_lose_29 : decode cX9_lose 29 = .ok (.iload_n 1, 1) := by decide +kernel
theorem dX9_lose_30 : decode cX9_lose 30 = .ok (.iconst (-1), 1) := by decide +kernel
theorem dX9_lose_31 : decode cX9_lose 31 = .ok (.iastore, 1) := by decide +kernel
theorem dX9_lose_32 : decode cX9_lose 32 = .ok (.aload_n 0, 1) := by decide +kernel
theorem dX9_lose_33 : decode cX9_lose 33 = .ok (.getfield 13, 3) := by decide +kernel
theorem dX9_lose_36 : decode cX9_lose 36 = .ok (.iload_n 1, 1) := by decide +kernel
theorem dX9_lose_37 : decode cX9_lose 37 = .ok (.iaload, 1) := by decide +kernel
theorem dX9_lose_38 : decode cX9_lose 38 = .ok (.ireturn, 1) := by decide +kernel
theorem dX9_lacks_0 : decode cX9_lacks 0 = .ok (.aload_n 0, 1) := by decide +kernel
theorem dX9_lacks_1 : decode cX9_lacks 1 = .ok (.getfield 7, 3) := by decide +kernel
theorem dX9_lacks_4 : decode cX9_lacks 4 = .ok (.iload_n 1, 1) := by decide +kernel
theorem dX9_lacks_5 : decode cX9_lacks 5 = .ok (.iaload, 1) := by decide +kernel
theorem dX9_lacks_6 : decode cX9_lacks 6 = .ok (.ifCond .ge 9, 3) := by decide +kernel
theorem dX9_lacks_9 : decode cX9_lacks 9 = .ok (.aload_n 0, 1) := by decide +kernel
theorem dX9_lacks_10 : decode cX9_lacks 10 = .ok (.iconst 1, 1) := by decide +kernel
theorem dX9_lacks_11 : decode cX9_lacks 11 = .ok (.invokevirtual 108, 3) := by decide +kernel
theorem dX9_lacks_14 : decode cX9_lacks 14 = .ok (.ireturn, 1) := by decide +kernel
theorem dX9_lacks_15 : decode cX9_lacks 15 = .ok (.aload_n 0, 1) := by decide +kernel
theorem dX9_lacks_16 : decode cX9_lacks 16 = .ok (.getfield 7, 3) := by decide +kernel
theorem dX9_lacks_19 : decode cX9_lacks 19 = .ok (.iload_n 1, 1) := by decide +kernel
theorem dX9_lacks_20 : decode cX9_lacks 20 = .ok (.iaload, 1) := by decide +kernel
theorem dX9_lacks_21 : decode cX9_lacks 21 = .ok (.iload_n 2, 1) := by decide +kernel
theorem dX9_lacks_22 : decode cX9_lacks 22 = .ok (.if_icmp .eq 9, 3) := by decide +kernel
theorem dX9_lacks_25 : decode cX9_lacks 25 = .ok (.aload_n 0, 1) := by decide +kernel
theorem dX9_lacks_26 : decode cX9_lacks 26 = .ok (.iconst 3, 1) := by decide +kernel
theorem dX9_lacks_27 : decode cX9_lacks 27 = .ok (.invokevirtual 108, 3) := by decide +kernel
theorem dX9_lacks_30 : decode cX9_lacks 30 = .ok (.ireturn, 1) := by decide +kernel
theorem dX9_lacks_31 : decode cX9_lacks 31 = .ok (.iload_n 3, 1) := by decide +kernel
theorem dX9_lacks_32 : decode cX9_lacks 32 = .ok (.i2l, 1) := by decide +kernel
theorem dX9_lacks_33 : decode cX9_lacks 33 = .ok (.lconst 0, 1) := by decide +kernel
theorem dX9_lacks_34 : decode cX9_lacks 34 = .ok (.aload_n 0, 1) := by decide +kernel
theorem dX9_lacks_35 : decode cX9_lacks 35 = .ok (.getfield 13, 3) := by decide +kernel
theorem dX9_lacks_38 : decode cX9_lacks 38 = .ok (.iload_n 1, 1) := by decide +kernel
theorem dX9_lacks_39 : decode cX9_lacks 39 = .ok (.iaload, 1) := by decide +kernel
theorem dX9_lacks_40 : decode cX9_lacks 40 = .ok (.iconst 1, 1) := by decide +kernel
theorem dX9_lacks_41 : decode cX9_lacks 41 = .ok (.isub, 1) := by decide +kernel
theorem dX9_lacks_42 : decode cX9_lacks 42 = .ok (.i2l, 1) := by decide +kernel
theorem dX9_lacks_43 : decode cX9_lacks 43 = .ok (.invokestatic 98, 3) := by decide +kernel
theorem dX9_lacks_46 : decode cX9_lacks 46 = .ok (.ifCond .eq 7, 3) := by decide +kernel
theorem dX9_lacks_49 : decode cX9_lacks 49 = .ok (.iconst 0, 1) := by decide +kernel
theorem dX9_lacks_50 : decode cX9_lacks 50 = .ok (.goto 8, 3) := by decide +kernel
theorem dX9_lacks_53 : decode cX9_lacks 53 = .ok (.aload_n 0, 1) := by decide +kernel
theorem dX9_lacks_54 : decode cX9_lacks 54 = .ok (.iconst 2, 1) := by decide +kernel
theorem dX9_lacks_55 : decode cX9_lacks 55 = .ok (.invokevirtual 108, 3) := by decide +kernel
theorem dX9_lacks_58 : decode cX9_lacks 58 = .ok (.ireturn, 1) := by decide +kernel
theorem dX9_put_0 : decode cX9_put 0 = .ok (.iload_n 1, 1) := by decide +kernel
theorem dX9_put_1 : decode cX9_put 1 = .ok (.invokestatic 102, 3) := by decide +kernel
theorem dX9_put_4 : decode cX9_put 4 = .ok (.ifCond .eq 15, 3) := by decide +kernel
theorem dX9_put_7 : decode cX9_put 7 = .ok (.iload_n 2, 1) := by decide +kernel
theorem dX9_put_8 : decode cX9_put 8 = .ok (.i2l, 1) := by decide +kernel
theorem dX9_put_9 : decode cX9_put 9 = .ok (.lconst 0, 1) := by decide +kernel
theorem dX9_put_10 : decode cX9_put 10 = .ok (.ldc2_w 106, 3) := by decide +kernel
theorem dX9_put_13 : decode cX9_put 13 = .ok (.invokestatic 98, 3) := by decide +kernel
theorem dX9_put_16 : decode cX9_put 16 = .ok (.ifCond .ne 6, 3) := by decide +kernel
theorem dX9_put_19 : decode cX9_put 19 = .ok (.bipush (-2), 2) := by decide +kernel
theorem dX9_put_21 : decode cX9_put 21 = .ok (.ireturn, 1) := by decide +kernel
theorem dX9_put_22 : decode cX9_put 22 = .ok (.aload_n 0, 1) := by decide +kernel
theorem dX9_put_23 : decode cX9_put 23 = .ok (.iload_n 1, 1) := by decide +kernel
theorem dX9_put_24 : decode cX9_put 24 = .ok (.iload_n 2, 1) := by decide +kernel
theorem dX9_put_25 : decode cX9_put 25 = .ok (.iload_n 3, 1) := by decide +kernel
theorem dX9_put_26 : decode cX9_put 26 = .ok (.invokevirtual 112, 3) := by decide +kernel
theorem dX9_put_29 : decode cX9_put 29 = .ok (.istore 5, 2) := by decide +kernel
theorem dX9_put_31 : decode cX9_put 31 = .ok (.iload 5, 2) := by decide +kernel
theorem dX9_put_33 : decode cX9_put 33 = .ok (.ifCond .eq 6, 3) := by decide +kernel
theorem dX9_put_36 : decode cX9_put 36 = .ok (.iload 5, 2) := by decide +kernel
theorem dX9_put_38 : decode cX9_put 38 = .ok (.ireturn, 1) := by decide +kernel
theorem dX9_put_39 : decode cX9_put 39 = .ok (.aload_n 0, 1) := by decide +kernel
theorem dX9_put_40 : decode cX9_put 40 = .ok (.getfield 16, 3) := by decide +kernel
theorem dX9_put_43 : decode cX9_put 43 = .ok (.bipush 40, 2) := by decide +kernel
theorem dX9_put_45 : decode cX9_put 45 = .ok (.iload_n 1, 1) := by decide +kernel
theorem dX9_put_46 : decode cX9_put 46 = .ok (.imul, 1) := by decide +kernel
theorem dX9_put_47 : decode cX9_put 47 = .ok (.iload_n 3, 1) := by decide +kernel
theorem dX9_put_48 : decode cX9_put 48 = .ok (.iadd, 1) := by decide +kernel
theorem dX9_put_49 : decode cX9_put 49 = .ok (.iload_n 2, 1) := by decide +kernel
theorem dX9_put_50 : decode cX9_put 50 = .ok (.ifCond .ne 9, 3) := by decide +kernel
theorem dX9_put_53 : decode cX9_put 53 = .ok (.iload 4, 2) := by decide +kernel
theorem dX9_put_55 : decode cX9_put 55 = .ok (.i2b, 1) := by decide +kernel
theorem dX9_put_56 : decode cX9_put 56 = .ok (.goto 16, 3) := by decide +kernel
theorem dX9_put_59 : decode cX9_put 59 = .ok (.iload_n 2, 1) := by decide +kernel
theorem dX9_put_60 : decode cX9_put 60 = .ok (.iconst 1, 1) := by decide +kernel
theorem dX9_put_61 : decode cX9_put 61 = .ok (.if_icmp .ne 9, 3) := by decide +kernel
theorem dX9_put_64 : decode cX9_put 64 = .ok (.iload 4, 2) := by decide +kernel
theorem dX9_put_66 : decode cX9_put 66 = .ok (.i2s, 1) := by decide +kernel
theorem dX9_put_67 : decode cX9_put 67 = .ok (.goto 5, 3) := by decide +kernel
theorem dX9_put_70 : decode cX9_put 70 = .ok (.iload 4, 2) := by decide +kernel
theorem dX9_put_72 : decode cX9_put 72 = .ok (.iastore, 1) := by decide +kernel
theorem dX9_put_73 : decode cX9_put 73 = .ok (.iconst 1, 1) := by decide +kernel
theorem dX9_put_74 : decode cX9_put 74 = .ok (.ireturn, 1) := by decide +kernel
theorem dX9_get_0 : decode cX9_get 0 = .ok (.iload_n 1, 1) := by decide +kernel
theorem dX9_get_1 : decode cX9_get 1 = .ok (.invokestatic 102, 3) := by decide +kernel
theorem dX9_get_4 : decode cX9_get 4 = .ok (.ifCond .eq 25, 3) := by decide +kernel
theorem dX9_get_7 : decode cX9_get 7 = .ok (.iload_n 2, 1) := by decide +kernel
theorem dX9_get_8 : decode cX9_get 8 = .ok (.i2l, 1) := by decide +kernel
theorem dX9_get_9 : decode cX9_get 9 = .ok (.lconst 0, 1) := by decide +kernel
theorem dX9_get_10 : decode cX9_get 10 = .ok (.ldc2_w 106, 3) := by decide +kernel
theorem dX9_get_13 : decode cX9_get 13 = .ok (.invokestatic 98, 3) := by decide +kernel
theorem dX9_get_16 : decode cX9_get 16 = .ok (.ifCond .eq 13, 3) := by decide +kernel
theorem dX9_get_19 : decode cX9_get 19 = .ok (.aload_n 0, 1) := by decide +kernel
theorem dX9_get_20 : decode cX9_get 20 = .ok (.iload_n 1, 1) := by decide +kernel
theorem dX9_get_21 : decode cX9_get 21 = .ok (.iload_n 2, 1) := by decide +kernel
theorem dX9_get_22 : decode cX9_get 22 = .ok (.iload_n 3, 1) := by decide +kernel
theorem dX9_get_23 : decode cX9_get 23 = .ok (.invokevirtual 112, 3) := by decide +kernel
theorem dX9_get_26 : decode cX9_get 26 = .ok (.ifCond .eq 6, 3) := by decide +kernel
theorem dX9_get_29 : decode cX9_get 29 = .ok (.ldc 116, 2) := by decide +kernel
theorem dX9_get_31 : decode cX9_get 31 = .ok (.ireturn, 1) := by decide +kernel
theorem dX9_get_32 : decode cX9_get 32 = .ok (.aload_n 0, 1) := by decide +kernel
theorem dX9_get_33 : decode cX9_get 33 = .ok (.getfield 16, 3) := by decide +kernel
theorem dX9_get_36 : decode cX9_get 36 = .ok (.bipush 40, 2) := by decide +kernel
theorem dX9_get_38 : decode cX9_get 38 = .ok (.iload_n 1, 1) := by decide +kernel
theorem dX9_get_39 : decode cX9_get 39 = .ok (.imul, 1) := by decide +kernel
theorem dX9_get_40 : decode cX9_get 40 = .ok (.iload_n 3, 1) := by decide +kernel
theorem dX9_get_41 : decode cX9_get 41 = .ok (.iadd, 1) := by decide +kernel
theorem dX9_get_42 : decode cX9_get 42 = .ok (.iaload, 1) := by decide +kernel
theorem dX9_get_43 : decode cX9_get 43 = .ok (.ireturn, 1) := by decide +kernel
theorem dX9_copy_0 : decode cX9_copy 0 = .ok (.iload_n 1, 1) := by decide +kernel
theorem dX9_copy_1 : decode cX9_copy 1 = .ok (.invokestatic 102, 3) := by decide +kernel
theorem dX9_copy_4 : decode cX9_copy 4 = .ok (.ifCond .eq 10, 3) := by decide +kernel
theorem dX9_copy_7 : decode cX9_copy 7 = .ok (.iload_n 3, 1) := by decide +kernel
theorem dX9_copy_8 : decode cX9_copy 8 = .ok (.invokestatic 102, 3) := by decide +kernel
theorem dX9_copy_11 : decode cX9_copy 11 = .ok (.ifCond .ne 6, 3) := by decide +kernel
theorem dX9_copy_14 : decode cX9_copy 14 = .ok (.bipush (-2), 2) := by decide +kernel
theorem dX9_copy_16 : decode cX9_copy 16 = .ok (.ireturn, 1) := by decide +kernel
theorem dX9_copy_17 : decode cX9_copy 17 = .ok (.aload_n 0, 1) := by decide +kernel
theorem dX9_copy_18 : decode cX9_copy 18 = .ok (.getfield 7, 3) := by decide +kernel
theorem dX9_copy_21 : decode cX9_copy 21 = .ok (.iload_n 1, 1) := by decide +kernel
theorem dX9_copy_22 : decode cX9_copy 22 = .ok (.iaload, 1) := by decide +kernel
theorem dX9_copy_23 : decode cX9_copy 23 = .ok (.ifCond .lt 12, 3) := by decide +kernel
theorem dX9_copy_26 : decode cX9_copy 26 = .ok (.aload_n 0, 1) := by decide +kernel
theorem dX9_copy_27 : decode cX9_copy 27 = .ok (.getfield 7, 3) := by decide +kernel
theorem dX9_copy_30 : decode cX9_copy 30 = .ok (.iload_n 3, 1) := by decide +kernel
theorem dX9_copy_31 : decode cX9_copy 31 = .ok (.iaload, 1) := by decide +kernel
theorem dX9_copy_32 : decode cX9_copy 32 = .ok (.ifCond .ge 9, 3) := by decide +kernel
theorem dX9_copy_35 : decode cX9_copy 35 = .ok (.aload_n 0, 1) := by decide +kernel
theorem dX9_copy_36 : decode cX9_copy 36 = .ok (.iconst 1, 1) := by decide +kernel
theorem dX9_copy_37 : decode cX9_copy 37 = .ok (.invokevirtual 108, 3) := by decide +kernel
theorem dX9_copy_40 : decode cX9_copy 40 = .ok (.ireturn, 1) := by decide +kernel
theorem dX9_copy_41 : decode cX9_copy 41 = .ok (.aload_n 0, 1) := by decide +kernel
theorem dX9_copy_42 : decode cX9_copy 42 = .ok (.getfield 7, 3) := by decide +kernel
theorem dX9_copy_45 : decode cX9_copy 45 = .ok (.iload_n 1, 1) := by decide +kernel
theorem dX9_copy_46 : decode cX9_copy 46 = .ok (.iaload, 1) := by decide +kernel
theorem dX9_copy_47 : decode cX9_copy 47 = .ok (.aload_n 0, 1) := by decide +kernel
theorem dX9_copy_48 : decode cX9_copy 48 = .ok (.getfield 7, 3) := by decide +kernel
theorem dX9_copy_51 : decode cX9_copy 51 = .ok (.iload_n 3, 1) := by decide +kernel
theorem dX9_copy_52 : decode cX9_copy 52 = .ok (.iaload, 1) := by decide +kernel
theorem dX9_copy_53 : decode cX9_copy 53 = .ok (.if_icmp .eq 9, 3) := by decide +kernel
theorem dX9_copy_56 : decode cX9_copy 56 = .ok (.aload_n 0, 1) := by decide +kernel
theorem dX9_copy_57 : decode cX9_copy 57 = .ok (.iconst 4, 1) := by decide +kernel
theorem dX9_copy_58 : decode cX9_copy 58 = .ok (.invokevirtual 108, 3) := by decide +kernel
theorem dX9_copy_61 : decode cX9_copy 61 = .ok (.ireturn, 1) := by decide +kernel
theorem dX9_copy_62 : decode cX9_copy 62 = .ok (.iload_n 2, 1) := by decide +kernel
theorem dX9_copy_63 : decode cX9_copy 63 = .ok (.ifCond .lt 48, 3) := by decide +kernel
theorem dX9_copy_66 : decode cX9_copy 66 = .ok (.iload 4, 2) := by decide +kernel
theorem dX9_copy_68 : decode cX9_copy 68 = .ok (.ifCond .lt 43, 3) := by decide +kernel
theorem dX9_copy_71 : decode cX9_copy 71 = .ok (.iload 5, 2) := by decide +kernel
theorem dX9_copy_73 : decode cX9_copy 73 = .ok (.ifCond .lt 38, 3) := by decide +kernel
theorem dX9_copy_76 : decode cX9_copy 76 = .ok (.iload_n 2, 1) := by decide +kernel
theorem dX9_copy_77 : decode cX9_copy 77 = .ok (.i2l, 1) := by decide +kernel
theorem dX9_copy_78 : decode cX9_copy 78 = .ok (.iload 5, 2) := by decide +kernel
theorem dX9_copy_80 : decode cX9_copy 80 = .ok (.i2l, 1) := by decide +kernel
theorem dX9_copy_81 : decode cX9_copy 81 = .ok (.ladd, 1) := by decide +kernel
theorem dX9_copy_82 : decode cX9_copy 82 = .ok (.aload_n 0, 1) := by decide +kernel
theorem dX9_copy_83 : decode cX9_copy 83 = .ok (.getfield 13, 3) := by decide +kernel
theorem dX9_copy_86 : decode cX9_copy 86 = .ok (.iload_n 1, 1) := by decide +kernel
theorem dX9_copy_87 : decode cX9_copy 87 = .ok (.iaload, 1) := by decide +kernel
theorem dX9_copy_88 : decode cX9_copy 88 = .ok (.i2l, 1) := by decide +kernel
theorem dX9_copy_89 : decode cX9_copy 89 = .ok (.lcmp, 1) := by decide +kernel
theorem dX9_copy_90 : decode cX9_copy 90 = .ok (.ifCond .gt 21, 3) := by decide +kernel
theorem dX9_copy_93 : decode cX9_copy 93 = .ok (.iload 4, 2) := by decide +kernel
theorem dX9_copy_95 : decode cX9_copy 95 = .ok (.i2l, 1) := by decide +kernel
theorem dX9_copy_96 : decode cX9_copy 96 = .ok (.iload 5, 2) := by decide +kernel
theorem dX9_copy_98 : decode cX9_copy 98 = .ok (.i2l, 1) := by decide +kernel
theorem dX9_copy_99 : decode cX9_copy 99 = .ok (.ladd, 1) := by decide +kernel
theorem dX9_copy_100 : decode cX9_copy 100 = .ok (.aload_n 0, 1) := by decide +kernel
theorem dX9_copy_101 : decode cX9_copy 101 = .ok (.getfield 13, 3) := by decide +kernel
theorem dX9_copy_104 : decode cX9_copy 104 = .ok (.iload_n 3, 1) := by decide +kernel
theorem dX9_copy_105 : decode cX9_copy 105 = .ok (.iaload, 1) := by decide +kernel
theorem dX9_copy_106 : decode cX9_copy 106 = .ok (.i2l, 1) := by decide +kernel
theorem dX9_copy_107 : decode cX9_copy 107 = .ok (.lcmp, 1) := by decide +kernel
theorem dX9_copy_108 : decode cX9_copy 108 = .ok (.ifCond .le 9, 3) := by decide +kernel
theorem dX9_copy_111 : decode cX9_copy 111 = .ok (.aload_n 0, 1) := by decide +kernel
theorem dX9_copy_112 : decode cX9_copy 112 = .ok (.iconst 2, 1) := by decide +kernel
theorem dX9_copy_113 : decode cX9_copy 113 = .ok (.invokevirtual 108, 3) := by decide +kernel
theorem dX9_copy_116 : decode cX9_copy 116 = .ok (.ireturn, 1) := by decide +kernel
theorem dX9_copy_117 : decode cX9_copy 117 = .ok (.iconst 0, 1) := by decide +kernel
theorem dX9_copy_118 : decode cX9_copy 118 = .ok (.istore 6, 2) := by decide +kernel
theorem dX9_copy_120 : decode cX9_copy 120 = .ok (.iload 6, 2) := by decide +kernel
theorem dX9_copy_122 : decode cX9_copy 122 = .ok (.iload 5, 2) := by decide +kernel
theorem dX9_copy_124 : decode cX9_copy 124 = .ok (.if_icmp .ge 30, 3) := by decide +kernel
theorem dX9_copy_127 : decode cX9_copy 127 = .ok (.aload_n 0, 1) := by decide +kernel
theorem dX9_copy_128 : decode cX9_copy 128 = .ok (.getfield 19, 3) := by decide +kernel
theorem dX9_copy_131 : decode cX9_copy 131 = .ok (.iload 6, 2) := by decide +kernel
theorem dX9_copy_133 : decode cX9_copy 133 = .ok (.aload_n 0, 1) := by decide +kernel
theorem dX9_copy_134 : decode cX9_copy 134 = .ok (.getfield 16, 3) := by decide +kernel
theorem dX9_copy_137 : decode cX9_copy 137 = .ok (.bipush 40, 2) := by decide +kernel
theorem dX9_copy_139 : decode cX9_copy 139 = .ok (.iload_n 1, 1) := by decide +kernel
theorem dX9_copy_140 : decode cX9_copy 140 = .ok (.imul, 1) := by decide +kernel
theorem dX9_copy_141 : decode cX9_copy 141 = .ok (.iload_n 2, 1) := by decide +kernel
theorem dX9_copy_142 : decode cX9_copy 142 = .ok (.iadd, 1) := by decide +kernel
theorem dX9_copy_143 : decode cX9_copy 143 = .ok (.iload 6, 2) := by decide +kernel
theorem dX9_copy_145 : decode cX9_copy 145 = .ok (.iadd, 1) := by decide +kernel
theorem dX9_copy_146 : decode cX9_copy 146 = .ok (.iaload, 1) := by decide +kernel
theorem dX9_copy_147 : decode cX9_copy 147 = .ok (.iastore, 1) := by decide +kernel
theorem dX9_copy_148 : decode cX9_copy 148 = .ok (.iinc 6 1, 3) := by decide +kernel
theorem dX9_copy_151 : decode cX9_copy 151 = .ok (.goto (-31), 3) := by decide +kernel
theorem dX9_copy_154 : decode cX9_copy 154 = .ok (.iconst 0, 1) := by decide +kernel
theorem dX9_copy_155 : decode cX9_copy 155 = .ok (.istore 6, 2) := by decide +kernel
theorem dX9_copy_157 : decode cX9_copy 157 = .ok (.iload 6, 2) := by decide +kernel
theorem dX9_copy_159 : decode cX9_copy 159 = .ok (.iload 5, 2) := by decide +kernel
theorem dX9_copy_161 : decode cX9_copy 161 = .ok (.if_icmp .ge 31, 3) := by decide +kernel
theorem dX9_copy_164 : decode cX9_copy 164 = .ok (.aload_n 0, 1) := by decide +kernel
theorem dX9_copy_165 : decode cX9_copy 165 = .ok (.getfield 16, 3) := by decide +kernel
theorem dX9_copy_168 : decode cX9_copy 168 = .ok (.bipush 40, 2) := by decide +kernel
theorem dX9_copy_170 : decode cX9_copy 170 = .ok (.iload_n 3, 1) := by decide +kernel
theorem dX9_copy_171 : decode cX9_copy 171 = .ok (.imul, 1) := by decide +kernel
theorem dX9_copy_172 : decode cX9_copy 172 = .ok (.iload 4, 2) := by decide +kernel
theorem dX9_copy_174 : decode cX9_copy 174 = .ok (.iadd, 1) := by decide +kernel
theorem dX9_copy_175 : decode cX9_copy 175 = .ok (.iload 6, 2) := by decide +kernel
theorem dX9_copy_177 : decode cX9_copy 177 = .ok (.iadd, 1) := by decide +kernel
theorem dX9_copy_178 : decode cX9_copy 178 = .ok (.aload_n 0, 1) := by decide +kernel
theorem dX9_copy_179 : decode cX9_copy 179 = .ok (.getfield 19, 3) := by decide +kernel
theorem dX9_copy_182 : decode cX9_copy 182 = .ok (.iload 6, 2) := by decide +kernel
theorem dX9_copy_184 : decode cX9_copy 184 = .ok (.iaload, 1) := by decide +kernel
theorem dX9_copy_185 : decode cX9_copy 185 = .ok (.iastore, 1) := by decide +kernel
theorem dX9_copy_186 : decode cX9_copy 186 = .ok (.iinc 6 1, 3) := by decide +kernel
theorem dX9_copy_189 : decode cX9_copy 189 = .ok (.goto (-32), 3) := by decide +kernel
theorem dX9_copy_192 : decode cX9_copy 192 = .ok (.iconst 1, 1) := by decide +kernel
theorem dX9_copy_193 : decode cX9_copy 193 = .ok (.ireturn, 1) := by decide +kernel
theorem dX9_copyAll_0 : decode cX9_copyAll 0 = .ok (.aload_n 0, 1) := by decide +kernel
theorem dX9_copyAll_1 : decode cX9_copyAll 1 = .ok (.getfield 22, 3) := by decide +kernel
theorem dX9_copyAll_4 : decode cX9_copyAll 4 = .ok (.iload_n 2, 1) := by decide +kernel
theorem dX9_copyAll_5 : decode cX9_copyAll 5 = .ok (.aload_n 0, 1) := by decide +kernel
theorem dX9_copyAll_6 : decode cX9_copyAll 6 = .ok (.getfield 22, 3) := by decide +kernel
theorem dX9_copyAll_9 : decode cX9_copyAll 9 = .ok (.iload_n 1, 1) := by decide +kernel
theorem dX9_copyAll_10 : decode cX9_copyAll 10 = .ok (.iaload, 1) := by decide +kernel
theorem dX9_copyAll_11 : decode cX9_copyAll 11 = .ok (.iastore, 1) := by decide +kernel
theorem dX9_copyAll_12 : decode cX9_copyAll 12 = .ok (.iconst 0, 1) := by decide +kernel
theorem dX9_copyAll_13 : decode cX9_copyAll 13 = .ok (.istore_n 3, 1) := by decide +kernel
theorem dX9_copyAll_14 : decode cX9_copyAll 14 = .ok (.iload_n 3, 1) := by decide +kernel
theorem dX9_copyAll_15 : decode cX9_copyAll 15 = .ok (.aload_n 0, 1) := by decide +kernel
theorem dX9_copyAll_16 : decode cX9_copyAll 16 = .ok (.getfield 22, 3) := by decide +kernel
theorem dX9_copyAll_19 : decode cX9_copyAll 19 = .ok (.iload_n 1, 1) := by decide +kernel
theorem dX9_copyAll_20 : decode cX9_copyAll 20 = .ok (.iaload, 1) := by decide +kernel
theorem dX9_copyAll_21 : decode cX9_copyAll 21 = .ok (.if_icmp .ge 119, 3) := by decide +kernel
theorem dX9_copyAll_24 : decode cX9_copyAll 24 = .ok (.aload_n 0, 1) := by decide +kernel
theorem dX9_copyAll_25 : decode cX9_copyAll 25 = .ok (.getfield 25, 3) := by decide +kernel
theorem dX9_copyAll_28 : decode cX9_copyAll 28 = .ok (.bipush 40, 2) := by decide +kernel
theorem dX9_copyAll_30 : decode cX9_copyAll 30 = .ok (.iload_n 2, 1) := by decide +kernel
theorem dX9_copyAll_31 : decode cX9_copyAll 31 = .ok (.imul, 1) := by decide +kernel
theorem dX9_copyAll_32 : decode cX9_copyAll 32 = .ok (.iload_n 3, 1) := by decide +kernel
theorem dX9_copyAll_33 : decode cX9_copyAll 33 = .ok (.iadd, 1) := by decide +kernel
theorem dX9_copyAll_34 : decode cX9_copyAll 34 = .ok (.aload_n 0, 1) := by decide +kernel
theorem dX9_copyAll_35 : decode cX9_copyAll 35 = .ok (.getfield 25, 3) := by decide +kernel
theorem dX9_copyAll_38 : decode cX9_copyAll 38 = .ok (.bipush 40, 2) := by decide +kernel
theorem dX9_copyAll_40 : decode cX9_copyAll 40 = .ok (.iload_n 1, 1) := by decide +kernel
theorem dX9_copyAll_41 : decode cX9_copyAll 41 = .ok (.imul, 1) := by decide +kernel
theorem dX9_copyAll_42 : decode cX9_copyAll 42 = .ok (.iload_n 3, 1) := by decide +kernel
theorem dX9_copyAll_43 : decode cX9_copyAll 43 = .ok (.iadd, 1) := by decide +kernel
theorem dX9_copyAll_44 : decode cX9_copyAll 44 = .ok (.iaload, 1) := by decide +kernel
theorem dX9_copyAll_45 : decode cX9_copyAll 45 = .ok (.iastore, 1) := by decide +kernel
theorem dX9_copyAll_46 : decode cX9_copyAll 46 = .ok (.aload_n 0, 1) := by decide +kernel
theorem dX9_copyAll_47 : decode cX9_copyAll 47 = .ok (.getfield 28, 3) := by decide +kernel
theorem dX9_copyAll_50 : decode cX9_copyAll 50 = .ok (.bipush 40, 2) := by decide +kernel
theorem dX9_copyAll_52 : decode cX9_copyAll 52 = .ok (.iload_n 2, 1) := by decide +kernel
theorem dX9_copyAll_53 : decode cX9_copyAll 53 = .ok (.imul, 1) := by decide +kernel
theorem dX9_copyAll_54 : decode cX9_copyAll 54 = .ok (.iload_n 3, 1) := by decide +kernel
theorem dX9_copyAll_55 : decode cX9_copyAll 55 = .ok (.iadd, 1) := by decide +kernel
theorem dX9_copyAll_56 : decode cX9_copyAll 56 = .ok (.aload_n 0, 1) := by decide +kernel
theorem dX9_copyAll_57 : decode cX9_copyAll 57 = .ok (.getfield 28, 3) := by decide +kernel
theorem dX9_copyAll_60 : decode cX9_copyAll 60 = .ok (.bipush 40, 2) := by decide +kernel
theorem dX9_copyAll_62 : decode cX9_copyAll 62 = .ok (.iload_n 1, 1) := by decide +kernel
theorem dX9_copyAll_63 : decode cX9_copyAll 63 = .ok (.imul, 1) := by decide +kernel
theorem dX9_copyAll_64 : decode cX9_copyAll 64 = .ok (.iload_n 3, 1) := by decide +kernel
theorem dX9_copyAll_65 : decode cX9_copyAll 65 = .ok (.iadd, 1) := by decide +kernel
theorem dX9_copyAll_66 : decode cX9_copyAll 66 = .ok (.iaload, 1) := by decide +kernel
theorem dX9_copyAll_67 : decode cX9_copyAll 67 = .ok (.iastore, 1) := by decide +kernel
theorem dX9_copyAll_68 : decode cX9_copyAll 68 = .ok (.aload_n 0, 1) := by decide +kernel
theorem dX9_copyAll_69 : decode cX9_copyAll 69 = .ok (.getfield 31, 3) := by decide +kernel
theorem dX9_copyAll_72 : decode cX9_copyAll 72 = .ok (.bipush 40, 2) := by decide +kernel
theorem dX9_copyAll_74 : decode cX9_copyAll 74 = .ok (.iload_n 2, 1) := by decide +kernel
theorem dX9_copyAll_75 : decode cX9_copyAll 75 = .ok (.imul, 1) := by decide +kernel
theorem dX9_copyAll_76 : decode cX9_copyAll 76 = .ok (.iload_n 3, 1) := by decide +kernel
theorem dX9_copyAll_77 : decode cX9_copyAll 77 = .ok (.iadd, 1) := by decide +kernel
theorem dX9_copyAll_78 : decode cX9_copyAll 78 = .ok (.aload_n 0, 1) := by decide +kernel
theorem dX9_copyAll_79 : decode cX9_copyAll 79 = .ok (.getfield 31, 3) := by decide +kernel
theorem dX9_copyAll_82 : decode cX9_copyAll 82 = .ok (.bipush 40, 2) := by decide +kernel
theorem dX9_copyAll_84 : decode cX9_copyAll 84 = .ok (.iload_n 1, 1) := by decide +kernel
theorem dX9_copyAll_85 : decode cX9_copyAll 85 = .ok (.imul, 1) := by decide +kernel
theorem dX9_copyAll_86 : decode cX9_copyAll 86 = .ok (.iload_n 3, 1) := by decide +kernel
theorem dX9_copyAll_87 : decode cX9_copyAll 87 = .ok (.iadd, 1) := by decide +kernel
theorem dX9_copyAll_88 : decode cX9_copyAll 88 = .ok (.iaload, 1) := by decide +kernel
theorem dX9_copyAll_89 : decode cX9_copyAll 89 = .ok (.iastore, 1) := by decide +kernel
theorem dX9_copyAll_90 : decode cX9_copyAll 90 = .ok (.aload_n 0, 1) := by decide +kernel
theorem dX9_copyAll_91 : decode cX9_copyAll 91 = .ok (.getfield 34, 3) := by decide +kernel
theorem dX9_copyAll_94 : decode cX9_copyAll 94 = .ok (.bipush 40, 2) := by decide +kernel
theorem dX9_copyAll_96 : decode cX9_copyAll 96 = .ok (.iload_n 2, 1) := by decide +kernel
theorem dX9_copyAll_97 : decode cX9_copyAll 97 = .ok (.imul, 1) := by decide +kernel
theorem dX9_copyAll_98 : decode cX9_copyAll 98 = .ok (.iload_n 3, 1) := by decide +kernel
theorem dX9_copyAll_99 : decode cX9_copyAll 99 = .ok (.iadd, 1) := by decide +kernel
theorem dX9_copyAll_100 : decode cX9_copyAll 100 = .ok (.aload_n 0, 1) := by decide +kernel
theorem dX9_copyAll_101 : decode cX9_copyAll 101 = .ok (.getfield 34, 3) := by decide +kernel
theorem dX9_copyAll_104 : decode cX9_copyAll 104 = .ok (.bipush 40, 2) := by decide +kernel
theorem dX9_copyAll_106 : decode cX9_copyAll 106 = .ok (.iload_n 1, 1) := by decide +kernel
theorem dX9_copyAll_107 : decode cX9_copyAll 107 = .ok (.imul, 1) := by decide +kernel
theorem dX9_copyAll_108 : decode cX9_copyAll 108 = .ok (.iload_n 3, 1) := by decide +kernel
theorem dX9_copyAll_109 : decode cX9_copyAll 109 = .ok (.iadd, 1) := by decide +kernel
theorem dX9_copyAll_110 : decode cX9_copyAll 110 = .ok (.iaload, 1) := by decide +kernel
theorem dX9_copyAll_111 : decode cX9_copyAll 111 = .ok (.iastore, 1) := by decide +kernel
theorem dX9_copyAll_112 : decode cX9_copyAll 112 = .ok (.aload_n 0, 1) := by decide +kernel
theorem dX9_copyAll_113 : decode cX9_copyAll 113 = .ok (.getfield 37, 3) := by decide +kernel
theorem dX9_copyAll_116 : decode cX9_copyAll 116 = .ok (.bipush 40, 2) := by decide +kernel
theorem dX9_copyAll_118 : decode cX9_copyAll 118 = .ok (.iload_n 2, 1) := by decide +kernel
theorem dX9_copyAll_119 : decode cX9_copyAll 119 = .ok (.imul, 1) := by decide +kernel
theorem dX9_copyAll_120 : decode cX9_copyAll 120 = .ok (.iload_n 3, 1) := by decide +kernel
theorem dX9_copyAll_121 : decode cX9_copyAll 121 = .ok (.iadd, 1) := by decide +kernel
theorem dX9_copyAll_122 : decode cX9_copyAll 122 = .ok (.aload_n 0, 1) := by decide +kernel
theorem dX9_copyAll_123 : decode cX9_copyAll 123 = .ok (.getfield 37, 3) := by decide +kernel
theorem dX9_copyAll_126 : decode cX9_copyAll 126 = .ok (.bipush 40, 2) := by decide +kernel
theorem dX9_copyAll_128 : decode cX9_copyAll 128 = .ok (.iload_n 1, 1) := by decide +kernel
theorem dX9_copyAll_129 : decode cX9_copyAll 129 = .ok (.imul, 1) := by decide +kernel
theorem dX9_copyAll_130 : decode cX9_copyAll 130 = .ok (.iload_n 3, 1) := by decide +kernel
theorem dX9_copyAll_131 : decode cX9_copyAll 131 = .ok (.iadd, 1) := by decide +kernel
theorem dX9_copyAll_132 : decode cX9_copyAll 132 = .ok (.iaload, 1) := by decide +kernel
theorem dX9_copyAll_133 : decode cX9_copyAll 133 = .ok (.iastore, 1) := by decide +kernel
theorem dX9_copyAll_134 : decode cX9_copyAll 134 = .ok (.iinc 3 1, 3) := by decide +kernel
theorem dX9_copyAll_137 : decode cX9_copyAll 137 = .ok (.goto (-123), 3) := by decide +kernel
theorem dX9_copyAll_140 : decode cX9_copyAll 140 = .ok (.return_, 1) := by decide +kernel
theorem dX9_keep_0 : decode cX9_keep 0 = .ok (.aload_n 0, 1) := by decide +kernel
theorem dX9_keep_1 : decode cX9_keep 1 = .ok (.getfield 117, 3) := by decide +kernel
theorem dX9_keep_4 : decode cX9_keep 4 = .ok (.iconst 5, 1) := by decide +kernel
theorem dX9_keep_5 : decode cX9_keep 5 = .ok (.if_icmp .ne 29, 3) := by decide +kernel
theorem dX9_keep_8 : decode cX9_keep 8 = .ok (.iconst 1, 1) := by decide +kernel
theorem dX9_keep_9 : decode cX9_keep 9 = .ok (.istore_n 1, 1) := by decide +kernel
theorem dX9_keep_10 : decode cX9_keep 10 = .ok (.iload_n 1, 1) := by decide +kernel
theorem dX9_keep_11 : decode cX9_keep 11 = .ok (.iconst 5, 1) := by decide +kernel
theorem dX9_keep_12 : decode cX9_keep 12 = .ok (.if_icmp .ge 17, 3) := by decide +kernel
theorem dX9_keep_15 : decode cX9_keep 15 = .ok (.aload_n 0, 1) := by decide +kernel
theorem dX9_keep_16 : decode cX9_keep 16 = .ok (.iload_n 1, 1) := by decide +kernel
theorem dX9_keep_17 : decode cX9_keep 17 = .ok (.iconst 1, 1) := by decide +kernel
theorem dX9_keep_18 : decode cX9_keep 18 = .ok (.iadd, 1) := by decide +kernel
theorem dX9_keep_19 : decode cX9_keep 19 = .ok (.iload_n 1, 1) := by decide +kernel
theorem dX9_keep_20 : decode cX9_keep 20 = .ok (.invokevirtual 120, 3) := by decide +kernel
theorem dX9_keep_23 : decode cX9_keep 23 = .ok (.iinc 1 1, 3) := by decide +kernel
theorem dX9_keep_26 : decode cX9_keep 26 = .ok (.goto (-16), 3) := by decide +kernel
theorem dX9_keep_29 : decode cX9_keep 29 = .ok (.aload_n 0, 1) := by decide +kernel
theorem dX9_keep_30 : decode cX9_keep 30 = .ok (.iconst 4, 1) := by decide +kernel
theorem dX9_keep_31 : decode cX9_keep 31 = .ok (.putfield 117, 3) := by decide +kernel
theorem dX9_keep_34 : decode cX9_keep 34 = .ok (.aload_n 0, 1) := by decide +kernel
theorem dX9_keep_35 : decode cX9_keep 35 = .ok (.dup, 1) := by decide +kernel
theorem dX9_keep_36 : decode cX9_keep 36 = .ok (.getfield 117, 3) := by decide +kernel
theorem dX9_keep_39 : decode cX9_keep 39 = .ok (.iconst 1, 1) := by decide +kernel
theorem dX9_keep_40 : decode cX9_keep 40 = .ok (.iadd, 1) := by decide +kernel
theorem dX9_keep_41 : decode cX9_keep 41 = .ok (.putfield 117, 3) := by decide +kernel
theorem dX9_keep_44 : decode cX9_keep 44 = .ok (.aload_n 0, 1) := by decide +kernel
theorem dX9_keep_45 : decode cX9_keep 45 = .ok (.iconst 0, 1) := by decide +kernel
theorem dX9_keep_46 : decode cX9_keep 46 = .ok (.aload_n 0, 1) := by decide +kernel
theorem dX9_keep_47 : decode cX9_keep 47 = .ok (.getfield 117, 3) := by decide +kernel
theorem dX9_keep_50 : decode cX9_keep 50 = .ok (.invokevirtual 120, 3) := by decide +kernel
theorem dX9_keep_53 : decode cX9_keep 53 = .ok (.return_, 1) := by decide +kernel
theorem dX9_undo_0 : decode cX9_undo 0 = .ok (.aload_n 0, 1) := by decide +kernel
theorem dX9_undo_1 : decode cX9_undo 1 = .ok (.getfield 117, 3) := by decide +kernel
theorem dX9_undo_4 : decode cX9_undo 4 = .ok (.ifCond .ne 6, 3) := by decide +kernel
theorem dX9_undo_7 : decode cX9_undo 7 = .ok (.bipush (-5), 2) := by decide +kernel
theorem dX9_undo_9 : decode cX9_undo 9 = .ok (.ireturn, 1) := by decide +kernel
theorem dX9_undo_10 : decode cX9_undo 10 = .ok (.aload_n 0, 1) := by decide +kernel
theorem dX9_undo_11 : decode cX9_undo 11 = .ok (.aload_n 0, 1) := by decide +kernel
theorem dX9_undo_12 : decode cX9_undo 12 = .ok (.getfield 117, 3) := by decide +kernel
theorem dX9_undo_15 : decode cX9_undo 15 = .ok (.iconst 0, 1) := by decide +kernel
theorem dX9_undo_16 : decode cX9_undo 16 = .ok (.invokevirtual 120, 3) := by decide +kernel
theorem dX9_undo_19 : decode cX9_undo 19 = .ok (.aload_n 0, 1) := by decide +kernel
theorem dX9_undo_20 : decode cX9_undo 20 = .ok (.dup, 1) := by decide +kernel
theorem dX9_undo_21 : decode cX9_undo 21 = .ok (.getfield 117, 3) := by decide +kernel
theorem dX9_undo_24 : decode cX9_undo 24 = .ok (.iconst 1, 1) := by decide +kernel
theorem dX9_undo_25 : decode cX9_undo 25 = .ok (.isub, 1) := by decide +kernel
theorem dX9_undo_26 : decode cX9_undo 26 = .ok (.putfield 117, 3) := by decide +kernel
theorem dX9_undo_29 : decode cX9_undo 29 = .ok (.aload_n 0, 1) := by decide +kernel
theorem dX9_undo_30 : decode cX9_undo 30 = .ok (.iconst 0, 1) := by decide +kernel
theorem dX9_undo_31 : decode cX9_undo 31 = .ok (.putfield 124, 3) := by decide +kernel
theorem dX9_undo_34 : decode cX9_undo 34 = .ok (.aload_n 0, 1) := by decide +kernel
theorem dX9_undo_35 : decode cX9_undo 35 = .ok (.getfield 117, 3) := by decide +kernel
theorem dX9_undo_38 : decode cX9_undo 38 = .ok (.ireturn, 1) := by decide +kernel
theorem dX9_come_0 : decode cX9_come 0 = .ok (.aload_n 0, 1) := by decide +kernel
theorem dX9_come_1 : decode cX9_come 1 = .ok (.getfield 22, 3) := by decide +kernel
theorem dX9_come_4 : decode cX9_come 4 = .ok (.iconst 0, 1) := by decide +kernel
theorem dX9_come_5 : decode cX9_come 5 = .ok (.iaload, 1) := by decide +kernel
theorem dX9_come_6 : decode cX9_come 6 = .ok (.istore_n 3, 1) := by decide +kernel
theorem dX9_come_7 : decode cX9_come 7 = .ok (.aload_n 0, 1) := by decide +kernel
theorem dX9_come_8 : decode cX9_come 8 = .ok (.getfield 25, 3) := by decide +kernel
theorem dX9_come_11 : decode cX9_come 11 = .ok (.iload_n 3, 1) := by decide +kernel
theorem dX9_come_12 : decode cX9_come 12 = .ok (.iload_n 1, 1) := by decide +kernel
theorem dX9_come_13 : decode cX9_come 13 = .ok (.iastore, 1) := by decide +kernel
theorem dX9_come_14 : decode cX9_come 14 = .ok (.aload_n 0, 1) := by decide +kernel
theorem dX9_come_15 : decode cX9_come 15 = .ok (.getfield 28, 3) := by decide +kernel
theorem dX9_come_18 : decode cX9_come 18 = .ok (.iload_n 3, 1) := by decide +kernel
theorem dX9_come_19 : decode cX9_come 19 = .ok (.iload_n 2, 1) := by decide +kernel
theorem dX9_come_20 : decode cX9_come 20 = .ok (.iastore, 1) := by decide +kernel
theorem dX9_come_21 : decode cX9_come 21 = .ok (.aload_n 0, 1) := by decide +kernel
theorem dX9_come_22 : decode cX9_come 22 = .ok (.getfield 31, 3) := by decide +kernel
theorem dX9_come_25 : decode cX9_come 25 = .ok (.iload_n 3, 1) := by decide +kernel
theorem dX9_come_26 : decode cX9_come 26 = .ok (.iconst 0, 1) := by decide +kernel
theorem dX9_come_27 : decode cX9_come 27 = .ok (.iastore, 1) := by decide +kernel
theorem dX9_come_28 : decode cX9_come 28 = .ok (.aload_n 0, 1) := by decide +kernel
theorem dX9_come_29 : decode cX9_come 29 = .ok (.getfield 34, 3) := by decide +kernel
theorem dX9_come_32 : decode cX9_come 32 = .ok (.iload_n 3, 1) := by decide +kernel
theorem dX9_come_33 : decode cX9_come 33 = .ok (.iconst 0, 1) := by decide +kernel
theorem dX9_come_34 : decode cX9_come 34 = .ok (.iastore, 1) := by decide +kernel
theorem dX9_come_35 : decode cX9_come 35 = .ok (.aload_n 0, 1) := by decide +kernel
theorem dX9_come_36 : decode cX9_come 36 = .ok (.getfield 37, 3) := by decide +kernel
theorem dX9_come_39 : decode cX9_come 39 = .ok (.iload_n 3, 1) := by decide +kernel
theorem dX9_come_40 : decode cX9_come 40 = .ok (.iload_n 3, 1) := by decide +kernel
theorem dX9_come_41 : decode cX9_come 41 = .ok (.iastore, 1) := by decide +kernel
theorem dX9_come_42 : decode cX9_come 42 = .ok (.aload_n 0, 1) := by decide +kernel
theorem dX9_come_43 : decode cX9_come 43 = .ok (.getfield 22, 3) := by decide +kernel
theorem dX9_come_46 : decode cX9_come 46 = .ok (.iconst 0, 1) := by decide +kernel
theorem dX9_come_47 : decode cX9_come 47 = .ok (.dup2, 1) := by decide +kernel
theorem dX9_come_48 : decode cX9_come 48 = .ok (.iaload, 1) := by decide +kernel
theorem dX9_come_49 : decode cX9_come 49 = .ok (.iconst 1, 1) := by decide +kernel
theorem dX9_come_50 : decode cX9_come 50 = .ok (.iadd, 1) := by decide +kernel
theorem dX9_come_51 : decode cX9_come 51 = .ok (.iastore, 1) := by decide +kernel
theorem dX9_come_52 : decode cX9_come 52 = .ok (.aload_n 0, 1) := by decide +kernel
theorem dX9_come_53 : decode cX9_come 53 = .ok (.iconst 0, 1) := by decide +kernel
theorem dX9_come_54 : decode cX9_come 54 = .ok (.putfield 124, 3) := by decide +kernel
theorem dX9_come_57 : decode cX9_come 57 = .ok (.return_, 1) := by decide +kernel
theorem dX9_take_0 : decode cX9_take 0 = .ok (.iload_n 1, 1) := by decide +kernel
theorem dX9_take_1 : decode cX9_take 1 = .ok (.invokestatic 102, 3) := by decide +kernel
theorem dX9_take_4 : decode cX9_take 4 = .ok (.ifCond .eq 22, 3) := by decide +kernel
theorem dX9_take_7 : decode cX9_take 7 = .ok (.iload_n 2, 1) := by decide +kernel
theorem dX9_take_8 : decode cX9_take 8 = .ok (.invokestatic 102, 3) := by decide +kernel
theorem dX9_take_11 : decode cX9_take 11 = .ok (.ifCond .eq 15, 3) := by decide +kernel
theorem dX9_take_14 : decode cX9_take 14 = .ok (.iload_n 3, 1) := by decide +kernel
theorem dX9_take_15 : decode cX9_take 15 = .ok (.i2l, 1) := by decide +kernel
theorem dX9_take_16 : decode cX9_take 16 = .ok (.lconst 1, 1) := by decide +kernel
theorem dX9_take_17 : decode cX9_take 17 = .ok (.ldc2_w 128, 3) := by decide +kernel
theorem dX9_take_20 : decode cX9_take 20 = .ok (.invokestatic 98, 3) := by decide +kernel
theorem dX9_take_23 : decode cX9_take 23 = .ok (.ifCond .ne 6, 3) := by decide +kernel
theorem dX9_take_26 : decode cX9_take 26 = .ok (.bipush (-2), 2) := by decide +kernel
theorem dX9_take_28 : decode cX9_take 28 = .ok (.ireturn, 1) := by decide +kernel
theorem dX9_take_29 : decode cX9_take 29 = .ok (.aload_n 0, 1) := by decide +kernel
theorem dX9_take_30 : decode cX9_take 30 = .ok (.getfield 22, 3) := by decide +kernel
theorem dX9_take_33 : decode cX9_take 33 = .ok (.iconst 0, 1) := by decide +kernel
theorem dX9_take_34 : decode cX9_take 34 = .ok (.iaload, 1) := by decide +kernel
theorem dX9_take_35 : decode cX9_take 35 = .ok (.iload_n 3, 1) := by decide +kernel
theorem dX9_take_36 : decode cX9_take 36 = .ok (.iadd, 1) := by decide +kernel
theorem dX9_take_37 : decode cX9_take 37 = .ok (.bipush 40, 2) := by decide +kernel
theorem dX9_take_39 : decode cX9_take 39 = .ok (.if_icmp .le 6, 3) := by decide +kernel
theorem dX9_take_42 : decode cX9_take 42 = .ok (.bipush (-3), 2) := by decide +kernel
theorem dX9_take_44 : decode cX9_take 44 = .ok (.ireturn, 1) := by decide +kernel
theorem dX9_take_45 : decode cX9_take 45 = .ok (.aload_n 0, 1) := by decide +kernel
theorem dX9_take_46 : decode cX9_take 46 = .ok (.getfield 7, 3) := by decide +kernel
theorem dX9_take_49 : decode cX9_take 49 = .ok (.iload_n 1, 1) := by decide +kernel
theorem dX9_take_50 : decode cX9_take 50 = .ok (.iaload, 1) := by decide +kernel
theorem dX9_take_51 : decode cX9_take 51 = .ok (.ifCond .lt 12, 3) := by decide +kernel
theorem dX9_take_54 : decode cX9_take 54 = .ok (.aload_n 0, 1) := by decide +kernel
theorem dX9_take_55 : decode cX9_take 55 = .ok (.getfield 7, 3) := by decide +kernel
theorem dX9_take_58 : decode cX9_take 58 = .ok (.iload_n 2, 1) := by decide +kernel
theorem dX9_take_59 : decode cX9_take 59 = .ok (.iaload, 1) := by decide +kernel
theorem dX9_take_60 : decode cX9_take 60 = .ok (.ifCond .ge 9, 3) := by decide +kernel
theorem dX9_take_63 : decode cX9_take 63 = .ok (.aload_n 0, 1) := by decide +kernel
theorem dX9_take_64 : decode cX9_take 64 = .ok (.iconst 1, 1) := by decide +kernel
theorem dX9_take_65 : decode cX9_take 65 = .ok (.invokevirtual 108, 3) := by decide +kernel
theorem dX9_take_68 : decode cX9_take 68 = .ok (.ireturn, 1) := by decide +kernel
theorem dX9_take_69 : decode cX9_take 69 = .ok (.aload_n 0, 1) := by decide +kernel
theorem dX9_take_70 : decode cX9_take 70 = .ok (.getfield 13, 3) := by decide +kernel
theorem dX9_take_73 : decode cX9_take 73 = .ok (.iload_n 1, 1) := by decide +kernel
theorem dX9_take_74 : decode cX9_take 74 = .ok (.iaload, 1) := by decide +kernel
theorem dX9_take_75 : decode cX9_take 75 = .ok (.iload_n 3, 1) := by decide +kernel
theorem dX9_take_76 : decode cX9_take 76 = .ok (.if_icmp .lt 13, 3) := by decide +kernel
theorem dX9_take_79 : decode cX9_take 79 = .ok (.aload_n 0, 1) := by decide +kernel
theorem dX9_take_80 : decode cX9_take 80 = .ok (.getfield 13, 3) := by decide +kernel
theorem dX9_take_83 : decode cX9_take 83 = .ok (.iload_n 2, 1) := by decide +kernel
theorem dX9_take_84 : decode cX9_take 84 = .ok (.iaload, 1) := by decide +kernel
theorem dX9_take_85 : decode cX9_take 85 = .ok (.iload_n 3, 1) := by decide +kernel
theorem dX9_take_86 : decode cX9_take 86 = .ok (.if_icmp .ge 9, 3) := by decide +kernel
theorem dX9_take_89 : decode cX9_take 89 = .ok (.aload_n 0, 1) := by decide +kernel
theorem dX9_take_90 : decode cX9_take 90 = .ok (.iconst 2, 1) := by decide +kernel
theorem dX9_take_91 : decode cX9_take 91 = .ok (.invokevirtual 108, 3) := by decide +kernel
theorem dX9_take_94 : decode cX9_take 94 = .ok (.ireturn, 1) := by decide +kernel
theorem dX9_take_95 : decode cX9_take 95 = .ok (.iconst 0, 1) := by decide +kernel
theorem dX9_take_96 : decode cX9_take 96 = .ok (.istore 4, 2) := by decide +kernel
theorem dX9_take_98 : decode cX9_take 98 = .ok (.iload 4, 2) := by decide +kernel
theorem dX9_take_100 : decode cX9_take 100 = .ok (.iload_n 3, 1) := by decide +kernel
theorem dX9_take_101 : decode cX9_take 101 = .ok (.if_icmp .ge 58, 3) := by decide +kernel
theorem dX9_take_104 : decode cX9_take 104 = .ok (.aload_n 0, 1) := by decide +kernel
theorem dX9_take_105 : decode cX9_take 105 = .ok (.getfield 16, 3) := by decide +kernel
theorem dX9_take_108 : decode cX9_take 108 = .ok (.bipush 40, 2) := by decide +kernel
theorem dX9_take_110 : decode cX9_take 110 = .ok (.iload_n 1, 1) := by decide +kernel
theorem dX9_take_111 : decode cX9_take 111 = .ok (.imul, 1) := by decide +kernel
theorem dX9_take_112 : decode cX9_take 112 = .ok (.iload 4, 2) := by decide +kernel
theorem dX9_take_114 : decode cX9_take 114 = .ok (.iadd, 1) := by decide +kernel
theorem dX9_take_115 : decode cX9_take 115 = .ok (.iaload, 1) := by decide +kernel
theorem dX9_take_116 : decode cX9_take 116 = .ok (.i2l, 1) := by decide +kernel
theorem dX9_take_117 : decode cX9_take 117 = .ok (.lconst 0, 1) := by decide +kernel
theorem dX9_take_118 : decode cX9_take 118 = .ok (.ldc2_w 130, 3) := by decide +kernel
theorem dX9_take_121 : decode cX9_take 121 = .ok (.invokestatic 98, 3) := by decide +kernel
theorem dX9_take_124 : decode cX9_take 124 = .ok (.ifCond .eq 26, 3) := by decide +kernel
theorem dX9_take_127 : decode cX9_take 127 = .ok (.aload_n 0, 1) := by decide +kernel
theorem dX9_take_128 : decode cX9_take 128 = .ok (.getfield 16, 3) := by decide +kernel
theorem dX9_take_131 : decode cX9_take 131 = .ok (.bipush 40, 2) := by decide +kernel
theorem dX9_take_133 : decode cX9_take 133 = .ok (.iload_n 2, 1) := by decide +kernel
theorem dX9_take_134 : decode cX9_take 134 = .ok (.imul, 1) := by decide +kernel
theorem dX9_take_135 : decode cX9_take 135 = .ok (.iload 4, 2) := by decide +kernel
theorem dX9_take_137 : decode cX9_take 137 = .ok (.iadd, 1) := by decide +kernel
theorem dX9_take_138 : decode cX9_take 138 = .ok (.iaload, 1) := by decide +kernel
theorem dX9_take_139 : decode cX9_take 139 = .ok (.i2l, 1) := by decide +kernel
theorem dX9_take_140 : decode cX9_take 140 = .ok (.lconst 0, 1) := by decide +kernel
theorem dX9_take_141 : decode cX9_take 141 = .ok (.ldc2_w 130, 3) := by decide +kernel
theorem dX9_take_144 : decode cX9_take 144 = .ok (.invokestatic 98, 3) := by decide +kernel
theorem dX9_take_147 : decode cX9_take 147 = .ok (.ifCond .ne 6, 3) := by decide +kernel
theorem dX9_take_150 : decode cX9_take 150 = .ok (.bipush (-2), 2) := by decide +kernel
theorem dX9_take_152 : decode cX9_take 152 = .ok (.ireturn, 1) := by decide +kernel
theorem dX9_take_153 : decode cX9_take 153 = .ok (.iinc 4 1, 3) := by decide +kernel
theorem dX9_take_156 : decode cX9_take 156 = .ok (.goto (-58), 3) := by decide +kernel
theorem dX9_take_159 : decode cX9_take 159 = .ok (.aload_n 0, 1) := by decide +kernel
theorem dX9_take_160 : decode cX9_take 160 = .ok (.invokevirtual 132, 3) := by decide +kernel
theorem dX9_take_163 : decode cX9_take 163 = .ok (.iconst 0, 1) := by decide +kernel
theorem dX9_take_164 : decode cX9_take 164 = .ok (.istore 4, 2) := by decide +kernel
theorem dX9_take_166 : decode cX9_take 166 = .ok (.iload 4, 2) := by decide +kernel
theorem dX9_take_168 : decode cX9_take 168 = .ok (.iload_n 3, 1) := by decide +kernel
theorem dX9_take_169 : decode cX9_take 169 = .ok (.if_icmp .ge 37, 3) := by decide +kernel
theorem dX9_take_172 : decode cX9_take 172 = .ok (.aload_n 0, 1) := by decide +kernel
theorem dX9_take_173 : decode cX9_take 173 = .ok (.aload_n 0, 1) := by decide +kernel
theorem dX9_take_174 : decode cX9_take 174 = .ok (.getfield 16, 3) := by decide +kernel
theorem dX9_take_177 : decode cX9_take 177 = .ok (.bipush 40, 2) := by decide +kernel
theorem dX9_take_179 : decode cX9_take 179 = .ok (.iload_n 1, 1) := by decide +kernel
theorem dX9_take_180 : decode cX9_take 180 = .ok (.imul, 1) := by decide +kernel
theorem dX9_take_181 : decode cX9_take 181 = .ok (.iload 4, 2) := by decide +kernel
theorem dX9_take_183 : decode cX9_take 183 = .ok (.iadd, 1) := by decide +kernel
theorem dX9_take_184 : decode cX9_take 184 = .ok (.iaload, 1) := by decide +kernel
theorem dX9_take_185 : decode cX9_take 185 = .ok (.aload_n 0, 1) := by decide +kernel
theorem dX9_take_186 : decode cX9_take 186 = .ok (.getfield 16, 3) := by decide +kernel
theorem dX9_take_189 : decode cX9_take 189 = .ok (.bipush 40, 2) := by decide +kernel
theorem dX9_take_191 : decode cX9_take 191 = .ok (.iload_n 2, 1) := by decide +kernel
theorem dX9_take_192 : decode cX9_take 192 = .ok (.imul, 1) := by decide +kernel
theorem dX9_take_193 : decode cX9_take 193 = .ok (.iload 4, 2) := by decide +kernel
theorem dX9_take_195 : decode cX9_take 195 = .ok (.iadd, 1) := by decide +kernel
theorem dX9_take_196 : decode cX9_take 196 = .ok (.iaload, 1) := by decide +kernel
theorem dX9_take_197 : decode cX9_take 197 = .ok (.invokevirtual 135, 3) := by decide +kernel
theorem dX9_take_200 : decode cX9_take 200 = .ok (.iinc 4 1, 3) := by decide +kernel
theorem dX9_take_203 : decode cX9_take 203 = .ok (.goto (-37), 3) := by decide +kernel
theorem dX9_take_206 : decode cX9_take 206 = .ok (.aload_n 0, 1) := by decide +kernel
theorem dX9_take_207 : decode cX9_take 207 = .ok (.getfield 22, 3) := by decide +kernel
theorem dX9_take_210 : decode cX9_take 210 = .ok (.iconst 0, 1) := by decide +kernel
theorem dX9_take_211 : decode cX9_take 211 = .ok (.iaload, 1) := by decide +kernel
theorem dX9_take_212 : decode cX9_take 212 = .ok (.ireturn, 1) := by decide +kernel
theorem dX9_loaf_0 : decode cX9_loaf 0 = .ok (.iload_n 1, 1) := by decide +kernel
theorem dX9_loaf_1 : decode cX9_loaf 1 = .ok (.i2l, 1) := by decide +kernel
theorem dX9_loaf_2 : decode cX9_loaf 2 = .ok (.lconst 0, 1) := by decide +kernel
theorem dX9_loaf_3 : decode cX9_loaf 3 = .ok (.ldc2_w 130, 3) := by decide +kernel
theorem dX9_loaf_6 : decode cX9_loaf 6 = .ok (.invokestatic 98, 3) := by decide +kernel
theorem dX9_loaf_9 : decode cX9_loaf 9 = .ok (.ifCond .eq 15, 3) := by decide +kernel
theorem dX9_loaf_12 : decode cX9_loaf 12 = .ok (.iload_n 2, 1) := by decide +kernel
theorem dX9_loaf_13 : decode cX9_loaf 13 = .ok (.i2l, 1) := by decide +kernel
theorem dX9_loaf_14 : decode cX9_loaf 14 = .ok (.lconst 0, 1) := by decide +kernel
theorem dX9_loaf_15 : decode cX9_loaf 15 = .ok (.ldc2_w 130, 3) := by decide +kernel
theorem dX9_loaf_18 : decode cX9_loaf 18 = .ok (.invokestatic 98, 3) := by decide +kernel
theorem dX9_loaf_21 : decode cX9_loaf 21 = .ok (.ifCond .ne 6, 3) := by decide +kernel
theorem dX9_loaf_24 : decode cX9_loaf 24 = .ok (.bipush (-2), 2) := by decide +kernel
theorem dX9_loaf_26 : decode cX9_loaf 26 = .ok (.ireturn, 1) := by decide +kernel
theorem dX9_loaf_27 : decode cX9_loaf 27 = .ok (.aload_n 0, 1) := by decide +kernel
theorem dX9_loaf_28 : decode cX9_loaf 28 = .ok (.getfield 22, 3) := by decide +kernel
theorem dX9_loaf_31 : decode cX9_loaf 31 = .ok (.iconst 0, 1) := by decide +kernel
theorem dX9_loaf_32 : decode cX9_loaf 32 = .ok (.iaload, 1) := by decide +kernel
theorem dX9_loaf_33 : decode cX9_loaf 33 = .ok (.bipush 40, 2) := by decide +kernel
theorem dX9_loaf_35 : decode cX9_loaf 35 = .ok (.if_icmp .ne 6, 3) := by decide +kernel
theorem dX9_loaf_38 : decode cX9_loaf 38 = .ok (.bipush (-3), 2) := by decide +kernel
theorem dX9_loaf_40 : decode cX9_loaf 40 = .ok (.ireturn, 1) := by decide +kernel
theorem dX9_loaf_41 : decode cX9_loaf 41 = .ok (.aload_n 0, 1) := by decide +kernel
theorem dX9_loaf_42 : decode cX9_loaf 42 = .ok (.invokevirtual 132, 3) := by decide +kernel
theorem dX9_loaf_45 : decode cX9_loaf 45 = .ok (.aload_n 0, 1) := by decide +kernel
theorem dX9_loaf_46 : decode cX9_loaf 46 = .ok (.iload_n 1, 1) := by decide +kernel
theorem dX9_loaf_47 : decode cX9_loaf 47 = .ok (.iload_n 2, 1) := by decide +kernel
theorem dX9_loaf_48 : decode cX9_loaf 48 = .ok (.invokevirtual 135, 3) := by decide +kernel
theorem dX9_loaf_51 : decode cX9_loaf 51 = .ok (.aload_n 0, 1) := by decide +kernel
theorem dX9_loaf_52 : decode cX9_loaf 52 = .ok (.getfield 22, 3) := by decide +kernel
theorem dX9_loaf_55 : decode cX9_loaf 55 = .ok (.iconst 0, 1) := by decide +kernel
theorem dX9_loaf_56 : decode cX9_loaf 56 = .ok (.iaload, 1) := by decide +kernel
theorem dX9_loaf_57 : decode cX9_loaf 57 = .ok (.iconst 1, 1) := by decide +kernel
theorem dX9_loaf_58 : decode cX9_loaf 58 = .ok (.isub, 1) := by decide +kernel
theorem dX9_loaf_59 : decode cX9_loaf 59 = .ok (.ireturn, 1) := by decide +kernel
theorem dX9_isLoaf_0 : decode cX9_isLoaf 0 = .ok (.iload_n 1, 1) := by decide +kernel
theorem dX9_isLoaf_1 : decode cX9_isLoaf 1 = .ok (.i2l, 1) := by decide +kernel
theorem dX9_isLoaf_2 : decode cX9_isLoaf 2 = .ok (.lconst 0, 1) := by decide +kernel
theorem dX9_isLoaf_3 : decode cX9_isLoaf 3 = .ok (.aload_n 0, 1) := by decide +kernel
theorem dX9_isLoaf_4 : decode cX9_isLoaf 4 = .ok (.getfield 22, 3) := by decide +kernel
theorem dX9_isLoaf_7 : decode cX9_isLoaf 7 = .ok (.iconst 0, 1) := by decide +kernel
theorem dX9_isLoaf_8 : decode cX9_isLoaf 8 = .ok (.iaload, 1) := by decide +kernel
theorem dX9_isLoaf_9 : decode cX9_isLoaf 9 = .ok (.iconst 1, 1) := by decide +kernel
theorem dX9_isLoaf_10 : decode cX9_isLoaf 10 = .ok (.isub, 1) := by decide +kernel
theorem dX9_isLoaf_11 : decode cX9_isLoaf 11 = .ok (.i2l, 1) := by decide +kernel
theorem dX9_isLoaf_12 : decode cX9_isLoaf 12 = .ok (.invokestatic 98, 3) := by decide +kernel
theorem dX9_isLoaf_15 : decode cX9_isLoaf 15 = .ok (.ireturn, 1) := by decide +kernel
theorem dX9_kindOf_0 : decode cX9_kindOf 0 = .ok (.aload_n 0, 1) := by decide +kernel
theorem dX9_kindOf_1 : decode cX9_kindOf 1 = .ok (.getfield 25, 3) := by decide +kernel
theorem dX9_kindOf_4 : decode cX9_kindOf 4 = .ok (.iload_n 1, 1) := by decide +kernel
theorem dX9_kindOf_5 : decode cX9_kindOf 5 = .ok (.iaload, 1) := by decide +kernel
theorem dX9_kindOf_6 : decode cX9_kindOf 6 = .ok (.ifCond .ne 7, 3) := by decide +kernel
theorem dX9_kindOf_9 : decode cX9_kindOf 9 = .ok (.iconst 3, 1) := by decide +kernel
theorem dX9_kindOf_10 : decode cX9_kindOf 10 = .ok (.goto 36, 3) := by decide +kernel
theorem dX9_kindOf_13 : decode cX9_kindOf 13 = .ok (.aload_n 0, 1) := by decide +kernel
theorem dX9_kindOf_14 : decode cX9_kindOf 14 = .ok (.getfield 28, 3) := by decide +kernel
theorem dX9_kindOf_17 : decode cX9_kindOf 17 = .ok (.iload_n 1, 1) := by decide +kernel
theorem dX9_kindOf_18 : decode cX9_kindOf 18 = .ok (.iaload, 1) := by decide +kernel
theorem dX9_kindOf_19 : decode cX9_kindOf 19 = .ok (.ifCond .ne 7, 3) := by decide +kernel
theorem dX9_kindOf_22 : decode cX9_kindOf 22 = .ok (.iconst 4, 1) := by decide +kernel
theorem dX9_kindOf_23 : decode cX9_kindOf 23 = .ok (.goto 23, 3) := by decide +kernel
theorem dX9_kindOf_26 : decode cX9_kindOf 26 = .ok (.aload_n 0, 1) := by decide +kernel
theorem dX9_kindOf_27 : decode cX9_kindOf 27 = .ok (.getfield 25, 3) := by decide +kernel
theorem dX9_kindOf_30 : decode cX9_kindOf 30 = .ok (.iload_n 1, 1) := by decide +kernel
theorem dX9_kindOf_31 : decode cX9_kindOf 31 = .ok (.iaload, 1) := by decide +kernel
theorem dX9_kindOf_32 : decode cX9_kindOf 32 = .ok (.aload_n 0, 1) := by decide +kernel
theorem dX9_kindOf_33 : decode cX9_kindOf 33 = .ok (.getfield 28, 3) := by decide +kernel
theorem dX9_kindOf_36 : decode cX9_kindOf 36 = .ok (.iload_n 1, 1) := by decide +kernel
theorem dX9_kindOf_37 : decode cX9_kindOf 37 = .ok (.iaload, 1) := by decide +kernel
theorem dX9_kindOf_38 : decode cX9_kindOf 38 = .ok (.if_icmp .gt 7, 3) := by decide +kernel
theorem dX9_kindOf_41 : decode cX9_kindOf 41 = .ok (.iconst 1, 1) := by decide +kernel
theorem dX9_kindOf_42 : decode cX9_kindOf 42 = .ok (.goto 4, 3) := by decide +kernel
theorem dX9_kindOf_45 : decode cX9_kindOf 45 = .ok (.iconst 2, 1) := by decide +kernel
theorem dX9_kindOf_46 : decode cX9_kindOf 46 = .ok (.ireturn, 1) := by decide +kernel
theorem dX9_placeOf_0 : decode cX9_placeOf 0 = .ok (.iconst 0, 1) := by decide +kernel
theorem dX9_placeOf_1 : decode cX9_placeOf 1 = .ok (.istore_n 2, 1) := by decide +kernel
theorem dX9_placeOf_2 : decode cX9_placeOf 2 = .ok (.aload_n 0, 1) := by decide +kernel
theorem dX9_placeOf_3 : decode cX9_placeOf 3 = .ok (.getfield 37, 3) := by decide +kernel
theorem dX9_placeOf_6 : decode cX9_placeOf 6 = .ok (.iload_n 2, 1) := by decide +kernel
theorem dX9_placeOf_7 : decode cX9_placeOf 7 = .ok (.iaload, 1) := by decide +kernel
theorem dX9_placeOf_8 : decode cX9_placeOf 8 = .ok (.iload_n 1, 1) := by decide +kernel
theorem dX9_placeOf_9 : decode cX9_placeOf 9 = .ok (.if_icmp .eq 9, 3) := by decide +kernel
theorem dX9_placeOf_12 : decode cX9_placeOf 12 = .ok (.iinc 2 1, 3) := by decide +kernel
theorem dX9_placeOf_15 : decode cX9_placeOf 15 = .ok (.goto (-13), 3) := by decide +kernel
theorem dX9_placeOf_18 : decode cX9_placeOf 18 = .ok (.iload_n 2, 1) := by decide +kernel
theorem dX9_placeOf_19 : decode cX9_placeOf 19 = .ok (.ireturn, 1) := by decide +kernel
theorem dX9_of_0 : decode cX9_of 0 = .ok (.aload_n 0, 1) := by decide +kernel
theorem dX9_of_1 : decode cX9_of 1 = .ok (.iload_n 1, 1) := by decide +kernel
theorem dX9_of_2 : decode cX9_of 2 = .ok (.invokevirtual 138, 3) := by decide +kernel
theorem dX9_of_5 : decode cX9_of 5 = .ok (.ifCond .ne 6, 3) := by decide +kernel
theorem dX9_of_8 : decode cX9_of 8 = .ok (.bipush (-2), 2) := by decide +kernel
theorem dX9_of_10 : decode cX9_of 10 = .ok (.ireturn, 1) := by decide +kernel
theorem dX9_of_11 : decode cX9_of 11 = .ok (.iload_n 2, 1) := by decide +kernel
theorem dX9_of_12 : decode cX9_of 12 = .ok (.tableswitch 80 0 5 #[40, 47, 54, 61, 68, 74], 40) := by decide +kernel
theorem dX9_of_52 : decode cX9_of 52 = .ok (.aload_n 0, 1) := by decide +kernel
theorem dX9_of_53 : decode cX9_of 53 = .ok (.getfield 25, 3) := by decide +kernel
theorem dX9_of_56 : decode cX9_of 56 = .ok (.iload_n 1, 1) := by decide +kernel
theorem dX9_of_57 : decode cX9_of 57 = .ok (.iaload, 1) := by decide +kernel
theorem dX9_of_58 : decode cX9_of 58 = .ok (.ireturn, 1) := by decide +kernel
theorem dX9_of_59 : decode cX9_of 59 = .ok (.aload_n 0, 1) := by decide +kernel
theorem dX9_of_60 : decode cX9_of 60 = .ok (.getfield 28, 3) := by decide +kernel
theorem dX9_of_63 : decode cX9_of 63 = .ok (.iload_n 1, 1) := by decide +kernel
theorem dX9_of_64 : decode cX9_of 64 = .ok (.iaload, 1) := by decide +kernel
theorem dX9_of_65 : decode cX9_of 65 = .ok (.ireturn, 1) := by decide +kernel
theorem dX9_of_66 : decode cX9_of 66 = .ok (.aload_n 0, 1) := by decide +kernel
theorem dX9_of_67 : decode cX9_of 67 = .ok (.getfield 31, 3) := by decide +kernel
theorem dX9_of_70 : decode cX9_of 70 = .ok (.iload_n 1, 1) := by decide +kernel
theorem dX9_of_71 : decode cX9_of 71 = .ok (.iaload, 1) := by decide +kernel
theorem dX9_of_72 : decode cX9_of 72 = .ok (.ireturn, 1) := by decide +kernel
theorem dX9_of_73 : decode cX9_of 73 = .ok (.aload_n 0, 1) := by decide +kernel
theorem dX9_of_74 : decode cX9_of 74 = .ok (.getfield 34, 3) := by decide +kernel
theorem dX9_of_77 : decode cX9_of 77 = .ok (.iload_n 1, 1) := by decide +kernel
theorem dX9_of_78 : decode cX9_of 78 = .ok (.iaload, 1) := by decide +kernel
theorem dX9_of_79 : decode cX9_of 79 = .ok (.ireturn, 1) := by decide +kernel
theorem dX9_of_80 : decode cX9_of 80 = .ok (.aload_n 0, 1) := by decide +kernel
theorem dX9_of_81 : decode cX9_of 81 = .ok (.iload_n 1, 1) := by decide +kernel
theorem dX9_of_82 : decode cX9_of 82 = .ok (.invokevirtual 141, 3) := by decide +kernel
theorem dX9_of_85 : decode cX9_of 85 = .ok (.ireturn, 1) := by decide +kernel
theorem dX9_of_86 : decode cX9_of 86 = .ok (.aload_n 0, 1) := by decide +kernel
theorem dX9_of_87 : decode cX9_of 87 = .ok (.iload_n 1, 1) := by decide +kernel
theorem dX9_of_88 : decode cX9_of 88 = .ok (.invokevirtual 144, 3) := by decide +kernel
theorem dX9_of_91 : decode cX9_of 91 = .ok (.ireturn, 1) := by decide +kernel
theorem dX9_of_92 : decode cX9_of 92 = .ok (.bipush (-2), 2) := by decide +kernel
theorem dX9_of_94 : decode cX9_of 94 = .ok (.ireturn, 1) := by decide +kernel
theorem dX9_heat_0 : decode cX9_heat 0 = .ok (.aload_n 0, 1) := by decide +kernel
theorem dX9_heat_1 : decode cX9_heat 1 = .ok (.iload_n 1, 1) := by decide +kernel
theorem dX9_heat_2 : decode cX9_heat 2 = .ok (.invokevirtual 138, 3) := by decide +kernel
theorem dX9_heat_5 : decode cX9_heat 5 = .ok (.ifCond .eq 27, 3) := by decide +kernel
theorem dX9_heat_8 : decode cX9_heat 8 = .ok (.iload_n 2, 1) := by decide +kernel
theorem dX9_heat_9 : decode cX9_heat 9 = .ok (.i2l, 1) := by decide +kernel
theorem dX9_heat_10 : decode cX9_heat 10 = .ok (.lconst 0, 1) := by decide +kernel
theorem dX9_heat_11 : decode cX9_heat 11 = .ok (.ldc2_w 147, 3) := by decide +kernel
theorem dX9_heat_14 : decode cX9_heat 14 = .ok (.invokestatic 98, 3) := by decide +kernel
theorem dX9_heat_17 : decode cX9_heat 17 = .ok (.ifCond .eq 15, 3) := by decide +kernel
theorem dX9_heat_20 : decode cX9_heat 20 = .ok (.iload_n 3, 1) := by decide +kernel
theorem dX9_heat_21 : decode cX9_heat 21 = .ok (.i2l, 1) := by decide +kernel
theorem dX9_heat_22 : decode cX9_heat 22 = .ok (.lconst 0, 1) := by decide +kernel
theorem dX9_heat_23 : decode cX9_heat 23 = .ok (.ldc2_w 147, 3) := by decide +kernel
theorem dX9_heat_26 : decode cX9_heat 26 = .ok (.invokestatic 98, 3) := by decide +kernel
theorem dX9_heat_29 : decode cX9_heat 29 = .ok (.ifCond .ne 6, 3) := by decide +kernel
theorem dX9_heat_32 : decode cX9_heat 32 = .ok (.bipush (-2), 2) := by decide +kernel
theorem dX9_heat_34 : decode cX9_heat 34 = .ok (.ireturn, 1) := by decide +kernel
theorem dX9_heat_35 : decode cX9_heat 35 = .ok (.aload_n 0, 1) := by decide +kernel
theorem dX9_heat_36 : decode cX9_heat 36 = .ok (.invokevirtual 132, 3) := by decide +kernel
theorem dX9_heat_39 : decode cX9_heat 39 = .ok (.aload_n 0, 1) := by decide +kernel
theorem dX9_heat_40 : decode cX9_heat 40 = .ok (.getfield 31, 3) := by decide +kernel
theorem dX9_heat_43 : decode cX9_heat 43 = .ok (.iload_n 1, 1) := by decide +kernel
theorem dX9_heat_44 : decode cX9_heat 44 = .ok (.iload_n 2, 1) := by decide +kernel
theorem dX9_heat_45 : decode cX9_heat 45 = .ok (.iastore, 1) := by decide +kernel
theorem dX9_heat_46 : decode cX9_heat 46 = .ok (.aload_n 0, 1) := by decide +kernel
theorem dX9_heat_47 : decode cX9_heat 47 = .ok (.getfield 34, 3) := by decide +kernel
theorem dX9_heat_50 : decode cX9_heat 50 = .ok (.iload_n 1, 1) := by decide +kernel
theorem dX9_heat_51 : decode cX9_heat 51 = .ok (.iload_n 3, 1) := by decide +kernel
theorem dX9_heat_52 : decode cX9_heat 52 = .ok (.iastore, 1) := by decide +kernel
theorem dX9_heat_53 : decode cX9_heat 53 = .ok (.iconst 1, 1) := by decide +kernel
theorem dX9_heat_54 : decode cX9_heat 54 = .ok (.ireturn, 1) := by decide +kernel
theorem dX9_price_0 : decode cX9_price 0 = .ok (.iload_n 1, 1) := by decide +kernel
theorem dX9_price_1 : decode cX9_price 1 = .ok (.i2l, 1) := by decide +kernel
theorem dX9_price_2 : decode cX9_price 2 = .ok (.lconst 0, 1) := by decide +kernel
theorem dX9_price_3 : decode cX9_price 3 = .ok (.ldc2_w 149, 3) := by decide +kernel
theorem dX9_price_6 : decode cX9_price 6 = .ok (.invokestatic 98, 3) := by decide +kernel
theorem dX9_price_9 : decode cX9_price 9 = .ok (.ifCond .eq 31, 3) := by decide +kernel
theorem dX9_price_12 : decode cX9_price 12 = .ok (.iload_n 2, 1) := by decide +kernel
theorem dX9_price_13 : decode cX9_price 13 = .ok (.i2l, 1) := by decide +kernel
theorem dX9_price_14 : decode cX9_price 14 = .ok (.ldc2_w 151, 3) := by decide +kernel
theorem dX9_price_17 : decode cX9_price 17 = .ok (.ldc2_w 153, 3) := by decide +kernel
theorem dX9_price_20 : decode cX9_price 20 = .ok (.invokestatic 98, 3) := by decide +kernel
theorem dX9_price_23 : decode cX9_price 23 = .ok (.ifCond .eq 17, 3) := by decide +kernel
theorem dX9_price_26 : decode cX9_price 26 = .ok (.iload_n 3, 1) := by decide +kernel
theorem dX9_price_27 : decode cX9_price 27 = .ok (.i2l, 1) := by decide +kernel
theorem dX9_price_28 : decode cX9_price 28 = .ok (.ldc2_w 151, 3) := by decide +kernel
theorem dX9_price_31 : decode cX9_price 31 = .ok (.ldc2_w 153, 3) := by decide +kernel
theorem dX9_price_34 : decode cX9_price 34 = .ok (.invokestatic 98, 3) := by decide +kernel
theorem dX9_price_37 : decode cX9_price 37 = .ok (.ifCond .ne 6, 3) := by decide +kernel
theorem dX9_price_40 : decode cX9_price 40 = .ok (.bipush (-2), 2) := by decide +kernel
theorem dX9_price_42 : decode cX9_price 42 = .ok (.ireturn, 1) := by decide +kernel
theorem dX9_price_43 : decode cX9_price 43 = .ok (.aload_n 0, 1) := by decide +kernel
theorem dX9_price_44 : decode cX9_price 44 = .ok (.getfield 43, 3) := by decide +kernel
theorem dX9_price_47 : decode cX9_price 47 = .ok (.iload_n 1, 1) := by decide +kernel
theorem dX9_price_48 : decode cX9_price 48 = .ok (.iload_n 2, 1) := by decide +kernel
theorem dX9_price_49 : decode cX9_price 49 = .ok (.iastore, 1) := by decide +kernel
theorem dX9_price_50 : decode cX9_price 50 = .ok (.aload_n 0, 1) := by decide +kernel
theorem dX9_price_51 : decode cX9_price 51 = .ok (.getfield 46, 3) := by decide +kernel
theorem dX9_price_54 : decode cX9_price 54 = .ok (.iload_n 1, 1) := by decide +kernel
theorem dX9_price_55 : decode cX9_price 55 = .ok (.iload_n 3, 1) := by decide +kernel
theorem dX9_price_56 : decode cX9_price 56 = .ok (.iastore, 1) := by decide +kernel
theorem dX9_price_57 : decode cX9_price 57 = .ok (.iconst 1, 1) := by decide +kernel
theorem dX9_price_58 : decode cX9_price 58 = .ok (.ireturn, 1) := by decide +kernel
theorem dX9_at_0 : decode cX9_at 0 = .ok (.aload_n 0, 1) := by decide +kernel
theorem dX9_at_1 : decode cX9_at 1 = .ok (.iload_n 1, 1) := by decide +kernel
theorem dX9_at_2 : decode cX9_at 2 = .ok (.invokevirtual 138, 3) := by decide +kernel
theorem dX9_at_5 : decode cX9_at 5 = .ok (.ifCond .eq 12, 3) := by decide +kernel
theorem dX9_at_8 : decode cX9_at 8 = .ok (.aload_n 0, 1) := by decide +kernel
theorem dX9_at_9 : decode cX9_at 9 = .ok (.getfield 37, 3) := by decide +kernel
theorem dX9_at_12 : decode cX9_at 12 = .ok (.iload_n 1, 1) := by decide +kernel
theorem dX9_at_13 : decode cX9_at 13 = .ok (.iaload, 1) := by decide +kernel
theorem dX9_at_14 : decode cX9_at 14 = .ok (.goto 4, 3) := by decide +kernel
theorem dX9_at_17 : decode cX9_at 17 = .ok (.iconst (-1), 1) := by decide +kernel
theorem dX9_at_18 : decode cX9_at 18 = .ok (.ireturn, 1) := by decide +kernel
theorem dX9_swap_0 : decode cX9_swap 0 = .ok (.aload_n 0, 1) := by decide +kernel
theorem dX9_swap_1 : decode cX9_swap 1 = .ok (.iload_n 1, 1) := by decide +kernel
theorem dX9_swap_2 : decode cX9_swap 2 = .ok (.invokevirtual 138, 3) := by decide +kernel
theorem dX9_swap_5 : decode cX9_swap 5 = .ok (.ifCond .eq 11, 3) := by decide +kernel
theorem dX9_swap_8 : decode cX9_swap 8 = .ok (.aload_n 0, 1) := by decide +kernel
theorem dX9_swap_9 : decode cX9_swap 9 = .ok (.iload_n 2, 1) := by decide +kernel
theorem dX9_swap_10 : decode cX9_swap 10 = .ok (.invokevirtual 138, 3) := by decide +kernel
theorem dX9_swap_13 : decode cX9_swap 13 = .ok (.ifCond .ne 6, 3) := by decide +kernel
theorem dX9_swap_16 : decode cX9_swap 16 = .ok (.bipush (-2), 2) := by decide +kernel
theorem dX9_swap_18 : decode cX9_swap 18 = .ok (.ireturn, 1) := by decide +kernel
theorem dX9_swap_19 : decode cX9_swap 19 = .ok (.aload_n 0, 1) := by decide +kernel
theorem dX9_swap_20 : decode cX9_swap 20 = .ok (.invokevirtual 132, 3) := by decide +kernel
theorem dX9_swap_23 : decode cX9_swap 23 = .ok (.aload_n 0, 1) := by decide +kernel
theorem dX9_swap_24 : decode cX9_swap 24 = .ok (.getfield 37, 3) := by decide +kernel
theorem dX9_swap_27 : decode cX9_swap 27 = .ok (.iload_n 1, 1) := by decide +kernel
theorem dX9_swap_28 : decode cX9_swap 28 = .ok (.iaload, 1) := by decide +kernel
theorem dX9_swap_29 : decode cX9_swap 29 = .ok (.istore_n 3, 1) := by decide +kernel
theorem dX9_swap_30 : decode cX9_swap 30 = .ok (.aload_n 0, 1) := by decide +kernel
theorem dX9_swap_31 : decode cX9_swap 31 = .ok (.getfield 37, 3) := by decide +kernel
theorem dX9_swap_34 : decode cX9_swap 34 = .ok (.iload_n 1, 1) := by decide +kernel
theorem dX9_swap_35 : decode cX9_swap 35 = .ok (.aload_n 0, 1) := by decide +kernel
theorem dX9_swap_36 : decode cX9_swap 36 = .ok (.getfield 37, 3) := by decide +kernel
theorem dX9_swap_39 : decode cX9_swap 39 = .ok (.iload_n 2, 1) := by decide +kernel
theorem dX9_swap_40 : decode cX9_swap 40 = .ok (.iaload, 1) := by decide +kernel
theorem dX9_swap_41 : decode cX9_swap 41 = .ok (.iastore, 1) := by decide +kernel
theorem dX9_swap_42 : decode cX9_swap 42 = .ok (.aload_n 0, 1) := by decide +kernel
theorem dX9_swap_43 : decode cX9_swap 43 = .ok (.getfield 37, 3) := by decide +kernel
theorem dX9_swap_46 : decode cX9_swap 46 = .ok (.iload_n 2, 1) := by decide +kernel
theorem dX9_swap_47 : decode cX9_swap 47 = .ok (.iload_n 3, 1) := by decide +kernel
theorem dX9_swap_48 : decode cX9_swap 48 = .ok (.iastore, 1) := by decide +kernel
theorem dX9_swap_49 : decode cX9_swap 49 = .ok (.iconst 1, 1) := by decide +kernel
theorem dX9_swap_50 : decode cX9_swap 50 = .ok (.ireturn, 1) := by decide +kernel
theorem dX9_isAhead_0 : decode cX9_isAhead 0 = .ok (.aload_n 0, 1) := by decide +kernel
theorem dX9_isAhead_1 : decode cX9_isAhead 1 = .ok (.getfield 25, 3) := by decide +kernel
theorem dX9_isAhead_4 : decode cX9_isAhead 4 = .ok (.iload_n 1, 1) := by decide +kernel
theorem dX9_isAhead_5 : decode cX9_isAhead 5 = .ok (.iaload, 1) := by decide +kernel
theorem dX9_isAhead_6 : decode cX9_isAhead 6 = .ok (.aload_n 0, 1) := by decide +kernel
theorem dX9_isAhead_7 : decode cX9_isAhead 7 = .ok (.getfield 28, 3) := by decide +kernel
theorem dX9_isAhead_10 : decode cX9_isAhead 10 = .ok (.iload_n 1, 1) := by decide +kernel
theorem dX9_isAhead_11 : decode cX9_isAhead 11 = .ok (.iaload, 1) := by decide +kernel
theorem dX9_isAhead_12 : decode cX9_isAhead 12 = .ok (.if_icmp .gt 7, 3) := by decide +kernel
theorem dX9_isAhead_15 : decode cX9_isAhead 15 = .ok (.iconst 1, 1) := by decide +kernel
theorem dX9_isAhead_16 : decode cX9_isAhead 16 = .ok (.goto 4, 3) := by decide +kernel
theorem dX9_isAhead_19 : decode cX9_isAhead 19 = .ok (.iconst 0, 1) := by decide +kernel
theorem dX9_isAhead_20 : decode cX9_isAhead 20 = .ok (.istore_n 3, 1) := by decide +kernel
theorem dX9_isAhead_21 : decode cX9_isAhead 21 = .ok (.iload_n 3, 1) := by decide +kernel
theorem dX9_isAhead_22 : decode cX9_isAhead 22 = .ok (.aload_n 0, 1) := by decide +kernel
theorem dX9_isAhead_23 : decode cX9_isAhead 23 = .ok (.getfield 25, 3) := by decide +kernel
theorem dX9_isAhead_26 : decode cX9_isAhead 26 = .ok (.iload_n 2, 1) := by decide +kernel
theorem dX9_isAhead_27 : decode cX9_isAhead 27 = .ok (.iaload, 1) := by decide +kernel
theorem dX9_isAhead_28 : decode cX9_isAhead 28 = .ok (.aload_n 0, 1) := by decide +kernel
theorem dX9_isAhead_29 : decode cX9_isAhead 29 = .ok (.getfield 28, 3) := by decide +kernel
theorem dX9_isAhead_32 : decode cX9_isAhead 32 = .ok (.iload_n 2, 1) := by decide +kernel
theorem dX9_isAhead_33 : decode cX9_isAhead 33 = .ok (.iaload, 1) := by decide +kernel
theorem dX9_isAhead_34 : decode cX9_isAhead 34 = .ok (.if_icmp .gt 7, 3) := by decide +kernel
theorem dX9_isAhead_37 : decode cX9_isAhead 37 = .ok (.iconst 1, 1) := by decide +kernel
theorem dX9_isAhead_38 : decode cX9_isAhead 38 = .ok (.goto 4, 3) := by decide +kernel
theorem dX9_isAhead_41 : decode cX9_isAhead 41 = .ok (.iconst 0, 1) := by decide +kernel
theorem dX9_isAhead_42 : decode cX9_isAhead 42 = .ok (.if_icmp .eq 5, 3) := by decide +kernel
theorem dX9_isAhead_45 : decode cX9_isAhead 45 = .ok (.iload_n 3, 1) := by decide +kernel
theorem dX9_isAhead_46 : decode cX9_isAhead 46 = .ok (.ireturn, 1) := by decide +kernel
theorem dX9_isAhead_47 : decode cX9_isAhead 47 = .ok (.iload_n 3, 1) := by decide +kernel
theorem dX9_isAhead_48 : decode cX9_isAhead 48 = .ok (.ifCond .eq 19, 3) := by decide +kernel
theorem dX9_isAhead_51 : decode cX9_isAhead 51 = .ok (.aload_n 0, 1) := by decide +kernel
theorem dX9_isAhead_52 : decode cX9_isAhead 52 = .ok (.getfield 25, 3) := by decide +kernel
theorem dX9_isAhead_55 : decode cX9_isAhead 55 = .ok (.iload_n 1, 1) := by decide +kernel
theorem dX9_isAhead_56 : decode cX9_isAhead 56 = .ok (.iaload, 1) := by decide +kernel
theorem dX9_isAhead_57 : decode cX9_isAhead 57 = .ok (.aload_n 0, 1) := by decide +kernel
theorem dX9_isAhead_58 : decode cX9_isAhead 58 = .ok (.getfield 25, 3) := by decide +kernel
theorem dX9_isAhead_61 : decode cX9_isAhead 61 = .ok (.iload_n 2, 1) := by decide +kernel
theorem dX9_isAhead_62 : decode cX9_isAhead 62 = .ok (.iaload, 1) := by decide +kernel
theorem dX9_isAhead_63 : decode cX9_isAhead 63 = .ok (.isub, 1) := by decide +kernel
theorem dX9_isAhead_64 : decode cX9_isAhead 64 = .ok (.goto 16, 3) := by decide +kernel
theorem dX9_isAhead_67 : decode cX9_isAhead 67 = .ok (.aload_n 0, 1) := by decide +kernel
theorem dX9_isAhead_68 : decode cX9_isAhead 68 = .ok (.getfield 28, 3) := by decide +kernel
theorem dX9_isAhead_71 : decode cX9_isAhead 71 = .ok (.iload_n 2, 1) := by decide +kernel
theorem dX9_isAhead_72 : decode cX9_isAhead 72 = .ok (.iaload, 1) := by decide +kernel
theorem dX9_isAhead_73 : decode cX9_isAhead 73 = .ok (.aload_n 0, 1) := by decide +kernel
theorem dX9_isAhead_74 : decode cX9_isAhead 74 = .ok (.getfield 28, 3) := by decide +kernel
theorem dX9_isAhead_77 : decode cX9_isAhead 77 = .ok (.iload_n 1, 1) := by decide +kernel
theorem dX9_isAhead_78 : decode cX9_isAhead 78 = .ok (.iaload, 1) := by decide +kernel
theorem dX9_isAhead_79 : decode cX9_isAhead 79 = .ok (.isub, 1) := by decide +kernel
theorem dX9_isAhead_80 : decode cX9_isAhead 80 = .ok (.istore 4, 2) := by decide +kernel
theorem dX9_isAhead_82 : decode cX9_isAhead 82 = .ok (.iload 4, 2) := by decide +kernel
theorem dX9_isAhead_84 : decode cX9_isAhead 84 = .ok (.ifCond .lt 13, 3) := by decide +kernel
theorem dX9_isAhead_87 : decode cX9_isAhead 87 = .ok (.iload 4, 2) := by decide +kernel
theorem dX9_isAhead_89 : decode cX9_isAhead 89 = .ok (.ifCond .ne 12, 3) := by decide +kernel
theorem dX9_isAhead_92 : decode cX9_isAhead 92 = .ok (.iload_n 1, 1) := by decide +kernel
theorem dX9_isAhead_93 : decode cX9_isAhead 93 = .ok (.iload_n 2, 1) := by decide +kernel
theorem dX9_isAhead_94 : decode cX9_isAhead 94 = .ok (.if_icmp .ge 7, 3) := by decide +kernel
theorem dX9_isAhead_97 : decode cX9_isAhead 97 = .ok (.iconst 1, 1) := by decide +kernel
theorem dX9_isAhead_98 : decode cX9_isAhead 98 = .ok (.goto 4, 3) := by decide +kernel
theorem dX9_isAhead_101 : decode cX9_isAhead 101 = .ok (.iconst 0, 1) := by decide +kernel
theorem dX9_isAhead_102 : decode cX9_isAhead 102 = .ok (.ireturn, 1) := by decide +kernel
theorem dX9_byRule_0 : decode cX9_byRule 0 = .ok (.iconst 0, 1) := by decide +kernel
theorem dX9_byRule_1 : decode cX9_byRule 1 = .ok (.istore_n 2, 1) := by decide +kernel
theorem dX9_byRule_2 : decode cX9_byRule 2 = .ok (.iload_n 2, 1) := by decide +kernel
theorem dX9_byRule_3 : decode cX9_byRule 3 = .ok (.aload_n 0, 1) := by decide +kernel
theorem dX9_byRule_4 : decode cX9_byRule 4 = .ok (.getfield 22, 3) := by decide +kernel
theorem dX9_byRule_7 : decode cX9_byRule 7 = .ok (.iconst 0, 1) := by decide +kernel
theorem dX9_byRule_8 : decode cX9_byRule 8 = .ok (.iaload, 1) := by decide +kernel
theorem dX9_byRule_9 : decode cX9_byRule 9 = .ok (.if_icmp .ge 46, 3) := by decide +kernel
theorem dX9_byRule_12 : decode cX9_byRule 12 = .ok (.iload_n 2, 1) := by decide +kernel
theorem dX9_byRule_13 : decode cX9_byRule 13 = .ok (.istore_n 3, 1) := by decide +kernel
theorem dX9_byRule_14 : decode cX9_byRule 14 = .ok (.iload_n 3, 1) := by decide +kernel
theorem dX9_byRule_15 : decode cX9_byRule 15 = .ok (.ifCond .le 30, 3) := by decide +kernel
theorem dX9_byRule_18 : decode cX9_byRule 18 = .ok (.aload_n 0, 1) := by decide +kernel
theorem dX9_byRule_19 : decode cX9_byRule 19 = .ok (.iload_n 2, 1) := by decide +kernel
theorem dX9_byRule_20 : decode cX9_byRule 20 = .ok (.aload_n 1, 1) := by decide +kernel
theorem dX9_byRule_21 : decode cX9_byRule 21 = .ok (.iload_n 3, 1) := by decide +kernel
theorem dX9_byRule_22 : decode cX9_byRule 22 = .ok (.iconst 1, 1) := by decide +kernel
theorem dX9_byRule_23 : decode cX9_byRule 23 = .ok (.isub, 1) := by decide +kernel
theorem dX9_byRule_24 : decode cX9_byRule 24 = .ok (.iaload, 1) := by decide +kernel
theorem dX9_byRule_25 : decode cX9_byRule 25 = .ok (.invokevirtual 155, 3) := by decide +kernel
theorem dX9_byRule_28 : decode cX9_byRule 28 = .ok (.ifCond .eq 17, 3) := by decide +kernel
theorem dX9_byRule_31 : decode cX9_byRule 31 = .ok (.aload_n 1, 1) := by decide +kernel
theorem dX9_byRule_32 : decode cX9_byRule 32 = .ok (.iload_n 3, 1) := by decide +kernel
theorem dX9_byRule_33 : decode cX9_byRule 33 = .ok (.aload_n 1, 1) := by decide +kernel
theorem dX9_byRule_34 : decode cX9_byRule 34 = .ok (.iload_n 3, 1) := by decide +kernel
theorem dX9_byRule_35 : decode cX9_byRule 35 = .ok (.iconst 1, 1) := by decide +kernel
theorem dX9_byRule_36 : decode cX9_byRule 36 = .ok (.isub, 1) := by decide +kernel
theorem dX9_byRule_37 : decode cX9_byRule 37 = .ok (.iaload, 1) := by decide +kernel
theorem dX9_byRule_38 : decode cX9_byRule 38 = .ok (.iastore, 1) := by decide +kernel
theorem dX9_byRule_39 : decode cX9_byRule 39 = .ok (.iinc 3 (-1), 3) := by decide +kernel
theorem dX9_byRule_42 : decode cX9_byRule 42 = .ok (.goto (-28), 3) := by decide +kernel
theorem dX9_byRule_45 : decode cX9_byRule 45 = .ok (.aload_n 1, 1) := by decide +kernel
theorem dX9_byRule_46 : decode cX9_byRule 46 = .ok (.iload_n 3, 1) := by decide +kernel
theorem dX9_byRule_47 : decode cX9_byRule 47 = .ok (.iload_n 2, 1) := by decide +kernel
theorem dX9_byRule_48 : decode cX9_byRule 48 = .ok (.iastore, 1) := by decide +kernel
theorem dX9_byRule_49 : decode cX9_byRule 49 = .ok (.iinc 2 1, 3) := by decide +kernel
theorem dX9_byRule_52 : decode cX9_byRule 52 = .ok (.goto (-50), 3) := by decide +kernel
theorem dX9_byRule_55 : decode cX9_byRule 55 = .ok (.return_, 1) := by decide +kernel
theorem dX9_rule_0 : decode cX9_rule 0 = .ok (.aload_n 0, 1) := by decide +kernel
theorem dX9_rule_1 : decode cX9_rule 1 = .ok (.invokevirtual 132, 3) := by decide +kernel
theorem dX9_rule_4 : decode cX9_rule 4 = .ok (.aload_n 0, 1) := by decide +kernel
theorem dX9_rule_5 : decode cX9_rule 5 = .ok (.aload_n 0, 1) := by decide +kernel
theorem dX9_rule_6 : decode cX9_rule 6 = .ok (.getfield 37, 3) := by decide +kernel
theorem dX9_rule_9 : decode cX9_rule 9 = .ok (.invokevirtual 159, 3) := by decide +kernel
theorem dX9_rule_12 : decode cX9_rule 12 = .ok (.aload_n 0, 1) := by decide +kernel
theorem dX9_rule_13 : decode cX9_rule 13 = .ok (.aload_n 0, 1) := by decide +kernel
theorem dX9_rule_14 : decode cX9_rule 14 = .ok (.getfield 37, 3) := by decide +kernel
theorem dX9_rule_17 : decode cX9_rule 17 = .ok (.iconst 1, 1) := by decide +kernel
theorem dX9_rule_18 : decode cX9_rule 18 = .ok (.iconst 0, 1) := by decide +kernel
theorem dX9_rule_19 : decode cX9_rule 19 = .ok (.invokevirtual 163, 3) := by decide +kernel
theorem dX9_rule_22 : decode cX9_rule 22 = .ok (.ireturn, 1) := by decide +kernel
theorem dX9_use_0 : decode cX9_use 0 = .ok (.aload_n 0, 1) := by decide +kernel
theorem dX9_use_1 : decode cX9_use 1 = .ok (.getfield 167, 3) := by decide +kernel
theorem dX9_use_4 : decode cX9_use 4 = .ok (.ifCond .eq 10, 3) := by decide +kernel
theorem dX9_use_7 : decode cX9_use 7 = .ok (.aload_n 0, 1) := by decide +kernel
theorem dX9_use_8 : decode cX9_use 8 = .ok (.getfield 124, 3) := by decide +kernel
theorem dX9_use_11 : decode cX9_use 11 = .ok (.ifCond .ne 6, 3) := by decide +kernel
theorem dX9_use_14 : decode cX9_use 14 = .ok (.bipush (-5), 2) := by decide +kernel
theorem dX9_use_16 : decode cX9_use 16 = .ok (.ireturn, 1) := by decide +kernel
theorem dX9_use_17 : decode cX9_use 17 = .ok (.aload_n 0, 1) := by decide +kernel
theorem dX9_use_18 : decode cX9_use 18 = .ok (.invokevirtual 132, 3) := by decide +kernel
theorem dX9_use_21 : decode cX9_use 21 = .ok (.iconst 0, 1) := by decide +kernel
theorem dX9_use_22 : decode cX9_use 22 = .ok (.istore_n 1, 1) := by decide +kernel
theorem dX9_use_23 : decode cX9_use 23 = .ok (.iload_n 1, 1) := by decide +kernel
theorem dX9_use_24 : decode cX9_use 24 = .ok (.aload_n 0, 1) := by decide +kernel
theorem dX9_use_25 : decode cX9_use 25 = .ok (.getfield 22, 3) := by decide +kernel
theorem dX9_use_28 : decode cX9_use 28 = .ok (.iconst 0, 1) := by decide +kernel
theorem dX9_use_29 : decode cX9_use 29 = .ok (.iaload, 1) := by decide +kernel
theorem dX9_use_30 : decode cX9_use 30 = .ok (.if_icmp .ge 21, 3) := by decide +kernel
theorem dX9_use_33 : decode cX9_use 33 = .ok (.aload_n 0, 1) := by decide +kernel
theorem dX9_use_34 : decode cX9_use 34 = .ok (.getfield 37, 3) := by decide +kernel
theorem dX9_use_37 : decode cX9_use 37 = .ok (.iload_n 1, 1) := by decide +kernel
theorem dX9_use_38 : decode cX9_use 38 = .ok (.aload_n 0, 1) := by decide +kernel
theorem dX9_use_39 : decode cX9_use 39 = .ok (.getfield 40, 3) := by decide +kernel
theorem dX9_use_42 : decode cX9_use 42 = .ok (.iload_n 1, 1) := by decide +kernel
theorem dX9_use_43 : decode cX9_use 43 = .ok (.iaload, 1) := by decide +kernel
theorem dX9_use_44 : decode cX9_use 44 = .ok (.iastore, 1) := by decide +kernel
theorem dX9_use_45 : decode cX9_use 45 = .ok (.iinc 1 1, 3) := by decide +kernel
theorem dX9_use_48 : decode cX9_use 48 = .ok (.goto (-25), 3) := by decide +kernel
theorem dX9_use_51 : decode cX9_use 51 = .ok (.iconst 1, 1) := by decide +kernel
theorem dX9_use_52 : decode cX9_use 52 = .ok (.ireturn, 1) := by decide +kernel
theorem dX9_turn_0 : decode cX9_turn 0 = .ok (.aload_n 0, 1) := by decide +kernel
theorem dX9_turn_1 : decode cX9_turn 1 = .ok (.invokevirtual 132, 3) := by decide +kernel
theorem dX9_turn_4 : decode cX9_turn 4 = .ok (.aload_n 0, 1) := by decide +kernel
theorem dX9_turn_5 : decode cX9_turn 5 = .ok (.getfield 22, 3) := by decide +kernel
theorem dX9_turn_8 : decode cX9_turn 8 = .ok (.iconst 0, 1) := by decide +kernel
theorem dX9_turn_9 : decode cX9_turn 9 = .ok (.iaload, 1) := by decide +kernel
theorem dX9_turn_10 : decode cX9_turn 10 = .ok (.istore_n 1, 1) := by decide +kernel
theorem dX9_turn_11 : decode cX9_turn 11 = .ok (.iconst 0, 1) := by decide +kernel
theorem dX9_turn_12 : decode cX9_turn 12 = .ok (.istore_n 2, 1) := by decide +kernel
theorem dX9_turn_13 : decode cX9_turn 13 = .ok (.iload_n 2, 1) := by decide +kernel
theorem dX9_turn_14 : decode cX9_turn 14 = .ok (.iload_n 1, 1) := by decide +kernel
theorem dX9_turn_15 : decode cX9_turn 15 = .ok (.if_icmp .ge 63, 3) := by decide +kernel
theorem dX9_turn_18 : decode cX9_turn 18 = .ok (.aload_n 0, 1) := by decide +kernel
theorem dX9_turn_19 : decode cX9_turn 19 = .ok (.getfield 25, 3) := by decide +kernel
theorem dX9_turn_22 : decode cX9_turn 22 = .ok (.iload_n 2, 1) := by decide +kernel
theorem dX9_turn_23 : decode cX9_turn 23 = .ok (.iaload, 1) := by decide +kernel
theorem dX9_turn_24 : decode cX9_turn 24 = .ok (.istore_n 3, 1) := by decide +kernel
theorem dX9_turn_25 : decode cX9_turn 25 = .ok (.aload_n 0, 1) := by decide +kernel
theorem dX9_turn_26 : decode cX9_turn 26 = .ok (.getfield 25, 3) := by decide +kernel
theorem dX9_turn_29 : decode cX9_turn 29 = .ok (.iload_n 2, 1) := by decide +kernel
theorem dX9_turn_30 : decode cX9_turn 30 = .ok (.aload_n 0, 1) := by decide +kernel
theorem dX9_turn_31 : decode cX9_turn 31 = .ok (.getfield 28, 3) := by decide +kernel
theorem dX9_turn_34 : decode cX9_turn 34 = .ok (.iload_n 2, 1) := by decide +kernel
theorem dX9_turn_35 : decode cX9_turn 35 = .ok (.iaload, 1) := by decide +kernel
theorem dX9_turn_36 : decode cX9_turn 36 = .ok (.iastore, 1) := by decide +kernel
theorem dX9_turn_37 : decode cX9_turn 37 = .ok (.aload_n 0, 1) := by decide +kernel
theorem dX9_turn_38 : decode cX9_turn 38 = .ok (.getfield 28, 3) := by decide +kernel
theorem dX9_turn_41 : decode cX9_turn 41 = .ok (.iload_n 2, 1) := by decide +kernel
theorem dX9_turn_42 : decode cX9_turn 42 = .ok (.iload_n 3, 1) := by decide +kernel
theorem dX9_turn_43 : decode cX9_turn 43 = .ok (.iastore, 1) := by decide +kernel
theorem dX9_turn_44 : decode cX9_turn 44 = .ok (.aload_n 0, 1) := by decide +kernel
theorem dX9_turn_45 : decode cX9_turn 45 = .ok (.getfield 31, 3) := by decide +kernel
theorem dX9_turn_48 : decode cX9_turn 48 = .ok (.iload_n 2, 1) := by decide +kernel
theorem dX9_turn_49 : decode cX9_turn 49 = .ok (.iaload, 1) := by decide +kernel
theorem dX9_turn_50 : decode cX9_turn 50 = .ok (.istore 4, 2) := by decide +kernel
theorem dX9_turn_52 : decode cX9_turn 52 = .ok (.aload_n 0, 1) := by decide +kernel
theorem dX9_turn_53 : decode cX9_turn 53 = .ok (.getfield 31, 3) := by decide +kernel
theorem dX9_turn_56 : decode cX9_turn 56 = .ok (.iload_n 2, 1) := by decide +kernel
theorem dX9_turn_57 : decode cX9_turn 57 = .ok (.aload_n 0, 1) := by decide +kernel
theorem dX9_turn_58 : decode cX9_turn 58 = .ok (.getfield 34, 3) := by decide +kernel
theorem dX9_turn_61 : decode cX9_turn 61 = .ok (.iload_n 2, 1) := by decide +kernel
theorem dX9_turn_62 : decode cX9_turn 62 = .ok (.iaload, 1) := by decide +kernel
theorem dX9_turn_63 : decode cX9_turn 63 = .ok (.iastore, 1) := by decide +kernel
theorem dX9_turn_64 : decode cX9_turn 64 = .ok (.aload_n 0, 1) := by decide +kernel
theorem dX9_turn_65 : decode cX9_turn 65 = .ok (.getfield 34, 3) := by decide +kernel
theorem dX9_turn_68 : decode cX9_turn 68 = .ok (.iload_n 2, 1) := by decide +kernel
theorem dX9_turn_69 : decode cX9_turn 69 = .ok (.iload 4, 2) := by decide +kernel
theorem dX9_turn_71 : decode cX9_turn 71 = .ok (.iastore, 1) := by decide +kernel
theorem dX9_turn_72 : decode cX9_turn 72 = .ok (.iinc 2 1, 3) := by decide +kernel
theorem dX9_turn_75 : decode cX9_turn 75 = .ok (.goto (-62), 3) := by decide +kernel
theorem dX9_turn_78 : decode cX9_turn 78 = .ok (.iconst 0, 1) := by decide +kernel
theorem dX9_turn_79 : decode cX9_turn 79 = .ok (.istore_n 2, 1) := by decide +kernel
theorem dX9_turn_80 : decode cX9_turn 80 = .ok (.iconst 2, 1) := by decide +kernel
theorem dX9_turn_81 : decode cX9_turn 81 = .ok (.iload_n 2, 1) := by decide +kernel
theorem dX9_turn_82 : decode cX9_turn 82 = .ok (.imul, 1) := by decide +kernel
theorem dX9_turn_83 : decode cX9_turn 83 = .ok (.iload_n 1, 1) := by decide +kernel
theorem dX9_turn_84 : decode cX9_turn 84 = .ok (.iconst 1, 1) := by decide +kernel
theorem dX9_turn_85 : decode cX9_turn 85 = .ok (.isub, 1) := by decide +kernel
theorem dX9_turn_86 : decode cX9_turn 86 = .ok (.if_icmp .ge 43, 3) := by decide +kernel
theorem dX9_turn_89 : decode cX9_turn 89 = .ok (.aload_n 0, 1) := by decide +kernel
theorem dX9_turn_90 : decode cX9_turn 90 = .ok (.getfield 37, 3) := by decide +kernel
theorem dX9_turn_93 : decode cX9_turn 93 = .ok (.iload_n 2, 1) := by decide +kernel
theorem dX9_turn_94 : decode cX9_turn 94 = .ok (.iaload, 1) := by decide +kernel
theorem dX9_turn_95 : decode cX9_turn 95 = .ok (.istore_n 3, 1) := by decide +kernel
theorem dX9_turn_96 : decode cX9_turn 96 = .ok (.aload_n 0, 1) := by decide +kernel
theorem dX9_turn_97 : decode cX9_turn 97 = .ok (.getfield 37, 3) := by decide +kernel
theorem dX9_turn_100 : decode cX9_turn 100 = .ok (.iload_n 2, 1) := by decide +kernel
theorem dX9_turn_101 : decode cX9_turn 101 = .ok (.aload_n 0, 1) := by decide +kernel
theorem dX9_turn_102 : decode cX9_turn 102 = .ok (.getfield 37, 3) := by decide +kernel
theorem dX9_turn_105 : decode cX9_turn 105 = .ok (.iload_n 1, 1) := by decide +kernel
theorem dX9_turn_106 : decode cX9_turn 106 = .ok (.iconst 1, 1) := by decide +kernel
theorem dX9_turn_107 : decode cX9_turn 107 = .ok (.isub, 1) := by decide +kernel
theorem dX9_turn_108 : decode cX9_turn 108 = .ok (.iload_n 2, 1) := by decide +kernel
theorem dX9_turn_109 : decode cX9_turn 109 = .ok (.isub, 1) := by decide +kernel
theorem dX9_turn_110 : decode cX9_turn 110 = .ok (.iaload, 1) := by decide +kernel
theorem dX9_turn_111 : decode cX9_turn 111 = .ok (.iastore, 1) := by decide +kernel
theorem dX9_turn_112 : decode cX9_turn 112 = .ok (.aload_n 0, 1) := by decide +kernel
theorem dX9_turn_113 : decode cX9_turn 113 = .ok (.getfield 37, 3) := by decide +kernel
theorem dX9_turn_116 : decode cX9_turn 116 = .ok (.iload_n 1, 1) := by decide +kernel
theorem dX9_turn_117 : decode cX9_turn 117 = .ok (.iconst 1, 1) := by decide +kernel
theorem dX9_turn_118 : decode cX9_turn 118 = .ok (.isub, 1) := by decide +kernel
theorem dX9_turn_119 : decode cX9_turn 119 = .ok (.iload_n 2, 1) := by decide +kernel
theorem dX9_turn_120 : decode cX9_turn 120 = .ok (.isub, 1) := by decide +kernel
theorem dX9_turn_121 : decode cX9_turn 121 = .ok (.iload_n 3, 1) := by decide +kernel
theorem dX9_turn_122 : decode cX9_turn 122 = .ok (.iastore, 1) := by decide +kernel
theorem dX9_turn_123 : decode cX9_turn 123 = .ok (.iinc 2 1, 3) := by decide +kernel
theorem dX9_turn_126 : decode cX9_turn 126 = .ok (.goto (-46), 3) := by decide +kernel
theorem dX9_turn_129 : decode cX9_turn 129 = .ok (.aload_n 0, 1) := by decide +kernel
theorem dX9_turn_130 : decode cX9_turn 130 = .ok (.iconst 0, 1) := by decide +kernel
theorem dX9_turn_131 : decode cX9_turn 131 = .ok (.putfield 124, 3) := by decide +kernel
theorem dX9_turn_134 : decode cX9_turn 134 = .ok (.iconst 1, 1) := by decide +kernel
theorem dX9_turn_135 : decode cX9_turn 135 = .ok (.ireturn, 1) := by decide +kernel
theorem dX9_isLaw_0 : decode cX9_isLaw 0 = .ok (.iload_n 0, 1) := by decide +kernel
theorem dX9_isLaw_1 : decode cX9_isLaw 1 = .ok (.i2l, 1) := by decide +kernel
theorem dX9_isLaw_2 : decode cX9_isLaw 2 = .ok (.lconst 0, 1) := by decide +kernel
theorem dX9_isLaw_3 : decode cX9_isLaw 3 = .ok (.lconst 1, 1) := by decide +kernel
theorem dX9_isLaw_4 : decode cX9_isLaw 4 = .ok (.invokestatic 98, 3) := by decide +kernel
theorem dX9_isLaw_7 : decode cX9_isLaw 7 = .ok (.ifCond .eq 7, 3) := by decide +kernel
theorem dX9_isLaw_10 : decode cX9_isLaw 10 = .ok (.iload_n 1, 1) := by decide +kernel
theorem dX9_isLaw_11 : decode cX9_isLaw 11 = .ok (.ifCond .eq 20, 3) := by decide +kernel
theorem dX9_isLaw_14 : decode cX9_isLaw 14 = .ok (.iload_n 0, 1) := by decide +kernel
theorem dX9_isLaw_15 : decode cX9_isLaw 15 = .ok (.iconst 2, 1) := by decide +kernel
theorem dX9_isLaw_16 : decode cX9_isLaw 16 = .ok (.if_icmp .ne 19, 3) := by decide +kernel
theorem dX9_isLaw_19 : decode cX9_isLaw 19 = .ok (.iload_n 1, 1) := by decide +kernel
theorem dX9_isLaw_20 : decode cX9_isLaw 20 = .ok (.i2l, 1) := by decide +kernel
theorem dX9_isLaw_21 : decode cX9_isLaw 21 = .ok (.lconst 1, 1) := by decide +kernel
theorem dX9_isLaw_22 : decode cX9_isLaw 22 = .ok (.ldc2_w 170, 3) := by decide +kernel
theorem dX9_isLaw_25 : decode cX9_isLaw 25 = .ok (.invokestatic 98, 3) := by decide +kernel
theorem dX9_isLaw_28 : decode cX9_isLaw 28 = .ok (.ifCond .eq 7, 3) := by decide +kernel
theorem dX9_isLaw_31 : decode cX9_isLaw 31 = .ok (.iconst 1, 1) := by decide +kernel
theorem dX9_isLaw_32 : decode cX9_isLaw 32 = .ok (.goto 4, 3) := by decide +kernel
theorem dX9_isLaw_35 : decode cX9_isLaw 35 = .ok (.iconst 0, 1) := by decide +kernel
theorem dX9_isLaw_36 : decode cX9_isLaw 36 = .ok (.ireturn, 1) := by decide +kernel
theorem dX9_endOf_0 : decode cX9_endOf 0 = .ok (.iconst 0, 1) := by decide +kernel
theorem dX9_endOf_1 : decode cX9_endOf 1 = .ok (.istore 4, 2) := by decide +kernel
theorem dX9_endOf_3 : decode cX9_endOf 3 = .ok (.iconst 0, 1) := by decide +kernel
theorem dX9_endOf_4 : decode cX9_endOf 4 = .ok (.istore 5, 2) := by decide +kernel
theorem dX9_endOf_6 : decode cX9_endOf 6 = .ok (.iconst 0, 1) := by decide +kernel
theorem dX9_endOf_7 : decode cX9_endOf 7 = .ok (.istore 6, 2) := by decide +kernel
theorem dX9_endOf_9 : decode cX9_endOf 9 = .ok (.iload 6, 2) := by decide +kernel
theorem dX9_endOf_11 : decode cX9_endOf 11 = .ok (.aload_n 0, 1) := by decide +kernel
theorem dX9_endOf_12 : decode cX9_endOf 12 = .ok (.getfield 22, 3) := by decide +kernel
theorem dX9_endOf_15 : decode cX9_endOf 15 = .ok (.iconst 0, 1) := by decide +kernel
theorem dX9_endOf_16 : decode cX9_endOf 16 = .ok (.iaload, 1) := by decide +kernel
theorem dX9_endOf_17 : decode cX9_endOf 17 = .ok (.if_icmp .ge 149, 3) := by decide +kernel
theorem dX9_endOf_20 : decode cX9_endOf 20 = .ok (.aload_n 1, 1) := by decide +kernel
theorem dX9_endOf_21 : decode cX9_endOf 21 = .ok (.iload 6, 2) := by decide +kernel
theorem dX9_endOf_23 : decode cX9_endOf 23 = .ok (.iaload, 1) := by decide +kernel
theorem dX9_endOf_24 : decode cX9_endOf 24 = .ok (.istore 7, 2) := by decide +kernel
theorem dX9_endOf_26 : decode cX9_endOf 26 = .ok (.iload_n 2, 1) := by decide +kernel
theorem dX9_endOf_27 : decode cX9_endOf 27 = .ok (.ifCond .ne 31, 3) := by decide +kernel
theorem dX9_endOf_30 : decode cX9_endOf 30 = .ok (.iload 5, 2) := by decide +kernel
theorem dX9_endOf_32 : decode cX9_endOf 32 = .ok (.aload_n 0, 1) := by decide +kernel
theorem dX9_endOf_33 : decode cX9_endOf 33 = .ok (.getfield 25, 3) := by decide +kernel
theorem dX9_endOf_36 : decode cX9_endOf 36 = .ok (.iload 7, 2) := by decide +kernel
theorem dX9_endOf_38 : decode cX9_endOf 38 = .ok (.iaload, 1) := by decide +kernel
theorem dX9_endOf_39 : decode cX9_endOf 39 = .ok (.isub, 1) := by decide +kernel
theorem dX9_endOf_40 : decode cX9_endOf 40 = .ok (.iload 4, 2) := by decide +kernel
theorem dX9_endOf_42 : decode cX9_endOf 42 = .ok (.if_icmp .le 16, 3) := by decide +kernel
theorem dX9_endOf_45 : decode cX9_endOf 45 = .ok (.iload 5, 2) := by decide +kernel
theorem dX9_endOf_47 : decode cX9_endOf 47 = .ok (.aload_n 0, 1) := by decide +kernel
theorem dX9_endOf_48 : decode cX9_endOf 48 = .ok (.getfield 25, 3) := by decide +kernel
theorem dX9_endOf_51 : decode cX9_endOf 51 = .ok (.iload 7, 2) := by decide +kernel
theorem dX9_endOf_53 : decode cX9_endOf 53 = .ok (.iaload, 1) := by decide +kernel
theorem dX9_endOf_54 : decode cX9_endOf 54 = .ok (.isub, 1) := by decide +kernel
theorem dX9_endOf_55 : decode cX9_endOf 55 = .ok (.goto 5, 3) := by decide +kernel
theorem dX9_endOf_58 : decode cX9_endOf 58 = .ok (.iload 4, 2) := by decide +kernel
theorem dX9_endOf_60 : decode cX9_endOf 60 = .ok (.istore 8, 2) := by decide +kernel
theorem dX9_endOf_62 : decode cX9_endOf 62 = .ok (.iload 8, 2) := by decide +kernel
theorem dX9_endOf_64 : decode cX9_endOf 64 = .ok (.aload_n 0, 1) := by decide +kernel
theorem dX9_endOf_65 : decode cX9_endOf 65 = .ok (.getfield 25, 3) := by decide +kernel
theorem dX9_endOf_68 : decode cX9_endOf 68 = .ok (.iload 7, 2) := by decide +kernel
theorem dX9_endOf_70 : decode cX9_endOf 70 = .ok (.iaload, 1) := by decide +kernel
theorem dX9_endOf_71 : decode cX9_endOf 71 = .ok (.iadd, 1) := by decide +kernel
theorem dX9_endOf_72 : decode cX9_endOf 72 = .ok (.istore 9, 2) := by decide +kernel
theorem dX9_endOf_74 : decode cX9_endOf 74 = .ok (.iload 9, 2) := by decide +kernel
theorem dX9_endOf_76 : decode cX9_endOf 76 = .ok (.iload 5, 2) := by decide +kernel
theorem dX9_endOf_78 : decode cX9_endOf 78 = .ok (.if_icmp .le 8, 3) := by decide +kernel
theorem dX9_endOf_81 : decode cX9_endOf 81 = .ok (.iload 9, 2) := by decide +kernel
theorem dX9_endOf_83 : decode cX9_endOf 83 = .ok (.goto 5, 3) := by decide +kernel
theorem dX9_endOf_86 : decode cX9_endOf 86 = .ok (.iload 5, 2) := by decide +kernel
theorem dX9_endOf_88 : decode cX9_endOf 88 = .ok (.istore 10, 2) := by decide +kernel
theorem dX9_endOf_90 : decode cX9_endOf 90 = .ok (.aload_n 0, 1) := by decide +kernel
theorem dX9_endOf_91 : decode cX9_endOf 91 = .ok (.getfield 49, 3) := by decide +kernel
theorem dX9_endOf_94 : decode cX9_endOf 94 = .ok (.iload 6, 2) := by decide +kernel
theorem dX9_endOf_96 : decode cX9_endOf 96 = .ok (.iload 8, 2) := by decide +kernel
theorem dX9_endOf_98 : decode cX9_endOf 98 = .ok (.iastore, 1) := by decide +kernel
theorem dX9_endOf_99 : decode cX9_endOf 99 = .ok (.aload_n 0, 1) := by decide +kernel
theorem dX9_endOf_100 : decode cX9_endOf 100 = .ok (.getfield 52, 3) := by decide +kernel
theorem dX9_endOf_103 : decode cX9_endOf 103 = .ok (.iload 6, 2) := by decide +kernel
theorem dX9_endOf_105 : decode cX9_endOf 105 = .ok (.iload 10, 2) := by decide +kernel
theorem dX9_endOf_107 : decode cX9_endOf 107 = .ok (.iastore, 1) := by decide +kernel
theorem dX9_endOf_108 : decode cX9_endOf 108 = .ok (.iload 10, 2) := by decide +kernel
theorem dX9_endOf_110 : decode cX9_endOf 110 = .ok (.aload_n 0, 1) := by decide +kernel
theorem dX9_endOf_111 : decode cX9_endOf 111 = .ok (.getfield 28, 3) := by decide +kernel
theorem dX9_endOf_114 : decode cX9_endOf 114 = .ok (.iload 7, 2) := by decide +kernel
theorem dX9_endOf_116 : decode cX9_endOf 116 = .ok (.iaload, 1) := by decide +kernel
theorem dX9_endOf_117 : decode cX9_endOf 117 = .ok (.iadd, 1) := by decide +kernel
theorem dX9_endOf_118 : decode cX9_endOf 118 = .ok (.istore 5, 2) := by decide +kernel
theorem dX9_endOf_120 : decode cX9_endOf 120 = .ok (.iload 9, 2) := by decide +kernel
theorem dX9_endOf_122 : decode cX9_endOf 122 = .ok (.istore 4, 2) := by decide +kernel
theorem dX9_endOf_124 : decode cX9_endOf 124 = .ok (.iload_n 2, 1) := by decide +kernel
theorem dX9_endOf_125 : decode cX9_endOf 125 = .ok (.iconst 2, 1) := by decide +kernel
theorem dX9_endOf_126 : decode cX9_endOf 126 = .ok (.if_icmp .ne 34, 3) := by decide +kernel
theorem dX9_endOf_129 : decode cX9_endOf 129 = .ok (.iload 6, 2) := by decide +kernel
theorem dX9_endOf_131 : decode cX9_endOf 131 = .ok (.iload_n 3, 1) := by decide +kernel
theorem dX9_endOf_132 : decode cX9_endOf 132 = .ok (.if_icmp .lt 28, 3) := by decide +kernel
theorem dX9_endOf_135 : decode cX9_endOf 135 = .ok (.aload_n 0, 1) := by decide +kernel
theorem dX9_endOf_136 : decode cX9_endOf 136 = .ok (.getfield 52, 3) := by decide +kernel
theorem dX9_endOf_139 : decode cX9_endOf 139 = .ok (.iload 6, 2) := by decide +kernel
theorem dX9_endOf_141 : decode cX9_endOf 141 = .ok (.iload_n 3, 1) := by decide +kernel
theorem dX9_endOf_142 : decode cX9_endOf 142 = .ok (.isub, 1) := by decide +kernel
theorem dX9_endOf_143 : decode cX9_endOf 143 = .ok (.iaload, 1) := by decide +kernel
theorem dX9_endOf_144 : decode cX9_endOf 144 = .ok (.iload 4, 2) := by decide +kernel
theorem dX9_endOf_146 : decode cX9_endOf 146 = .ok (.if_icmp .le 14, 3) := by decide +kernel
theorem dX9_endOf_149 : decode cX9_endOf 149 = .ok (.aload_n 0, 1) := by decide +kernel
theorem dX9_endOf_150 : decode cX9_endOf 150 = .ok (.getfield 52, 3) := by decide +kernel
theorem dX9_endOf_153 : decode cX9_endOf 153 = .ok (.iload 6, 2) := by decide +kernel
theorem dX9_endOf_155 : decode cX9_endOf 155 = .ok (.iload_n 3, 1) := by decide +kernel
theorem dX9_endOf_156 : decode cX9_endOf 156 = .ok (.isub, 1) := by decide +kernel
theorem dX9_endOf_157 : decode cX9_endOf 157 = .ok (.iaload, 1) := by decide +kernel
theorem dX9_endOf_158 : decode cX9_endOf 158 = .ok (.istore 4, 2) := by decide +kernel
theorem dX9_endOf_160 : decode cX9_endOf 160 = .ok (.iinc 6 1, 3) := by decide +kernel
theorem dX9_endOf_163 : decode cX9_endOf 163 = .ok (.goto (-154), 3) := by decide +kernel
theorem dX9_endOf_166 : decode cX9_endOf 166 = .ok (.iload 5, 2) := by decide +kernel
theorem dX9_endOf_168 : decode cX9_endOf 168 = .ok (.ireturn, 1) := by decide +kernel
theorem dX9_day_0 : decode cX9_day 0 = .ok (.iload_n 1, 1) := by decide +kernel
theorem dX9_day_1 : decode cX9_day 1 = .ok (.iload_n 2, 1) := by decide +kernel
theorem dX9_day_2 : decode cX9_day 2 = .ok (.invokestatic 172, 3) := by decide +kernel
theorem dX9_day_5 : decode cX9_day 5 = .ok (.ifCond .eq 16, 3) := by decide +kernel
theorem dX9_day_8 : decode cX9_day 8 = .ok (.aload_n 0, 1) := by decide +kernel
theorem dX9_day_9 : decode cX9_day 9 = .ok (.aload_n 0, 1) := by decide +kernel
theorem dX9_day_10 : decode cX9_day 10 = .ok (.getfield 37, 3) := by decide +kernel
theorem dX9_day_13 : decode cX9_day 13 = .ok (.iload_n 1, 1) := by decide +kernel
theorem dX9_day_14 : decode cX9_day 14 = .ok (.iload_n 2, 1) := by decide +kernel
theorem dX9_day_15 : decode cX9_day 15 = .ok (.invokevirtual 163, 3) := by decide +kernel
theorem dX9_day_18 : decode cX9_day 18 = .ok (.goto 5, 3) := by decide +kernel
theorem dX9_day_21 : decode cX9_day 21 = .ok (.bipush (-2), 2) := by decide +kernel
theorem dX9_day_23 : decode cX9_day 23 = .ok (.ireturn, 1) := by decide +kernel
theorem dX9_moment_0 : decode cX9_moment 0 = .ok (.iload_n 1, 1) := by decide +kernel
theorem dX9_moment_1 : decode cX9_moment 1 = .ok (.iload_n 2, 1) := by decide +kernel
theorem dX9_moment_2 : decode cX9_moment 2 = .ok (.invokestatic 172, 3) := by decide +kernel
theorem dX9_moment_5 : decode cX9_moment 5 = .ok (.ifCond .eq 24, 3) := by decide +kernel
theorem dX9_moment_8 : decode cX9_moment 8 = .ok (.aload_n 0, 1) := by decide +kernel
theorem dX9_moment_9 : decode cX9_moment 9 = .ok (.iload_n 3, 1) := by decide +kernel
theorem dX9_moment_10 : decode cX9_moment 10 = .ok (.invokevirtual 138, 3) := by decide +kernel
theorem dX9_moment_13 : decode cX9_moment 13 = .ok (.ifCond .eq 16, 3) := by decide +kernel
theorem dX9_moment_16 : decode cX9_moment 16 = .ok (.iload 4, 2) := by decide +kernel
theorem dX9_moment_18 : decode cX9_moment 18 = .ok (.i2l, 1) := by decide +kernel
theorem dX9_moment_19 : decode cX9_moment 19 = .ok (.lconst 0, 1) := by decide +kernel
theorem dX9_moment_20 : decode cX9_moment 20 = .ok (.ldc2_w 96, 3) := by decide +kernel
theorem dX9_moment_23 : decode cX9_moment 23 = .ok (.invokestatic 98, 3) := by decide +kernel
theorem dX9_moment_26 : decode cX9_moment 26 = .ok (.ifCond .ne 6, 3) := by decide +kernel
theorem dX9_moment_29 : decode cX9_moment 29 = .ok (.bipush (-2), 2) := by decide +kernel
theorem dX9_moment_31 : decode cX9_moment 31 = .ok (.ireturn, 1) := by decide +kernel
theorem dX9_moment_32 : decode cX9_moment 32 = .ok (.aload_n 0, 1) := by decide +kernel
theorem dX9_moment_33 : decode cX9_moment 33 = .ok (.aload_n 0, 1) := by decide +kernel
theorem dX9_moment_34 : decode cX9_moment 34 = .ok (.getfield 37, 3) := by decide +kernel
theorem dX9_moment_37 : decode cX9_moment 37 = .ok (.iload_n 1, 1) := by decide +kernel
theorem dX9_moment_38 : decode cX9_moment 38 = .ok (.iload_n 2, 1) := by decide +kernel
theorem dX9_moment_39 : decode cX9_moment 39 = .ok (.invokevirtual 163, 3) := by decide +kernel
theorem dX9_moment_42 : decode cX9_moment 42 = .ok (.istore 5, 2) := by decide +kernel
theorem dX9_moment_44 : decode cX9_moment 44 = .ok (.aload_n 0, 1) := by decide +kernel
theorem dX9_moment_45 : decode cX9_moment 45 = .ok (.getfield 37, 3) := by decide +kernel
theorem dX9_moment_48 : decode cX9_moment 48 = .ok (.iload_n 3, 1) := by decide +kernel
theorem dX9_moment_49 : decode cX9_moment 49 = .ok (.iaload, 1) := by decide +kernel
theorem dX9_moment_50 : decode cX9_moment 50 = .ok (.istore 6, 2) := by decide +kernel
theorem dX9_moment_52 : decode cX9_moment 52 = .ok (.iload 4, 2) := by decide +kernel
theorem dX9_moment_54 : decode cX9_moment 54 = .ok (.tableswitch 55 0 2 #[26, 33, 48], 26) := by decide +kernel
theorem dX9_moment_80 : decode cX9_moment 80 = .ok (.aload_n 0, 1) := by decide +kernel
theorem dX9_moment_81 : decode cX9_moment 81 = .ok (.getfield 49, 3) := by decide +kernel
theorem dX9_moment_84 : decode cX9_moment 84 = .ok (.iload_n 3, 1) := by decide +kernel
theorem dX9_moment_85 : decode cX9_moment 85 = .ok (.iaload, 1) := by decide +kernel
theorem dX9_moment_86 : decode cX9_moment 86 = .ok (.ireturn, 1) := by decide +kernel
theorem dX9_moment_87 : decode cX9_moment 87 = .ok (.aload_n 0, 1) := by decide +kernel
theorem dX9_moment_88 : decode cX9_moment 88 = .ok (.getfield 49, 3) := by decide +kernel
theorem dX9_moment_91 : decode cX9_moment 91 = .ok (.iload_n 3, 1) := by decide +kernel
theorem dX9_moment_92 : decode cX9_moment 92 = .ok (.iaload, 1) := by decide +kernel
theorem dX9_moment_93 : decode cX9_moment 93 = .ok (.aload_n 0, 1) := by decide +kernel
theorem dX9_moment_94 : decode cX9_moment 94 = .ok (.getfield 25, 3) := by decide +kernel
theorem dX9_moment_97 : decode cX9_moment 97 = .ok (.iload 6, 2) := by decide +kernel
theorem dX9_moment_99 : decode cX9_moment 99 = .ok (.iaload, 1) := by decide +kernel
theorem dX9_moment_100 : decode cX9_moment 100 = .ok (.iadd, 1) := by decide +kernel
theorem dX9_moment_101 : decode cX9_moment 101 = .ok (.ireturn, 1) := by decide +kernel
theorem dX9_moment_102 : decode cX9_moment 102 = .ok (.aload_n 0, 1) := by decide +kernel
theorem dX9_moment_103 : decode cX9_moment 103 = .ok (.getfield 52, 3) := by decide +kernel
theorem dX9_moment_106 : decode cX9_moment 106 = .ok (.iload_n 3, 1) := by decide +kernel
theorem dX9_moment_107 : decode cX9_moment 107 = .ok (.iaload, 1) := by decide +kernel
theorem dX9_moment_108 : decode cX9_moment 108 = .ok (.ireturn, 1) := by decide +kernel
theorem dX9_moment_109 : decode cX9_moment 109 = .ok (.aload_n 0, 1) := by decide +kernel
theorem dX9_moment_110 : decode cX9_moment 110 = .ok (.getfield 52, 3) := by decide +kernel
theorem dX9_moment_113 : decode cX9_moment 113 = .ok (.iload_n 3, 1) := by decide +kernel
theorem dX9_moment_114 : decode cX9_moment 114 = .ok (.iaload, 1) := by decide +kernel
theorem dX9_moment_115 : decode cX9_moment 115 = .ok (.aload_n 0, 1) := by decide +kernel
theorem dX9_moment_116 : decode cX9_moment 116 = .ok (.getfield 28, 3) := by decide +kernel
theorem dX9_moment_119 : decode cX9_moment 119 = .ok (.iload 6, 2) := by decide +kernel
theorem dX9_moment_121 : decode cX9_moment 121 = .ok (.iaload, 1) := by decide +kernel
theorem dX9_moment_122 : decode cX9_moment 122 = .ok (.iadd, 1) := by decide +kernel
theorem dX9_moment_123 : decode cX9_moment 123 = .ok (.ireturn, 1) := by decide +kernel
theorem dX9_allMix_0 : decode cX9_allMix 0 = .ok (.iconst 0, 1) := by decide +kernel
theorem dX9_allMix_1 : decode cX9_allMix 1 = .ok (.istore_n 1, 1) := by decide +kernel
theorem dX9_allMix_2 : decode cX9_allMix 2 = .ok (.iconst 0, 1) := by decide +kernel
theorem dX9_allMix_3 : decode cX9_allMix 3 = .ok (.istore_n 2, 1) := by decide +kernel
theorem dX9_allMix_4 : decode cX9_allMix 4 = .ok (.iload_n 2, 1) := by decide +kernel
theorem dX9_allMix_5 : decode cX9_allMix 5 = .ok (.aload_n 0, 1) := by decide +kernel
theorem dX9_allMix_6 : decode cX9_allMix 6 = .ok (.getfield 22, 3) := by decide +kernel
theorem dX9_allMix_9 : decode cX9_allMix 9 = .ok (.iconst 0, 1) := by decide +kernel
theorem dX9_allMix_10 : decode cX9_allMix 10 = .ok (.iaload, 1) := by decide +kernel
theorem dX9_allMix_11 : decode cX9_allMix 11 = .ok (.if_icmp .ge 18, 3) := by decide +kernel
theorem dX9_allMix_14 : decode cX9_allMix 14 = .ok (.iload_n 1, 1) := by decide +kernel
theorem dX9_allMix_15 : decode cX9_allMix 15 = .ok (.aload_n 0, 1) := by decide +kernel
theorem dX9_allMix_16 : decode cX9_allMix 16 = .ok (.getfield 25, 3) := by decide +kernel
theorem dX9_allMix_19 : decode cX9_allMix 19 = .ok (.iload_n 2, 1) := by decide +kernel
theorem dX9_allMix_20 : decode cX9_allMix 20 = .ok (.iaload, 1) := by decide +kernel
theorem dX9_allMix_21 : decode cX9_allMix 21 = .ok (.iadd, 1) := by decide +kernel
theorem dX9_allMix_22 : decode cX9_allMix 22 = .ok (.istore_n 1, 1) := by decide +kernel
theorem dX9_allMix_23 : decode cX9_allMix 23 = .ok (.iinc 2 1, 3) := by decide +kernel
theorem dX9_allMix_26 : decode cX9_allMix 26 = .ok (.goto (-22), 3) := by decide +kernel
theorem dX9_allMix_29 : decode cX9_allMix 29 = .ok (.iload_n 1, 1) := by decide +kernel
theorem dX9_allMix_30 : decode cX9_allMix 30 = .ok (.ireturn, 1) := by decide +kernel
theorem dX9_allBake_0 : decode cX9_allBake 0 = .ok (.iconst 0, 1) := by decide +kernel
theorem dX9_allBake_1 : decode cX9_allBake 1 = .ok (.istore_n 1, 1) := by decide +kernel
theorem dX9_allBake_2 : decode cX9_allBake 2 = .ok (.iconst 0, 1) := by decide +kernel
theorem dX9_allBake_3 : decode cX9_allBake 3 = .ok (.istore_n 2, 1) := by decide +kernel
theorem dX9_allBake_4 : decode cX9_allBake 4 = .ok (.iload_n 2, 1) := by decide +kernel
theorem dX9_allBake_5 : decode cX9_allBake 5 = .ok (.aload_n 0, 1) := by decide +kernel
theorem dX9_allBake_6 : decode cX9_allBake 6 = .ok (.getfield 22, 3) := by decide +kernel
theorem dX9_allBake_9 : decode cX9_allBake 9 = .ok (.iconst 0, 1) := by decide +kernel
theorem dX9_allBake_10 : decode cX9_allBake 10 = .ok (.iaload, 1) := by decide +kernel
theorem dX9_allBake_11 : decode cX9_allBake 11 = .ok (.if_icmp .ge 18, 3) := by decide +kernel
theorem dX9_allBake_14 : decode cX9_allBake 14 = .ok (.iload_n 1, 1) := by decide +kernel
theorem dX9_allBake_15 : decode cX9_allBake 15 = .ok (.aload_n 0, 1) := by decide +kernel
theorem dX9_allBake_16 : decode cX9_allBake 16 = .ok (.getfield 28, 3) := by decide +kernel
theorem dX9_allBake_19 : decode cX9_allBake 19 = .ok (.iload_n 2, 1) := by decide +kernel
theorem dX9_allBake_20 : decode cX9_allBake 20 = .ok (.iaload, 1) := by decide +kernel
theorem dX9_allBake_21 : decode cX9_allBake 21 = .ok (.iadd, 1) := by decide +kernel
theorem dX9_allBake_22 : decode cX9_allBake 22 = .ok (.istore_n 1, 1) := by decide +kernel
theorem dX9_allBake_23 : decode cX9_allBake 23 = .ok (.iinc 2 1, 3) := by decide +kernel
theorem dX9_allBake_26 : decode cX9_allBake 26 = .ok (.goto (-22), 3) := by decide +kernel
theorem dX9_allBake_29 : decode cX9_allBake 29 = .ok (.iload_n 1, 1) := by decide +kernel
theorem dX9_allBake_30 : decode cX9_allBake 30 = .ok (.ireturn, 1) := by decide +kernel
theorem dX9_idle_0 : decode cX9_idle 0 = .ok (.iload_n 1, 1) := by decide +kernel
theorem dX9_idle_1 : decode cX9_idle 1 = .ok (.iload_n 2, 1) := by decide +kernel
theorem dX9_idle_2 : decode cX9_idle 2 = .ok (.invokestatic 172, 3) := by decide +kernel
theorem dX9_idle_5 : decode cX9_idle 5 = .ok (.ifCond .eq 21, 3) := by decide +kernel
theorem dX9_idle_8 : decode cX9_idle 8 = .ok (.aload_n 0, 1) := by decide +kernel
theorem dX9_idle_9 : decode cX9_idle 9 = .ok (.aload_n 0, 1) := by decide +kernel
theorem dX9_idle_10 : decode cX9_idle 10 = .ok (.getfield 37, 3) := by decide +kernel
theorem dX9_idle_13 : decode cX9_idle 13 = .ok (.iload_n 1, 1) := by decide +kernel
theorem dX9_idle_14 : decode cX9_idle 14 = .ok (.iload_n 2, 1) := by decide +kernel
theorem dX9_idle_15 : decode cX9_idle 15 = .ok (.invokevirtual 163, 3) := by decide +kernel
theorem dX9_idle_18 : decode cX9_idle 18 = .ok (.aload_n 0, 1) := by decide +kernel
theorem dX9_idle_19 : decode cX9_idle 19 = .ok (.invokevirtual 175, 3) := by decide +kernel
theorem dX9_idle_22 : decode cX9_idle 22 = .ok (.isub, 1) := by decide +kernel
theorem dX9_idle_23 : decode cX9_idle 23 = .ok (.goto 5, 3) := by decide +kernel
theorem dX9_idle_26 : decode cX9_idle 26 = .ok (.bipush (-2), 2) := by decide +kernel
theorem dX9_idle_28 : decode cX9_idle 28 = .ok (.ireturn, 1) := by decide +kernel
theorem dX9_bound_0 : decode cX9_bound 0 = .ok (.aload_n 0, 1) := by decide +kernel
theorem dX9_bound_1 : decode cX9_bound 1 = .ok (.getfield 22, 3) := by decide +kernel
theorem dX9_bound_4 : decode cX9_bound 4 = .ok (.iconst 0, 1) := by decide +kernel
theorem dX9_bound_5 : decode cX9_bound 5 = .ok (.iaload, 1) := by decide +kernel
theorem dX9_bound_6 : decode cX9_bound 6 = .ok (.ifCond .ne 5, 3) := by decide +kernel
theorem dX9_bound_9 : decode cX9_bound 9 = .ok (.iconst 0, 1) := by decide +kernel
theorem dX9_bound_10 : decode cX9_bound 10 = .ok (.ireturn, 1) := by decide +kernel
theorem dX9_bound_11 : decode cX9_bound 11 = .ok (.aload_n 0, 1) := by decide +kernel
theorem dX9_bound_12 : decode cX9_bound 12 = .ok (.getfield 25, 3) := by decide +kernel
theorem dX9_bound_15 : decode cX9_bound 15 = .ok (.iconst 0, 1) := by decide +kernel
theorem dX9_bound_16 : decode cX9_bound 16 = .ok (.iaload, 1) := by decide +kernel
theorem dX9_bound_17 : decode cX9_bound 17 = .ok (.istore_n 1, 1) := by decide +kernel
theorem dX9_bound_18 : decode cX9_bound 18 = .ok (.aload_n 0, 1) := by decide +kernel
theorem dX9_bound_19 : decode cX9_bound 19 = .ok (.getfield 28, 3) := by decide +kernel
theorem dX9_bound_22 : decode cX9_bound 22 = .ok (.iconst 0, 1) := by decide +kernel
theorem dX9_bound_23 : decode cX9_bound 23 = .ok (.iaload, 1) := by decide +kernel
theorem dX9_bound_24 : decode cX9_bound 24 = .ok (.istore_n 2, 1) := by decide +kernel
theorem dX9_bound_25 : decode cX9_bound 25 = .ok (.iconst 1, 1) := by decide +kernel
theorem dX9_bound_26 : decode cX9_bound 26 = .ok (.istore_n 3, 1) := by decide +kernel
theorem dX9_bound_27 : decode cX9_bound 27 = .ok (.iload_n 3, 1) := by decide +kernel
theorem dX9_bound_28 : decode cX9_bound 28 = .ok (.aload_n 0, 1) := by decide +kernel
theorem dX9_bound_29 : decode cX9_bound 29 = .ok (.getfield 22, 3) := by decide +kernel
theorem dX9_bound_32 : decode cX9_bound 32 = .ok (.iconst 0, 1) := by decide +kernel
theorem dX9_bound_33 : decode cX9_bound 33 = .ok (.iaload, 1) := by decide +kernel
theorem dX9_bound_34 : decode cX9_bound 34 = .ok (.if_icmp .ge 51, 3) := by decide +kernel
theorem dX9_bound_37 : decode cX9_bound 37 = .ok (.aload_n 0, 1) := by decide +kernel
theorem dX9_bound_38 : decode cX9_bound 38 = .ok (.getfield 25, 3) := by decide +kernel
theorem dX9_bound_41 : decode cX9_bound 41 = .ok (.iload_n 3, 1) := by decide +kernel
theorem dX9_bound_42 : decode cX9_bound 42 = .ok (.iaload, 1) := by decide +kernel
theorem dX9_bound_43 : decode cX9_bound 43 = .ok (.iload_n 1, 1) := by decide +kernel
theorem dX9_bound_44 : decode cX9_bound 44 = .ok (.if_icmp .ge 12, 3) := by decide +kernel
theorem dX9_bound_47 : decode cX9_bound 47 = .ok (.aload_n 0, 1) := by decide +kernel
theorem dX9_bound_48 : decode cX9_bound 48 = .ok (.getfield 25, 3) := by decide +kernel
theorem dX9_bound_51 : decode cX9_bound 51 = .ok (.iload_n 3, 1) := by decide +kernel
theorem dX9_bound_52 : decode cX9_bound 52 = .ok (.iaload, 1) := by decide +kernel
theorem dX9_bound_53 : decode cX9_bound 53 = .ok (.goto 4, 3) := by decide +kernel
theorem dX9_bound_56 : decode cX9_bound 56 = .ok (.iload_n 1, 1) := by decide +kernel
theorem dX9_bound_57 : decode cX9_bound 57 = .ok (.istore_n 1, 1) := by decide +kernel
theorem dX9_bound_58 : decode cX9_bound 58 = .ok (.aload_n 0, 1) := by decide +kernel
theorem dX9_bound_59 : decode cX9_bound 59 = .ok (.getfield 28, 3) := by decide +kernel
theorem dX9_bound_62 : decode cX9_bound 62 = .ok (.iload_n 3, 1) := by decide +kernel
theorem dX9_bound_63 : decode cX9_bound 63 = .ok (.iaload, 1) := by decide +kernel
theorem dX9_bound_64 : decode cX9_bound 64 = .ok (.iload_n 2, 1) := by decide +kernel
theorem dX9_bound_65 : decode cX9_bound 65 = .ok (.if_icmp .ge 12, 3) := by decide +kernel
theorem dX9_bound_68 : decode cX9_bound 68 = .ok (.aload_n 0, 1) := by decide +kernel
theorem dX9_bound_69 : decode cX9_bound 69 = .ok (.getfield 28, 3) := by decide +kernel
theorem dX9_bound_72 : decode cX9_bound 72 = .ok (.iload_n 3, 1) := by decide +kernel
theorem dX9_bound_73 : decode cX9_bound 73 = .ok (.iaload, 1) := by decide +kernel
theorem dX9_bound_74 : decode cX9_bound 74 = .ok (.goto 4, 3) := by decide +kernel
theorem dX9_bound_77 : decode cX9_bound 77 = .ok (.iload_n 2, 1) := by decide +kernel
theorem dX9_bound_78 : decode cX9_bound 78 = .ok (.istore_n 2, 1) := by decide +kernel
theorem dX9_bound_79 : decode cX9_bound 79 = .ok (.iinc 3 1, 3) := by decide +kernel
theorem dX9_bound_82 : decode cX9_bound 82 = .ok (.goto (-55), 3) := by decide +kernel
theorem dX9_bound_85 : decode cX9_bound 85 = .ok (.aload_n 0, 1) := by decide +kernel
theorem dX9_bound_86 : decode cX9_bound 86 = .ok (.invokevirtual 179, 3) := by decide +kernel
theorem dX9_bound_89 : decode cX9_bound 89 = .ok (.iload_n 2, 1) := by decide +kernel
theorem dX9_bound_90 : decode cX9_bound 90 = .ok (.iadd, 1) := by decide +kernel
theorem dX9_bound_91 : decode cX9_bound 91 = .ok (.istore_n 3, 1) := by decide +kernel
theorem dX9_bound_92 : decode cX9_bound 92 = .ok (.aload_n 0, 1) := by decide +kernel
theorem dX9_bound_93 : decode cX9_bound 93 = .ok (.invokevirtual 175, 3) := by decide +kernel
theorem dX9_bound_96 : decode cX9_bound 96 = .ok (.iload_n 1, 1) := by decide +kernel
theorem dX9_bound_97 : decode cX9_bound 97 = .ok (.iadd, 1) := by decide +kernel
theorem dX9_bound_98 : decode cX9_bound 98 = .ok (.istore 4, 2) := by decide +kernel
theorem dX9_bound_100 : decode cX9_bound 100 = .ok (.iload_n 3, 1) := by decide +kernel
theorem dX9_bound_101 : decode cX9_bound 101 = .ok (.iload 4, 2) := by decide +kernel
theorem dX9_bound_103 : decode cX9_bound 103 = .ok (.if_icmp .le 7, 3) := by decide +kernel
theorem dX9_bound_106 : decode cX9_bound 106 = .ok (.iload_n 3, 1) := by decide +kernel
theorem dX9_bound_107 : decode cX9_bound 107 = .ok (.goto 5, 3) := by decide +kernel
theorem dX9_bound_110 : decode cX9_bound 110 = .ok (.iload 4, 2) := by decide +kernel
theorem dX9_bound_112 : decode cX9_bound 112 = .ok (.ireturn, 1) := by decide +kernel
theorem dX9_firstRow_0 : decode cX9_firstRow 0 = .ok (.iconst 0, 1) := by decide +kernel
theorem dX9_firstRow_1 : decode cX9_firstRow 1 = .ok (.istore_n 1, 1) := by decide +kernel
theorem dX9_firstRow_2 : decode cX9_firstRow 2 = .ok (.iload_n 1, 1) := by decide +kernel
theorem dX9_firstRow_3 : decode cX9_firstRow 3 = .ok (.aload_n 0, 1) := by decide +kernel
theorem dX9_firstRow_4 : decode cX9_firstRow 4 = .ok (.getfield 22, 3) := by decide +kernel
theorem dX9_firstRow_7 : decode cX9_firstRow 7 = .ok (.iconst 0, 1) := by decide +kernel
theorem dX9_firstRow_8 : decode cX9_firstRow 8 = .ok (.iaload, 1) := by decide +kernel
theorem dX9_firstRow_9 : decode cX9_firstRow 9 = .ok (.if_icmp .ge 16, 3) := by decide +kernel
theorem dX9_firstRow_12 : decode cX9_firstRow 12 = .ok (.aload_n 0, 1) := by decide +kernel
theorem dX9_firstRow_13 : decode cX9_firstRow 13 = .ok (.getfield 55, 3) := by decide +kernel
theorem dX9_firstRow_16 : decode cX9_firstRow 16 = .ok (.iload_n 1, 1) := by decide +kernel
theorem dX9_firstRow_17 : decode cX9_firstRow 17 = .ok (.iload_n 1, 1) := by decide +kernel
theorem dX9_firstRow_18 : decode cX9_firstRow 18 = .ok (.iastore, 1) := by decide +kernel
theorem dX9_firstRow_19 : decode cX9_firstRow 19 = .ok (.iinc 1 1, 3) := by decide +kernel
theorem dX9_firstRow_22 : decode cX9_firstRow 22 = .ok (.goto (-20), 3) := by decide +kernel
theorem dX9_firstRow_25 : decode cX9_firstRow 25 = .ok (.return_, 1) := by decide +kernel
theorem dX9_nextRow_0 : decode cX9_nextRow 0 = .ok (.aload_n 0, 1) := by decide +kernel
theorem dX9_nextRow_1 : decode cX9_nextRow 1 = .ok (.getfield 22, 3) := by decide +kernel
theorem dX9_nextRow_4 : decode cX9_nextRow 4 = .ok (.iconst 0, 1) := by decide +kernel
theorem dX9_nextRow_5 : decode cX9_nextRow 5 = .ok (.iaload, 1) := by decide +kernel
theorem dX9_nextRow_6 : decode cX9_nextRow 6 = .ok (.istore_n 1, 1) := by decide +kernel
theorem dX9_nextRow_7 : decode cX9_nextRow 7 = .ok (.iload_n 1, 1) := by decide +kernel
theorem dX9_nextRow_8 : decode cX9_nextRow 8 = .ok (.iconst 2, 1) := by decide +kernel
theorem dX9_nextRow_9 : decode cX9_nextRow 9 = .ok (.isub, 1) := by decide +kernel
theorem dX9_nextRow_10 : decode cX9_nextRow 10 = .ok (.istore_n 2, 1) := by decide +kernel
theorem dX9_nextRow_11 : decode cX9_nextRow 11 = .ok (.iload_n 2, 1) := by decide +kernel
theorem dX9_nextRow_12 : decode cX9_nextRow 12 = .ok (.ifCond .lt 26, 3) := by decide +kernel
theorem dX9_nextRow_15 : decode cX9_nextRow 15 = .ok (.aload_n 0, 1) := by decide +kernel
theorem dX9_nextRow_16 : decode cX9_nextRow 16 = .ok (.getfield 55, 3) := by decide +kernel
theorem dX9_nextRow_19 : decode cX9_nextRow 19 = .ok (.iload_n 2, 1) := by decide +kernel
theorem dX9_nextRow_20 : decode cX9_nextRow 20 = .ok (.iaload, 1) := by decide +kernel
theorem dX9_nextRow_21 : decode cX9_nextRow 21 = .ok (.aload_n 0, 1) := by decide +kernel
theorem dX9_nextRow_22 : decode cX9_nextRow 22 = .ok (.getfield 55, 3) := by decide +kernel
theorem dX9_nextRow_25 : decode cX9_nextRow 25 = .ok (.iload_n 2, 1) := by decide +kernel
theorem dX9_nextRow_26 : decode cX9_nextRow 26 = .ok (.iconst 1, 1) := by decide +kernel
theorem dX9_nextRow_27 : decode cX9_nextRow 27 = .ok (.iadd, 1) := by decide +kernel
theorem dX9_nextRow_28 : decode cX9_nextRow 28 = .ok (.iaload, 1) := by decide +kernel
theorem dX9_nextRow_29 : decode cX9_nextRow 29 = .ok (.if_icmp .le 9, 3) := by decide +kernel
theorem dX9_nextRow_32 : decode cX9_nextRow 32 = .ok (.iinc 2 (-1), 3) := by decide +kernel
theorem dX9_nextRow_35 : decode cX9_nextRow 35 = .ok (.goto (-24), 3) := by decide +kernel
theorem dX9_nextRow_38 : decode cX9_nextRow 38 = .ok (.iload_n 2, 1) := by decide +kernel
theorem dX9_nextRow_39 : decode cX9_nextRow 39 = .ok (.ifCond .ge 5, 3) := by decide +kernel
theorem dX9_nextRow_42 : decode cX9_nextRow 42 = .ok (.iconst 0, 1) := by decide +kernel
theorem dX9_nextRow_43 : decode cX9_nextRow 43 = .ok (.ireturn, 1) := by decide +kernel
theorem dX9_nextRow_44 : decode cX9_nextRow 44 = .ok (.iload_n 1, 1) := by decide +kernel
theorem dX9_nextRow_45 : decode cX9_nextRow 45 = .ok (.iconst 1, 1) := by decide +kernel
theorem dX9_nextRow_46 : decode cX9_nextRow 46 = .ok (.isub, 1) := by decide +kernel
theorem dX9_nextRow_47 : decode cX9_nextRow 47 = .ok (.istore_n 3, 1) := by decide +kernel
theorem dX9_nextRow_48 : decode cX9_nextRow 48 = .ok (.aload_n 0, 1) := by decide +kernel
theorem dX9_nextRow_49 : decode cX9_nextRow 49 = .ok (.getfield 55, 3) := by decide +kernel
theorem dX9_nextRow_52 : decode cX9_nextRow 52 = .ok (.iload_n 3, 1) := by decide +kernel
theorem dX9_nextRow_53 : decode cX9_nextRow 53 = .ok (.iaload, 1) := by decide +kernel
theorem dX9_nextRow_54 : decode cX9_nextRow 54 = .ok (.aload_n 0, 1) := by decide +kernel
theorem dX9_nextRow_55 : decode cX9_nextRow 55 = .ok (.getfield 55, 3) := by decide +kernel
theorem dX9_nextRow_58 : decode cX9_nextRow 58 = .ok (.iload_n 2, 1) := by decide +kernel
theorem dX9_nextRow_59 : decode cX9_nextRow 59 = .ok (.iaload, 1) := by decide +kernel
theorem dX9_nextRow_60 : decode cX9_nextRow 60 = .ok (.if_icmp .ge 9, 3) := by decide +kernel
theorem dX9_nextRow_63 : decode cX9_nextRow 63 = .ok (.iinc 3 (-1), 3) := by decide +kernel
theorem dX9_nextRow_66 : decode cX9_nextRow 66 = .ok (.goto (-18), 3) := by decide +kernel
theorem dX9_nextRow_69 : decode cX9_nextRow 69 = .ok (.aload_n 0, 1) := by decide +kernel
theorem dX9_nextRow_70 : decode cX9_nextRow 70 = .ok (.getfield 55, 3) := by decide +kernel
theorem dX9_nextRow_73 : decode cX9_nextRow 73 = .ok (.iload_n 2, 1) := by decide +kernel
theorem dX9_nextRow_74 : decode cX9_nextRow 74 = .ok (.iaload, 1) := by decide +kernel
theorem dX9_nextRow_75 : decode cX9_nextRow 75 = .ok (.istore 4, 2) := by decide +kernel
theorem dX9_nextRow_77 : decode cX9_nextRow 77 = .ok (.aload_n 0, 1) := by decide +kernel
theorem dX9_nextRow_78 : decode cX9_nextRow 78 = .ok (.getfield 55, 3) := by decide +kernel
theorem dX9_nextRow_81 : decode cX9_nextRow 81 = .ok (.iload_n 2, 1) := by decide +kernel
theorem dX9_nextRow_82 : decode cX9_nextRow 82 = .ok (.aload_n 0, 1) := by decide +kernel
theorem dX9_nextRow_83 : decode cX9_nextRow 83 = .ok (.getfield 55, 3) := by decide +kernel
theorem dX9_nextRow_86 : decode cX9_nextRow 86 = .ok (.iload_n 3, 1) := by decide +kernel
theorem dX9_nextRow_87 : decode cX9_nextRow 87 = .ok (.iaload, 1) := by decide +kernel
theorem dX9_nextRow_88 : decode cX9_nextRow 88 = .ok (.iastore, 1) := by decide +kernel
theorem dX9_nextRow_89 : decode cX9_nextRow 89 = .ok (.aload_n 0, 1) := by decide +kernel
theorem dX9_nextRow_90 : decode cX9_nextRow 90 = .ok (.getfield 55, 3) := by decide +kernel
theorem dX9_nextRow_93 : decode cX9_nextRow 93 = .ok (.iload_n 3, 1) := by decide +kernel
theorem dX9_nextRow_94 : decode cX9_nextRow 94 = .ok (.iload 4, 2) := by decide +kernel
theorem dX9_nextRow_96 : decode cX9_nextRow 96 = .ok (.iastore, 1) := by decide +kernel
theorem dX9_nextRow_97 : decode cX9_nextRow 97 = .ok (.iload_n 2, 1) := by decide +kernel
theorem dX9_nextRow_98 : decode cX9_nextRow 98 = .ok (.iconst 1, 1) := by decide +kernel
theorem dX9_nextRow_99 : decode cX9_nextRow 99 = .ok (.iadd, 1) := by decide +kernel
theorem dX9_nextRow_100 : decode cX9_nextRow 100 = .ok (.istore 5, 2) := by decide +kernel
theorem dX9_nextRow_102 : decode cX9_nextRow 102 = .ok (.iload_n 1, 1) := by decide +kernel
theorem dX9_nextRow_103 : decode cX9_nextRow 103 = .ok (.iconst 1, 1) := by decide +kernel
theorem dX9_nextRow_104 : decode cX9_nextRow 104 = .ok (.isub, 1) := by decide +kernel
theorem dX9_nextRow_105 : decode cX9_nextRow 105 = .ok (.istore 6, 2) := by decide +kernel
theorem dX9_nextRow_107 : decode cX9_nextRow 107 = .ok (.iload 5, 2) := by decide +kernel
theorem dX9_nextRow_109 : decode cX9_nextRow 109 = .ok (.iload 6, 2) := by decide +kernel
theorem dX9_nextRow_111 : decode cX9_nextRow 111 = .ok (.if_icmp .ge 44, 3) := by decide +kernel
theorem dX9_nextRow_114 : decode cX9_nextRow 114 = .ok (.aload_n 0, 1) := by decide +kernel
theorem dX9_nextRow_115 : decode cX9_nextRow 115 = .ok (.getfield 55, 3) := by decide +kernel
theorem dX9_nextRow_118 : decode cX9_nextRow 118 = .ok (.iload 5, 2) := by decide +kernel
theorem dX9_nextRow_120 : decode cX9_nextRow 120 = .ok (.iaload, 1) := by decide +kernel
theorem dX9_nextRow_121 : decode cX9_nextRow 121 = .ok (.istore 4, 2) := by decide +kernel
theorem dX9_nextRow_123 : decode cX9_nextRow 123 = .ok (.aload_n 0, 1) := by decide +kernel
theorem dX9_nextRow_124 : decode cX9_nextRow 124 = .ok (.getfield 55, 3) := by decide +kernel
theorem dX9_nextRow_127 : decode cX9_nextRow 127 = .ok (.iload 5, 2) := by decide +kernel
theorem dX9_nextRow_129 : decode cX9_nextRow 129 = .ok (.aload_n 0, 1) := by decide +kernel
theorem dX9_nextRow_130 : decode cX9_nextRow 130 = .ok (.getfield 55, 3) := by decide +kernel
theorem dX9_nextRow_133 : decode cX9_nextRow 133 = .ok (.iload 6, 2) := by decide +kernel
theorem dX9_nextRow_135 : decode cX9_nextRow 135 = .ok (.iaload, 1) := by decide +kernel
theorem dX9_nextRow_136 : decode cX9_nextRow 136 = .ok (.iastore, 1) := by decide +kernel
theorem dX9_nextRow_137 : decode cX9_nextRow 137 = .ok (.aload_n 0, 1) := by decide +kernel
theorem dX9_nextRow_138 : decode cX9_nextRow 138 = .ok (.getfield 55, 3) := by decide +kernel
theorem dX9_nextRow_141 : decode cX9_nextRow 141 = .ok (.iload 6, 2) := by decide +kernel
theorem dX9_nextRow_143 : decode cX9_nextRow 143 = .ok (.iload 4, 2) := by decide +kernel
theorem dX9_nextRow_145 : decode cX9_nextRow 145 = .ok (.iastore, 1) := by decide +kernel
theorem dX9_nextRow_146 : decode cX9_nextRow 146 = .ok (.iinc 5 1, 3) := by decide +kernel
theorem dX9_nextRow_149 : decode cX9_nextRow 149 = .ok (.iinc 6 (-1), 3) := by decide +kernel
theorem dX9_nextRow_152 : decode cX9_nextRow 152 = .ok (.goto (-45), 3) := by decide +kernel
theorem dX9_nextRow_155 : decode cX9_nextRow 155 = .ok (.iconst 1, 1) := by decide +kernel
theorem dX9_nextRow_156 : decode cX9_nextRow 156 = .ok (.ireturn, 1) := by decide +kernel
theorem dX9_finds_0 : decode cX9_finds 0 = .ok (.aload_n 0, 1) := by decide +kernel
theorem dX9_finds_1 : decode cX9_finds 1 = .ok (.aload_n 0, 1) := by decide +kernel
theorem dX9_finds_2 : decode cX9_finds 2 = .ok (.getfield 22, 3) := by decide +kernel
theorem dX9_finds_5 : decode cX9_finds 5 = .ok (.iconst 0, 1) := by decide +kernel
theorem dX9_finds_6 : decode cX9_finds 6 = .ok (.iaload, 1) := by decide +kernel
theorem dX9_finds_7 : decode cX9_finds 7 = .ok (.putfield 182, 3) := by decide +kernel
theorem dX9_finds_10 : decode cX9_finds 10 = .ok (.iconst 0, 1) := by decide +kernel
theorem dX9_finds_11 : decode cX9_finds 11 = .ok (.istore_n 2, 1) := by decide +kernel
theorem dX9_finds_12 : decode cX9_finds 12 = .ok (.iload_n 2, 1) := by decide +kernel
theorem dX9_finds_13 : decode cX9_finds 13 = .ok (.aload_n 0, 1) := by decide +kernel
theorem dX9_finds_14 : decode cX9_finds 14 = .ok (.getfield 182, 3) := by decide +kernel
theorem dX9_finds_17 : decode cX9_finds 17 = .ok (.if_icmp .ge 18, 3) := by decide +kernel
theorem dX9_finds_20 : decode cX9_finds 20 = .ok (.aload_n 0, 1) := by decide +kernel
theorem dX9_finds_21 : decode cX9_finds 21 = .ok (.getfield 40, 3) := by decide +kernel
theorem dX9_finds_24 : decode cX9_finds 24 = .ok (.iload_n 2, 1) := by decide +kernel
theorem dX9_finds_25 : decode cX9_finds 25 = .ok (.aload_n 1, 1) := by decide +kernel
theorem dX9_finds_26 : decode cX9_finds 26 = .ok (.iload_n 2, 1) := by decide +kernel
theorem dX9_finds_27 : decode cX9_finds 27 = .ok (.iaload, 1) := by decide +kernel
theorem dX9_finds_28 : decode cX9_finds 28 = .ok (.iastore, 1) := by decide +kernel
theorem dX9_finds_29 : decode cX9_finds 29 = .ok (.iinc 2 1, 3) := by decide +kernel
theorem dX9_finds_32 : decode cX9_finds 32 = .ok (.goto (-20), 3) := by decide +kernel
theorem dX9_finds_35 : decode cX9_finds 35 = .ok (.aload_n 0, 1) := by decide +kernel
theorem dX9_finds_36 : decode cX9_finds 36 = .ok (.iconst 1, 1) := by decide +kernel
theorem dX9_finds_37 : decode cX9_finds 37 = .ok (.putfield 167, 3) := by decide +kernel
theorem dX9_finds_40 : decode cX9_finds 40 = .ok (.aload_n 0, 1) := by decide +kernel
theorem dX9_finds_41 : decode cX9_finds 41 = .ok (.iconst 1, 1) := by decide +kernel
theorem dX9_finds_42 : decode cX9_finds 42 = .ok (.putfield 124, 3) := by decide +kernel
theorem dX9_finds_45 : decode cX9_finds 45 = .ok (.return_, 1) := by decide +kernel
theorem dX9_least_0 : decode cX9_least 0 = .ok (.iload_n 1, 1) := by decide +kernel
theorem dX9_least_1 : decode cX9_least 1 = .ok (.iload_n 2, 1) := by decide +kernel
theorem dX9_least_2 : decode cX9_least 2 = .ok (.invokestatic 172, 3) := by decide +kernel
theorem dX9_least_5 : decode cX9_least 5 = .ok (.ifCond .ne 6, 3) := by decide +kernel
theorem dX9_least_8 : decode cX9_least 8 = .ok (.bipush (-2), 2) := by decide +kernel
theorem dX9_least_10 : decode cX9_least 10 = .ok (.ireturn, 1) := by decide +kernel
theorem dX9_least_11 : decode cX9_least 11 = .ok (.iload_n 1, 1) := by decide +kernel
theorem dX9_least_12 : decode cX9_least 12 = .ok (.ifCond .ne 8, 3) := by decide +kernel
theorem dX9_least_15 : decode cX9_least 15 = .ok (.aload_n 0, 1) := by decide +kernel
theorem dX9_least_16 : decode cX9_least 16 = .ok (.invokevirtual 185, 3) := by decide +kernel
theorem dX9_least_19 : decode cX9_least 19 = .ok (.ireturn, 1) := by decide +kernel
theorem dX9_least_20 : decode cX9_least 20 = .ok (.iload_n 1, 1) := by decide +kernel
theorem dX9_least_21 : decode cX9_least 21 = .ok (.iconst 1, 1) := by decide +kernel
theorem dX9_least_22 : decode cX9_least 22 = .ok (.if_icmp .ne 30, 3) := by decide +kernel
theorem dX9_least_25 : decode cX9_least 25 = .ok (.aload_n 0, 1) := by decide +kernel
theorem dX9_least_26 : decode cX9_least 26 = .ok (.aload_n 0, 1) := by decide +kernel
theorem dX9_least_27 : decode cX9_least 27 = .ok (.getfield 55, 3) := by decide +kernel
theorem dX9_least_30 : decode cX9_least 30 = .ok (.invokevirtual 159, 3) := by decide +kernel
theorem dX9_least_33 : decode cX9_least 33 = .ok (.aload_n 0, 1) := by decide +kernel
theorem dX9_least_34 : decode cX9_least 34 = .ok (.aload_n 0, 1) := by decide +kernel
theorem dX9_least_35 : decode cX9_least 35 = .ok (.getfield 55, 3) := by decide +kernel
theorem dX9_least_38 : decode cX9_least 38 = .ok (.invokevirtual 188, 3) := by decide +kernel
theorem dX9_least_41 : decode cX9_least 41 = .ok (.aload_n 0, 1) := by decide +kernel
theorem dX9_least_42 : decode cX9_least 42 = .ok (.aload_n 0, 1) := by decide +kernel
theorem dX9_least_43 : decode cX9_least 43 = .ok (.getfield 55, 3) := by decide +kernel
theorem dX9_least_46 : decode cX9_least 46 = .ok (.iconst 1, 1) := by decide +kernel
theorem dX9_least_47 : decode cX9_least 47 = .ok (.iconst 0, 1) := by decide +kernel
theorem dX9_least_48 : decode cX9_least 48 = .ok (.invokevirtual 163, 3) := by decide +kernel
theorem dX9_least_51 : decode cX9_least 51 = .ok (.ireturn, 1) := by decide +kernel
theorem dX9_least_52 : decode cX9_least 52 = .ok (.aload_n 0, 1) := by decide +kernel
theorem dX9_least_53 : decode cX9_least 53 = .ok (.getfield 22, 3) := by decide +kernel
theorem dX9_least_56 : decode cX9_least 56 = .ok (.iconst 0, 1) := by decide +kernel
theorem dX9_least_57 : decode cX9_least 57 = .ok (.iaload, 1) := by decide +kernel
theorem dX9_least_58 : decode cX9_least 58 = .ok (.bipush 7, 2) := by decide +kernel
theorem dX9_least_60 : decode cX9_least 60 = .ok (.if_icmp .le 6, 3) := by decide +kernel
theorem dX9_least_63 : decode cX9_least 63 = .ok (.bipush (-4), 2) := by decide +kernel
theorem dX9_least_65 : decode cX9_least 65 = .ok (.ireturn, 1) := by decide +kernel
theorem dX9_least_66 : decode cX9_least 66 = .ok (.aload_n 0, 1) := by decide +kernel
theorem dX9_least_67 : decode cX9_least 67 = .ok (.invokevirtual 191, 3) := by decide +kernel
theorem dX9_least_70 : decode cX9_least 70 = .ok (.aload_n 0, 1) := by decide +kernel
theorem dX9_least_71 : decode cX9_least 71 = .ok (.aload_n 0, 1) := by decide +kernel
theorem dX9_least_72 : decode cX9_least 72 = .ok (.getfield 55, 3) := by decide +kernel
theorem dX9_least_75 : decode cX9_least 75 = .ok (.iload_n 1, 1) := by decide +kernel
theorem dX9_least_76 : decode cX9_least 76 = .ok (.iload_n 2, 1) := by decide +kernel
theorem dX9_least_77 : decode cX9_least 77 = .ok (.invokevirtual 163, 3) := by decide +kernel
theorem dX9_least_80 : decode cX9_least 80 = .ok (.istore_n 3, 1) := by decide +kernel
theorem dX9_least_81 : decode cX9_least 81 = .ok (.aload_n 0, 1) := by decide +kernel
theorem dX9_least_82 : decode cX9_least 82 = .ok (.aload_n 0, 1) := by decide +kernel
theorem dX9_least_83 : decode cX9_least 83 = .ok (.getfield 55, 3) := by decide +kernel
theorem dX9_least_86 : decode cX9_least 86 = .ok (.invokevirtual 188, 3) := by decide +kernel
theorem dX9_least_89 : decode cX9_least 89 = .ok (.aload_n 0, 1) := by decide +kernel
theorem dX9_least_90 : decode cX9_least 90 = .ok (.invokevirtual 194, 3) := by decide +kernel
theorem dX9_least_93 : decode cX9_least 93 = .ok (.ifCond .eq 35, 3) := by decide +kernel
theorem dX9_least_96 : decode cX9_least 96 = .ok (.aload_n 0, 1) := by decide +kernel
theorem dX9_least_97 : decode cX9_least 97 = .ok (.aload_n 0, 1) := by decide +kernel
theorem dX9_least_98 : decode cX9_least 98 = .ok (.getfield 55, 3) := by decide +kernel
theorem dX9_least_101 : decode cX9_least 101 = .ok (.iload_n 1, 1) := by decide +kernel
theorem dX9_least_102 : decode cX9_least 102 = .ok (.iload_n 2, 1) := by decide +kernel
theorem dX9_least_103 : decode cX9_least 103 = .ok (.invokevirtual 163, 3) := by decide +kernel
theorem dX9_least_106 : decode cX9_least 106 = .ok (.istore 4, 2) := by decide +kernel
theorem dX9_least_108 : decode cX9_least 108 = .ok (.iload 4, 2) := by decide +kernel
theorem dX9_least_110 : decode cX9_least 110 = .ok (.iload_n 3, 1) := by decide +kernel
theorem dX9_least_111 : decode cX9_least 111 = .ok (.if_icmp .ge 14, 3) := by decide +kernel
theorem dX9_least_114 : decode cX9_least 114 = .ok (.iload 4, 2) := by decide +kernel
theorem dX9_least_116 : decode cX9_least 116 = .ok (.istore_n 3, 1) := by decide +kernel
theorem dX9_least_117 : decode cX9_least 117 = .ok (.aload_n 0, 1) := by decide +kernel
theorem dX9_least_118 : decode cX9_least 118 = .ok (.aload_n 0, 1) := by decide +kernel
theorem dX9_least_119 : decode cX9_least 119 = .ok (.getfield 55, 3) := by decide +kernel
theorem dX9_least_122 : decode cX9_least 122 = .ok (.invokevirtual 188, 3) := by decide +kernel
theorem dX9_least_125 : decode cX9_least 125 = .ok (.goto (-36), 3) := by decide +kernel
theorem dX9_least_128 : decode cX9_least 128 = .ok (.iload_n 3, 1) := by decide +kernel
theorem dX9_least_129 : decode cX9_least 129 = .ok (.ireturn, 1) := by decide +kernel
theorem dX9_isOrder_0 : decode cX9_isOrder 0 = .ok (.iconst 1, 1) := by decide +kernel
theorem dX9_isOrder_1 : decode cX9_isOrder 1 = .ok (.istore_n 1, 1) := by decide +kernel
theorem dX9_isOrder_2 : decode cX9_isOrder 2 = .ok (.iconst 0, 1) := by decide +kernel
theorem dX9_isOrder_3 : decode cX9_isOrder 3 = .ok (.istore_n 2, 1) := by decide +kernel
theorem dX9_isOrder_4 : decode cX9_isOrder 4 = .ok (.iload_n 2, 1) := by decide +kernel
theorem dX9_isOrder_5 : decode cX9_isOrder 5 = .ok (.aload_n 0, 1) := by decide +kernel
theorem dX9_isOrder_6 : decode cX9_isOrder 6 = .ok (.getfield 22, 3) := by decide +kernel
theorem dX9_isOrder_9 : decode cX9_isOrder 9 = .ok (.iconst 0, 1) := by decide +kernel
theorem dX9_isOrder_10 : decode cX9_isOrder 10 = .ok (.iaload, 1) := by decide +kernel
theorem dX9_isOrder_11 : decode cX9_isOrder 11 = .ok (.if_icmp .ge 34, 3) := by decide +kernel
theorem dX9_isOrder_14 : decode cX9_isOrder 14 = .ok (.iload_n 1, 1) := by decide +kernel
theorem dX9_isOrder_15 : decode cX9_isOrder 15 = .ok (.ifCond .eq 22, 3) := by decide +kernel
theorem dX9_isOrder_18 : decode cX9_isOrder 18 = .ok (.aload_n 0, 1) := by decide +kernel
theorem dX9_isOrder_19 : decode cX9_isOrder 19 = .ok (.getfield 55, 3) := by decide +kernel
theorem dX9_isOrder_22 : decode cX9_isOrder 22 = .ok (.iload_n 2, 1) := by decide +kernel
theorem dX9_isOrder_23 : decode cX9_isOrder 23 = .ok (.iaload, 1) := by decide +kernel
theorem dX9_isOrder_24 : decode cX9_isOrder 24 = .ok (.aload_n 0, 1) := by decide +kernel
theorem dX9_isOrder_25 : decode cX9_isOrder 25 = .ok (.getfield 37, 3) := by decide +kernel
theorem dX9_isOrder_28 : decode cX9_isOrder 28 = .ok (.iload_n 2, 1) := by decide +kernel
theorem dX9_isOrder_29 : decode cX9_isOrder 29 = .ok (.iaload, 1) := by decide +kernel
theorem dX9_isOrder_30 : decode cX9_isOrder 30 = .ok (.if_icmp .ne 7, 3) := by decide +kernel
theorem dX9_isOrder_33 : decode cX9_isOrder 33 = .ok (.iconst 1, 1) := by decide +kernel
theorem dX9_isOrder_34 : decode cX9_isOrder 34 = .ok (.goto 4, 3) := by decide +kernel
theorem dX9_isOrder_37 : decode cX9_isOrder 37 = .ok (.iconst 0, 1) := by decide +kernel
theorem dX9_isOrder_38 : decode cX9_isOrder 38 = .ok (.istore_n 1, 1) := by decide +kernel
theorem dX9_isOrder_39 : decode cX9_isOrder 39 = .ok (.iinc 2 1, 3) := by decide +kernel
theorem dX9_isOrder_42 : decode cX9_isOrder 42 = .ok (.goto (-38), 3) := by decide +kernel
theorem dX9_isOrder_45 : decode cX9_isOrder 45 = .ok (.iload_n 1, 1) := by decide +kernel
theorem dX9_isOrder_46 : decode cX9_isOrder 46 = .ok (.ireturn, 1) := by decide +kernel
theorem dX9_second_0 : decode cX9_second 0 = .ok (.iload_n 1, 1) := by decide +kernel
theorem dX9_second_1 : decode cX9_second 1 = .ok (.iload_n 2, 1) := by decide +kernel
theorem dX9_second_2 : decode cX9_second 2 = .ok (.invokestatic 172, 3) := by decide +kernel
theorem dX9_second_5 : decode cX9_second 5 = .ok (.ifCond .ne 6, 3) := by decide +kernel
theorem dX9_second_8 : decode cX9_second 8 = .ok (.bipush (-2), 2) := by decide +kernel
theorem dX9_second_10 : decode cX9_second 10 = .ok (.ireturn, 1) := by decide +kernel
theorem dX9_second_11 : decode cX9_second 11 = .ok (.aload_n 0, 1) := by decide +kernel
theorem dX9_second_12 : decode cX9_second 12 = .ok (.getfield 22, 3) := by decide +kernel
theorem dX9_second_15 : decode cX9_second 15 = .ok (.iconst 0, 1) := by decide +kernel
theorem dX9_second_16 : decode cX9_second 16 = .ok (.iaload, 1) := by decide +kernel
theorem dX9_second_17 : decode cX9_second 17 = .ok (.iconst 2, 1) := by decide +kernel
theorem dX9_second_18 : decode cX9_second 18 = .ok (.if_icmp .ge 5, 3) := by decide +kernel
theorem dX9_second_21 : decode cX9_second 21 = .ok (.iconst (-1), 1) := by decide +kernel
theorem dX9_second_22 : decode cX9_second 22 = .ok (.ireturn, 1) := by decide +kernel
theorem dX9_second_23 : decode cX9_second 23 = .ok (.aload_n 0, 1) := by decide +kernel
theorem dX9_second_24 : decode cX9_second 24 = .ok (.getfield 22, 3) := by decide +kernel
theorem dX9_second_27 : decode cX9_second 27 = .ok (.iconst 0, 1) := by decide +kernel
theorem dX9_second_28 : decode cX9_second 28 = .ok (.iaload, 1) := by decide +kernel
theorem dX9_second_29 : decode cX9_second 29 = .ok (.bipush 7, 2) := by decide +kernel
theorem dX9_second_31 : decode cX9_second 31 = .ok (.if_icmp .le 6, 3) := by decide +kernel
theorem dX9_second_34 : decode cX9_second 34 = .ok (.bipush (-4), 2) := by decide +kernel
theorem dX9_second_36 : decode cX9_second 36 = .ok (.ireturn, 1) := by decide +kernel
theorem dX9_second_37 : decode cX9_second 37 = .ok (.iconst (-1), 1) := by decide +kernel
theorem dX9_second_38 : decode cX9_second 38 = .ok (.istore_n 3, 1) := by decide +kernel
theorem dX9_second_39 : decode cX9_second 39 = .ok (.aload_n 0, 1) := by decide +kernel
theorem dX9_second_40 : decode cX9_second 40 = .ok (.invokevirtual 191, 3) := by decide +kernel
theorem dX9_second_43 : decode cX9_second 43 = .ok (.iconst 1, 1) := by decide +kernel
theorem dX9_second_44 : decode cX9_second 44 = .ok (.istore 4, 2) := by decide +kernel
theorem dX9_second_46 : decode cX9_second 46 = .ok (.iload 4, 2) := by decide +kernel
theorem dX9_second_48 : decode cX9_second 48 = .ok (.ifCond .eq 48, 3) := by decide +kernel
theorem dX9_second_51 : decode cX9_second 51 = .ok (.aload_n 0, 1) := by decide +kernel
theorem dX9_second_52 : decode cX9_second 52 = .ok (.invokevirtual 198, 3) := by decide +kernel
theorem dX9_second_55 : decode cX9_second 55 = .ok (.ifCond .ne 32, 3) := by decide +kernel
theorem dX9_second_58 : decode cX9_second 58 = .ok (.aload_n 0, 1) := by decide +kernel
theorem dX9_second_59 : decode cX9_second 59 = .ok (.aload_n 0, 1) := by decide +kernel
theorem dX9_second_60 : decode cX9_second 60 = .ok (.getfield 55, 3) := by decide +kernel
theorem dX9_second_63 : decode cX9_second 63 = .ok (.iload_n 1, 1) := by decide +kernel
theorem dX9_second_64 : decode cX9_second 64 = .ok (.iload_n 2, 1) := by decide +kernel
theorem dX9_second_65 : decode cX9_second 65 = .ok (.invokevirtual 163, 3) := by decide +kernel
theorem dX9_second_68 : decode cX9_second 68 = .ok (.istore 5, 2) := by decide +kernel
theorem dX9_second_70 : decode cX9_second 70 = .ok (.iload_n 3, 1) := by decide +kernel
theorem dX9_second_71 : decode cX9_second 71 = .ok (.ifCond .lt 9, 3) := by decide +kernel
theorem dX9_second_74 : decode cX9_second 74 = .ok (.iload 5, 2) := by decide +kernel
theorem dX9_second_76 : decode cX9_second 76 = .ok (.iload_n 3, 1) := by decide +kernel
theorem dX9_second_77 : decode cX9_second 77 = .ok (.if_icmp .ge 8, 3) := by decide +kernel
theorem dX9_second_80 : decode cX9_second 80 = .ok (.iload 5, 2) := by decide +kernel
theorem dX9_second_82 : decode cX9_second 82 = .ok (.goto 4, 3) := by decide +kernel
theorem dX9_second_85 : decode cX9_second 85 = .ok (.iload_n 3, 1) := by decide +kernel
theorem dX9_second_86 : decode cX9_second 86 = .ok (.istore_n 3, 1) := by decide +kernel
theorem dX9_second_87 : decode cX9_second 87 = .ok (.aload_n 0, 1) := by decide +kernel
theorem dX9_second_88 : decode cX9_second 88 = .ok (.invokevirtual 194, 3) := by decide +kernel
theorem dX9_second_91 : decode cX9_second 91 = .ok (.istore 4, 2) := by decide +kernel
theorem dX9_second_93 : decode cX9_second 93 = .ok (.goto (-47), 3) := by decide +kernel
theorem dX9_second_96 : decode cX9_second 96 = .ok (.iload_n 3, 1) := by decide +kernel
theorem dX9_second_97 : decode cX9_second 97 = .ok (.ireturn, 1) := by decide +kernel
theorem dX9_better_0 : decode cX9_better 0 = .ok (.iload_n 1, 1) := by decide +kernel
theorem dX9_better_1 : decode cX9_better 1 = .ok (.iload_n 2, 1) := by decide +kernel
theorem dX9_better_2 : decode cX9_better 2 = .ok (.invokestatic 172, 3) := by decide +kernel
theorem dX9_better_5 : decode cX9_better 5 = .ok (.ifCond .ne 6, 3) := by decide +kernel
theorem dX9_better_8 : decode cX9_better 8 = .ok (.bipush (-2), 2) := by decide +kernel
theorem dX9_better_10 : decode cX9_better 10 = .ok (.ireturn, 1) := by decide +kernel
theorem dX9_better_11 : decode cX9_better 11 = .ok (.aload_n 0, 1) := by decide +kernel
theorem dX9_better_12 : decode cX9_better 12 = .ok (.invokevirtual 132, 3) := by decide +kernel
theorem dX9_better_15 : decode cX9_better 15 = .ok (.iconst 0, 1) := by decide +kernel
theorem dX9_better_16 : decode cX9_better 16 = .ok (.istore_n 3, 1) := by decide +kernel
theorem dX9_better_17 : decode cX9_better 17 = .ok (.aload_n 0, 1) := by decide +kernel
theorem dX9_better_18 : decode cX9_better 18 = .ok (.aload_n 0, 1) := by decide +kernel
theorem dX9_better_19 : decode cX9_better 19 = .ok (.getfield 37, 3) := by decide +kernel
theorem dX9_better_22 : decode cX9_better 22 = .ok (.iload_n 1, 1) := by decide +kernel
theorem dX9_better_23 : decode cX9_better 23 = .ok (.iload_n 2, 1) := by decide +kernel
theorem dX9_better_24 : decode cX9_better 24 = .ok (.invokevirtual 163, 3) := by decide +kernel
theorem dX9_better_27 : decode cX9_better 27 = .ok (.istore 4, 2) := by decide +kernel
theorem dX9_better_29 : decode cX9_better 29 = .ok (.iconst 1, 1) := by decide +kernel
theorem dX9_better_30 : decode cX9_better 30 = .ok (.istore 5, 2) := by decide +kernel
theorem dX9_better_32 : decode cX9_better 32 = .ok (.iload 5, 2) := by decide +kernel
theorem dX9_better_34 : decode cX9_better 34 = .ok (.ifCond .eq 124, 3) := by decide +kernel
theorem dX9_better_37 : decode cX9_better 37 = .ok (.iconst 0, 1) := by decide +kernel
theorem dX9_better_38 : decode cX9_better 38 = .ok (.istore 5, 2) := by decide +kernel
theorem dX9_better_40 : decode cX9_better 40 = .ok (.iconst 0, 1) := by decide +kernel
theorem dX9_better_41 : decode cX9_better 41 = .ok (.istore 6, 2) := by decide +kernel
theorem dX9_better_43 : decode cX9_better 43 = .ok (.iload 6, 2) := by decide +kernel
theorem dX9_better_45 : decode cX9_better 45 = .ok (.iconst 1, 1) := by decide +kernel
theorem dX9_better_46 : decode cX9_better 46 = .ok (.iadd, 1) := by decide +kernel
theorem dX9_better_47 : decode cX9_better 47 = .ok (.aload_n 0, 1) := by decide +kernel
theorem dX9_better_48 : decode cX9_better 48 = .ok (.getfield 22, 3) := by decide +kernel
theorem dX9_better_51 : decode cX9_better 51 = .ok (.iconst 0, 1) := by decide +kernel
theorem dX9_better_52 : decode cX9_better 52 = .ok (.iaload, 1) := by decide +kernel
theorem dX9_better_53 : decode cX9_better 53 = .ok (.if_icmp .ge 102, 3) := by decide +kernel
theorem dX9_better_56 : decode cX9_better 56 = .ok (.aload_n 0, 1) := by decide +kernel
theorem dX9_better_57 : decode cX9_better 57 = .ok (.getfield 37, 3) := by decide +kernel
theorem dX9_better_60 : decode cX9_better 60 = .ok (.iload 6, 2) := by decide +kernel
theorem dX9_better_62 : decode cX9_better 62 = .ok (.iaload, 1) := by decide +kernel
theorem dX9_better_63 : decode cX9_better 63 = .ok (.istore 7, 2) := by decide +kernel
theorem dX9_better_65 : decode cX9_better 65 = .ok (.aload_n 0, 1) := by decide +kernel
theorem dX9_better_66 : decode cX9_better 66 = .ok (.getfield 37, 3) := by decide +kernel
theorem dX9_better_69 : decode cX9_better 69 = .ok (.iload 6, 2) := by decide +kernel
theorem dX9_better_71 : decode cX9_better 71 = .ok (.aload_n 0, 1) := by decide +kernel
theorem dX9_better_72 : decode cX9_better 72 = .ok (.getfield 37, 3) := by decide +kernel
theorem dX9_better_75 : decode cX9_better 75 = .ok (.iload 6, 2) := by decide +kernel
theorem dX9_better_77 : decode cX9_better 77 = .ok (.iconst 1, 1) := by decide +kernel
theorem dX9_better_78 : decode cX9_better 78 = .ok (.iadd, 1) := by decide +kernel
theorem dX9_better_79 : decode cX9_better 79 = .ok (.iaload, 1) := by decide +kernel
theorem dX9_better_80 : decode cX9_better 80 = .ok (.iastore, 1) := by decide +kernel
theorem dX9_better_81 : decode cX9_better 81 = .ok (.aload_n 0, 1) := by decide +kernel
theorem dX9_better_82 : decode cX9_better 82 = .ok (.getfield 37, 3) := by decide +kernel
theorem dX9_better_85 : decode cX9_better 85 = .ok (.iload 6, 2) := by decide +kernel
theorem dX9_better_87 : decode cX9_better 87 = .ok (.iconst 1, 1) := by decide +kernel
theorem dX9_better_88 : decode cX9_better 88 = .ok (.iadd, 1) := by decide +kernel
theorem dX9_better_89 : decode cX9_better 89 = .ok (.iload 7, 2) := by decide +kernel
theorem dX9_better_91 : decode cX9_better 91 = .ok (.iastore, 1) := by decide +kernel
theorem dX9_better_92 : decode cX9_better 92 = .ok (.aload_n 0, 1) := by decide +kernel
theorem dX9_better_93 : decode cX9_better 93 = .ok (.aload_n 0, 1) := by decide +kernel
theorem dX9_better_94 : decode cX9_better 94 = .ok (.getfield 37, 3) := by decide +kernel
theorem dX9_better_97 : decode cX9_better 97 = .ok (.iload_n 1, 1) := by decide +kernel
theorem dX9_better_98 : decode cX9_better 98 = .ok (.iload_n 2, 1) := by decide +kernel
theorem dX9_better_99 : decode cX9_better 99 = .ok (.invokevirtual 163, 3) := by decide +kernel
theorem dX9_better_102 : decode cX9_better 102 = .ok (.istore 8, 2) := by decide +kernel
theorem dX9_better_104 : decode cX9_better 104 = .ok (.iload 8, 2) := by decide +kernel
theorem dX9_better_106 : decode cX9_better 106 = .ok (.iload 4, 2) := by decide +kernel
theorem dX9_better_108 : decode cX9_better 108 = .ok (.if_icmp .ge 16, 3) := by decide +kernel
theorem dX9_better_111 : decode cX9_better 111 = .ok (.iload 8, 2) := by decide +kernel
theorem dX9_better_113 : decode cX9_better 113 = .ok (.istore 4, 2) := by decide +kernel
theorem dX9_better_115 : decode cX9_better 115 = .ok (.iinc 3 1, 3) := by decide +kernel
theorem dX9_better_118 : decode cX9_better 118 = .ok (.iconst 1, 1) := by decide +kernel
theorem dX9_better_119 : decode cX9_better 119 = .ok (.istore 5, 2) := by decide +kernel
theorem dX9_better_121 : decode cX9_better 121 = .ok (.goto 28, 3) := by decide +kernel
theorem dX9_better_124 : decode cX9_better 124 = .ok (.aload_n 0, 1) := by decide +kernel
theorem dX9_better_125 : decode cX9_better 125 = .ok (.getfield 37, 3) := by decide +kernel
theorem dX9_better_128 : decode cX9_better 128 = .ok (.iload 6, 2) := by decide +kernel
theorem dX9_better_130 : decode cX9_better 130 = .ok (.iconst 1, 1) := by decide +kernel
theorem dX9_better_131 : decode cX9_better 131 = .ok (.iadd, 1) := by decide +kernel
theorem dX9_better_132 : decode cX9_better 132 = .ok (.aload_n 0, 1) := by decide +kernel
theorem dX9_better_133 : decode cX9_better 133 = .ok (.getfield 37, 3) := by decide +kernel
theorem dX9_better_136 : decode cX9_better 136 = .ok (.iload 6, 2) := by decide +kernel
theorem dX9_better_138 : decode cX9_better 138 = .ok (.iaload, 1) := by decide +kernel
theorem dX9_better_139 : decode cX9_better 139 = .ok (.iastore, 1) := by decide +kernel
theorem dX9_better_140 : decode cX9_better 140 = .ok (.aload_n 0, 1) := by decide +kernel
theorem dX9_better_141 : decode cX9_better 141 = .ok (.getfield 37, 3) := by decide +kernel
theorem dX9_better_144 : decode cX9_better 144 = .ok (.iload 6, 2) := by decide +kernel
theorem dX9_better_146 : decode cX9_better 146 = .ok (.iload 7, 2) := by decide +kernel
theorem dX9_better_148 : decode cX9_better 148 = .ok (.iastore, 1) := by decide +kernel
theorem dX9_better_149 : decode cX9_better 149 = .ok (.iinc 6 1, 3) := by decide +kernel
theorem dX9_better_152 : decode cX9_better 152 = .ok (.goto (-109), 3) := by decide +kernel
theorem dX9_better_155 : decode cX9_better 155 = .ok (.goto (-123), 3) := by decide +kernel
theorem dX9_better_158 : decode cX9_better 158 = .ok (.iload_n 3, 1) := by decide +kernel
theorem dX9_better_159 : decode cX9_better 159 = .ok (.ireturn, 1) := by decide +kernel
theorem dX9_best_0 : decode cX9_best 0 = .ok (.aload_n 0, 1) := by decide +kernel
theorem dX9_best_1 : decode cX9_best 1 = .ok (.getfield 167, 3) := by decide +kernel
theorem dX9_best_4 : decode cX9_best 4 = .ok (.ifCond .eq 28, 3) := by decide +kernel
theorem dX9_best_7 : decode cX9_best 7 = .ok (.iload_n 1, 1) := by decide +kernel
theorem dX9_best_8 : decode cX9_best 8 = .ok (.i2l, 1) := by decide +kernel
theorem dX9_best_9 : decode cX9_best 9 = .ok (.lconst 0, 1) := by decide +kernel
theorem dX9_best_10 : decode cX9_best 10 = .ok (.aload_n 0, 1) := by decide +kernel
theorem dX9_best_11 : decode cX9_best 11 = .ok (.getfield 182, 3) := by decide +kernel
theorem dX9_best_14 : decode cX9_best 14 = .ok (.iconst 1, 1) := by decide +kernel
theorem dX9_best_15 : decode cX9_best 15 = .ok (.isub, 1) := by decide +kernel
theorem dX9_best_16 : decode cX9_best 16 = .ok (.i2l, 1) := by decide +kernel
theorem dX9_best_17 : decode cX9_best 17 = .ok (.invokestatic 98, 3) := by decide +kernel
theorem dX9_best_20 : decode cX9_best 20 = .ok (.ifCond .eq 12, 3) := by decide +kernel
theorem dX9_best_23 : decode cX9_best 23 = .ok (.aload_n 0, 1) := by decide +kernel
theorem dX9_best_24 : decode cX9_best 24 = .ok (.getfield 40, 3) := by decide +kernel
theorem dX9_best_27 : decode cX9_best 27 = .ok (.iload_n 1, 1) := by decide +kernel
theorem dX9_best_28 : decode cX9_best 28 = .ok (.iaload, 1) := by decide +kernel
theorem dX9_best_29 : decode cX9_best 29 = .ok (.goto 4, 3) := by decide +kernel
theorem dX9_best_32 : decode cX9_best 32 = .ok (.iconst (-1), 1) := by decide +kernel
theorem dX9_best_33 : decode cX9_best 33 = .ok (.ireturn, 1) := by decide +kernel
theorem dX9_between_0 : decode cX9_between 0 = .ok (.iconst 0, 1) := by decide +kernel
theorem dX9_between_1 : decode cX9_between 1 = .ok (.istore 5, 2) := by decide +kernel
theorem dX9_between_3 : decode cX9_between 3 = .ok (.iload_n 1, 1) := by decide +kernel
theorem dX9_between_4 : decode cX9_between 4 = .ok (.istore 6, 2) := by decide +kernel
theorem dX9_between_6 : decode cX9_between 6 = .ok (.iload 6, 2) := by decide +kernel
theorem dX9_between_8 : decode cX9_between 8 = .ok (.iload_n 2, 1) := by decide +kernel
theorem dX9_between_9 : decode cX9_between 9 = .ok (.if_icmp .ge 47, 3) := by decide +kernel
theorem dX9_between_12 : decode cX9_between 12 = .ok (.aload_n 0, 1) := by decide +kernel
theorem dX9_between_13 : decode cX9_between 13 = .ok (.getfield 201, 3) := by decide +kernel
theorem dX9_between_16 : decode cX9_between 16 = .ok (.ifCond .eq 40, 3) := by decide +kernel
theorem dX9_between_19 : decode cX9_between 19 = .ok (.iload 5, 2) := by decide +kernel
theorem dX9_between_21 : decode cX9_between 21 = .ok (.iload_n 3, 1) := by decide +kernel
theorem dX9_between_22 : decode cX9_between 22 = .ok (.aload_n 0, 1) := by decide +kernel
theorem dX9_between_23 : decode cX9_between 23 = .ok (.getfield 43, 3) := by decide +kernel
theorem dX9_between_26 : decode cX9_between 26 = .ok (.iload 6, 2) := by decide +kernel
theorem dX9_between_28 : decode cX9_between 28 = .ok (.bipush 50, 2) := by decide +kernel
theorem dX9_between_30 : decode cX9_between 30 = .ok (.idiv, 1) := by decide +kernel
theorem dX9_between_31 : decode cX9_between 31 = .ok (.iaload, 1) := by decide +kernel
theorem dX9_between_32 : decode cX9_between 32 = .ok (.imul, 1) := by decide +kernel
theorem dX9_between_33 : decode cX9_between 33 = .ok (.iload 4, 2) := by decide +kernel
theorem dX9_between_35 : decode cX9_between 35 = .ok (.aload_n 0, 1) := by decide +kernel
theorem dX9_between_36 : decode cX9_between 36 = .ok (.getfield 46, 3) := by decide +kernel
theorem dX9_between_39 : decode cX9_between 39 = .ok (.iload 6, 2) := by decide +kernel
theorem dX9_between_41 : decode cX9_between 41 = .ok (.bipush 50, 2) := by decide +kernel
theorem dX9_between_43 : decode cX9_between 43 = .ok (.idiv, 1) := by decide +kernel
theorem dX9_between_44 : decode cX9_between 44 = .ok (.iaload, 1) := by decide +kernel
theorem dX9_between_45 : decode cX9_between 45 = .ok (.imul, 1) := by decide +kernel
theorem dX9_between_46 : decode cX9_between 46 = .ok (.iadd, 1) := by decide +kernel
theorem dX9_between_47 : decode cX9_between 47 = .ok (.iadd, 1) := by decide +kernel
theorem dX9_between_48 : decode cX9_between 48 = .ok (.istore 5, 2) := by decide +kernel
theorem dX9_between_50 : decode cX9_between 50 = .ok (.iinc 6 1, 3) := by decide +kernel
theorem dX9_between_53 : decode cX9_between 53 = .ok (.goto (-47), 3) := by decide +kernel
theorem dX9_between_56 : decode cX9_between 56 = .ok (.aload_n 0, 1) := by decide +kernel
theorem dX9_between_57 : decode cX9_between 57 = .ok (.getfield 201, 3) := by decide +kernel
theorem dX9_between_60 : decode cX9_between 60 = .ok (.ifCond .eq 8, 3) := by decide +kernel
theorem dX9_between_63 : decode cX9_between 63 = .ok (.iload 5, 2) := by decide +kernel
theorem dX9_between_65 : decode cX9_between 65 = .ok (.goto 17, 3) := by decide +kernel
theorem dX9_between_68 : decode cX9_between 68 = .ok (.iload_n 2, 1) := by decide +kernel
theorem dX9_between_69 : decode cX9_between 69 = .ok (.iload_n 1, 1) := by decide +kernel
theorem dX9_between_70 : decode cX9_between 70 = .ok (.if_icmp .le 11, 3) := by decide +kernel
theorem dX9_between_73 : decode cX9_between 73 = .ok (.iload_n 3, 1) := by decide +kernel
theorem dX9_between_74 : decode cX9_between 74 = .ok (.iload_n 2, 1) := by decide +kernel
theorem dX9_between_75 : decode cX9_between 75 = .ok (.iload_n 1, 1) := by decide +kernel
theorem dX9_between_76 : decode cX9_between 76 = .ok (.isub, 1) := by decide +kernel
theorem dX9_between_77 : decode cX9_between 77 = .ok (.imul, 1) := by decide +kernel
theorem dX9_between_78 : decode cX9_between 78 = .ok (.goto 4, 3) := by decide +kernel
theorem dX9_between_81 : decode cX9_between 81 = .ok (.iconst 0, 1) := by decide +kernel
theorem dX9_between_82 : decode cX9_between 82 = .ok (.ireturn, 1) := by decide +kernel
theorem dX9_costOf_0 : decode cX9_costOf 0 = .ok (.iload_n 1, 1) := by decide +kernel
theorem dX9_costOf_1 : decode cX9_costOf 1 = .ok (.iload_n 2, 1) := by decide +kernel
theorem dX9_costOf_2 : decode cX9_costOf 2 = .ok (.if_icmp .ge 14, 3) := by decide +kernel
theorem dX9_costOf_5 : decode cX9_costOf 5 = .ok (.aload_n 0, 1) := by decide +kernel
theorem dX9_costOf_6 : decode cX9_costOf 6 = .ok (.iload_n 1, 1) := by decide +kernel
theorem dX9_costOf_7 : decode cX9_costOf 7 = .ok (.iload_n 2, 1) := by decide +kernel
theorem dX9_costOf_8 : decode cX9_costOf 8 = .ok (.iconst 1, 1) := by decide +kernel
theorem dX9_costOf_9 : decode cX9_costOf 9 = .ok (.iconst 0, 1) := by decide +kernel
theorem dX9_costOf_10 : decode cX9_costOf 10 = .ok (.invokevirtual 204, 3) := by decide +kernel
theorem dX9_costOf_13 : decode cX9_costOf 13 = .ok (.goto 11, 3) := by decide +kernel
theorem dX9_costOf_16 : decode cX9_costOf 16 = .ok (.aload_n 0, 1) := by decide +kernel
theorem dX9_costOf_17 : decode cX9_costOf 17 = .ok (.iload_n 2, 1) := by decide +kernel
theorem dX9_costOf_18 : decode cX9_costOf 18 = .ok (.iload_n 1, 1) := by decide +kernel
theorem dX9_costOf_19 : decode cX9_costOf 19 = .ok (.iconst 0, 1) := by decide +kernel
theorem dX9_costOf_20 : decode cX9_costOf 20 = .ok (.iconst 1, 1) := by decide +kernel
theorem dX9_costOf_21 : decode cX9_costOf 21 = .ok (.invokevirtual 204, 3) := by decide +kernel
theorem dX9_costOf_24 : decode cX9_costOf 24 = .ok (.ireturn, 1) := by decide +kernel
theorem dX9_sorts_0 : decode cX9_sorts 0 = .ok (.iconst 0, 1) := by decide +kernel
theorem dX9_sorts_1 : decode cX9_sorts 1 = .ok (.istore_n 3, 1) := by decide +kernel
theorem dX9_sorts_2 : decode cX9_sorts 2 = .ok (.iload_n 3, 1) := by decide +kernel
theorem dX9_sorts_3 : decode cX9_sorts 3 = .ok (.aload_n 0, 1) := by decide +kernel
theorem dX9_sorts_4 : decode cX9_sorts 4 = .ok (.getfield 208, 3) := by decide +kernel
theorem dX9_sorts_7 : decode cX9_sorts 7 = .ok (.if_icmp .ge 52, 3) := by decide +kernel
theorem dX9_sorts_10 : decode cX9_sorts 10 = .ok (.iload_n 3, 1) := by decide +kernel
theorem dX9_sorts_11 : decode cX9_sorts 11 = .ok (.istore 4, 2) := by decide +kernel
theorem dX9_sorts_13 : decode cX9_sorts 13 = .ok (.iload 4, 2) := by decide +kernel
theorem dX9_sorts_15 : decode cX9_sorts 15 = .ok (.ifCond .le 33, 3) := by decide +kernel
theorem dX9_sorts_18 : decode cX9_sorts 18 = .ok (.aload_n 2, 1) := by decide +kernel
theorem dX9_sorts_19 : decode cX9_sorts 19 = .ok (.aload_n 1, 1) := by decide +kernel
theorem dX9_sorts_20 : decode cX9_sorts 20 = .ok (.iload 4, 2) := by decide +kernel
theorem dX9_sorts_22 : decode cX9_sorts 22 = .ok (.iconst 1, 1) := by decide +kernel
theorem dX9_sorts_23 : decode cX9_sorts 23 = .ok (.isub, 1) := by decide +kernel
theorem dX9_sorts_24 : decode cX9_sorts 24 = .ok (.iaload, 1) := by decide +kernel
theorem dX9_sorts_25 : decode cX9_sorts 25 = .ok (.iaload, 1) := by decide +kernel
theorem dX9_sorts_26 : decode cX9_sorts 26 = .ok (.aload_n 2, 1) := by decide +kernel
theorem dX9_sorts_27 : decode cX9_sorts 27 = .ok (.iload_n 3, 1) := by decide +kernel
theorem dX9_sorts_28 : decode cX9_sorts 28 = .ok (.iaload, 1) := by decide +kernel
theorem dX9_sorts_29 : decode cX9_sorts 29 = .ok (.if_icmp .le 19, 3) := by decide +kernel
theorem dX9_sorts_32 : decode cX9_sorts 32 = .ok (.aload_n 1, 1) := by decide +kernel
theorem dX9_sorts_33 : decode cX9_sorts 33 = .ok (.iload 4, 2) := by decide +kernel
theorem dX9_sorts_35 : decode cX9_sorts 35 = .ok (.aload_n 1, 1) := by decide +kernel
theorem dX9_sorts_36 : decode cX9_sorts 36 = .ok (.iload 4, 2) := by decide +kernel
theorem dX9_sorts_38 : decode cX9_sorts 38 = .ok (.iconst 1, 1) := by decide +kernel
theorem dX9_sorts_39 : decode cX9_sorts 39 = .ok (.isub, 1) := by decide +kernel
theorem dX9_sorts_40 : decode cX9_sorts 40 = .ok (.iaload, 1) := by decide +kernel
theorem dX9_sorts_41 : decode cX9_sorts 41 = .ok (.iastore, 1) := by decide +kernel
theorem dX9_sorts_42 : decode cX9_sorts 42 = .ok (.iinc 4 (-1), 3) := by decide +kernel
theorem dX9_sorts_45 : decode cX9_sorts 45 = .ok (.goto (-32), 3) := by decide +kernel
theorem dX9_sorts_48 : decode cX9_sorts 48 = .ok (.aload_n 1, 1) := by decide +kernel
theorem dX9_sorts_49 : decode cX9_sorts 49 = .ok (.iload 4, 2) := by decide +kernel
theorem dX9_sorts_51 : decode cX9_sorts 51 = .ok (.iload_n 3, 1) := by decide +kernel
theorem dX9_sorts_52 : decode cX9_sorts 52 = .ok (.iastore, 1) := by decide +kernel
theorem dX9_sorts_53 : decode cX9_sorts 53 = .ok (.iinc 3 1, 3) := by decide +kernel
theorem dX9_sorts_56 : decode cX9_sorts 56 = .ok (.goto (-54), 3) := by decide +kernel
theorem dX9_sorts_59 : decode cX9_sorts 59 = .ok (.return_, 1) := by decide +kernel
theorem dX9_ringCost_0 : decode cX9_ringCost 0 = .ok (.iconst 0, 1) := by decide +kernel
theorem dX9_ringCost_1 : decode cX9_ringCost 1 = .ok (.istore_n 1, 1) := by decide +kernel
theorem dX9_ringCost_2 : decode cX9_ringCost 2 = .ok (.iconst 0, 1) := by decide +kernel
theorem dX9_ringCost_3 : decode cX9_ringCost 3 = .ok (.istore_n 2, 1) := by decide +kernel
theorem dX9_ringCost_4 : decode cX9_ringCost 4 = .ok (.iload_n 2, 1) := by decide +kernel
theorem dX9_ringCost_5 : decode cX9_ringCost 5 = .ok (.aload_n 0, 1) := by decide +kernel
theorem dX9_ringCost_6 : decode cX9_ringCost 6 = .ok (.getfield 208, 3) := by decide +kernel
theorem dX9_ringCost_9 : decode cX9_ringCost 9 = .ok (.if_icmp .ge 33, 3) := by decide +kernel
theorem dX9_ringCost_12 : decode cX9_ringCost 12 = .ok (.iload_n 1, 1) := by decide +kernel
theorem dX9_ringCost_13 : decode cX9_ringCost 13 = .ok (.aload_n 0, 1) := by decide +kernel
theorem dX9_ringCost_14 : decode cX9_ringCost 14 = .ok (.aload_n 0, 1) := by decide +kernel
theorem dX9_ringCost_15 : decode cX9_ringCost 15 = .ok (.getfield 61, 3) := by decide +kernel
theorem dX9_ringCost_18 : decode cX9_ringCost 18 = .ok (.iload_n 2, 1) := by decide +kernel
theorem dX9_ringCost_19 : decode cX9_ringCost 19 = .ok (.iaload, 1) := by decide +kernel
theorem dX9_ringCost_20 : decode cX9_ringCost 20 = .ok (.aload_n 0, 1) := by decide +kernel
theorem dX9_ringCost_21 : decode cX9_ringCost 21 = .ok (.getfield 58, 3) := by decide +kernel
theorem dX9_ringCost_24 : decode cX9_ringCost 24 = .ok (.aload_n 0, 1) := by decide +kernel
theorem dX9_ringCost_25 : decode cX9_ringCost 25 = .ok (.getfield 70, 3) := by decide +kernel
theorem dX9_ringCost_28 : decode cX9_ringCost 28 = .ok (.iload_n 2, 1) := by decide +kernel
theorem dX9_ringCost_29 : decode cX9_ringCost 29 = .ok (.iaload, 1) := by decide +kernel
theorem dX9_ringCost_30 : decode cX9_ringCost 30 = .ok (.iaload, 1) := by decide +kernel
theorem dX9_ringCost_31 : decode cX9_ringCost 31 = .ok (.invokevirtual 211, 3) := by decide +kernel
theorem dX9_ringCost_34 : decode cX9_ringCost 34 = .ok (.iadd, 1) := by decide +kernel
theorem dX9_ringCost_35 : decode cX9_ringCost 35 = .ok (.istore_n 1, 1) := by decide +kernel
theorem dX9_ringCost_36 : decode cX9_ringCost 36 = .ok (.iinc 2 1, 3) := by decide +kernel
theorem dX9_ringCost_39 : decode cX9_ringCost 39 = .ok (.goto (-35), 3) := by decide +kernel
theorem dX9_ringCost_42 : decode cX9_ringCost 42 = .ok (.iload_n 1, 1) := by decide +kernel
theorem dX9_ringCost_43 : decode cX9_ringCost 43 = .ok (.ireturn, 1) := by decide +kernel
theorem dX9_higher_0 : decode cX9_higher 0 = .ok (.aload_n 0, 1) := by decide +kernel
theorem dX9_higher_1 : decode cX9_higher 1 = .ok (.getfield 61, 3) := by decide +kernel
theorem dX9_higher_4 : decode cX9_higher 4 = .ok (.aload_n 0, 1) := by decide +kernel
theorem dX9_higher_5 : decode cX9_higher 5 = .ok (.getfield 64, 3) := by decide +kernel
theorem dX9_higher_8 : decode cX9_higher 8 = .ok (.iload_n 1, 1) := by decide +kernel
theorem dX9_higher_9 : decode cX9_higher 9 = .ok (.iaload, 1) := by decide +kernel
theorem dX9_higher_10 : decode cX9_higher 10 = .ok (.iaload, 1) := by decide +kernel
theorem dX9_higher_11 : decode cX9_higher 11 = .ok (.aload_n 0, 1) := by decide +kernel
theorem dX9_higher_12 : decode cX9_higher 12 = .ok (.getfield 58, 3) := by decide +kernel
theorem dX9_higher_15 : decode cX9_higher 15 = .ok (.aload_n 0, 1) := by decide +kernel
theorem dX9_higher_16 : decode cX9_higher 16 = .ok (.getfield 67, 3) := by decide +kernel
theorem dX9_higher_19 : decode cX9_higher 19 = .ok (.iload_n 1, 1) := by decide +kernel
theorem dX9_higher_20 : decode cX9_higher 20 = .ok (.iaload, 1) := by decide +kernel
theorem dX9_higher_21 : decode cX9_higher 21 = .ok (.iaload, 1) := by decide +kernel
theorem dX9_higher_22 : decode cX9_higher 22 = .ok (.if_icmp .le 17, 3) := by decide +kernel
theorem dX9_higher_25 : decode cX9_higher 25 = .ok (.aload_n 0, 1) := by decide +kernel
theorem dX9_higher_26 : decode cX9_higher 26 = .ok (.getfield 61, 3) := by decide +kernel
theorem dX9_higher_29 : decode cX9_higher 29 = .ok (.aload_n 0, 1) := by decide +kernel
theorem dX9_higher_30 : decode cX9_higher 30 = .ok (.getfield 64, 3) := by decide +kernel
theorem dX9_higher_33 : decode cX9_higher 33 = .ok (.iload_n 1, 1) := by decide +kernel
theorem dX9_higher_34 : decode cX9_higher 34 = .ok (.iaload, 1) := by decide +kernel
theorem dX9_higher_35 : decode cX9_higher 35 = .ok (.iaload, 1) := by decide +kernel
theorem dX9_higher_36 : decode cX9_higher 36 = .ok (.goto 14, 3) := by decide +kernel
theorem dX9_higher_39 : decode cX9_higher 39 = .ok (.aload_n 0, 1) := by decide +kernel
theorem dX9_higher_40 : decode cX9_higher 40 = .ok (.getfield 58, 3) := by decide +kernel
theorem dX9_higher_43 : decode cX9_higher 43 = .ok (.aload_n 0, 1) := by decide +kernel
theorem dX9_higher_44 : decode cX9_higher 44 = .ok (.getfield 67, 3) := by decide +kernel
theorem dX9_higher_47 : decode cX9_higher 47 = .ok (.iload_n 1, 1) := by decide +kernel
theorem dX9_higher_48 : decode cX9_higher 48 = .ok (.iaload, 1) := by decide +kernel
theorem dX9_higher_49 : decode cX9_higher 49 = .ok (.iaload, 1) := by decide +kernel
theorem dX9_higher_50 : decode cX9_higher 50 = .ok (.ireturn, 1) := by decide +kernel
theorem dX9_lower_0 : decode cX9_lower 0 = .ok (.aload_n 0, 1) := by decide +kernel
theorem dX9_lower_1 : decode cX9_lower 1 = .ok (.getfield 61, 3) := by decide +kernel
theorem dX9_lower_4 : decode cX9_lower 4 = .ok (.aload_n 0, 1) := by decide +kernel
theorem dX9_lower_5 : decode cX9_lower 5 = .ok (.getfield 64, 3) := by decide +kernel
theorem dX9_lower_8 : decode cX9_lower 8 = .ok (.iload_n 1, 1) := by decide +kernel
theorem dX9_lower_9 : decode cX9_lower 9 = .ok (.iaload, 1) := by decide +kernel
theorem dX9_lower_10 : decode cX9_lower 10 = .ok (.iaload, 1) := by decide +kernel
theorem dX9_lower_11 : decode cX9_lower 11 = .ok (.aload_n 0, 1) := by decide +kernel
theorem dX9_lower_12 : decode cX9_lower 12 = .ok (.getfield 58, 3) := by decide +kernel
theorem dX9_lower_15 : decode cX9_lower 15 = .ok (.aload_n 0, 1) := by decide +kernel
theorem dX9_lower_16 : decode cX9_lower 16 = .ok (.getfield 67, 3) := by decide +kernel
theorem dX9_lower_19 : decode cX9_lower 19 = .ok (.iload_n 1, 1) := by decide +kernel
theorem dX9_lower_20 : decode cX9_lower 20 = .ok (.iaload, 1) := by decide +kernel
theorem dX9_lower_21 : decode cX9_lower 21 = .ok (.iaload, 1) := by decide +kernel
theorem dX9_lower_22 : decode cX9_lower 22 = .ok (.if_icmp .ge 17, 3) := by decide +kernel
theorem dX9_lower_25 : decode cX9_lower 25 = .ok (.aload_n 0, 1) := by decide +kernel
theorem dX9_lower_26 : decode cX9_lower 26 = .ok (.getfield 61, 3) := by decide +kernel
theorem dX9_lower_29 : decode cX9_lower 29 = .ok (.aload_n 0, 1) := by decide +kernel
theorem dX9_lower_30 : decode cX9_lower 30 = .ok (.getfield 64, 3) := by decide +kernel
theorem dX9_lower_33 : decode cX9_lower 33 = .ok (.iload_n 1, 1) := by decide +kernel
theorem dX9_lower_34 : decode cX9_lower 34 = .ok (.iaload, 1) := by decide +kernel
theorem dX9_lower_35 : decode cX9_lower 35 = .ok (.iaload, 1) := by decide +kernel
theorem dX9_lower_36 : decode cX9_lower 36 = .ok (.goto 14, 3) := by decide +kernel
theorem dX9_lower_39 : decode cX9_lower 39 = .ok (.aload_n 0, 1) := by decide +kernel
theorem dX9_lower_40 : decode cX9_lower 40 = .ok (.getfield 58, 3) := by decide +kernel
theorem dX9_lower_43 : decode cX9_lower 43 = .ok (.aload_n 0, 1) := by decide +kernel
theorem dX9_lower_44 : decode cX9_lower 44 = .ok (.getfield 67, 3) := by decide +kernel
theorem dX9_lower_47 : decode cX9_lower 47 = .ok (.iload_n 1, 1) := by decide +kernel
theorem dX9_lower_48 : decode cX9_lower 48 = .ok (.iaload, 1) := by decide +kernel
theorem dX9_lower_49 : decode cX9_lower 49 = .ok (.iaload, 1) := by decide +kernel
theorem dX9_lower_50 : decode cX9_lower 50 = .ok (.ireturn, 1) := by decide +kernel
theorem dX9_exchange_0 : decode cX9_exchange 0 = .ok (.aload_n 0, 1) := by decide +kernel
theorem dX9_exchange_1 : decode cX9_exchange 1 = .ok (.getfield 70, 3) := by decide +kernel
theorem dX9_exchange_4 : decode cX9_exchange 4 = .ok (.aload_n 0, 1) := by decide +kernel
theorem dX9_exchange_5 : decode cX9_exchange 5 = .ok (.getfield 64, 3) := by decide +kernel
theorem dX9_exchange_8 : decode cX9_exchange 8 = .ok (.iload_n 1, 1) := by decide +kernel
theorem dX9_exchange_9 : decode cX9_exchange 9 = .ok (.iaload, 1) := by decide +kernel
theorem dX9_exchange_10 : decode cX9_exchange 10 = .ok (.iaload, 1) := by decide +kernel
theorem dX9_exchange_11 : decode cX9_exchange 11 = .ok (.istore_n 2, 1) := by decide +kernel
theorem dX9_exchange_12 : decode cX9_exchange 12 = .ok (.aload_n 0, 1) := by decide +kernel
theorem dX9_exchange_13 : decode cX9_exchange 13 = .ok (.getfield 70, 3) := by decide +kernel
theorem dX9_exchange_16 : decode cX9_exchange 16 = .ok (.aload_n 0, 1) := by decide +kernel
theorem dX9_exchange_17 : decode cX9_exchange 17 = .ok (.getfield 64, 3) := by decide +kernel
theorem dX9_exchange_20 : decode cX9_exchange 20 = .ok (.iload_n 1, 1) := by decide +kernel
theorem dX9_exchange_21 : decode cX9_exchange 21 = .ok (.iaload, 1) := by decide +kernel
theorem dX9_exchange_22 : decode cX9_exchange 22 = .ok (.aload_n 0, 1) := by decide +kernel
theorem dX9_exchange_23 : decode cX9_exchange 23 = .ok (.getfield 70, 3) := by decide +kernel
theorem dX9_exchange_26 : decode cX9_exchange 26 = .ok (.aload_n 0, 1) := by decide +kernel
theorem dX9_exchange_27 : decode cX9_exchange 27 = .ok (.getfield 64, 3) := by decide +kernel
theorem dX9_exchange_30 : decode cX9_exchange 30 = .ok (.iload_n 1, 1) := by decide +kernel
theorem dX9_exchange_31 : decode cX9_exchange 31 = .ok (.iconst 1, 1) := by decide +kernel
theorem dX9_exchange_32 : decode cX9_exchange 32 = .ok (.iadd, 1) := by decide +kernel
theorem dX9_exchange_33 : decode cX9_exchange 33 = .ok (.iaload, 1) := by decide +kernel
theorem dX9_exchange_34 : decode cX9_exchange 34 = .ok (.iaload, 1) := by decide +kernel
theorem dX9_exchange_35 : decode cX9_exchange 35 = .ok (.iastore, 1) := by decide +kernel
theorem dX9_exchange_36 : decode cX9_exchange 36 = .ok (.aload_n 0, 1) := by decide +kernel
theorem dX9_exchange_37 : decode cX9_exchange 37 = .ok (.getfield 70, 3) := by decide +kernel
theorem dX9_exchange_40 : decode cX9_exchange 40 = .ok (.aload_n 0, 1) := by decide +kernel
theorem dX9_exchange_41 : decode cX9_exchange 41 = .ok (.getfield 64, 3) := by decide +kernel
theorem dX9_exchange_44 : decode cX9_exchange 44 = .ok (.iload_n 1, 1) := by decide +kernel
theorem dX9_exchange_45 : decode cX9_exchange 45 = .ok (.iconst 1, 1) := by decide +kernel
theorem dX9_exchange_46 : decode cX9_exchange 46 = .ok (.iadd, 1) := by decide +kernel
theorem dX9_exchange_47 : decode cX9_exchange 47 = .ok (.iaload, 1) := by decide +kernel
theorem dX9_exchange_48 : decode cX9_exchange 48 = .ok (.iload_n 2, 1) := by decide +kernel
theorem dX9_exchange_49 : decode cX9_exchange 49 = .ok (.iastore, 1) := by decide +kernel
theorem dX9_exchange_50 : decode cX9_exchange 50 = .ok (.return_, 1) := by decide +kernel
theorem dX9_joined_0 : decode cX9_joined 0 = .ok (.aload_n 0, 1) := by decide +kernel
theorem dX9_joined_1 : decode cX9_joined 1 = .ok (.aload_n 0, 1) := by decide +kernel
theorem dX9_joined_2 : decode cX9_joined 2 = .ok (.getfield 64, 3) := by decide +kernel
theorem dX9_joined_5 : decode cX9_joined 5 = .ok (.aload_n 0, 1) := by decide +kernel
theorem dX9_joined_6 : decode cX9_joined 6 = .ok (.getfield 61, 3) := by decide +kernel
theorem dX9_joined_9 : decode cX9_joined 9 = .ok (.invokevirtual 215, 3) := by decide +kernel
theorem dX9_joined_12 : decode cX9_joined 12 = .ok (.aload_n 0, 1) := by decide +kernel
theorem dX9_joined_13 : decode cX9_joined 13 = .ok (.aload_n 0, 1) := by decide +kernel
theorem dX9_joined_14 : decode cX9_joined 14 = .ok (.getfield 67, 3) := by decide +kernel
theorem dX9_joined_17 : decode cX9_joined 17 = .ok (.aload_n 0, 1) := by decide +kernel
theorem dX9_joined_18 : decode cX9_joined 18 = .ok (.getfield 58, 3) := by decide +kernel
theorem dX9_joined_21 : decode cX9_joined 21 = .ok (.invokevirtual 215, 3) := by decide +kernel
theorem dX9_joined_24 : decode cX9_joined 24 = .ok (.iconst 0, 1) := by decide +kernel
theorem dX9_joined_25 : decode cX9_joined 25 = .ok (.istore_n 1, 1) := by decide +kernel
theorem dX9_joined_26 : decode cX9_joined 26 = .ok (.iload_n 1, 1) := by decide +kernel
theorem dX9_joined_27 : decode cX9_joined 27 = .ok (.aload_n 0, 1) := by decide +kernel
theorem dX9_joined_28 : decode cX9_joined 28 = .ok (.getfield 208, 3) := by decide +kernel
theorem dX9_joined_31 : decode cX9_joined 31 = .ok (.if_icmp .ge 47, 3) := by decide +kernel
theorem dX9_joined_34 : decode cX9_joined 34 = .ok (.aload_n 0, 1) := by decide +kernel
theorem dX9_joined_35 : decode cX9_joined 35 = .ok (.getfield 70, 3) := by decide +kernel
theorem dX9_joined_38 : decode cX9_joined 38 = .ok (.aload_n 0, 1) := by decide +kernel
theorem dX9_joined_39 : decode cX9_joined 39 = .ok (.getfield 64, 3) := by decide +kernel
theorem dX9_joined_42 : decode cX9_joined 42 = .ok (.iload_n 1, 1) := by decide +kernel
theorem dX9_joined_43 : decode cX9_joined 43 = .ok (.iaload, 1) := by decide +kernel
theorem dX9_joined_44 : decode cX9_joined 44 = .ok (.aload_n 0, 1) := by decide +kernel
theorem dX9_joined_45 : decode cX9_joined 45 = .ok (.getfield 67, 3) := by decide +kernel
theorem dX9_joined_48 : decode cX9_joined 48 = .ok (.iload_n 1, 1) := by decide +kernel
theorem dX9_joined_49 : decode cX9_joined 49 = .ok (.iaload, 1) := by decide +kernel
theorem dX9_joined_50 : decode cX9_joined 50 = .ok (.iastore, 1) := by decide +kernel
theorem dX9_joined_51 : decode cX9_joined 51 = .ok (.aload_n 0, 1) := by decide +kernel
theorem dX9_joined_52 : decode cX9_joined 52 = .ok (.getfield 73, 3) := by decide +kernel
theorem dX9_joined_55 : decode cX9_joined 55 = .ok (.iload_n 1, 1) := by decide +kernel
theorem dX9_joined_56 : decode cX9_joined 56 = .ok (.iconst (-1), 1) := by decide +kernel
theorem dX9_joined_57 : decode cX9_joined 57 = .ok (.iastore, 1) := by decide +kernel
theorem dX9_joined_58 : decode cX9_joined 58 = .ok (.aload_n 0, 1) := by decide +kernel
theorem dX9_joined_59 : decode cX9_joined 59 = .ok (.getfield 79, 3) := by decide +kernel
theorem dX9_joined_62 : decode cX9_joined 62 = .ok (.iload_n 1, 1) := by decide +kernel
theorem dX9_joined_63 : decode cX9_joined 63 = .ok (.iconst 0, 1) := by decide +kernel
theorem dX9_joined_64 : decode cX9_joined 64 = .ok (.bastore, 1) := by decide +kernel
theorem dX9_joined_65 : decode cX9_joined 65 = .ok (.aload_n 0, 1) := by decide +kernel
theorem dX9_joined_66 : decode cX9_joined 66 = .ok (.getfield 83, 3) := by decide +kernel
theorem dX9_joined_69 : decode cX9_joined 69 = .ok (.iload_n 1, 1) := by decide +kernel
theorem dX9_joined_70 : decode cX9_joined 70 = .ok (.iconst 0, 1) := by decide +kernel
theorem dX9_joined_71 : decode cX9_joined 71 = .ok (.bastore, 1) := by decide +kernel
theorem dX9_joined_72 : decode cX9_joined 72 = .ok (.iinc 1 1, 3) := by decide +kernel
theorem dX9_joined_75 : decode cX9_joined 75 = .ok (.goto (-49), 3) := by decide +kernel
theorem dX9_joined_78 : decode cX9_joined 78 = .ok (.aload_n 0, 1) := by decide +kernel
theorem dX9_joined_79 : decode cX9_joined 79 = .ok (.iconst 1, 1) := by decide +kernel
theorem dX9_joined_80 : decode cX9_joined 80 = .ok (.putfield 219, 3) := by decide +kernel
theorem dX9_joined_83 : decode cX9_joined 83 = .ok (.aload_n 0, 1) := by decide +kernel
theorem dX9_joined_84 : decode cX9_joined 84 = .ok (.getfield 86, 3) := by decide +kernel
theorem dX9_joined_87 : decode cX9_joined 87 = .ok (.iconst 0, 1) := by decide +kernel
theorem dX9_joined_88 : decode cX9_joined 88 = .ok (.iconst 0, 1) := by decide +kernel
theorem dX9_joined_89 : decode cX9_joined 89 = .ok (.iastore, 1) := by decide +kernel
theorem dX9_joined_90 : decode cX9_joined 90 = .ok (.aload_n 0, 1) := by decide +kernel
theorem dX9_joined_91 : decode cX9_joined 91 = .ok (.getfield 86, 3) := by decide +kernel
theorem dX9_joined_94 : decode cX9_joined 94 = .ok (.iconst 2, 1) := by decide +kernel
theorem dX9_joined_95 : decode cX9_joined 95 = .ok (.iconst 0, 1) := by decide +kernel
theorem dX9_joined_96 : decode cX9_joined 96 = .ok (.iastore, 1) := by decide +kernel
theorem dX9_joined_97 : decode cX9_joined 97 = .ok (.aload_n 0, 1) := by decide +kernel
theorem dX9_joined_98 : decode cX9_joined 98 = .ok (.getfield 86, 3) := by decide +kernel
theorem dX9_joined_101 : decode cX9_joined 101 = .ok (.iconst 3, 1) := by decide +kernel
theorem dX9_joined_102 : decode cX9_joined 102 = .ok (.iconst 0, 1) := by decide +kernel
theorem dX9_joined_103 : decode cX9_joined 103 = .ok (.iastore, 1) := by decide +kernel
theorem dX9_joined_104 : decode cX9_joined 104 = .ok (.iconst 0, 1) := by decide +kernel
theorem dX9_joined_105 : decode cX9_joined 105 = .ok (.istore_n 1, 1) := by decide +kernel
theorem dX9_joined_106 : decode cX9_joined 106 = .ok (.iload_n 1, 1) := by decide +kernel
theorem dX9_joined_107 : decode cX9_joined 107 = .ok (.aload_n 0, 1) := by decide +kernel
theorem dX9_joined_108 : decode cX9_joined 108 = .ok (.getfield 208, 3) := by decide +kernel
theorem dX9_joined_111 : decode cX9_joined 111 = .ok (.if_icmp .ge 62, 3) := by decide +kernel
theorem dX9_joined_114 : decode cX9_joined 114 = .ok (.iload_n 1, 1) := by decide +kernel
theorem dX9_joined_115 : decode cX9_joined 115 = .ok (.istore_n 2, 1) := by decide +kernel
theorem dX9_joined_116 : decode cX9_joined 116 = .ok (.aload_n 0, 1) := by decide +kernel
theorem dX9_joined_117 : decode cX9_joined 117 = .ok (.getfield 86, 3) := by decide +kernel
theorem dX9_joined_120 : decode cX9_joined 120 = .ok (.iconst 0, 1) := by decide +kernel
theorem dX9_joined_121 : decode cX9_joined 121 = .ok (.dup2, 1) := by decide +kernel
theorem dX9_joined_122 : decode cX9_joined 122 = .ok (.iaload, 1) := by decide +kernel
theorem dX9_joined_123 : decode cX9_joined 123 = .ok (.aload_n 0, 1) := by decide +kernel
theorem dX9_joined_124 : decode cX9_joined 124 = .ok (.getfield 73, 3) := by decide +kernel
theorem dX9_joined_127 : decode cX9_joined 127 = .ok (.iload_n 1, 1) := by decide +kernel
theorem dX9_joined_128 : decode cX9_joined 128 = .ok (.iaload, 1) := by decide +kernel
theorem dX9_joined_129 : decode cX9_joined 129 = .ok (.iconst (-1), 1) := by decide +kernel
theorem dX9_joined_130 : decode cX9_joined 130 = .ok (.if_icmp .ne 7, 3) := by decide +kernel
theorem dX9_joined_133 : decode cX9_joined 133 = .ok (.iconst 1, 1) := by decide +kernel
theorem dX9_joined_134 : decode cX9_joined 134 = .ok (.goto 4, 3) := by decide +kernel
theorem dX9_joined_137 : decode cX9_joined 137 = .ok (.iconst 0, 1) := by decide +kernel
theorem dX9_joined_138 : decode cX9_joined 138 = .ok (.iadd, 1) := by decide +kernel
theorem dX9_joined_139 : decode cX9_joined 139 = .ok (.iastore, 1) := by decide +kernel
theorem dX9_joined_140 : decode cX9_joined 140 = .ok (.aload_n 0, 1) := by decide +kernel
theorem dX9_joined_141 : decode cX9_joined 141 = .ok (.getfield 73, 3) := by decide +kernel
theorem dX9_joined_144 : decode cX9_joined 144 = .ok (.iload_n 2, 1) := by decide +kernel
theorem dX9_joined_145 : decode cX9_joined 145 = .ok (.iaload, 1) := by decide +kernel
theorem dX9_joined_146 : decode cX9_joined 146 = .ok (.iconst (-1), 1) := by decide +kernel
theorem dX9_joined_147 : decode cX9_joined 147 = .ok (.if_icmp .ne 20, 3) := by decide +kernel
theorem dX9_joined_150 : decode cX9_joined 150 = .ok (.aload_n 0, 1) := by decide +kernel
theorem dX9_joined_151 : decode cX9_joined 151 = .ok (.getfield 73, 3) := by decide +kernel
theorem dX9_joined_154 : decode cX9_joined 154 = .ok (.iload_n 2, 1) := by decide +kernel
theorem dX9_joined_155 : decode cX9_joined 155 = .ok (.iload_n 1, 1) := by decide +kernel
theorem dX9_joined_156 : decode cX9_joined 156 = .ok (.iastore, 1) := by decide +kernel
theorem dX9_joined_157 : decode cX9_joined 157 = .ok (.aload_n 0, 1) := by decide +kernel
theorem dX9_joined_158 : decode cX9_joined 158 = .ok (.getfield 70, 3) := by decide +kernel
theorem dX9_joined_161 : decode cX9_joined 161 = .ok (.iload_n 2, 1) := by decide +kernel
theorem dX9_joined_162 : decode cX9_joined 162 = .ok (.iaload, 1) := by decide +kernel
theorem dX9_joined_163 : decode cX9_joined 163 = .ok (.istore_n 2, 1) := by decide +kernel
theorem dX9_joined_164 : decode cX9_joined 164 = .ok (.goto (-24), 3) := by decide +kernel
theorem dX9_joined_167 : decode cX9_joined 167 = .ok (.iinc 1 1, 3) := by decide +kernel
theorem dX9_joined_170 : decode cX9_joined 170 = .ok (.goto (-64), 3) := by decide +kernel
theorem dX9_joined_173 : decode cX9_joined 173 = .ok (.aload_n 0, 1) := by decide +kernel
theorem dX9_joined_174 : decode cX9_joined 174 = .ok (.getfield 86, 3) := by decide +kernel
theorem dX9_joined_177 : decode cX9_joined 177 = .ok (.iconst 1, 1) := by decide +kernel
theorem dX9_joined_178 : decode cX9_joined 178 = .ok (.aload_n 0, 1) := by decide +kernel
theorem dX9_joined_179 : decode cX9_joined 179 = .ok (.invokevirtual 222, 3) := by decide +kernel
theorem dX9_joined_182 : decode cX9_joined 182 = .ok (.iastore, 1) := by decide +kernel
theorem dX9_joined_183 : decode cX9_joined 183 = .ok (.iconst 0, 1) := by decide +kernel
theorem dX9_joined_184 : decode cX9_joined 184 = .ok (.istore_n 1, 1) := by decide +kernel
theorem dX9_joined_185 : decode cX9_joined 185 = .ok (.iload_n 1, 1) := by decide +kernel
theorem dX9_joined_186 : decode cX9_joined 186 = .ok (.iconst 1, 1) := by decide +kernel
theorem dX9_joined_187 : decode cX9_joined 187 = .ok (.iadd, 1) := by decide +kernel
theorem dX9_joined_188 : decode cX9_joined 188 = .ok (.aload_n 0, 1) := by decide +kernel
theorem dX9_joined_189 : decode cX9_joined 189 = .ok (.getfield 208, 3) := by decide +kernel
theorem dX9_joined_192 : decode cX9_joined 192 = .ok (.if_icmp .ge 46, 3) := by decide +kernel
theorem dX9_joined_195 : decode cX9_joined 195 = .ok (.aload_n 0, 1) := by decide +kernel
theorem dX9_joined_196 : decode cX9_joined 196 = .ok (.iload_n 1, 1) := by decide +kernel
theorem dX9_joined_197 : decode cX9_joined 197 = .ok (.invokevirtual 225, 3) := by decide +kernel
theorem dX9_joined_200 : decode cX9_joined 200 = .ok (.istore_n 2, 1) := by decide +kernel
theorem dX9_joined_201 : decode cX9_joined 201 = .ok (.aload_n 0, 1) := by decide +kernel
theorem dX9_joined_202 : decode cX9_joined 202 = .ok (.iload_n 1, 1) := by decide +kernel
theorem dX9_joined_203 : decode cX9_joined 203 = .ok (.iconst 1, 1) := by decide +kernel
theorem dX9_joined_204 : decode cX9_joined 204 = .ok (.iadd, 1) := by decide +kernel
theorem dX9_joined_205 : decode cX9_joined 205 = .ok (.invokevirtual 228, 3) := by decide +kernel
theorem dX9_joined_208 : decode cX9_joined 208 = .ok (.istore_n 3, 1) := by decide +kernel
theorem dX9_joined_209 : decode cX9_joined 209 = .ok (.aload_n 0, 1) := by decide +kernel
theorem dX9_joined_210 : decode cX9_joined 210 = .ok (.getfield 76, 3) := by decide +kernel
theorem dX9_joined_213 : decode cX9_joined 213 = .ok (.iload_n 1, 1) := by decide +kernel
theorem dX9_joined_214 : decode cX9_joined 214 = .ok (.iload_n 3, 1) := by decide +kernel
theorem dX9_joined_215 : decode cX9_joined 215 = .ok (.iload_n 2, 1) := by decide +kernel
theorem dX9_joined_216 : decode cX9_joined 216 = .ok (.if_icmp .le 14, 3) := by decide +kernel
theorem dX9_joined_219 : decode cX9_joined 219 = .ok (.aload_n 0, 1) := by decide +kernel
theorem dX9_joined_220 : decode cX9_joined 220 = .ok (.iload_n 2, 1) := by decide +kernel
theorem dX9_joined_221 : decode cX9_joined 221 = .ok (.iload_n 3, 1) := by decide +kernel
theorem dX9_joined_222 : decode cX9_joined 222 = .ok (.iconst 1, 1) := by decide +kernel
theorem dX9_joined_223 : decode cX9_joined 223 = .ok (.iconst 1, 1) := by decide +kernel
theorem dX9_joined_224 : decode cX9_joined 224 = .ok (.invokevirtual 204, 3) := by decide +kernel
theorem dX9_joined_227 : decode cX9_joined 227 = .ok (.goto 4, 3) := by decide +kernel
theorem dX9_joined_230 : decode cX9_joined 230 = .ok (.iconst 0, 1) := by decide +kernel
theorem dX9_joined_231 : decode cX9_joined 231 = .ok (.iastore, 1) := by decide +kernel
theorem dX9_joined_232 : decode cX9_joined 232 = .ok (.iinc 1 1, 3) := by decide +kernel
theorem dX9_joined_235 : decode cX9_joined 235 = .ok (.goto (-50), 3) := by decide +kernel
theorem dX9_joined_238 : decode cX9_joined 238 = .ok (.iconst 0, 1) := by decide +kernel
theorem dX9_joined_239 : decode cX9_joined 239 = .ok (.istore_n 1, 1) := by decide +kernel
theorem dX9_joined_240 : decode cX9_joined 240 = .ok (.iload_n 1, 1) := by decide +kernel
theorem dX9_joined_241 : decode cX9_joined 241 = .ok (.iconst 1, 1) := by decide +kernel
theorem dX9_joined_242 : decode cX9_joined 242 = .ok (.iadd, 1) := by decide +kernel
theorem dX9_joined_243 : decode cX9_joined 243 = .ok (.aload_n 0, 1) := by decide +kernel
theorem dX9_joined_244 : decode cX9_joined 244 = .ok (.getfield 208, 3) := by decide +kernel
theorem dX9_joined_247 : decode cX9_joined 247 = .ok (.if_icmp .ge 184, 3) := by decide +kernel
theorem dX9_joined_250 : decode cX9_joined 250 = .ok (.iconst (-1), 1) := by decide +kernel
theorem dX9_joined_251 : decode cX9_joined 251 = .ok (.istore_n 2, 1) := by decide +kernel
theorem dX9_joined_252 : decode cX9_joined 252 = .ok (.iconst 0, 1) := by decide +kernel
theorem dX9_joined_253 : decode cX9_joined 253 = .ok (.istore_n 3, 1) := by decide +kernel
theorem dX9_joined_254 : decode cX9_joined 254 = .ok (.iload_n 3, 1) := by decide +kernel
theorem dX9_joined_255 : decode cX9_joined 255 = .ok (.iconst 1, 1) := by decide +kernel
theorem dX9_joined_256 : decode cX9_joined 256 = .ok (.iadd, 1) := by decide +kernel
theorem dX9_joined_257 : decode cX9_joined 257 = .ok (.aload_n 0, 1) := by decide +kernel
theorem dX9_joined_258 : decode cX9_joined 258 = .ok (.getfield 208, 3) := by decide +kernel
theorem dX9_joined_261 : decode cX9_joined 261 = .ok (.if_icmp .ge 44, 3) := by decide +kernel
theorem dX9_joined_264 : decode cX9_joined 264 = .ok (.aload_n 0, 1) := by decide +kernel
theorem dX9_joined_265 : decode cX9_joined 265 = .ok (.getfield 79, 3) := by decide +kernel
theorem dX9_joined_268 : decode cX9_joined 268 = .ok (.iload_n 3, 1) := by decide +kernel
theorem dX9_joined_269 : decode cX9_joined 269 = .ok (.baload, 1) := by decide +kernel
theorem dX9_joined_270 : decode cX9_joined 270 = .ok (.ifCond .ne 27, 3) := by decide +kernel
theorem dX9_joined_273 : decode cX9_joined 273 = .ok (.iload_n 2, 1) := by decide +kernel
theorem dX9_joined_274 : decode cX9_joined 274 = .ok (.iconst (-1), 1) := by decide +kernel
theorem dX9_joined_275 : decode cX9_joined 275 = .ok (.if_icmp .eq 18, 3) := by decide +kernel
theorem dX9_joined_278 : decode cX9_joined 278 = .ok (.aload_n 0, 1) := by decide +kernel
theorem dX9_joined_279 : decode cX9_joined 279 = .ok (.getfield 76, 3) := by decide +kernel
theorem dX9_joined_282 : decode cX9_joined 282 = .ok (.iload_n 3, 1) := by decide +kernel
theorem dX9_joined_283 : decode cX9_joined 283 = .ok (.iaload, 1) := by decide +kernel
theorem dX9_joined_284 : decode cX9_joined 284 = .ok (.aload_n 0, 1) := by decide +kernel
theorem dX9_joined_285 : decode cX9_joined 285 = .ok (.getfield 76, 3) := by decide +kernel
theorem dX9_joined_288 : decode cX9_joined 288 = .ok (.iload_n 2, 1) := by decide +kernel
theorem dX9_joined_289 : decode cX9_joined 289 = .ok (.iaload, 1) := by decide +kernel
theorem dX9_joined_290 : decode cX9_joined 290 = .ok (.if_icmp .ge 7, 3) := by decide +kernel
theorem dX9_joined_293 : decode cX9_joined 293 = .ok (.iload_n 3, 1) := by decide +kernel
theorem dX9_joined_294 : decode cX9_joined 294 = .ok (.goto 4, 3) := by decide +kernel
theorem dX9_joined_297 : decode cX9_joined 297 = .ok (.iload_n 2, 1) := by decide +kernel
theorem dX9_joined_298 : decode cX9_joined 298 = .ok (.istore_n 2, 1) := by decide +kernel
theorem dX9_joined_299 : decode cX9_joined 299 = .ok (.iinc 3 1, 3) := by decide +kernel
theorem dX9_joined_302 : decode cX9_joined 302 = .ok (.goto (-48), 3) := by decide +kernel
theorem dX9_joined_305 : decode cX9_joined 305 = .ok (.aload_n 0, 1) := by decide +kernel
theorem dX9_joined_306 : decode cX9_joined 306 = .ok (.getfield 79, 3) := by decide +kernel
theorem dX9_joined_309 : decode cX9_joined 309 = .ok (.iload_n 2, 1) := by decide +kernel
theorem dX9_joined_310 : decode cX9_joined 310 = .ok (.iconst 1, 1) := by decide +kernel
theorem dX9_joined_311 : decode cX9_joined 311 = .ok (.bastore, 1) := by decide +kernel
theorem dX9_joined_312 : decode cX9_joined 312 = .ok (.aload_n 0, 1) := by decide +kernel
theorem dX9_joined_313 : decode cX9_joined 313 = .ok (.getfield 73, 3) := by decide +kernel
theorem dX9_joined_316 : decode cX9_joined 316 = .ok (.aload_n 0, 1) := by decide +kernel
theorem dX9_joined_317 : decode cX9_joined 317 = .ok (.getfield 64, 3) := by decide +kernel
theorem dX9_joined_320 : decode cX9_joined 320 = .ok (.iload_n 2, 1) := by decide +kernel
theorem dX9_joined_321 : decode cX9_joined 321 = .ok (.iaload, 1) := by decide +kernel
theorem dX9_joined_322 : decode cX9_joined 322 = .ok (.iaload, 1) := by decide +kernel
theorem dX9_joined_323 : decode cX9_joined 323 = .ok (.istore_n 3, 1) := by decide +kernel
theorem dX9_joined_324 : decode cX9_joined 324 = .ok (.aload_n 0, 1) := by decide +kernel
theorem dX9_joined_325 : decode cX9_joined 325 = .ok (.getfield 73, 3) := by decide +kernel
theorem dX9_joined_328 : decode cX9_joined 328 = .ok (.aload_n 0, 1) := by decide +kernel
theorem dX9_joined_329 : decode cX9_joined 329 = .ok (.getfield 64, 3) := by decide +kernel
theorem dX9_joined_332 : decode cX9_joined 332 = .ok (.iload_n 2, 1) := by decide +kernel
theorem dX9_joined_333 : decode cX9_joined 333 = .ok (.iconst 1, 1) := by decide +kernel
theorem dX9_joined_334 : decode cX9_joined 334 = .ok (.iadd, 1) := by decide +kernel
theorem dX9_joined_335 : decode cX9_joined 335 = .ok (.iaload, 1) := by decide +kernel
theorem dX9_joined_336 : decode cX9_joined 336 = .ok (.iaload, 1) := by decide +kernel
theorem dX9_joined_337 : decode cX9_joined 337 = .ok (.istore 4, 2) := by decide +kernel
theorem dX9_joined_339 : decode cX9_joined 339 = .ok (.iload_n 3, 1) := by decide +kernel
theorem dX9_joined_340 : decode cX9_joined 340 = .ok (.iload 4, 2) := by decide +kernel
theorem dX9_joined_342 : decode cX9_joined 342 = .ok (.if_icmp .eq 83, 3) := by decide +kernel
theorem dX9_joined_345 : decode cX9_joined 345 = .ok (.aload_n 0, 1) := by decide +kernel
theorem dX9_joined_346 : decode cX9_joined 346 = .ok (.getfield 83, 3) := by decide +kernel
theorem dX9_joined_349 : decode cX9_joined 349 = .ok (.iload_n 2, 1) := by decide +kernel
theorem dX9_joined_350 : decode cX9_joined 350 = .ok (.iconst 1, 1) := by decide +kernel
theorem dX9_joined_351 : decode cX9_joined 351 = .ok (.bastore, 1) := by decide +kernel
theorem dX9_joined_352 : decode cX9_joined 352 = .ok (.aload_n 0, 1) := by decide +kernel
theorem dX9_joined_353 : decode cX9_joined 353 = .ok (.getfield 86, 3) := by decide +kernel
theorem dX9_joined_356 : decode cX9_joined 356 = .ok (.iconst 2, 1) := by decide +kernel
theorem dX9_joined_357 : decode cX9_joined 357 = .ok (.dup2, 1) := by decide +kernel
theorem dX9_joined_358 : decode cX9_joined 358 = .ok (.iaload, 1) := by decide +kernel
theorem dX9_joined_359 : decode cX9_joined 359 = .ok (.iconst 1, 1) := by decide +kernel
theorem dX9_joined_360 : decode cX9_joined 360 = .ok (.iadd, 1) := by decide +kernel
theorem dX9_joined_361 : decode cX9_joined 361 = .ok (.iastore, 1) := by decide +kernel
theorem dX9_joined_362 : decode cX9_joined 362 = .ok (.aload_n 0, 1) := by decide +kernel
theorem dX9_joined_363 : decode cX9_joined 363 = .ok (.getfield 86, 3) := by decide +kernel
theorem dX9_joined_366 : decode cX9_joined 366 = .ok (.iconst 3, 1) := by decide +kernel
theorem dX9_joined_367 : decode cX9_joined 367 = .ok (.dup2, 1) := by decide +kernel
theorem dX9_joined_368 : decode cX9_joined 368 = .ok (.iaload, 1) := by decide +kernel
theorem dX9_joined_369 : decode cX9_joined 369 = .ok (.aload_n 0, 1) := by decide +kernel
theorem dX9_joined_370 : decode cX9_joined 370 = .ok (.getfield 76, 3) := by decide +kernel
theorem dX9_joined_373 : decode cX9_joined 373 = .ok (.iload_n 2, 1) := by decide +kernel
theorem dX9_joined_374 : decode cX9_joined 374 = .ok (.iaload, 1) := by decide +kernel
theorem dX9_joined_375 : decode cX9_joined 375 = .ok (.iadd, 1) := by decide +kernel
theorem dX9_joined_376 : decode cX9_joined 376 = .ok (.iastore, 1) := by decide +kernel
theorem dX9_joined_377 : decode cX9_joined 377 = .ok (.iconst 0, 1) := by decide +kernel
theorem dX9_joined_378 : decode cX9_joined 378 = .ok (.istore 5, 2) := by decide +kernel
theorem dX9_joined_380 : decode cX9_joined 380 = .ok (.iload 5, 2) := by decide +kernel
theorem dX9_joined_382 : decode cX9_joined 382 = .ok (.aload_n 0, 1) := by decide +kernel
theorem dX9_joined_383 : decode cX9_joined 383 = .ok (.getfield 208, 3) := by decide +kernel
theorem dX9_joined_386 : decode cX9_joined 386 = .ok (.if_icmp .ge 39, 3) := by decide +kernel
theorem dX9_joined_389 : decode cX9_joined 389 = .ok (.aload_n 0, 1) := by decide +kernel
theorem dX9_joined_390 : decode cX9_joined 390 = .ok (.getfield 73, 3) := by decide +kernel
theorem dX9_joined_393 : decode cX9_joined 393 = .ok (.iload 5, 2) := by decide +kernel
theorem dX9_joined_395 : decode cX9_joined 395 = .ok (.aload_n 0, 1) := by decide +kernel
theorem dX9_joined_396 : decode cX9_joined 396 = .ok (.getfield 73, 3) := by decide +kernel
theorem dX9_joined_399 : decode cX9_joined 399 = .ok (.iload 5, 2) := by decide +kernel
theorem dX9_joined_401 : decode cX9_joined 401 = .ok (.iaload, 1) := by decide +kernel
theorem dX9_joined_402 : decode cX9_joined 402 = .ok (.iload 4, 2) := by decide +kernel
theorem dX9_joined_404 : decode cX9_joined 404 = .ok (.if_icmp .ne 7, 3) := by decide +kernel
theorem dX9_joined_407 : decode cX9_joined 407 = .ok (.iload_n 3, 1) := by decide +kernel
theorem dX9_joined_408 : decode cX9_joined 408 = .ok (.goto 10, 3) := by decide +kernel
theorem dX9_joined_411 : decode cX9_joined 411 = .ok (.aload_n 0, 1) := by decide +kernel
theorem dX9_joined_412 : decode cX9_joined 412 = .ok (.getfield 73, 3) := by decide +kernel
theorem dX9_joined_415 : decode cX9_joined 415 = .ok (.iload 5, 2) := by decide +kernel
theorem dX9_joined_417 : decode cX9_joined 417 = .ok (.iaload, 1) := by decide +kernel
theorem dX9_joined_418 : decode cX9_joined 418 = .ok (.iastore, 1) := by decide +kernel
theorem dX9_joined_419 : decode cX9_joined 419 = .ok (.iinc 5 1, 3) := by decide +kernel
theorem dX9_joined_422 : decode cX9_joined 422 = .ok (.goto (-42), 3) := by decide +kernel
theorem dX9_joined_425 : decode cX9_joined 425 = .ok (.iinc 1 1, 3) := by decide +kernel
theorem dX9_joined_428 : decode cX9_joined 428 = .ok (.goto (-188), 3) := by decide +kernel
theorem dX9_joined_431 : decode cX9_joined 431 = .ok (.aload_n 0, 1) := by decide +kernel
theorem dX9_joined_432 : decode cX9_joined 432 = .ok (.getfield 208, 3) := by decide +kernel
theorem dX9_joined_435 : decode cX9_joined 435 = .ok (.iconst 2, 1) := by decide +kernel
theorem dX9_joined_436 : decode cX9_joined 436 = .ok (.isub, 1) := by decide +kernel
theorem dX9_joined_437 : decode cX9_joined 437 = .ok (.istore_n 1, 1) := by decide +kernel
theorem dX9_joined_438 : decode cX9_joined 438 = .ok (.iload_n 1, 1) := by decide +kernel
theorem dX9_joined_439 : decode cX9_joined 439 = .ok (.ifCond .lt 48, 3) := by decide +kernel
theorem dX9_joined_442 : decode cX9_joined 442 = .ok (.aload_n 0, 1) := by decide +kernel
theorem dX9_joined_443 : decode cX9_joined 443 = .ok (.getfield 83, 3) := by decide +kernel
theorem dX9_joined_446 : decode cX9_joined 446 = .ok (.iload_n 1, 1) := by decide +kernel
theorem dX9_joined_447 : decode cX9_joined 447 = .ok (.baload, 1) := by decide +kernel
theorem dX9_joined_448 : decode cX9_joined 448 = .ok (.ifCond .eq 33, 3) := by decide +kernel
theorem dX9_joined_451 : decode cX9_joined 451 = .ok (.aload_n 0, 1) := by decide +kernel
theorem dX9_joined_452 : decode cX9_joined 452 = .ok (.getfield 61, 3) := by decide +kernel
theorem dX9_joined_455 : decode cX9_joined 455 = .ok (.aload_n 0, 1) := by decide +kernel
theorem dX9_joined_456 : decode cX9_joined 456 = .ok (.getfield 64, 3) := by decide +kernel
theorem dX9_joined_459 : decode cX9_joined 459 = .ok (.iload_n 1, 1) := by decide +kernel
theorem dX9_joined_460 : decode cX9_joined 460 = .ok (.iaload, 1) := by decide +kernel
theorem dX9_joined_461 : decode cX9_joined 461 = .ok (.iaload, 1) := by decide +kernel
theorem dX9_joined_462 : decode cX9_joined 462 = .ok (.aload_n 0, 1) := by decide +kernel
theorem dX9_joined_463 : decode cX9_joined 463 = .ok (.getfield 58, 3) := by decide +kernel
theorem dX9_joined_466 : decode cX9_joined 466 = .ok (.aload_n 0, 1) := by decide +kernel
theorem dX9_joined_467 : decode cX9_joined 467 = .ok (.getfield 67, 3) := by decide +kernel
theorem dX9_joined_470 : decode cX9_joined 470 = .ok (.iload_n 1, 1) := by decide +kernel
theorem dX9_joined_471 : decode cX9_joined 471 = .ok (.iaload, 1) := by decide +kernel
theorem dX9_joined_472 : decode cX9_joined 472 = .ok (.iaload, 1) := by decide +kernel
theorem dX9_joined_473 : decode cX9_joined 473 = .ok (.if_icmp .gt 8, 3) := by decide +kernel
theorem dX9_joined_476 : decode cX9_joined 476 = .ok (.aload_n 0, 1) := by decide +kernel
theorem dX9_joined_477 : decode cX9_joined 477 = .ok (.iload_n 1, 1) := by decide +kernel
theorem dX9_joined_478 : decode cX9_joined 478 = .ok (.invokevirtual 231, 3) := by decide +kernel
theorem dX9_joined_481 : decode cX9_joined 481 = .ok (.iinc 1 (-1), 3) := by decide +kernel
theorem dX9_joined_484 : decode cX9_joined 484 = .ok (.goto (-46), 3) := by decide +kernel
theorem dX9_joined_487 : decode cX9_joined 487 = .ok (.iconst 0, 1) := by decide +kernel
theorem dX9_joined_488 : decode cX9_joined 488 = .ok (.istore_n 1, 1) := by decide +kernel
theorem dX9_joined_489 : decode cX9_joined 489 = .ok (.iload_n 1, 1) := by decide +kernel
theorem dX9_joined_490 : decode cX9_joined 490 = .ok (.iconst 1, 1) := by decide +kernel
theorem dX9_joined_491 : decode cX9_joined 491 = .ok (.iadd, 1) := by decide +kernel
theorem dX9_joined_492 : decode cX9_joined 492 = .ok (.aload_n 0, 1) := by decide +kernel
theorem dX9_joined_493 : decode cX9_joined 493 = .ok (.getfield 208, 3) := by decide +kernel
theorem dX9_joined_496 : decode cX9_joined 496 = .ok (.if_icmp .ge 48, 3) := by decide +kernel
theorem dX9_joined_499 : decode cX9_joined 499 = .ok (.aload_n 0, 1) := by decide +kernel
theorem dX9_joined_500 : decode cX9_joined 500 = .ok (.getfield 83, 3) := by decide +kernel
theorem dX9_joined_503 : decode cX9_joined 503 = .ok (.iload_n 1, 1) := by decide +kernel
theorem dX9_joined_504 : decode cX9_joined 504 = .ok (.baload, 1) := by decide +kernel
theorem dX9_joined_505 : decode cX9_joined 505 = .ok (.ifCond .eq 33, 3) := by decide +kernel
theorem dX9_joined_508 : decode cX9_joined 508 = .ok (.aload_n 0, 1) := by decide +kernel
theorem dX9_joined_509 : decode cX9_joined 509 = .ok (.getfield 61, 3) := by decide +kernel
theorem dX9_joined_512 : decode cX9_joined 512 = .ok (.aload_n 0, 1) := by decide +kernel
theorem dX9_joined_513 : decode cX9_joined 513 = .ok (.getfield 64, 3) := by decide +kernel
theorem dX9_joined_516 : decode cX9_joined 516 = .ok (.iload_n 1, 1) := by decide +kernel
theorem dX9_joined_517 : decode cX9_joined 517 = .ok (.iaload, 1) := by decide +kernel
theorem dX9_joined_518 : decode cX9_joined 518 = .ok (.iaload, 1) := by decide +kernel
theorem dX9_joined_519 : decode cX9_joined 519 = .ok (.aload_n 0, 1) := by decide +kernel
theorem dX9_joined_520 : decode cX9_joined 520 = .ok (.getfield 58, 3) := by decide +kernel
theorem dX9_joined_523 : decode cX9_joined 523 = .ok (.aload_n 0, 1) := by decide +kernel
theorem dX9_joined_524 : decode cX9_joined 524 = .ok (.getfield 67, 3) := by decide +kernel
theorem dX9_joined_527 : decode cX9_joined 527 = .ok (.iload_n 1, 1) := by decide +kernel
theorem dX9_joined_528 : decode cX9_joined 528 = .ok (.iaload, 1) := by decide +kernel
theorem dX9_joined_529 : decode cX9_joined 529 = .ok (.iaload, 1) := by decide +kernel
theorem dX9_joined_530 : decode cX9_joined 530 = .ok (.if_icmp .le 8, 3) := by decide +kernel
theorem dX9_joined_533 : decode cX9_joined 533 = .ok (.aload_n 0, 1) := by decide +kernel
theorem dX9_joined_534 : decode cX9_joined 534 = .ok (.iload_n 1, 1) := by decide +kernel
theorem dX9_joined_535 : decode cX9_joined 535 = .ok (.invokevirtual 231, 3) := by decide +kernel
theorem dX9_joined_538 : decode cX9_joined 538 = .ok (.iinc 1 1, 3) := by decide +kernel
theorem dX9_joined_541 : decode cX9_joined 541 = .ok (.goto (-52), 3) := by decide +kernel
theorem dX9_joined_544 : decode cX9_joined 544 = .ok (.aload_n 0, 1) := by decide +kernel
theorem dX9_joined_545 : decode cX9_joined 545 = .ok (.invokevirtual 222, 3) := by decide +kernel
theorem dX9_joined_548 : decode cX9_joined 548 = .ok (.ireturn, 1) := by decide +kernel
theorem dX9_roundFrom_0 : decode cX9_roundFrom 0 = .ok (.iload_n 1, 1) := by decide +kernel
theorem dX9_roundFrom_1 : decode cX9_roundFrom 1 = .ok (.istore_n 2, 1) := by decide +kernel
theorem dX9_roundFrom_2 : decode cX9_roundFrom 2 = .ok (.iconst 0, 1) := by decide +kernel
theorem dX9_roundFrom_3 : decode cX9_roundFrom 3 = .ok (.istore_n 3, 1) := by decide +kernel
theorem dX9_roundFrom_4 : decode cX9_roundFrom 4 = .ok (.iload_n 3, 1) := by decide +kernel
theorem dX9_roundFrom_5 : decode cX9_roundFrom 5 = .ok (.aload_n 0, 1) := by decide +kernel
theorem dX9_roundFrom_6 : decode cX9_roundFrom 6 = .ok (.getfield 22, 3) := by decide +kernel
theorem dX9_roundFrom_9 : decode cX9_roundFrom 9 = .ok (.iconst 0, 1) := by decide +kernel
theorem dX9_roundFrom_10 : decode cX9_roundFrom 10 = .ok (.iaload, 1) := by decide +kernel
theorem dX9_roundFrom_11 : decode cX9_roundFrom 11 = .ok (.if_icmp .ge 23, 3) := by decide +kernel
theorem dX9_roundFrom_14 : decode cX9_roundFrom 14 = .ok (.aload_n 0, 1) := by decide +kernel
theorem dX9_roundFrom_15 : decode cX9_roundFrom 15 = .ok (.getfield 55, 3) := by decide +kernel
theorem dX9_roundFrom_18 : decode cX9_roundFrom 18 = .ok (.iload_n 3, 1) := by decide +kernel
theorem dX9_roundFrom_19 : decode cX9_roundFrom 19 = .ok (.iload_n 2, 1) := by decide +kernel
theorem dX9_roundFrom_20 : decode cX9_roundFrom 20 = .ok (.iastore, 1) := by decide +kernel
theorem dX9_roundFrom_21 : decode cX9_roundFrom 21 = .ok (.aload_n 0, 1) := by decide +kernel
theorem dX9_roundFrom_22 : decode cX9_roundFrom 22 = .ok (.getfield 70, 3) := by decide +kernel
theorem dX9_roundFrom_25 : decode cX9_roundFrom 25 = .ok (.iload_n 2, 1) := by decide +kernel
theorem dX9_roundFrom_26 : decode cX9_roundFrom 26 = .ok (.iaload, 1) := by decide +kernel
theorem dX9_roundFrom_27 : decode cX9_roundFrom 27 = .ok (.istore_n 2, 1) := by decide +kernel
theorem dX9_roundFrom_28 : decode cX9_roundFrom 28 = .ok (.iinc 3 1, 3) := by decide +kernel
theorem dX9_roundFrom_31 : decode cX9_roundFrom 31 = .ok (.goto (-27), 3) := by decide +kernel
theorem dX9_roundFrom_34 : decode cX9_roundFrom 34 = .ok (.aload_n 0, 1) := by decide +kernel
theorem dX9_roundFrom_35 : decode cX9_roundFrom 35 = .ok (.aload_n 0, 1) := by decide +kernel
theorem dX9_roundFrom_36 : decode cX9_roundFrom 36 = .ok (.getfield 55, 3) := by decide +kernel
theorem dX9_roundFrom_39 : decode cX9_roundFrom 39 = .ok (.invokevirtual 188, 3) := by decide +kernel
theorem dX9_roundFrom_42 : decode cX9_roundFrom 42 = .ok (.return_, 1) := by decide +kernel
theorem dX9_atOnce_0 : decode cX9_atOnce 0 = .ok (.aload_n 0, 1) := by decide +kernel
theorem dX9_atOnce_1 : decode cX9_atOnce 1 = .ok (.getfield 22, 3) := by decide +kernel
theorem dX9_atOnce_4 : decode cX9_atOnce 4 = .ok (.iconst 0, 1) := by decide +kernel
theorem dX9_atOnce_5 : decode cX9_atOnce 5 = .ok (.iaload, 1) := by decide +kernel
theorem dX9_atOnce_6 : decode cX9_atOnce 6 = .ok (.istore_n 1, 1) := by decide +kernel
theorem dX9_atOnce_7 : decode cX9_atOnce 7 = .ok (.aload_n 0, 1) := by decide +kernel
theorem dX9_atOnce_8 : decode cX9_atOnce 8 = .ok (.iload_n 1, 1) := by decide +kernel
theorem dX9_atOnce_9 : decode cX9_atOnce 9 = .ok (.iconst 1, 1) := by decide +kernel
theorem dX9_atOnce_10 : decode cX9_atOnce 10 = .ok (.iadd, 1) := by decide +kernel
theorem dX9_atOnce_11 : decode cX9_atOnce 11 = .ok (.putfield 208, 3) := by decide +kernel
theorem dX9_atOnce_14 : decode cX9_atOnce 14 = .ok (.aload_n 0, 1) := by decide +kernel
theorem dX9_atOnce_15 : decode cX9_atOnce 15 = .ok (.iconst 0, 1) := by decide +kernel
theorem dX9_atOnce_16 : decode cX9_atOnce 16 = .ok (.putfield 201, 3) := by decide +kernel
theorem dX9_atOnce_19 : decode cX9_atOnce 19 = .ok (.iconst 0, 1) := by decide +kernel
theorem dX9_atOnce_20 : decode cX9_atOnce 20 = .ok (.istore_n 2, 1) := by decide +kernel
theorem dX9_atOnce_21 : decode cX9_atOnce 21 = .ok (.iload_n 2, 1) := by decide +kernel
theorem dX9_atOnce_22 : decode cX9_atOnce 22 = .ok (.iload_n 1, 1) := by decide +kernel
theorem dX9_atOnce_23 : decode cX9_atOnce 23 = .ok (.if_icmp .ge 33, 3) := by decide +kernel
theorem dX9_atOnce_26 : decode cX9_atOnce 26 = .ok (.aload_n 0, 1) := by decide +kernel
theorem dX9_atOnce_27 : decode cX9_atOnce 27 = .ok (.getfield 58, 3) := by decide +kernel
theorem dX9_atOnce_30 : decode cX9_atOnce 30 = .ok (.iload_n 2, 1) := by decide +kernel
theorem dX9_atOnce_31 : decode cX9_atOnce 31 = .ok (.aload_n 0, 1) := by decide +kernel
theorem dX9_atOnce_32 : decode cX9_atOnce 32 = .ok (.getfield 25, 3) := by decide +kernel
theorem dX9_atOnce_35 : decode cX9_atOnce 35 = .ok (.iload_n 2, 1) := by decide +kernel
theorem dX9_atOnce_36 : decode cX9_atOnce 36 = .ok (.iaload, 1) := by decide +kernel
theorem dX9_atOnce_37 : decode cX9_atOnce 37 = .ok (.iastore, 1) := by decide +kernel
theorem dX9_atOnce_38 : decode cX9_atOnce 38 = .ok (.aload_n 0, 1) := by decide +kernel
theorem dX9_atOnce_39 : decode cX9_atOnce 39 = .ok (.getfield 61, 3) := by decide +kernel
theorem dX9_atOnce_42 : decode cX9_atOnce 42 = .ok (.iload_n 2, 1) := by decide +kernel
theorem dX9_atOnce_43 : decode cX9_atOnce 43 = .ok (.aload_n 0, 1) := by decide +kernel
theorem dX9_atOnce_44 : decode cX9_atOnce 44 = .ok (.getfield 28, 3) := by decide +kernel
theorem dX9_atOnce_47 : decode cX9_atOnce 47 = .ok (.iload_n 2, 1) := by decide +kernel
theorem dX9_atOnce_48 : decode cX9_atOnce 48 = .ok (.iaload, 1) := by decide +kernel
theorem dX9_atOnce_49 : decode cX9_atOnce 49 = .ok (.iastore, 1) := by decide +kernel
theorem dX9_atOnce_50 : decode cX9_atOnce 50 = .ok (.iinc 2 1, 3) := by decide +kernel
theorem dX9_atOnce_53 : decode cX9_atOnce 53 = .ok (.goto (-32), 3) := by decide +kernel
theorem dX9_atOnce_56 : decode cX9_atOnce 56 = .ok (.aload_n 0, 1) := by decide +kernel
theorem dX9_atOnce_57 : decode cX9_atOnce 57 = .ok (.getfield 58, 3) := by decide +kernel
theorem dX9_atOnce_60 : decode cX9_atOnce 60 = .ok (.iload_n 1, 1) := by decide +kernel
theorem dX9_atOnce_61 : decode cX9_atOnce 61 = .ok (.iconst 0, 1) := by decide +kernel
theorem dX9_atOnce_62 : decode cX9_atOnce 62 = .ok (.iastore, 1) := by decide +kernel
theorem dX9_atOnce_63 : decode cX9_atOnce 63 = .ok (.aload_n 0, 1) := by decide +kernel
theorem dX9_atOnce_64 : decode cX9_atOnce 64 = .ok (.getfield 61, 3) := by decide +kernel
theorem dX9_atOnce_67 : decode cX9_atOnce 67 = .ok (.iload_n 1, 1) := by decide +kernel
theorem dX9_atOnce_68 : decode cX9_atOnce 68 = .ok (.iconst 0, 1) := by decide +kernel
theorem dX9_atOnce_69 : decode cX9_atOnce 69 = .ok (.iastore, 1) := by decide +kernel
theorem dX9_atOnce_70 : decode cX9_atOnce 70 = .ok (.aload_n 0, 1) := by decide +kernel
theorem dX9_atOnce_71 : decode cX9_atOnce 71 = .ok (.invokevirtual 235, 3) := by decide +kernel
theorem dX9_atOnce_74 : decode cX9_atOnce 74 = .ok (.istore_n 2, 1) := by decide +kernel
theorem dX9_atOnce_75 : decode cX9_atOnce 75 = .ok (.aload_n 0, 1) := by decide +kernel
theorem dX9_atOnce_76 : decode cX9_atOnce 76 = .ok (.aload_n 0, 1) := by decide +kernel
theorem dX9_atOnce_77 : decode cX9_atOnce 77 = .ok (.getfield 70, 3) := by decide +kernel
theorem dX9_atOnce_80 : decode cX9_atOnce 80 = .ok (.iload_n 1, 1) := by decide +kernel
theorem dX9_atOnce_81 : decode cX9_atOnce 81 = .ok (.iaload, 1) := by decide +kernel
theorem dX9_atOnce_82 : decode cX9_atOnce 82 = .ok (.invokevirtual 238, 3) := by decide +kernel
theorem dX9_atOnce_85 : decode cX9_atOnce 85 = .ok (.aload_n 0, 1) := by decide +kernel
theorem dX9_atOnce_86 : decode cX9_atOnce 86 = .ok (.invokevirtual 175, 3) := by decide +kernel
theorem dX9_atOnce_89 : decode cX9_atOnce 89 = .ok (.iload_n 2, 1) := by decide +kernel
theorem dX9_atOnce_90 : decode cX9_atOnce 90 = .ok (.iadd, 1) := by decide +kernel
theorem dX9_atOnce_91 : decode cX9_atOnce 91 = .ok (.ireturn, 1) := by decide +kernel
theorem dX9_rings_0 : decode cX9_rings 0 = .ok (.aload_n 0, 1) := by decide +kernel
theorem dX9_rings_1 : decode cX9_rings 1 = .ok (.getfield 219, 3) := by decide +kernel
theorem dX9_rings_4 : decode cX9_rings 4 = .ok (.ifCond .eq 24, 3) := by decide +kernel
theorem dX9_rings_7 : decode cX9_rings 7 = .ok (.iload_n 1, 1) := by decide +kernel
theorem dX9_rings_8 : decode cX9_rings 8 = .ok (.i2l, 1) := by decide +kernel
theorem dX9_rings_9 : decode cX9_rings 9 = .ok (.lconst 0, 1) := by decide +kernel
theorem dX9_rings_10 : decode cX9_rings 10 = .ok (.ldc2_w 96, 3) := by decide +kernel
theorem dX9_rings_13 : decode cX9_rings 13 = .ok (.invokestatic 98, 3) := by decide +kernel
theorem dX9_rings_16 : decode cX9_rings 16 = .ok (.ifCond .eq 12, 3) := by decide +kernel
theorem dX9_rings_19 : decode cX9_rings 19 = .ok (.aload_n 0, 1) := by decide +kernel
theorem dX9_rings_20 : decode cX9_rings 20 = .ok (.getfield 86, 3) := by decide +kernel
theorem dX9_rings_23 : decode cX9_rings 23 = .ok (.iload_n 1, 1) := by decide +kernel
theorem dX9_rings_24 : decode cX9_rings 24 = .ok (.iaload, 1) := by decide +kernel
theorem dX9_rings_25 : decode cX9_rings 25 = .ok (.goto 5, 3) := by decide +kernel
theorem dX9_rings_28 : decode cX9_rings 28 = .ok (.bipush (-2), 2) := by decide +kernel
theorem dX9_rings_30 : decode cX9_rings 30 = .ok (.ireturn, 1) := by decide +kernel
theorem dX9_roundCost_0 : decode cX9_roundCost 0 = .ok (.aload_n 0, 1) := by decide +kernel
theorem dX9_roundCost_1 : decode cX9_roundCost 1 = .ok (.getfield 22, 3) := by decide +kernel
theorem dX9_roundCost_4 : decode cX9_roundCost 4 = .ok (.iconst 0, 1) := by decide +kernel
theorem dX9_roundCost_5 : decode cX9_roundCost 5 = .ok (.iaload, 1) := by decide +kernel
theorem dX9_roundCost_6 : decode cX9_roundCost 6 = .ok (.istore_n 2, 1) := by decide +kernel
theorem dX9_roundCost_7 : decode cX9_roundCost 7 = .ok (.aload_n 0, 1) := by decide +kernel
theorem dX9_roundCost_8 : decode cX9_roundCost 8 = .ok (.iconst 1, 1) := by decide +kernel
theorem dX9_roundCost_9 : decode cX9_roundCost 9 = .ok (.putfield 201, 3) := by decide +kernel
theorem dX9_roundCost_12 : decode cX9_roundCost 12 = .ok (.iconst 0, 1) := by decide +kernel
theorem dX9_roundCost_13 : decode cX9_roundCost 13 = .ok (.istore_n 3, 1) := by decide +kernel
theorem dX9_roundCost_14 : decode cX9_roundCost 14 = .ok (.iconst 0, 1) := by decide +kernel
theorem dX9_roundCost_15 : decode cX9_roundCost 15 = .ok (.istore 4, 2) := by decide +kernel
theorem dX9_roundCost_17 : decode cX9_roundCost 17 = .ok (.iload 4, 2) := by decide +kernel
theorem dX9_roundCost_19 : decode cX9_roundCost 19 = .ok (.iload_n 2, 1) := by decide +kernel
theorem dX9_roundCost_20 : decode cX9_roundCost 20 = .ok (.if_icmp .ge 54, 3) := by decide +kernel
theorem dX9_roundCost_23 : decode cX9_roundCost 23 = .ok (.iload 4, 2) := by decide +kernel
theorem dX9_roundCost_25 : decode cX9_roundCost 25 = .ok (.iconst 1, 1) := by decide +kernel
theorem dX9_roundCost_26 : decode cX9_roundCost 26 = .ok (.iadd, 1) := by decide +kernel
theorem dX9_roundCost_27 : decode cX9_roundCost 27 = .ok (.iload_n 2, 1) := by decide +kernel
theorem dX9_roundCost_28 : decode cX9_roundCost 28 = .ok (.if_icmp .ne 9, 3) := by decide +kernel
theorem dX9_roundCost_31 : decode cX9_roundCost 31 = .ok (.aload_n 1, 1) := by decide +kernel
theorem dX9_roundCost_32 : decode cX9_roundCost 32 = .ok (.iconst 0, 1) := by decide +kernel
theorem dX9_roundCost_33 : decode cX9_roundCost 33 = .ok (.iaload, 1) := by decide +kernel
theorem dX9_roundCost_34 : decode cX9_roundCost 34 = .ok (.goto 9, 3) := by decide +kernel
theorem dX9_roundCost_37 : decode cX9_roundCost 37 = .ok (.aload_n 1, 1) := by decide +kernel
theorem dX9_roundCost_38 : decode cX9_roundCost 38 = .ok (.iload 4, 2) := by decide +kernel
theorem dX9_roundCost_40 : decode cX9_roundCost 40 = .ok (.iconst 1, 1) := by decide +kernel
theorem dX9_roundCost_41 : decode cX9_roundCost 41 = .ok (.iadd, 1) := by decide +kernel
theorem dX9_roundCost_42 : decode cX9_roundCost 42 = .ok (.iaload, 1) := by decide +kernel
theorem dX9_roundCost_43 : decode cX9_roundCost 43 = .ok (.istore 5, 2) := by decide +kernel
theorem dX9_roundCost_45 : decode cX9_roundCost 45 = .ok (.iload_n 3, 1) := by decide +kernel
theorem dX9_roundCost_46 : decode cX9_roundCost 46 = .ok (.aload_n 0, 1) := by decide +kernel
theorem dX9_roundCost_47 : decode cX9_roundCost 47 = .ok (.aload_n 0, 1) := by decide +kernel
theorem dX9_roundCost_48 : decode cX9_roundCost 48 = .ok (.getfield 34, 3) := by decide +kernel
theorem dX9_roundCost_51 : decode cX9_roundCost 51 = .ok (.aload_n 1, 1) := by decide +kernel
theorem dX9_roundCost_52 : decode cX9_roundCost 52 = .ok (.iload 4, 2) := by decide +kernel
theorem dX9_roundCost_54 : decode cX9_roundCost 54 = .ok (.iaload, 1) := by decide +kernel
theorem dX9_roundCost_55 : decode cX9_roundCost 55 = .ok (.iaload, 1) := by decide +kernel
theorem dX9_roundCost_56 : decode cX9_roundCost 56 = .ok (.aload_n 0, 1) := by decide +kernel
theorem dX9_roundCost_57 : decode cX9_roundCost 57 = .ok (.getfield 31, 3) := by decide +kernel
theorem dX9_roundCost_60 : decode cX9_roundCost 60 = .ok (.iload 5, 2) := by decide +kernel
theorem dX9_roundCost_62 : decode cX9_roundCost 62 = .ok (.iaload, 1) := by decide +kernel
theorem dX9_roundCost_63 : decode cX9_roundCost 63 = .ok (.invokevirtual 211, 3) := by decide +kernel
theorem dX9_roundCost_66 : decode cX9_roundCost 66 = .ok (.iadd, 1) := by decide +kernel
theorem dX9_roundCost_67 : decode cX9_roundCost 67 = .ok (.istore_n 3, 1) := by decide +kernel
theorem dX9_roundCost_68 : decode cX9_roundCost 68 = .ok (.iinc 4 1, 3) := by decide +kernel
theorem dX9_roundCost_71 : decode cX9_roundCost 71 = .ok (.goto (-54), 3) := by decide +kernel
theorem dX9_roundCost_74 : decode cX9_roundCost 74 = .ok (.iload_n 3, 1) := by decide +kernel
theorem dX9_roundCost_75 : decode cX9_roundCost 75 = .ok (.ireturn, 1) := by decide +kernel
theorem dX9_cost_0 : decode cX9_cost 0 = .ok (.aload_n 0, 1) := by decide +kernel
theorem dX9_cost_1 : decode cX9_cost 1 = .ok (.aload_n 0, 1) := by decide +kernel
theorem dX9_cost_2 : decode cX9_cost 2 = .ok (.getfield 37, 3) := by decide +kernel
theorem dX9_cost_5 : decode cX9_cost 5 = .ok (.invokevirtual 241, 3) := by decide +kernel
theorem dX9_cost_8 : decode cX9_cost 8 = .ok (.ireturn, 1) := by decide +kernel
theorem dX9_round_0 : decode cX9_round 0 = .ok (.aload_n 0, 1) := by decide +kernel
theorem dX9_round_1 : decode cX9_round 1 = .ok (.getfield 22, 3) := by decide +kernel
theorem dX9_round_4 : decode cX9_round 4 = .ok (.iconst 0, 1) := by decide +kernel
theorem dX9_round_5 : decode cX9_round 5 = .ok (.iaload, 1) := by decide +kernel
theorem dX9_round_6 : decode cX9_round 6 = .ok (.istore_n 1, 1) := by decide +kernel
theorem dX9_round_7 : decode cX9_round 7 = .ok (.iload_n 1, 1) := by decide +kernel
theorem dX9_round_8 : decode cX9_round 8 = .ok (.ifCond .le 7, 3) := by decide +kernel
theorem dX9_round_11 : decode cX9_round 11 = .ok (.iconst 1, 1) := by decide +kernel
theorem dX9_round_12 : decode cX9_round 12 = .ok (.goto 4, 3) := by decide +kernel
theorem dX9_round_15 : decode cX9_round 15 = .ok (.iconst 0, 1) := by decide +kernel
theorem dX9_round_16 : decode cX9_round 16 = .ok (.istore_n 2, 1) := by decide +kernel
theorem dX9_round_17 : decode cX9_round 17 = .ok (.iconst 0, 1) := by decide +kernel
theorem dX9_round_18 : decode cX9_round 18 = .ok (.istore_n 3, 1) := by decide +kernel
theorem dX9_round_19 : decode cX9_round 19 = .ok (.iload_n 3, 1) := by decide +kernel
theorem dX9_round_20 : decode cX9_round 20 = .ok (.bipush 8, 2) := by decide +kernel
theorem dX9_round_22 : decode cX9_round 22 = .ok (.if_icmp .ge 35, 3) := by decide +kernel
theorem dX9_round_25 : decode cX9_round 25 = .ok (.iload_n 2, 1) := by decide +kernel
theorem dX9_round_26 : decode cX9_round 26 = .ok (.ifCond .eq 23, 3) := by decide +kernel
theorem dX9_round_29 : decode cX9_round 29 = .ok (.aload_n 0, 1) := by decide +kernel
theorem dX9_round_30 : decode cX9_round 30 = .ok (.getfield 43, 3) := by decide +kernel
theorem dX9_round_33 : decode cX9_round 33 = .ok (.iload_n 3, 1) := by decide +kernel
theorem dX9_round_34 : decode cX9_round 34 = .ok (.iaload, 1) := by decide +kernel
theorem dX9_round_35 : decode cX9_round 35 = .ok (.aload_n 0, 1) := by decide +kernel
theorem dX9_round_36 : decode cX9_round 36 = .ok (.getfield 46, 3) := by decide +kernel
theorem dX9_round_39 : decode cX9_round 39 = .ok (.iload_n 3, 1) := by decide +kernel
theorem dX9_round_40 : decode cX9_round 40 = .ok (.iaload, 1) := by decide +kernel
theorem dX9_round_41 : decode cX9_round 41 = .ok (.iadd, 1) := by decide +kernel
theorem dX9_round_42 : decode cX9_round 42 = .ok (.ifCond .lt 7, 3) := by decide +kernel
theorem dX9_round_45 : decode cX9_round 45 = .ok (.iconst 1, 1) := by decide +kernel
theorem dX9_round_46 : decode cX9_round 46 = .ok (.goto 4, 3) := by decide +kernel
theorem dX9_round_49 : decode cX9_round 49 = .ok (.iconst 0, 1) := by decide +kernel
theorem dX9_round_50 : decode cX9_round 50 = .ok (.istore_n 2, 1) := by decide +kernel
theorem dX9_round_51 : decode cX9_round 51 = .ok (.iinc 3 1, 3) := by decide +kernel
theorem dX9_round_54 : decode cX9_round 54 = .ok (.goto (-35), 3) := by decide +kernel
theorem dX9_round_57 : decode cX9_round 57 = .ok (.iload_n 2, 1) := by decide +kernel
theorem dX9_round_58 : decode cX9_round 58 = .ok (.ifCond .ne 6, 3) := by decide +kernel
theorem dX9_round_61 : decode cX9_round 61 = .ok (.bipush (-5), 2) := by decide +kernel
theorem dX9_round_63 : decode cX9_round 63 = .ok (.ireturn, 1) := by decide +kernel
theorem dX9_round_64 : decode cX9_round 64 = .ok (.aload_n 0, 1) := by decide +kernel
theorem dX9_round_65 : decode cX9_round 65 = .ok (.iload_n 1, 1) := by decide +kernel
theorem dX9_round_66 : decode cX9_round 66 = .ok (.putfield 208, 3) := by decide +kernel
theorem dX9_round_69 : decode cX9_round 69 = .ok (.aload_n 0, 1) := by decide +kernel
theorem dX9_round_70 : decode cX9_round 70 = .ok (.iconst 1, 1) := by decide +kernel
theorem dX9_round_71 : decode cX9_round 71 = .ok (.putfield 201, 3) := by decide +kernel
theorem dX9_round_74 : decode cX9_round 74 = .ok (.iconst 0, 1) := by decide +kernel
theorem dX9_round_75 : decode cX9_round 75 = .ok (.istore_n 3, 1) := by decide +kernel
theorem dX9_round_76 : decode cX9_round 76 = .ok (.iload_n 3, 1) := by decide +kernel
theorem dX9_round_77 : decode cX9_round 77 = .ok (.iload_n 1, 1) := by decide +kernel
theorem dX9_round_78 : decode cX9_round 78 = .ok (.if_icmp .ge 33, 3) := by decide +kernel
theorem dX9_round_81 : decode cX9_round 81 = .ok (.aload_n 0, 1) := by decide +kernel
theorem dX9_round_82 : decode cX9_round 82 = .ok (.getfield 58, 3) := by decide +kernel
theorem dX9_round_85 : decode cX9_round 85 = .ok (.iload_n 3, 1) := by decide +kernel
theorem dX9_round_86 : decode cX9_round 86 = .ok (.aload_n 0, 1) := by decide +kernel
theorem dX9_round_87 : decode cX9_round 87 = .ok (.getfield 31, 3) := by decide +kernel
theorem dX9_round_90 : decode cX9_round 90 = .ok (.iload_n 3, 1) := by decide +kernel
theorem dX9_round_91 : decode cX9_round 91 = .ok (.iaload, 1) := by decide +kernel
theorem dX9_round_92 : decode cX9_round 92 = .ok (.iastore, 1) := by decide +kernel
theorem dX9_round_93 : decode cX9_round 93 = .ok (.aload_n 0, 1) := by decide +kernel
theorem dX9_round_94 : decode cX9_round 94 = .ok (.getfield 61, 3) := by decide +kernel
theorem dX9_round_97 : decode cX9_round 97 = .ok (.iload_n 3, 1) := by decide +kernel
theorem dX9_round_98 : decode cX9_round 98 = .ok (.aload_n 0, 1) := by decide +kernel
theorem dX9_round_99 : decode cX9_round 99 = .ok (.getfield 34, 3) := by decide +kernel
theorem dX9_round_102 : decode cX9_round 102 = .ok (.iload_n 3, 1) := by decide +kernel
theorem dX9_round_103 : decode cX9_round 103 = .ok (.iaload, 1) := by decide +kernel
theorem dX9_round_104 : decode cX9_round 104 = .ok (.iastore, 1) := by decide +kernel
theorem dX9_round_105 : decode cX9_round 105 = .ok (.iinc 3 1, 3) := by decide +kernel
theorem dX9_round_108 : decode cX9_round 108 = .ok (.goto (-32), 3) := by decide +kernel
theorem dX9_round_111 : decode cX9_round 111 = .ok (.aload_n 0, 1) := by decide +kernel
theorem dX9_round_112 : decode cX9_round 112 = .ok (.invokevirtual 235, 3) := by decide +kernel
theorem dX9_round_115 : decode cX9_round 115 = .ok (.istore_n 3, 1) := by decide +kernel
theorem dX9_round_116 : decode cX9_round 116 = .ok (.aload_n 0, 1) := by decide +kernel
theorem dX9_round_117 : decode cX9_round 117 = .ok (.iconst 0, 1) := by decide +kernel
theorem dX9_round_118 : decode cX9_round 118 = .ok (.invokevirtual 238, 3) := by decide +kernel
theorem dX9_round_121 : decode cX9_round 121 = .ok (.iload_n 3, 1) := by decide +kernel
theorem dX9_round_122 : decode cX9_round 122 = .ok (.ireturn, 1) := by decide +kernel
theorem dX9_through_0 : decode cX9_through 0 = .ok (.aload_n 0, 1) := by decide +kernel
theorem dX9_through_1 : decode cX9_through 1 = .ok (.getfield 22, 3) := by decide +kernel
theorem dX9_through_4 : decode cX9_through 4 = .ok (.iconst 0, 1) := by decide +kernel
theorem dX9_through_5 : decode cX9_through 5 = .ok (.iaload, 1) := by decide +kernel
theorem dX9_through_6 : decode cX9_through 6 = .ok (.ifCond .ne 6, 3) := by decide +kernel
theorem dX9_through_9 : decode cX9_through 9 = .ok (.bipush (-5), 2) := by decide +kernel
theorem dX9_through_11 : decode cX9_through 11 = .ok (.ireturn, 1) := by decide +kernel
theorem dX9_through_12 : decode cX9_through 12 = .ok (.aload_n 0, 1) := by decide +kernel
theorem dX9_through_13 : decode cX9_through 13 = .ok (.getfield 22, 3) := by decide +kernel
theorem dX9_through_16 : decode cX9_through 16 = .ok (.iconst 0, 1) := by decide +kernel
theorem dX9_through_17 : decode cX9_through 17 = .ok (.iaload, 1) := by decide +kernel
theorem dX9_through_18 : decode cX9_through 18 = .ok (.bipush 8, 2) := by decide +kernel
theorem dX9_through_20 : decode cX9_through 20 = .ok (.if_icmp .le 6, 3) := by decide +kernel
theorem dX9_through_23 : decode cX9_through 23 = .ok (.bipush (-4), 2) := by decide +kernel
theorem dX9_through_25 : decode cX9_through 25 = .ok (.ireturn, 1) := by decide +kernel
theorem dX9_through_26 : decode cX9_through 26 = .ok (.aload_n 0, 1) := by decide +kernel
theorem dX9_through_27 : decode cX9_through 27 = .ok (.invokevirtual 191, 3) := by decide +kernel
theorem dX9_through_30 : decode cX9_through 30 = .ok (.aload_n 0, 1) := by decide +kernel
theorem dX9_through_31 : decode cX9_through 31 = .ok (.aload_n 0, 1) := by decide +kernel
theorem dX9_through_32 : decode cX9_through 32 = .ok (.getfield 55, 3) := by decide +kernel
theorem dX9_through_35 : decode cX9_through 35 = .ok (.invokevirtual 241, 3) := by decide +kernel
theorem dX9_through_38 : decode cX9_through 38 = .ok (.istore_n 1, 1) := by decide +kernel
theorem dX9_through_39 : decode cX9_through 39 = .ok (.aload_n 0, 1) := by decide +kernel
theorem dX9_through_40 : decode cX9_through 40 = .ok (.invokevirtual 194, 3) := by decide +kernel
theorem dX9_through_43 : decode cX9_through 43 = .ok (.ifCond .eq 35, 3) := by decide +kernel
theorem dX9_through_46 : decode cX9_through 46 = .ok (.aload_n 0, 1) := by decide +kernel
theorem dX9_through_47 : decode cX9_through 47 = .ok (.getfield 55, 3) := by decide +kernel
theorem dX9_through_50 : decode cX9_through 50 = .ok (.iconst 0, 1) := by decide +kernel
theorem dX9_through_51 : decode cX9_through 51 = .ok (.iaload, 1) := by decide +kernel
theorem dX9_through_52 : decode cX9_through 52 = .ok (.ifCond .ne 26, 3) := by decide +kernel
theorem dX9_through_55 : decode cX9_through 55 = .ok (.aload_n 0, 1) := by decide +kernel
theorem dX9_through_56 : decode cX9_through 56 = .ok (.aload_n 0, 1) := by decide +kernel
theorem dX9_through_57 : decode cX9_through 57 = .ok (.getfield 55, 3) := by decide +kernel
theorem dX9_through_60 : decode cX9_through 60 = .ok (.invokevirtual 241, 3) := by decide +kernel
theorem dX9_through_63 : decode cX9_through 63 = .ok (.istore_n 2, 1) := by decide +kernel
theorem dX9_through_64 : decode cX9_through 64 = .ok (.iload_n 2, 1) := by decide +kernel
theorem dX9_through_65 : decode cX9_through 65 = .ok (.iload_n 1, 1) := by decide +kernel
theorem dX9_through_66 : decode cX9_through 66 = .ok (.if_icmp .ge 7, 3) := by decide +kernel
theorem dX9_through_69 : decode cX9_through 69 = .ok (.iload_n 2, 1) := by decide +kernel
theorem dX9_through_70 : decode cX9_through 70 = .ok (.goto 4, 3) := by decide +kernel
theorem dX9_through_73 : decode cX9_through 73 = .ok (.iload_n 1, 1) := by decide +kernel
theorem dX9_through_74 : decode cX9_through 74 = .ok (.istore_n 1, 1) := by decide +kernel
theorem dX9_through_75 : decode cX9_through 75 = .ok (.goto (-36), 3) := by decide +kernel
theorem dX9_through_78 : decode cX9_through 78 = .ok (.iload_n 1, 1) := by decide +kernel
theorem dX9_through_79 : decode cX9_through 79 = .ok (.ireturn, 1) := by decide +kernel
theorem dX9_batches_0 : decode cX9_batches 0 = .ok (.iload_n 1, 1) := by decide +kernel
theorem dX9_batches_1 : decode cX9_batches 1 = .ok (.i2l, 1) := by decide +kernel
theorem dX9_batches_2 : decode cX9_batches 2 = .ok (.lconst 1, 1) := by decide +kernel
theorem dX9_batches_3 : decode cX9_batches 3 = .ok (.ldc2_w 128, 3) := by decide +kernel
theorem dX9_batches_6 : decode cX9_batches 6 = .ok (.invokestatic 98, 3) := by decide +kernel
theorem dX9_batches_9 : decode cX9_batches 9 = .ok (.ifCond .ne 6, 3) := by decide +kernel
theorem dX9_batches_12 : decode cX9_batches 12 = .ok (.bipush (-2), 2) := by decide +kernel
theorem dX9_batches_14 : decode cX9_batches 14 = .ok (.ireturn, 1) := by decide +kernel
theorem dX9_batches_15 : decode cX9_batches 15 = .ok (.iconst 0, 1) := by decide +kernel
theorem dX9_batches_16 : decode cX9_batches 16 = .ok (.istore_n 2, 1) := by decide +kernel
theorem dX9_batches_17 : decode cX9_batches 17 = .ok (.iload_n 2, 1) := by decide +kernel
theorem dX9_batches_18 : decode cX9_batches 18 = .ok (.aload_n 0, 1) := by decide +kernel
theorem dX9_batches_19 : decode cX9_batches 19 = .ok (.getfield 22, 3) := by decide +kernel
theorem dX9_batches_22 : decode cX9_batches 22 = .ok (.iconst 0, 1) := by decide +kernel
theorem dX9_batches_23 : decode cX9_batches 23 = .ok (.iaload, 1) := by decide +kernel
theorem dX9_batches_24 : decode cX9_batches 24 = .ok (.if_icmp .ge 64, 3) := by decide +kernel
theorem dX9_batches_27 : decode cX9_batches 27 = .ok (.iload_n 2, 1) := by decide +kernel
theorem dX9_batches_28 : decode cX9_batches 28 = .ok (.istore_n 3, 1) := by decide +kernel
theorem dX9_batches_29 : decode cX9_batches 29 = .ok (.iload_n 3, 1) := by decide +kernel
theorem dX9_batches_30 : decode cX9_batches 30 = .ok (.ifCond .le 40, 3) := by decide +kernel
theorem dX9_batches_33 : decode cX9_batches 33 = .ok (.aload_n 0, 1) := by decide +kernel
theorem dX9_batches_34 : decode cX9_batches 34 = .ok (.getfield 89, 3) := by decide +kernel
theorem dX9_batches_37 : decode cX9_batches 37 = .ok (.iload_n 3, 1) := by decide +kernel
theorem dX9_batches_38 : decode cX9_batches 38 = .ok (.iconst 1, 1) := by decide +kernel
theorem dX9_batches_39 : decode cX9_batches 39 = .ok (.isub, 1) := by decide +kernel
theorem dX9_batches_40 : decode cX9_batches 40 = .ok (.iaload, 1) := by decide +kernel
theorem dX9_batches_41 : decode cX9_batches 41 = .ok (.aload_n 0, 1) := by decide +kernel
theorem dX9_batches_42 : decode cX9_batches 42 = .ok (.getfield 28, 3) := by decide +kernel
theorem dX9_batches_45 : decode cX9_batches 45 = .ok (.iload_n 2, 1) := by decide +kernel
theorem dX9_batches_46 : decode cX9_batches 46 = .ok (.iaload, 1) := by decide +kernel
theorem dX9_batches_47 : decode cX9_batches 47 = .ok (.if_icmp .ge 23, 3) := by decide +kernel
theorem dX9_batches_50 : decode cX9_batches 50 = .ok (.aload_n 0, 1) := by decide +kernel
theorem dX9_batches_51 : decode cX9_batches 51 = .ok (.getfield 89, 3) := by decide +kernel
theorem dX9_batches_54 : decode cX9_batches 54 = .ok (.iload_n 3, 1) := by decide +kernel
theorem dX9_batches_55 : decode cX9_batches 55 = .ok (.aload_n 0, 1) := by decide +kernel
theorem dX9_batches_56 : decode cX9_batches 56 = .ok (.getfield 89, 3) := by decide +kernel
theorem dX9_batches_59 : decode cX9_batches 59 = .ok (.iload_n 3, 1) := by decide +kernel
theorem dX9_batches_60 : decode cX9_batches 60 = .ok (.iconst 1, 1) := by decide +kernel
theorem dX9_batches_61 : decode cX9_batches 61 = .ok (.isub, 1) := by decide +kernel
theorem dX9_batches_62 : decode cX9_batches 62 = .ok (.iaload, 1) := by decide +kernel
theorem dX9_batches_63 : decode cX9_batches 63 = .ok (.iastore, 1) := by decide +kernel
theorem dX9_batches_64 : decode cX9_batches 64 = .ok (.iinc 3 (-1), 3) := by decide +kernel
theorem dX9_batches_67 : decode cX9_batches 67 = .ok (.goto (-38), 3) := by decide +kernel
theorem dX9_batches_70 : decode cX9_batches 70 = .ok (.aload_n 0, 1) := by decide +kernel
theorem dX9_batches_71 : decode cX9_batches 71 = .ok (.getfield 89, 3) := by decide +kernel
theorem dX9_batches_74 : decode cX9_batches 74 = .ok (.iload_n 3, 1) := by decide +kernel
theorem dX9_batches_75 : decode cX9_batches 75 = .ok (.aload_n 0, 1) := by decide +kernel
theorem dX9_batches_76 : decode cX9_batches 76 = .ok (.getfield 28, 3) := by decide +kernel
theorem dX9_batches_79 : decode cX9_batches 79 = .ok (.iload_n 2, 1) := by decide +kernel
theorem dX9_batches_80 : decode cX9_batches 80 = .ok (.iaload, 1) := by decide +kernel
theorem dX9_batches_81 : decode cX9_batches 81 = .ok (.iastore, 1) := by decide +kernel
theorem dX9_batches_82 : decode cX9_batches 82 = .ok (.iinc 2 1, 3) := by decide +kernel
theorem dX9_batches_85 : decode cX9_batches 85 = .ok (.goto (-68), 3) := by decide +kernel
theorem dX9_batches_88 : decode cX9_batches 88 = .ok (.iconst 0, 1) := by decide +kernel
theorem dX9_batches_89 : decode cX9_batches 89 = .ok (.istore_n 2, 1) := by decide +kernel
theorem dX9_batches_90 : decode cX9_batches 90 = .ok (.iconst 0, 1) := by decide +kernel
theorem dX9_batches_91 : decode cX9_batches 91 = .ok (.istore_n 3, 1) := by decide +kernel
theorem dX9_batches_92 : decode cX9_batches 92 = .ok (.iload_n 3, 1) := by decide +kernel
theorem dX9_batches_93 : decode cX9_batches 93 = .ok (.aload_n 0, 1) := by decide +kernel
theorem dX9_batches_94 : decode cX9_batches 94 = .ok (.getfield 22, 3) := by decide +kernel
theorem dX9_batches_97 : decode cX9_batches 97 = .ok (.iconst 0, 1) := by decide +kernel
theorem dX9_batches_98 : decode cX9_batches 98 = .ok (.iaload, 1) := by decide +kernel
theorem dX9_batches_99 : decode cX9_batches 99 = .ok (.if_icmp .ge 19, 3) := by decide +kernel
theorem dX9_batches_102 : decode cX9_batches 102 = .ok (.iload_n 2, 1) := by decide +kernel
theorem dX9_batches_103 : decode cX9_batches 103 = .ok (.aload_n 0, 1) := by decide +kernel
theorem dX9_batches_104 : decode cX9_batches 104 = .ok (.getfield 89, 3) := by decide +kernel
theorem dX9_batches_107 : decode cX9_batches 107 = .ok (.iload_n 3, 1) := by decide +kernel
theorem dX9_batches_108 : decode cX9_batches 108 = .ok (.iaload, 1) := by decide +kernel
theorem dX9_batches_109 : decode cX9_batches 109 = .ok (.iadd, 1) := by decide +kernel
theorem dX9_batches_110 : decode cX9_batches 110 = .ok (.istore_n 2, 1) := by decide +kernel
theorem dX9_batches_111 : decode cX9_batches 111 = .ok (.iload_n 3, 1) := by decide +kernel
theorem dX9_batches_112 : decode cX9_batches 112 = .ok (.iload_n 1, 1) := by decide +kernel
theorem dX9_batches_113 : decode cX9_batches 113 = .ok (.iadd, 1) := by decide +kernel
theorem dX9_batches_114 : decode cX9_batches 114 = .ok (.istore_n 3, 1) := by decide +kernel
theorem dX9_batches_115 : decode cX9_batches 115 = .ok (.goto (-23), 3) := by decide +kernel
theorem dX9_batches_118 : decode cX9_batches 118 = .ok (.iload_n 2, 1) := by decide +kernel
theorem dX9_batches_119 : decode cX9_batches 119 = .ok (.ireturn, 1) := by decide +kernel
theorem dX9_count_0 : decode cX9_count 0 = .ok (.iload_n 1, 1) := by decide +kernel
theorem dX9_count_1 : decode cX9_count 1 = .ok (.tableswitch 86 0 5 #[39, 46, 51, 56, 76, 81], 39) := by decide +kernel
theorem dX9_count_40 : decode cX9_count 40 = .ok (.aload_n 0, 1) := by decide +kernel
theorem dX9_count_41 : decode cX9_count 41 = .ok (.getfield 22, 3) := by decide +kernel
theorem dX9_count_44 : decode cX9_count 44 = .ok (.iconst 0, 1) := by decide +kernel
theorem dX9_count_45 : decode cX9_count 45 = .ok (.iaload, 1) := by decide +kernel
theorem dX9_count_46 : decode cX9_count 46 = .ok (.ireturn, 1) := by decide +kernel
theorem dX9_count_47 : decode cX9_count 47 = .ok (.aload_n 0, 1) := by decide +kernel
theorem dX9_count_48 : decode cX9_count 48 = .ok (.invokevirtual 179, 3) := by decide +kernel
theorem dX9_count_51 : decode cX9_count 51 = .ok (.ireturn, 1) := by decide +kernel
theorem dX9_count_52 : decode cX9_count 52 = .ok (.aload_n 0, 1) := by decide +kernel
theorem dX9_count_53 : decode cX9_count 53 = .ok (.invokevirtual 175, 3) := by decide +kernel
theorem dX9_count_56 : decode cX9_count 56 = .ok (.ireturn, 1) := by decide +kernel
theorem dX9_count_57 : decode cX9_count 57 = .ok (.aload_n 0, 1) := by decide +kernel
theorem dX9_count_58 : decode cX9_count 58 = .ok (.getfield 167, 3) := by decide +kernel
theorem dX9_count_61 : decode cX9_count 61 = .ok (.ifCond .eq 14, 3) := by decide +kernel
theorem dX9_count_64 : decode cX9_count 64 = .ok (.aload_n 0, 1) := by decide +kernel
theorem dX9_count_65 : decode cX9_count 65 = .ok (.getfield 124, 3) := by decide +kernel
theorem dX9_count_68 : decode cX9_count 68 = .ok (.ifCond .eq 7, 3) := by decide +kernel
theorem dX9_count_71 : decode cX9_count 71 = .ok (.iconst 1, 1) := by decide +kernel
theorem dX9_count_72 : decode cX9_count 72 = .ok (.goto 4, 3) := by decide +kernel
theorem dX9_count_75 : decode cX9_count 75 = .ok (.iconst 0, 1) := by decide +kernel
theorem dX9_count_76 : decode cX9_count 76 = .ok (.ireturn, 1) := by decide +kernel
theorem dX9_count_77 : decode cX9_count 77 = .ok (.aload_n 0, 1) := by decide +kernel
theorem dX9_count_78 : decode cX9_count 78 = .ok (.getfield 117, 3) := by decide +kernel
theorem dX9_count_81 : decode cX9_count 81 = .ok (.ireturn, 1) := by decide +kernel
theorem dX9_count_82 : decode cX9_count 82 = .ok (.aload_n 0, 1) := by decide +kernel
theorem dX9_count_83 : decode cX9_count 83 = .ok (.getfield 92, 3) := by decide +kernel
theorem dX9_count_86 : decode cX9_count 86 = .ok (.ireturn, 1) := by decide +kernel
theorem dX9_count_87 : decode cX9_count 87 = .ok (.bipush (-2), 2) := by decide +kernel
theorem dX9_count_89 : decode cX9_count 89 = .ok (.ireturn, 1) := by decide +kernel
theorem dX9_digest_0 : decode cX9_digest 0 = .ok (.ldc2_w 245, 3) := by decide +kernel
theorem dX9_digest_3 : decode cX9_digest 3 = .ok (.lstore_n 1, 1) := by decide +kernel
theorem dX9_digest_4 : decode cX9_digest 4 = .ok (.iconst 0, 1) := by decide +kernel
theorem dX9_digest_5 : decode cX9_digest 5 = .ok (.istore_n 3, 1) := by decide +kernel
theorem dX9_digest_6 : decode cX9_digest 6 = .ok (.iload_n 3, 1) := by decide +kernel
theorem dX9_digest_7 : decode cX9_digest 7 = .ok (.aload_n 0, 1) := by decide +kernel
theorem dX9_digest_8 : decode cX9_digest 8 = .ok (.getfield 22, 3) := by decide +kernel
theorem dX9_digest_11 : decode cX9_digest 11 = .ok (.iconst 0, 1) := by decide +kernel
theorem dX9_digest_12 : decode cX9_digest 12 = .ok (.iaload, 1) := by decide +kernel
theorem dX9_digest_13 : decode cX9_digest 13 = .ok (.if_icmp .ge 40, 3) := by decide +kernel
theorem dX9_digest_16 : decode cX9_digest 16 = .ok (.iconst 0, 1) := by decide +kernel
theorem dX9_digest_17 : decode cX9_digest 17 = .ok (.istore 4, 2) := by decide +kernel
theorem dX9_digest_19 : decode cX9_digest 19 = .ok (.iload 4, 2) := by decide +kernel
theorem dX9_digest_21 : decode cX9_digest 21 = .ok (.bipush 6, 2) := by decide +kernel
theorem dX9_digest_23 : decode cX9_digest 23 = .ok (.if_icmp .ge 24, 3) := by decide +kernel
theorem dX9_digest_26 : decode cX9_digest 26 = .ok (.ldc2_w 247, 3) := by decide +kernel
theorem dX9_digest_29 : decode cX9_digest 29 = .ok (.lload_n 1, 1) := by decide +kernel
theorem dX9_digest_30 : decode cX9_digest 30 = .ok (.lmul, 1) := by decide +kernel
theorem dX9_digest_31 : decode cX9_digest 31 = .ok (.aload_n 0, 1) := by decide +kernel
theorem dX9_digest_32 : decode cX9_digest 32 = .ok (.iload_n 3, 1) := by decide +kernel
theorem dX9_digest_33 : decode cX9_digest 33 = .ok (.iload 4, 2) := by decide +kernel
theorem dX9_digest_35 : decode cX9_digest 35 = .ok (.invokevirtual 249, 3) := by decide +kernel
theorem dX9_digest_38 : decode cX9_digest 38 = .ok (.i2l, 1) := by decide +kernel
theorem dX9_digest_39 : decode cX9_digest 39 = .ok (.ladd, 1) := by decide +kernel
theorem dX9_digest_40 : decode cX9_digest 40 = .ok (.lstore_n 1, 1) := by decide +kernel
theorem dX9_digest_41 : decode cX9_digest 41 = .ok (.iinc 4 1, 3) := by decide +kernel
theorem dX9_digest_44 : decode cX9_digest 44 = .ok (.goto (-25), 3) := by decide +kernel
theorem dX9_digest_47 : decode cX9_digest 47 = .ok (.iinc 3 1, 3) := by decide +kernel
theorem dX9_digest_50 : decode cX9_digest 50 = .ok (.goto (-44), 3) := by decide +kernel
theorem dX9_digest_53 : decode cX9_digest 53 = .ok (.iconst 0, 1) := by decide +kernel
theorem dX9_digest_54 : decode cX9_digest 54 = .ok (.istore_n 3, 1) := by decide +kernel
theorem dX9_digest_55 : decode cX9_digest 55 = .ok (.iload_n 3, 1) := by decide +kernel
theorem dX9_digest_56 : decode cX9_digest 56 = .ok (.aload_n 0, 1) := by decide +kernel
theorem dX9_digest_57 : decode cX9_digest 57 = .ok (.getfield 22, 3) := by decide +kernel
theorem dX9_digest_60 : decode cX9_digest 60 = .ok (.iconst 0, 1) := by decide +kernel
theorem dX9_digest_61 : decode cX9_digest 61 = .ok (.iaload, 1) := by decide +kernel
theorem dX9_digest_62 : decode cX9_digest 62 = .ok (.if_icmp .ge 23, 3) := by decide +kernel
theorem dX9_digest_65 : decode cX9_digest 65 = .ok (.ldc2_w 247, 3) := by decide +kernel
theorem dX9_digest_68 : decode cX9_digest 68 = .ok (.lload_n 1, 1) := by decide +kernel
theorem dX9_digest_69 : decode cX9_digest 69 = .ok (.lmul, 1) := by decide +kernel
theorem dX9_digest_70 : decode cX9_digest 70 = .ok (.aload_n 0, 1) := by decide +kernel
theorem dX9_digest_71 : decode cX9_digest 71 = .ok (.getfield 37, 3) := by decide +kernel
theorem dX9_digest_74 : decode cX9_digest 74 = .ok (.iload_n 3, 1) := by decide +kernel
theorem dX9_digest_75 : decode cX9_digest 75 = .ok (.iaload, 1) := by decide +kernel
theorem dX9_digest_76 : decode cX9_digest 76 = .ok (.i2l, 1) := by decide +kernel
theorem dX9_digest_77 : decode cX9_digest 77 = .ok (.ladd, 1) := by decide +kernel
theorem dX9_digest_78 : decode cX9_digest 78 = .ok (.lstore_n 1, 1) := by decide +kernel
theorem dX9_digest_79 : decode cX9_digest 79 = .ok (.iinc 3 1, 3) := by decide +kernel
theorem dX9_digest_82 : decode cX9_digest 82 = .ok (.goto (-27), 3) := by decide +kernel
theorem dX9_digest_85 : decode cX9_digest 85 = .ok (.iconst 0, 1) := by decide +kernel
theorem dX9_digest_86 : decode cX9_digest 86 = .ok (.istore_n 3, 1) := by decide +kernel
theorem dX9_digest_87 : decode cX9_digest 87 = .ok (.iload_n 3, 1) := by decide +kernel
theorem dX9_digest_88 : decode cX9_digest 88 = .ok (.bipush 8, 2) := by decide +kernel
theorem dX9_digest_90 : decode cX9_digest 90 = .ok (.if_icmp .ge 35, 3) := by decide +kernel
theorem dX9_digest_93 : decode cX9_digest 93 = .ok (.ldc2_w 247, 3) := by decide +kernel
theorem dX9_digest_96 : decode cX9_digest 96 = .ok (.ldc2_w 247, 3) := by decide +kernel
theorem dX9_digest_99 : decode cX9_digest 99 = .ok (.lload_n 1, 1) := by decide +kernel
theorem dX9_digest_100 : decode cX9_digest 100 = .ok (.lmul, 1) := by decide +kernel
theorem dX9_digest_101 : decode cX9_digest 101 = .ok (.aload_n 0, 1) := by decide +kernel
theorem dX9_digest_102 : decode cX9_digest 102 = .ok (.getfield 43, 3) := by decide +kernel
theorem dX9_digest_105 : decode cX9_digest 105 = .ok (.iload_n 3, 1) := by decide +kernel
theorem dX9_digest_106 : decode cX9_digest 106 = .ok (.iaload, 1) := by decide +kernel
theorem dX9_digest_107 : decode cX9_digest 107 = .ok (.i2l, 1) := by decide +kernel
theorem dX9_digest_108 : decode cX9_digest 108 = .ok (.ladd, 1) := by decide +kernel
theorem dX9_digest_109 : decode cX9_digest 109 = .ok (.lmul, 1) := by decide +kernel
theorem dX9_digest_110 : decode cX9_digest 110 = .ok (.aload_n 0, 1) := by decide +kernel
theorem dX9_digest_111 : decode cX9_digest 111 = .ok (.getfield 46, 3) := by decide +kernel
theorem dX9_digest_114 : decode cX9_digest 114 = .ok (.iload_n 3, 1) := by decide +kernel
theorem dX9_digest_115 : decode cX9_digest 115 = .ok (.iaload, 1) := by decide +kernel
theorem dX9_digest_116 : decode cX9_digest 116 = .ok (.i2l, 1) := by decide +kernel
theorem dX9_digest_117 : decode cX9_digest 117 = .ok (.ladd, 1) := by decide +kernel
theorem dX9_digest_118 : decode cX9_digest 118 = .ok (.lstore_n 1, 1) := by decide +kernel
theorem dX9_digest_119 : decode cX9_digest 119 = .ok (.iinc 3 1, 3) := by decide +kernel
theorem dX9_digest_122 : decode cX9_digest 122 = .ok (.goto (-35), 3) := by decide +kernel
theorem dX9_digest_125 : decode cX9_digest 125 = .ok (.lload_n 1, 1) := by decide +kernel
theorem dX9_digest_126 : decode cX9_digest 126 = .ok (.lreturn, 1) := by decide +kernel
theorem dJ9_max_7cf53_0 : decode cJ9_max_7cf53 0 = .ok (.iload_n 0, 1) := by decide +kernel
theorem dJ9_max_7cf53_1 : decode cJ9_max_7cf53 1 = .ok (.iload_n 1, 1) := by decide +kernel
theorem dJ9_max_7cf53_2 : decode cJ9_max_7cf53 2 = .ok (.if_icmp .lt 7, 3) := by decide +kernel
theorem dJ9_max_7cf53_5 : decode cJ9_max_7cf53 5 = .ok (.iload_n 0, 1) := by decide +kernel
theorem dJ9_max_7cf53_6 : decode cJ9_max_7cf53 6 = .ok (.goto 4, 3) := by decide +kernel
theorem dJ9_max_7cf53_9 : decode cJ9_max_7cf53 9 = .ok (.iload_n 1, 1) := by decide +kernel
theorem dJ9_max_7cf53_10 : decode cJ9_max_7cf53 10 = .ok (.ireturn, 1) := by decide +kernel
theorem dJ9_min_7cf53_0 : decode cJ9_min_7cf53 0 = .ok (.iload_n 0, 1) := by decide +kernel
theorem dJ9_min_7cf53_1 : decode cJ9_min_7cf53 1 = .ok (.iload_n 1, 1) := by decide +kernel
theorem dJ9_min_7cf53_2 : decode cJ9_min_7cf53 2 = .ok (.if_icmp .gt 7, 3) := by decide +kernel
theorem dJ9_min_7cf53_5 : decode cJ9_min_7cf53 5 = .ok (.iload_n 0, 1) := by decide +kernel
theorem dJ9_min_7cf53_6 : decode cJ9_min_7cf53 6 = .ok (.goto 4, 3) := by decide +kernel
theorem dJ9_min_7cf53_9 : decode cJ9_min_7cf53 9 = .ok (.iload_n 1, 1) := by decide +kernel
theorem dJ9_min_7cf53_10 : decode cJ9_min_7cf53 10 = .ok (.ireturn, 1) := by decide +kernel
theorem dJ7_fill_53178_0 : decode cJ7_fill_53178 0 = .ok (.iconst 0, 1) := by decide +kernel
theorem dJ7_fill_53178_1 : decode cJ7_fill_53178 1 = .ok (.istore_n 2, 1) := by decide +kernel
theorem dJ7_fill_53178_2 : decode cJ7_fill_53178 2 = .ok (.aload_n 0, 1) := by decide +kernel
theorem dJ7_fill_53178_3 : decode cJ7_fill_53178 3 = .ok (.arraylength, 1) := by decide +kernel
theorem dJ7_fill_53178_4 : decode cJ7_fill_53178 4 = .ok (.istore_n 3, 1) := by decide +kernel
theorem dJ7_fill_53178_5 : decode cJ7_fill_53178 5 = .ok (.iload_n 2, 1) := by decide +kernel
theorem dJ7_fill_53178_6 : decode cJ7_fill_53178 6 = .ok (.iload_n 3, 1) := by decide +kernel
theorem dJ7_fill_53178_7 : decode cJ7_fill_53178 7 = .ok (.if_icmp .ge 13, 3) := by decide +kernel
theorem dJ7_fill_53178_10 : decode cJ7_fill_53178 10 = .ok (.aload_n 0, 1) := by decide +kernel
theorem dJ7_fill_53178_11 : decode cJ7_fill_53178 11 = .ok (.iload_n 2, 1) := by decide +kernel
theorem dJ7_fill_53178_12 : decode cJ7_fill_53178 12 = .ok (.iload_n 1, 1) := by decide +kernel
theorem dJ7_fill_53178_13 : decode cJ7_fill_53178 13 = .ok (.iastore, 1) := by decide +kernel
theorem dJ7_fill_53178_14 : decode cJ7_fill_53178 14 = .ok (.iinc 2 1, 3) := by decide +kernel
theorem dJ7_fill_53178_17 : decode cJ7_fill_53178 17 = .ok (.goto (-12), 3) := by decide +kernel
theorem dJ7_fill_53178_20 : decode cJ7_fill_53178 20 = .ok (.return_, 1) := by decide +kernel
