theorem dX6_extend_50 : decode cX6_extend 50 = .ok (.istore 10, 2) := by decide +kernel
theorem dX6_extend_52 : decode cX6_extend 52 = .ok (.iconst 0, 1) := by decide +kernel
theorem dX6_extend_53 : decode cX6_extend 53 = .ok (.istore 11, 2) := by decide +kernel
theorem dX6_extend_55 : decode cX6_extend 55 = .ok (.iload 11, 2) := by decide +kernel
theorem dX6_extend_57 : decode cX6_extend 57 = .ok (.aload_n 0, 1) := by decide +kernel
theorem dX6_extend_58 : decode cX6_extend 58 = .ok (.getfield 53, 3) := by decide +kernel
theorem dX6_extend_61 : decode cX6_extend 61 = .ok (.getfield 57, 3) := by decide +kernel
theorem dX6_extend_64 : decode cX6_extend 64 = .ok (.if_icmp .ge 107, 3) := by decide +kernel
theorem dX6_extend_67 : decode cX6_extend 67 = .ok (.iload_n 2, 1) := by decide +kernel
theorem dX6_extend_68 : decode cX6_extend 68 = .ok (.iload 11, 2) := by decide +kernel
theorem dX6_extend_70 : decode cX6_extend 70 = .ok (.iushr, 1) := by decide +kernel
theorem dX6_extend_71 : decode cX6_extend 71 = .ok (.iconst 1, 1) := by decide +kernel
theorem dX6_extend_72 : decode cX6_extend 72 = .ok (.iand, 1) := by decide +kernel
theorem dX6_extend_73 : decode cX6_extend 73 = .ok (.ifCond .ne 7, 3) := by decide +kernel
theorem dX6_extend_76 : decode cX6_extend 76 = .ok (.iconst 1, 1) := by decide +kernel
theorem dX6_extend_77 : decode cX6_extend 77 = .ok (.goto 4, 3) := by decide +kernel
theorem dX6_extend_80 : decode cX6_extend 80 = .ok (.iconst 0, 1) := by decide +kernel
theorem dX6_extend_81 : decode cX6_extend 81 = .ok (.istore 12, 2) := by decide +kernel
theorem dX6_extend_83 : decode cX6_extend 83 = .ok (.iload 12, 2) := by decide +kernel
theorem dX6_extend_85 : decode cX6_extend 85 = .ok (.ifCond .eq 80, 3) := by decide +kernel
theorem dX6_extend_88 : decode cX6_extend 88 = .ok (.aload_n 0, 1) := by decide +kernel
theorem dX6_extend_89 : decode cX6_extend 89 = .ok (.getfield 53, 3) := by decide +kernel
theorem dX6_extend_92 : decode cX6_extend 92 = .ok (.iload 11, 2) := by decide +kernel
theorem dX6_extend_94 : decode cX6_extend 94 = .ok (.iload_n 2, 1) := by decide +kernel
theorem dX6_extend_95 : decode cX6_extend 95 = .ok (.invokevirtual 76, 3) := by decide +kernel
theorem dX6_extend_98 : decode cX6_extend 98 = .ok (.ifCond .ne 6, 3) := by decide +kernel
theorem dX6_extend_101 : decode cX6_extend 101 = .ok (.goto 64, 3) := by decide +kernel
theorem dX6_extend_104 : decode cX6_extend 104 = .ok (.aload_n 0, 1) := by decide +kernel
theorem dX6_extend_105 : decode cX6_extend 105 = .ok (.getfield 12, 3) := by decide +kernel
theorem dX6_extend_108 : decode cX6_extend 108 = .ok (.lload 6, 2) := by decide +kernel
theorem dX6_extend_110 : decode cX6_extend 110 = .ok (.lload 8, 2) := by decide +kernel
theorem dX6_extend_112 : decode cX6_extend 112 = .ok (.iload 10, 2) := by decide +kernel
theorem dX6_extend_114 : decode cX6_extend 114 = .ok (.invokevirtual 103, 3) := by decide +kernel
theorem dX6_extend_117 : decode cX6_extend 117 = .ok (.aload_n 0, 1) := by decide +kernel
theorem dX6_extend_118 : decode cX6_extend 118 = .ok (.getfield 53, 3) := by decide +kernel
theorem dX6_extend_121 : decode cX6_extend 121 = .ok (.aload_n 0, 1) := by decide +kernel
theorem dX6_extend_122 : decode cX6_extend 122 = .ok (.getfield 12, 3) := by decide +kernel
theorem dX6_extend_125 : decode cX6_extend 125 = .ok (.iload 11, 2) := by decide +kernel
theorem dX6_extend_127 : decode cX6_extend 127 = .ok (.invokevirtual 107, 3) := by decide +kernel
theorem dX6_extend_130 : decode cX6_extend 130 = .ok (.iload 5, 2) := by decide +kernel
theorem dX6_extend_132 : decode cX6_extend 132 = .ok (.aload_n 0, 1) := by decide +kernel
theorem dX6_extend_133 : decode cX6_extend 133 = .ok (.iload 11, 2) := by decide +kernel
theorem dX6_extend_135 : decode cX6_extend 135 = .ok (.iload_n 1, 1) := by decide +kernel
theorem dX6_extend_136 : decode cX6_extend 136 = .ok (.lload_n 3, 1) := by decide +kernel
theorem dX6_extend_137 : decode cX6_extend 137 = .ok (.invokevirtual 111, 3) := by decide +kernel
theorem dX6_extend_140 : decode cX6_extend 140 = .ok (.iadd, 1) := by decide +kernel
theorem dX6_extend_141 : decode cX6_extend 141 = .ok (.istore 13, 2) := by decide +kernel
theorem dX6_extend_143 : decode cX6_extend 143 = .ok (.aload_n 0, 1) := by decide +kernel
theorem dX6_extend_144 : decode cX6_extend 144 = .ok (.iload_n 1, 1) := by decide +kernel
theorem dX6_extend_145 : decode cX6_extend 145 = .ok (.iconst 1, 1) := by decide +kernel
theorem dX6_extend_146 : decode cX6_extend 146 = .ok (.iadd, 1) := by decide +kernel
theorem dX6_extend_147 : decode cX6_extend 147 = .ok (.iload_n 2, 1) := by decide +kernel
theorem dX6_extend_148 : decode cX6_extend 148 = .ok (.iconst 1, 1) := by decide +kernel
theorem dX6_extend_149 : decode cX6_extend 149 = .ok (.iload 11, 2) := by decide +kernel
theorem dX6_extend_151 : decode cX6_extend 151 = .ok (.ishl, 1) := by decide +kernel
theorem dX6_extend_152 : decode cX6_extend 152 = .ok (.ior, 1) := by decide +kernel
theorem dX6_extend_153 : decode cX6_extend 153 = .ok (.lload_n 3, 1) := by decide +kernel
theorem dX6_extend_154 : decode cX6_extend 154 = .ok (.iload_n 1, 1) := by decide +kernel
theorem dX6_extend_155 : decode cX6_extend 155 = .ok (.iload 11, 2) := by decide +kernel
theorem dX6_extend_157 : decode cX6_extend 157 = .ok (.invokestatic 115, 3) := by decide +kernel
theorem dX6_extend_160 : decode cX6_extend 160 = .ok (.iload 13, 2) := by decide +kernel
theorem dX6_extend_162 : decode cX6_extend 162 = .ok (.invokestatic 86, 3) := by decide +kernel
theorem dX6_extend_165 : decode cX6_extend 165 = .ok (.iinc 11 1, 3) := by decide +kernel
theorem dX6_extend_168 : decode cX6_extend 168 = .ok (.goto (-113), 3) := by decide +kernel
theorem dX6_extend_171 : decode cX6_extend 171 = .ok (.return_, 1) := by decide +kernel
theorem dX6_smearOf_0 : decode cX6_smearOf 0 = .ok (.iconst 0, 1) := by decide +kernel
theorem dX6_smearOf_1 : decode cX6_smearOf 1 = .ok (.istore 5, 2) := by decide +kernel
theorem dX6_smearOf_3 : decode cX6_smearOf 3 = .ok (.aload_n 0, 1) := by decide +kernel
theorem dX6_smearOf_4 : decode cX6_smearOf 4 = .ok (.getfield 53, 3) := by decide +kernel
theorem dX6_smearOf_7 : decode cX6_smearOf 7 = .ok (.iload_n 1, 1) := by decide +kernel
theorem dX6_smearOf_8 : decode cX6_smearOf 8 = .ok (.invokevirtual 121, 3) := by decide +kernel
theorem dX6_smearOf_11 : decode cX6_smearOf 11 = .ok (.istore 6, 2) := by decide +kernel
theorem dX6_smearOf_13 : decode cX6_smearOf 13 = .ok (.iconst 0, 1) := by decide +kernel
theorem dX6_smearOf_14 : decode cX6_smearOf 14 = .ok (.istore 7, 2) := by decide +kernel
theorem dX6_smearOf_16 : decode cX6_smearOf 16 = .ok (.iload 7, 2) := by decide +kernel
theorem dX6_smearOf_18 : decode cX6_smearOf 18 = .ok (.iload_n 2, 1) := by decide +kernel
theorem dX6_smearOf_19 : decode cX6_smearOf 19 = .ok (.if_icmp .ge 52, 3) := by decide +kernel
theorem dX6_smearOf_22 : decode cX6_smearOf 22 = .ok (.lload_n 3, 1) := by decide +kernel
theorem dX6_smearOf_23 : decode cX6_smearOf 23 = .ok (.iload 7, 2) := by decide +kernel
theorem dX6_smearOf_25 : decode cX6_smearOf 25 = .ok (.invokestatic 124, 3) := by decide +kernel
theorem dX6_smearOf_28 : decode cX6_smearOf 28 = .ok (.istore 8, 2) := by decide +kernel
theorem dX6_smearOf_30 : decode cX6_smearOf 30 = .ok (.iload 5, 2) := by decide +kernel
theorem dX6_smearOf_32 : decode cX6_smearOf 32 = .ok (.aload_n 0, 1) := by decide +kernel
theorem dX6_smearOf_33 : decode cX6_smearOf 33 = .ok (.getfield 53, 3) := by decide +kernel
theorem dX6_smearOf_36 : decode cX6_smearOf 36 = .ok (.iload 8, 2) := by decide +kernel
theorem dX6_smearOf_38 : decode cX6_smearOf 38 = .ok (.iload_n 2, 1) := by decide +kernel
theorem dX6_smearOf_39 : decode cX6_smearOf 39 = .ok (.iload 7, 2) := by decide +kernel
theorem dX6_smearOf_41 : decode cX6_smearOf 41 = .ok (.isub, 1) := by decide +kernel
theorem dX6_smearOf_42 : decode cX6_smearOf 42 = .ok (.aload_n 0, 1) := by decide +kernel
theorem dX6_smearOf_43 : decode cX6_smearOf 43 = .ok (.getfield 33, 3) := by decide +kernel
theorem dX6_smearOf_46 : decode cX6_smearOf 46 = .ok (.imul, 1) := by decide +kernel
theorem dX6_smearOf_47 : decode cX6_smearOf 47 = .ok (.iload 6, 2) := by decide +kernel
theorem dX6_smearOf_49 : decode cX6_smearOf 49 = .ok (.aload_n 0, 1) := by decide +kernel
theorem dX6_smearOf_50 : decode cX6_smearOf 50 = .ok (.getfield 53, 3) := by decide +kernel
theorem dX6_smearOf_53 : decode cX6_smearOf 53 = .ok (.iload 8, 2) := by decide +kernel
theorem dX6_smearOf_55 : decode cX6_smearOf 55 = .ok (.invokevirtual 121, 3) := by decide +kernel
theorem dX6_smearOf_58 : decode cX6_smearOf 58 = .ok (.iand, 1) := by decide +kernel
theorem dX6_smearOf_59 : decode cX6_smearOf 59 = .ok (.invokevirtual 128, 3) := by decide +kernel
theorem dX6_smearOf_62 : decode cX6_smearOf 62 = .ok (.iadd, 1) := by decide +kernel
theorem dX6_smearOf_63 : decode cX6_smearOf 63 = .ok (.istore 5, 2) := by decide +kernel
theorem dX6_smearOf_65 : decode cX6_smearOf 65 = .ok (.iinc 7 1, 3) := by decide +kernel
theorem dX6_smearOf_68 : decode cX6_smearOf 68 = .ok (.goto (-52), 3) := by decide +kernel
theorem dX6_smearOf_71 : decode cX6_smearOf 71 = .ok (.iload 5, 2) := by decide +kernel
theorem dX6_smearOf_73 : decode cX6_smearOf 73 = .ok (.ireturn, 1) := by decide +kernel
theorem dX6_judge_0 : decode cX6_judge 0 = .ok (.aload_n 0, 1) := by decide +kernel
theorem dX6_judge_1 : decode cX6_judge 1 = .ok (.getfield 29, 3) := by decide +kernel
theorem dX6_judge_4 : decode cX6_judge 4 = .ok (.iconst 2, 1) := by decide +kernel
theorem dX6_judge_5 : decode cX6_judge 5 = .ok (.if_icmp .ne 15, 3) := by decide +kernel
theorem dX6_judge_8 : decode cX6_judge 8 = .ok (.aload_n 0, 1) := by decide +kernel
theorem dX6_judge_9 : decode cX6_judge 9 = .ok (.getfield 21, 3) := by decide +kernel
theorem dX6_judge_12 : decode cX6_judge 12 = .ok (.aload_n 0, 1) := by decide +kernel
theorem dX6_judge_13 : decode cX6_judge 13 = .ok (.getfield 12, 3) := by decide +kernel
theorem dX6_judge_16 : decode cX6_judge 16 = .ok (.invokevirtual 132, 3) := by decide +kernel
theorem dX6_judge_19 : decode cX6_judge 19 = .ok (.return_, 1) := by decide +kernel
theorem dX6_judge_20 : decode cX6_judge 20 = .ok (.aload_n 0, 1) := by decide +kernel
theorem dX6_judge_21 : decode cX6_judge 21 = .ok (.getfield 29, 3) := by decide +kernel
theorem dX6_judge_24 : decode cX6_judge 24 = .ok (.iconst 1, 1) := by decide +kernel
theorem dX6_judge_25 : decode cX6_judge 25 = .ok (.if_icmp .ne 17, 3) := by decide +kernel
theorem dX6_judge_28 : decode cX6_judge 28 = .ok (.aload_n 0, 1) := by decide +kernel
theorem dX6_judge_29 : decode cX6_judge 29 = .ok (.getfield 12, 3) := by decide +kernel
theorem dX6_judge_32 : decode cX6_judge 32 = .ok (.aload_n 0, 1) := by decide +kernel
theorem dX6_judge_33 : decode cX6_judge 33 = .ok (.getfield 36, 3) := by decide +kernel
theorem dX6_judge_36 : decode cX6_judge 36 = .ok (.invokevirtual 136, 3) := by decide +kernel
theorem dX6_judge_39 : decode cX6_judge 39 = .ok (.goto 4, 3) := by decide +kernel
theorem dX6_judge_42 : decode cX6_judge 42 = .ok (.iconst 0, 1) := by decide +kernel
theorem dX6_judge_43 : decode cX6_judge 43 = .ok (.istore 4, 2) := by decide +kernel
theorem dX6_judge_45 : decode cX6_judge 45 = .ok (.iload 4, 2) := by decide +kernel
theorem dX6_judge_47 : decode cX6_judge 47 = .ok (.aload_n 0, 1) := by decide +kernel
theorem dX6_judge_48 : decode cX6_judge 48 = .ok (.getfield 44, 3) := by decide +kernel
theorem dX6_judge_51 : decode cX6_judge 51 = .ok (.if_icmp .gt 20, 3) := by decide +kernel
theorem dX6_judge_54 : decode cX6_judge 54 = .ok (.iload 4, 2) := by decide +kernel
theorem dX6_judge_56 : decode cX6_judge 56 = .ok (.aload_n 0, 1) := by decide +kernel
theorem dX6_judge_57 : decode cX6_judge 57 = .ok (.getfield 44, 3) := by decide +kernel
theorem dX6_judge_60 : decode cX6_judge 60 = .ok (.if_icmp .ne 15, 3) := by decide +kernel
theorem dX6_judge_63 : decode cX6_judge 63 = .ok (.iload_n 3, 1) := by decide +kernel
theorem dX6_judge_64 : decode cX6_judge 64 = .ok (.aload_n 0, 1) := by decide +kernel
theorem dX6_judge_65 : decode cX6_judge 65 = .ok (.getfield 47, 3) := by decide +kernel
theorem dX6_judge_68 : decode cX6_judge 68 = .ok (.if_icmp .ge 7, 3) := by decide +kernel
theorem dX6_judge_71 : decode cX6_judge 71 = .ok (.iconst 1, 1) := by decide +kernel
theorem dX6_judge_72 : decode cX6_judge 72 = .ok (.goto 4, 3) := by decide +kernel
theorem dX6_judge_75 : decode cX6_judge 75 = .ok (.iconst 0, 1) := by decide +kernel
theorem dX6_judge_76 : decode cX6_judge 76 = .ok (.istore 5, 2) := by decide +kernel
theorem dX6_judge_78 : decode cX6_judge 78 = .ok (.aload_n 0, 1) := by decide +kernel
theorem dX6_judge_79 : decode cX6_judge 79 = .ok (.getfield 40, 3) := by decide +kernel
theorem dX6_judge_82 : decode cX6_judge 82 = .ok (.ifCond .eq 9, 3) := by decide +kernel
theorem dX6_judge_85 : decode cX6_judge 85 = .ok (.iload 5, 2) := by decide +kernel
theorem dX6_judge_87 : decode cX6_judge 87 = .ok (.ifCond .ne 4, 3) := by decide +kernel
theorem dX6_judge_90 : decode cX6_judge 90 = .ok (.return_, 1) := by decide +kernel
theorem dX6_judge_91 : decode cX6_judge 91 = .ok (.aload_n 0, 1) := by decide +kernel
theorem dX6_judge_92 : decode cX6_judge 92 = .ok (.iconst 1, 1) := by decide +kernel
theorem dX6_judge_93 : decode cX6_judge 93 = .ok (.putfield 40, 3) := by decide +kernel
theorem dX6_judge_96 : decode cX6_judge 96 = .ok (.aload_n 0, 1) := by decide +kernel
theorem dX6_judge_97 : decode cX6_judge 97 = .ok (.iload 4, 2) := by decide +kernel
theorem dX6_judge_99 : decode cX6_judge 99 = .ok (.putfield 44, 3) := by decide +kernel
theorem dX6_judge_102 : decode cX6_judge 102 = .ok (.aload_n 0, 1) := by decide +kernel
theorem dX6_judge_103 : decode cX6_judge 103 = .ok (.iload_n 3, 1) := by decide +kernel
theorem dX6_judge_104 : decode cX6_judge 104 = .ok (.putfield 47, 3) := by decide +kernel
theorem dX6_judge_107 : decode cX6_judge 107 = .ok (.aload_n 0, 1) := by decide +kernel
theorem dX6_judge_108 : decode cX6_judge 108 = .ok (.lload_n 1, 1) := by decide +kernel
theorem dX6_judge_109 : decode cX6_judge 109 = .ok (.putfield 50, 3) := by decide +kernel
theorem dX6_judge_112 : decode cX6_judge 112 = .ok (.return_, 1) := by decide +kernel
theorem dX7_init_0 : decode cX7_init 0 = .ok (.aload_n 0, 1) := by decide +kernel
theorem dX7_init_1 : decode cX7_init 1 = .ok (.invokespecial 3, 3) := by decide +kernel
theorem dX7_init_4 : decode cX7_init 4 = .ok (.aload_n 0, 1) := by decide +kernel
theorem dX7_init_5 : decode cX7_init 5 = .ok (.lconst 0, 1) := by decide +kernel
theorem dX7_init_6 : decode cX7_init 6 = .ok (.putfield 9, 3) := by decide +kernel
theorem dX7_init_9 : decode cX7_init 9 = .ok (.aload_n 0, 1) := by decide +kernel
theorem dX7_init_10 : decode cX7_init 10 = .ok (.lconst 0, 1) := by decide +kernel
theorem dX7_init_11 : decode cX7_init 11 = .ok (.putfield 15, 3) := by decide +kernel
theorem dX7_init_14 : decode cX7_init 14 = .ok (.aload_n 0, 1) := by decide +kernel
theorem dX7_init_15 : decode cX7_init 15 = .ok (.iconst 0, 1) := by decide +kernel
theorem dX7_init_16 : decode cX7_init 16 = .ok (.putfield 18, 3) := by decide +kernel
theorem dX7_init_19 : decode cX7_init 19 = .ok (.return_, 1) := by decide +kernel
theorem dX7_wipe_0 : decode cX7_wipe 0 = .ok (.aload_n 0, 1) := by decide +kernel
theorem dX7_wipe_1 : decode cX7_wipe 1 = .ok (.lconst 0, 1) := by decide +kernel
theorem dX7_wipe_2 : decode cX7_wipe 2 = .ok (.lconst 0, 1) := by decide +kernel
theorem dX7_wipe_3 : decode cX7_wipe 3 = .ok (.iconst 0, 1) := by decide +kernel
theorem dX7_wipe_4 : decode cX7_wipe 4 = .ok (.invokevirtual 22, 3) := by decide +kernel
theorem dX7_wipe_7 : decode cX7_wipe 7 = .ok (.return_, 1) := by decide +kernel
theorem dX7_copyFrom_0 : decode cX7_copyFrom 0 = .ok (.aload_n 0, 1) := by decide +kernel
theorem dX7_copyFrom_1 : decode cX7_copyFrom 1 = .ok (.aload_n 1, 1) := by decide +kernel
theorem dX7_copyFrom_2 : decode cX7_copyFrom 2 = .ok (.getfield 9, 3) := by decide +kernel
theorem dX7_copyFrom_5 : decode cX7_copyFrom 5 = .ok (.aload_n 1, 1) := by decide +kernel
theorem dX7_copyFrom_6 : decode cX7_copyFrom 6 = .ok (.getfield 15, 3) := by decide +kernel
theorem dX7_copyFrom_9 : decode cX7_copyFrom 9 = .ok (.aload_n 1, 1) := by decide +kernel
theorem dX7_copyFrom_10 : decode cX7_copyFrom 10 = .ok (.getfield 18, 3) := by decide +kernel
theorem dX7_copyFrom_13 : decode cX7_copyFrom 13 = .ok (.invokevirtual 22, 3) := by decide +kernel
theorem dX7_copyFrom_16 : decode cX7_copyFrom 16 = .ok (.return_, 1) := by decide +kernel
theorem dX7_lay_0 : decode cX7_lay 0 = .ok (.aload_n 0, 1) := by decide +kernel
theorem dX7_lay_1 : decode cX7_lay 1 = .ok (.lload_n 1, 1) := by decide +kernel
theorem dX7_lay_2 : decode cX7_lay 2 = .ok (.putfield 9, 3) := by decide +kernel
theorem dX7_lay_5 : decode cX7_lay 5 = .ok (.aload_n 0, 1) := by decide +kernel
theorem dX7_lay_6 : decode cX7_lay 6 = .ok (.lload_n 3, 1) := by decide +kernel
theorem dX7_lay_7 : decode cX7_lay 7 = .ok (.putfield 15, 3) := by decide +kernel
theorem dX7_lay_10 : decode cX7_lay 10 = .ok (.aload_n 0, 1) := by decide +kernel
theorem dX7_lay_11 : decode cX7_lay 11 = .ok (.iload 5, 2) := by decide +kernel
theorem dX7_lay_13 : decode cX7_lay 13 = .ok (.putfield 18, 3) := by decide +kernel
theorem dX7_lay_16 : decode cX7_lay 16 = .ok (.return_, 1) := by decide +kernel
theorem dX7_take_0 : decode cX7_take 0 = .ok (.iload_n 3, 1) := by decide +kernel
theorem dX7_take_1 : decode cX7_take 1 = .ok (.aload_n 0, 1) := by decide +kernel
theorem dX7_take_2 : decode cX7_take 2 = .ok (.getfield 18, 3) := by decide +kernel
theorem dX7_take_5 : decode cX7_take 5 = .ok (.iconst (-1), 1) := by decide +kernel
theorem dX7_take_6 : decode cX7_take 6 = .ok (.ixor, 1) := by decide +kernel
theorem dX7_take_7 : decode cX7_take 7 = .ok (.iand, 1) := by decide +kernel
theorem dX7_take_8 : decode cX7_take 8 = .ok (.invokestatic 26, 3) := by decide +kernel
theorem dX7_take_11 : decode cX7_take 11 = .ok (.lstore 4, 2) := by decide +kernel
theorem dX7_take_13 : decode cX7_take 13 = .ok (.iload_n 1, 1) := by decide +kernel
theorem dX7_take_14 : decode cX7_take 14 = .ok (.tableswitch 72 0 3 #[30, 40, 50, 59], 30) := by decide +kernel
theorem dX7_take_44 : decode cX7_take 44 = .ok (.aload_n 0, 1) := by decide +kernel
theorem dX7_take_45 : decode cX7_take 45 = .ok (.iload_n 2, 1) := by decide +kernel
theorem dX7_take_46 : decode cX7_take 46 = .ok (.lload 4, 2) := by decide +kernel
theorem dX7_take_48 : decode cX7_take 48 = .ok (.invokevirtual 32, 3) := by decide +kernel
theorem dX7_take_51 : decode cX7_take 51 = .ok (.goto 35, 3) := by decide +kernel
theorem dX7_take_54 : decode cX7_take 54 = .ok (.aload_n 0, 1) := by decide +kernel
theorem dX7_take_55 : decode cX7_take 55 = .ok (.iload_n 2, 1) := by decide +kernel
theorem dX7_take_56 : decode cX7_take 56 = .ok (.lload 4, 2) := by decide +kernel
theorem dX7_take_58 : decode cX7_take 58 = .ok (.invokevirtual 36, 3) := by decide +kernel
theorem dX7_take_61 : decode cX7_take 61 = .ok (.goto 25, 3) := by decide +kernel
theorem dX7_take_64 : decode cX7_take 64 = .ok (.aload_n 0, 1) := by decide +kernel
theorem dX7_take_65 : decode cX7_take 65 = .ok (.lload 4, 2) := by decide +kernel
theorem dX7_take_67 : decode cX7_take 67 = .ok (.invokevirtual 39, 3) := by decide +kernel
theorem dX7_take_70 : decode cX7_take 70 = .ok (.goto 16, 3) := by decide +kernel
theorem dX7_take_73 : decode cX7_take 73 = .ok (.aload_n 0, 1) := by decide +kernel
theorem dX7_take_74 : decode cX7_take 74 = .ok (.dup, 1) := by decide +kernel
theorem dX7_take_75 : decode cX7_take 75 = .ok (.getfield 18, 3) := by decide +kernel
theorem dX7_take_78 : decode cX7_take 78 = .ok (.iload_n 3, 1) := by decide +kernel
theorem dX7_take_79 : decode cX7_take 79 = .ok (.ior, 1) := by decide +kernel
theorem dX7_take_80 : decode cX7_take 80 = .ok (.putfield 18, 3) := by decide +kernel
theorem dX7_take_83 : decode cX7_take 83 = .ok (.goto 3, 3) := by decide +kernel
theorem dX7_take_86 : decode cX7_take 86 = .ok (.return_, 1) := by decide +kernel
theorem dX7_cover_0 : decode cX7_cover 0 = .ok (.aload_n 0, 1) := by decide +kernel
theorem dX7_cover_1 : decode cX7_cover 1 = .ok (.aload_n 0, 1) := by decide +kernel
theorem dX7_cover_2 : decode cX7_cover 2 = .ok (.getfield 9, 3) := by decide +kernel
theorem dX7_cover_5 : decode cX7_cover 5 = .ok (.lload_n 2, 1) := by decide +kernel
theorem dX7_cover_6 : decode cX7_cover 6 = .ok (.ldc2_w 43, 3) := by decide +kernel
theorem dX7_cover_9 : decode cX7_cover 9 = .ok (.lmul, 1) := by decide +kernel
theorem dX7_cover_10 : decode cX7_cover 10 = .ok (.ldc2_w 45, 3) := by decide +kernel
theorem dX7_cover_13 : decode cX7_cover 13 = .ok (.lxor, 1) := by decide +kernel
theorem dX7_cover_14 : decode cX7_cover 14 = .ok (.land, 1) := by decide +kernel
theorem dX7_cover_15 : decode cX7_cover 15 = .ok (.lload_n 2, 1) := by decide +kernel
theorem dX7_cover_16 : decode cX7_cover 16 = .ok (.iload_n 1, 1) := by decide +kernel
theorem dX7_cover_17 : decode cX7_cover 17 = .ok (.i2l, 1) := by decide +kernel
theorem dX7_cover_18 : decode cX7_cover 18 = .ok (.lmul, 1) := by decide +kernel
theorem dX7_cover_19 : decode cX7_cover 19 = .ok (.lor, 1) := by decide +kernel
theorem dX7_cover_20 : decode cX7_cover 20 = .ok (.putfield 9, 3) := by decide +kernel
theorem dX7_cover_23 : decode cX7_cover 23 = .ok (.aload_n 0, 1) := by decide +kernel
theorem dX7_cover_24 : decode cX7_cover 24 = .ok (.dup, 1) := by decide +kernel
theorem dX7_cover_25 : decode cX7_cover 25 = .ok (.getfield 15, 3) := by decide +kernel
theorem dX7_cover_28 : decode cX7_cover 28 = .ok (.lload_n 2, 1) := by decide +kernel
theorem dX7_cover_29 : decode cX7_cover 29 = .ok (.ldc2_w 43, 3) := by decide +kernel
theorem dX7_cover_32 : decode cX7_cover 32 = .ok (.lmul, 1) := by decide +kernel
theorem dX7_cover_33 : decode cX7_cover 33 = .ok (.ldc2_w 45, 3) := by decide +kernel
theorem dX7_cover_36 : decode cX7_cover 36 = .ok (.lxor, 1) := by decide +kernel
theorem dX7_cover_37 : decode cX7_cover 37 = .ok (.land, 1) := by decide +kernel
theorem dX7_cover_38 : decode cX7_cover 38 = .ok (.putfield 15, 3) := by decide +kernel
theorem dX7_cover_41 : decode cX7_cover 41 = .ok (.return_, 1) := by decide +kernel
theorem dX7_mix_0 : decode cX7_mix 0 = .ok (.aload_n 0, 1) := by decide +kernel
theorem dX7_mix_1 : decode cX7_mix 1 = .ok (.getfield 9, 3) := by decide +kernel
theorem dX7_mix_4 : decode cX7_mix 4 = .ok (.lload_n 2, 1) := by decide +kernel
theorem dX7_mix_5 : decode cX7_mix 5 = .ok (.iload_n 1, 1) := by decide +kernel
theorem dX7_mix_6 : decode cX7_mix 6 = .ok (.i2l, 1) := by decide +kernel
theorem dX7_mix_7 : decode cX7_mix 7 = .ok (.lmul, 1) := by decide +kernel
theorem dX7_mix_8 : decode cX7_mix 8 = .ok (.ladd, 1) := by decide +kernel
theorem dX7_mix_9 : decode cX7_mix 9 = .ok (.ldc2_w 47, 3) := by decide +kernel
theorem dX7_mix_12 : decode cX7_mix 12 = .ok (.land, 1) := by decide +kernel
theorem dX7_mix_13 : decode cX7_mix 13 = .ok (.lstore 4, 2) := by decide +kernel
theorem dX7_mix_15 : decode cX7_mix 15 = .ok (.aload_n 0, 1) := by decide +kernel
theorem dX7_mix_16 : decode cX7_mix 16 = .ok (.lload 4, 2) := by decide +kernel
theorem dX7_mix_18 : decode cX7_mix 18 = .ok (.lload_n 2, 1) := by decide +kernel
theorem dX7_mix_19 : decode cX7_mix 19 = .ok (.lload 4, 2) := by decide +kernel
theorem dX7_mix_21 : decode cX7_mix 21 = .ok (.invokestatic 49, 3) := by decide +kernel
theorem dX7_mix_24 : decode cX7_mix 24 = .ok (.ldc2_w 45, 3) := by decide +kernel
theorem dX7_mix_27 : decode cX7_mix 27 = .ok (.lxor, 1) := by decide +kernel
theorem dX7_mix_28 : decode cX7_mix 28 = .ok (.land, 1) := by decide +kernel
theorem dX7_mix_29 : decode cX7_mix 29 = .ok (.lor, 1) := by decide +kernel
theorem dX7_mix_30 : decode cX7_mix 30 = .ok (.putfield 9, 3) := by decide +kernel
theorem dX7_mix_33 : decode cX7_mix 33 = .ok (.return_, 1) := by decide +kernel
theorem dX7_polish_0 : decode cX7_polish 0 = .ok (.aload_n 0, 1) := by decide +kernel
theorem dX7_polish_1 : decode cX7_polish 1 = .ok (.getfield 15, 3) := by decide +kernel
theorem dX7_polish_4 : decode cX7_polish 4 = .ok (.iconst 3, 1) := by decide +kernel
theorem dX7_polish_5 : decode cX7_polish 5 = .ok (.lushr, 1) := by decide +kernel
theorem dX7_polish_6 : decode cX7_polish 6 = .ok (.aload_n 0, 1) := by decide +kernel
theorem dX7_polish_7 : decode cX7_polish 7 = .ok (.getfield 15, 3) := by decide +kernel
theorem dX7_polish_10 : decode cX7_polish 10 = .ok (.land, 1) := by decide +kernel
theorem dX7_polish_11 : decode cX7_polish 11 = .ok (.lstore_n 3, 1) := by decide +kernel
theorem dX7_polish_12 : decode cX7_polish 12 = .ok (.aload_n 0, 1) := by decide +kernel
theorem dX7_polish_13 : decode cX7_polish 13 = .ok (.dup, 1) := by decide +kernel
theorem dX7_polish_14 : decode cX7_polish 14 = .ok (.getfield 15, 3) := by decide +kernel
theorem dX7_polish_17 : decode cX7_polish 17 = .ok (.lload_n 1, 1) := by decide +kernel
theorem dX7_polish_18 : decode cX7_polish 18 = .ok (.lload_n 3, 1) := by decide +kernel
theorem dX7_polish_19 : decode cX7_polish 19 = .ok (.ldc2_w 45, 3) := by decide +kernel
theorem dX7_polish_22 : decode cX7_polish 22 = .ok (.lxor, 1) := by decide +kernel
theorem dX7_polish_23 : decode cX7_polish 23 = .ok (.land, 1) := by decide +kernel
theorem dX7_polish_24 : decode cX7_polish 24 = .ok (.ladd, 1) := by decide +kernel
theorem dX7_polish_25 : decode cX7_polish 25 = .ok (.putfield 15, 3) := by decide +kernel
theorem dX7_polish_28 : decode cX7_polish 28 = .ok (.return_, 1) := by decide +kernel
theorem dX7_hits_0 : decode cX7_hits 0 = .ok (.bipush 16, 2) := by decide +kernel
theorem dX7_hits_2 : decode cX7_hits 2 = .ok (.aload_n 0, 1) := by decide +kernel
theorem dX7_hits_3 : decode cX7_hits 3 = .ok (.getfield 9, 3) := by decide +kernel
theorem dX7_hits_6 : decode cX7_hits 6 = .ok (.lload_n 1, 1) := by decide +kernel
theorem dX7_hits_7 : decode cX7_hits 7 = .ok (.lxor, 1) := by decide +kernel
theorem dX7_hits_8 : decode cX7_hits 8 = .ok (.invokestatic 49, 3) := by decide +kernel
theorem dX7_hits_11 : decode cX7_hits 11 = .ok (.invokestatic 53, 3) := by decide +kernel
theorem dX7_hits_14 : decode cX7_hits 14 = .ok (.isub, 1) := by decide +kernel
theorem dX7_hits_15 : decode cX7_hits 15 = .ok (.ireturn, 1) := by decide +kernel
theorem dX7_coloursAndClosed_0 : decode cX7_coloursAndClosed 0 = .ok (.aload_n 0, 1) := by decide +kernel
theorem dX7_coloursAndClosed_1 : decode cX7_coloursAndClosed 1 = .ok (.getfield 9, 3) := by decide +kernel
theorem dX7_coloursAndClosed_4 : decode cX7_coloursAndClosed 4 = .ok (.aload_n 0, 1) := by decide +kernel
theorem dX7_coloursAndClosed_5 : decode cX7_coloursAndClosed 5 = .ok (.getfield 18, 3) := by decide +kernel
theorem dX7_coloursAndClosed_8 : decode cX7_coloursAndClosed 8 = .ok (.invokestatic 26, 3) := by decide +kernel
theorem dX7_coloursAndClosed_11 : decode cX7_coloursAndClosed 11 = .ok (.iconst 3, 1) := by decide +kernel
theorem dX7_coloursAndClosed_12 : decode cX7_coloursAndClosed 12 = .ok (.lshl, 1) := by decide +kernel
theorem dX7_coloursAndClosed_13 : decode cX7_coloursAndClosed 13 = .ok (.lor, 1) := by decide +kernel
theorem dX7_coloursAndClosed_14 : decode cX7_coloursAndClosed 14 = .ok (.lreturn, 1) := by decide +kernel
theorem dX8_init_0 : decode cX8_init 0 = .ok (.aload_n 0, 1) := by decide +kernel
theorem dX8_init_1 : decode cX8_init 1 = .ok (.invokespecial 1, 3) := by decide +kernel
theorem dX8_init_4 : decode cX8_init 4 = .ok (.aload_n 0, 1) := by decide +kernel
theorem dX8_init_5 : decode cX8_init 5 = .ok (.sipush 1024, 3) := by decide +kernel
theorem dX8_init_8 : decode cX8_init 8 = .ok (.newarray .long, 2) := by decide +kernel
theorem dX8_init_10 : decode cX8_init 10 = .ok (.putfield 9, 3) := by decide +kernel
theorem dX8_init_13 : decode cX8_init 13 = .ok (.aload_n 0, 1) := by decide +kernel
theorem dX8_init_14 : decode cX8_init 14 = .ok (.sipush 1024, 3) := by decide +kernel
theorem dX8_init_17 : decode cX8_init 17 = .ok (.newarray .long, 2) := by decide +kernel
theorem dX8_init_19 : decode cX8_init 19 = .ok (.putfield 13, 3) := by decide +kernel
theorem dX8_init_22 : decode cX8_init 22 = .ok (.aload_n 0, 1) := by decide +kernel
theorem dX8_init_23 : decode cX8_init 23 = .ok (.sipush 1024, 3) := by decide +kernel
theorem dX8_init_26 : decode cX8_init 26 = .ok (.newarray .int, 2) := by decide +kernel
theorem dX8_init_28 : decode cX8_init 28 = .ok (.putfield 16, 3) := by decide +kernel
theorem dX8_init_31 : decode cX8_init 31 = .ok (.aload_n 0, 1) := by decide +kernel
theorem dX8_init_32 : decode cX8_init 32 = .ok (.iconst 0, 1) := by decide +kernel
theorem dX8_init_33 : decode cX8_init 33 = .ok (.putfield 20, 3) := by decide +kernel
theorem dX8_init_36 : decode cX8_init 36 = .ok (.aload_n 0, 1) := by decide +kernel
theorem dX8_init_37 : decode cX8_init 37 = .ok (.iconst 0, 1) := by decide +kernel
theorem dX8_init_38 : decode cX8_init 38 = .ok (.putfield 24, 3) := by decide +kernel
theorem dX8_init_41 : decode cX8_init 41 = .ok (.return_, 1) := by decide +kernel
theorem dX8_empty_0 : decode cX8_empty 0 = .ok (.aload_n 0, 1) := by decide +kernel
theorem dX8_empty_1 : decode cX8_empty 1 = .ok (.dup, 1) := by decide +kernel
theorem dX8_empty_2 : decode cX8_empty 2 = .ok (.getfield 20, 3) := by decide +kernel
theorem dX8_empty_5 : decode cX8_empty 5 = .ok (.iconst 1, 1) := by decide +kernel
theorem dX8_empty_6 : decode cX8_empty 6 = .ok (.iadd, 1) := by decide +kernel
theorem dX8_empty_7 : decode cX8_empty 7 = .ok (.putfield 20, 3) := by decide +kernel
theorem dX8_empty_10 : decode cX8_empty 10 = .ok (.aload_n 0, 1) := by decide +kernel
theorem dX8_empty_11 : decode cX8_empty 11 = .ok (.iconst 0, 1) := by decide +kernel
theorem dX8_empty_12 : decode cX8_empty 12 = .ok (.putfield 24, 3) := by decide +kernel
theorem dX8_empty_15 : decode cX8_empty 15 = .ok (.return_, 1) := by decide +kernel
theorem dX8_add_0 : decode cX8_add 0 = .ok (.aload_n 1, 1) := by decide +kernel
theorem dX8_add_1 : decode cX8_add 1 = .ok (.invokevirtual 27, 3) := by decide +kernel
theorem dX8_add_4 : decode cX8_add 4 = .ok (.lstore_n 2, 1) := by decide +kernel
theorem dX8_add_5 : decode cX8_add 5 = .ok (.aload_n 1, 1) := by decide +kernel
theorem dX8_add_6 : decode cX8_add 6 = .ok (.getfield 33, 3) := by decide +kernel
theorem dX8_add_9 : decode cX8_add 9 = .ok (.lstore 4, 2) := by decide +kernel
theorem dX8_add_11 : decode cX8_add 11 = .ok (.lload_n 2, 1) := by decide +kernel
theorem dX8_add_12 : decode cX8_add 12 = .ok (.ldc2_w 36, 3) := by decide +kernel
theorem dX8_add_15 : decode cX8_add 15 = .ok (.lmul, 1) := by decide +kernel
theorem dX8_add_16 : decode cX8_add 16 = .ok (.lload 4, 2) := by decide +kernel
theorem dX8_add_18 : decode cX8_add 18 = .ok (.ldc2_w 38, 3) := by decide +kernel
theorem dX8_add_21 : decode cX8_add 21 = .ok (.lmul, 1) := by decide +kernel
theorem dX8_add_22 : decode cX8_add 22 = .ok (.ladd, 1) := by decide +kernel
theorem dX8_add_23 : decode cX8_add 23 = .ok (.lstore 6, 2) := by decide +kernel
theorem dX8_add_25 : decode cX8_add 25 = .ok (.lload 6, 2) := by decide +kernel
theorem dX8_add_27 : decode cX8_add 27 = .ok (.bipush 54, 2) := by decide +kernel
theorem dX8_add_29 : decode cX8_add 29 = .ok (.lushr, 1) := by decide +kernel
theorem dX8_add_30 : decode cX8_add 30 = .ok (.l2i, 1) := by decide +kernel
theorem dX8_add_31 : decode cX8_add 31 = .ok (.istore 8, 2) := by decide +kernel
theorem dX8_add_33 : decode cX8_add 33 = .ok (.iconst 0, 1) := by decide +kernel
theorem dX8_add_34 : decode cX8_add 34 = .ok (.istore 9, 2) := by decide +kernel
theorem dX8_add_36 : decode cX8_add 36 = .ok (.iload 9, 2) := by decide +kernel
theorem dX8_add_38 : decode cX8_add 38 = .ok (.sipush 1024, 3) := by decide +kernel
theorem dX8_add_41 : decode cX8_add 41 = .ok (.if_icmp .ge 99, 3) := by decide +kernel
theorem dX8_add_44 : decode cX8_add 44 = .ok (.iload 8, 2) := by decide +kernel
theorem dX8_add_46 : decode cX8_add 46 = .ok (.iload 9, 2) := by decide +kernel
theorem dX8_add_48 : decode cX8_add 48 = .ok (.iadd, 1) := by decide +kernel
theorem dX8_add_49 : decode cX8_add 49 = .ok (.sipush 1023, 3) := by decide +kernel
theorem dX8_add_52 : decode cX8_add 52 = .ok (.iand, 1) := by decide +kernel
theorem dX8_add_53 : decode cX8_add 53 = .ok (.istore 10, 2) := by decide +kernel
theorem dX8_add_55 : decode cX8_add 55 = .ok (.aload_n 0, 1) := by decide +kernel
theorem dX8_add_56 : decode cX8_add 56 = .ok (.getfield 16, 3) := by decide +kernel
theorem dX8_add_59 : decode cX8_add 59 = .ok (.iload 10, 2) := by decide +kernel
theorem dX8_add_61 : decode cX8_add 61 = .ok (.iaload, 1) := by decide +kernel
theorem dX8_add_62 : decode cX8_add 62 = .ok (.aload_n 0, 1) := by decide +kernel
theorem dX8_add_63 : decode cX8_add 63 = .ok (.getfield 20, 3) := by decide +kernel
theorem dX8_add_66 : decode cX8_add 66 = .ok (.if_icmp .eq 42, 3) := by decide +kernel
theorem dX8_add_69 : decode cX8_add 69 = .ok (.aload_n 0, 1) := by decide +kernel
theorem dX8_add_70 : decode cX8_add 70 = .ok (.getfield 16, 3) := by decide +kernel
theorem dX8_add_73 : decode cX8_add 73 = .ok (.iload 10, 2) := by decide +kernel
theorem dX8_add_75 : decode cX8_add 75 = .ok (.aload_n 0, 1) := by decide +kernel
theorem dX8_add_76 : decode cX8_add 76 = .ok (.getfield 20, 3) := by decide +kernel
theorem dX8_add_79 : decode cX8_add 79 = .ok (.iastore, 1) := by decide +kernel
theorem dX8_add_80 : decode cX8_add 80 = .ok (.aload_n 0, 1) := by decide +kernel
theorem dX8_add_81 : decode cX8_add 81 = .ok (.getfield 9, 3) := by decide +kernel
theorem dX8_add_84 : decode cX8_add 84 = .ok (.iload 10, 2) := by decide +kernel
theorem dX8_add_86 : decode cX8_add 86 = .ok (.lload_n 2, 1) := by decide +kernel
theorem dX8_add_87 : decode cX8_add 87 = .ok (.lastore, 1) := by decide +kernel
theorem dX8_add_88 : decode cX8_add 88 = .ok (.aload_n 0, 1) := by decide +kernel
theorem dX8_add_89 : decode cX8_add 89 = .ok (.getfield 13, 3) := by decide +kernel
theorem dX8_add_92 : decode cX8_add 92 = .ok (.iload 10, 2) := by decide +kernel
theorem dX8_add_94 : decode cX8_add 94 = .ok (.lload 4, 2) := by decide +kernel
theorem dX8_add_96 : decode cX8_add 96 = .ok (.lastore, 1) := by decide +kernel
theorem dX8_add_97 : decode cX8_add 97 = .ok (.aload_n 0, 1) := by decide +kernel
theorem dX8_add_98 : decode cX8_add 98 = .ok (.dup, 1) := by decide +kernel
theorem dX8_add_99 : decode cX8_add 99 = .ok (.getfield 24, 3) := by decide +kernel
theorem dX8_add_102 : decode cX8_add 102 = .ok (.iconst 1, 1) := by decide +kernel
theorem dX8_add_103 : decode cX8_add 103 = .ok (.iadd, 1) := by decide +kernel
theorem dX8_add_104 : decode cX8_add 104 = .ok (.putfield 24, 3) := by decide +kernel
theorem dX8_add_107 : decode cX8_add 107 = .ok (.return_, 1) := by decide +kernel
theorem dX8_add_108 : decode cX8_add 108 = .ok (.aload_n 0, 1) := by decide +kernel
theorem dX8_add_109 : decode cX8_add 109 = .ok (.getfield 9, 3) := by decide +kernel
theorem dX8_add_112 : decode cX8_add 112 = .ok (.iload 10, 2) := by decide +kernel
theorem dX8_add_114 : decode cX8_add 114 = .ok (.laload, 1) := by decide +kernel
theorem dX8_add_115 : decode cX8_add 115 = .ok (.lload_n 2, 1) := by decide +kernel
theorem dX8_add_116 : decode cX8_add 116 = .ok (.lcmp, 1) := by decide +kernel
theorem dX8_add_117 : decode cX8_add 117 = .ok (.ifCond .ne 17, 3) := by decide +kernel
theorem dX8_add_120 : decode cX8_add 120 = .ok (.aload_n 0, 1) := by decide +kernel
theorem dX8_add_121 : decode cX8_add 121 = .ok (.getfield 13, 3) := by decide +kernel
theorem dX8_add_124 : decode cX8_add 124 = .ok (.iload 10, 2) := by decide +kernel
theorem dX8_add_126 : decode cX8_add 126 = .ok (.laload, 1) := by decide +kernel
theorem dX8_add_127 : decode cX8_add 127 = .ok (.lload 4, 2) := by decide +kernel
theorem dX8_add_129 : decode cX8_add 129 = .ok (.lcmp, 1) := by decide +kernel
theorem dX8_add_130 : decode cX8_add 130 = .ok (.ifCond .ne 4, 3) := by decide +kernel
theorem dX8_add_133 : decode cX8_add 133 = .ok (.return_, 1) := by decide +kernel
theorem dX8_add_134 : decode cX8_add 134 = .ok (.iinc 9 1, 3) := by decide +kernel
theorem dX8_add_137 : decode cX8_add 137 = .ok (.goto (-101), 3) := by decide +kernel
theorem dX8_add_140 : decode cX8_add 140 = .ok (.return_, 1) := by decide +kernel
theorem dX9_init_0 : decode cX9_init 0 = .ok (.aload_n 0, 1) := by decide +kernel
theorem dX9_init_1 : decode cX9_init 1 = .ok (.invokespecial 1, 3) := by decide +kernel
theorem dX9_init_4 : decode cX9_init 4 = .ok (.aload_n 0, 1) := by decide +kernel
theorem dX9_init_5 : decode cX9_init 5 = .ok (.new 7, 3) := by decide +kernel
theorem dX9_init_8 : decode cX9_init 8 = .ok (.dup, 1) := by decide +kernel
theorem dX9_init_9 : decode cX9_init 9 = .ok (.invokespecial 9, 3) := by decide +kernel
theorem dX9_init_12 : decode cX9_init 12 = .ok (.putfield 10, 3) := by decide +kernel
theorem dX9_init_15 : decode cX9_init 15 = .ok (.aload_n 0, 1) := by decide +kernel
theorem dX9_init_16 : decode cX9_init 16 = .ok (.new 16, 3) := by decide +kernel
theorem dX9_init_19 : decode cX9_init 19 = .ok (.dup, 1) := by decide +kernel
theorem dX9_init_20 : decode cX9_init 20 = .ok (.invokespecial 18, 3) := by decide +kernel
theorem dX9_init_23 : decode cX9_init 23 = .ok (.putfield 19, 3) := by decide +kernel
theorem dX9_init_26 : decode cX9_init 26 = .ok (.aload_n 0, 1) := by decide +kernel
theorem dX9_init_27 : decode cX9_init 27 = .ok (.lconst 0, 1) := by decide +kernel
theorem dX9_init_28 : decode cX9_init 28 = .ok (.putfield 23, 3) := by decide +kernel
theorem dX9_init_31 : decode cX9_init 31 = .ok (.return_, 1) := by decide +kernel
theorem dX9_copyFrom_0 : decode cX9_copyFrom 0 = .ok (.aload_n 0, 1) := by decide +kernel
theorem dX9_copyFrom_1 : decode cX9_copyFrom 1 = .ok (.getfield 10, 3) := by decide +kernel
theorem dX9_copyFrom_4 : decode cX9_copyFrom 4 = .ok (.aload_n 1, 1) := by decide +kernel
theorem dX9_copyFrom_5 : decode cX9_copyFrom 5 = .ok (.getfield 10, 3) := by decide +kernel
theorem dX9_copyFrom_8 : decode cX9_copyFrom 8 = .ok (.invokevirtual 27, 3) := by decide +kernel
theorem dX9_copyFrom_11 : decode cX9_copyFrom 11 = .ok (.aload_n 0, 1) := by decide +kernel
theorem dX9_copyFrom_12 : decode cX9_copyFrom 12 = .ok (.getfield 19, 3) := by decide +kernel
theorem dX9_copyFrom_15 : decode cX9_copyFrom 15 = .ok (.aload_n 1, 1) := by decide +kernel
theorem dX9_copyFrom_16 : decode cX9_copyFrom 16 = .ok (.getfield 19, 3) := by decide +kernel
theorem dX9_copyFrom_19 : decode cX9_copyFrom 19 = .ok (.invokevirtual 31, 3) := by decide +kernel
theorem dX9_copyFrom_22 : decode cX9_copyFrom 22 = .ok (.aload_n 0, 1) := by decide +kernel
theorem dX9_copyFrom_23 : decode cX9_copyFrom 23 = .ok (.aload_n 1, 1) := by decide +kernel
theorem dX9_copyFrom_24 : decode cX9_copyFrom 24 = .ok (.getfield 23, 3) := by decide +kernel
theorem dX9_copyFrom_27 : decode cX9_copyFrom 27 = .ok (.putfield 23, 3) := by decide +kernel
theorem dX9_copyFrom_30 : decode cX9_copyFrom 30 = .ok (.return_, 1) := by decide +kernel
theorem dX10_init_0 : decode cX10_init 0 = .ok (.aload_n 0, 1) := by decide +kernel
theorem dX10_init_1 : decode cX10_init 1 = .ok (.invokespecial 3, 3) := by decide +kernel
theorem dX10_init_4 : decode cX10_init 4 = .ok (.aload_n 0, 1) := by decide +kernel
theorem dX10_init_5 : decode cX10_init 5 = .ok (.sipush 150, 3) := by decide +kernel
theorem dX10_init_8 : decode cX10_init 8 = .ok (.newarray .int, 2) := by decide +kernel
theorem dX10_init_10 : decode cX10_init 10 = .ok (.putfield 9, 3) := by decide +kernel
theorem dX10_init_13 : decode cX10_init 13 = .ok (.aload_n 0, 1) := by decide +kernel
theorem dX10_init_14 : decode cX10_init 14 = .ok (.iconst 0, 1) := by decide +kernel
theorem dX10_init_15 : decode cX10_init 15 = .ok (.putfield 15, 3) := by decide +kernel
theorem dX10_init_18 : decode cX10_init 18 = .ok (.return_, 1) := by decide +kernel
theorem dX10_add_0 : decode cX10_add 0 = .ok (.aload_n 0, 1) := by decide +kernel
theorem dX10_add_1 : decode cX10_add 1 = .ok (.getfield 9, 3) := by decide +kernel
theorem dX10_add_4 : decode cX10_add 4 = .ok (.aload_n 0, 1) := by decide +kernel
theorem dX10_add_5 : decode cX10_add 5 = .ok (.getfield 15, 3) := by decide +kernel
theorem dX10_add_8 : decode cX10_add 8 = .ok (.iload_n 1, 1) := by decide +kernel
theorem dX10_add_9 : decode cX10_add 9 = .ok (.invokestatic 19, 3) := by decide +kernel
theorem dX10_add_12 : decode cX10_add 12 = .ok (.aload_n 0, 1) := by decide +kernel
theorem dX10_add_13 : decode cX10_add 13 = .ok (.dup, 1) := by decide +kernel
theorem dX10_add_14 : decode cX10_add 14 = .ok (.getfield 15, 3) := by decide +kernel
theorem dX10_add_17 : decode cX10_add 17 = .ok (.iconst 1, 1) := by decide +kernel
theorem dX10_add_18 : decode cX10_add 18 = .ok (.iadd, 1) := by decide +kernel
theorem dX10_add_19 : decode cX10_add 19 = .ok (.putfield 15, 3) := by decide +kernel
theorem dX10_add_22 : decode cX10_add 22 = .ok (.return_, 1) := by decide +kernel
theorem dX11_init_0 : decode cX11_init 0 = .ok (.aload_n 0, 1) := by decide +kernel
theorem dX11_init_1 : decode cX11_init 1 = .ok (.invokespecial 1, 3) := by decide +kernel
theorem dX11_init_4 : decode cX11_init 4 = .ok (.aload_n 0, 1) := by decide +kernel
theorem dX11_init_5 : decode cX11_init 5 = .ok (.new 7, 3) := by decide +kernel
theorem dX11_init_8 : decode cX11_init 8 = .ok (.dup, 1) := by decide +kernel
theorem dX11_init_9 : decode cX11_init 9 = .ok (.invokespecial 9, 3) := by decide +kernel
theorem dX11_init_12 : decode cX11_init 12 = .ok (.putfield 10, 3) := by decide +kernel
theorem dX11_init_15 : decode cX11_init 15 = .ok (.aload_n 0, 1) := by decide +kernel
theorem dX11_init_16 : decode cX11_init 16 = .ok (.new 16, 3) := by decide +kernel
theorem dX11_init_19 : decode cX11_init 19 = .ok (.dup, 1) := by decide +kernel
theorem dX11_init_20 : decode cX11_init 20 = .ok (.invokespecial 18, 3) := by decide +kernel
theorem dX11_init_23 : decode cX11_init 23 = .ok (.putfield 19, 3) := by decide +kernel
theorem dX11_init_26 : decode cX11_init 26 = .ok (.aload_n 0, 1) := by decide +kernel
theorem dX11_init_27 : decode cX11_init 27 = .ok (.new 23, 3) := by decide +kernel
theorem dX11_init_30 : decode cX11_init 30 = .ok (.dup, 1) := by decide +kernel
theorem dX11_init_31 : decode cX11_init 31 = .ok (.aload_n 0, 1) := by decide +kernel
theorem dX11_init_32 : decode cX11_init 32 = .ok (.getfield 10, 3) := by decide +kernel
theorem dX11_init_35 : decode cX11_init 35 = .ok (.getfield 25, 3) := by decide +kernel
theorem dX11_init_38 : decode cX11_init 38 = .ok (.invokespecial 29, 3) := by decide +kernel
theorem dX11_init_41 : decode cX11_init 41 = .ok (.putfield 32, 3) := by decide +kernel
theorem dX11_init_44 : decode cX11_init 44 = .ok (.aload_n 0, 1) := by decide +kernel
theorem dX11_init_45 : decode cX11_init 45 = .ok (.new 36, 3) := by decide +kernel
theorem dX11_init_48 : decode cX11_init 48 = .ok (.dup, 1) := by decide +kernel
theorem dX11_init_49 : decode cX11_init 49 = .ok (.invokespecial 38, 3) := by decide +kernel
theorem dX11_init_52 : decode cX11_init 52 = .ok (.putfield 39, 3) := by decide +kernel
theorem dX11_init_55 : decode cX11_init 55 = .ok (.aload_n 0, 1) := by decide +kernel
theorem dX11_init_56 : decode cX11_init 56 = .ok (.new 43, 3) := by decide +kernel
theorem dX11_init_59 : decode cX11_init 59 = .ok (.dup, 1) := by decide +kernel
theorem dX11_init_60 : decode cX11_init 60 = .ok (.invokespecial 45, 3) := by decide +kernel
theorem dX11_init_63 : decode cX11_init 63 = .ok (.putfield 46, 3) := by decide +kernel
theorem dX11_init_66 : decode cX11_init 66 = .ok (.aload_n 0, 1) := by decide +kernel
theorem dX11_init_67 : decode cX11_init 67 = .ok (.iconst 0, 1) := by decide +kernel
theorem dX11_init_68 : decode cX11_init 68 = .ok (.putfield 50, 3) := by decide +kernel
theorem dX11_init_71 : decode cX11_init 71 = .ok (.aload_n 0, 1) := by decide +kernel
theorem dX11_init_72 : decode cX11_init 72 = .ok (.iconst 0, 1) := by decide +kernel
theorem dX11_init_73 : decode cX11_init 73 = .ok (.putfield 54, 3) := by decide +kernel
theorem dX11_init_76 : decode cX11_init 76 = .ok (.aload_n 0, 1) := by decide +kernel
theorem dX11_init_77 : decode cX11_init 77 = .ok (.iconst 0, 1) := by decide +kernel
theorem dX11_init_78 : decode cX11_init 78 = .ok (.putfield 57, 3) := by decide +kernel
theorem dX11_init_81 : decode cX11_init 81 = .ok (.return_, 1) := by decide +kernel
theorem dX11_block_0 : decode cX11_block 0 = .ok (.aload_n 0, 1) := by decide +kernel
theorem dX11_block_1 : decode cX11_block 1 = .ok (.iload_n 1, 1) := by decide +kernel
theorem dX11_block_2 : decode cX11_block 2 = .ok (.iload_n 2, 1) := by decide +kernel
theorem dX11_block_3 : decode cX11_block 3 = .ok (.iload_n 3, 1) := by decide +kernel
theorem dX11_block_4 : decode cX11_block 4 = .ok (.iload 4, 2) := by decide +kernel
theorem dX11_block_6 : decode cX11_block 6 = .ok (.invokevirtual 60, 3) := by decide +kernel
theorem dX11_block_9 : decode cX11_block 9 = .ok (.istore 5, 2) := by decide +kernel
theorem dX11_block_11 : decode cX11_block 11 = .ok (.iload 5, 2) := by decide +kernel
theorem dX11_block_13 : decode cX11_block 13 = .ok (.ifCond .eq 10, 3) := by decide +kernel
theorem dX11_block_16 : decode cX11_block 16 = .ok (.aload_n 0, 1) := by decide +kernel
theorem dX11_block_17 : decode cX11_block 17 = .ok (.iload 5, 2) := by decide +kernel
theorem dX11_block_19 : decode cX11_block 19 = .ok (.invokevirtual 64, 3) := by decide +kernel
theorem dX11_block_22 : decode cX11_block 22 = .ok (.ireturn, 1) := by decide +kernel
theorem dX11_block_23 : decode cX11_block 23 = .ok (.aload_n 0, 1) := by decide +kernel
theorem dX11_block_24 : decode cX11_block 24 = .ok (.getfield 19, 3) := by decide +kernel
theorem dX11_block_27 : decode cX11_block 27 = .ok (.aload_n 0, 1) := by decide +kernel
theorem dX11_block_28 : decode cX11_block 28 = .ok (.getfield 10, 3) := by decide +kernel
theorem dX11_block_31 : decode cX11_block 31 = .ok (.invokevirtual 68, 3) := by decide +kernel
theorem dX11_block_34 : decode cX11_block 34 = .ok (.aload_n 0, 1) := by decide +kernel
theorem dX11_block_35 : decode cX11_block 35 = .ok (.getfield 10, 3) := by decide +kernel
theorem dX11_block_38 : decode cX11_block 38 = .ok (.getfield 25, 3) := by decide +kernel
theorem dX11_block_41 : decode cX11_block 41 = .ok (.iload_n 1, 1) := by decide +kernel
theorem dX11_block_42 : decode cX11_block 42 = .ok (.iload_n 2, 1) := by decide +kernel
theorem dX11_block_43 : decode cX11_block 43 = .ok (.iload_n 3, 1) := by decide +kernel
theorem dX11_block_44 : decode cX11_block 44 = .ok (.iload 4, 2) := by decide +kernel
theorem dX11_block_46 : decode cX11_block 46 = .ok (.invokevirtual 72, 3) := by decide +kernel
theorem dX11_block_49 : decode cX11_block 49 = .ok (.ireturn, 1) := by decide +kernel
theorem dX11_shifts_0 : decode cX11_shifts 0 = .ok (.aload_n 0, 1) := by decide +kernel
theorem dX11_shifts_1 : decode cX11_shifts 1 = .ok (.iload_n 1, 1) := by decide +kernel
theorem dX11_shifts_2 : decode cX11_shifts 2 = .ok (.iload_n 2, 1) := by decide +kernel
theorem dX11_shifts_3 : decode cX11_shifts 3 = .ok (.iload_n 3, 1) := by decide +kernel
theorem dX11_shifts_4 : decode cX11_shifts 4 = .ok (.invokevirtual 77, 3) := by decide +kernel
theorem dX11_shifts_7 : decode cX11_shifts 7 = .ok (.istore 4, 2) := by decide +kernel
theorem dX11_shifts_9 : decode cX11_shifts 9 = .ok (.iload 4, 2) := by decide +kernel
theorem dX11_shifts_11 : decode cX11_shifts 11 = .ok (.ifCond .eq 10, 3) := by decide +kernel
theorem dX11_shifts_14 : decode cX11_shifts 14 = .ok (.aload_n 0, 1) := by decide +kernel
theorem dX11_shifts_15 : decode cX11_shifts 15 = .ok (.iload 4, 2) := by decide +kernel
theorem dX11_shifts_17 : decode cX11_shifts 17 = .ok (.invokevirtual 64, 3) := by decide +kernel
theorem dX11_shifts_20 : decode cX11_shifts 20 = .ok (.ireturn, 1) := by decide +kernel
theorem dX11_shifts_21 : decode cX11_shifts 21 = .ok (.aload_n 0, 1) := by decide +kernel
theorem dX11_shifts_22 : decode cX11_shifts 22 = .ok (.getfield 19, 3) := by decide +kernel
theorem dX11_shifts_25 : decode cX11_shifts 25 = .ok (.aload_n 0, 1) := by decide +kernel
theorem dX11_shifts_26 : decode cX11_shifts 26 = .ok (.getfield 10, 3) := by decide +kernel
theorem dX11_shifts_29 : decode cX11_shifts 29 = .ok (.invokevirtual 68, 3) := by decide +kernel
theorem dX11_shifts_32 : decode cX11_shifts 32 = .ok (.aload_n 0, 1) := by decide +kernel
theorem dX11_shifts_33 : decode cX11_shifts 33 = .ok (.getfield 10, 3) := by decide +kernel
theorem dX11_shifts_36 : decode cX11_shifts 36 = .ok (.getfield 25, 3) := by decide +kernel
theorem dX11_shifts_39 : decode cX11_shifts 39 = .ok (.iload_n 1, 1) := by decide +kernel
theorem dX11_shifts_40 : decode cX11_shifts 40 = .ok (.iload_n 2, 1) := by decide +kernel
theorem dX11_shifts_41 : decode cX11_shifts 41 = .ok (.iload_n 3, 1) := by decide +kernel
theorem dX11_shifts_42 : decode cX11_shifts 42 = .ok (.invokevirtual 81, 3) := by decide +kernel
theorem dX11_shifts_45 : decode cX11_shifts 45 = .ok (.aload_n 0, 1) := by decide +kernel
theorem dX11_shifts_46 : decode cX11_shifts 46 = .ok (.getfield 10, 3) := by decide +kernel
theorem dX11_shifts_49 : decode cX11_shifts 49 = .ok (.getfield 25, 3) := by decide +kernel
theorem dX11_shifts_52 : decode cX11_shifts 52 = .ok (.iload_n 1, 1) := by decide +kernel
theorem dX11_shifts_53 : decode cX11_shifts 53 = .ok (.invokevirtual 85, 3) := by decide +kernel
theorem dX11_shifts_56 : decode cX11_shifts 56 = .ok (.invokestatic 88, 3) := by decide +kernel
theorem dX11_shifts_59 : decode cX11_shifts 59 = .ok (.ireturn, 1) := by decide +kernel
theorem dX11_behind_0 : decode cX11_behind 0 = .ok (.aload_n 0, 1) := by decide +kernel
theorem dX11_behind_1 : decode cX11_behind 1 = .ok (.iload_n 1, 1) := by decide +kernel
theorem dX11_behind_2 : decode cX11_behind 2 = .ok (.iload_n 2, 1) := by decide +kernel
theorem dX11_behind_3 : decode cX11_behind 3 = .ok (.iload_n 3, 1) := by decide +kernel
theorem dX11_behind_4 : decode cX11_behind 4 = .ok (.invokevirtual 93, 3) := by decide +kernel
theorem dX11_behind_7 : decode cX11_behind 7 = .ok (.istore 4, 2) := by decide +kernel
theorem dX11_behind_9 : decode cX11_behind 9 = .ok (.iload 4, 2) := by decide +kernel
theorem dX11_behind_11 : decode cX11_behind 11 = .ok (.ifCond .eq 10, 3) := by decide +kernel
theorem dX11_behind_14 : decode cX11_behind 14 = .ok (.aload_n 0, 1) := by decide +kernel
theorem dX11_behind_15 : decode cX11_behind 15 = .ok (.iload 4, 2) := by decide +kernel
theorem dX11_behind_17 : decode cX11_behind 17 = .ok (.invokevirtual 64, 3) := by decide +kernel
theorem dX11_behind_20 : decode cX11_behind 20 = .ok (.ireturn, 1) := by decide +kernel
theorem dX11_behind_21 : decode cX11_behind 21 = .ok (.aload_n 0, 1) := by decide +kernel
theorem dX11_behind_22 : decode cX11_behind 22 = .ok (.getfield 19, 3) := by decide +kernel
theorem dX11_behind_25 : decode cX11_behind 25 = .ok (.aload_n 0, 1) := by decide +kernel
theorem dX11_behind_26 : decode cX11_behind 26 = .ok (.getfield 10, 3) := by decide +kernel
theorem dX11_behind_29 : decode cX11_behind 29 = .ok (.invokevirtual 68, 3) := by decide +kernel
theorem dX11_behind_32 : decode cX11_behind 32 = .ok (.aload_n 0, 1) := by decide +kernel
theorem dX11_behind_33 : decode cX11_behind 33 = .ok (.getfield 10, 3) := by decide +kernel
theorem dX11_behind_36 : decode cX11_behind 36 = .ok (.getfield 25, 3) := by decide +kernel
theorem dX11_behind_39 : decode cX11_behind 39 = .ok (.iload_n 1, 1) := by decide +kernel
theorem dX11_behind_40 : decode cX11_behind 40 = .ok (.iload_n 2, 1) := by decide +kernel
theorem dX11_behind_41 : decode cX11_behind 41 = .ok (.iload_n 3, 1) := by decide +kernel
theorem dX11_behind_42 : decode cX11_behind 42 = .ok (.invokevirtual 96, 3) := by decide +kernel
theorem dX11_behind_45 : decode cX11_behind 45 = .ok (.ireturn, 1) := by decide +kernel
theorem dX11_plans_0 : decode cX11_plans 0 = .ok (.iload_n 1, 1) := by decide +kernel
theorem dX11_plans_1 : decode cX11_plans 1 = .ok (.iconst 0, 1) := by decide +kernel
theorem dX11_plans_2 : decode cX11_plans 2 = .ok (.bipush 15, 2) := by decide +kernel
theorem dX11_plans_4 : decode cX11_plans 4 = .ok (.invokestatic 99, 3) := by decide +kernel
theorem dX11_plans_7 : decode cX11_plans 7 = .ok (.ifCond .eq 13, 3) := by decide +kernel
theorem dX11_plans_10 : decode cX11_plans 10 = .ok (.iload_n 2, 1) := by decide +kernel
theorem dX11_plans_11 : decode cX11_plans 11 = .ok (.iconst 0, 1) := by decide +kernel
theorem dX11_plans_12 : decode cX11_plans 12 = .ok (.bipush 7, 2) := by decide +kernel
theorem dX11_plans_14 : decode cX11_plans 14 = .ok (.invokestatic 99, 3) := by decide +kernel
theorem dX11_plans_17 : decode cX11_plans 17 = .ok (.ifCond .ne 10, 3) := by decide +kernel
theorem dX11_plans_20 : decode cX11_plans 20 = .ok (.aload_n 0, 1) := by decide +kernel
theorem dX11_plans_21 : decode cX11_plans 21 = .ok (.bipush (-2), 2) := by decide +kernel
theorem dX11_plans_23 : decode cX11_plans 23 = .ok (.invokevirtual 64, 3) := by decide +kernel
theorem dX11_plans_26 : decode cX11_plans 26 = .ok (.ireturn, 1) := by decide +kernel
theorem dX11_plans_27 : decode cX11_plans 27 = .ok (.aload_n 0, 1) := by decide +kernel
theorem dX11_plans_28 : decode cX11_plans 28 = .ok (.getfield 19, 3) := by decide +kernel
theorem dX11_plans_31 : decode cX11_plans 31 = .ok (.aload_n 0, 1) := by decide +kernel
theorem dX11_plans_32 : decode cX11_plans 32 = .ok (.getfield 10, 3) := by decide +kernel
theorem dX11_plans_35 : decode cX11_plans 35 = .ok (.invokevirtual 68, 3) := by decide +kernel
theorem dX11_plans_38 : decode cX11_plans 38 = .ok (.aload_n 0, 1) := by decide +kernel
theorem dX11_plans_39 : decode cX11_plans 39 = .ok (.getfield 10, 3) := by decide +kernel
theorem dX11_plans_42 : decode cX11_plans 42 = .ok (.getfield 103, 3) := by decide +kernel
theorem dX11_plans_45 : decode cX11_plans 45 = .ok (.iload_n 1, 1) := by decide +kernel
theorem dX11_plans_46 : decode cX11_plans 46 = .ok (.invokestatic 107, 3) := by decide +kernel
theorem dX11_plans_49 : decode cX11_plans 49 = .ok (.istore_n 3, 1) := by decide +kernel
theorem dX11_plans_50 : decode cX11_plans 50 = .ok (.aload_n 0, 1) := by decide +kernel
theorem dX11_plans_51 : decode cX11_plans 51 = .ok (.getfield 10, 3) := by decide +kernel
theorem dX11_plans_54 : decode cX11_plans 54 = .ok (.aload_n 0, 1) := by decide +kernel
theorem dX11_plans_55 : decode cX11_plans 55 = .ok (.getfield 10, 3) := by decide +kernel
theorem dX11_plans_58 : decode cX11_plans 58 = .ok (.getfield 103, 3) := by decide +kernel
theorem dX11_plans_61 : decode cX11_plans 61 = .ok (.iload_n 1, 1) := by decide +kernel
theorem dX11_plans_62 : decode cX11_plans 62 = .ok (.iload_n 2, 1) := by decide +kernel
theorem dX11_plans_63 : decode cX11_plans 63 = .ok (.invokestatic 113, 3) := by decide +kernel
theorem dX11_plans_66 : decode cX11_plans 66 = .ok (.putfield 103, 3) := by decide +kernel
theorem dX11_plans_69 : decode cX11_plans 69 = .ok (.iload_n 3, 1) := by decide +kernel
theorem dX11_plans_70 : decode cX11_plans 70 = .ok (.ireturn, 1) := by decide +kernel
theorem dX11_of_0 : decode cX11_of 0 = .ok (.aload_n 0, 1) := by decide +kernel
theorem dX11_of_1 : decode cX11_of 1 = .ok (.getfield 10, 3) := by decide +kernel
theorem dX11_of_4 : decode cX11_of 4 = .ok (.getfield 25, 3) := by decide +kernel
theorem dX11_of_7 : decode cX11_of 7 = .ok (.iload_n 1, 1) := by decide +kernel
theorem dX11_of_8 : decode cX11_of 8 = .ok (.invokevirtual 117, 3) := by decide +kernel
theorem dX11_of_11 : decode cX11_of 11 = .ok (.ifCond .eq 13, 3) := by decide +kernel
theorem dX11_of_14 : decode cX11_of 14 = .ok (.iload_n 2, 1) := by decide +kernel
theorem dX11_of_15 : decode cX11_of 15 = .ok (.iconst 0, 1) := by decide +kernel
theorem dX11_of_16 : decode cX11_of 16 = .ok (.bipush 7, 2) := by decide +kernel
theorem dX11_of_18 : decode cX11_of 18 = .ok (.invokestatic 99, 3) := by decide +kernel
theorem dX11_of_21 : decode cX11_of 21 = .ok (.ifCond .ne 10, 3) := by decide +kernel
theorem dX11_of_24 : decode cX11_of 24 = .ok (.aload_n 0, 1) := by decide +kernel
theorem dX11_of_25 : decode cX11_of 25 = .ok (.bipush (-2), 2) := by decide +kernel
theorem dX11_of_27 : decode cX11_of 27 = .ok (.invokevirtual 64, 3) := by decide +kernel
theorem dX11_of_30 : decode cX11_of 30 = .ok (.ireturn, 1) := by decide +kernel
theorem dX11_of_31 : decode cX11_of 31 = .ok (.iload_n 2, 1) := by decide +kernel
theorem dX11_of_32 : decode cX11_of 32 = .ok (.tableswitch 150 0 6 #[44, 59, 74, 89, 104, 116, 133], 44) := by decide +kernel
theorem dX11_of_76 : decode cX11_of 76 = .ok (.aload_n 0, 1) := by decide +kernel
theorem dX11_of_77 : decode cX11_of 77 = .ok (.getfield 10, 3) := by decide +kernel
theorem dX11_of_80 : decode cX11_of 80 = .ok (.getfield 25, 3) := by decide +kernel
theorem dX11_of_83 : decode cX11_of 83 = .ok (.getfield 121, 3) := by decide +kernel
theorem dX11_of_86 : decode cX11_of 86 = .ok (.iload_n 1, 1) := by decide +kernel
theorem dX11_of_87 : decode cX11_of 87 = .ok (.invokestatic 125, 3) := by decide +kernel
theorem dX11_of_90 : decode cX11_of 90 = .ok (.ireturn, 1) := by decide +kernel
theorem dX11_of_91 : decode cX11_of 91 = .ok (.aload_n 0, 1) := by decide +kernel
theorem dX11_of_92 : decode cX11_of 92 = .ok (.getfield 10, 3) := by decide +kernel
theorem dX11_of_95 : decode cX11_of 95 = .ok (.getfield 25, 3) := by decide +kernel
theorem dX11_of_98 : decode cX11_of 98 = .ok (.getfield 131, 3) := by decide +kernel
theorem dX11_of_101 : decode cX11_of 101 = .ok (.iload_n 1, 1) := by decide +kernel
theorem dX11_of_102 : decode cX11_of 102 = .ok (.invokestatic 125, 3) := by decide +kernel
theorem dX11_of_105 : decode cX11_of 105 = .ok (.ireturn, 1) := by decide +kernel
theorem dX11_of_106 : decode cX11_of 106 = .ok (.aload_n 0, 1) := by decide +kernel
theorem dX11_of_107 : decode cX11_of 107 = .ok (.getfield 10, 3) := by decide +kernel
theorem dX11_of_110 : decode cX11_of 110 = .ok (.getfield 25, 3) := by decide +kernel
theorem dX11_of_113 : decode cX11_of 113 = .ok (.getfield 134, 3) := by decide +kernel
theorem dX11_of_116 : decode cX11_of 116 = .ok (.iload_n 1, 1) := by decide +kernel
theorem dX11_of_117 : decode cX11_of 117 = .ok (.invokestatic 125, 3) := by decide +kernel
theorem dX11_of_120 : decode cX11_of 120 = .ok (.ireturn, 1) := by decide +kernel
theorem dX11_of_121 : decode cX11_of 121 = .ok (.aload_n 0, 1) := by decide +kernel
theorem dX11_of_122 : decode cX11_of 122 = .ok (.getfield 10, 3) := by decide +kernel
theorem dX11_of_125 : decode cX11_of 125 = .ok (.getfield 25, 3) := by decide +kernel
theorem dX11_of_128 : decode cX11_of 128 = .ok (.getfield 137, 3) := by decide +kernel
theorem dX11_of_131 : decode cX11_of 131 = .ok (.iload_n 1, 1) := by decide +kernel
theorem dX11_of_132 : decode cX11_of 132 = .ok (.invokestatic 125, 3) := by decide +kernel
theorem dX11_of_135 : decode cX11_of 135 = .ok (.ireturn, 1) := by decide +kernel
theorem dX11_of_136 : decode cX11_of 136 = .ok (.aload_n 0, 1) := by decide +kernel
theorem dX11_of_137 : decode cX11_of 137 = .ok (.getfield 10, 3) := by decide +kernel
theorem dX11_of_140 : decode cX11_of 140 = .ok (.getfield 25, 3) := by decide +kernel
theorem dX11_of_143 : decode cX11_of 143 = .ok (.iload_n 1, 1) := by decide +kernel
theorem dX11_of_144 : decode cX11_of 144 = .ok (.invokevirtual 85, 3) := by decide +kernel
theorem dX11_of_147 : decode cX11_of 147 = .ok (.ireturn, 1) := by decide +kernel
theorem dX11_of_148 : decode cX11_of 148 = .ok (.aload_n 0, 1) := by decide +kernel
theorem dX11_of_149 : decode cX11_of 149 = .ok (.getfield 10, 3) := by decide +kernel
theorem dX11_of_152 : decode cX11_of 152 = .ok (.getfield 25, 3) := by decide +kernel
theorem dX11_of_155 : decode cX11_of 155 = .ok (.getfield 140, 3) := by decide +kernel
theorem dX11_of_158 : decode cX11_of 158 = .ok (.iload_n 1, 1) := by decide +kernel
theorem dX11_of_159 : decode cX11_of 159 = .ok (.invokestatic 125, 3) := by decide +kernel
theorem dX11_of_162 : decode cX11_of 162 = .ok (.iconst 3, 1) := by decide +kernel
theorem dX11_of_163 : decode cX11_of 163 = .ok (.iadd, 1) := by decide +kernel
theorem dX11_of_164 : decode cX11_of 164 = .ok (.ireturn, 1) := by decide +kernel
theorem dX11_of_165 : decode cX11_of 165 = .ok (.aload_n 0, 1) := by decide +kernel
theorem dX11_of_166 : decode cX11_of 166 = .ok (.getfield 10, 3) := by decide +kernel
theorem dX11_of_169 : decode cX11_of 169 = .ok (.getfield 25, 3) := by decide +kernel
theorem dX11_of_172 : decode cX11_of 172 = .ok (.getfield 143, 3) := by decide +kernel
theorem dX11_of_175 : decode cX11_of 175 = .ok (.iload_n 1, 1) := by decide +kernel
theorem dX11_of_176 : decode cX11_of 176 = .ok (.invokestatic 125, 3) := by decide +kernel
theorem dX11_of_179 : decode cX11_of 179 = .ok (.iconst 3, 1) := by decide +kernel
theorem dX11_of_180 : decode cX11_of 180 = .ok (.iadd, 1) := by decide +kernel
theorem dX11_of_181 : decode cX11_of 181 = .ok (.ireturn, 1) := by decide +kernel
theorem dX11_of_182 : decode cX11_of 182 = .ok (.aload_n 0, 1) := by decide +kernel
theorem dX11_of_183 : decode cX11_of 183 = .ok (.getfield 10, 3) := by decide +kernel
theorem dX11_of_186 : decode cX11_of 186 = .ok (.getfield 25, 3) := by decide +kernel
theorem dX11_of_189 : decode cX11_of 189 = .ok (.getfield 146, 3) := by decide +kernel
theorem dX11_of_192 : decode cX11_of 192 = .ok (.iload_n 1, 1) := by decide +kernel
theorem dX11_of_193 : decode cX11_of 193 = .ok (.invokestatic 125, 3) := by decide +kernel
theorem dX11_of_196 : decode cX11_of 196 = .ok (.ireturn, 1) := by decide +kernel
theorem dX11_common_0 : decode cX11_common 0 = .ok (.aload_n 0, 1) := by decide +kernel
theorem dX11_common_1 : decode cX11_common 1 = .ok (.getfield 10, 3) := by decide +kernel
theorem dX11_common_4 : decode cX11_common 4 = .ok (.getfield 25, 3) := by decide +kernel
theorem dX11_common_7 : decode cX11_common 7 = .ok (.iload_n 1, 1) := by decide +kernel
theorem dX11_common_8 : decode cX11_common 8 = .ok (.iload_n 2, 1) := by decide +kernel
theorem dX11_common_9 : decode cX11_common 9 = .ok (.invokevirtual 149, 3) := by decide +kernel
theorem dX11_common_12 : decode cX11_common 12 = .ok (.ifCond .eq 12, 3) := by decide +kernel
theorem dX11_common_15 : decode cX11_common 15 = .ok (.iload_n 3, 1) := by decide +kernel
theorem dX11_common_16 : decode cX11_common 16 = .ok (.iconst 0, 1) := by decide +kernel
theorem dX11_common_17 : decode cX11_common 17 = .ok (.iconst 1, 1) := by decide +kernel
theorem dX11_common_18 : decode cX11_common 18 = .ok (.invokestatic 99, 3) := by decide +kernel
theorem dX11_common_21 : decode cX11_common 21 = .ok (.ifCond .ne 10, 3) := by decide +kernel
theorem dX11_common_24 : decode cX11_common 24 = .ok (.aload_n 0, 1) := by decide +kernel
theorem dX11_common_25 : decode cX11_common 25 = .ok (.bipush (-2), 2) := by decide +kernel
theorem dX11_common_27 : decode cX11_common 27 = .ok (.invokevirtual 64, 3) := by decide +kernel
theorem dX11_common_30 : decode cX11_common 30 = .ok (.ireturn, 1) := by decide +kernel
theorem dX11_common_31 : decode cX11_common 31 = .ok (.aload_n 0, 1) := by decide +kernel
theorem dX11_common_32 : decode cX11_common 32 = .ok (.getfield 10, 3) := by decide +kernel
theorem dX11_common_35 : decode cX11_common 35 = .ok (.getfield 25, 3) := by decide +kernel
theorem dX11_common_38 : decode cX11_common 38 = .ok (.iload_n 1, 1) := by decide +kernel
theorem dX11_common_39 : decode cX11_common 39 = .ok (.invokevirtual 85, 3) := by decide +kernel
theorem dX11_common_42 : decode cX11_common 42 = .ok (.aload_n 0, 1) := by decide +kernel
theorem dX11_common_43 : decode cX11_common 43 = .ok (.getfield 10, 3) := by decide +kernel
theorem dX11_common_46 : decode cX11_common 46 = .ok (.getfield 25, 3) := by decide +kernel
theorem dX11_common_49 : decode cX11_common 49 = .ok (.iload_n 2, 1) := by decide +kernel
theorem dX11_common_50 : decode cX11_common 50 = .ok (.invokevirtual 85, 3) := by decide +kernel
theorem dX11_common_53 : decode cX11_common 53 = .ok (.iand, 1) := by decide +kernel
theorem dX11_common_54 : decode cX11_common 54 = .ok (.istore 4, 2) := by decide +kernel
theorem dX11_common_56 : decode cX11_common 56 = .ok (.iload_n 3, 1) := by decide +kernel
theorem dX11_common_57 : decode cX11_common 57 = .ok (.ifCond .ne 11, 3) := by decide +kernel
theorem dX11_common_60 : decode cX11_common 60 = .ok (.iload 4, 2) := by decide +kernel
theorem dX11_common_62 : decode cX11_common 62 = .ok (.invokestatic 88, 3) := by decide +kernel
theorem dX11_common_65 : decode cX11_common 65 = .ok (.goto 5, 3) := by decide +kernel
theorem dX11_common_68 : decode cX11_common 68 = .ok (.iload 4, 2) := by decide +kernel
theorem dX11_common_70 : decode cX11_common 70 = .ok (.ireturn, 1) := by decide +kernel
theorem dX11_fit_0 : decode cX11_fit 0 = .ok (.aload_n 0, 1) := by decide +kernel
theorem dX11_fit_1 : decode cX11_fit 1 = .ok (.getfield 10, 3) := by decide +kernel
theorem dX11_fit_4 : decode cX11_fit 4 = .ok (.getfield 25, 3) := by decide +kernel
theorem dX11_fit_7 : decode cX11_fit 7 = .ok (.iload_n 1, 1) := by decide +kernel
theorem dX11_fit_8 : decode cX11_fit 8 = .ok (.invokevirtual 117, 3) := by decide +kernel
theorem dX11_fit_11 : decode cX11_fit 11 = .ok (.ifCond .eq 12, 3) := by decide +kernel
theorem dX11_fit_14 : decode cX11_fit 14 = .ok (.iload_n 2, 1) := by decide +kernel
theorem dX11_fit_15 : decode cX11_fit 15 = .ok (.iconst 0, 1) := by decide +kernel
theorem dX11_fit_16 : decode cX11_fit 16 = .ok (.iconst 2, 1) := by decide +kernel
theorem dX11_fit_17 : decode cX11_fit 17 = .ok (.invokestatic 99, 3) := by decide +kernel
theorem dX11_fit_20 : decode cX11_fit 20 = .ok (.ifCond .ne 10, 3) := by decide +kernel
theorem dX11_fit_23 : decode cX11_fit 23 = .ok (.aload_n 0, 1) := by decide +kernel
theorem dX11_fit_24 : decode cX11_fit 24 = .ok (.bipush (-2), 2) := by decide +kernel
theorem dX11_fit_26 : decode cX11_fit 26 = .ok (.invokevirtual 64, 3) := by decide +kernel
theorem dX11_fit_29 : decode cX11_fit 29 = .ok (.ireturn, 1) := by decide +kernel
theorem dX11_fit_30 : decode cX11_fit 30 = .ok (.aload_n 0, 1) := by decide +kernel
theorem dX11_fit_31 : decode cX11_fit 31 = .ok (.getfield 10, 3) := by decide +kernel
theorem dX11_fit_34 : decode cX11_fit 34 = .ok (.getfield 103, 3) := by decide +kernel
theorem dX11_fit_37 : decode cX11_fit 37 = .ok (.aload_n 0, 1) := by decide +kernel
theorem dX11_fit_38 : decode cX11_fit 38 = .ok (.getfield 10, 3) := by decide +kernel
theorem dX11_fit_41 : decode cX11_fit 41 = .ok (.getfield 25, 3) := by decide +kernel
theorem dX11_fit_44 : decode cX11_fit 44 = .ok (.getfield 131, 3) := by decide +kernel
theorem dX11_fit_47 : decode cX11_fit 47 = .ok (.iload_n 1, 1) := by decide +kernel
theorem dX11_fit_48 : decode cX11_fit 48 = .ok (.invokestatic 125, 3) := by decide +kernel
theorem dX11_fit_51 : decode cX11_fit 51 = .ok (.invokestatic 153, 3) := by decide +kernel
theorem dX11_fit_54 : decode cX11_fit 54 = .ok (.istore_n 3, 1) := by decide +kernel
theorem dX11_fit_55 : decode cX11_fit 55 = .ok (.aload_n 0, 1) := by decide +kernel
theorem dX11_fit_56 : decode cX11_fit 56 = .ok (.getfield 10, 3) := by decide +kernel
theorem dX11_fit_59 : decode cX11_fit 59 = .ok (.getfield 25, 3) := by decide +kernel
theorem dX11_fit_62 : decode cX11_fit 62 = .ok (.getfield 137, 3) := by decide +kernel
theorem dX11_fit_65 : decode cX11_fit 65 = .ok (.iload_n 1, 1) := by decide +kernel
theorem dX11_fit_66 : decode cX11_fit 66 = .ok (.invokestatic 125, 3) := by decide +kernel
theorem dX11_fit_69 : decode cX11_fit 69 = .ok (.istore 4, 2) := by decide +kernel
theorem dX11_fit_71 : decode cX11_fit 71 = .ok (.bipush (-3), 2) := by decide +kernel
theorem dX11_fit_73 : decode cX11_fit 73 = .ok (.istore 5, 2) := by decide +kernel
theorem dX11_fit_75 : decode cX11_fit 75 = .ok (.bipush (-3), 2) := by decide +kernel
theorem dX11_fit_77 : decode cX11_fit 77 = .ok (.istore 6, 2) := by decide +kernel
theorem dX11_fit_79 : decode cX11_fit 79 = .ok (.bipush (-17), 2) := by decide +kernel
theorem dX11_fit_81 : decode cX11_fit 81 = .ok (.istore 7, 2) := by decide +kernel
theorem dX11_fit_83 : decode cX11_fit 83 = .ok (.bipush (-3), 2) := by decide +kernel
theorem dX11_fit_85 : decode cX11_fit 85 = .ok (.istore 8, 2) := by decide +kernel
theorem dX11_fit_87 : decode cX11_fit 87 = .ok (.iload 8, 2) := by decide +kernel
theorem dX11_fit_89 : decode cX11_fit 89 = .ok (.iconst 3, 1) := by decide +kernel
theorem dX11_fit_90 : decode cX11_fit 90 = .ok (.if_icmp .gt 59, 3) := by decide +kernel
theorem dX11_fit_93 : decode cX11_fit 93 = .ok (.bipush (-3), 2) := by decide +kernel
theorem dX11_fit_95 : decode cX11_fit 95 = .ok (.istore 9, 2) := by decide +kernel
theorem dX11_fit_97 : decode cX11_fit 97 = .ok (.iload 9, 2) := by decide +kernel
theorem dX11_fit_99 : decode cX11_fit 99 = .ok (.iconst 3, 1) := by decide +kernel
theorem dX11_fit_100 : decode cX11_fit 100 = .ok (.if_icmp .gt 43, 3) := by decide +kernel
theorem dX11_fit_103 : decode cX11_fit 103 = .ok (.iload 4, 2) := by decide +kernel
theorem dX11_fit_105 : decode cX11_fit 105 = .ok (.iload 9, 2) := by decide +kernel
theorem dX11_fit_107 : decode cX11_fit 107 = .ok (.iload 8, 2) := by decide +kernel
theorem dX11_fit_109 : decode cX11_fit 109 = .ok (.invokestatic 156, 3) := by decide +kernel
theorem dX11_fit_112 : decode cX11_fit 112 = .ok (.iload_n 3, 1) := by decide +kernel
theorem dX11_fit_113 : decode cX11_fit 113 = .ok (.invokestatic 159, 3) := by decide +kernel
theorem dX11_fit_116 : decode cX11_fit 116 = .ok (.istore 10, 2) := by decide +kernel
theorem dX11_fit_118 : decode cX11_fit 118 = .ok (.iload 10, 2) := by decide +kernel
theorem dX11_fit_120 : decode cX11_fit 120 = .ok (.iload 7, 2) := by decide +kernel
theorem dX11_fit_122 : decode cX11_fit 122 = .ok (.if_icmp .le 15, 3) := by decide +kernel
theorem dX11_fit_125 : decode cX11_fit 125 = .ok (.iload 10, 2) := by decide +kernel
theorem dX11_fit_127 : decode cX11_fit 127 = .ok (.istore 7, 2) := by decide +kernel
theorem dX11_fit_129 : decode cX11_fit 129 = .ok (.iload 9, 2) := by decide +kernel
theorem dX11_fit_131 : decode cX11_fit 131 = .ok (.istore 5, 2) := by decide +kernel
theorem dX11_fit_133 : decode cX11_fit 133 = .ok (.iload 8, 2) := by decide +kernel
theorem dX11_fit_135 : decode cX11_fit 135 = .ok (.istore 6, 2) := by decide +kernel
theorem dX11_fit_137 : decode cX11_fit 137 = .ok (.iinc 9 1, 3) := by decide +kernel
theorem dX11_fit_140 : decode cX11_fit 140 = .ok (.goto (-43), 3) := by decide +kernel
theorem dX11_fit_143 : decode cX11_fit 143 = .ok (.iinc 8 1, 3) := by decide +kernel
theorem dX11_fit_146 : decode cX11_fit 146 = .ok (.goto (-59), 3) := by decide +kernel
theorem dX11_fit_149 : decode cX11_fit 149 = .ok (.iload_n 2, 1) := by decide +kernel
theorem dX11_fit_150 : decode cX11_fit 150 = .ok (.iconst 2, 1) := by decide +kernel
theorem dX11_fit_151 : decode cX11_fit 151 = .ok (.if_icmp .ne 9, 3) := by decide +kernel
theorem dX11_fit_154 : decode cX11_fit 154 = .ok (.iload 7, 2) := by decide +kernel
theorem dX11_fit_156 : decode cX11_fit 156 = .ok (.bipush 16, 2) := by decide +kernel
theorem dX11_fit_158 : decode cX11_fit 158 = .ok (.iadd, 1) := by decide +kernel
theorem dX11_fit_159 : decode cX11_fit 159 = .ok (.ireturn, 1) := by decide +kernel
theorem dX11_fit_160 : decode cX11_fit 160 = .ok (.iload_n 2, 1) := by decide +kernel
theorem dX11_fit_161 : decode cX11_fit 161 = .ok (.ifCond .ne 8, 3) := by decide +kernel
theorem dX11_fit_164 : decode cX11_fit 164 = .ok (.iload 5, 2) := by decide +kernel
theorem dX11_fit_166 : decode cX11_fit 166 = .ok (.goto 5, 3) := by decide +kernel
theorem dX11_fit_169 : decode cX11_fit 169 = .ok (.iload 6, 2) := by decide +kernel
theorem dX11_fit_171 : decode cX11_fit 171 = .ok (.iconst 3, 1) := by decide +kernel
theorem dX11_fit_172 : decode cX11_fit 172 = .ok (.iadd, 1) := by decide +kernel
theorem dX11_fit_173 : decode cX11_fit 173 = .ok (.ireturn, 1) := by decide +kernel
theorem dX11_lawful_0 : decode cX11_lawful 0 = .ok (.aload_n 0, 1) := by decide +kernel
theorem dX11_lawful_1 : decode cX11_lawful 1 = .ok (.getfield 32, 3) := by decide +kernel
theorem dX11_lawful_4 : decode cX11_lawful 4 = .ok (.invokevirtual 163, 3) := by decide +kernel
theorem dX11_lawful_7 : decode cX11_lawful 7 = .ok (.ireturn, 1) := by decide +kernel
theorem dX11_least_0 : decode cX11_least 0 = .ok (.iload_n 1, 1) := by decide +kernel
theorem dX11_least_1 : decode cX11_least 1 = .ok (.iconst 1, 1) := by decide +kernel
theorem dX11_least_2 : decode cX11_least 2 = .ok (.bipush 9, 2) := by decide +kernel
theorem dX11_least_4 : decode cX11_least 4 = .ok (.invokestatic 99, 3) := by decide +kernel
theorem dX11_least_7 : decode cX11_least 7 = .ok (.ifCond .eq 8, 3) := by decide +kernel
theorem dX11_least_10 : decode cX11_least 10 = .ok (.iload_n 2, 1) := by decide +kernel
theorem dX11_least_11 : decode cX11_least 11 = .ok (.iconst (-1), 1) := by decide +kernel
theorem dX11_least_12 : decode cX11_least 12 = .ok (.if_icmp .ge 10, 3) := by decide +kernel
theorem dX11_least_15 : decode cX11_least 15 = .ok (.aload_n 0, 1) := by decide +kernel
theorem dX11_least_16 : decode cX11_least 16 = .ok (.bipush (-2), 2) := by decide +kernel
theorem dX11_least_18 : decode cX11_least 18 = .ok (.invokevirtual 167, 3) := by decide +kernel
theorem dX11_least_21 : decode cX11_least 21 = .ok (.ireturn, 1) := by decide +kernel
theorem dX11_least_22 : decode cX11_least 22 = .ok (.aload_n 0, 1) := by decide +kernel
theorem dX11_least_23 : decode cX11_least 23 = .ok (.getfield 32, 3) := by decide +kernel
theorem dX11_least_26 : decode cX11_least 26 = .ok (.invokevirtual 163, 3) := by decide +kernel
theorem dX11_least_29 : decode cX11_least 29 = .ok (.ifCond .ne 10, 3) := by decide +kernel
theorem dX11_least_32 : decode cX11_least 32 = .ok (.aload_n 0, 1) := by decide +kernel
theorem dX11_least_33 : decode cX11_least 33 = .ok (.bipush (-3), 2) := by decide +kernel
theorem dX11_least_35 : decode cX11_least 35 = .ok (.invokevirtual 167, 3) := by decide +kernel
theorem dX11_least_38 : decode cX11_least 38 = .ok (.ireturn, 1) := by decide +kernel
theorem dX11_least_39 : decode cX11_least 39 = .ok (.aload_n 0, 1) := by decide +kernel
theorem dX11_least_40 : decode cX11_least 40 = .ok (.getfield 32, 3) := by decide +kernel
theorem dX11_least_43 : decode cX11_least 43 = .ok (.iconst 0, 1) := by decide +kernel
theorem dX11_least_44 : decode cX11_least 44 = .ok (.iload_n 1, 1) := by decide +kernel
theorem dX11_least_45 : decode cX11_least 45 = .ok (.aload_n 0, 1) := by decide +kernel
theorem dX11_least_46 : decode cX11_least 46 = .ok (.getfield 10, 3) := by decide +kernel
theorem dX11_least_49 : decode cX11_least 49 = .ok (.getfield 103, 3) := by decide +kernel
theorem dX11_least_52 : decode cX11_least 52 = .ok (.invokevirtual 170, 3) := by decide +kernel
theorem dX11_least_55 : decode cX11_least 55 = .ok (.iload_n 2, 1) := by decide +kernel
theorem dX11_least_56 : decode cX11_least 56 = .ok (.iconst (-1), 1) := by decide +kernel
theorem dX11_least_57 : decode cX11_least 57 = .ok (.if_icmp .ne 13, 3) := by decide +kernel
theorem dX11_least_60 : decode cX11_least 60 = .ok (.aload_n 0, 1) := by decide +kernel
theorem dX11_least_61 : decode cX11_least 61 = .ok (.getfield 32, 3) := by decide +kernel
theorem dX11_least_64 : decode cX11_least 64 = .ok (.getfield 174, 3) := by decide +kernel
theorem dX11_least_67 : decode cX11_least 67 = .ok (.goto 8, 3) := by decide +kernel
theorem dX11_least_70 : decode cX11_least 70 = .ok (.aload_n 0, 1) := by decide +kernel
theorem dX11_least_71 : decode cX11_least 71 = .ok (.iload_n 2, 1) := by decide +kernel
theorem dX11_least_72 : decode cX11_least 72 = .ok (.invokevirtual 177, 3) := by decide +kernel
theorem dX11_least_75 : decode cX11_least 75 = .ok (.ireturn, 1) := by decide +kernel
theorem dX11_nearest_0 : decode cX11_nearest 0 = .ok (.iload_n 1, 1) := by decide +kernel
theorem dX11_nearest_1 : decode cX11_nearest 1 = .ok (.iconst 1, 1) := by decide +kernel
theorem dX11_nearest_2 : decode cX11_nearest 2 = .ok (.bipush 9, 2) := by decide +kernel
theorem dX11_nearest_4 : decode cX11_nearest 4 = .ok (.invokestatic 99, 3) := by decide +kernel
theorem dX11_nearest_7 : decode cX11_nearest 7 = .ok (.ifCond .eq 9, 3) := by decide +kernel
theorem dX11_nearest_10 : decode cX11_nearest 10 = .ok (.iload_n 2, 1) := by decide +kernel
theorem dX11_nearest_11 : decode cX11_nearest 11 = .ok (.bipush (-2), 2) := by decide +kernel
theorem dX11_nearest_13 : decode cX11_nearest 13 = .ok (.if_icmp .ge 10, 3) := by decide +kernel
theorem dX11_nearest_16 : decode cX11_nearest 16 = .ok (.aload_n 0, 1) := by decide +kernel
theorem dX11_nearest_17 : decode cX11_nearest 17 = .ok (.bipush (-2), 2) := by decide +kernel
theorem dX11_nearest_19 : decode cX11_nearest 19 = .ok (.invokevirtual 167, 3) := by decide +kernel
theorem dX11_nearest_22 : decode cX11_nearest 22 = .ok (.ireturn, 1) := by decide +kernel
theorem dX11_nearest_23 : decode cX11_nearest 23 = .ok (.aload_n 0, 1) := by decide +kernel
theorem dX11_nearest_24 : decode cX11_nearest 24 = .ok (.getfield 32, 3) := by decide +kernel
theorem dX11_nearest_27 : decode cX11_nearest 27 = .ok (.invokevirtual 163, 3) := by decide +kernel
theorem dX11_nearest_30 : decode cX11_nearest 30 = .ok (.ifCond .ne 10, 3) := by decide +kernel
theorem dX11_nearest_33 : decode cX11_nearest 33 = .ok (.aload_n 0, 1) := by decide +kernel
theorem dX11_nearest_34 : decode cX11_nearest 34 = .ok (.bipush (-3), 2) := by decide +kernel
theorem dX11_nearest_36 : decode cX11_nearest 36 = .ok (.invokevirtual 167, 3) := by decide +kernel
theorem dX11_nearest_39 : decode cX11_nearest 39 = .ok (.ireturn, 1) := by decide +kernel
theorem dX11_nearest_40 : decode cX11_nearest 40 = .ok (.aload_n 0, 1) := by decide +kernel
theorem dX11_nearest_41 : decode cX11_nearest 41 = .ok (.getfield 32, 3) := by decide +kernel
theorem dX11_nearest_44 : decode cX11_nearest 44 = .ok (.iconst 1, 1) := by decide +kernel
theorem dX11_nearest_45 : decode cX11_nearest 45 = .ok (.iload_n 1, 1) := by decide +kernel
theorem dX11_nearest_46 : decode cX11_nearest 46 = .ok (.aload_n 0, 1) := by decide +kernel
theorem dX11_nearest_47 : decode cX11_nearest 47 = .ok (.getfield 10, 3) := by decide +kernel
theorem dX11_nearest_50 : decode cX11_nearest 50 = .ok (.getfield 103, 3) := by decide +kernel
theorem dX11_nearest_53 : decode cX11_nearest 53 = .ok (.invokevirtual 170, 3) := by decide +kernel
theorem dX11_nearest_56 : decode cX11_nearest 56 = .ok (.iload_n 2, 1) := by decide +kernel
theorem dX11_nearest_57 : decode cX11_nearest 57 = .ok (.iconst (-1), 1) := by decide +kernel
theorem dX11_nearest_58 : decode cX11_nearest 58 = .ok (.if_icmp .ne 11, 3) := by decide +kernel
theorem dX11_nearest_61 : decode cX11_nearest 61 = .ok (.aload_n 0, 1) := by decide +kernel
theorem dX11_nearest_62 : decode cX11_nearest 62 = .ok (.getfield 32, 3) := by decide +kernel
theorem dX11_nearest_65 : decode cX11_nearest 65 = .ok (.getfield 180, 3) := by decide +kernel
theorem dX11_nearest_68 : decode cX11_nearest 68 = .ok (.ireturn, 1) := by decide +kernel
theorem dX11_nearest_69 : decode cX11_nearest 69 = .ok (.iload_n 2, 1) := by decide +kernel
theorem dX11_nearest_70 : decode cX11_nearest 70 = .ok (.bipush (-2), 2) := by decide +kernel
theorem dX11_nearest_72 : decode cX11_nearest 72 = .ok (.if_icmp .ne 13, 3) := by decide +kernel
theorem dX11_nearest_75 : decode cX11_nearest 75 = .ok (.aload_n 0, 1) := by decide +kernel
theorem dX11_nearest_76 : decode cX11_nearest 76 = .ok (.getfield 32, 3) := by decide +kernel
theorem dX11_nearest_79 : decode cX11_nearest 79 = .ok (.getfield 174, 3) := by decide +kernel
theorem dX11_nearest_82 : decode cX11_nearest 82 = .ok (.goto 8, 3) := by decide +kernel
theorem dX11_nearest_85 : decode cX11_nearest 85 = .ok (.aload_n 0, 1) := by decide +kernel
theorem dX11_nearest_86 : decode cX11_nearest 86 = .ok (.iload_n 2, 1) := by decide +kernel
theorem dX11_nearest_87 : decode cX11_nearest 87 = .ok (.invokevirtual 177, 3) := by decide +kernel
theorem dX11_nearest_90 : decode cX11_nearest 90 = .ok (.ireturn, 1) := by decide +kernel
theorem dX11_sheets_0 : decode cX11_sheets 0 = .ok (.aload_n 0, 1) := by decide +kernel
theorem dX11_sheets_1 : decode cX11_sheets 1 = .ok (.getfield 32, 3) := by decide +kernel
theorem dX11_sheets_4 : decode cX11_sheets 4 = .ok (.iconst 2, 1) := by decide +kernel
theorem dX11_sheets_5 : decode cX11_sheets 5 = .ok (.iconst 1, 1) := by decide +kernel
theorem dX11_sheets_6 : decode cX11_sheets 6 = .ok (.aload_n 0, 1) := by decide +kernel
theorem dX11_sheets_7 : decode cX11_sheets 7 = .ok (.getfield 10, 3) := by decide +kernel
theorem dX11_sheets_10 : decode cX11_sheets 10 = .ok (.getfield 103, 3) := by decide +kernel
theorem dX11_sheets_13 : decode cX11_sheets 13 = .ok (.invokevirtual 170, 3) := by decide +kernel
theorem dX11_sheets_16 : decode cX11_sheets 16 = .ok (.aload_n 0, 1) := by decide +kernel
theorem dX11_sheets_17 : decode cX11_sheets 17 = .ok (.getfield 32, 3) := by decide +kernel
theorem dX11_sheets_20 : decode cX11_sheets 20 = .ok (.getfield 183, 3) := by decide +kernel
theorem dX11_sheets_23 : decode cX11_sheets 23 = .ok (.getfield 187, 3) := by decide +kernel
theorem dX11_sheets_26 : decode cX11_sheets 26 = .ok (.ireturn, 1) := by decide +kernel
theorem dX11_prints_0 : decode cX11_prints 0 = .ok (.aload_n 0, 1) := by decide +kernel
theorem dX11_prints_1 : decode cX11_prints 1 = .ok (.iload_n 1, 1) := by decide +kernel
theorem dX11_prints_2 : decode cX11_prints 2 = .ok (.iload_n 2, 1) := by decide +kernel
theorem dX11_prints_3 : decode cX11_prints 3 = .ok (.invokevirtual 192, 3) := by decide +kernel
theorem dX11_prints_6 : decode cX11_prints 6 = .ok (.istore_n 3, 1) := by decide +kernel
theorem dX11_prints_7 : decode cX11_prints 7 = .ok (.iload_n 3, 1) := by decide +kernel
theorem dX11_prints_8 : decode cX11_prints 8 = .ok (.ifCond .eq 9, 3) := by decide +kernel
theorem dX11_prints_11 : decode cX11_prints 11 = .ok (.aload_n 0, 1) := by decide +kernel
theorem dX11_prints_12 : decode cX11_prints 12 = .ok (.iload_n 3, 1) := by decide +kernel
theorem dX11_prints_13 : decode cX11_prints 13 = .ok (.invokevirtual 64, 3) := by decide +kernel
theorem dX11_prints_16 : decode cX11_prints 16 = .ok (.ireturn, 1) := by decide +kernel
theorem dX11_prints_17 : decode cX11_prints 17 = .ok (.aload_n 0, 1) := by decide +kernel
theorem dX11_prints_18 : decode cX11_prints 18 = .ok (.getfield 19, 3) := by decide +kernel
theorem dX11_prints_21 : decode cX11_prints 21 = .ok (.aload_n 0, 1) := by decide +kernel
theorem dX11_prints_22 : decode cX11_prints 22 = .ok (.getfield 10, 3) := by decide +kernel
theorem dX11_prints_25 : decode cX11_prints 25 = .ok (.invokevirtual 68, 3) := by decide +kernel
theorem dX11_prints_28 : decode cX11_prints 28 = .ok (.aload_n 0, 1) := by decide +kernel
theorem dX11_prints_29 : decode cX11_prints 29 = .ok (.getfield 10, 3) := by decide +kernel
theorem dX11_prints_32 : decode cX11_prints 32 = .ok (.getfield 195, 3) := by decide +kernel
theorem dX11_prints_35 : decode cX11_prints 35 = .ok (.aload_n 0, 1) := by decide +kernel
theorem dX11_prints_36 : decode cX11_prints 36 = .ok (.getfield 10, 3) := by decide +kernel
theorem dX11_prints_39 : decode cX11_prints 39 = .ok (.getfield 25, 3) := by decide +kernel
theorem dX11_prints_42 : decode cX11_prints 42 = .ok (.iload_n 1, 1) := by decide +kernel
theorem dX11_prints_43 : decode cX11_prints 43 = .ok (.iload_n 2, 1) := by decide +kernel
theorem dX11_prints_44 : decode cX11_prints 44 = .ok (.invokevirtual 199, 3) := by decide +kernel
theorem dX11_prints_47 : decode cX11_prints 47 = .ok (.ireturn, 1) := by decide +kernel
theorem dX11_news_0 : decode cX11_news 0 = .ok (.aload_n 0, 1) := by decide +kernel
theorem dX11_news_1 : decode cX11_news 1 = .ok (.getfield 19, 3) := by decide +kernel
theorem dX11_news_4 : decode cX11_news 4 = .ok (.aload_n 0, 1) := by decide +kernel
theorem dX11_news_5 : decode cX11_news 5 = .ok (.getfield 10, 3) := by decide +kernel
theorem dX11_news_8 : decode cX11_news 8 = .ok (.invokevirtual 68, 3) := by decide +kernel
theorem dX11_news_11 : decode cX11_news 11 = .ok (.aload_n 0, 1) := by decide +kernel
theorem dX11_news_12 : decode cX11_news 12 = .ok (.getfield 10, 3) := by decide +kernel
theorem dX11_news_15 : decode cX11_news 15 = .ok (.getfield 195, 3) := by decide +kernel
theorem dX11_news_18 : decode cX11_news 18 = .ok (.invokevirtual 205, 3) := by decide +kernel
theorem dX11_news_21 : decode cX11_news 21 = .ok (.ireturn, 1) := by decide +kernel
theorem dX11_cell_0 : decode cX11_cell 0 = .ok (.iload_n 1, 1) := by decide +kernel
theorem dX11_cell_1 : decode cX11_cell 1 = .ok (.iconst 0, 1) := by decide +kernel
theorem dX11_cell_2 : decode cX11_cell 2 = .ok (.bipush 15, 2) := by decide +kernel
theorem dX11_cell_4 : decode cX11_cell 4 = .ok (.invokestatic 99, 3) := by decide +kernel
theorem dX11_cell_7 : decode cX11_cell 7 = .ok (.ifCond .eq 12, 3) := by decide +kernel
theorem dX11_cell_10 : decode cX11_cell 10 = .ok (.iload_n 2, 1) := by decide +kernel
theorem dX11_cell_11 : decode cX11_cell 11 = .ok (.iconst 0, 1) := by decide +kernel
theorem dX11_cell_12 : decode cX11_cell 12 = .ok (.iconst 3, 1) := by decide +kernel
theorem dX11_cell_13 : decode cX11_cell 13 = .ok (.invokestatic 99, 3) := by decide +kernel
theorem dX11_cell_16 : decode cX11_cell 16 = .ok (.ifCond .ne 10, 3) := by decide +kernel
theorem dX11_cell_19 : decode cX11_cell 19 = .ok (.aload_n 0, 1) := by decide +kernel
theorem dX11_cell_20 : decode cX11_cell 20 = .ok (.bipush (-2), 2) := by decide +kernel
theorem dX11_cell_22 : decode cX11_cell 22 = .ok (.invokevirtual 64, 3) := by decide +kernel
theorem dX11_cell_25 : decode cX11_cell 25 = .ok (.ireturn, 1) := by decide +kernel
theorem dX11_cell_26 : decode cX11_cell 26 = .ok (.aload_n 0, 1) := by decide +kernel
theorem dX11_cell_27 : decode cX11_cell 27 = .ok (.getfield 10, 3) := by decide +kernel
theorem dX11_cell_30 : decode cX11_cell 30 = .ok (.getfield 195, 3) := by decide +kernel
theorem dX11_cell_33 : decode cX11_cell 33 = .ok (.getfield 208, 3) := by decide +kernel
theorem dX11_cell_36 : decode cX11_cell 36 = .ok (.astore_n 3, 1) := by decide +kernel
theorem dX11_cell_37 : decode cX11_cell 37 = .ok (.iload_n 2, 1) := by decide +kernel
theorem dX11_cell_38 : decode cX11_cell 38 = .ok (.tableswitch 53 0 2 #[26, 35, 44], 26) := by decide +kernel
theorem dX11_cell_64 : decode cX11_cell 64 = .ok (.aload_n 3, 1) := by decide +kernel
theorem dX11_cell_65 : decode cX11_cell 65 = .ok (.getfield 212, 3) := by decide +kernel
theorem dX11_cell_68 : decode cX11_cell 68 = .ok (.iload_n 1, 1) := by decide +kernel
theorem dX11_cell_69 : decode cX11_cell 69 = .ok (.invokestatic 107, 3) := by decide +kernel
theorem dX11_cell_72 : decode cX11_cell 72 = .ok (.ireturn, 1) := by decide +kernel
theorem dX11_cell_73 : decode cX11_cell 73 = .ok (.aload_n 3, 1) := by decide +kernel
theorem dX11_cell_74 : decode cX11_cell 74 = .ok (.getfield 216, 3) := by decide +kernel
theorem dX11_cell_77 : decode cX11_cell 77 = .ok (.iload_n 1, 1) := by decide +kernel
theorem dX11_cell_78 : decode cX11_cell 78 = .ok (.invokestatic 107, 3) := by decide +kernel
theorem dX11_cell_81 : decode cX11_cell 81 = .ok (.ireturn, 1) := by decide +kernel
theorem dX11_cell_82 : decode cX11_cell 82 = .ok (.aload_n 3, 1) := by decide +kernel
theorem dX11_cell_83 : decode cX11_cell 83 = .ok (.getfield 219, 3) := by decide +kernel
theorem dX11_cell_86 : decode cX11_cell 86 = .ok (.iload_n 1, 1) := by decide +kernel
theorem dX11_cell_87 : decode cX11_cell 87 = .ok (.iushr, 1) := by decide +kernel
theorem dX11_cell_88 : decode cX11_cell 88 = .ok (.iconst 1, 1) := by decide +kernel
theorem dX11_cell_89 : decode cX11_cell 89 = .ok (.iand, 1) := by decide +kernel
theorem dX11_cell_90 : decode cX11_cell 90 = .ok (.ireturn, 1) := by decide +kernel
theorem dX11_cell_91 : decode cX11_cell 91 = .ok (.aload_n 0, 1) := by decide +kernel
theorem dX11_cell_92 : decode cX11_cell 92 = .ok (.getfield 10, 3) := by decide +kernel
theorem dX11_cell_95 : decode cX11_cell 95 = .ok (.getfield 195, 3) := by decide +kernel
theorem dX11_cell_98 : decode cX11_cell 98 = .ok (.aload_n 0, 1) := by decide +kernel
theorem dX11_cell_99 : decode cX11_cell 99 = .ok (.getfield 10, 3) := by decide +kernel
theorem dX11_cell_102 : decode cX11_cell 102 = .ok (.getfield 25, 3) := by decide +kernel
theorem dX11_cell_105 : decode cX11_cell 105 = .ok (.iload_n 1, 1) := by decide +kernel
theorem dX11_cell_106 : decode cX11_cell 106 = .ok (.invokevirtual 222, 3) := by decide +kernel
theorem dX11_cell_109 : decode cX11_cell 109 = .ok (.ireturn, 1) := by decide +kernel
theorem dX11_hand_0 : decode cX11_hand 0 = .ok (.aload_n 0, 1) := by decide +kernel
theorem dX11_hand_1 : decode cX11_hand 1 = .ok (.getfield 10, 3) := by decide +kernel
theorem dX11_hand_4 : decode cX11_hand 4 = .ok (.getfield 195, 3) := by decide +kernel
theorem dX11_hand_7 : decode cX11_hand 7 = .ok (.getfield 208, 3) := by decide +kernel
theorem dX11_hand_10 : decode cX11_hand 10 = .ok (.astore_n 2, 1) := by decide +kernel
theorem dX11_hand_11 : decode cX11_hand 11 = .ok (.iload_n 1, 1) := by decide +kernel
theorem dX11_hand_12 : decode cX11_hand 12 = .ok (.tableswitch 126 0 6 #[44, 55, 66, 77, 89, 107, 118], 44) := by decide +kernel
theorem dX11_hand_56 : decode cX11_hand 56 = .ok (.aload_n 0, 1) := by decide +kernel
theorem dX11_hand_57 : decode cX11_hand 57 = .ok (.getfield 10, 3) := by decide +kernel
theorem dX11_hand_60 : decode cX11_hand 60 = .ok (.getfield 195, 3) := by decide +kernel
theorem dX11_hand_63 : decode cX11_hand 63 = .ok (.getfield 226, 3) := by decide +kernel
theorem dX11_hand_66 : decode cX11_hand 66 = .ok (.ireturn, 1) := by decide +kernel
theorem dX11_hand_67 : decode cX11_hand 67 = .ok (.aload_n 0, 1) := by decide +kernel
theorem dX11_hand_68 : decode cX11_hand 68 = .ok (.getfield 10, 3) := by decide +kernel
theorem dX11_hand_71 : decode cX11_hand 71 = .ok (.getfield 195, 3) := by decide +kernel
theorem dX11_hand_74 : decode cX11_hand 74 = .ok (.getfield 229, 3) := by decide +kernel
theorem dX11_hand_77 : decode cX11_hand 77 = .ok (.ireturn, 1) := by decide +kernel
theorem dX11_hand_78 : decode cX11_hand 78 = .ok (.aload_n 0, 1) := by decide +kernel
theorem dX11_hand_79 : decode cX11_hand 79 = .ok (.getfield 10, 3) := by decide +kernel
theorem dX11_hand_82 : decode cX11_hand 82 = .ok (.getfield 195, 3) := by decide +kernel
theorem dX11_hand_85 : decode cX11_hand 85 = .ok (.getfield 232, 3) := by decide +kernel
theorem dX11_hand_88 : decode cX11_hand 88 = .ok (.ireturn, 1) := by decide +kernel
theorem dX11_hand_89 : decode cX11_hand 89 = .ok (.aload_n 2, 1) := by decide +kernel
theorem dX11_hand_90 : decode cX11_hand 90 = .ok (.aload_n 0, 1) := by decide +kernel
theorem dX11_hand_91 : decode cX11_hand 91 = .ok (.getfield 10, 3) := by decide +kernel
theorem dX11_hand_94 : decode cX11_hand 94 = .ok (.getfield 103, 3) := by decide +kernel
theorem dX11_hand_97 : decode cX11_hand 97 = .ok (.invokevirtual 235, 3) := by decide +kernel
theorem dX11_hand_100 : decode cX11_hand 100 = .ok (.ireturn, 1) := by decide +kernel
theorem dX11_hand_101 : decode cX11_hand 101 = .ok (.aload_n 0, 1) := by decide +kernel
theorem dX11_hand_102 : decode cX11_hand 102 = .ok (.getfield 10, 3) := by decide +kernel
theorem dX11_hand_105 : decode cX11_hand 105 = .ok (.getfield 195, 3) := by decide +kernel
theorem dX11_hand_108 : decode cX11_hand 108 = .ok (.aload_n 0, 1) := by decide +kernel
theorem dX11_hand_109 : decode cX11_hand 109 = .ok (.getfield 10, 3) := by decide +kernel
theorem dX11_hand_112 : decode cX11_hand 112 = .ok (.getfield 25, 3) := by decide +kernel
theorem dX11_hand_115 : decode cX11_hand 115 = .ok (.invokevirtual 239, 3) := by decide +kernel
theorem dX11_hand_118 : decode cX11_hand 118 = .ok (.ireturn, 1) := by decide +kernel
theorem dX11_hand_119 : decode cX11_hand 119 = .ok (.aload_n 2, 1) := by decide +kernel
theorem dX11_hand_120 : decode cX11_hand 120 = .ok (.getfield 216, 3) := by decide +kernel
theorem dX11_hand_123 : decode cX11_hand 123 = .ok (.invokestatic 243, 3) := by decide +kernel
theorem dX11_hand_126 : decode cX11_hand 126 = .ok (.invokestatic 247, 3) := by decide +kernel
theorem dX11_hand_129 : decode cX11_hand 129 = .ok (.ireturn, 1) := by decide +kernel
theorem dX11_hand_130 : decode cX11_hand 130 = .ok (.aload_n 2, 1) := by decide +kernel
theorem dX11_hand_131 : decode cX11_hand 131 = .ok (.getfield 219, 3) := by decide +kernel
theorem dX11_hand_134 : decode cX11_hand 134 = .ok (.invokestatic 88, 3) := by decide +kernel
theorem dX11_hand_137 : decode cX11_hand 137 = .ok (.ireturn, 1) := by decide +kernel
theorem dX11_hand_138 : decode cX11_hand 138 = .ok (.aload_n 0, 1) := by decide +kernel
theorem dX11_hand_139 : decode cX11_hand 139 = .ok (.bipush (-2), 2) := by decide +kernel
theorem dX11_hand_141 : decode cX11_hand 141 = .ok (.invokevirtual 64, 3) := by decide +kernel
theorem dX11_hand_144 : decode cX11_hand 144 = .ok (.ireturn, 1) := by decide +kernel
theorem dX11_print_0 : decode cX11_print 0 = .ok (.iload_n 1, 1) := by decide +kernel
theorem dX11_print_1 : decode cX11_print 1 = .ok (.ifCond .lt 12, 3) := by decide +kernel
theorem dX11_print_4 : decode cX11_print 4 = .ok (.iload_n 2, 1) := by decide +kernel
theorem dX11_print_5 : decode cX11_print 5 = .ok (.iconst 0, 1) := by decide +kernel
theorem dX11_print_6 : decode cX11_print 6 = .ok (.iconst 2, 1) := by decide +kernel
theorem dX11_print_7 : decode cX11_print 7 = .ok (.invokestatic 99, 3) := by decide +kernel
theorem dX11_print_10 : decode cX11_print 10 = .ok (.ifCond .ne 10, 3) := by decide +kernel
theorem dX11_print_13 : decode cX11_print 13 = .ok (.aload_n 0, 1) := by decide +kernel
theorem dX11_print_14 : decode cX11_print 14 = .ok (.bipush (-2), 2) := by decide +kernel
theorem dX11_print_16 : decode cX11_print 16 = .ok (.invokevirtual 64, 3) := by decide +kernel
theorem dX11_print_19 : decode cX11_print 19 = .ok (.ireturn, 1) := by decide +kernel
theorem dX11_print_20 : decode cX11_print 20 = .ok (.iload_n 1, 1) := by decide +kernel
theorem dX11_print_21 : decode cX11_print 21 = .ok (.aload_n 0, 1) := by decide +kernel
theorem dX11_print_22 : decode cX11_print 22 = .ok (.getfield 10, 3) := by decide +kernel
theorem dX11_print_25 : decode cX11_print 25 = .ok (.getfield 195, 3) := by decide +kernel
theorem dX11_print_28 : decode cX11_print 28 = .ok (.getfield 229, 3) := by decide +kernel
theorem dX11_print_31 : decode cX11_print 31 = .ok (.if_icmp .lt 5, 3) := by decide +kernel
theorem dX11_print_34 : decode cX11_print 34 = .ok (.iconst (-1), 1) := by decide +kernel
theorem dX11_print_35 : decode cX11_print 35 = .ok (.ireturn, 1) := by decide +kernel
theorem dX11_print_36 : decode cX11_print 36 = .ok (.iload_n 2, 1) := by decide +kernel
theorem dX11_print_37 : decode cX11_print 37 = .ok (.lookupswitch 57 #[(0, 27), (1, 42)], 27) := by decide +kernel
theorem dX11_print_64 : decode cX11_print 64 = .ok (.aload_n 0, 1) := by decide +kernel
theorem dX11_print_65 : decode cX11_print 65 = .ok (.getfield 10, 3) := by decide +kernel
theorem dX11_print_68 : decode cX11_print 68 = .ok (.getfield 195, 3) := by decide +kernel
theorem dX11_print_71 : decode cX11_print 71 = .ok (.getfield 251, 3) := by decide +kernel
theorem dX11_print_74 : decode cX11_print 74 = .ok (.iload_n 1, 1) := by decide +kernel
theorem dX11_print_75 : decode cX11_print 75 = .ok (.invokestatic 125, 3) := by decide +kernel
theorem dX11_print_78 : decode cX11_print 78 = .ok (.ireturn, 1) := by decide +kernel
theorem dX11_print_79 : decode cX11_print 79 = .ok (.aload_n 0, 1) := by decide +kernel
theorem dX11_print_80 : decode cX11_print 80 = .ok (.getfield 10, 3) := by decide +kernel
theorem dX11_print_83 : decode cX11_print 83 = .ok (.getfield 195, 3) := by decide +kernel
theorem dX11_print_86 : decode cX11_print 86 = .ok (.getfield 254, 3) := by decide +kernel
theorem dX11_print_89 : decode cX11_print 89 = .ok (.iload_n 1, 1) := by decide +kernel
theorem dX11_print_90 : decode cX11_print 90 = .ok (.invokestatic 125, 3) := by decide +kernel
theorem dX11_print_93 : decode cX11_print 93 = .ok (.ireturn, 1) := by decide +kernel
theorem dX11_print_94 : decode cX11_print 94 = .ok (.aload_n 0, 1) := by decide +kernel
theorem dX11_print_95 : decode cX11_print 95 = .ok (.getfield 10, 3) := by decide +kernel
theorem dX11_print_98 : decode cX11_print 98 = .ok (.getfield 195, 3) := by decide +kernel
theorem dX11_print_101 : decode cX11_print 101 = .ok (.getfield 257, 3) := by decide +kernel
theorem dX11_print_104 : decode cX11_print 104 = .ok (.iload_n 1, 1) := by decide +kernel
theorem dX11_print_105 : decode cX11_print 105 = .ok (.invokestatic 125, 3) := by decide +kernel
theorem dX11_print_108 : decode cX11_print 108 = .ok (.ireturn, 1) := by decide +kernel
theorem dX11_type_0 : decode cX11_type 0 = .ok (.iload_n 1, 1) := by decide +kernel
theorem dX11_type_1 : decode cX11_type 1 = .ok (.iconst 0, 1) := by decide +kernel
theorem dX11_type_2 : decode cX11_type 2 = .ok (.bipush 127, 2) := by decide +kernel
theorem dX11_type_4 : decode cX11_type 4 = .ok (.invokestatic 99, 3) := by decide +kernel
theorem dX11_type_7 : decode cX11_type 7 = .ok (.ifCond .ne 10, 3) := by decide +kernel
theorem dX11_type_10 : decode cX11_type 10 = .ok (.aload_n 0, 1) := by decide +kernel
theorem dX11_type_11 : decode cX11_type 11 = .ok (.bipush (-2), 2) := by decide +kernel
theorem dX11_type_13 : decode cX11_type 13 = .ok (.invokevirtual 64, 3) := by decide +kernel
theorem dX11_type_16 : decode cX11_type 16 = .ok (.ireturn, 1) := by decide +kernel
theorem dX11_type_17 : decode cX11_type 17 = .ok (.aload_n 0, 1) := by decide +kernel
theorem dX11_type_18 : decode cX11_type 18 = .ok (.getfield 39, 3) := by decide +kernel
theorem dX11_type_21 : decode cX11_type 21 = .ok (.getfield 260, 3) := by decide +kernel
theorem dX11_type_24 : decode cX11_type 24 = .ok (.sipush 150, 3) := by decide +kernel
theorem dX11_type_27 : decode cX11_type 27 = .ok (.if_icmp .lt 10, 3) := by decide +kernel
theorem dX11_type_30 : decode cX11_type 30 = .ok (.aload_n 0, 1) := by decide +kernel
theorem dX11_type_31 : decode cX11_type 31 = .ok (.bipush (-4), 2) := by decide +kernel
theorem dX11_type_33 : decode cX11_type 33 = .ok (.invokevirtual 64, 3) := by decide +kernel
theorem dX11_type_36 : decode cX11_type 36 = .ok (.ireturn, 1) := by decide +kernel
theorem dX11_type_37 : decode cX11_type 37 = .ok (.aload_n 0, 1) := by decide +kernel
theorem dX11_type_38 : decode cX11_type 38 = .ok (.getfield 39, 3) := by decide +kernel
theorem dX11_type_41 : decode cX11_type 41 = .ok (.iload_n 1, 1) := by decide +kernel
theorem dX11_type_42 : decode cX11_type 42 = .ok (.invokevirtual 263, 3) := by decide +kernel
theorem dX11_type_45 : decode cX11_type 45 = .ok (.aload_n 0, 1) := by decide +kernel
theorem dX11_type_46 : decode cX11_type 46 = .ok (.getfield 39, 3) := by decide +kernel
theorem dX11_type_49 : decode cX11_type 49 = .ok (.getfield 260, 3) := by decide +kernel
theorem dX11_type_52 : decode cX11_type 52 = .ok (.ireturn, 1) := by decide +kernel
theorem dX11_clear_0 : decode cX11_clear 0 = .ok (.aload_n 0, 1) := by decide +kernel
theorem dX11_clear_1 : decode cX11_clear 1 = .ok (.getfield 39, 3) := by decide +kernel
theorem dX11_clear_4 : decode cX11_clear 4 = .ok (.getfield 260, 3) := by decide +kernel
theorem dX11_clear_7 : decode cX11_clear 7 = .ok (.istore_n 1, 1) := by decide +kernel
theorem dX11_clear_8 : decode cX11_clear 8 = .ok (.aload_n 0, 1) := by decide +kernel
theorem dX11_clear_9 : decode cX11_clear 9 = .ok (.getfield 39, 3) := by decide +kernel
theorem dX11_clear_12 : decode cX11_clear 12 = .ok (.iconst 0, 1) := by decide +kernel
theorem dX11_clear_13 : decode cX11_clear 13 = .ok (.putfield 260, 3) := by decide +kernel
theorem dX11_clear_16 : decode cX11_clear 16 = .ok (.iload_n 1, 1) := by decide +kernel
theorem dX11_clear_17 : decode cX11_clear 17 = .ok (.ireturn, 1) := by decide +kernel
theorem dX11_reads_0 : decode cX11_reads 0 = .ok (.aload_n 0, 1) := by decide +kernel
theorem dX11_reads_1 : decode cX11_reads 1 = .ok (.invokevirtual 266, 3) := by decide +kernel
theorem dX11_reads_4 : decode cX11_reads 4 = .ok (.istore_n 1, 1) := by decide +kernel
theorem dX11_reads_5 : decode cX11_reads 5 = .ok (.iload_n 1, 1) := by decide +kernel
theorem dX11_reads_6 : decode cX11_reads 6 = .ok (.iconst (-1), 1) := by decide +kernel
theorem dX11_reads_7 : decode cX11_reads 7 = .ok (.if_icmp .eq 8, 3) := by decide +kernel
theorem dX11_reads_10 : decode cX11_reads 10 = .ok (.bipush (-10), 2) := by decide +kernel
theorem dX11_reads_12 : decode cX11_reads 12 = .ok (.iload_n 1, 1) := by decide +kernel
theorem dX11_reads_13 : decode cX11_reads 13 = .ok (.isub, 1) := by decide +kernel
theorem dX11_reads_14 : decode cX11_reads 14 = .ok (.ireturn, 1) := by decide +kernel
theorem dX11_reads_15 : decode cX11_reads 15 = .ok (.aload_n 0, 1) := by decide +kernel
theorem dX11_reads_16 : decode cX11_reads 16 = .ok (.getfield 19, 3) := by decide +kernel
theorem dX11_reads_19 : decode cX11_reads 19 = .ok (.aload_n 0, 1) := by decide +kernel
theorem dX11_reads_20 : decode cX11_reads 20 = .ok (.getfield 10, 3) := by decide +kernel
theorem dX11_reads_23 : decode cX11_reads 23 = .ok (.invokevirtual 68, 3) := by decide +kernel
theorem dX11_reads_26 : decode cX11_reads 26 = .ok (.aload_n 0, 1) := by decide +kernel
theorem dX11_reads_27 : decode cX11_reads 27 = .ok (.invokevirtual 269, 3) := by decide +kernel
theorem dX11_reads_30 : decode cX11_reads 30 = .ok (.ireturn, 1) := by decide +kernel
theorem dX11_back_0 : decode cX11_back 0 = .ok (.aload_n 0, 1) := by decide +kernel
theorem dX11_back_1 : decode cX11_back 1 = .ok (.getfield 19, 3) := by decide +kernel
theorem dX11_back_4 : decode cX11_back 4 = .ok (.getfield 272, 3) := by decide +kernel
theorem dX11_back_7 : decode cX11_back 7 = .ok (.ifCond .ne 10, 3) := by decide +kernel
theorem dX11_back_10 : decode cX11_back 10 = .ok (.aload_n 0, 1) := by decide +kernel
theorem dX11_back_11 : decode cX11_back 11 = .ok (.bipush (-3), 2) := by decide +kernel
theorem dX11_back_13 : decode cX11_back 13 = .ok (.invokevirtual 64, 3) := by decide +kernel
theorem dX11_back_16 : decode cX11_back 16 = .ok (.ireturn, 1) := by decide +kernel
theorem dX11_back_17 : decode cX11_back 17 = .ok (.aload_n 0, 1) := by decide +kernel
theorem dX11_back_18 : decode cX11_back 18 = .ok (.getfield 19, 3) := by decide +kernel
theorem dX11_back_21 : decode cX11_back 21 = .ok (.aload_n 0, 1) := by decide +kernel
theorem dX11_back_22 : decode cX11_back 22 = .ok (.getfield 10, 3) := by decide +kernel
theorem dX11_back_25 : decode cX11_back 25 = .ok (.invokevirtual 273, 3) := by decide +kernel
theorem dX11_back_28 : decode cX11_back 28 = .ok (.aload_n 0, 1) := by decide +kernel
theorem dX11_back_29 : decode cX11_back 29 = .ok (.getfield 19, 3) := by decide +kernel
theorem dX11_back_32 : decode cX11_back 32 = .ok (.getfield 272, 3) := by decide +kernel
theorem dX11_back_35 : decode cX11_back 35 = .ok (.ireturn, 1) := by decide +kernel
theorem dX11_told_0 : decode cX11_told 0 = .ok (.iload_n 1, 1) := by decide +kernel
theorem dX11_told_1 : decode cX11_told 1 = .ok (.tableswitch 81 0 5 #[39, 44, 49, 54, 62, 73], 39) := by decide +kernel
theorem dX11_told_40 : decode cX11_told 40 = .ok (.aload_n 0, 1) := by decide +kernel
theorem dX11_told_41 : decode cX11_told 41 = .ok (.getfield 50, 3) := by decide +kernel
theorem dX11_told_44 : decode cX11_told 44 = .ok (.ireturn, 1) := by decide +kernel
theorem dX11_told_45 : decode cX11_told 45 = .ok (.aload_n 0, 1) := by decide +kernel
theorem dX11_told_46 : decode cX11_told 46 = .ok (.getfield 54, 3) := by decide +kernel
theorem dX11_told_49 : decode cX11_told 49 = .ok (.ireturn, 1) := by decide +kernel
theorem dX11_told_50 : decode cX11_told 50 = .ok (.aload_n 0, 1) := by decide +kernel
theorem dX11_told_51 : decode cX11_told 51 = .ok (.getfield 57, 3) := by decide +kernel
theorem dX11_told_54 : decode cX11_told 54 = .ok (.ireturn, 1) := by decide +kernel
theorem dX11_told_55 : decode cX11_told 55 = .ok (.aload_n 0, 1) := by decide +kernel
theorem dX11_told_56 : decode cX11_told 56 = .ok (.getfield 39, 3) := by decide +kernel
theorem dX11_told_59 : decode cX11_told 59 = .ok (.getfield 260, 3) := by decide +kernel
theorem dX11_told_62 : decode cX11_told 62 = .ok (.ireturn, 1) := by decide +kernel
theorem dX11_told_63 : decode cX11_told 63 = .ok (.aload_n 0, 1) := by decide +kernel
theorem dX11_told_64 : decode cX11_told 64 = .ok (.getfield 10, 3) := by decide +kernel
theorem dX11_told_67 : decode cX11_told 67 = .ok (.getfield 25, 3) := by decide +kernel
theorem dX11_told_70 : decode cX11_told 70 = .ok (.getfield 276, 3) := by decide +kernel
theorem dX11_told_73 : decode cX11_told 73 = .ok (.ireturn, 1) := by decide +kernel
theorem dX11_told_74 : decode cX11_told 74 = .ok (.aload_n 0, 1) := by decide +kernel
theorem dX11_told_75 : decode cX11_told 75 = .ok (.getfield 19, 3) := by decide +kernel
theorem dX11_told_78 : decode cX11_told 78 = .ok (.getfield 272, 3) := by decide +kernel
theorem dX11_told_81 : decode cX11_told 81 = .ok (.ireturn, 1) := by decide +kernel
theorem dX11_told_82 : decode cX11_told 82 = .ok (.aload_n 0, 1) := by decide +kernel
