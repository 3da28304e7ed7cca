theorem dX12_fit_9 : decode cX12_fit 9 = .ok (.iconst 0, 1) := by decide +kernel
theorem dX12_fit_10 : decode cX12_fit 10 = .ok (.iconst 2, 1) := by decide +kernel
theorem dX12_fit_11 : decode cX12_fit 11 = .ok (.invokestatic 67, 3) := by decide +kernel
theorem dX12_fit_14 : decode cX12_fit 14 = .ok (.ifCond .ne 10, 3) := by decide +kernel
theorem dX12_fit_17 : decode cX12_fit 17 = .ok (.aload_n 0, 1) := by decide +kernel
theorem dX12_fit_18 : decode cX12_fit 18 = .ok (.bipush (-2), 2) := by decide +kernel
theorem dX12_fit_20 : decode cX12_fit 20 = .ok (.invokevirtual 60, 3) := by decide +kernel
theorem dX12_fit_23 : decode cX12_fit 23 = .ok (.ireturn, 1) := by decide +kernel
theorem dX12_fit_24 : decode cX12_fit 24 = .ok (.iconst 0, 1) := by decide +kernel
theorem dX12_fit_25 : decode cX12_fit 25 = .ok (.istore_n 3, 1) := by decide +kernel
theorem dX12_fit_26 : decode cX12_fit 26 = .ok (.bipush (-17), 2) := by decide +kernel
theorem dX12_fit_28 : decode cX12_fit 28 = .ok (.istore 4, 2) := by decide +kernel
theorem dX12_fit_30 : decode cX12_fit 30 = .ok (.iconst 0, 1) := by decide +kernel
theorem dX12_fit_31 : decode cX12_fit 31 = .ok (.istore 5, 2) := by decide +kernel
theorem dX12_fit_33 : decode cX12_fit 33 = .ok (.iload 5, 2) := by decide +kernel
theorem dX12_fit_35 : decode cX12_fit 35 = .ok (.bipush 49, 2) := by decide +kernel
theorem dX12_fit_37 : decode cX12_fit 37 = .ok (.if_icmp .ge 74, 3) := by decide +kernel
theorem dX12_fit_40 : decode cX12_fit 40 = .ok (.aload_n 0, 1) := by decide +kernel
theorem dX12_fit_41 : decode cX12_fit 41 = .ok (.aload_n 0, 1) := by decide +kernel
theorem dX12_fit_42 : decode cX12_fit 42 = .ok (.iload_n 1, 1) := by decide +kernel
theorem dX12_fit_43 : decode cX12_fit 43 = .ok (.iconst 3, 1) := by decide +kernel
theorem dX12_fit_44 : decode cX12_fit 44 = .ok (.invokevirtual 75, 3) := by decide +kernel
theorem dX12_fit_47 : decode cX12_fit 47 = .ok (.iload 5, 2) := by decide +kernel
theorem dX12_fit_49 : decode cX12_fit 49 = .ok (.bipush 7, 2) := by decide +kernel
theorem dX12_fit_51 : decode cX12_fit 51 = .ok (.irem, 1) := by decide +kernel
theorem dX12_fit_52 : decode cX12_fit 52 = .ok (.iconst 3, 1) := by decide +kernel
theorem dX12_fit_53 : decode cX12_fit 53 = .ok (.isub, 1) := by decide +kernel
theorem dX12_fit_54 : decode cX12_fit 54 = .ok (.iload 5, 2) := by decide +kernel
theorem dX12_fit_56 : decode cX12_fit 56 = .ok (.bipush 7, 2) := by decide +kernel
theorem dX12_fit_58 : decode cX12_fit 58 = .ok (.idiv, 1) := by decide +kernel
theorem dX12_fit_59 : decode cX12_fit 59 = .ok (.iconst 3, 1) := by decide +kernel
theorem dX12_fit_60 : decode cX12_fit 60 = .ok (.isub, 1) := by decide +kernel
theorem dX12_fit_61 : decode cX12_fit 61 = .ok (.invokestatic 79, 3) := by decide +kernel
theorem dX12_fit_64 : decode cX12_fit 64 = .ok (.aload_n 0, 1) := by decide +kernel
theorem dX12_fit_65 : decode cX12_fit 65 = .ok (.iload_n 1, 1) := by decide +kernel
theorem dX12_fit_66 : decode cX12_fit 66 = .ok (.iconst 1, 1) := by decide +kernel
theorem dX12_fit_67 : decode cX12_fit 67 = .ok (.invokevirtual 75, 3) := by decide +kernel
theorem dX12_fit_70 : decode cX12_fit 70 = .ok (.invokevirtual 113, 3) := by decide +kernel
theorem dX12_fit_73 : decode cX12_fit 73 = .ok (.istore 6, 2) := by decide +kernel
theorem dX12_fit_75 : decode cX12_fit 75 = .ok (.iload 6, 2) := by decide +kernel
theorem dX12_fit_77 : decode cX12_fit 77 = .ok (.iload 4, 2) := by decide +kernel
theorem dX12_fit_79 : decode cX12_fit 79 = .ok (.if_icmp .le 8, 3) := by decide +kernel
theorem dX12_fit_82 : decode cX12_fit 82 = .ok (.iload 5, 2) := by decide +kernel
theorem dX12_fit_84 : decode cX12_fit 84 = .ok (.goto 4, 3) := by decide +kernel
theorem dX12_fit_87 : decode cX12_fit 87 = .ok (.iload_n 3, 1) := by decide +kernel
theorem dX12_fit_88 : decode cX12_fit 88 = .ok (.istore_n 3, 1) := by decide +kernel
theorem dX12_fit_89 : decode cX12_fit 89 = .ok (.iload 6, 2) := by decide +kernel
theorem dX12_fit_91 : decode cX12_fit 91 = .ok (.iload 4, 2) := by decide +kernel
theorem dX12_fit_93 : decode cX12_fit 93 = .ok (.if_icmp .le 8, 3) := by decide +kernel
theorem dX12_fit_96 : decode cX12_fit 96 = .ok (.iload 6, 2) := by decide +kernel
theorem dX12_fit_98 : decode cX12_fit 98 = .ok (.goto 5, 3) := by decide +kernel
theorem dX12_fit_101 : decode cX12_fit 101 = .ok (.iload 4, 2) := by decide +kernel
theorem dX12_fit_103 : decode cX12_fit 103 = .ok (.istore 4, 2) := by decide +kernel
theorem dX12_fit_105 : decode cX12_fit 105 = .ok (.iinc 5 1, 3) := by decide +kernel
theorem dX12_fit_108 : decode cX12_fit 108 = .ok (.goto (-75), 3) := by decide +kernel
theorem dX12_fit_111 : decode cX12_fit 111 = .ok (.iload_n 2, 1) := by decide +kernel
theorem dX12_fit_112 : decode cX12_fit 112 = .ok (.ifCond .ne 10, 3) := by decide +kernel
theorem dX12_fit_115 : decode cX12_fit 115 = .ok (.iload_n 3, 1) := by decide +kernel
theorem dX12_fit_116 : decode cX12_fit 116 = .ok (.bipush 7, 2) := by decide +kernel
theorem dX12_fit_118 : decode cX12_fit 118 = .ok (.irem, 1) := by decide +kernel
theorem dX12_fit_119 : decode cX12_fit 119 = .ok (.goto 20, 3) := by decide +kernel
theorem dX12_fit_122 : decode cX12_fit 122 = .ok (.iload_n 2, 1) := by decide +kernel
theorem dX12_fit_123 : decode cX12_fit 123 = .ok (.iconst 1, 1) := by decide +kernel
theorem dX12_fit_124 : decode cX12_fit 124 = .ok (.if_icmp .ne 10, 3) := by decide +kernel
theorem dX12_fit_127 : decode cX12_fit 127 = .ok (.iload_n 3, 1) := by decide +kernel
theorem dX12_fit_128 : decode cX12_fit 128 = .ok (.bipush 7, 2) := by decide +kernel
theorem dX12_fit_130 : decode cX12_fit 130 = .ok (.idiv, 1) := by decide +kernel
theorem dX12_fit_131 : decode cX12_fit 131 = .ok (.goto 8, 3) := by decide +kernel
theorem dX12_fit_134 : decode cX12_fit 134 = .ok (.iload 4, 2) := by decide +kernel
theorem dX12_fit_136 : decode cX12_fit 136 = .ok (.bipush 16, 2) := by decide +kernel
theorem dX12_fit_138 : decode cX12_fit 138 = .ok (.iadd, 1) := by decide +kernel
theorem dX12_fit_139 : decode cX12_fit 139 = .ok (.ireturn, 1) := by decide +kernel
theorem dX12_printOn_0 : decode cX12_printOn 0 = .ok (.aload_n 0, 1) := by decide +kernel
theorem dX12_printOn_1 : decode cX12_printOn 1 = .ok (.iload_n 1, 1) := by decide +kernel
theorem dX12_printOn_2 : decode cX12_printOn 2 = .ok (.iconst 0, 1) := by decide +kernel
theorem dX12_printOn_3 : decode cX12_printOn 3 = .ok (.invokevirtual 75, 3) := by decide +kernel
theorem dX12_printOn_6 : decode cX12_printOn 6 = .ok (.istore_n 3, 1) := by decide +kernel
theorem dX12_printOn_7 : decode cX12_printOn 7 = .ok (.iload_n 2, 1) := by decide +kernel
theorem dX12_printOn_8 : decode cX12_printOn 8 = .ok (.aload_n 0, 1) := by decide +kernel
theorem dX12_printOn_9 : decode cX12_printOn 9 = .ok (.getfield 116, 3) := by decide +kernel
theorem dX12_printOn_12 : decode cX12_printOn 12 = .ok (.iconst (-1), 1) := by decide +kernel
theorem dX12_printOn_13 : decode cX12_printOn 13 = .ok (.ixor, 1) := by decide +kernel
theorem dX12_printOn_14 : decode cX12_printOn 14 = .ok (.iand, 1) := by decide +kernel
theorem dX12_printOn_15 : decode cX12_printOn 15 = .ok (.istore 4, 2) := by decide +kernel
theorem dX12_printOn_17 : decode cX12_printOn 17 = .ok (.iconst 0, 1) := by decide +kernel
theorem dX12_printOn_18 : decode cX12_printOn 18 = .ok (.istore 5, 2) := by decide +kernel
theorem dX12_printOn_20 : decode cX12_printOn 20 = .ok (.iload 5, 2) := by decide +kernel
theorem dX12_printOn_22 : decode cX12_printOn 22 = .ok (.bipush 16, 2) := by decide +kernel
theorem dX12_printOn_24 : decode cX12_printOn 24 = .ok (.if_icmp .ge 140, 3) := by decide +kernel
theorem dX12_printOn_27 : decode cX12_printOn 27 = .ok (.iload 4, 2) := by decide +kernel
theorem dX12_printOn_29 : decode cX12_printOn 29 = .ok (.iload 5, 2) := by decide +kernel
theorem dX12_printOn_31 : decode cX12_printOn 31 = .ok (.invokestatic 71, 3) := by decide +kernel
theorem dX12_printOn_34 : decode cX12_printOn 34 = .ok (.ifCond .eq 124, 3) := by decide +kernel
theorem dX12_printOn_37 : decode cX12_printOn 37 = .ok (.iload_n 3, 1) := by decide +kernel
theorem dX12_printOn_38 : decode cX12_printOn 38 = .ok (.ifCond .ne 27, 3) := by decide +kernel
theorem dX12_printOn_41 : decode cX12_printOn 41 = .ok (.aload_n 0, 1) := by decide +kernel
theorem dX12_printOn_42 : decode cX12_printOn 42 = .ok (.getfield 22, 3) := by decide +kernel
theorem dX12_printOn_45 : decode cX12_printOn 45 = .ok (.iload 5, 2) := by decide +kernel
theorem dX12_printOn_47 : decode cX12_printOn 47 = .ok (.aload_n 0, 1) := by decide +kernel
theorem dX12_printOn_48 : decode cX12_printOn 48 = .ok (.iload_n 1, 1) := by decide +kernel
theorem dX12_printOn_49 : decode cX12_printOn 49 = .ok (.iconst 1, 1) := by decide +kernel
theorem dX12_printOn_50 : decode cX12_printOn 50 = .ok (.invokevirtual 75, 3) := by decide +kernel
theorem dX12_printOn_53 : decode cX12_printOn 53 = .ok (.iastore, 1) := by decide +kernel
theorem dX12_printOn_54 : decode cX12_printOn 54 = .ok (.aload_n 0, 1) := by decide +kernel
theorem dX12_printOn_55 : decode cX12_printOn 55 = .ok (.getfield 25, 3) := by decide +kernel
theorem dX12_printOn_58 : decode cX12_printOn 58 = .ok (.iload 5, 2) := by decide +kernel
theorem dX12_printOn_60 : decode cX12_printOn 60 = .ok (.iconst 0, 1) := by decide +kernel
theorem dX12_printOn_61 : decode cX12_printOn 61 = .ok (.iastore, 1) := by decide +kernel
theorem dX12_printOn_62 : decode cX12_printOn 62 = .ok (.goto 96, 3) := by decide +kernel
theorem dX12_printOn_65 : decode cX12_printOn 65 = .ok (.iload_n 3, 1) := by decide +kernel
theorem dX12_printOn_66 : decode cX12_printOn 66 = .ok (.iconst 1, 1) := by decide +kernel
theorem dX12_printOn_67 : decode cX12_printOn 67 = .ok (.if_icmp .ne 43, 3) := by decide +kernel
theorem dX12_printOn_70 : decode cX12_printOn 70 = .ok (.aload_n 0, 1) := by decide +kernel
theorem dX12_printOn_71 : decode cX12_printOn 71 = .ok (.getfield 22, 3) := by decide +kernel
theorem dX12_printOn_74 : decode cX12_printOn 74 = .ok (.iload 5, 2) := by decide +kernel
theorem dX12_printOn_76 : decode cX12_printOn 76 = .ok (.iaload, 1) := by decide +kernel
theorem dX12_printOn_77 : decode cX12_printOn 77 = .ok (.aload_n 0, 1) := by decide +kernel
theorem dX12_printOn_78 : decode cX12_printOn 78 = .ok (.iload_n 1, 1) := by decide +kernel
theorem dX12_printOn_79 : decode cX12_printOn 79 = .ok (.iconst 1, 1) := by decide +kernel
theorem dX12_printOn_80 : decode cX12_printOn 80 = .ok (.invokevirtual 75, 3) := by decide +kernel
theorem dX12_printOn_83 : decode cX12_printOn 83 = .ok (.iadd, 1) := by decide +kernel
theorem dX12_printOn_84 : decode cX12_printOn 84 = .ok (.bipush 8, 2) := by decide +kernel
theorem dX12_printOn_86 : decode cX12_printOn 86 = .ok (.irem, 1) := by decide +kernel
theorem dX12_printOn_87 : decode cX12_printOn 87 = .ok (.istore 6, 2) := by decide +kernel
theorem dX12_printOn_89 : decode cX12_printOn 89 = .ok (.aload_n 0, 1) := by decide +kernel
theorem dX12_printOn_90 : decode cX12_printOn 90 = .ok (.getfield 22, 3) := by decide +kernel
theorem dX12_printOn_93 : decode cX12_printOn 93 = .ok (.iload 5, 2) := by decide +kernel
theorem dX12_printOn_95 : decode cX12_printOn 95 = .ok (.iload 6, 2) := by decide +kernel
theorem dX12_printOn_97 : decode cX12_printOn 97 = .ok (.ifCond .ne 7, 3) := by decide +kernel
theorem dX12_printOn_100 : decode cX12_printOn 100 = .ok (.iconst 1, 1) := by decide +kernel
theorem dX12_printOn_101 : decode cX12_printOn 101 = .ok (.goto 5, 3) := by decide +kernel
theorem dX12_printOn_104 : decode cX12_printOn 104 = .ok (.iload 6, 2) := by decide +kernel
theorem dX12_printOn_106 : decode cX12_printOn 106 = .ok (.iastore, 1) := by decide +kernel
theorem dX12_printOn_107 : decode cX12_printOn 107 = .ok (.goto 51, 3) := by decide +kernel
theorem dX12_printOn_110 : decode cX12_printOn 110 = .ok (.iload_n 3, 1) := by decide +kernel
theorem dX12_printOn_111 : decode cX12_printOn 111 = .ok (.iconst 2, 1) := by decide +kernel
theorem dX12_printOn_112 : decode cX12_printOn 112 = .ok (.if_icmp .ne 33, 3) := by decide +kernel
theorem dX12_printOn_115 : decode cX12_printOn 115 = .ok (.aload_n 0, 1) := by decide +kernel
theorem dX12_printOn_116 : decode cX12_printOn 116 = .ok (.getfield 25, 3) := by decide +kernel
theorem dX12_printOn_119 : decode cX12_printOn 119 = .ok (.iload 5, 2) := by decide +kernel
theorem dX12_printOn_121 : decode cX12_printOn 121 = .ok (.dup2, 1) := by decide +kernel
theorem dX12_printOn_122 : decode cX12_printOn 122 = .ok (.iaload, 1) := by decide +kernel
theorem dX12_printOn_123 : decode cX12_printOn 123 = .ok (.aload_n 0, 1) := by decide +kernel
theorem dX12_printOn_124 : decode cX12_printOn 124 = .ok (.getfield 25, 3) := by decide +kernel
theorem dX12_printOn_127 : decode cX12_printOn 127 = .ok (.iload 5, 2) := by decide +kernel
theorem dX12_printOn_129 : decode cX12_printOn 129 = .ok (.iaload, 1) := by decide +kernel
theorem dX12_printOn_130 : decode cX12_printOn 130 = .ok (.bipush 9, 2) := by decide +kernel
theorem dX12_printOn_132 : decode cX12_printOn 132 = .ok (.if_icmp .ge 7, 3) := by decide +kernel
theorem dX12_printOn_135 : decode cX12_printOn 135 = .ok (.iconst 1, 1) := by decide +kernel
theorem dX12_printOn_136 : decode cX12_printOn 136 = .ok (.goto 4, 3) := by decide +kernel
theorem dX12_printOn_139 : decode cX12_printOn 139 = .ok (.iconst 0, 1) := by decide +kernel
theorem dX12_printOn_140 : decode cX12_printOn 140 = .ok (.iadd, 1) := by decide +kernel
theorem dX12_printOn_141 : decode cX12_printOn 141 = .ok (.iastore, 1) := by decide +kernel
theorem dX12_printOn_142 : decode cX12_printOn 142 = .ok (.goto 16, 3) := by decide +kernel
theorem dX12_printOn_145 : decode cX12_printOn 145 = .ok (.aload_n 0, 1) := by decide +kernel
theorem dX12_printOn_146 : decode cX12_printOn 146 = .ok (.dup, 1) := by decide +kernel
theorem dX12_printOn_147 : decode cX12_printOn 147 = .ok (.getfield 116, 3) := by decide +kernel
theorem dX12_printOn_150 : decode cX12_printOn 150 = .ok (.iconst 1, 1) := by decide +kernel
theorem dX12_printOn_151 : decode cX12_printOn 151 = .ok (.iload 5, 2) := by decide +kernel
theorem dX12_printOn_153 : decode cX12_printOn 153 = .ok (.ishl, 1) := by decide +kernel
theorem dX12_printOn_154 : decode cX12_printOn 154 = .ok (.ior, 1) := by decide +kernel
theorem dX12_printOn_155 : decode cX12_printOn 155 = .ok (.putfield 116, 3) := by decide +kernel
theorem dX12_printOn_158 : decode cX12_printOn 158 = .ok (.iinc 5 1, 3) := by decide +kernel
theorem dX12_printOn_161 : decode cX12_printOn 161 = .ok (.goto (-141), 3) := by decide +kernel
theorem dX12_printOn_164 : decode cX12_printOn 164 = .ok (.return_, 1) := by decide +kernel
theorem dX12_clearSheet_0 : decode cX12_clearSheet 0 = .ok (.iconst 0, 1) := by decide +kernel
theorem dX12_clearSheet_1 : decode cX12_clearSheet 1 = .ok (.istore_n 1, 1) := by decide +kernel
theorem dX12_clearSheet_2 : decode cX12_clearSheet 2 = .ok (.iload_n 1, 1) := by decide +kernel
theorem dX12_clearSheet_3 : decode cX12_clearSheet 3 = .ok (.bipush 16, 2) := by decide +kernel
theorem dX12_clearSheet_5 : decode cX12_clearSheet 5 = .ok (.if_icmp .ge 23, 3) := by decide +kernel
theorem dX12_clearSheet_8 : decode cX12_clearSheet 8 = .ok (.aload_n 0, 1) := by decide +kernel
theorem dX12_clearSheet_9 : decode cX12_clearSheet 9 = .ok (.getfield 22, 3) := by decide +kernel
theorem dX12_clearSheet_12 : decode cX12_clearSheet 12 = .ok (.iload_n 1, 1) := by decide +kernel
theorem dX12_clearSheet_13 : decode cX12_clearSheet 13 = .ok (.iconst 0, 1) := by decide +kernel
theorem dX12_clearSheet_14 : decode cX12_clearSheet 14 = .ok (.iastore, 1) := by decide +kernel
theorem dX12_clearSheet_15 : decode cX12_clearSheet 15 = .ok (.aload_n 0, 1) := by decide +kernel
theorem dX12_clearSheet_16 : decode cX12_clearSheet 16 = .ok (.getfield 25, 3) := by decide +kernel
theorem dX12_clearSheet_19 : decode cX12_clearSheet 19 = .ok (.iload_n 1, 1) := by decide +kernel
theorem dX12_clearSheet_20 : decode cX12_clearSheet 20 = .ok (.iconst 0, 1) := by decide +kernel
theorem dX12_clearSheet_21 : decode cX12_clearSheet 21 = .ok (.iastore, 1) := by decide +kernel
theorem dX12_clearSheet_22 : decode cX12_clearSheet 22 = .ok (.iinc 1 1, 3) := by decide +kernel
theorem dX12_clearSheet_25 : decode cX12_clearSheet 25 = .ok (.goto (-23), 3) := by decide +kernel
theorem dX12_clearSheet_28 : decode cX12_clearSheet 28 = .ok (.aload_n 0, 1) := by decide +kernel
theorem dX12_clearSheet_29 : decode cX12_clearSheet 29 = .ok (.iconst 0, 1) := by decide +kernel
theorem dX12_clearSheet_30 : decode cX12_clearSheet 30 = .ok (.putfield 116, 3) := by decide +kernel
theorem dX12_clearSheet_33 : decode cX12_clearSheet 33 = .ok (.return_, 1) := by decide +kernel
theorem dX12_hits_0 : decode cX12_hits 0 = .ok (.iconst 0, 1) := by decide +kernel
theorem dX12_hits_1 : decode cX12_hits 1 = .ok (.istore_n 1, 1) := by decide +kernel
theorem dX12_hits_2 : decode cX12_hits 2 = .ok (.iconst 0, 1) := by decide +kernel
theorem dX12_hits_3 : decode cX12_hits 3 = .ok (.istore_n 2, 1) := by decide +kernel
theorem dX12_hits_4 : decode cX12_hits 4 = .ok (.iload_n 2, 1) := by decide +kernel
theorem dX12_hits_5 : decode cX12_hits 5 = .ok (.bipush 16, 2) := by decide +kernel
theorem dX12_hits_7 : decode cX12_hits 7 = .ok (.if_icmp .ge 35, 3) := by decide +kernel
theorem dX12_hits_10 : decode cX12_hits 10 = .ok (.iload_n 1, 1) := by decide +kernel
theorem dX12_hits_11 : decode cX12_hits 11 = .ok (.aload_n 0, 1) := by decide +kernel
theorem dX12_hits_12 : decode cX12_hits 12 = .ok (.getfield 22, 3) := by decide +kernel
theorem dX12_hits_15 : decode cX12_hits 15 = .ok (.iload_n 2, 1) := by decide +kernel
theorem dX12_hits_16 : decode cX12_hits 16 = .ok (.iaload, 1) := by decide +kernel
theorem dX12_hits_17 : decode cX12_hits 17 = .ok (.aload_n 0, 1) := by decide +kernel
theorem dX12_hits_18 : decode cX12_hits 18 = .ok (.getfield 7, 3) := by decide +kernel
theorem dX12_hits_21 : decode cX12_hits 21 = .ok (.bipush 43, 2) := by decide +kernel
theorem dX12_hits_23 : decode cX12_hits 23 = .ok (.iload_n 2, 1) := by decide +kernel
theorem dX12_hits_24 : decode cX12_hits 24 = .ok (.iadd, 1) := by decide +kernel
theorem dX12_hits_25 : decode cX12_hits 25 = .ok (.iaload, 1) := by decide +kernel
theorem dX12_hits_26 : decode cX12_hits 26 = .ok (.if_icmp .ne 7, 3) := by decide +kernel
theorem dX12_hits_29 : decode cX12_hits 29 = .ok (.iconst 1, 1) := by decide +kernel
theorem dX12_hits_30 : decode cX12_hits 30 = .ok (.goto 4, 3) := by decide +kernel
theorem dX12_hits_33 : decode cX12_hits 33 = .ok (.iconst 0, 1) := by decide +kernel
theorem dX12_hits_34 : decode cX12_hits 34 = .ok (.iadd, 1) := by decide +kernel
theorem dX12_hits_35 : decode cX12_hits 35 = .ok (.istore_n 1, 1) := by decide +kernel
theorem dX12_hits_36 : decode cX12_hits 36 = .ok (.iinc 2 1, 3) := by decide +kernel
theorem dX12_hits_39 : decode cX12_hits 39 = .ok (.goto (-35), 3) := by decide +kernel
theorem dX12_hits_42 : decode cX12_hits 42 = .ok (.iload_n 1, 1) := by decide +kernel
theorem dX12_hits_43 : decode cX12_hits 43 = .ok (.ireturn, 1) := by decide +kernel
theorem dX12_begin_0 : decode cX12_begin 0 = .ok (.iconst 0, 1) := by decide +kernel
theorem dX12_begin_1 : decode cX12_begin 1 = .ok (.istore_n 1, 1) := by decide +kernel
theorem dX12_begin_2 : decode cX12_begin 2 = .ok (.iload_n 1, 1) := by decide +kernel
theorem dX12_begin_3 : decode cX12_begin 3 = .ok (.bipush 6, 2) := by decide +kernel
theorem dX12_begin_5 : decode cX12_begin 5 = .ok (.if_icmp .ge 41, 3) := by decide +kernel
theorem dX12_begin_8 : decode cX12_begin 8 = .ok (.aload_n 0, 1) := by decide +kernel
theorem dX12_begin_9 : decode cX12_begin 9 = .ok (.getfield 28, 3) := by decide +kernel
theorem dX12_begin_12 : decode cX12_begin 12 = .ok (.iload_n 1, 1) := by decide +kernel
theorem dX12_begin_13 : decode cX12_begin 13 = .ok (.iload_n 1, 1) := by decide +kernel
theorem dX12_begin_14 : decode cX12_begin 14 = .ok (.iastore, 1) := by decide +kernel
theorem dX12_begin_15 : decode cX12_begin 15 = .ok (.aload_n 0, 1) := by decide +kernel
theorem dX12_begin_16 : decode cX12_begin 16 = .ok (.getfield 34, 3) := by decide +kernel
theorem dX12_begin_19 : decode cX12_begin 19 = .ok (.iload_n 1, 1) := by decide +kernel
theorem dX12_begin_20 : decode cX12_begin 20 = .ok (.iload_n 1, 1) := by decide +kernel
theorem dX12_begin_21 : decode cX12_begin 21 = .ok (.aload_n 0, 1) := by decide +kernel
theorem dX12_begin_22 : decode cX12_begin 22 = .ok (.getfield 7, 3) := by decide +kernel
theorem dX12_begin_25 : decode cX12_begin 25 = .ok (.iconst 0, 1) := by decide +kernel
theorem dX12_begin_26 : decode cX12_begin 26 = .ok (.iaload, 1) := by decide +kernel
theorem dX12_begin_27 : decode cX12_begin 27 = .ok (.if_icmp .ge 11, 3) := by decide +kernel
theorem dX12_begin_30 : decode cX12_begin 30 = .ok (.aload_n 0, 1) := by decide +kernel
theorem dX12_begin_31 : decode cX12_begin 31 = .ok (.iload_n 1, 1) := by decide +kernel
theorem dX12_begin_32 : decode cX12_begin 32 = .ok (.invokevirtual 88, 3) := by decide +kernel
theorem dX12_begin_35 : decode cX12_begin 35 = .ok (.goto 4, 3) := by decide +kernel
theorem dX12_begin_38 : decode cX12_begin 38 = .ok (.iconst 0, 1) := by decide +kernel
theorem dX12_begin_39 : decode cX12_begin 39 = .ok (.iastore, 1) := by decide +kernel
theorem dX12_begin_40 : decode cX12_begin 40 = .ok (.iinc 1 1, 3) := by decide +kernel
theorem dX12_begin_43 : decode cX12_begin 43 = .ok (.goto (-41), 3) := by decide +kernel
theorem dX12_begin_46 : decode cX12_begin 46 = .ok (.return_, 1) := by decide +kernel
theorem dX12_goesOn_0 : decode cX12_goesOn 0 = .ok (.aload_n 0, 1) := by decide +kernel
theorem dX12_goesOn_1 : decode cX12_goesOn 1 = .ok (.getfield 7, 3) := by decide +kernel
theorem dX12_goesOn_4 : decode cX12_goesOn 4 = .ok (.iconst 0, 1) := by decide +kernel
theorem dX12_goesOn_5 : decode cX12_goesOn 5 = .ok (.iaload, 1) := by decide +kernel
theorem dX12_goesOn_6 : decode cX12_goesOn 6 = .ok (.iconst 2, 1) := by decide +kernel
theorem dX12_goesOn_7 : decode cX12_goesOn 7 = .ok (.isub, 1) := by decide +kernel
theorem dX12_goesOn_8 : decode cX12_goesOn 8 = .ok (.istore_n 1, 1) := by decide +kernel
theorem dX12_goesOn_9 : decode cX12_goesOn 9 = .ok (.iload_n 1, 1) := by decide +kernel
theorem dX12_goesOn_10 : decode cX12_goesOn 10 = .ok (.ifCond .lt 26, 3) := by decide +kernel
theorem dX12_goesOn_13 : decode cX12_goesOn 13 = .ok (.aload_n 0, 1) := by decide +kernel
theorem dX12_goesOn_14 : decode cX12_goesOn 14 = .ok (.getfield 28, 3) := by decide +kernel
theorem dX12_goesOn_17 : decode cX12_goesOn 17 = .ok (.iload_n 1, 1) := by decide +kernel
theorem dX12_goesOn_18 : decode cX12_goesOn 18 = .ok (.iaload, 1) := by decide +kernel
theorem dX12_goesOn_19 : decode cX12_goesOn 19 = .ok (.aload_n 0, 1) := by decide +kernel
theorem dX12_goesOn_20 : decode cX12_goesOn 20 = .ok (.getfield 28, 3) := by decide +kernel
theorem dX12_goesOn_23 : decode cX12_goesOn 23 = .ok (.iload_n 1, 1) := by decide +kernel
theorem dX12_goesOn_24 : decode cX12_goesOn 24 = .ok (.iconst 1, 1) := by decide +kernel
theorem dX12_goesOn_25 : decode cX12_goesOn 25 = .ok (.iadd, 1) := by decide +kernel
theorem dX12_goesOn_26 : decode cX12_goesOn 26 = .ok (.iaload, 1) := by decide +kernel
theorem dX12_goesOn_27 : decode cX12_goesOn 27 = .ok (.if_icmp .le 9, 3) := by decide +kernel
theorem dX12_goesOn_30 : decode cX12_goesOn 30 = .ok (.iinc 1 (-1), 3) := by decide +kernel
theorem dX12_goesOn_33 : decode cX12_goesOn 33 = .ok (.goto (-24), 3) := by decide +kernel
theorem dX12_goesOn_36 : decode cX12_goesOn 36 = .ok (.iload_n 1, 1) := by decide +kernel
theorem dX12_goesOn_37 : decode cX12_goesOn 37 = .ok (.ifCond .ge 5, 3) := by decide +kernel
theorem dX12_goesOn_40 : decode cX12_goesOn 40 = .ok (.iconst 0, 1) := by decide +kernel
theorem dX12_goesOn_41 : decode cX12_goesOn 41 = .ok (.ireturn, 1) := by decide +kernel
theorem dX12_goesOn_42 : decode cX12_goesOn 42 = .ok (.aload_n 0, 1) := by decide +kernel
theorem dX12_goesOn_43 : decode cX12_goesOn 43 = .ok (.getfield 7, 3) := by decide +kernel
theorem dX12_goesOn_46 : decode cX12_goesOn 46 = .ok (.iconst 0, 1) := by decide +kernel
theorem dX12_goesOn_47 : decode cX12_goesOn 47 = .ok (.iaload, 1) := by decide +kernel
theorem dX12_goesOn_48 : decode cX12_goesOn 48 = .ok (.iconst 1, 1) := by decide +kernel
theorem dX12_goesOn_49 : decode cX12_goesOn 49 = .ok (.isub, 1) := by decide +kernel
theorem dX12_goesOn_50 : decode cX12_goesOn 50 = .ok (.istore_n 2, 1) := by decide +kernel
theorem dX12_goesOn_51 : decode cX12_goesOn 51 = .ok (.aload_n 0, 1) := by decide +kernel
theorem dX12_goesOn_52 : decode cX12_goesOn 52 = .ok (.getfield 28, 3) := by decide +kernel
theorem dX12_goesOn_55 : decode cX12_goesOn 55 = .ok (.iload_n 2, 1) := by decide +kernel
theorem dX12_goesOn_56 : decode cX12_goesOn 56 = .ok (.iaload, 1) := by decide +kernel
theorem dX12_goesOn_57 : decode cX12_goesOn 57 = .ok (.aload_n 0, 1) := by decide +kernel
theorem dX12_goesOn_58 : decode cX12_goesOn 58 = .ok (.getfield 28, 3) := by decide +kernel
theorem dX12_goesOn_61 : decode cX12_goesOn 61 = .ok (.iload_n 1, 1) := by decide +kernel
theorem dX12_goesOn_62 : decode cX12_goesOn 62 = .ok (.iaload, 1) := by decide +kernel
theorem dX12_goesOn_63 : decode cX12_goesOn 63 = .ok (.if_icmp .ge 9, 3) := by decide +kernel
theorem dX12_goesOn_66 : decode cX12_goesOn 66 = .ok (.iinc 2 (-1), 3) := by decide +kernel
theorem dX12_goesOn_69 : decode cX12_goesOn 69 = .ok (.goto (-18), 3) := by decide +kernel
theorem dX12_goesOn_72 : decode cX12_goesOn 72 = .ok (.aload_n 0, 1) := by decide +kernel
theorem dX12_goesOn_73 : decode cX12_goesOn 73 = .ok (.iload_n 1, 1) := by decide +kernel
theorem dX12_goesOn_74 : decode cX12_goesOn 74 = .ok (.iload_n 2, 1) := by decide +kernel
theorem dX12_goesOn_75 : decode cX12_goesOn 75 = .ok (.invokevirtual 119, 3) := by decide +kernel
theorem dX12_goesOn_78 : decode cX12_goesOn 78 = .ok (.aload_n 0, 1) := by decide +kernel
theorem dX12_goesOn_79 : decode cX12_goesOn 79 = .ok (.getfield 7, 3) := by decide +kernel
theorem dX12_goesOn_82 : decode cX12_goesOn 82 = .ok (.iconst 0, 1) := by decide +kernel
theorem dX12_goesOn_83 : decode cX12_goesOn 83 = .ok (.iaload, 1) := by decide +kernel
theorem dX12_goesOn_84 : decode cX12_goesOn 84 = .ok (.iconst 1, 1) := by decide +kernel
theorem dX12_goesOn_85 : decode cX12_goesOn 85 = .ok (.isub, 1) := by decide +kernel
theorem dX12_goesOn_86 : decode cX12_goesOn 86 = .ok (.istore_n 3, 1) := by decide +kernel
theorem dX12_goesOn_87 : decode cX12_goesOn 87 = .ok (.iload_n 1, 1) := by decide +kernel
theorem dX12_goesOn_88 : decode cX12_goesOn 88 = .ok (.iconst 1, 1) := by decide +kernel
theorem dX12_goesOn_89 : decode cX12_goesOn 89 = .ok (.iadd, 1) := by decide +kernel
theorem dX12_goesOn_90 : decode cX12_goesOn 90 = .ok (.istore 4, 2) := by decide +kernel
theorem dX12_goesOn_92 : decode cX12_goesOn 92 = .ok (.iload 4, 2) := by decide +kernel
theorem dX12_goesOn_94 : decode cX12_goesOn 94 = .ok (.iload_n 3, 1) := by decide +kernel
theorem dX12_goesOn_95 : decode cX12_goesOn 95 = .ok (.if_icmp .ge 19, 3) := by decide +kernel
theorem dX12_goesOn_98 : decode cX12_goesOn 98 = .ok (.aload_n 0, 1) := by decide +kernel
theorem dX12_goesOn_99 : decode cX12_goesOn 99 = .ok (.iload 4, 2) := by decide +kernel
theorem dX12_goesOn_101 : decode cX12_goesOn 101 = .ok (.iload_n 3, 1) := by decide +kernel
theorem dX12_goesOn_102 : decode cX12_goesOn 102 = .ok (.invokevirtual 119, 3) := by decide +kernel
theorem dX12_goesOn_105 : decode cX12_goesOn 105 = .ok (.iinc 3 (-1), 3) := by decide +kernel
theorem dX12_goesOn_108 : decode cX12_goesOn 108 = .ok (.iinc 4 1, 3) := by decide +kernel
theorem dX12_goesOn_111 : decode cX12_goesOn 111 = .ok (.goto (-19), 3) := by decide +kernel
theorem dX12_goesOn_114 : decode cX12_goesOn 114 = .ok (.iconst 1, 1) := by decide +kernel
theorem dX12_goesOn_115 : decode cX12_goesOn 115 = .ok (.ireturn, 1) := by decide +kernel
theorem dX12_exchange_0 : decode cX12_exchange 0 = .ok (.aload_n 0, 1) := by decide +kernel
theorem dX12_exchange_1 : decode cX12_exchange 1 = .ok (.getfield 28, 3) := by decide +kernel
theorem dX12_exchange_4 : decode cX12_exchange 4 = .ok (.iload_n 1, 1) := by decide +kernel
theorem dX12_exchange_5 : decode cX12_exchange 5 = .ok (.iaload, 1) := by decide +kernel
theorem dX12_exchange_6 : decode cX12_exchange 6 = .ok (.istore_n 3, 1) := by decide +kernel
theorem dX12_exchange_7 : decode cX12_exchange 7 = .ok (.aload_n 0, 1) := by decide +kernel
theorem dX12_exchange_8 : decode cX12_exchange 8 = .ok (.getfield 28, 3) := by decide +kernel
theorem dX12_exchange_11 : decode cX12_exchange 11 = .ok (.iload_n 1, 1) := by decide +kernel
theorem dX12_exchange_12 : decode cX12_exchange 12 = .ok (.aload_n 0, 1) := by decide +kernel
theorem dX12_exchange_13 : decode cX12_exchange 13 = .ok (.getfield 28, 3) := by decide +kernel
theorem dX12_exchange_16 : decode cX12_exchange 16 = .ok (.iload_n 2, 1) := by decide +kernel
theorem dX12_exchange_17 : decode cX12_exchange 17 = .ok (.iaload, 1) := by decide +kernel
theorem dX12_exchange_18 : decode cX12_exchange 18 = .ok (.iastore, 1) := by decide +kernel
theorem dX12_exchange_19 : decode cX12_exchange 19 = .ok (.aload_n 0, 1) := by decide +kernel
theorem dX12_exchange_20 : decode cX12_exchange 20 = .ok (.getfield 28, 3) := by decide +kernel
theorem dX12_exchange_23 : decode cX12_exchange 23 = .ok (.iload_n 2, 1) := by decide +kernel
theorem dX12_exchange_24 : decode cX12_exchange 24 = .ok (.iload_n 3, 1) := by decide +kernel
theorem dX12_exchange_25 : decode cX12_exchange 25 = .ok (.iastore, 1) := by decide +kernel
theorem dX12_exchange_26 : decode cX12_exchange 26 = .ok (.return_, 1) := by decide +kernel
theorem dX12_isLawful_0 : decode cX12_isLawful 0 = .ok (.iconst 0, 1) := by decide +kernel
theorem dX12_isLawful_1 : decode cX12_isLawful 1 = .ok (.istore_n 1, 1) := by decide +kernel
theorem dX12_isLawful_2 : decode cX12_isLawful 2 = .ok (.iconst 1, 1) := by decide +kernel
theorem dX12_isLawful_3 : decode cX12_isLawful 3 = .ok (.istore_n 2, 1) := by decide +kernel
theorem dX12_isLawful_4 : decode cX12_isLawful 4 = .ok (.iconst 0, 1) := by decide +kernel
theorem dX12_isLawful_5 : decode cX12_isLawful 5 = .ok (.istore_n 3, 1) := by decide +kernel
theorem dX12_isLawful_6 : decode cX12_isLawful 6 = .ok (.iload_n 3, 1) := by decide +kernel
theorem dX12_isLawful_7 : decode cX12_isLawful 7 = .ok (.aload_n 0, 1) := by decide +kernel
theorem dX12_isLawful_8 : decode cX12_isLawful 8 = .ok (.getfield 7, 3) := by decide +kernel
theorem dX12_isLawful_11 : decode cX12_isLawful 11 = .ok (.iconst 0, 1) := by decide +kernel
theorem dX12_isLawful_12 : decode cX12_isLawful 12 = .ok (.iaload, 1) := by decide +kernel
theorem dX12_isLawful_13 : decode cX12_isLawful 13 = .ok (.if_icmp .ge 49, 3) := by decide +kernel
theorem dX12_isLawful_16 : decode cX12_isLawful 16 = .ok (.iload_n 2, 1) := by decide +kernel
theorem dX12_isLawful_17 : decode cX12_isLawful 17 = .ok (.ifCond .eq 26, 3) := by decide +kernel
theorem dX12_isLawful_20 : decode cX12_isLawful 20 = .ok (.aload_n 0, 1) := by decide +kernel
theorem dX12_isLawful_21 : decode cX12_isLawful 21 = .ok (.aload_n 0, 1) := by decide +kernel
theorem dX12_isLawful_22 : decode cX12_isLawful 22 = .ok (.getfield 28, 3) := by decide +kernel
theorem dX12_isLawful_25 : decode cX12_isLawful 25 = .ok (.iload_n 3, 1) := by decide +kernel
theorem dX12_isLawful_26 : decode cX12_isLawful 26 = .ok (.iaload, 1) := by decide +kernel
theorem dX12_isLawful_27 : decode cX12_isLawful 27 = .ok (.bipush 6, 2) := by decide +kernel
theorem dX12_isLawful_29 : decode cX12_isLawful 29 = .ok (.invokevirtual 75, 3) := by decide +kernel
theorem dX12_isLawful_32 : decode cX12_isLawful 32 = .ok (.iload_n 1, 1) := by decide +kernel
theorem dX12_isLawful_33 : decode cX12_isLawful 33 = .ok (.iconst (-1), 1) := by decide +kernel
theorem dX12_isLawful_34 : decode cX12_isLawful 34 = .ok (.ixor, 1) := by decide +kernel
theorem dX12_isLawful_35 : decode cX12_isLawful 35 = .ok (.iand, 1) := by decide +kernel
theorem dX12_isLawful_36 : decode cX12_isLawful 36 = .ok (.ifCond .ne 7, 3) := by decide +kernel
theorem dX12_isLawful_39 : decode cX12_isLawful 39 = .ok (.iconst 1, 1) := by decide +kernel
theorem dX12_isLawful_40 : decode cX12_isLawful 40 = .ok (.goto 4, 3) := by decide +kernel
theorem dX12_isLawful_43 : decode cX12_isLawful 43 = .ok (.iconst 0, 1) := by decide +kernel
theorem dX12_isLawful_44 : decode cX12_isLawful 44 = .ok (.istore_n 2, 1) := by decide +kernel
theorem dX12_isLawful_45 : decode cX12_isLawful 45 = .ok (.iload_n 1, 1) := by decide +kernel
theorem dX12_isLawful_46 : decode cX12_isLawful 46 = .ok (.iconst 1, 1) := by decide +kernel
theorem dX12_isLawful_47 : decode cX12_isLawful 47 = .ok (.aload_n 0, 1) := by decide +kernel
theorem dX12_isLawful_48 : decode cX12_isLawful 48 = .ok (.getfield 28, 3) := by decide +kernel
theorem dX12_isLawful_51 : decode cX12_isLawful 51 = .ok (.iload_n 3, 1) := by decide +kernel
theorem dX12_isLawful_52 : decode cX12_isLawful 52 = .ok (.iaload, 1) := by decide +kernel
theorem dX12_isLawful_53 : decode cX12_isLawful 53 = .ok (.ishl, 1) := by decide +kernel
theorem dX12_isLawful_54 : decode cX12_isLawful 54 = .ok (.ior, 1) := by decide +kernel
theorem dX12_isLawful_55 : decode cX12_isLawful 55 = .ok (.istore_n 1, 1) := by decide +kernel
theorem dX12_isLawful_56 : decode cX12_isLawful 56 = .ok (.iinc 3 1, 3) := by decide +kernel
theorem dX12_isLawful_59 : decode cX12_isLawful 59 = .ok (.goto (-53), 3) := by decide +kernel
theorem dX12_isLawful_62 : decode cX12_isLawful 62 = .ok (.iload_n 2, 1) := by decide +kernel
theorem dX12_isLawful_63 : decode cX12_isLawful 63 = .ok (.ireturn, 1) := by decide +kernel
theorem dX12_smearBy_0 : decode cX12_smearBy 0 = .ok (.iconst 0, 1) := by decide +kernel
theorem dX12_smearBy_1 : decode cX12_smearBy 1 = .ok (.istore_n 2, 1) := by decide +kernel
theorem dX12_smearBy_2 : decode cX12_smearBy 2 = .ok (.iconst 0, 1) := by decide +kernel
theorem dX12_smearBy_3 : decode cX12_smearBy 3 = .ok (.istore_n 3, 1) := by decide +kernel
theorem dX12_smearBy_4 : decode cX12_smearBy 4 = .ok (.iload_n 3, 1) := by decide +kernel
theorem dX12_smearBy_5 : decode cX12_smearBy 5 = .ok (.aload_n 0, 1) := by decide +kernel
theorem dX12_smearBy_6 : decode cX12_smearBy 6 = .ok (.getfield 7, 3) := by decide +kernel
theorem dX12_smearBy_9 : decode cX12_smearBy 9 = .ok (.iconst 0, 1) := by decide +kernel
theorem dX12_smearBy_10 : decode cX12_smearBy 10 = .ok (.iaload, 1) := by decide +kernel
theorem dX12_smearBy_11 : decode cX12_smearBy 11 = .ok (.if_icmp .ge 87, 3) := by decide +kernel
theorem dX12_smearBy_14 : decode cX12_smearBy 14 = .ok (.iconst 0, 1) := by decide +kernel
theorem dX12_smearBy_15 : decode cX12_smearBy 15 = .ok (.istore 4, 2) := by decide +kernel
theorem dX12_smearBy_17 : decode cX12_smearBy 17 = .ok (.iload 4, 2) := by decide +kernel
theorem dX12_smearBy_19 : decode cX12_smearBy 19 = .ok (.iload_n 3, 1) := by decide +kernel
theorem dX12_smearBy_20 : decode cX12_smearBy 20 = .ok (.if_icmp .ge 72, 3) := by decide +kernel
theorem dX12_smearBy_23 : decode cX12_smearBy 23 = .ok (.aload_n 0, 1) := by decide +kernel
theorem dX12_smearBy_24 : decode cX12_smearBy 24 = .ok (.aload_n 0, 1) := by decide +kernel
theorem dX12_smearBy_25 : decode cX12_smearBy 25 = .ok (.getfield 28, 3) := by decide +kernel
theorem dX12_smearBy_28 : decode cX12_smearBy 28 = .ok (.iload 4, 2) := by decide +kernel
theorem dX12_smearBy_30 : decode cX12_smearBy 30 = .ok (.iaload, 1) := by decide +kernel
theorem dX12_smearBy_31 : decode cX12_smearBy 31 = .ok (.iconst 2, 1) := by decide +kernel
theorem dX12_smearBy_32 : decode cX12_smearBy 32 = .ok (.invokevirtual 75, 3) := by decide +kernel
theorem dX12_smearBy_35 : decode cX12_smearBy 35 = .ok (.iload_n 1, 1) := by decide +kernel
theorem dX12_smearBy_36 : decode cX12_smearBy 36 = .ok (.iload_n 3, 1) := by decide +kernel
theorem dX12_smearBy_37 : decode cX12_smearBy 37 = .ok (.iload 4, 2) := by decide +kernel
theorem dX12_smearBy_39 : decode cX12_smearBy 39 = .ok (.isub, 1) := by decide +kernel
theorem dX12_smearBy_40 : decode cX12_smearBy 40 = .ok (.imul, 1) := by decide +kernel
theorem dX12_smearBy_41 : decode cX12_smearBy 41 = .ok (.isub, 1) := by decide +kernel
theorem dX12_smearBy_42 : decode cX12_smearBy 42 = .ok (.istore 5, 2) := by decide +kernel
theorem dX12_smearBy_44 : decode cX12_smearBy 44 = .ok (.iload_n 2, 1) := by decide +kernel
theorem dX12_smearBy_45 : decode cX12_smearBy 45 = .ok (.iload 5, 2) := by decide +kernel
theorem dX12_smearBy_47 : decode cX12_smearBy 47 = .ok (.ifCond .le 36, 3) := by decide +kernel
theorem dX12_smearBy_50 : decode cX12_smearBy 50 = .ok (.iload 5, 2) := by decide +kernel
theorem dX12_smearBy_52 : decode cX12_smearBy 52 = .ok (.aload_n 0, 1) := by decide +kernel
theorem dX12_smearBy_53 : decode cX12_smearBy 53 = .ok (.getfield 34, 3) := by decide +kernel
theorem dX12_smearBy_56 : decode cX12_smearBy 56 = .ok (.aload_n 0, 1) := by decide +kernel
theorem dX12_smearBy_57 : decode cX12_smearBy 57 = .ok (.getfield 28, 3) := by decide +kernel
theorem dX12_smearBy_60 : decode cX12_smearBy 60 = .ok (.iload_n 3, 1) := by decide +kernel
theorem dX12_smearBy_61 : decode cX12_smearBy 61 = .ok (.iaload, 1) := by decide +kernel
theorem dX12_smearBy_62 : decode cX12_smearBy 62 = .ok (.iaload, 1) := by decide +kernel
theorem dX12_smearBy_63 : decode cX12_smearBy 63 = .ok (.aload_n 0, 1) := by decide +kernel
theorem dX12_smearBy_64 : decode cX12_smearBy 64 = .ok (.getfield 34, 3) := by decide +kernel
theorem dX12_smearBy_67 : decode cX12_smearBy 67 = .ok (.aload_n 0, 1) := by decide +kernel
theorem dX12_smearBy_68 : decode cX12_smearBy 68 = .ok (.getfield 28, 3) := by decide +kernel
theorem dX12_smearBy_71 : decode cX12_smearBy 71 = .ok (.iload 4, 2) := by decide +kernel
theorem dX12_smearBy_73 : decode cX12_smearBy 73 = .ok (.iaload, 1) := by decide +kernel
theorem dX12_smearBy_74 : decode cX12_smearBy 74 = .ok (.iaload, 1) := by decide +kernel
theorem dX12_smearBy_75 : decode cX12_smearBy 75 = .ok (.iand, 1) := by decide +kernel
theorem dX12_smearBy_76 : decode cX12_smearBy 76 = .ok (.invokestatic 91, 3) := by decide +kernel
theorem dX12_smearBy_79 : decode cX12_smearBy 79 = .ok (.imul, 1) := by decide +kernel
theorem dX12_smearBy_80 : decode cX12_smearBy 80 = .ok (.goto 4, 3) := by decide +kernel
theorem dX12_smearBy_83 : decode cX12_smearBy 83 = .ok (.iconst 0, 1) := by decide +kernel
theorem dX12_smearBy_84 : decode cX12_smearBy 84 = .ok (.iadd, 1) := by decide +kernel
theorem dX12_smearBy_85 : decode cX12_smearBy 85 = .ok (.istore_n 2, 1) := by decide +kernel
theorem dX12_smearBy_86 : decode cX12_smearBy 86 = .ok (.iinc 4 1, 3) := by decide +kernel
theorem dX12_smearBy_89 : decode cX12_smearBy 89 = .ok (.goto (-72), 3) := by decide +kernel
theorem dX12_smearBy_92 : decode cX12_smearBy 92 = .ok (.iinc 3 1, 3) := by decide +kernel
theorem dX12_smearBy_95 : decode cX12_smearBy 95 = .ok (.goto (-91), 3) := by decide +kernel
theorem dX12_smearBy_98 : decode cX12_smearBy 98 = .ok (.iload_n 2, 1) := by decide +kernel
theorem dX12_smearBy_99 : decode cX12_smearBy 99 = .ok (.ireturn, 1) := by decide +kernel
theorem dX12_printAll_0 : decode cX12_printAll 0 = .ok (.aload_n 0, 1) := by decide +kernel
theorem dX12_printAll_1 : decode cX12_printAll 1 = .ok (.invokevirtual 123, 3) := by decide +kernel
theorem dX12_printAll_4 : decode cX12_printAll 4 = .ok (.iconst 0, 1) := by decide +kernel
theorem dX12_printAll_5 : decode cX12_printAll 5 = .ok (.istore_n 1, 1) := by decide +kernel
theorem dX12_printAll_6 : decode cX12_printAll 6 = .ok (.iload_n 1, 1) := by decide +kernel
theorem dX12_printAll_7 : decode cX12_printAll 7 = .ok (.aload_n 0, 1) := by decide +kernel
theorem dX12_printAll_8 : decode cX12_printAll 8 = .ok (.getfield 7, 3) := by decide +kernel
theorem dX12_printAll_11 : decode cX12_printAll 11 = .ok (.iconst 0, 1) := by decide +kernel
theorem dX12_printAll_12 : decode cX12_printAll 12 = .ok (.iaload, 1) := by decide +kernel
theorem dX12_printAll_13 : decode cX12_printAll 13 = .ok (.if_icmp .ge 30, 3) := by decide +kernel
theorem dX12_printAll_16 : decode cX12_printAll 16 = .ok (.aload_n 0, 1) := by decide +kernel
theorem dX12_printAll_17 : decode cX12_printAll 17 = .ok (.aload_n 0, 1) := by decide +kernel
theorem dX12_printAll_18 : decode cX12_printAll 18 = .ok (.getfield 28, 3) := by decide +kernel
theorem dX12_printAll_21 : decode cX12_printAll 21 = .ok (.iload_n 1, 1) := by decide +kernel
theorem dX12_printAll_22 : decode cX12_printAll 22 = .ok (.iaload, 1) := by decide +kernel
theorem dX12_printAll_23 : decode cX12_printAll 23 = .ok (.aload_n 0, 1) := by decide +kernel
theorem dX12_printAll_24 : decode cX12_printAll 24 = .ok (.getfield 34, 3) := by decide +kernel
theorem dX12_printAll_27 : decode cX12_printAll 27 = .ok (.aload_n 0, 1) := by decide +kernel
theorem dX12_printAll_28 : decode cX12_printAll 28 = .ok (.getfield 28, 3) := by decide +kernel
theorem dX12_printAll_31 : decode cX12_printAll 31 = .ok (.iload_n 1, 1) := by decide +kernel
theorem dX12_printAll_32 : decode cX12_printAll 32 = .ok (.iaload, 1) := by decide +kernel
theorem dX12_printAll_33 : decode cX12_printAll 33 = .ok (.iaload, 1) := by decide +kernel
theorem dX12_printAll_34 : decode cX12_printAll 34 = .ok (.invokevirtual 126, 3) := by decide +kernel
theorem dX12_printAll_37 : decode cX12_printAll 37 = .ok (.iinc 1 1, 3) := by decide +kernel
theorem dX12_printAll_40 : decode cX12_printAll 40 = .ok (.goto (-34), 3) := by decide +kernel
theorem dX12_printAll_43 : decode cX12_printAll 43 = .ok (.return_, 1) := by decide +kernel
theorem dX12_lawful_0 : decode cX12_lawful 0 = .ok (.aload_n 0, 1) := by decide +kernel
theorem dX12_lawful_1 : decode cX12_lawful 1 = .ok (.invokevirtual 129, 3) := by decide +kernel
theorem dX12_lawful_4 : decode cX12_lawful 4 = .ok (.iconst 0, 1) := by decide +kernel
theorem dX12_lawful_5 : decode cX12_lawful 5 = .ok (.istore_n 1, 1) := by decide +kernel
theorem dX12_lawful_6 : decode cX12_lawful 6 = .ok (.iconst 1, 1) := by decide +kernel
theorem dX12_lawful_7 : decode cX12_lawful 7 = .ok (.istore_n 2, 1) := by decide +kernel
theorem dX12_lawful_8 : decode cX12_lawful 8 = .ok (.iload_n 2, 1) := by decide +kernel
theorem dX12_lawful_9 : decode cX12_lawful 9 = .ok (.ifCond .eq 26, 3) := by decide +kernel
theorem dX12_lawful_12 : decode cX12_lawful 12 = .ok (.iload_n 1, 1) := by decide +kernel
theorem dX12_lawful_13 : decode cX12_lawful 13 = .ok (.aload_n 0, 1) := by decide +kernel
theorem dX12_lawful_14 : decode cX12_lawful 14 = .ok (.invokevirtual 132, 3) := by decide +kernel
theorem dX12_lawful_17 : decode cX12_lawful 17 = .ok (.ifCond .eq 7, 3) := by decide +kernel
theorem dX12_lawful_20 : decode cX12_lawful 20 = .ok (.iconst 1, 1) := by decide +kernel
theorem dX12_lawful_21 : decode cX12_lawful 21 = .ok (.goto 4, 3) := by decide +kernel
theorem dX12_lawful_24 : decode cX12_lawful 24 = .ok (.iconst 0, 1) := by decide +kernel
theorem dX12_lawful_25 : decode cX12_lawful 25 = .ok (.iadd, 1) := by decide +kernel
theorem dX12_lawful_26 : decode cX12_lawful 26 = .ok (.istore_n 1, 1) := by decide +kernel
theorem dX12_lawful_27 : decode cX12_lawful 27 = .ok (.aload_n 0, 1) := by decide +kernel
theorem dX12_lawful_28 : decode cX12_lawful 28 = .ok (.invokevirtual 136, 3) := by decide +kernel
theorem dX12_lawful_31 : decode cX12_lawful 31 = .ok (.istore_n 2, 1) := by decide +kernel
theorem dX12_lawful_32 : decode cX12_lawful 32 = .ok (.goto (-24), 3) := by decide +kernel
theorem dX12_lawful_35 : decode cX12_lawful 35 = .ok (.iload_n 1, 1) := by decide +kernel
theorem dX12_lawful_36 : decode cX12_lawful 36 = .ok (.ireturn, 1) := by decide +kernel
theorem dX12_isFound_0 : decode cX12_isFound 0 = .ok (.aload_n 0, 1) := by decide +kernel
theorem dX12_isFound_1 : decode cX12_isFound 1 = .ok (.invokevirtual 129, 3) := by decide +kernel
theorem dX12_isFound_4 : decode cX12_isFound 4 = .ok (.iconst 0, 1) := by decide +kernel
theorem dX12_isFound_5 : decode cX12_isFound 5 = .ok (.istore_n 3, 1) := by decide +kernel
theorem dX12_isFound_6 : decode cX12_isFound 6 = .ok (.iconst 1, 1) := by decide +kernel
theorem dX12_isFound_7 : decode cX12_isFound 7 = .ok (.istore 4, 2) := by decide +kernel
theorem dX12_isFound_9 : decode cX12_isFound 9 = .ok (.iload 4, 2) := by decide +kernel
theorem dX12_isFound_11 : decode cX12_isFound 11 = .ok (.ifCond .eq 118, 3) := by decide +kernel
theorem dX12_isFound_14 : decode cX12_isFound 14 = .ok (.aload_n 0, 1) := by decide +kernel
theorem dX12_isFound_15 : decode cX12_isFound 15 = .ok (.invokevirtual 132, 3) := by decide +kernel
theorem dX12_isFound_18 : decode cX12_isFound 18 = .ok (.ifCond .eq 102, 3) := by decide +kernel
theorem dX12_isFound_21 : decode cX12_isFound 21 = .ok (.aload_n 0, 1) := by decide +kernel
theorem dX12_isFound_22 : decode cX12_isFound 22 = .ok (.iload_n 1, 1) := by decide +kernel
theorem dX12_isFound_23 : decode cX12_isFound 23 = .ok (.invokevirtual 139, 3) := by decide +kernel
theorem dX12_isFound_26 : decode cX12_isFound 26 = .ok (.istore 5, 2) := by decide +kernel
theorem dX12_isFound_28 : decode cX12_isFound 28 = .ok (.iconst 0, 1) := by decide +kernel
theorem dX12_isFound_29 : decode cX12_isFound 29 = .ok (.istore 6, 2) := by decide +kernel
theorem dX12_isFound_31 : decode cX12_isFound 31 = .ok (.iload_n 2, 1) := by decide +kernel
theorem dX12_isFound_32 : decode cX12_isFound 32 = .ok (.ifCond .eq 13, 3) := by decide +kernel
theorem dX12_isFound_35 : decode cX12_isFound 35 = .ok (.aload_n 0, 1) := by decide +kernel
theorem dX12_isFound_36 : decode cX12_isFound 36 = .ok (.invokevirtual 142, 3) := by decide +kernel
theorem dX12_isFound_39 : decode cX12_isFound 39 = .ok (.aload_n 0, 1) := by decide +kernel
theorem dX12_isFound_40 : decode cX12_isFound 40 = .ok (.invokevirtual 145, 3) := by decide +kernel
theorem dX12_isFound_43 : decode cX12_isFound 43 = .ok (.istore 6, 2) := by decide +kernel
theorem dX12_isFound_45 : decode cX12_isFound 45 = .ok (.iload_n 3, 1) := by decide +kernel
theorem dX12_isFound_46 : decode cX12_isFound 46 = .ok (.ifCond .eq 30, 3) := by decide +kernel
theorem dX12_isFound_49 : decode cX12_isFound 49 = .ok (.iload 6, 2) := by decide +kernel
theorem dX12_isFound_51 : decode cX12_isFound 51 = .ok (.aload_n 0, 1) := by decide +kernel
theorem dX12_isFound_52 : decode cX12_isFound 52 = .ok (.getfield 149, 3) := by decide +kernel
theorem dX12_isFound_55 : decode cX12_isFound 55 = .ok (.if_icmp .gt 21, 3) := by decide +kernel
theorem dX12_isFound_58 : decode cX12_isFound 58 = .ok (.iload 6, 2) := by decide +kernel
theorem dX12_isFound_60 : decode cX12_isFound 60 = .ok (.aload_n 0, 1) := by decide +kernel
theorem dX12_isFound_61 : decode cX12_isFound 61 = .ok (.getfield 149, 3) := by decide +kernel
theorem dX12_isFound_64 : decode cX12_isFound 64 = .ok (.if_icmp .ne 56, 3) := by decide +kernel
theorem dX12_isFound_67 : decode cX12_isFound 67 = .ok (.iload 5, 2) := by decide +kernel
theorem dX12_isFound_69 : decode cX12_isFound 69 = .ok (.aload_n 0, 1) := by decide +kernel
theorem dX12_isFound_70 : decode cX12_isFound 70 = .ok (.getfield 152, 3) := by decide +kernel
theorem dX12_isFound_73 : decode cX12_isFound 73 = .ok (.if_icmp .ge 47, 3) := by decide +kernel
theorem dX12_isFound_76 : decode cX12_isFound 76 = .ok (.iconst 1, 1) := by decide +kernel
theorem dX12_isFound_77 : decode cX12_isFound 77 = .ok (.istore_n 3, 1) := by decide +kernel
theorem dX12_isFound_78 : decode cX12_isFound 78 = .ok (.aload_n 0, 1) := by decide +kernel
theorem dX12_isFound_79 : decode cX12_isFound 79 = .ok (.iload 6, 2) := by decide +kernel
theorem dX12_isFound_81 : decode cX12_isFound 81 = .ok (.putfield 149, 3) := by decide +kernel
theorem dX12_isFound_84 : decode cX12_isFound 84 = .ok (.aload_n 0, 1) := by decide +kernel
theorem dX12_isFound_85 : decode cX12_isFound 85 = .ok (.iload 5, 2) := by decide +kernel
theorem dX12_isFound_87 : decode cX12_isFound 87 = .ok (.putfield 152, 3) := by decide +kernel
theorem dX12_isFound_90 : decode cX12_isFound 90 = .ok (.iconst 0, 1) := by decide +kernel
theorem dX12_isFound_91 : decode cX12_isFound 91 = .ok (.istore 7, 2) := by decide +kernel
theorem dX12_isFound_93 : decode cX12_isFound 93 = .ok (.iload 7, 2) := by decide +kernel
theorem dX12_isFound_95 : decode cX12_isFound 95 = .ok (.bipush 6, 2) := by decide +kernel
theorem dX12_isFound_97 : decode cX12_isFound 97 = .ok (.if_icmp .ge 23, 3) := by decide +kernel
theorem dX12_isFound_100 : decode cX12_isFound 100 = .ok (.aload_n 0, 1) := by decide +kernel
theorem dX12_isFound_101 : decode cX12_isFound 101 = .ok (.getfield 31, 3) := by decide +kernel
theorem dX12_isFound_104 : decode cX12_isFound 104 = .ok (.iload 7, 2) := by decide +kernel
theorem dX12_isFound_106 : decode cX12_isFound 106 = .ok (.aload_n 0, 1) := by decide +kernel
theorem dX12_isFound_107 : decode cX12_isFound 107 = .ok (.getfield 28, 3) := by decide +kernel
theorem dX12_isFound_110 : decode cX12_isFound 110 = .ok (.iload 7, 2) := by decide +kernel
theorem dX12_isFound_112 : decode cX12_isFound 112 = .ok (.iaload, 1) := by decide +kernel
theorem dX12_isFound_113 : decode cX12_isFound 113 = .ok (.iastore, 1) := by decide +kernel
theorem dX12_isFound_114 : decode cX12_isFound 114 = .ok (.iinc 7 1, 3) := by decide +kernel
theorem dX12_isFound_117 : decode cX12_isFound 117 = .ok (.goto (-24), 3) := by decide +kernel
theorem dX12_isFound_120 : decode cX12_isFound 120 = .ok (.aload_n 0, 1) := by decide +kernel
theorem dX12_isFound_121 : decode cX12_isFound 121 = .ok (.invokevirtual 136, 3) := by decide +kernel
theorem dX12_isFound_124 : decode cX12_isFound 124 = .ok (.istore 4, 2) := by decide +kernel
theorem dX12_isFound_126 : decode cX12_isFound 126 = .ok (.goto (-117), 3) := by decide +kernel
theorem dX12_isFound_129 : decode cX12_isFound 129 = .ok (.iload_n 3, 1) := by decide +kernel
theorem dX12_isFound_130 : decode cX12_isFound 130 = .ok (.ireturn, 1) := by decide +kernel
theorem dX12_asked_0 : decode cX12_asked 0 = .ok (.iload_n 1, 1) := by decide +kernel
theorem dX12_asked_1 : decode cX12_asked 1 = .ok (.iconst 1, 1) := by decide +kernel
theorem dX12_asked_2 : decode cX12_asked 2 = .ok (.bipush 9, 2) := by decide +kernel
theorem dX12_asked_4 : decode cX12_asked 4 = .ok (.invokestatic 67, 3) := by decide +kernel
theorem dX12_asked_7 : decode cX12_asked 7 = .ok (.ifCond .eq 17, 3) := by decide +kernel
theorem dX12_asked_10 : decode cX12_asked 10 = .ok (.iload_n 2, 1) := by decide +kernel
theorem dX12_asked_11 : decode cX12_asked 11 = .ok (.iload_n 3, 1) := by decide +kernel
theorem dX12_asked_12 : decode cX12_asked 12 = .ok (.ifCond .eq 8, 3) := by decide +kernel
theorem dX12_asked_15 : decode cX12_asked 15 = .ok (.bipush (-2), 2) := by decide +kernel
theorem dX12_asked_17 : decode cX12_asked 17 = .ok (.goto 4, 3) := by decide +kernel
theorem dX12_asked_20 : decode cX12_asked 20 = .ok (.iconst (-1), 1) := by decide +kernel
theorem dX12_asked_21 : decode cX12_asked 21 = .ok (.if_icmp .ge 16, 3) := by decide +kernel
theorem dX12_asked_24 : decode cX12_asked 24 = .ok (.aload_n 0, 1) := by decide +kernel
theorem dX12_asked_25 : decode cX12_asked 25 = .ok (.getfield 19, 3) := by decide +kernel
theorem dX12_asked_28 : decode cX12_asked 28 = .ok (.iconst 0, 1) := by decide +kernel
theorem dX12_asked_29 : decode cX12_asked 29 = .ok (.dup2, 1) := by decide +kernel
theorem dX12_asked_30 : decode cX12_asked 30 = .ok (.iaload, 1) := by decide +kernel
theorem dX12_asked_31 : decode cX12_asked 31 = .ok (.iconst 1, 1) := by decide +kernel
theorem dX12_asked_32 : decode cX12_asked 32 = .ok (.iadd, 1) := by decide +kernel
theorem dX12_asked_33 : decode cX12_asked 33 = .ok (.iastore, 1) := by decide +kernel
theorem dX12_asked_34 : decode cX12_asked 34 = .ok (.bipush (-10), 2) := by decide +kernel
theorem dX12_asked_36 : decode cX12_asked 36 = .ok (.ireturn, 1) := by decide +kernel
theorem dX12_asked_37 : decode cX12_asked 37 = .ok (.aload_n 0, 1) := by decide +kernel
theorem dX12_asked_38 : decode cX12_asked 38 = .ok (.iload_n 1, 1) := by decide +kernel
theorem dX12_asked_39 : decode cX12_asked 39 = .ok (.iload_n 3, 1) := by decide +kernel
theorem dX12_asked_40 : decode cX12_asked 40 = .ok (.invokevirtual 155, 3) := by decide +kernel
theorem dX12_asked_43 : decode cX12_asked 43 = .ok (.ifCond .ne 16, 3) := by decide +kernel
theorem dX12_asked_46 : decode cX12_asked 46 = .ok (.aload_n 0, 1) := by decide +kernel
theorem dX12_asked_47 : decode cX12_asked 47 = .ok (.getfield 19, 3) := by decide +kernel
theorem dX12_asked_50 : decode cX12_asked 50 = .ok (.iconst 1, 1) := by decide +kernel
theorem dX12_asked_51 : decode cX12_asked 51 = .ok (.dup2, 1) := by decide +kernel
theorem dX12_asked_52 : decode cX12_asked 52 = .ok (.iaload, 1) := by decide +kernel
theorem dX12_asked_53 : decode cX12_asked 53 = .ok (.iconst 1, 1) := by decide +kernel
theorem dX12_asked_54 : decode cX12_asked 54 = .ok (.iadd, 1) := by decide +kernel
theorem dX12_asked_55 : decode cX12_asked 55 = .ok (.iastore, 1) := by decide +kernel
theorem dX12_asked_56 : decode cX12_asked 56 = .ok (.bipush (-11), 2) := by decide +kernel
theorem dX12_asked_58 : decode cX12_asked 58 = .ok (.ireturn, 1) := by decide +kernel
theorem dX12_asked_59 : decode cX12_asked 59 = .ok (.iload_n 2, 1) := by decide +kernel
theorem dX12_asked_60 : decode cX12_asked 60 = .ok (.ifCond .ge 24, 3) := by decide +kernel
theorem dX12_asked_63 : decode cX12_asked 63 = .ok (.iload_n 3, 1) := by decide +kernel
theorem dX12_asked_64 : decode cX12_asked 64 = .ok (.ifCond .eq 15, 3) := by decide +kernel
theorem dX12_asked_67 : decode cX12_asked 67 = .ok (.iload_n 2, 1) := by decide +kernel
theorem dX12_asked_68 : decode cX12_asked 68 = .ok (.iconst (-1), 1) := by decide +kernel
theorem dX12_asked_69 : decode cX12_asked 69 = .ok (.if_icmp .ne 10, 3) := by decide +kernel
theorem dX12_asked_72 : decode cX12_asked 72 = .ok (.aload_n 0, 1) := by decide +kernel
theorem dX12_asked_73 : decode cX12_asked 73 = .ok (.getfield 149, 3) := by decide +kernel
theorem dX12_asked_76 : decode cX12_asked 76 = .ok (.goto 7, 3) := by decide +kernel
theorem dX12_asked_79 : decode cX12_asked 79 = .ok (.aload_n 0, 1) := by decide +kernel
theorem dX12_asked_80 : decode cX12_asked 80 = .ok (.getfield 152, 3) := by decide +kernel
theorem dX12_asked_83 : decode cX12_asked 83 = .ok (.ireturn, 1) := by decide +kernel
theorem dX12_asked_84 : decode cX12_asked 84 = .ok (.iload_n 2, 1) := by decide +kernel
theorem dX12_asked_85 : decode cX12_asked 85 = .ok (.aload_n 0, 1) := by decide +kernel
theorem dX12_asked_86 : decode cX12_asked 86 = .ok (.getfield 7, 3) := by decide +kernel
theorem dX12_asked_89 : decode cX12_asked 89 = .ok (.iconst 0, 1) := by decide +kernel
theorem dX12_asked_90 : decode cX12_asked 90 = .ok (.iaload, 1) := by decide +kernel
theorem dX12_asked_91 : decode cX12_asked 91 = .ok (.if_icmp .ge 12, 3) := by decide +kernel
theorem dX12_asked_94 : decode cX12_asked 94 = .ok (.aload_n 0, 1) := by decide +kernel
theorem dX12_asked_95 : decode cX12_asked 95 = .ok (.getfield 31, 3) := by decide +kernel
theorem dX12_asked_98 : decode cX12_asked 98 = .ok (.iload_n 2, 1) := by decide +kernel
theorem dX12_asked_99 : decode cX12_asked 99 = .ok (.iaload, 1) := by decide +kernel
theorem dX12_asked_100 : decode cX12_asked 100 = .ok (.goto 5, 3) := by decide +kernel
theorem dX12_asked_103 : decode cX12_asked 103 = .ok (.bipush (-5), 2) := by decide +kernel
theorem dX12_asked_105 : decode cX12_asked 105 = .ok (.ireturn, 1) := by decide +kernel
theorem dX12_least_0 : decode cX12_least 0 = .ok (.aload_n 0, 1) := by decide +kernel
theorem dX12_least_1 : decode cX12_least 1 = .ok (.iload_n 1, 1) := by decide +kernel
theorem dX12_least_2 : decode cX12_least 2 = .ok (.iload_n 2, 1) := by decide +kernel
theorem dX12_least_3 : decode cX12_least 3 = .ok (.iconst 0, 1) := by decide +kernel
theorem dX12_least_4 : decode cX12_least 4 = .ok (.invokevirtual 159, 3) := by decide +kernel
theorem dX12_least_7 : decode cX12_least 7 = .ok (.ireturn, 1) := by decide +kernel
theorem dX12_nearest_0 : decode cX12_nearest 0 = .ok (.aload_n 0, 1) := by decide +kernel
theorem dX12_nearest_1 : decode cX12_nearest 1 = .ok (.iload_n 1, 1) := by decide +kernel
theorem dX12_nearest_2 : decode cX12_nearest 2 = .ok (.iload_n 2, 1) := by decide +kernel
theorem dX12_nearest_3 : decode cX12_nearest 3 = .ok (.iconst 1, 1) := by decide +kernel
theorem dX12_nearest_4 : decode cX12_nearest 4 = .ok (.invokevirtual 159, 3) := by decide +kernel
theorem dX12_nearest_7 : decode cX12_nearest 7 = .ok (.ireturn, 1) := by decide +kernel
theorem dX12_sheets_0 : decode cX12_sheets 0 = .ok (.aload_n 0, 1) := by decide +kernel
theorem dX12_sheets_1 : decode cX12_sheets 1 = .ok (.invokevirtual 129, 3) := by decide +kernel
theorem dX12_sheets_4 : decode cX12_sheets 4 = .ok (.iconst 0, 1) := by decide +kernel
theorem dX12_sheets_5 : decode cX12_sheets 5 = .ok (.istore_n 1, 1) := by decide +kernel
theorem dX12_sheets_6 : decode cX12_sheets 6 = .ok (.iconst 1, 1) := by decide +kernel
theorem dX12_sheets_7 : decode cX12_sheets 7 = .ok (.istore_n 2, 1) := by decide +kernel
theorem dX12_sheets_8 : decode cX12_sheets 8 = .ok (.iload_n 2, 1) := by decide +kernel
theorem dX12_sheets_9 : decode cX12_sheets 9 = .ok (.ifCond .eq 38, 3) := by decide +kernel
theorem dX12_sheets_12 : decode cX12_sheets 12 = .ok (.aload_n 0, 1) := by decide +kernel
theorem dX12_sheets_13 : decode cX12_sheets 13 = .ok (.invokevirtual 132, 3) := by decide +kernel
theorem dX12_sheets_16 : decode cX12_sheets 16 = .ok (.ifCond .eq 23, 3) := by decide +kernel
theorem dX12_sheets_19 : decode cX12_sheets 19 = .ok (.aload_n 0, 1) := by decide +kernel
theorem dX12_sheets_20 : decode cX12_sheets 20 = .ok (.invokevirtual 142, 3) := by decide +kernel
theorem dX12_sheets_23 : decode cX12_sheets 23 = .ok (.aload_n 0, 1) := by decide +kernel
theorem dX12_sheets_24 : decode cX12_sheets 24 = .ok (.iload_n 1, 1) := by decide +kernel
theorem dX12_sheets_25 : decode cX12_sheets 25 = .ok (.invokevirtual 163, 3) := by decide +kernel
theorem dX12_sheets_28 : decode cX12_sheets 28 = .ok (.ifCond .eq 9, 3) := by decide +kernel
theorem dX12_sheets_31 : decode cX12_sheets 31 = .ok (.iload_n 1, 1) := by decide +kernel
theorem dX12_sheets_32 : decode cX12_sheets 32 = .ok (.iconst 1, 1) := by decide +kernel
theorem dX12_sheets_33 : decode cX12_sheets 33 = .ok (.iadd, 1) := by decide +kernel
theorem dX12_sheets_34 : decode cX12_sheets 34 = .ok (.goto 4, 3) := by decide +kernel
theorem dX12_sheets_37 : decode cX12_sheets 37 = .ok (.iload_n 1, 1) := by decide +kernel
theorem dX12_sheets_38 : decode cX12_sheets 38 = .ok (.istore_n 1, 1) := by decide +kernel
theorem dX12_sheets_39 : decode cX12_sheets 39 = .ok (.aload_n 0, 1) := by decide +kernel
theorem dX12_sheets_40 : decode cX12_sheets 40 = .ok (.invokevirtual 136, 3) := by decide +kernel
theorem dX12_sheets_43 : decode cX12_sheets 43 = .ok (.istore_n 2, 1) := by decide +kernel
theorem dX12_sheets_44 : decode cX12_sheets 44 = .ok (.goto (-36), 3) := by decide +kernel
theorem dX12_sheets_47 : decode cX12_sheets 47 = .ok (.iload_n 1, 1) := by decide +kernel
theorem dX12_sheets_48 : decode cX12_sheets 48 = .ok (.ireturn, 1) := by decide +kernel
theorem dX12_isNew_0 : decode cX12_isNew 0 = .ok (.lconst 0, 1) := by decide +kernel
theorem dX12_isNew_1 : decode cX12_isNew 1 = .ok (.lstore_n 2, 1) := by decide +kernel
theorem dX12_isNew_2 : decode cX12_isNew 2 = .ok (.lconst 0, 1) := by decide +kernel
theorem dX12_isNew_3 : decode cX12_isNew 3 = .ok (.lstore 4, 2) := by decide +kernel
theorem dX12_isNew_5 : decode cX12_isNew 5 = .ok (.iconst 0, 1) := by decide +kernel
theorem dX12_isNew_6 : decode cX12_isNew 6 = .ok (.istore 6, 2) := by decide +kernel
theorem dX12_isNew_8 : decode cX12_isNew 8 = .ok (.iload 6, 2) := by decide +kernel
theorem dX12_isNew_10 : decode cX12_isNew 10 = .ok (.bipush 16, 2) := by decide +kernel
theorem dX12_isNew_12 : decode cX12_isNew 12 = .ok (.if_icmp .ge 37, 3) := by decide +kernel
theorem dX12_isNew_15 : decode cX12_isNew 15 = .ok (.lload_n 2, 1) := by decide +kernel
theorem dX12_isNew_16 : decode cX12_isNew 16 = .ok (.iconst 4, 1) := by decide +kernel
theorem dX12_isNew_17 : decode cX12_isNew 17 = .ok (.lshl, 1) := by decide +kernel
theorem dX12_isNew_18 : decode cX12_isNew 18 = .ok (.aload_n 0, 1) := by decide +kernel
theorem dX12_isNew_19 : decode cX12_isNew 19 = .ok (.getfield 22, 3) := by decide +kernel
theorem dX12_isNew_22 : decode cX12_isNew 22 = .ok (.iload 6, 2) := by decide +kernel
theorem dX12_isNew_24 : decode cX12_isNew 24 = .ok (.iaload, 1) := by decide +kernel
theorem dX12_isNew_25 : decode cX12_isNew 25 = .ok (.i2l, 1) := by decide +kernel
theorem dX12_isNew_26 : decode cX12_isNew 26 = .ok (.lor, 1) := by decide +kernel
theorem dX12_isNew_27 : decode cX12_isNew 27 = .ok (.lstore_n 2, 1) := by decide +kernel
theorem dX12_isNew_28 : decode cX12_isNew 28 = .ok (.lload 4, 2) := by decide +kernel
theorem dX12_isNew_30 : decode cX12_isNew 30 = .ok (.iconst 4, 1) := by decide +kernel
theorem dX12_isNew_31 : decode cX12_isNew 31 = .ok (.lshl, 1) := by decide +kernel
theorem dX12_isNew_32 : decode cX12_isNew 32 = .ok (.aload_n 0, 1) := by decide +kernel
theorem dX12_isNew_33 : decode cX12_isNew 33 = .ok (.getfield 25, 3) := by decide +kernel
theorem dX12_isNew_36 : decode cX12_isNew 36 = .ok (.iload 6, 2) := by decide +kernel
theorem dX12_isNew_38 : decode cX12_isNew 38 = .ok (.iaload, 1) := by decide +kernel
theorem dX12_isNew_39 : decode cX12_isNew 39 = .ok (.i2l, 1) := by decide +kernel
theorem dX12_isNew_40 : decode cX12_isNew 40 = .ok (.lor, 1) := by decide +kernel
theorem dX12_isNew_41 : decode cX12_isNew 41 = .ok (.lstore 4, 2) := by decide +kernel
theorem dX12_isNew_43 : decode cX12_isNew 43 = .ok (.iinc 6 1, 3) := by decide +kernel
theorem dX12_isNew_46 : decode cX12_isNew 46 = .ok (.goto (-38), 3) := by decide +kernel
theorem dX12_isNew_49 : decode cX12_isNew 49 = .ok (.iconst 1, 1) := by decide +kernel
theorem dX12_isNew_50 : decode cX12_isNew 50 = .ok (.istore 6, 2) := by decide +kernel
theorem dX12_isNew_52 : decode cX12_isNew 52 = .ok (.iconst 0, 1) := by decide +kernel
theorem dX12_isNew_53 : decode cX12_isNew 53 = .ok (.istore 7, 2) := by decide +kernel
theorem dX12_isNew_55 : decode cX12_isNew 55 = .ok (.iload 7, 2) := by decide +kernel
theorem dX12_isNew_57 : decode cX12_isNew 57 = .ok (.iload_n 1, 1) := by decide +kernel
theorem dX12_isNew_58 : decode cX12_isNew 58 = .ok (.if_icmp .ge 60, 3) := by decide +kernel
theorem dX12_isNew_61 : decode cX12_isNew 61 = .ok (.iload 6, 2) := by decide +kernel
theorem dX12_isNew_63 : decode cX12_isNew 63 = .ok (.ifCond .eq 55, 3) := by decide +kernel
theorem dX12_isNew_66 : decode cX12_isNew 66 = .ok (.aload_n 0, 1) := by decide +kernel
theorem dX12_isNew_67 : decode cX12_isNew 67 = .ok (.getfield 37, 3) := by decide +kernel
theorem dX12_isNew_70 : decode cX12_isNew 70 = .ok (.iload 7, 2) := by decide +kernel
theorem dX12_isNew_72 : decode cX12_isNew 72 = .ok (.laload, 1) := by decide +kernel
theorem dX12_isNew_73 : decode cX12_isNew 73 = .ok (.lload_n 2, 1) := by decide +kernel
theorem dX12_isNew_74 : decode cX12_isNew 74 = .ok (.lcmp, 1) := by decide +kernel
theorem dX12_isNew_75 : decode cX12_isNew 75 = .ok (.ifCond .ne 30, 3) := by decide +kernel
theorem dX12_isNew_78 : decode cX12_isNew 78 = .ok (.aload_n 0, 1) := by decide +kernel
theorem dX12_isNew_79 : decode cX12_isNew 79 = .ok (.getfield 41, 3) := by decide +kernel
theorem dX12_isNew_82 : decode cX12_isNew 82 = .ok (.iload 7, 2) := by decide +kernel
theorem dX12_isNew_84 : decode cX12_isNew 84 = .ok (.laload, 1) := by decide +kernel
theorem dX12_isNew_85 : decode cX12_isNew 85 = .ok (.lload 4, 2) := by decide +kernel
theorem dX12_isNew_87 : decode cX12_isNew 87 = .ok (.lcmp, 1) := by decide +kernel
theorem dX12_isNew_88 : decode cX12_isNew 88 = .ok (.ifCond .ne 17, 3) := by decide +kernel
theorem dX12_isNew_91 : decode cX12_isNew 91 = .ok (.aload_n 0, 1) := by decide +kernel
theorem dX12_isNew_92 : decode cX12_isNew 92 = .ok (.getfield 44, 3) := by decide +kernel
theorem dX12_isNew_95 : decode cX12_isNew 95 = .ok (.iload 7, 2) := by decide +kernel
theorem dX12_isNew_97 : decode cX12_isNew 97 = .ok (.iaload, 1) := by decide +kernel
theorem dX12_isNew_98 : decode cX12_isNew 98 = .ok (.aload_n 0, 1) := by decide +kernel
theorem dX12_isNew_99 : decode cX12_isNew 99 = .ok (.getfield 116, 3) := by decide +kernel
theorem dX12_isNew_102 : decode cX12_isNew 102 = .ok (.if_icmp .eq 7, 3) := by decide +kernel
theorem dX12_isNew_105 : decode cX12_isNew 105 = .ok (.iconst 1, 1) := by decide +kernel
theorem dX12_isNew_106 : decode cX12_isNew 106 = .ok (.goto 4, 3) := by decide +kernel
theorem dX12_isNew_109 : decode cX12_isNew 109 = .ok (.iconst 0, 1) := by decide +kernel
theorem dX12_isNew_110 : decode cX12_isNew 110 = .ok (.istore 6, 2) := by decide +kernel
theorem dX12_isNew_112 : decode cX12_isNew 112 = .ok (.iinc 7 1, 3) := by decide +kernel
theorem dX12_isNew_115 : decode cX12_isNew 115 = .ok (.goto (-60), 3) := by decide +kernel
theorem dX12_isNew_118 : decode cX12_isNew 118 = .ok (.iload 6, 2) := by decide +kernel
theorem dX12_isNew_120 : decode cX12_isNew 120 = .ok (.ifCond .eq 28, 3) := by decide +kernel
theorem dX12_isNew_123 : decode cX12_isNew 123 = .ok (.aload_n 0, 1) := by decide +kernel
theorem dX12_isNew_124 : decode cX12_isNew 124 = .ok (.getfield 37, 3) := by decide +kernel
theorem dX12_isNew_127 : decode cX12_isNew 127 = .ok (.iload_n 1, 1) := by decide +kernel
theorem dX12_isNew_128 : decode cX12_isNew 128 = .ok (.lload_n 2, 1) := by decide +kernel
theorem dX12_isNew_129 : decode cX12_isNew 129 = .ok (.lastore, 1) := by decide +kernel
theorem dX12_isNew_130 : decode cX12_isNew 130 = .ok (.aload_n 0, 1) := by decide +kernel
theorem dX12_isNew_131 : decode cX12_isNew 131 = .ok (.getfield 41, 3) := by decide +kernel
theorem dX12_isNew_134 : decode cX12_isNew 134 = .ok (.iload_n 1, 1) := by decide +kernel
theorem dX12_isNew_135 : decode cX12_isNew 135 = .ok (.lload 4, 2) := by decide +kernel
theorem dX12_isNew_137 : decode cX12_isNew 137 = .ok (.lastore, 1) := by decide +kernel
theorem dX12_isNew_138 : decode cX12_isNew 138 = .ok (.aload_n 0, 1) := by decide +kernel
theorem dX12_isNew_139 : decode cX12_isNew 139 = .ok (.getfield 44, 3) := by decide +kernel
theorem dX12_isNew_142 : decode cX12_isNew 142 = .ok (.iload_n 1, 1) := by decide +kernel
theorem dX12_isNew_143 : decode cX12_isNew 143 = .ok (.aload_n 0, 1) := by decide +kernel
theorem dX12_isNew_144 : decode cX12_isNew 144 = .ok (.getfield 116, 3) := by decide +kernel
theorem dX12_isNew_147 : decode cX12_isNew 147 = .ok (.iastore, 1) := by decide +kernel
theorem dX12_isNew_148 : decode cX12_isNew 148 = .ok (.iload 6, 2) := by decide +kernel
theorem dX12_isNew_150 : decode cX12_isNew 150 = .ok (.ireturn, 1) := by decide +kernel
theorem dX12_doPrints_0 : decode cX12_doPrints 0 = .ok (.aload_n 0, 1) := by decide +kernel
theorem dX12_doPrints_1 : decode cX12_doPrints 1 = .ok (.iload_n 1, 1) := by decide +kernel
theorem dX12_doPrints_2 : decode cX12_doPrints 2 = .ok (.invokevirtual 84, 3) := by decide +kernel
theorem dX12_doPrints_5 : decode cX12_doPrints 5 = .ok (.ifCond .eq 13, 3) := by decide +kernel
theorem dX12_doPrints_8 : decode cX12_doPrints 8 = .ok (.iload_n 2, 1) := by decide +kernel
theorem dX12_doPrints_9 : decode cX12_doPrints 9 = .ok (.iconst 0, 1) := by decide +kernel
theorem dX12_doPrints_10 : decode cX12_doPrints 10 = .ok (.bipush 9, 2) := by decide +kernel
theorem dX12_doPrints_12 : decode cX12_doPrints 12 = .ok (.invokestatic 67, 3) := by decide +kernel
theorem dX12_doPrints_15 : decode cX12_doPrints 15 = .ok (.ifCond .ne 6, 3) := by decide +kernel
theorem dX12_doPrints_18 : decode cX12_doPrints 18 = .ok (.bipush (-2), 2) := by decide +kernel
theorem dX12_doPrints_20 : decode cX12_doPrints 20 = .ok (.ireturn, 1) := by decide +kernel
theorem dX12_doPrints_21 : decode cX12_doPrints 21 = .ok (.iconst 0, 1) := by decide +kernel
theorem dX12_doPrints_22 : decode cX12_doPrints 22 = .ok (.istore_n 3, 1) := by decide +kernel
theorem dX12_doPrints_23 : decode cX12_doPrints 23 = .ok (.iconst 0, 1) := by decide +kernel
theorem dX12_doPrints_24 : decode cX12_doPrints 24 = .ok (.istore 4, 2) := by decide +kernel
theorem dX12_doPrints_26 : decode cX12_doPrints 26 = .ok (.iload 4, 2) := by decide +kernel
theorem dX12_doPrints_28 : decode cX12_doPrints 28 = .ok (.aload_n 0, 1) := by decide +kernel
theorem dX12_doPrints_29 : decode cX12_doPrints 29 = .ok (.getfield 7, 3) := by decide +kernel
theorem dX12_doPrints_32 : decode cX12_doPrints 32 = .ok (.bipush 93, 2) := by decide +kernel
theorem dX12_doPrints_34 : decode cX12_doPrints 34 = .ok (.iaload, 1) := by decide +kernel
theorem dX12_doPrints_35 : decode cX12_doPrints 35 = .ok (.if_icmp .ge 26, 3) := by decide +kernel
theorem dX12_doPrints_38 : decode cX12_doPrints 38 = .ok (.iload_n 3, 1) := by decide +kernel
theorem dX12_doPrints_39 : decode cX12_doPrints 39 = .ok (.iconst 1, 1) := by decide +kernel
theorem dX12_doPrints_40 : decode cX12_doPrints 40 = .ok (.aload_n 0, 1) := by decide +kernel
theorem dX12_doPrints_41 : decode cX12_doPrints 41 = .ok (.getfield 7, 3) := by decide +kernel
theorem dX12_doPrints_44 : decode cX12_doPrints 44 = .ok (.bipush 95, 2) := by decide +kernel
theorem dX12_doPrints_46 : decode cX12_doPrints 46 = .ok (.iconst 3, 1) := by decide +kernel
theorem dX12_doPrints_47 : decode cX12_doPrints 47 = .ok (.iload 4, 2) := by decide +kernel
theorem dX12_doPrints_49 : decode cX12_doPrints 49 = .ok (.imul, 1) := by decide +kernel
theorem dX12_doPrints_50 : decode cX12_doPrints 50 = .ok (.iadd, 1) := by decide +kernel
theorem dX12_doPrints_51 : decode cX12_doPrints 51 = .ok (.iaload, 1) := by decide +kernel
theorem dX12_doPrints_52 : decode cX12_doPrints 52 = .ok (.ishl, 1) := by decide +kernel
theorem dX12_doPrints_53 : decode cX12_doPrints 53 = .ok (.ior, 1) := by decide +kernel
theorem dX12_doPrints_54 : decode cX12_doPrints 54 = .ok (.istore_n 3, 1) := by decide +kernel
theorem dX12_doPrints_55 : decode cX12_doPrints 55 = .ok (.iinc 4 1, 3) := by decide +kernel
theorem dX12_doPrints_58 : decode cX12_doPrints 58 = .ok (.goto (-32), 3) := by decide +kernel
theorem dX12_doPrints_61 : decode cX12_doPrints 61 = .ok (.aload_n 0, 1) := by decide +kernel
theorem dX12_doPrints_62 : decode cX12_doPrints 62 = .ok (.iload_n 1, 1) := by decide +kernel
theorem dX12_doPrints_63 : decode cX12_doPrints 63 = .ok (.bipush 6, 2) := by decide +kernel
theorem dX12_doPrints_65 : decode cX12_doPrints 65 = .ok (.invokevirtual 75, 3) := by decide +kernel
theorem dX12_doPrints_68 : decode cX12_doPrints 68 = .ok (.iload_n 3, 1) := by decide +kernel
theorem dX12_doPrints_69 : decode cX12_doPrints 69 = .ok (.iconst (-1), 1) := by decide +kernel
theorem dX12_doPrints_70 : decode cX12_doPrints 70 = .ok (.ixor, 1) := by decide +kernel
theorem dX12_doPrints_71 : decode cX12_doPrints 71 = .ok (.iand, 1) := by decide +kernel
theorem dX12_doPrints_72 : decode cX12_doPrints 72 = .ok (.ifCond .eq 6, 3) := by decide +kernel
theorem dX12_doPrints_75 : decode cX12_doPrints 75 = .ok (.bipush (-3), 2) := by decide +kernel
theorem dX12_doPrints_77 : decode cX12_doPrints 77 = .ok (.ireturn, 1) := by decide +kernel
theorem dX12_doPrints_78 : decode cX12_doPrints 78 = .ok (.aload_n 0, 1) := by decide +kernel
theorem dX12_doPrints_79 : decode cX12_doPrints 79 = .ok (.getfield 7, 3) := by decide +kernel
theorem dX12_doPrints_82 : decode cX12_doPrints 82 = .ok (.bipush 93, 2) := by decide +kernel
theorem dX12_doPrints_84 : decode cX12_doPrints 84 = .ok (.iaload, 1) := by decide +kernel
theorem dX12_doPrints_85 : decode cX12_doPrints 85 = .ok (.bipush 12, 2) := by decide +kernel
theorem dX12_doPrints_87 : decode cX12_doPrints 87 = .ok (.if_icmp .ne 6, 3) := by decide +kernel
theorem dX12_doPrints_90 : decode cX12_doPrints 90 = .ok (.bipush (-4), 2) := by decide +kernel
theorem dX12_doPrints_92 : decode cX12_doPrints 92 = .ok (.ireturn, 1) := by decide +kernel
theorem dX12_doPrints_93 : decode cX12_doPrints 93 = .ok (.aload_n 0, 1) := by decide +kernel
theorem dX12_doPrints_94 : decode cX12_doPrints 94 = .ok (.getfield 7, 3) := by decide +kernel
theorem dX12_doPrints_97 : decode cX12_doPrints 97 = .ok (.bipush 92, 2) := by decide +kernel
theorem dX12_doPrints_99 : decode cX12_doPrints 99 = .ok (.dup2, 1) := by decide +kernel
theorem dX12_doPrints_100 : decode cX12_doPrints 100 = .ok (.iaload, 1) := by decide +kernel
theorem dX12_doPrints_101 : decode cX12_doPrints 101 = .ok (.iload_n 2, 1) := by decide +kernel
theorem dX12_doPrints_102 : decode cX12_doPrints 102 = .ok (.iadd, 1) := by decide +kernel
theorem dX12_doPrints_103 : decode cX12_doPrints 103 = .ok (.iastore, 1) := by decide +kernel
theorem dX12_doPrints_104 : decode cX12_doPrints 104 = .ok (.aload_n 0, 1) := by decide +kernel
theorem dX12_doPrints_105 : decode cX12_doPrints 105 = .ok (.iload_n 1, 1) := by decide +kernel
theorem dX12_doPrints_106 : decode cX12_doPrints 106 = .ok (.invokevirtual 88, 3) := by decide +kernel
theorem dX12_doPrints_109 : decode cX12_doPrints 109 = .ok (.istore 4, 2) := by decide +kernel
theorem dX12_doPrints_111 : decode cX12_doPrints 111 = .ok (.iconst 0, 1) := by decide +kernel
theorem dX12_doPrints_112 : decode cX12_doPrints 112 = .ok (.istore 5, 2) := by decide +kernel
theorem dX12_doPrints_114 : decode cX12_doPrints 114 = .ok (.iconst 0, 1) := by decide +kernel
theorem dX12_doPrints_115 : decode cX12_doPrints 115 = .ok (.istore 6, 2) := by decide +kernel
theorem dX12_doPrints_117 : decode cX12_doPrints 117 = .ok (.iload 6, 2) := by decide +kernel
theorem dX12_doPrints_119 : decode cX12_doPrints 119 = .ok (.aload_n 0, 1) := by decide +kernel
theorem dX12_doPrints_120 : decode cX12_doPrints 120 = .ok (.getfield 7, 3) := by decide +kernel
theorem dX12_doPrints_123 : decode cX12_doPrints 123 = .ok (.bipush 93, 2) := by decide +kernel
theorem dX12_doPrints_125 : decode cX12_doPrints 125 = .ok (.iaload, 1) := by decide +kernel
theorem dX12_doPrints_126 : decode cX12_doPrints 126 = .ok (.if_icmp .ge 88, 3) := by decide +kernel
theorem dX12_doPrints_129 : decode cX12_doPrints 129 = .ok (.aload_n 0, 1) := by decide +kernel
theorem dX12_doPrints_130 : decode cX12_doPrints 130 = .ok (.getfield 7, 3) := by decide +kernel
theorem dX12_doPrints_133 : decode cX12_doPrints 133 = .ok (.bipush 95, 2) := by decide +kernel
theorem dX12_doPrints_135 : decode cX12_doPrints 135 = .ok (.iconst 3, 1) := by decide +kernel
theorem dX12_doPrints_136 : decode cX12_doPrints 136 = .ok (.iload 6, 2) := by decide +kernel
theorem dX12_doPrints_138 : decode cX12_doPrints 138 = .ok (.imul, 1) := by decide +kernel
theorem dX12_doPrints_139 : decode cX12_doPrints 139 = .ok (.iadd, 1) := by decide +kernel
theorem dX12_doPrints_140 : decode cX12_doPrints 140 = .ok (.iconst 1, 1) := by decide +kernel
theorem dX12_doPrints_141 : decode cX12_doPrints 141 = .ok (.iadd, 1) := by decide +kernel
theorem dX12_doPrints_142 : decode cX12_doPrints 142 = .ok (.iaload, 1) := by decide +kernel
theorem dX12_doPrints_143 : decode cX12_doPrints 143 = .ok (.aload_n 0, 1) := by decide +kernel
theorem dX12_doPrints_144 : decode cX12_doPrints 144 = .ok (.aload_n 0, 1) := by decide +kernel
theorem dX12_doPrints_145 : decode cX12_doPrints 145 = .ok (.getfield 7, 3) := by decide +kernel
theorem dX12_doPrints_148 : decode cX12_doPrints 148 = .ok (.bipush 95, 2) := by decide +kernel
theorem dX12_doPrints_150 : decode cX12_doPrints 150 = .ok (.iconst 3, 1) := by decide +kernel
theorem dX12_doPrints_151 : decode cX12_doPrints 151 = .ok (.iload 6, 2) := by decide +kernel
theorem dX12_doPrints_153 : decode cX12_doPrints 153 = .ok (.imul, 1) := by decide +kernel
theorem dX12_doPrints_154 : decode cX12_doPrints 154 = .ok (.iadd, 1) := by decide +kernel
theorem dX12_doPrints_155 : decode cX12_doPrints 155 = .ok (.iaload, 1) := by decide +kernel
theorem dX12_doPrints_156 : decode cX12_doPrints 156 = .ok (.iconst 2, 1) := by decide +kernel
theorem dX12_doPrints_157 : decode cX12_doPrints 157 = .ok (.invokevirtual 75, 3) := by decide +kernel
theorem dX12_doPrints_160 : decode cX12_doPrints 160 = .ok (.iadd, 1) := by decide +kernel
theorem dX12_doPrints_161 : decode cX12_doPrints 161 = .ok (.aload_n 0, 1) := by decide +kernel
theorem dX12_doPrints_162 : decode cX12_doPrints 162 = .ok (.getfield 7, 3) := by decide +kernel
theorem dX12_doPrints_165 : decode cX12_doPrints 165 = .ok (.bipush 92, 2) := by decide +kernel
theorem dX12_doPrints_167 : decode cX12_doPrints 167 = .ok (.iaload, 1) := by decide +kernel
theorem dX12_doPrints_168 : decode cX12_doPrints 168 = .ok (.isub, 1) := by decide +kernel
theorem dX12_doPrints_169 : decode cX12_doPrints 169 = .ok (.istore 7, 2) := by decide +kernel
theorem dX12_doPrints_171 : decode cX12_doPrints 171 = .ok (.iload 5, 2) := by decide +kernel
theorem dX12_doPrints_173 : decode cX12_doPrints 173 = .ok (.iload 7, 2) := by decide +kernel
theorem dX12_doPrints_175 : decode cX12_doPrints 175 = .ok (.ifCond .le 29, 3) := by decide +kernel
theorem dX12_doPrints_178 : decode cX12_doPrints 178 = .ok (.iload 7, 2) := by decide +kernel
theorem dX12_doPrints_180 : decode cX12_doPrints 180 = .ok (.iload 4, 2) := by decide +kernel
theorem dX12_doPrints_182 : decode cX12_doPrints 182 = .ok (.aload_n 0, 1) := by decide +kernel
theorem dX12_doPrints_183 : decode cX12_doPrints 183 = .ok (.getfield 7, 3) := by decide +kernel
theorem dX12_doPrints_186 : decode cX12_doPrints 186 = .ok (.bipush 95, 2) := by decide +kernel
theorem dX12_doPrints_188 : decode cX12_doPrints 188 = .ok (.iconst 3, 1) := by decide +kernel
theorem dX12_doPrints_189 : decode cX12_doPrints 189 = .ok (.iload 6, 2) := by decide +kernel
theorem dX12_doPrints_191 : decode cX12_doPrints 191 = .ok (.imul, 1) := by decide +kernel
theorem dX12_doPrints_192 : decode cX12_doPrints 192 = .ok (.iadd, 1) := by decide +kernel
theorem dX12_doPrints_193 : decode cX12_doPrints 193 = .ok (.iconst 2, 1) := by decide +kernel
theorem dX12_doPrints_194 : decode cX12_doPrints 194 = .ok (.iadd, 1) := by decide +kernel
theorem dX12_doPrints_195 : decode cX12_doPrints 195 = .ok (.iaload, 1) := by decide +kernel
theorem dX12_doPrints_196 : decode cX12_doPrints 196 = .ok (.iand, 1) := by decide +kernel
theorem dX12_doPrints_197 : decode cX12_doPrints 197 = .ok (.invokestatic 91, 3) := by decide +kernel
theorem dX12_doPrints_200 : decode cX12_doPrints 200 = .ok (.imul, 1) := by decide +kernel
theorem dX12_doPrints_201 : decode cX12_doPrints 201 = .ok (.goto 4, 3) := by decide +kernel
theorem dX12_doPrints_204 : decode cX12_doPrints 204 = .ok (.iconst 0, 1) := by decide +kernel
theorem dX12_doPrints_205 : decode cX12_doPrints 205 = .ok (.iadd, 1) := by decide +kernel
theorem dX12_doPrints_206 : decode cX12_doPrints 206 = .ok (.istore 5, 2) := by decide +kernel
theorem dX12_doPrints_208 : decode cX12_doPrints 208 = .ok (.iinc 6 1, 3) := by decide +kernel
theorem dX12_doPrints_211 : decode cX12_doPrints 211 = .ok (.goto (-94), 3) := by decide +kernel
theorem dX12_doPrints_214 : decode cX12_doPrints 214 = .ok (.bipush 95, 2) := by decide +kernel
theorem dX12_doPrints_216 : decode cX12_doPrints 216 = .ok (.iconst 3, 1) := by decide +kernel
theorem dX12_doPrints_217 : decode cX12_doPrints 217 = .ok (.aload_n 0, 1) := by decide +kernel
theorem dX12_doPrints_218 : decode cX12_doPrints 218 = .ok (.getfield 7, 3) := by decide +kernel
theorem dX12_doPrints_221 : decode cX12_doPrints 221 = .ok (.bipush 93, 2) := by decide +kernel
theorem dX12_doPrints_223 : decode cX12_doPrints 223 = .ok (.iaload, 1) := by decide +kernel
theorem dX12_doPrints_224 : decode cX12_doPrints 224 = .ok (.imul, 1) := by decide +kernel
theorem dX12_doPrints_225 : decode cX12_doPrints 225 = .ok (.iadd, 1) := by decide +kernel
theorem dX12_doPrints_226 : decode cX12_doPrints 226 = .ok (.istore 6, 2) := by decide +kernel
theorem dX12_doPrints_228 : decode cX12_doPrints 228 = .ok (.aload_n 0, 1) := by decide +kernel
theorem dX12_doPrints_229 : decode cX12_doPrints 229 = .ok (.getfield 7, 3) := by decide +kernel
theorem dX12_doPrints_232 : decode cX12_doPrints 232 = .ok (.iload 6, 2) := by decide +kernel
theorem dX12_doPrints_234 : decode cX12_doPrints 234 = .ok (.iload_n 1, 1) := by decide +kernel
theorem dX12_doPrints_235 : decode cX12_doPrints 235 = .ok (.iastore, 1) := by decide +kernel
theorem dX12_doPrints_236 : decode cX12_doPrints 236 = .ok (.aload_n 0, 1) := by decide +kernel
theorem dX12_doPrints_237 : decode cX12_doPrints 237 = .ok (.getfield 7, 3) := by decide +kernel
theorem dX12_doPrints_240 : decode cX12_doPrints 240 = .ok (.iload 6, 2) := by decide +kernel
theorem dX12_doPrints_242 : decode cX12_doPrints 242 = .ok (.iconst 1, 1) := by decide +kernel
theorem dX12_doPrints_243 : decode cX12_doPrints 243 = .ok (.iadd, 1) := by decide +kernel
theorem dX12_doPrints_244 : decode cX12_doPrints 244 = .ok (.aload_n 0, 1) := by decide +kernel
theorem dX12_doPrints_245 : decode cX12_doPrints 245 = .ok (.getfield 7, 3) := by decide +kernel
theorem dX12_doPrints_248 : decode cX12_doPrints 248 = .ok (.bipush 92, 2) := by decide +kernel
theorem dX12_doPrints_250 : decode cX12_doPrints 250 = .ok (.iaload, 1) := by decide +kernel
theorem dX12_doPrints_251 : decode cX12_doPrints 251 = .ok (.iastore, 1) := by decide +kernel
theorem dX12_doPrints_252 : decode cX12_doPrints 252 = .ok (.aload_n 0, 1) := by decide +kernel
theorem dX12_doPrints_253 : decode cX12_doPrints 253 = .ok (.getfield 7, 3) := by decide +kernel
theorem dX12_doPrints_256 : decode cX12_doPrints 256 = .ok (.iload 6, 2) := by decide +kernel
theorem dX12_doPrints_258 : decode cX12_doPrints 258 = .ok (.iconst 2, 1) := by decide +kernel
theorem dX12_doPrints_259 : decode cX12_doPrints 259 = .ok (.iadd, 1) := by decide +kernel
theorem dX12_doPrints_260 : decode cX12_doPrints 260 = .ok (.iload 4, 2) := by decide +kernel
theorem dX12_doPrints_262 : decode cX12_doPrints 262 = .ok (.iastore, 1) := by decide +kernel
theorem dX12_doPrints_263 : decode cX12_doPrints 263 = .ok (.aload_n 0, 1) := by decide +kernel
theorem dX12_doPrints_264 : decode cX12_doPrints 264 = .ok (.getfield 7, 3) := by decide +kernel
theorem dX12_doPrints_267 : decode cX12_doPrints 267 = .ok (.bipush 93, 2) := by decide +kernel
theorem dX12_doPrints_269 : decode cX12_doPrints 269 = .ok (.dup2, 1) := by decide +kernel
theorem dX12_doPrints_270 : decode cX12_doPrints 270 = .ok (.iaload, 1) := by decide +kernel
theorem dX12_doPrints_271 : decode cX12_doPrints 271 = .ok (.iconst 1, 1) := by decide +kernel
theorem dX12_doPrints_272 : decode cX12_doPrints 272 = .ok (.iadd, 1) := by decide +kernel
theorem dX12_doPrints_273 : decode cX12_doPrints 273 = .ok (.iastore, 1) := by decide +kernel
theorem dX12_doPrints_274 : decode cX12_doPrints 274 = .ok (.aload_n 0, 1) := by decide +kernel
theorem dX12_doPrints_275 : decode cX12_doPrints 275 = .ok (.getfield 7, 3) := by decide +kernel
theorem dX12_doPrints_278 : decode cX12_doPrints 278 = .ok (.bipush 94, 2) := by decide +kernel
theorem dX12_doPrints_280 : decode cX12_doPrints 280 = .ok (.dup2, 1) := by decide +kernel
theorem dX12_doPrints_281 : decode cX12_doPrints 281 = .ok (.iaload, 1) := by decide +kernel
theorem dX12_doPrints_282 : decode cX12_doPrints 282 = .ok (.iload 5, 2) := by decide +kernel
theorem dX12_doPrints_284 : decode cX12_doPrints 284 = .ok (.iadd, 1) := by decide +kernel
theorem dX12_doPrints_285 : decode cX12_doPrints 285 = .ok (.iastore, 1) := by decide +kernel
theorem dX12_doPrints_286 : decode cX12_doPrints 286 = .ok (.aload_n 0, 1) := by decide +kernel
theorem dX12_doPrints_287 : decode cX12_doPrints 287 = .ok (.invokevirtual 166, 3) := by decide +kernel
theorem dX12_doPrints_290 : decode cX12_doPrints 290 = .ok (.aload_n 0, 1) := by decide +kernel
theorem dX12_doPrints_291 : decode cX12_doPrints 291 = .ok (.iload_n 1, 1) := by decide +kernel
theorem dX12_doPrints_292 : decode cX12_doPrints 292 = .ok (.iload 4, 2) := by decide +kernel
theorem dX12_doPrints_294 : decode cX12_doPrints 294 = .ok (.invokevirtual 126, 3) := by decide +kernel
theorem dX12_doPrints_297 : decode cX12_doPrints 297 = .ok (.aload_n 0, 1) := by decide +kernel
theorem dX12_doPrints_298 : decode cX12_doPrints 298 = .ok (.invokevirtual 169, 3) := by decide +kernel
theorem dX12_doPrints_301 : decode cX12_doPrints 301 = .ok (.iload 5, 2) := by decide +kernel
theorem dX12_doPrints_303 : decode cX12_doPrints 303 = .ok (.ireturn, 1) := by decide +kernel
theorem dX12_takeSheet_0 : decode cX12_takeSheet 0 = .ok (.iconst 0, 1) := by decide +kernel
theorem dX12_takeSheet_1 : decode cX12_takeSheet 1 = .ok (.istore_n 1, 1) := by decide +kernel
theorem dX12_takeSheet_2 : decode cX12_takeSheet 2 = .ok (.iload_n 1, 1) := by decide +kernel
theorem dX12_takeSheet_3 : decode cX12_takeSheet 3 = .ok (.bipush 16, 2) := by decide +kernel
theorem dX12_takeSheet_5 : decode cX12_takeSheet 5 = .ok (.if_icmp .ge 39, 3) := by decide +kernel
theorem dX12_takeSheet_8 : decode cX12_takeSheet 8 = .ok (.aload_n 0, 1) := by decide +kernel
theorem dX12_takeSheet_9 : decode cX12_takeSheet 9 = .ok (.getfield 22, 3) := by decide +kernel
theorem dX12_takeSheet_12 : decode cX12_takeSheet 12 = .ok (.iload_n 1, 1) := by decide +kernel
theorem dX12_takeSheet_13 : decode cX12_takeSheet 13 = .ok (.aload_n 0, 1) := by decide +kernel
theorem dX12_takeSheet_14 : decode cX12_takeSheet 14 = .ok (.getfield 7, 3) := by decide +kernel
theorem dX12_takeSheet_17 : decode cX12_takeSheet 17 = .ok (.bipush 59, 2) := by decide +kernel
theorem dX12_takeSheet_19 : decode cX12_takeSheet 19 = .ok (.iload_n 1, 1) := by decide +kernel
theorem dX12_takeSheet_20 : decode cX12_takeSheet 20 = .ok (.iadd, 1) := by decide +kernel
theorem dX12_takeSheet_21 : decode cX12_takeSheet 21 = .ok (.iaload, 1) := by decide +kernel
theorem dX12_takeSheet_22 : decode cX12_takeSheet 22 = .ok (.iastore, 1) := by decide +kernel
theorem dX12_takeSheet_23 : decode cX12_takeSheet 23 = .ok (.aload_n 0, 1) := by decide +kernel
theorem dX12_takeSheet_24 : decode cX12_takeSheet 24 = .ok (.getfield 25, 3) := by decide +kernel
theorem dX12_takeSheet_27 : decode cX12_takeSheet 27 = .ok (.iload_n 1, 1) := by decide +kernel
theorem dX12_takeSheet_28 : decode cX12_takeSheet 28 = .ok (.aload_n 0, 1) := by decide +kernel
theorem dX12_takeSheet_29 : decode cX12_takeSheet 29 = .ok (.getfield 7, 3) := by decide +kernel
theorem dX12_takeSheet_32 : decode cX12_takeSheet 32 = .ok (.bipush 75, 2) := by decide +kernel
theorem dX12_takeSheet_34 : decode cX12_takeSheet 34 = .ok (.iload_n 1, 1) := by decide +kernel
theorem dX12_takeSheet_35 : decode cX12_takeSheet 35 = .ok (.iadd, 1) := by decide +kernel
theorem dX12_takeSheet_36 : decode cX12_takeSheet 36 = .ok (.iaload, 1) := by decide +kernel
theorem dX12_takeSheet_37 : decode cX12_takeSheet 37 = .ok (.iastore, 1) := by decide +kernel
theorem dX12_takeSheet_38 : decode cX12_takeSheet 38 = .ok (.iinc 1 1, 3) := by decide +kernel
theorem dX12_takeSheet_41 : decode cX12_takeSheet 41 = .ok (.goto (-39), 3) := by decide +kernel
theorem dX12_takeSheet_44 : decode cX12_takeSheet 44 = .ok (.aload_n 0, 1) := by decide +kernel
theorem dX12_takeSheet_45 : decode cX12_takeSheet 45 = .ok (.aload_n 0, 1) := by decide +kernel
theorem dX12_takeSheet_46 : decode cX12_takeSheet 46 = .ok (.getfield 7, 3) := by decide +kernel
theorem dX12_takeSheet_49 : decode cX12_takeSheet 49 = .ok (.bipush 91, 2) := by decide +kernel
theorem dX12_takeSheet_51 : decode cX12_takeSheet 51 = .ok (.iaload, 1) := by decide +kernel
theorem dX12_takeSheet_52 : decode cX12_takeSheet 52 = .ok (.putfield 116, 3) := by decide +kernel
theorem dX12_takeSheet_55 : decode cX12_takeSheet 55 = .ok (.return_, 1) := by decide +kernel
theorem dX12_giveSheet_0 : decode cX12_giveSheet 0 = .ok (.iconst 0, 1) := by decide +kernel
theorem dX12_giveSheet_1 : decode cX12_giveSheet 1 = .ok (.istore_n 1, 1) := by decide +kernel
theorem dX12_giveSheet_2 : decode cX12_giveSheet 2 = .ok (.iload_n 1, 1) := by decide +kernel
theorem dX12_giveSheet_3 : decode cX12_giveSheet 3 = .ok (.bipush 16, 2) := by decide +kernel
theorem dX12_giveSheet_5 : decode cX12_giveSheet 5 = .ok (.if_icmp .ge 39, 3) := by decide +kernel
theorem dX12_giveSheet_8 : decode cX12_giveSheet 8 = .ok (.aload_n 0, 1) := by decide +kernel
theorem dX12_giveSheet_9 : decode cX12_giveSheet 9 = .ok (.getfield 7, 3) := by decide +kernel
theorem dX12_giveSheet_12 : decode cX12_giveSheet 12 = .ok (.bipush 59, 2) := by decide +kernel
theorem dX12_giveSheet_14 : decode cX12_giveSheet 14 = .ok (.iload_n 1, 1) := by decide +kernel
theorem dX12_giveSheet_15 : decode cX12_giveSheet 15 = .ok (.iadd, 1) := by decide +kernel
theorem dX12_giveSheet_16 : decode cX12_giveSheet 16 = .ok (.aload_n 0, 1) := by decide +kernel
theorem dX12_giveSheet_17 : decode cX12_giveSheet 17 = .ok (.getfield 22, 3) := by decide +kernel
theorem dX12_giveSheet_20 : decode cX12_giveSheet 20 = .ok (.iload_n 1, 1) := by decide +kernel
theorem dX12_giveSheet_21 : decode cX12_giveSheet 21 = .ok (.iaload, 1) := by decide +kernel
theorem dX12_giveSheet_22 : decode cX12_giveSheet 22 = .ok (.iastore, 1) := by decide +kernel
theorem dX12_giveSheet_23 : decode cX12_giveSheet 23 = .ok (.aload_n 0, 1) := by decide +kernel
theorem dX12_giveSheet_24 : decode cX12_giveSheet 24 = .ok (.getfield 7, 3) := by decide +kernel
theorem dX12_giveSheet_27 : decode cX12_giveSheet 27 = .ok (.bipush 75, 2) := by decide +kernel
theorem dX12_giveSheet_29 : decode cX12_giveSheet 29 = .ok (.iload_n 1, 1) := by decide +kernel
theorem dX12_giveSheet_30 : decode cX12_giveSheet 30 = .ok (.iadd, 1) := by decide +kernel
theorem dX12_giveSheet_31 : decode cX12_giveSheet 31 = .ok (.aload_n 0, 1) := by decide +kernel
theorem dX12_giveSheet_32 : decode cX12_giveSheet 32 = .ok (.getfield 25, 3) := by decide +kernel
theorem dX12_giveSheet_35 : decode cX12_giveSheet 35 = .ok (.iload_n 1, 1) := by decide +kernel
theorem dX12_giveSheet_36 : decode cX12_giveSheet 36 = .ok (.iaload, 1) := by decide +kernel
theorem dX12_giveSheet_37 : decode cX12_giveSheet 37 = .ok (.iastore, 1) := by decide +kernel
theorem dX12_giveSheet_38 : decode cX12_giveSheet 38 = .ok (.iinc 1 1, 3) := by decide +kernel
theorem dX12_giveSheet_41 : decode cX12_giveSheet 41 = .ok (.goto (-39), 3) := by decide +kernel
theorem dX12_giveSheet_44 : decode cX12_giveSheet 44 = .ok (.aload_n 0, 1) := by decide +kernel
theorem dX12_giveSheet_45 : decode cX12_giveSheet 45 = .ok (.getfield 7, 3) := by decide +kernel
theorem dX12_giveSheet_48 : decode cX12_giveSheet 48 = .ok (.bipush 91, 2) := by decide +kernel
theorem dX12_giveSheet_50 : decode cX12_giveSheet 50 = .ok (.aload_n 0, 1) := by decide +kernel
theorem dX12_giveSheet_51 : decode cX12_giveSheet 51 = .ok (.getfield 116, 3) := by decide +kernel
theorem dX12_giveSheet_54 : decode cX12_giveSheet 54 = .ok (.iastore, 1) := by decide +kernel
theorem dX12_giveSheet_55 : decode cX12_giveSheet 55 = .ok (.return_, 1) := by decide +kernel
theorem dX12_doNews_0 : decode cX12_doNews 0 = .ok (.aload_n 0, 1) := by decide +kernel
theorem dX12_doNews_1 : decode cX12_doNews 1 = .ok (.getfield 7, 3) := by decide +kernel
theorem dX12_doNews_4 : decode cX12_doNews 4 = .ok (.bipush 93, 2) := by decide +kernel
theorem dX12_doNews_6 : decode cX12_doNews 6 = .ok (.iaload, 1) := by decide +kernel
theorem dX12_doNews_7 : decode cX12_doNews 7 = .ok (.istore_n 1, 1) := by decide +kernel
theorem dX12_doNews_8 : decode cX12_doNews 8 = .ok (.aload_n 0, 1) := by decide +kernel
theorem dX12_doNews_9 : decode cX12_doNews 9 = .ok (.invokevirtual 123, 3) := by decide +kernel
theorem dX12_doNews_12 : decode cX12_doNews 12 = .ok (.aload_n 0, 1) := by decide +kernel
theorem dX12_doNews_13 : decode cX12_doNews 13 = .ok (.invokevirtual 169, 3) := by decide +kernel
theorem dX12_doNews_16 : decode cX12_doNews 16 = .ok (.aload_n 0, 1) := by decide +kernel
theorem dX12_doNews_17 : decode cX12_doNews 17 = .ok (.getfield 7, 3) := by decide +kernel
theorem dX12_doNews_20 : decode cX12_doNews 20 = .ok (.bipush 92, 2) := by decide +kernel
theorem dX12_doNews_22 : decode cX12_doNews 22 = .ok (.iconst 0, 1) := by decide +kernel
theorem dX12_doNews_23 : decode cX12_doNews 23 = .ok (.iastore, 1) := by decide +kernel
theorem dX12_doNews_24 : decode cX12_doNews 24 = .ok (.aload_n 0, 1) := by decide +kernel
theorem dX12_doNews_25 : decode cX12_doNews 25 = .ok (.getfield 7, 3) := by decide +kernel
theorem dX12_doNews_28 : decode cX12_doNews 28 = .ok (.bipush 93, 2) := by decide +kernel
theorem dX12_doNews_30 : decode cX12_doNews 30 = .ok (.iconst 0, 1) := by decide +kernel
theorem dX12_doNews_31 : decode cX12_doNews 31 = .ok (.iastore, 1) := by decide +kernel
theorem dX12_doNews_32 : decode cX12_doNews 32 = .ok (.aload_n 0, 1) := by decide +kernel
theorem dX12_doNews_33 : decode cX12_doNews 33 = .ok (.getfield 7, 3) := by decide +kernel
theorem dX12_doNews_36 : decode cX12_doNews 36 = .ok (.bipush 94, 2) := by decide +kernel
theorem dX12_doNews_38 : decode cX12_doNews 38 = .ok (.iconst 0, 1) := by decide +kernel
theorem dX12_doNews_39 : decode cX12_doNews 39 = .ok (.iastore, 1) := by decide +kernel
theorem dX12_doNews_40 : decode cX12_doNews 40 = .ok (.iload_n 1, 1) := by decide +kernel
theorem dX12_doNews_41 : decode cX12_doNews 41 = .ok (.ireturn, 1) := by decide +kernel
theorem dX12_prints_0 : decode cX12_prints 0 = .ok (.aload_n 0, 1) := by decide +kernel
theorem dX12_prints_1 : decode cX12_prints 1 = .ok (.invokevirtual 94, 3) := by decide +kernel
theorem dX12_prints_4 : decode cX12_prints 4 = .ok (.aload_n 0, 1) := by decide +kernel
theorem dX12_prints_5 : decode cX12_prints 5 = .ok (.aload_n 0, 1) := by decide +kernel
theorem dX12_prints_6 : decode cX12_prints 6 = .ok (.iload_n 1, 1) := by decide +kernel
theorem dX12_prints_7 : decode cX12_prints 7 = .ok (.iload_n 2, 1) := by decide +kernel
theorem dX12_prints_8 : decode cX12_prints 8 = .ok (.invokevirtual 172, 3) := by decide +kernel
theorem dX12_prints_11 : decode cX12_prints 11 = .ok (.invokevirtual 101, 3) := by decide +kernel
theorem dX12_prints_14 : decode cX12_prints 14 = .ok (.ireturn, 1) := by decide +kernel
theorem dX12_news_0 : decode cX12_news 0 = .ok (.aload_n 0, 1) := by decide +kernel
theorem dX12_news_1 : decode cX12_news 1 = .ok (.invokevirtual 94, 3) := by decide +kernel
theorem dX12_news_4 : decode cX12_news 4 = .ok (.aload_n 0, 1) := by decide +kernel
theorem dX12_news_5 : decode cX12_news 5 = .ok (.aload_n 0, 1) := by decide +kernel
theorem dX12_news_6 : decode cX12_news 6 = .ok (.invokevirtual 175, 3) := by decide +kernel
theorem dX12_news_9 : decode cX12_news 9 = .ok (.invokevirtual 101, 3) := by decide +kernel
theorem dX12_news_12 : decode cX12_news 12 = .ok (.ireturn, 1) := by decide +kernel
theorem dX12_wet_0 : decode cX12_wet 0 = .ok (.iconst 0, 1) := by decide +kernel
theorem dX12_wet_1 : decode cX12_wet 1 = .ok (.istore_n 2, 1) := by decide +kernel
theorem dX12_wet_2 : decode cX12_wet 2 = .ok (.iconst 0, 1) := by decide +kernel
theorem dX12_wet_3 : decode cX12_wet 3 = .ok (.istore_n 3, 1) := by decide +kernel
theorem dX12_wet_4 : decode cX12_wet 4 = .ok (.iload_n 3, 1) := by decide +kernel
theorem dX12_wet_5 : decode cX12_wet 5 = .ok (.aload_n 0, 1) := by decide +kernel
theorem dX12_wet_6 : decode cX12_wet 6 = .ok (.getfield 7, 3) := by decide +kernel
theorem dX12_wet_9 : decode cX12_wet 9 = .ok (.bipush 93, 2) := by decide +kernel
theorem dX12_wet_11 : decode cX12_wet 11 = .ok (.iaload, 1) := by decide +kernel
theorem dX12_wet_12 : decode cX12_wet 12 = .ok (.if_icmp .ge 82, 3) := by decide +kernel
theorem dX12_wet_15 : decode cX12_wet 15 = .ok (.aload_n 0, 1) := by decide +kernel
theorem dX12_wet_16 : decode cX12_wet 16 = .ok (.getfield 7, 3) := by decide +kernel
theorem dX12_wet_19 : decode cX12_wet 19 = .ok (.bipush 95, 2) := by decide +kernel
theorem dX12_wet_21 : decode cX12_wet 21 = .ok (.iconst 3, 1) := by decide +kernel
theorem dX12_wet_22 : decode cX12_wet 22 = .ok (.iload_n 3, 1) := by decide +kernel
theorem dX12_wet_23 : decode cX12_wet 23 = .ok (.imul, 1) := by decide +kernel
theorem dX12_wet_24 : decode cX12_wet 24 = .ok (.iadd, 1) := by decide +kernel
theorem dX12_wet_25 : decode cX12_wet 25 = .ok (.iconst 1, 1) := by decide +kernel
theorem dX12_wet_26 : decode cX12_wet 26 = .ok (.iadd, 1) := by decide +kernel
theorem dX12_wet_27 : decode cX12_wet 27 = .ok (.iaload, 1) := by decide +kernel
theorem dX12_wet_28 : decode cX12_wet 28 = .ok (.aload_n 0, 1) := by decide +kernel
theorem dX12_wet_29 : decode cX12_wet 29 = .ok (.aload_n 0, 1) := by decide +kernel
theorem dX12_wet_30 : decode cX12_wet 30 = .ok (.getfield 7, 3) := by decide +kernel
theorem dX12_wet_33 : decode cX12_wet 33 = .ok (.bipush 95, 2) := by decide +kernel
theorem dX12_wet_35 : decode cX12_wet 35 = .ok (.iconst 3, 1) := by decide +kernel
theorem dX12_wet_36 : decode cX12_wet 36 = .ok (.iload_n 3, 1) := by decide +kernel
theorem dX12_wet_37 : decode cX12_wet 37 = .ok (.imul, 1) := by decide +kernel
theorem dX12_wet_38 : decode cX12_wet 38 = .ok (.iadd, 1) := by decide +kernel
theorem dX12_wet_39 : decode cX12_wet 39 = .ok (.iaload, 1) := by decide +kernel
theorem dX12_wet_40 : decode cX12_wet 40 = .ok (.iconst 2, 1) := by decide +kernel
theorem dX12_wet_41 : decode cX12_wet 41 = .ok (.invokevirtual 75, 3) := by decide +kernel
theorem dX12_wet_44 : decode cX12_wet 44 = .ok (.iadd, 1) := by decide +kernel
theorem dX12_wet_45 : decode cX12_wet 45 = .ok (.aload_n 0, 1) := by decide +kernel
theorem dX12_wet_46 : decode cX12_wet 46 = .ok (.getfield 7, 3) := by decide +kernel
theorem dX12_wet_49 : decode cX12_wet 49 = .ok (.bipush 92, 2) := by decide +kernel
theorem dX12_wet_51 : decode cX12_wet 51 = .ok (.iaload, 1) := by decide +kernel
theorem dX12_wet_52 : decode cX12_wet 52 = .ok (.isub, 1) := by decide +kernel
theorem dX12_wet_53 : decode cX12_wet 53 = .ok (.istore 4, 2) := by decide +kernel
theorem dX12_wet_55 : decode cX12_wet 55 = .ok (.aload_n 0, 1) := by decide +kernel
theorem dX12_wet_56 : decode cX12_wet 56 = .ok (.getfield 7, 3) := by decide +kernel
theorem dX12_wet_59 : decode cX12_wet 59 = .ok (.bipush 95, 2) := by decide +kernel
theorem dX12_wet_61 : decode cX12_wet 61 = .ok (.iconst 3, 1) := by decide +kernel
theorem dX12_wet_62 : decode cX12_wet 62 = .ok (.iload_n 3, 1) := by decide +kernel
theorem dX12_wet_63 : decode cX12_wet 63 = .ok (.imul, 1) := by decide +kernel
theorem dX12_wet_64 : decode cX12_wet 64 = .ok (.iadd, 1) := by decide +kernel
theorem dX12_wet_65 : decode cX12_wet 65 = .ok (.iconst 2, 1) := by decide +kernel
theorem dX12_wet_66 : decode cX12_wet 66 = .ok (.iadd, 1) := by decide +kernel
theorem dX12_wet_67 : decode cX12_wet 67 = .ok (.iaload, 1) := by decide +kernel
theorem dX12_wet_68 : decode cX12_wet 68 = .ok (.iload_n 1, 1) := by decide +kernel
theorem dX12_wet_69 : decode cX12_wet 69 = .ok (.invokestatic 71, 3) := by decide +kernel
theorem dX12_wet_72 : decode cX12_wet 72 = .ok (.ifCond .eq 14, 3) := by decide +kernel
theorem dX12_wet_75 : decode cX12_wet 75 = .ok (.iload 4, 2) := by decide +kernel
theorem dX12_wet_77 : decode cX12_wet 77 = .ok (.iload_n 2, 1) := by decide +kernel
theorem dX12_wet_78 : decode cX12_wet 78 = .ok (.if_icmp .le 8, 3) := by decide +kernel
theorem dX12_wet_81 : decode cX12_wet 81 = .ok (.iload 4, 2) := by decide +kernel
theorem dX12_wet_83 : decode cX12_wet 83 = .ok (.goto 4, 3) := by decide +kernel
theorem dX12_wet_86 : decode cX12_wet 86 = .ok (.iload_n 2, 1) := by decide +kernel
theorem dX12_wet_87 : decode cX12_wet 87 = .ok (.istore_n 2, 1) := by decide +kernel
theorem dX12_wet_88 : decode cX12_wet 88 = .ok (.iinc 3 1, 3) := by decide +kernel
theorem dX12_wet_91 : decode cX12_wet 91 = .ok (.goto (-87), 3) := by decide +kernel
theorem dX12_wet_94 : decode cX12_wet 94 = .ok (.iload_n 2, 1) := by decide +kernel
theorem dX12_wet_95 : decode cX12_wet 95 = .ok (.ireturn, 1) := by decide +kernel
theorem dX12_ofCell_0 : decode cX12_ofCell 0 = .ok (.iload_n 2, 1) := by decide +kernel
theorem dX12_ofCell_1 : decode cX12_ofCell 1 = .ok (.ifCond .ne 15, 3) := by decide +kernel
theorem dX12_ofCell_4 : decode cX12_ofCell 4 = .ok (.aload_n 0, 1) := by decide +kernel
theorem dX12_ofCell_5 : decode cX12_ofCell 5 = .ok (.getfield 7, 3) := by decide +kernel
theorem dX12_ofCell_8 : decode cX12_ofCell 8 = .ok (.bipush 59, 2) := by decide +kernel
theorem dX12_ofCell_10 : decode cX12_ofCell 10 = .ok (.iload_n 1, 1) := by decide +kernel
theorem dX12_ofCell_11 : decode cX12_ofCell 11 = .ok (.iadd, 1) := by decide +kernel
theorem dX12_ofCell_12 : decode cX12_ofCell 12 = .ok (.iaload, 1) := by decide +kernel
theorem dX12_ofCell_13 : decode cX12_ofCell 13 = .ok (.goto 44, 3) := by decide +kernel
theorem dX12_ofCell_16 : decode cX12_ofCell 16 = .ok (.iload_n 2, 1) := by decide +kernel
theorem dX12_ofCell_17 : decode cX12_ofCell 17 = .ok (.iconst 1, 1) := by decide +kernel
theorem dX12_ofCell_18 : decode cX12_ofCell 18 = .ok (.if_icmp .ne 15, 3) := by decide +kernel
theorem dX12_ofCell_21 : decode cX12_ofCell 21 = .ok (.aload_n 0, 1) := by decide +kernel
theorem dX12_ofCell_22 : decode cX12_ofCell 22 = .ok (.getfield 7, 3) := by decide +kernel
theorem dX12_ofCell_25 : decode cX12_ofCell 25 = .ok (.bipush 75, 2) := by decide +kernel
theorem dX12_ofCell_27 : decode cX12_ofCell 27 = .ok (.iload_n 1, 1) := by decide +kernel
theorem dX12_ofCell_28 : decode cX12_ofCell 28 = .ok (.iadd, 1) := by decide +kernel
theorem dX12_ofCell_29 : decode cX12_ofCell 29 = .ok (.iaload, 1) := by decide +kernel
theorem dX12_ofCell_30 : decode cX12_ofCell 30 = .ok (.goto 27, 3) := by decide +kernel
theorem dX12_ofCell_33 : decode cX12_ofCell 33 = .ok (.iload_n 2, 1) := by decide +kernel
theorem dX12_ofCell_34 : decode cX12_ofCell 34 = .ok (.iconst 2, 1) := by decide +kernel
theorem dX12_ofCell_35 : decode cX12_ofCell 35 = .ok (.if_icmp .ne 17, 3) := by decide +kernel
theorem dX12_ofCell_38 : decode cX12_ofCell 38 = .ok (.aload_n 0, 1) := by decide +kernel
theorem dX12_ofCell_39 : decode cX12_ofCell 39 = .ok (.getfield 7, 3) := by decide +kernel
theorem dX12_ofCell_42 : decode cX12_ofCell 42 = .ok (.bipush 91, 2) := by decide +kernel
theorem dX12_ofCell_44 : decode cX12_ofCell 44 = .ok (.iaload, 1) := by decide +kernel
theorem dX12_ofCell_45 : decode cX12_ofCell 45 = .ok (.iload_n 1, 1) := by decide +kernel
theorem dX12_ofCell_46 : decode cX12_ofCell 46 = .ok (.ishr, 1) := by decide +kernel
theorem dX12_ofCell_47 : decode cX12_ofCell 47 = .ok (.iconst 1, 1) := by decide +kernel
theorem dX12_ofCell_48 : decode cX12_ofCell 48 = .ok (.iand, 1) := by decide +kernel
theorem dX12_ofCell_49 : decode cX12_ofCell 49 = .ok (.goto 8, 3) := by decide +kernel
theorem dX12_ofCell_52 : decode cX12_ofCell 52 = .ok (.aload_n 0, 1) := by decide +kernel
theorem dX12_ofCell_53 : decode cX12_ofCell 53 = .ok (.iload_n 1, 1) := by decide +kernel
theorem dX12_ofCell_54 : decode cX12_ofCell 54 = .ok (.invokevirtual 178, 3) := by decide +kernel
theorem dX12_ofCell_57 : decode cX12_ofCell 57 = .ok (.ireturn, 1) := by decide +kernel
theorem dX12_cell_0 : decode cX12_cell 0 = .ok (.iload_n 1, 1) := by decide +kernel
theorem dX12_cell_1 : decode cX12_cell 1 = .ok (.iconst 0, 1) := by decide +kernel
theorem dX12_cell_2 : decode cX12_cell 2 = .ok (.bipush 15, 2) := by decide +kernel
theorem dX12_cell_4 : decode cX12_cell 4 = .ok (.invokestatic 67, 3) := by decide +kernel
theorem dX12_cell_7 : decode cX12_cell 7 = .ok (.ifCond .eq 21, 3) := by decide +kernel
theorem dX12_cell_10 : decode cX12_cell 10 = .ok (.iload_n 2, 1) := by decide +kernel
theorem dX12_cell_11 : decode cX12_cell 11 = .ok (.iconst 0, 1) := by decide +kernel
theorem dX12_cell_12 : decode cX12_cell 12 = .ok (.iconst 3, 1) := by decide +kernel
theorem dX12_cell_13 : decode cX12_cell 13 = .ok (.invokestatic 67, 3) := by decide +kernel
theorem dX12_cell_16 : decode cX12_cell 16 = .ok (.ifCond .eq 12, 3) := by decide +kernel
theorem dX12_cell_19 : decode cX12_cell 19 = .ok (.aload_n 0, 1) := by decide +kernel
theorem dX12_cell_20 : decode cX12_cell 20 = .ok (.iload_n 1, 1) := by decide +kernel
theorem dX12_cell_21 : decode cX12_cell 21 = .ok (.iload_n 2, 1) := by decide +kernel
theorem dX12_cell_22 : decode cX12_cell 22 = .ok (.invokevirtual 181, 3) := by decide +kernel
theorem dX12_cell_25 : decode cX12_cell 25 = .ok (.goto 9, 3) := by decide +kernel
theorem dX12_cell_28 : decode cX12_cell 28 = .ok (.aload_n 0, 1) := by decide +kernel
theorem dX12_cell_29 : decode cX12_cell 29 = .ok (.bipush (-2), 2) := by decide +kernel
theorem dX12_cell_31 : decode cX12_cell 31 = .ok (.invokevirtual 60, 3) := by decide +kernel
theorem dX12_cell_34 : decode cX12_cell 34 = .ok (.ireturn, 1) := by decide +kernel
theorem dX12_ofHand_0 : decode cX12_ofHand 0 = .ok (.iload_n 1, 1) := by decide +kernel
theorem dX12_ofHand_1 : decode cX12_ofHand 1 = .ok (.iconst 3, 1) := by decide +kernel
theorem dX12_ofHand_2 : decode cX12_ofHand 2 = .ok (.if_icmp .ge 13, 3) := by decide +kernel
theorem dX12_ofHand_5 : decode cX12_ofHand 5 = .ok (.aload_n 0, 1) := by decide +kernel
theorem dX12_ofHand_6 : decode cX12_ofHand 6 = .ok (.getfield 7, 3) := by decide +kernel
theorem dX12_ofHand_9 : decode cX12_ofHand 9 = .ok (.bipush 92, 2) := by decide +kernel
theorem dX12_ofHand_11 : decode cX12_ofHand 11 = .ok (.iload_n 1, 1) := by decide +kernel
theorem dX12_ofHand_12 : decode cX12_ofHand 12 = .ok (.iadd, 1) := by decide +kernel
theorem dX12_ofHand_13 : decode cX12_ofHand 13 = .ok (.iaload, 1) := by decide +kernel
theorem dX12_ofHand_14 : decode cX12_ofHand 14 = .ok (.ireturn, 1) := by decide +kernel
theorem dX12_ofHand_15 : decode cX12_ofHand 15 = .ok (.iload_n 1, 1) := by decide +kernel
theorem dX12_ofHand_16 : decode cX12_ofHand 16 = .ok (.iconst 3, 1) := by decide +kernel
theorem dX12_ofHand_17 : decode cX12_ofHand 17 = .ok (.if_icmp .ne 12, 3) := by decide +kernel
theorem dX12_ofHand_20 : decode cX12_ofHand 20 = .ok (.aload_n 0, 1) := by decide +kernel
theorem dX12_ofHand_21 : decode cX12_ofHand 21 = .ok (.invokevirtual 166, 3) := by decide +kernel
theorem dX12_ofHand_24 : decode cX12_ofHand 24 = .ok (.aload_n 0, 1) := by decide +kernel
theorem dX12_ofHand_25 : decode cX12_ofHand 25 = .ok (.invokevirtual 145, 3) := by decide +kernel
theorem dX12_ofHand_28 : decode cX12_ofHand 28 = .ok (.ireturn, 1) := by decide +kernel
theorem dX12_ofHand_29 : decode cX12_ofHand 29 = .ok (.iconst 0, 1) := by decide +kernel
theorem dX12_ofHand_30 : decode cX12_ofHand 30 = .ok (.istore_n 2, 1) := by decide +kernel
theorem dX12_ofHand_31 : decode cX12_ofHand 31 = .ok (.iconst 0, 1) := by decide +kernel
theorem dX12_ofHand_32 : decode cX12_ofHand 32 = .ok (.istore_n 3, 1) := by decide +kernel
theorem dX12_ofHand_33 : decode cX12_ofHand 33 = .ok (.iload_n 3, 1) := by decide +kernel
theorem dX12_ofHand_34 : decode cX12_ofHand 34 = .ok (.bipush 16, 2) := by decide +kernel
theorem dX12_ofHand_36 : decode cX12_ofHand 36 = .ok (.if_icmp .ge 44, 3) := by decide +kernel
theorem dX12_ofHand_39 : decode cX12_ofHand 39 = .ok (.iload_n 2, 1) := by decide +kernel
theorem dX12_ofHand_40 : decode cX12_ofHand 40 = .ok (.aload_n 0, 1) := by decide +kernel
theorem dX12_ofHand_41 : decode cX12_ofHand 41 = .ok (.iload_n 3, 1) := by decide +kernel
theorem dX12_ofHand_42 : decode cX12_ofHand 42 = .ok (.iload_n 1, 1) := by decide +kernel
theorem dX12_ofHand_43 : decode cX12_ofHand 43 = .ok (.iconst 4, 1) := by decide +kernel
theorem dX12_ofHand_44 : decode cX12_ofHand 44 = .ok (.if_icmp .ne 7, 3) := by decide +kernel
theorem dX12_ofHand_47 : decode cX12_ofHand 47 = .ok (.iconst 3, 1) := by decide +kernel
theorem dX12_ofHand_48 : decode cX12_ofHand 48 = .ok (.goto 13, 3) := by decide +kernel
theorem dX12_ofHand_51 : decode cX12_ofHand 51 = .ok (.iload_n 1, 1) := by decide +kernel
theorem dX12_ofHand_52 : decode cX12_ofHand 52 = .ok (.iconst 5, 1) := by decide +kernel
theorem dX12_ofHand_53 : decode cX12_ofHand 53 = .ok (.if_icmp .ne 7, 3) := by decide +kernel
theorem dX12_ofHand_56 : decode cX12_ofHand 56 = .ok (.iconst 1, 1) := by decide +kernel
theorem dX12_ofHand_57 : decode cX12_ofHand 57 = .ok (.goto 4, 3) := by decide +kernel
theorem dX12_ofHand_60 : decode cX12_ofHand 60 = .ok (.iconst 2, 1) := by decide +kernel
theorem dX12_ofHand_61 : decode cX12_ofHand 61 = .ok (.invokevirtual 181, 3) := by decide +kernel
theorem dX12_ofHand_64 : decode cX12_ofHand 64 = .ok (.ifCond .le 7, 3) := by decide +kernel
theorem dX12_ofHand_67 : decode cX12_ofHand 67 = .ok (.iconst 1, 1) := by decide +kernel
theorem dX12_ofHand_68 : decode cX12_ofHand 68 = .ok (.goto 4, 3) := by decide +kernel
theorem dX12_ofHand_71 : decode cX12_ofHand 71 = .ok (.iconst 0, 1) := by decide +kernel
theorem dX12_ofHand_72 : decode cX12_ofHand 72 = .ok (.iadd, 1) := by decide +kernel
theorem dX12_ofHand_73 : decode cX12_ofHand 73 = .ok (.istore_n 2, 1) := by decide +kernel
theorem dX12_ofHand_74 : decode cX12_ofHand 74 = .ok (.iinc 3 1, 3) := by decide +kernel
theorem dX12_ofHand_77 : decode cX12_ofHand 77 = .ok (.goto (-44), 3) := by decide +kernel
theorem dX12_ofHand_80 : decode cX12_ofHand 80 = .ok (.iload_n 2, 1) := by decide +kernel
