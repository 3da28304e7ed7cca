theorem dX11_told_83 : decode cX11_told 83 = .ok (.bipush (-2), 2) := by decide +kernel
theorem dX11_told_85 : decode cX11_told 85 = .ok (.invokevirtual 64, 3) := by decide +kernel
theorem dX11_told_88 : decode cX11_told 88 = .ok (.ireturn, 1) := by decide +kernel
theorem dX11_digest_0 : decode cX11_digest 0 = .ok (.ldc2_w 277, 3) := by decide +kernel
theorem dX11_digest_3 : decode cX11_digest 3 = .ok (.lstore_n 1, 1) := by decide +kernel
theorem dX11_digest_4 : decode cX11_digest 4 = .ok (.iconst 0, 1) := by decide +kernel
theorem dX11_digest_5 : decode cX11_digest 5 = .ok (.istore_n 3, 1) := by decide +kernel
theorem dX11_digest_6 : decode cX11_digest 6 = .ok (.iload_n 3, 1) := by decide +kernel
theorem dX11_digest_7 : decode cX11_digest 7 = .ok (.iconst 5, 1) := by decide +kernel
theorem dX11_digest_8 : decode cX11_digest 8 = .ok (.if_icmp .gt 22, 3) := by decide +kernel
theorem dX11_digest_11 : decode cX11_digest 11 = .ok (.ldc2_w 279, 3) := by decide +kernel
theorem dX11_digest_14 : decode cX11_digest 14 = .ok (.lload_n 1, 1) := by decide +kernel
theorem dX11_digest_15 : decode cX11_digest 15 = .ok (.lmul, 1) := by decide +kernel
theorem dX11_digest_16 : decode cX11_digest 16 = .ok (.aload_n 0, 1) := by decide +kernel
theorem dX11_digest_17 : decode cX11_digest 17 = .ok (.iload_n 3, 1) := by decide +kernel
theorem dX11_digest_18 : decode cX11_digest 18 = .ok (.invokevirtual 281, 3) := by decide +kernel
theorem dX11_digest_21 : decode cX11_digest 21 = .ok (.i2l, 1) := by decide +kernel
theorem dX11_digest_22 : decode cX11_digest 22 = .ok (.ladd, 1) := by decide +kernel
theorem dX11_digest_23 : decode cX11_digest 23 = .ok (.lstore_n 1, 1) := by decide +kernel
theorem dX11_digest_24 : decode cX11_digest 24 = .ok (.iinc 3 1, 3) := by decide +kernel
theorem dX11_digest_27 : decode cX11_digest 27 = .ok (.goto (-21), 3) := by decide +kernel
theorem dX11_digest_30 : decode cX11_digest 30 = .ok (.iconst 0, 1) := by decide +kernel
theorem dX11_digest_31 : decode cX11_digest 31 = .ok (.istore_n 3, 1) := by decide +kernel
theorem dX11_digest_32 : decode cX11_digest 32 = .ok (.iload_n 3, 1) := by decide +kernel
theorem dX11_digest_33 : decode cX11_digest 33 = .ok (.aload_n 0, 1) := by decide +kernel
theorem dX11_digest_34 : decode cX11_digest 34 = .ok (.getfield 10, 3) := by decide +kernel
theorem dX11_digest_37 : decode cX11_digest 37 = .ok (.getfield 25, 3) := by decide +kernel
theorem dX11_digest_40 : decode cX11_digest 40 = .ok (.getfield 276, 3) := by decide +kernel
theorem dX11_digest_43 : decode cX11_digest 43 = .ok (.if_icmp .ge 40, 3) := by decide +kernel
theorem dX11_digest_46 : decode cX11_digest 46 = .ok (.iconst 0, 1) := by decide +kernel
theorem dX11_digest_47 : decode cX11_digest 47 = .ok (.istore 4, 2) := by decide +kernel
theorem dX11_digest_49 : decode cX11_digest 49 = .ok (.iload 4, 2) := by decide +kernel
theorem dX11_digest_51 : decode cX11_digest 51 = .ok (.bipush 7, 2) := by decide +kernel
theorem dX11_digest_53 : decode cX11_digest 53 = .ok (.if_icmp .gt 24, 3) := by decide +kernel
theorem dX11_digest_56 : decode cX11_digest 56 = .ok (.ldc2_w 279, 3) := by decide +kernel
theorem dX11_digest_59 : decode cX11_digest 59 = .ok (.lload_n 1, 1) := by decide +kernel
theorem dX11_digest_60 : decode cX11_digest 60 = .ok (.lmul, 1) := by decide +kernel
theorem dX11_digest_61 : decode cX11_digest 61 = .ok (.aload_n 0, 1) := by decide +kernel
theorem dX11_digest_62 : decode cX11_digest 62 = .ok (.iload_n 3, 1) := by decide +kernel
theorem dX11_digest_63 : decode cX11_digest 63 = .ok (.iload 4, 2) := by decide +kernel
theorem dX11_digest_65 : decode cX11_digest 65 = .ok (.invokevirtual 284, 3) := by decide +kernel
theorem dX11_digest_68 : decode cX11_digest 68 = .ok (.i2l, 1) := by decide +kernel
theorem dX11_digest_69 : decode cX11_digest 69 = .ok (.ladd, 1) := by decide +kernel
theorem dX11_digest_70 : decode cX11_digest 70 = .ok (.lstore_n 1, 1) := by decide +kernel
theorem dX11_digest_71 : decode cX11_digest 71 = .ok (.iinc 4 1, 3) := by decide +kernel
theorem dX11_digest_74 : decode cX11_digest 74 = .ok (.goto (-25), 3) := by decide +kernel
theorem dX11_digest_77 : decode cX11_digest 77 = .ok (.iinc 3 1, 3) := by decide +kernel
theorem dX11_digest_80 : decode cX11_digest 80 = .ok (.goto (-48), 3) := by decide +kernel
theorem dX11_digest_83 : decode cX11_digest 83 = .ok (.iconst 0, 1) := by decide +kernel
theorem dX11_digest_84 : decode cX11_digest 84 = .ok (.istore_n 3, 1) := by decide +kernel
theorem dX11_digest_85 : decode cX11_digest 85 = .ok (.iload_n 3, 1) := by decide +kernel
theorem dX11_digest_86 : decode cX11_digest 86 = .ok (.bipush 16, 2) := by decide +kernel
theorem dX11_digest_88 : decode cX11_digest 88 = .ok (.if_icmp .ge 28, 3) := by decide +kernel
theorem dX11_digest_91 : decode cX11_digest 91 = .ok (.ldc2_w 279, 3) := by decide +kernel
theorem dX11_digest_94 : decode cX11_digest 94 = .ok (.lload_n 1, 1) := by decide +kernel
theorem dX11_digest_95 : decode cX11_digest 95 = .ok (.lmul, 1) := by decide +kernel
theorem dX11_digest_96 : decode cX11_digest 96 = .ok (.aload_n 0, 1) := by decide +kernel
theorem dX11_digest_97 : decode cX11_digest 97 = .ok (.getfield 10, 3) := by decide +kernel
theorem dX11_digest_100 : decode cX11_digest 100 = .ok (.getfield 103, 3) := by decide +kernel
theorem dX11_digest_103 : decode cX11_digest 103 = .ok (.iload_n 3, 1) := by decide +kernel
theorem dX11_digest_104 : decode cX11_digest 104 = .ok (.invokestatic 107, 3) := by decide +kernel
theorem dX11_digest_107 : decode cX11_digest 107 = .ok (.i2l, 1) := by decide +kernel
theorem dX11_digest_108 : decode cX11_digest 108 = .ok (.ladd, 1) := by decide +kernel
theorem dX11_digest_109 : decode cX11_digest 109 = .ok (.lstore_n 1, 1) := by decide +kernel
theorem dX11_digest_110 : decode cX11_digest 110 = .ok (.iinc 3 1, 3) := by decide +kernel
theorem dX11_digest_113 : decode cX11_digest 113 = .ok (.goto (-28), 3) := by decide +kernel
theorem dX11_digest_116 : decode cX11_digest 116 = .ok (.ldc2_w 279, 3) := by decide +kernel
theorem dX11_digest_119 : decode cX11_digest 119 = .ok (.lload_n 1, 1) := by decide +kernel
theorem dX11_digest_120 : decode cX11_digest 120 = .ok (.lmul, 1) := by decide +kernel
theorem dX11_digest_121 : decode cX11_digest 121 = .ok (.aload_n 0, 1) := by decide +kernel
theorem dX11_digest_122 : decode cX11_digest 122 = .ok (.invokevirtual 287, 3) := by decide +kernel
theorem dX11_digest_125 : decode cX11_digest 125 = .ok (.i2l, 1) := by decide +kernel
theorem dX11_digest_126 : decode cX11_digest 126 = .ok (.ladd, 1) := by decide +kernel
theorem dX11_digest_127 : decode cX11_digest 127 = .ok (.lstore_n 1, 1) := by decide +kernel
theorem dX11_digest_128 : decode cX11_digest 128 = .ok (.iconst 0, 1) := by decide +kernel
theorem dX11_digest_129 : decode cX11_digest 129 = .ok (.istore_n 3, 1) := by decide +kernel
theorem dX11_digest_130 : decode cX11_digest 130 = .ok (.iload_n 3, 1) := by decide +kernel
theorem dX11_digest_131 : decode cX11_digest 131 = .ok (.bipush 6, 2) := by decide +kernel
theorem dX11_digest_133 : decode cX11_digest 133 = .ok (.if_icmp .gt 22, 3) := by decide +kernel
theorem dX11_digest_136 : decode cX11_digest 136 = .ok (.ldc2_w 279, 3) := by decide +kernel
theorem dX11_digest_139 : decode cX11_digest 139 = .ok (.lload_n 1, 1) := by decide +kernel
theorem dX11_digest_140 : decode cX11_digest 140 = .ok (.lmul, 1) := by decide +kernel
theorem dX11_digest_141 : decode cX11_digest 141 = .ok (.aload_n 0, 1) := by decide +kernel
theorem dX11_digest_142 : decode cX11_digest 142 = .ok (.iload_n 3, 1) := by decide +kernel
theorem dX11_digest_143 : decode cX11_digest 143 = .ok (.invokevirtual 290, 3) := by decide +kernel
theorem dX11_digest_146 : decode cX11_digest 146 = .ok (.i2l, 1) := by decide +kernel
theorem dX11_digest_147 : decode cX11_digest 147 = .ok (.ladd, 1) := by decide +kernel
theorem dX11_digest_148 : decode cX11_digest 148 = .ok (.lstore_n 1, 1) := by decide +kernel
theorem dX11_digest_149 : decode cX11_digest 149 = .ok (.iinc 3 1, 3) := by decide +kernel
theorem dX11_digest_152 : decode cX11_digest 152 = .ok (.goto (-22), 3) := by decide +kernel
theorem dX11_digest_155 : decode cX11_digest 155 = .ok (.iconst 0, 1) := by decide +kernel
theorem dX11_digest_156 : decode cX11_digest 156 = .ok (.istore_n 3, 1) := by decide +kernel
theorem dX11_digest_157 : decode cX11_digest 157 = .ok (.iload_n 3, 1) := by decide +kernel
theorem dX11_digest_158 : decode cX11_digest 158 = .ok (.bipush 16, 2) := by decide +kernel
theorem dX11_digest_160 : decode cX11_digest 160 = .ok (.if_icmp .ge 39, 3) := by decide +kernel
theorem dX11_digest_163 : decode cX11_digest 163 = .ok (.iconst 0, 1) := by decide +kernel
theorem dX11_digest_164 : decode cX11_digest 164 = .ok (.istore 4, 2) := by decide +kernel
theorem dX11_digest_166 : decode cX11_digest 166 = .ok (.iload 4, 2) := by decide +kernel
theorem dX11_digest_168 : decode cX11_digest 168 = .ok (.iconst 3, 1) := by decide +kernel
theorem dX11_digest_169 : decode cX11_digest 169 = .ok (.if_icmp .gt 24, 3) := by decide +kernel
theorem dX11_digest_172 : decode cX11_digest 172 = .ok (.ldc2_w 279, 3) := by decide +kernel
theorem dX11_digest_175 : decode cX11_digest 175 = .ok (.lload_n 1, 1) := by decide +kernel
theorem dX11_digest_176 : decode cX11_digest 176 = .ok (.lmul, 1) := by decide +kernel
theorem dX11_digest_177 : decode cX11_digest 177 = .ok (.aload_n 0, 1) := by decide +kernel
theorem dX11_digest_178 : decode cX11_digest 178 = .ok (.iload_n 3, 1) := by decide +kernel
theorem dX11_digest_179 : decode cX11_digest 179 = .ok (.iload 4, 2) := by decide +kernel
theorem dX11_digest_181 : decode cX11_digest 181 = .ok (.invokevirtual 293, 3) := by decide +kernel
theorem dX11_digest_184 : decode cX11_digest 184 = .ok (.i2l, 1) := by decide +kernel
theorem dX11_digest_185 : decode cX11_digest 185 = .ok (.ladd, 1) := by decide +kernel
theorem dX11_digest_186 : decode cX11_digest 186 = .ok (.lstore_n 1, 1) := by decide +kernel
theorem dX11_digest_187 : decode cX11_digest 187 = .ok (.iinc 4 1, 3) := by decide +kernel
theorem dX11_digest_190 : decode cX11_digest 190 = .ok (.goto (-24), 3) := by decide +kernel
theorem dX11_digest_193 : decode cX11_digest 193 = .ok (.iinc 3 1, 3) := by decide +kernel
theorem dX11_digest_196 : decode cX11_digest 196 = .ok (.goto (-39), 3) := by decide +kernel
theorem dX11_digest_199 : decode cX11_digest 199 = .ok (.iconst 0, 1) := by decide +kernel
theorem dX11_digest_200 : decode cX11_digest 200 = .ok (.istore_n 3, 1) := by decide +kernel
theorem dX11_digest_201 : decode cX11_digest 201 = .ok (.iload_n 3, 1) := by decide +kernel
theorem dX11_digest_202 : decode cX11_digest 202 = .ok (.aload_n 0, 1) := by decide +kernel
theorem dX11_digest_203 : decode cX11_digest 203 = .ok (.getfield 10, 3) := by decide +kernel
theorem dX11_digest_206 : decode cX11_digest 206 = .ok (.getfield 195, 3) := by decide +kernel
theorem dX11_digest_209 : decode cX11_digest 209 = .ok (.getfield 229, 3) := by decide +kernel
theorem dX11_digest_212 : decode cX11_digest 212 = .ok (.if_icmp .ge 39, 3) := by decide +kernel
theorem dX11_digest_215 : decode cX11_digest 215 = .ok (.iconst 0, 1) := by decide +kernel
theorem dX11_digest_216 : decode cX11_digest 216 = .ok (.istore 4, 2) := by decide +kernel
theorem dX11_digest_218 : decode cX11_digest 218 = .ok (.iload 4, 2) := by decide +kernel
theorem dX11_digest_220 : decode cX11_digest 220 = .ok (.iconst 2, 1) := by decide +kernel
theorem dX11_digest_221 : decode cX11_digest 221 = .ok (.if_icmp .gt 24, 3) := by decide +kernel
theorem dX11_digest_224 : decode cX11_digest 224 = .ok (.ldc2_w 279, 3) := by decide +kernel
theorem dX11_digest_227 : decode cX11_digest 227 = .ok (.lload_n 1, 1) := by decide +kernel
theorem dX11_digest_228 : decode cX11_digest 228 = .ok (.lmul, 1) := by decide +kernel
theorem dX11_digest_229 : decode cX11_digest 229 = .ok (.aload_n 0, 1) := by decide +kernel
theorem dX11_digest_230 : decode cX11_digest 230 = .ok (.iload_n 3, 1) := by decide +kernel
theorem dX11_digest_231 : decode cX11_digest 231 = .ok (.iload 4, 2) := by decide +kernel
theorem dX11_digest_233 : decode cX11_digest 233 = .ok (.invokevirtual 296, 3) := by decide +kernel
theorem dX11_digest_236 : decode cX11_digest 236 = .ok (.i2l, 1) := by decide +kernel
theorem dX11_digest_237 : decode cX11_digest 237 = .ok (.ladd, 1) := by decide +kernel
theorem dX11_digest_238 : decode cX11_digest 238 = .ok (.lstore_n 1, 1) := by decide +kernel
theorem dX11_digest_239 : decode cX11_digest 239 = .ok (.iinc 4 1, 3) := by decide +kernel
theorem dX11_digest_242 : decode cX11_digest 242 = .ok (.goto (-24), 3) := by decide +kernel
theorem dX11_digest_245 : decode cX11_digest 245 = .ok (.iinc 3 1, 3) := by decide +kernel
theorem dX11_digest_248 : decode cX11_digest 248 = .ok (.goto (-47), 3) := by decide +kernel
theorem dX11_digest_251 : decode cX11_digest 251 = .ok (.lload_n 1, 1) := by decide +kernel
theorem dX11_digest_252 : decode cX11_digest 252 = .ok (.lreturn, 1) := by decide +kernel
theorem dX11_within_0 : decode cX11_within 0 = .ok (.iload_n 0, 1) := by decide +kernel
theorem dX11_within_1 : decode cX11_within 1 = .ok (.iload_n 1, 1) := by decide +kernel
theorem dX11_within_2 : decode cX11_within 2 = .ok (.if_icmp .lt 12, 3) := by decide +kernel
theorem dX11_within_5 : decode cX11_within 5 = .ok (.iload_n 0, 1) := by decide +kernel
theorem dX11_within_6 : decode cX11_within 6 = .ok (.iload_n 2, 1) := by decide +kernel
theorem dX11_within_7 : decode cX11_within 7 = .ok (.if_icmp .gt 7, 3) := by decide +kernel
theorem dX11_within_10 : decode cX11_within 10 = .ok (.iconst 1, 1) := by decide +kernel
theorem dX11_within_11 : decode cX11_within 11 = .ok (.goto 4, 3) := by decide +kernel
theorem dX11_within_14 : decode cX11_within 14 = .ok (.iconst 0, 1) := by decide +kernel
theorem dX11_within_15 : decode cX11_within 15 = .ok (.ireturn, 1) := by decide +kernel
theorem dX11_refuse_0 : decode cX11_refuse 0 = .ok (.iload_n 1, 1) := by decide +kernel
theorem dX11_refuse_1 : decode cX11_refuse 1 = .ok (.bipush (-2), 2) := by decide +kernel
theorem dX11_refuse_3 : decode cX11_refuse 3 = .ok (.if_icmp .ne 13, 3) := by decide +kernel
theorem dX11_refuse_6 : decode cX11_refuse 6 = .ok (.aload_n 0, 1) := by decide +kernel
theorem dX11_refuse_7 : decode cX11_refuse 7 = .ok (.dup, 1) := by decide +kernel
theorem dX11_refuse_8 : decode cX11_refuse 8 = .ok (.getfield 50, 3) := by decide +kernel
theorem dX11_refuse_11 : decode cX11_refuse 11 = .ok (.iconst 1, 1) := by decide +kernel
theorem dX11_refuse_12 : decode cX11_refuse 12 = .ok (.iadd, 1) := by decide +kernel
theorem dX11_refuse_13 : decode cX11_refuse 13 = .ok (.putfield 50, 3) := by decide +kernel
theorem dX11_refuse_16 : decode cX11_refuse 16 = .ok (.iload_n 1, 1) := by decide +kernel
theorem dX11_refuse_17 : decode cX11_refuse 17 = .ok (.bipush (-3), 2) := by decide +kernel
theorem dX11_refuse_19 : decode cX11_refuse 19 = .ok (.if_icmp .ne 13, 3) := by decide +kernel
theorem dX11_refuse_22 : decode cX11_refuse 22 = .ok (.aload_n 0, 1) := by decide +kernel
theorem dX11_refuse_23 : decode cX11_refuse 23 = .ok (.dup, 1) := by decide +kernel
theorem dX11_refuse_24 : decode cX11_refuse 24 = .ok (.getfield 54, 3) := by decide +kernel
theorem dX11_refuse_27 : decode cX11_refuse 27 = .ok (.iconst 1, 1) := by decide +kernel
theorem dX11_refuse_28 : decode cX11_refuse 28 = .ok (.iadd, 1) := by decide +kernel
theorem dX11_refuse_29 : decode cX11_refuse 29 = .ok (.putfield 54, 3) := by decide +kernel
theorem dX11_refuse_32 : decode cX11_refuse 32 = .ok (.iload_n 1, 1) := by decide +kernel
theorem dX11_refuse_33 : decode cX11_refuse 33 = .ok (.bipush (-4), 2) := by decide +kernel
theorem dX11_refuse_35 : decode cX11_refuse 35 = .ok (.if_icmp .ne 13, 3) := by decide +kernel
theorem dX11_refuse_38 : decode cX11_refuse 38 = .ok (.aload_n 0, 1) := by decide +kernel
theorem dX11_refuse_39 : decode cX11_refuse 39 = .ok (.dup, 1) := by decide +kernel
theorem dX11_refuse_40 : decode cX11_refuse 40 = .ok (.getfield 57, 3) := by decide +kernel
theorem dX11_refuse_43 : decode cX11_refuse 43 = .ok (.iconst 1, 1) := by decide +kernel
theorem dX11_refuse_44 : decode cX11_refuse 44 = .ok (.iadd, 1) := by decide +kernel
theorem dX11_refuse_45 : decode cX11_refuse 45 = .ok (.putfield 57, 3) := by decide +kernel
theorem dX11_refuse_48 : decode cX11_refuse 48 = .ok (.iload_n 1, 1) := by decide +kernel
theorem dX11_refuse_49 : decode cX11_refuse 49 = .ok (.ireturn, 1) := by decide +kernel
theorem dX11_refuseOrder_0 : decode cX11_refuseOrder 0 = .ok (.aload_n 0, 1) := by decide +kernel
theorem dX11_refuseOrder_1 : decode cX11_refuseOrder 1 = .ok (.iload_n 1, 1) := by decide +kernel
theorem dX11_refuseOrder_2 : decode cX11_refuseOrder 2 = .ok (.invokevirtual 64, 3) := by decide +kernel
theorem dX11_refuseOrder_5 : decode cX11_refuseOrder 5 = .ok (.pop, 1) := by decide +kernel
theorem dX11_refuseOrder_6 : decode cX11_refuseOrder 6 = .ok (.iload_n 1, 1) := by decide +kernel
theorem dX11_refuseOrder_7 : decode cX11_refuseOrder 7 = .ok (.bipush (-2), 2) := by decide +kernel
theorem dX11_refuseOrder_9 : decode cX11_refuseOrder 9 = .ok (.if_icmp .ne 8, 3) := by decide +kernel
theorem dX11_refuseOrder_12 : decode cX11_refuseOrder 12 = .ok (.bipush (-10), 2) := by decide +kernel
theorem dX11_refuseOrder_14 : decode cX11_refuseOrder 14 = .ok (.goto 5, 3) := by decide +kernel
theorem dX11_refuseOrder_17 : decode cX11_refuseOrder 17 = .ok (.bipush (-11), 2) := by decide +kernel
theorem dX11_refuseOrder_19 : decode cX11_refuseOrder 19 = .ok (.ireturn, 1) := by decide +kernel
theorem dX11_whyNoBlock_0 : decode cX11_whyNoBlock 0 = .ok (.iload_n 1, 1) := by decide +kernel
theorem dX11_whyNoBlock_1 : decode cX11_whyNoBlock 1 = .ok (.iconst 0, 1) := by decide +kernel
theorem dX11_whyNoBlock_2 : decode cX11_whyNoBlock 2 = .ok (.iconst 3, 1) := by decide +kernel
theorem dX11_whyNoBlock_3 : decode cX11_whyNoBlock 3 = .ok (.invokestatic 99, 3) := by decide +kernel
theorem dX11_whyNoBlock_6 : decode cX11_whyNoBlock 6 = .ok (.ifCond .eq 13, 3) := by decide +kernel
theorem dX11_whyNoBlock_9 : decode cX11_whyNoBlock 9 = .ok (.iload_n 2, 1) := by decide +kernel
theorem dX11_whyNoBlock_10 : decode cX11_whyNoBlock 10 = .ok (.iconst 1, 1) := by decide +kernel
theorem dX11_whyNoBlock_11 : decode cX11_whyNoBlock 11 = .ok (.bipush 7, 2) := by decide +kernel
theorem dX11_whyNoBlock_13 : decode cX11_whyNoBlock 13 = .ok (.invokestatic 99, 3) := by decide +kernel
theorem dX11_whyNoBlock_16 : decode cX11_whyNoBlock 16 = .ok (.ifCond .ne 6, 3) := by decide +kernel
theorem dX11_whyNoBlock_19 : decode cX11_whyNoBlock 19 = .ok (.bipush (-2), 2) := by decide +kernel
theorem dX11_whyNoBlock_21 : decode cX11_whyNoBlock 21 = .ok (.ireturn, 1) := by decide +kernel
theorem dX11_whyNoBlock_22 : decode cX11_whyNoBlock 22 = .ok (.iload_n 3, 1) := by decide +kernel
theorem dX11_whyNoBlock_23 : decode cX11_whyNoBlock 23 = .ok (.iconst 0, 1) := by decide +kernel
theorem dX11_whyNoBlock_24 : decode cX11_whyNoBlock 24 = .ok (.bipush 9, 2) := by decide +kernel
theorem dX11_whyNoBlock_26 : decode cX11_whyNoBlock 26 = .ok (.invokestatic 99, 3) := by decide +kernel
theorem dX11_whyNoBlock_29 : decode cX11_whyNoBlock 29 = .ok (.ifCond .eq 15, 3) := by decide +kernel
theorem dX11_whyNoBlock_32 : decode cX11_whyNoBlock 32 = .ok (.iload 4, 2) := by decide +kernel
theorem dX11_whyNoBlock_34 : decode cX11_whyNoBlock 34 = .ok (.iconst 1, 1) := by decide +kernel
theorem dX11_whyNoBlock_35 : decode cX11_whyNoBlock 35 = .ok (.ldc_w 299, 3) := by decide +kernel
theorem dX11_whyNoBlock_38 : decode cX11_whyNoBlock 38 = .ok (.invokestatic 99, 3) := by decide +kernel
theorem dX11_whyNoBlock_41 : decode cX11_whyNoBlock 41 = .ok (.ifCond .ne 6, 3) := by decide +kernel
theorem dX11_whyNoBlock_44 : decode cX11_whyNoBlock 44 = .ok (.bipush (-2), 2) := by decide +kernel
theorem dX11_whyNoBlock_46 : decode cX11_whyNoBlock 46 = .ok (.ireturn, 1) := by decide +kernel
theorem dX11_whyNoBlock_47 : decode cX11_whyNoBlock 47 = .ok (.aload_n 0, 1) := by decide +kernel
theorem dX11_whyNoBlock_48 : decode cX11_whyNoBlock 48 = .ok (.getfield 10, 3) := by decide +kernel
theorem dX11_whyNoBlock_51 : decode cX11_whyNoBlock 51 = .ok (.getfield 25, 3) := by decide +kernel
theorem dX11_whyNoBlock_54 : decode cX11_whyNoBlock 54 = .ok (.getfield 276, 3) := by decide +kernel
theorem dX11_whyNoBlock_57 : decode cX11_whyNoBlock 57 = .ok (.bipush 6, 2) := by decide +kernel
theorem dX11_whyNoBlock_59 : decode cX11_whyNoBlock 59 = .ok (.if_icmp .lt 8, 3) := by decide +kernel
theorem dX11_whyNoBlock_62 : decode cX11_whyNoBlock 62 = .ok (.bipush (-4), 2) := by decide +kernel
theorem dX11_whyNoBlock_64 : decode cX11_whyNoBlock 64 = .ok (.goto 4, 3) := by decide +kernel
theorem dX11_whyNoBlock_67 : decode cX11_whyNoBlock 67 = .ok (.iconst 0, 1) := by decide +kernel
theorem dX11_whyNoBlock_68 : decode cX11_whyNoBlock 68 = .ok (.ireturn, 1) := by decide +kernel
theorem dX11_whyNoShift_0 : decode cX11_whyNoShift 0 = .ok (.aload_n 0, 1) := by decide +kernel
theorem dX11_whyNoShift_1 : decode cX11_whyNoShift 1 = .ok (.getfield 10, 3) := by decide +kernel
theorem dX11_whyNoShift_4 : decode cX11_whyNoShift 4 = .ok (.getfield 25, 3) := by decide +kernel
theorem dX11_whyNoShift_7 : decode cX11_whyNoShift 7 = .ok (.iload_n 1, 1) := by decide +kernel
theorem dX11_whyNoShift_8 : decode cX11_whyNoShift 8 = .ok (.invokevirtual 117, 3) := by decide +kernel
theorem dX11_whyNoShift_11 : decode cX11_whyNoShift 11 = .ok (.ifCond .ne 6, 3) := by decide +kernel
theorem dX11_whyNoShift_14 : decode cX11_whyNoShift 14 = .ok (.bipush (-2), 2) := by decide +kernel
theorem dX11_whyNoShift_16 : decode cX11_whyNoShift 16 = .ok (.ireturn, 1) := by decide +kernel
theorem dX11_whyNoShift_17 : decode cX11_whyNoShift 17 = .ok (.iload_n 2, 1) := by decide +kernel
theorem dX11_whyNoShift_18 : decode cX11_whyNoShift 18 = .ok (.bipush (-3), 2) := by decide +kernel
theorem dX11_whyNoShift_20 : decode cX11_whyNoShift 20 = .ok (.iconst 3, 1) := by decide +kernel
theorem dX11_whyNoShift_21 : decode cX11_whyNoShift 21 = .ok (.invokestatic 99, 3) := by decide +kernel
theorem dX11_whyNoShift_24 : decode cX11_whyNoShift 24 = .ok (.ifCond .eq 17, 3) := by decide +kernel
theorem dX11_whyNoShift_27 : decode cX11_whyNoShift 27 = .ok (.iload_n 3, 1) := by decide +kernel
theorem dX11_whyNoShift_28 : decode cX11_whyNoShift 28 = .ok (.bipush (-3), 2) := by decide +kernel
theorem dX11_whyNoShift_30 : decode cX11_whyNoShift 30 = .ok (.iconst 3, 1) := by decide +kernel
theorem dX11_whyNoShift_31 : decode cX11_whyNoShift 31 = .ok (.invokestatic 99, 3) := by decide +kernel
theorem dX11_whyNoShift_34 : decode cX11_whyNoShift 34 = .ok (.ifCond .eq 7, 3) := by decide +kernel
theorem dX11_whyNoShift_37 : decode cX11_whyNoShift 37 = .ok (.iconst 0, 1) := by decide +kernel
theorem dX11_whyNoShift_38 : decode cX11_whyNoShift 38 = .ok (.goto 5, 3) := by decide +kernel
theorem dX11_whyNoShift_41 : decode cX11_whyNoShift 41 = .ok (.bipush (-2), 2) := by decide +kernel
theorem dX11_whyNoShift_43 : decode cX11_whyNoShift 43 = .ok (.ireturn, 1) := by decide +kernel
theorem dX11_whyNoBehind_0 : decode cX11_whyNoBehind 0 = .ok (.aload_n 0, 1) := by decide +kernel
theorem dX11_whyNoBehind_1 : decode cX11_whyNoBehind 1 = .ok (.getfield 10, 3) := by decide +kernel
theorem dX11_whyNoBehind_4 : decode cX11_whyNoBehind 4 = .ok (.getfield 25, 3) := by decide +kernel
theorem dX11_whyNoBehind_7 : decode cX11_whyNoBehind 7 = .ok (.iload_n 1, 1) := by decide +kernel
theorem dX11_whyNoBehind_8 : decode cX11_whyNoBehind 8 = .ok (.iload_n 2, 1) := by decide +kernel
theorem dX11_whyNoBehind_9 : decode cX11_whyNoBehind 9 = .ok (.invokevirtual 149, 3) := by decide +kernel
theorem dX11_whyNoBehind_12 : decode cX11_whyNoBehind 12 = .ok (.ifCond .eq 16, 3) := by decide +kernel
theorem dX11_whyNoBehind_15 : decode cX11_whyNoBehind 15 = .ok (.iload_n 3, 1) := by decide +kernel
theorem dX11_whyNoBehind_16 : decode cX11_whyNoBehind 16 = .ok (.iconst 0, 1) := by decide +kernel
theorem dX11_whyNoBehind_17 : decode cX11_whyNoBehind 17 = .ok (.iconst 1, 1) := by decide +kernel
theorem dX11_whyNoBehind_18 : decode cX11_whyNoBehind 18 = .ok (.invokestatic 99, 3) := by decide +kernel
theorem dX11_whyNoBehind_21 : decode cX11_whyNoBehind 21 = .ok (.ifCond .eq 7, 3) := by decide +kernel
theorem dX11_whyNoBehind_24 : decode cX11_whyNoBehind 24 = .ok (.iconst 0, 1) := by decide +kernel
theorem dX11_whyNoBehind_25 : decode cX11_whyNoBehind 25 = .ok (.goto 5, 3) := by decide +kernel
theorem dX11_whyNoBehind_28 : decode cX11_whyNoBehind 28 = .ok (.bipush (-2), 2) := by decide +kernel
theorem dX11_whyNoBehind_30 : decode cX11_whyNoBehind 30 = .ok (.ireturn, 1) := by decide +kernel
theorem dX11_whyNoPrint_0 : decode cX11_whyNoPrint 0 = .ok (.aload_n 0, 1) := by decide +kernel
theorem dX11_whyNoPrint_1 : decode cX11_whyNoPrint 1 = .ok (.getfield 10, 3) := by decide +kernel
theorem dX11_whyNoPrint_4 : decode cX11_whyNoPrint 4 = .ok (.getfield 25, 3) := by decide +kernel
theorem dX11_whyNoPrint_7 : decode cX11_whyNoPrint 7 = .ok (.iload_n 1, 1) := by decide +kernel
theorem dX11_whyNoPrint_8 : decode cX11_whyNoPrint 8 = .ok (.invokevirtual 117, 3) := by decide +kernel
theorem dX11_whyNoPrint_11 : decode cX11_whyNoPrint 11 = .ok (.ifCond .eq 13, 3) := by decide +kernel
theorem dX11_whyNoPrint_14 : decode cX11_whyNoPrint 14 = .ok (.iload_n 2, 1) := by decide +kernel
theorem dX11_whyNoPrint_15 : decode cX11_whyNoPrint 15 = .ok (.iconst 0, 1) := by decide +kernel
theorem dX11_whyNoPrint_16 : decode cX11_whyNoPrint 16 = .ok (.bipush 9, 2) := by decide +kernel
theorem dX11_whyNoPrint_18 : decode cX11_whyNoPrint 18 = .ok (.invokestatic 99, 3) := by decide +kernel
theorem dX11_whyNoPrint_21 : decode cX11_whyNoPrint 21 = .ok (.ifCond .ne 6, 3) := by decide +kernel
theorem dX11_whyNoPrint_24 : decode cX11_whyNoPrint 24 = .ok (.bipush (-2), 2) := by decide +kernel
theorem dX11_whyNoPrint_26 : decode cX11_whyNoPrint 26 = .ok (.ireturn, 1) := by decide +kernel
theorem dX11_whyNoPrint_27 : decode cX11_whyNoPrint 27 = .ok (.aload_n 0, 1) := by decide +kernel
theorem dX11_whyNoPrint_28 : decode cX11_whyNoPrint 28 = .ok (.getfield 10, 3) := by decide +kernel
theorem dX11_whyNoPrint_31 : decode cX11_whyNoPrint 31 = .ok (.getfield 25, 3) := by decide +kernel
theorem dX11_whyNoPrint_34 : decode cX11_whyNoPrint 34 = .ok (.iload_n 1, 1) := by decide +kernel
theorem dX11_whyNoPrint_35 : decode cX11_whyNoPrint 35 = .ok (.aload_n 0, 1) := by decide +kernel
theorem dX11_whyNoPrint_36 : decode cX11_whyNoPrint 36 = .ok (.getfield 10, 3) := by decide +kernel
theorem dX11_whyNoPrint_39 : decode cX11_whyNoPrint 39 = .ok (.getfield 195, 3) := by decide +kernel
theorem dX11_whyNoPrint_42 : decode cX11_whyNoPrint 42 = .ok (.invokevirtual 300, 3) := by decide +kernel
theorem dX11_whyNoPrint_45 : decode cX11_whyNoPrint 45 = .ok (.invokevirtual 303, 3) := by decide +kernel
theorem dX11_whyNoPrint_48 : decode cX11_whyNoPrint 48 = .ok (.ifCond .ne 6, 3) := by decide +kernel
theorem dX11_whyNoPrint_51 : decode cX11_whyNoPrint 51 = .ok (.bipush (-3), 2) := by decide +kernel
theorem dX11_whyNoPrint_53 : decode cX11_whyNoPrint 53 = .ok (.ireturn, 1) := by decide +kernel
theorem dX11_whyNoPrint_54 : decode cX11_whyNoPrint 54 = .ok (.aload_n 0, 1) := by decide +kernel
theorem dX11_whyNoPrint_55 : decode cX11_whyNoPrint 55 = .ok (.getfield 10, 3) := by decide +kernel
theorem dX11_whyNoPrint_58 : decode cX11_whyNoPrint 58 = .ok (.getfield 195, 3) := by decide +kernel
theorem dX11_whyNoPrint_61 : decode cX11_whyNoPrint 61 = .ok (.getfield 229, 3) := by decide +kernel
theorem dX11_whyNoPrint_64 : decode cX11_whyNoPrint 64 = .ok (.bipush 12, 2) := by decide +kernel
theorem dX11_whyNoPrint_66 : decode cX11_whyNoPrint 66 = .ok (.if_icmp .lt 8, 3) := by decide +kernel
theorem dX11_whyNoPrint_69 : decode cX11_whyNoPrint 69 = .ok (.bipush (-4), 2) := by decide +kernel
theorem dX11_whyNoPrint_71 : decode cX11_whyNoPrint 71 = .ok (.goto 4, 3) := by decide +kernel
theorem dX11_whyNoPrint_74 : decode cX11_whyNoPrint 74 = .ok (.iconst 0, 1) := by decide +kernel
theorem dX11_whyNoPrint_75 : decode cX11_whyNoPrint 75 = .ok (.ireturn, 1) := by decide +kernel
theorem dX11_gainOf_0 : decode cX11_gainOf 0 = .ok (.iload_n 0, 1) := by decide +kernel
theorem dX11_gainOf_1 : decode cX11_gainOf 1 = .ok (.iload_n 1, 1) := by decide +kernel
theorem dX11_gainOf_2 : decode cX11_gainOf 2 = .ok (.iand, 1) := by decide +kernel
theorem dX11_gainOf_3 : decode cX11_gainOf 3 = .ok (.invokestatic 88, 3) := by decide +kernel
theorem dX11_gainOf_6 : decode cX11_gainOf 6 = .ok (.iload_n 0, 1) := by decide +kernel
theorem dX11_gainOf_7 : decode cX11_gainOf 7 = .ok (.iload_n 1, 1) := by decide +kernel
theorem dX11_gainOf_8 : decode cX11_gainOf 8 = .ok (.iconst (-1), 1) := by decide +kernel
theorem dX11_gainOf_9 : decode cX11_gainOf 9 = .ok (.ixor, 1) := by decide +kernel
theorem dX11_gainOf_10 : decode cX11_gainOf 10 = .ok (.iand, 1) := by decide +kernel
theorem dX11_gainOf_11 : decode cX11_gainOf 11 = .ok (.invokestatic 88, 3) := by decide +kernel
theorem dX11_gainOf_14 : decode cX11_gainOf 14 = .ok (.isub, 1) := by decide +kernel
theorem dX11_gainOf_15 : decode cX11_gainOf 15 = .ok (.ireturn, 1) := by decide +kernel
theorem dX11_blockOfBest_0 : decode cX11_blockOfBest 0 = .ok (.iload_n 1, 1) := by decide +kernel
theorem dX11_blockOfBest_1 : decode cX11_blockOfBest 1 = .ok (.ifCond .lt 31, 3) := by decide +kernel
theorem dX11_blockOfBest_4 : decode cX11_blockOfBest 4 = .ok (.iload_n 1, 1) := by decide +kernel
theorem dX11_blockOfBest_5 : decode cX11_blockOfBest 5 = .ok (.aload_n 0, 1) := by decide +kernel
theorem dX11_blockOfBest_6 : decode cX11_blockOfBest 6 = .ok (.getfield 10, 3) := by decide +kernel
theorem dX11_blockOfBest_9 : decode cX11_blockOfBest 9 = .ok (.getfield 25, 3) := by decide +kernel
theorem dX11_blockOfBest_12 : decode cX11_blockOfBest 12 = .ok (.getfield 276, 3) := by decide +kernel
theorem dX11_blockOfBest_15 : decode cX11_blockOfBest 15 = .ok (.if_icmp .ge 17, 3) := by decide +kernel
theorem dX11_blockOfBest_18 : decode cX11_blockOfBest 18 = .ok (.aload_n 0, 1) := by decide +kernel
theorem dX11_blockOfBest_19 : decode cX11_blockOfBest 19 = .ok (.getfield 32, 3) := by decide +kernel
theorem dX11_blockOfBest_22 : decode cX11_blockOfBest 22 = .ok (.getfield 306, 3) := by decide +kernel
theorem dX11_blockOfBest_25 : decode cX11_blockOfBest 25 = .ok (.iload_n 1, 1) := by decide +kernel
theorem dX11_blockOfBest_26 : decode cX11_blockOfBest 26 = .ok (.invokestatic 107, 3) := by decide +kernel
theorem dX11_blockOfBest_29 : decode cX11_blockOfBest 29 = .ok (.goto 5, 3) := by decide +kernel
theorem dX11_blockOfBest_32 : decode cX11_blockOfBest 32 = .ok (.bipush (-5), 2) := by decide +kernel
theorem dX11_blockOfBest_34 : decode cX11_blockOfBest 34 = .ok (.ireturn, 1) := by decide +kernel
theorem dX11_faultOfText_0 : decode cX11_faultOfText 0 = .ok (.aload_n 0, 1) := by decide +kernel
theorem dX11_faultOfText_1 : decode cX11_faultOfText 1 = .ok (.getfield 46, 3) := by decide +kernel
theorem dX11_faultOfText_4 : decode cX11_faultOfText 4 = .ok (.invokevirtual 309, 3) := by decide +kernel
theorem dX11_faultOfText_7 : decode cX11_faultOfText 7 = .ok (.iconst 0, 1) := by decide +kernel
theorem dX11_faultOfText_8 : decode cX11_faultOfText 8 = .ok (.istore_n 1, 1) := by decide +kernel
theorem dX11_faultOfText_9 : decode cX11_faultOfText 9 = .ok (.iload_n 1, 1) := by decide +kernel
theorem dX11_faultOfText_10 : decode cX11_faultOfText 10 = .ok (.aload_n 0, 1) := by decide +kernel
theorem dX11_faultOfText_11 : decode cX11_faultOfText 11 = .ok (.getfield 39, 3) := by decide +kernel
theorem dX11_faultOfText_14 : decode cX11_faultOfText 14 = .ok (.getfield 260, 3) := by decide +kernel
theorem dX11_faultOfText_17 : decode cX11_faultOfText 17 = .ok (.if_icmp .ge 32, 3) := by decide +kernel
theorem dX11_faultOfText_20 : decode cX11_faultOfText 20 = .ok (.aload_n 0, 1) := by decide +kernel
theorem dX11_faultOfText_21 : decode cX11_faultOfText 21 = .ok (.getfield 46, 3) := by decide +kernel
theorem dX11_faultOfText_24 : decode cX11_faultOfText 24 = .ok (.aload_n 0, 1) := by decide +kernel
theorem dX11_faultOfText_25 : decode cX11_faultOfText 25 = .ok (.getfield 39, 3) := by decide +kernel
theorem dX11_faultOfText_28 : decode cX11_faultOfText 28 = .ok (.getfield 312, 3) := by decide +kernel
theorem dX11_faultOfText_31 : decode cX11_faultOfText 31 = .ok (.iload_n 1, 1) := by decide +kernel
theorem dX11_faultOfText_32 : decode cX11_faultOfText 32 = .ok (.invokestatic 125, 3) := by decide +kernel
theorem dX11_faultOfText_35 : decode cX11_faultOfText 35 = .ok (.invokevirtual 315, 3) := by decide +kernel
theorem dX11_faultOfText_38 : decode cX11_faultOfText 38 = .ok (.ifCond .ne 5, 3) := by decide +kernel
theorem dX11_faultOfText_41 : decode cX11_faultOfText 41 = .ok (.iload_n 1, 1) := by decide +kernel
theorem dX11_faultOfText_42 : decode cX11_faultOfText 42 = .ok (.ireturn, 1) := by decide +kernel
theorem dX11_faultOfText_43 : decode cX11_faultOfText 43 = .ok (.iinc 1 1, 3) := by decide +kernel
theorem dX11_faultOfText_46 : decode cX11_faultOfText 46 = .ok (.goto (-37), 3) := by decide +kernel
theorem dX11_faultOfText_49 : decode cX11_faultOfText 49 = .ok (.aload_n 0, 1) := by decide +kernel
theorem dX11_faultOfText_50 : decode cX11_faultOfText 50 = .ok (.getfield 46, 3) := by decide +kernel
theorem dX11_faultOfText_53 : decode cX11_faultOfText 53 = .ok (.invokevirtual 318, 3) := by decide +kernel
theorem dX11_faultOfText_56 : decode cX11_faultOfText 56 = .ok (.ifCond .eq 7, 3) := by decide +kernel
theorem dX11_faultOfText_59 : decode cX11_faultOfText 59 = .ok (.iconst (-1), 1) := by decide +kernel
theorem dX11_faultOfText_60 : decode cX11_faultOfText 60 = .ok (.goto 10, 3) := by decide +kernel
theorem dX11_faultOfText_63 : decode cX11_faultOfText 63 = .ok (.aload_n 0, 1) := by decide +kernel
theorem dX11_faultOfText_64 : decode cX11_faultOfText 64 = .ok (.getfield 39, 3) := by decide +kernel
theorem dX11_faultOfText_67 : decode cX11_faultOfText 67 = .ok (.getfield 260, 3) := by decide +kernel
theorem dX11_faultOfText_70 : decode cX11_faultOfText 70 = .ok (.ireturn, 1) := by decide +kernel
theorem dX11_doText_0 : decode cX11_doText 0 = .ok (.iconst 0, 1) := by decide +kernel
theorem dX11_doText_1 : decode cX11_doText 1 = .ok (.istore_n 1, 1) := by decide +kernel
theorem dX11_doText_2 : decode cX11_doText 2 = .ok (.aload_n 0, 1) := by decide +kernel
theorem dX11_doText_3 : decode cX11_doText 3 = .ok (.getfield 46, 3) := by decide +kernel
theorem dX11_doText_6 : decode cX11_doText 6 = .ok (.invokevirtual 309, 3) := by decide +kernel
theorem dX11_doText_9 : decode cX11_doText 9 = .ok (.iconst 0, 1) := by decide +kernel
theorem dX11_doText_10 : decode cX11_doText 10 = .ok (.istore_n 2, 1) := by decide +kernel
theorem dX11_doText_11 : decode cX11_doText 11 = .ok (.iload_n 2, 1) := by decide +kernel
theorem dX11_doText_12 : decode cX11_doText 12 = .ok (.aload_n 0, 1) := by decide +kernel
theorem dX11_doText_13 : decode cX11_doText 13 = .ok (.getfield 39, 3) := by decide +kernel
theorem dX11_doText_16 : decode cX11_doText 16 = .ok (.getfield 260, 3) := by decide +kernel
theorem dX11_doText_19 : decode cX11_doText 19 = .ok (.if_icmp .ge 52, 3) := by decide +kernel
theorem dX11_doText_22 : decode cX11_doText 22 = .ok (.aload_n 0, 1) := by decide +kernel
theorem dX11_doText_23 : decode cX11_doText 23 = .ok (.getfield 46, 3) := by decide +kernel
theorem dX11_doText_26 : decode cX11_doText 26 = .ok (.aload_n 0, 1) := by decide +kernel
theorem dX11_doText_27 : decode cX11_doText 27 = .ok (.getfield 39, 3) := by decide +kernel
theorem dX11_doText_30 : decode cX11_doText 30 = .ok (.getfield 312, 3) := by decide +kernel
theorem dX11_doText_33 : decode cX11_doText 33 = .ok (.iload_n 2, 1) := by decide +kernel
theorem dX11_doText_34 : decode cX11_doText 34 = .ok (.invokestatic 125, 3) := by decide +kernel
theorem dX11_doText_37 : decode cX11_doText 37 = .ok (.invokevirtual 315, 3) := by decide +kernel
theorem dX11_doText_40 : decode cX11_doText 40 = .ok (.ifCond .ne 5, 3) := by decide +kernel
theorem dX11_doText_43 : decode cX11_doText 43 = .ok (.iload_n 1, 1) := by decide +kernel
theorem dX11_doText_44 : decode cX11_doText 44 = .ok (.ireturn, 1) := by decide +kernel
theorem dX11_doText_45 : decode cX11_doText 45 = .ok (.aload_n 0, 1) := by decide +kernel
theorem dX11_doText_46 : decode cX11_doText 46 = .ok (.getfield 46, 3) := by decide +kernel
theorem dX11_doText_49 : decode cX11_doText 49 = .ok (.getfield 322, 3) := by decide +kernel
theorem dX11_doText_52 : decode cX11_doText 52 = .ok (.ifCond .eq 13, 3) := by decide +kernel
theorem dX11_doText_55 : decode cX11_doText 55 = .ok (.aload_n 0, 1) := by decide +kernel
theorem dX11_doText_56 : decode cX11_doText 56 = .ok (.invokevirtual 326, 3) := by decide +kernel
theorem dX11_doText_59 : decode cX11_doText 59 = .ok (.ifCond .eq 6, 3) := by decide +kernel
theorem dX11_doText_62 : decode cX11_doText 62 = .ok (.iinc 1 1, 3) := by decide +kernel
theorem dX11_doText_65 : decode cX11_doText 65 = .ok (.iinc 2 1, 3) := by decide +kernel
theorem dX11_doText_68 : decode cX11_doText 68 = .ok (.goto (-57), 3) := by decide +kernel
theorem dX11_doText_71 : decode cX11_doText 71 = .ok (.iload_n 1, 1) := by decide +kernel
theorem dX11_doText_72 : decode cX11_doText 72 = .ok (.ireturn, 1) := by decide +kernel
theorem dX11_doOrder_0 : decode cX11_doOrder 0 = .ok (.aload_n 0, 1) := by decide +kernel
theorem dX11_doOrder_1 : decode cX11_doOrder 1 = .ok (.getfield 46, 3) := by decide +kernel
theorem dX11_doOrder_4 : decode cX11_doOrder 4 = .ok (.getfield 329, 3) := by decide +kernel
theorem dX11_doOrder_7 : decode cX11_doOrder 7 = .ok (.iconst 0, 1) := by decide +kernel
theorem dX11_doOrder_8 : decode cX11_doOrder 8 = .ok (.invokestatic 125, 3) := by decide +kernel
theorem dX11_doOrder_11 : decode cX11_doOrder 11 = .ok (.istore_n 1, 1) := by decide +kernel
theorem dX11_doOrder_12 : decode cX11_doOrder 12 = .ok (.aload_n 0, 1) := by decide +kernel
theorem dX11_doOrder_13 : decode cX11_doOrder 13 = .ok (.getfield 46, 3) := by decide +kernel
theorem dX11_doOrder_16 : decode cX11_doOrder 16 = .ok (.getfield 329, 3) := by decide +kernel
theorem dX11_doOrder_19 : decode cX11_doOrder 19 = .ok (.iconst 1, 1) := by decide +kernel
theorem dX11_doOrder_20 : decode cX11_doOrder 20 = .ok (.invokestatic 125, 3) := by decide +kernel
theorem dX11_doOrder_23 : decode cX11_doOrder 23 = .ok (.istore_n 2, 1) := by decide +kernel
theorem dX11_doOrder_24 : decode cX11_doOrder 24 = .ok (.aload_n 0, 1) := by decide +kernel
theorem dX11_doOrder_25 : decode cX11_doOrder 25 = .ok (.getfield 46, 3) := by decide +kernel
theorem dX11_doOrder_28 : decode cX11_doOrder 28 = .ok (.getfield 329, 3) := by decide +kernel
theorem dX11_doOrder_31 : decode cX11_doOrder 31 = .ok (.iconst 2, 1) := by decide +kernel
theorem dX11_doOrder_32 : decode cX11_doOrder 32 = .ok (.invokestatic 125, 3) := by decide +kernel
theorem dX11_doOrder_35 : decode cX11_doOrder 35 = .ok (.istore_n 3, 1) := by decide +kernel
theorem dX11_doOrder_36 : decode cX11_doOrder 36 = .ok (.aload_n 0, 1) := by decide +kernel
theorem dX11_doOrder_37 : decode cX11_doOrder 37 = .ok (.getfield 46, 3) := by decide +kernel
theorem dX11_doOrder_40 : decode cX11_doOrder 40 = .ok (.getfield 329, 3) := by decide +kernel
theorem dX11_doOrder_43 : decode cX11_doOrder 43 = .ok (.iconst 3, 1) := by decide +kernel
theorem dX11_doOrder_44 : decode cX11_doOrder 44 = .ok (.invokestatic 125, 3) := by decide +kernel
theorem dX11_doOrder_47 : decode cX11_doOrder 47 = .ok (.istore 4, 2) := by decide +kernel
theorem dX11_doOrder_49 : decode cX11_doOrder 49 = .ok (.aload_n 0, 1) := by decide +kernel
theorem dX11_doOrder_50 : decode cX11_doOrder 50 = .ok (.getfield 46, 3) := by decide +kernel
theorem dX11_doOrder_53 : decode cX11_doOrder 53 = .ok (.getfield 330, 3) := by decide +kernel
theorem dX11_doOrder_56 : decode cX11_doOrder 56 = .ok (.lookupswitch 164 #[(97, 103), (98, 44), (112, 131), (115, 76)], 44) := by decide +kernel
theorem dX11_doOrder_100 : decode cX11_doOrder 100 = .ok (.aload_n 0, 1) := by decide +kernel
theorem dX11_doOrder_101 : decode cX11_doOrder 101 = .ok (.iload_n 1, 1) := by decide +kernel
theorem dX11_doOrder_102 : decode cX11_doOrder 102 = .ok (.iload_n 2, 1) := by decide +kernel
theorem dX11_doOrder_103 : decode cX11_doOrder 103 = .ok (.iload_n 3, 1) := by decide +kernel
theorem dX11_doOrder_104 : decode cX11_doOrder 104 = .ok (.iload 4, 2) := by decide +kernel
theorem dX11_doOrder_106 : decode cX11_doOrder 106 = .ok (.invokevirtual 60, 3) := by decide +kernel
theorem dX11_doOrder_109 : decode cX11_doOrder 109 = .ok (.ifCond .eq 5, 3) := by decide +kernel
theorem dX11_doOrder_112 : decode cX11_doOrder 112 = .ok (.iconst 0, 1) := by decide +kernel
theorem dX11_doOrder_113 : decode cX11_doOrder 113 = .ok (.ireturn, 1) := by decide +kernel
theorem dX11_doOrder_114 : decode cX11_doOrder 114 = .ok (.aload_n 0, 1) := by decide +kernel
theorem dX11_doOrder_115 : decode cX11_doOrder 115 = .ok (.getfield 10, 3) := by decide +kernel
theorem dX11_doOrder_118 : decode cX11_doOrder 118 = .ok (.getfield 25, 3) := by decide +kernel
theorem dX11_doOrder_121 : decode cX11_doOrder 121 = .ok (.iload_n 1, 1) := by decide +kernel
theorem dX11_doOrder_122 : decode cX11_doOrder 122 = .ok (.iload_n 2, 1) := by decide +kernel
theorem dX11_doOrder_123 : decode cX11_doOrder 123 = .ok (.iload_n 3, 1) := by decide +kernel
theorem dX11_doOrder_124 : decode cX11_doOrder 124 = .ok (.iload 4, 2) := by decide +kernel
theorem dX11_doOrder_126 : decode cX11_doOrder 126 = .ok (.invokevirtual 72, 3) := by decide +kernel
theorem dX11_doOrder_129 : decode cX11_doOrder 129 = .ok (.pop, 1) := by decide +kernel
theorem dX11_doOrder_130 : decode cX11_doOrder 130 = .ok (.iconst 1, 1) := by decide +kernel
theorem dX11_doOrder_131 : decode cX11_doOrder 131 = .ok (.ireturn, 1) := by decide +kernel
theorem dX11_doOrder_132 : decode cX11_doOrder 132 = .ok (.aload_n 0, 1) := by decide +kernel
theorem dX11_doOrder_133 : decode cX11_doOrder 133 = .ok (.iload_n 1, 1) := by decide +kernel
theorem dX11_doOrder_134 : decode cX11_doOrder 134 = .ok (.iload_n 2, 1) := by decide +kernel
theorem dX11_doOrder_135 : decode cX11_doOrder 135 = .ok (.iload_n 3, 1) := by decide +kernel
theorem dX11_doOrder_136 : decode cX11_doOrder 136 = .ok (.invokevirtual 77, 3) := by decide +kernel
theorem dX11_doOrder_139 : decode cX11_doOrder 139 = .ok (.ifCond .eq 5, 3) := by decide +kernel
theorem dX11_doOrder_142 : decode cX11_doOrder 142 = .ok (.iconst 0, 1) := by decide +kernel
theorem dX11_doOrder_143 : decode cX11_doOrder 143 = .ok (.ireturn, 1) := by decide +kernel
theorem dX11_doOrder_144 : decode cX11_doOrder 144 = .ok (.aload_n 0, 1) := by decide +kernel
theorem dX11_doOrder_145 : decode cX11_doOrder 145 = .ok (.getfield 10, 3) := by decide +kernel
theorem dX11_doOrder_148 : decode cX11_doOrder 148 = .ok (.getfield 25, 3) := by decide +kernel
theorem dX11_doOrder_151 : decode cX11_doOrder 151 = .ok (.iload_n 1, 1) := by decide +kernel
theorem dX11_doOrder_152 : decode cX11_doOrder 152 = .ok (.iload_n 2, 1) := by decide +kernel
theorem dX11_doOrder_153 : decode cX11_doOrder 153 = .ok (.iload_n 3, 1) := by decide +kernel
theorem dX11_doOrder_154 : decode cX11_doOrder 154 = .ok (.invokevirtual 81, 3) := by decide +kernel
theorem dX11_doOrder_157 : decode cX11_doOrder 157 = .ok (.iconst 1, 1) := by decide +kernel
theorem dX11_doOrder_158 : decode cX11_doOrder 158 = .ok (.ireturn, 1) := by decide +kernel
theorem dX11_doOrder_159 : decode cX11_doOrder 159 = .ok (.aload_n 0, 1) := by decide +kernel
theorem dX11_doOrder_160 : decode cX11_doOrder 160 = .ok (.iload_n 1, 1) := by decide +kernel
theorem dX11_doOrder_161 : decode cX11_doOrder 161 = .ok (.iload_n 2, 1) := by decide +kernel
theorem dX11_doOrder_162 : decode cX11_doOrder 162 = .ok (.iconst 1, 1) := by decide +kernel
theorem dX11_doOrder_163 : decode cX11_doOrder 163 = .ok (.invokevirtual 93, 3) := by decide +kernel
theorem dX11_doOrder_166 : decode cX11_doOrder 166 = .ok (.ifCond .eq 5, 3) := by decide +kernel
theorem dX11_doOrder_169 : decode cX11_doOrder 169 = .ok (.iconst 0, 1) := by decide +kernel
theorem dX11_doOrder_170 : decode cX11_doOrder 170 = .ok (.ireturn, 1) := by decide +kernel
theorem dX11_doOrder_171 : decode cX11_doOrder 171 = .ok (.aload_n 0, 1) := by decide +kernel
theorem dX11_doOrder_172 : decode cX11_doOrder 172 = .ok (.getfield 10, 3) := by decide +kernel
theorem dX11_doOrder_175 : decode cX11_doOrder 175 = .ok (.getfield 25, 3) := by decide +kernel
theorem dX11_doOrder_178 : decode cX11_doOrder 178 = .ok (.iload_n 1, 1) := by decide +kernel
theorem dX11_doOrder_179 : decode cX11_doOrder 179 = .ok (.iload_n 2, 1) := by decide +kernel
theorem dX11_doOrder_180 : decode cX11_doOrder 180 = .ok (.iconst 1, 1) := by decide +kernel
theorem dX11_doOrder_181 : decode cX11_doOrder 181 = .ok (.invokevirtual 96, 3) := by decide +kernel
theorem dX11_doOrder_184 : decode cX11_doOrder 184 = .ok (.pop, 1) := by decide +kernel
theorem dX11_doOrder_185 : decode cX11_doOrder 185 = .ok (.iconst 1, 1) := by decide +kernel
theorem dX11_doOrder_186 : decode cX11_doOrder 186 = .ok (.ireturn, 1) := by decide +kernel
theorem dX11_doOrder_187 : decode cX11_doOrder 187 = .ok (.aload_n 0, 1) := by decide +kernel
theorem dX11_doOrder_188 : decode cX11_doOrder 188 = .ok (.iload_n 1, 1) := by decide +kernel
theorem dX11_doOrder_189 : decode cX11_doOrder 189 = .ok (.iload_n 2, 1) := by decide +kernel
theorem dX11_doOrder_190 : decode cX11_doOrder 190 = .ok (.invokevirtual 192, 3) := by decide +kernel
theorem dX11_doOrder_193 : decode cX11_doOrder 193 = .ok (.ifCond .eq 5, 3) := by decide +kernel
theorem dX11_doOrder_196 : decode cX11_doOrder 196 = .ok (.iconst 0, 1) := by decide +kernel
theorem dX11_doOrder_197 : decode cX11_doOrder 197 = .ok (.ireturn, 1) := by decide +kernel
theorem dX11_doOrder_198 : decode cX11_doOrder 198 = .ok (.aload_n 0, 1) := by decide +kernel
theorem dX11_doOrder_199 : decode cX11_doOrder 199 = .ok (.getfield 10, 3) := by decide +kernel
theorem dX11_doOrder_202 : decode cX11_doOrder 202 = .ok (.getfield 195, 3) := by decide +kernel
theorem dX11_doOrder_205 : decode cX11_doOrder 205 = .ok (.aload_n 0, 1) := by decide +kernel
theorem dX11_doOrder_206 : decode cX11_doOrder 206 = .ok (.getfield 10, 3) := by decide +kernel
theorem dX11_doOrder_209 : decode cX11_doOrder 209 = .ok (.getfield 25, 3) := by decide +kernel
theorem dX11_doOrder_212 : decode cX11_doOrder 212 = .ok (.iload_n 1, 1) := by decide +kernel
theorem dX11_doOrder_213 : decode cX11_doOrder 213 = .ok (.iload_n 2, 1) := by decide +kernel
theorem dX11_doOrder_214 : decode cX11_doOrder 214 = .ok (.invokevirtual 199, 3) := by decide +kernel
theorem dX11_doOrder_217 : decode cX11_doOrder 217 = .ok (.pop, 1) := by decide +kernel
theorem dX11_doOrder_218 : decode cX11_doOrder 218 = .ok (.iconst 1, 1) := by decide +kernel
theorem dX11_doOrder_219 : decode cX11_doOrder 219 = .ok (.ireturn, 1) := by decide +kernel
theorem dX11_doOrder_220 : decode cX11_doOrder 220 = .ok (.aload_n 0, 1) := by decide +kernel
theorem dX11_doOrder_221 : decode cX11_doOrder 221 = .ok (.getfield 10, 3) := by decide +kernel
theorem dX11_doOrder_224 : decode cX11_doOrder 224 = .ok (.getfield 195, 3) := by decide +kernel
theorem dX11_doOrder_227 : decode cX11_doOrder 227 = .ok (.invokevirtual 205, 3) := by decide +kernel
theorem dX11_doOrder_230 : decode cX11_doOrder 230 = .ok (.pop, 1) := by decide +kernel
theorem dX11_doOrder_231 : decode cX11_doOrder 231 = .ok (.iconst 1, 1) := by decide +kernel
theorem dX11_doOrder_232 : decode cX11_doOrder 232 = .ok (.ireturn, 1) := by decide +kernel
theorem dX12_init_0 : decode cX12_init 0 = .ok (.aload_n 0, 1) := by decide +kernel
theorem dX12_init_1 : decode cX12_init 1 = .ok (.invokespecial 1, 3) := by decide +kernel
theorem dX12_init_4 : decode cX12_init 4 = .ok (.aload_n 0, 1) := by decide +kernel
theorem dX12_init_5 : decode cX12_init 5 = .ok (.sipush 131, 3) := by decide +kernel
theorem dX12_init_8 : decode cX12_init 8 = .ok (.newarray .int, 2) := by decide +kernel
theorem dX12_init_10 : decode cX12_init 10 = .ok (.putfield 7, 3) := by decide +kernel
theorem dX12_init_13 : decode cX12_init 13 = .ok (.aload_n 0, 1) := by decide +kernel
theorem dX12_init_14 : decode cX12_init 14 = .ok (.sipush 131, 3) := by decide +kernel
theorem dX12_init_17 : decode cX12_init 17 = .ok (.newarray .int, 2) := by decide +kernel
theorem dX12_init_19 : decode cX12_init 19 = .ok (.putfield 13, 3) := by decide +kernel
theorem dX12_init_22 : decode cX12_init 22 = .ok (.aload_n 0, 1) := by decide +kernel
theorem dX12_init_23 : decode cX12_init 23 = .ok (.sipush 655, 3) := by decide +kernel
theorem dX12_init_26 : decode cX12_init 26 = .ok (.newarray .int, 2) := by decide +kernel
theorem dX12_init_28 : decode cX12_init 28 = .ok (.putfield 16, 3) := by decide +kernel
theorem dX12_init_31 : decode cX12_init 31 = .ok (.aload_n 0, 1) := by decide +kernel
theorem dX12_init_32 : decode cX12_init 32 = .ok (.iconst 3, 1) := by decide +kernel
theorem dX12_init_33 : decode cX12_init 33 = .ok (.newarray .int, 2) := by decide +kernel
theorem dX12_init_35 : decode cX12_init 35 = .ok (.putfield 19, 3) := by decide +kernel
theorem dX12_init_38 : decode cX12_init 38 = .ok (.aload_n 0, 1) := by decide +kernel
theorem dX12_init_39 : decode cX12_init 39 = .ok (.bipush 16, 2) := by decide +kernel
theorem dX12_init_41 : decode cX12_init 41 = .ok (.newarray .int, 2) := by decide +kernel
theorem dX12_init_43 : decode cX12_init 43 = .ok (.putfield 22, 3) := by decide +kernel
theorem dX12_init_46 : decode cX12_init 46 = .ok (.aload_n 0, 1) := by decide +kernel
theorem dX12_init_47 : decode cX12_init 47 = .ok (.bipush 16, 2) := by decide +kernel
theorem dX12_init_49 : decode cX12_init 49 = .ok (.newarray .int, 2) := by decide +kernel
theorem dX12_init_51 : decode cX12_init 51 = .ok (.putfield 25, 3) := by decide +kernel
theorem dX12_init_54 : decode cX12_init 54 = .ok (.aload_n 0, 1) := by decide +kernel
theorem dX12_init_55 : decode cX12_init 55 = .ok (.bipush 6, 2) := by decide +kernel
theorem dX12_init_57 : decode cX12_init 57 = .ok (.newarray .int, 2) := by decide +kernel
theorem dX12_init_59 : decode cX12_init 59 = .ok (.putfield 28, 3) := by decide +kernel
theorem dX12_init_62 : decode cX12_init 62 = .ok (.aload_n 0, 1) := by decide +kernel
theorem dX12_init_63 : decode cX12_init 63 = .ok (.bipush 6, 2) := by decide +kernel
theorem dX12_init_65 : decode cX12_init 65 = .ok (.newarray .int, 2) := by decide +kernel
theorem dX12_init_67 : decode cX12_init 67 = .ok (.putfield 31, 3) := by decide +kernel
theorem dX12_init_70 : decode cX12_init 70 = .ok (.aload_n 0, 1) := by decide +kernel
theorem dX12_init_71 : decode cX12_init 71 = .ok (.bipush 6, 2) := by decide +kernel
theorem dX12_init_73 : decode cX12_init 73 = .ok (.newarray .int, 2) := by decide +kernel
theorem dX12_init_75 : decode cX12_init 75 = .ok (.putfield 34, 3) := by decide +kernel
theorem dX12_init_78 : decode cX12_init 78 = .ok (.aload_n 0, 1) := by decide +kernel
theorem dX12_init_79 : decode cX12_init 79 = .ok (.sipush 720, 3) := by decide +kernel
theorem dX12_init_82 : decode cX12_init 82 = .ok (.newarray .long, 2) := by decide +kernel
theorem dX12_init_84 : decode cX12_init 84 = .ok (.putfield 37, 3) := by decide +kernel
theorem dX12_init_87 : decode cX12_init 87 = .ok (.aload_n 0, 1) := by decide +kernel
theorem dX12_init_88 : decode cX12_init 88 = .ok (.sipush 720, 3) := by decide +kernel
theorem dX12_init_91 : decode cX12_init 91 = .ok (.newarray .long, 2) := by decide +kernel
theorem dX12_init_93 : decode cX12_init 93 = .ok (.putfield 41, 3) := by decide +kernel
theorem dX12_init_96 : decode cX12_init 96 = .ok (.aload_n 0, 1) := by decide +kernel
theorem dX12_init_97 : decode cX12_init 97 = .ok (.sipush 720, 3) := by decide +kernel
theorem dX12_init_100 : decode cX12_init 100 = .ok (.newarray .int, 2) := by decide +kernel
theorem dX12_init_102 : decode cX12_init 102 = .ok (.putfield 44, 3) := by decide +kernel
theorem dX12_init_105 : decode cX12_init 105 = .ok (.aload_n 0, 1) := by decide +kernel
theorem dX12_init_106 : decode cX12_init 106 = .ok (.sipush 150, 3) := by decide +kernel
theorem dX12_init_109 : decode cX12_init 109 = .ok (.newarray .int, 2) := by decide +kernel
theorem dX12_init_111 : decode cX12_init 111 = .ok (.putfield 47, 3) := by decide +kernel
theorem dX12_init_114 : decode cX12_init 114 = .ok (.aload_n 0, 1) := by decide +kernel
theorem dX12_init_115 : decode cX12_init 115 = .ok (.bipush 80, 2) := by decide +kernel
theorem dX12_init_117 : decode cX12_init 117 = .ok (.newarray .int, 2) := by decide +kernel
theorem dX12_init_119 : decode cX12_init 119 = .ok (.putfield 50, 3) := by decide +kernel
theorem dX12_init_122 : decode cX12_init 122 = .ok (.aload_n 0, 1) := by decide +kernel
theorem dX12_init_123 : decode cX12_init 123 = .ok (.sipush 320, 3) := by decide +kernel
theorem dX12_init_126 : decode cX12_init 126 = .ok (.newarray .int, 2) := by decide +kernel
theorem dX12_init_128 : decode cX12_init 128 = .ok (.putfield 53, 3) := by decide +kernel
theorem dX12_init_131 : decode cX12_init 131 = .ok (.aload_n 0, 1) := by decide +kernel
theorem dX12_init_132 : decode cX12_init 132 = .ok (.iconst 0, 1) := by decide +kernel
theorem dX12_init_133 : decode cX12_init 133 = .ok (.putfield 56, 3) := by decide +kernel
theorem dX12_init_136 : decode cX12_init 136 = .ok (.return_, 1) := by decide +kernel
theorem dX12_in_0 : decode cX12_in 0 = .ok (.iload_n 0, 1) := by decide +kernel
theorem dX12_in_1 : decode cX12_in 1 = .ok (.iload_n 1, 1) := by decide +kernel
theorem dX12_in_2 : decode cX12_in 2 = .ok (.if_icmp .lt 12, 3) := by decide +kernel
theorem dX12_in_5 : decode cX12_in 5 = .ok (.iload_n 0, 1) := by decide +kernel
theorem dX12_in_6 : decode cX12_in 6 = .ok (.iload_n 2, 1) := by decide +kernel
theorem dX12_in_7 : decode cX12_in 7 = .ok (.if_icmp .gt 7, 3) := by decide +kernel
theorem dX12_in_10 : decode cX12_in 10 = .ok (.iconst 1, 1) := by decide +kernel
theorem dX12_in_11 : decode cX12_in 11 = .ok (.goto 4, 3) := by decide +kernel
theorem dX12_in_14 : decode cX12_in 14 = .ok (.iconst 0, 1) := by decide +kernel
theorem dX12_in_15 : decode cX12_in 15 = .ok (.ireturn, 1) := by decide +kernel
theorem dX12_has_0 : decode cX12_has 0 = .ok (.iload_n 0, 1) := by decide +kernel
theorem dX12_has_1 : decode cX12_has 1 = .ok (.iload_n 1, 1) := by decide +kernel
theorem dX12_has_2 : decode cX12_has 2 = .ok (.ishr, 1) := by decide +kernel
theorem dX12_has_3 : decode cX12_has 3 = .ok (.iconst 1, 1) := by decide +kernel
theorem dX12_has_4 : decode cX12_has 4 = .ok (.iand, 1) := by decide +kernel
theorem dX12_has_5 : decode cX12_has 5 = .ok (.iconst 1, 1) := by decide +kernel
theorem dX12_has_6 : decode cX12_has 6 = .ok (.if_icmp .ne 7, 3) := by decide +kernel
theorem dX12_has_9 : decode cX12_has 9 = .ok (.iconst 1, 1) := by decide +kernel
theorem dX12_has_10 : decode cX12_has 10 = .ok (.goto 4, 3) := by decide +kernel
theorem dX12_has_13 : decode cX12_has 13 = .ok (.iconst 0, 1) := by decide +kernel
theorem dX12_has_14 : decode cX12_has 14 = .ok (.ireturn, 1) := by decide +kernel
theorem dX12_bits_0 : decode cX12_bits 0 = .ok (.iconst 0, 1) := by decide +kernel
theorem dX12_bits_1 : decode cX12_bits 1 = .ok (.istore_n 1, 1) := by decide +kernel
theorem dX12_bits_2 : decode cX12_bits 2 = .ok (.iload_n 0, 1) := by decide +kernel
theorem dX12_bits_3 : decode cX12_bits 3 = .ok (.istore_n 2, 1) := by decide +kernel
theorem dX12_bits_4 : decode cX12_bits 4 = .ok (.iload_n 2, 1) := by decide +kernel
theorem dX12_bits_5 : decode cX12_bits 5 = .ok (.ifCond .eq 15, 3) := by decide +kernel
theorem dX12_bits_8 : decode cX12_bits 8 = .ok (.iinc 1 1, 3) := by decide +kernel
theorem dX12_bits_11 : decode cX12_bits 11 = .ok (.iload_n 2, 1) := by decide +kernel
theorem dX12_bits_12 : decode cX12_bits 12 = .ok (.iload_n 2, 1) := by decide +kernel
theorem dX12_bits_13 : decode cX12_bits 13 = .ok (.iconst 1, 1) := by decide +kernel
theorem dX12_bits_14 : decode cX12_bits 14 = .ok (.isub, 1) := by decide +kernel
theorem dX12_bits_15 : decode cX12_bits 15 = .ok (.iand, 1) := by decide +kernel
theorem dX12_bits_16 : decode cX12_bits 16 = .ok (.istore_n 2, 1) := by decide +kernel
theorem dX12_bits_17 : decode cX12_bits 17 = .ok (.goto (-13), 3) := by decide +kernel
theorem dX12_bits_20 : decode cX12_bits 20 = .ok (.iload_n 1, 1) := by decide +kernel
theorem dX12_bits_21 : decode cX12_bits 21 = .ok (.ireturn, 1) := by decide +kernel
theorem dX12_refuses_0 : decode cX12_refuses 0 = .ok (.aload_n 0, 1) := by decide +kernel
theorem dX12_refuses_1 : decode cX12_refuses 1 = .ok (.getfield 19, 3) := by decide +kernel
theorem dX12_refuses_4 : decode cX12_refuses 4 = .ok (.bipush (-2), 2) := by decide +kernel
theorem dX12_refuses_6 : decode cX12_refuses 6 = .ok (.iload_n 1, 1) := by decide +kernel
theorem dX12_refuses_7 : decode cX12_refuses 7 = .ok (.isub, 1) := by decide +kernel
theorem dX12_refuses_8 : decode cX12_refuses 8 = .ok (.dup2, 1) := by decide +kernel
theorem dX12_refuses_9 : decode cX12_refuses 9 = .ok (.iaload, 1) := by decide +kernel
theorem dX12_refuses_10 : decode cX12_refuses 10 = .ok (.iconst 1, 1) := by decide +kernel
theorem dX12_refuses_11 : decode cX12_refuses 11 = .ok (.iadd, 1) := by decide +kernel
theorem dX12_refuses_12 : decode cX12_refuses 12 = .ok (.iastore, 1) := by decide +kernel
theorem dX12_refuses_13 : decode cX12_refuses 13 = .ok (.iload_n 1, 1) := by decide +kernel
theorem dX12_refuses_14 : decode cX12_refuses 14 = .ok (.ireturn, 1) := by decide +kernel
theorem dX12_hold_0 : decode cX12_hold 0 = .ok (.iconst 0, 1) := by decide +kernel
theorem dX12_hold_1 : decode cX12_hold 1 = .ok (.istore_n 1, 1) := by decide +kernel
theorem dX12_hold_2 : decode cX12_hold 2 = .ok (.iload_n 1, 1) := by decide +kernel
theorem dX12_hold_3 : decode cX12_hold 3 = .ok (.sipush 131, 3) := by decide +kernel
theorem dX12_hold_6 : decode cX12_hold 6 = .ok (.if_icmp .ge 21, 3) := by decide +kernel
theorem dX12_hold_9 : decode cX12_hold 9 = .ok (.aload_n 0, 1) := by decide +kernel
theorem dX12_hold_10 : decode cX12_hold 10 = .ok (.getfield 13, 3) := by decide +kernel
theorem dX12_hold_13 : decode cX12_hold 13 = .ok (.iload_n 1, 1) := by decide +kernel
theorem dX12_hold_14 : decode cX12_hold 14 = .ok (.aload_n 0, 1) := by decide +kernel
theorem dX12_hold_15 : decode cX12_hold 15 = .ok (.getfield 7, 3) := by decide +kernel
theorem dX12_hold_18 : decode cX12_hold 18 = .ok (.iload_n 1, 1) := by decide +kernel
theorem dX12_hold_19 : decode cX12_hold 19 = .ok (.iaload, 1) := by decide +kernel
theorem dX12_hold_20 : decode cX12_hold 20 = .ok (.iastore, 1) := by decide +kernel
theorem dX12_hold_21 : decode cX12_hold 21 = .ok (.iinc 1 1, 3) := by decide +kernel
theorem dX12_hold_24 : decode cX12_hold 24 = .ok (.goto (-22), 3) := by decide +kernel
theorem dX12_hold_27 : decode cX12_hold 27 = .ok (.return_, 1) := by decide +kernel
theorem dX12_push_0 : decode cX12_push 0 = .ok (.aload_n 0, 1) := by decide +kernel
theorem dX12_push_1 : decode cX12_push 1 = .ok (.getfield 56, 3) := by decide +kernel
theorem dX12_push_4 : decode cX12_push 4 = .ok (.iconst 5, 1) := by decide +kernel
theorem dX12_push_5 : decode cX12_push 5 = .ok (.if_icmp .ne 44, 3) := by decide +kernel
theorem dX12_push_8 : decode cX12_push 8 = .ok (.iconst 0, 1) := by decide +kernel
theorem dX12_push_9 : decode cX12_push 9 = .ok (.istore_n 1, 1) := by decide +kernel
theorem dX12_push_10 : decode cX12_push 10 = .ok (.iload_n 1, 1) := by decide +kernel
theorem dX12_push_11 : decode cX12_push 11 = .ok (.sipush 524, 3) := by decide +kernel
theorem dX12_push_14 : decode cX12_push 14 = .ok (.if_icmp .ge 25, 3) := by decide +kernel
theorem dX12_push_17 : decode cX12_push 17 = .ok (.aload_n 0, 1) := by decide +kernel
theorem dX12_push_18 : decode cX12_push 18 = .ok (.getfield 16, 3) := by decide +kernel
theorem dX12_push_21 : decode cX12_push 21 = .ok (.iload_n 1, 1) := by decide +kernel
theorem dX12_push_22 : decode cX12_push 22 = .ok (.aload_n 0, 1) := by decide +kernel
theorem dX12_push_23 : decode cX12_push 23 = .ok (.getfield 16, 3) := by decide +kernel
theorem dX12_push_26 : decode cX12_push 26 = .ok (.iload_n 1, 1) := by decide +kernel
theorem dX12_push_27 : decode cX12_push 27 = .ok (.sipush 131, 3) := by decide +kernel
theorem dX12_push_30 : decode cX12_push 30 = .ok (.iadd, 1) := by decide +kernel
theorem dX12_push_31 : decode cX12_push 31 = .ok (.iaload, 1) := by decide +kernel
theorem dX12_push_32 : decode cX12_push 32 = .ok (.iastore, 1) := by decide +kernel
theorem dX12_push_33 : decode cX12_push 33 = .ok (.iinc 1 1, 3) := by decide +kernel
theorem dX12_push_36 : decode cX12_push 36 = .ok (.goto (-26), 3) := by decide +kernel
theorem dX12_push_39 : decode cX12_push 39 = .ok (.aload_n 0, 1) := by decide +kernel
theorem dX12_push_40 : decode cX12_push 40 = .ok (.dup, 1) := by decide +kernel
theorem dX12_push_41 : decode cX12_push 41 = .ok (.getfield 56, 3) := by decide +kernel
theorem dX12_push_44 : decode cX12_push 44 = .ok (.iconst 1, 1) := by decide +kernel
theorem dX12_push_45 : decode cX12_push 45 = .ok (.isub, 1) := by decide +kernel
theorem dX12_push_46 : decode cX12_push 46 = .ok (.putfield 56, 3) := by decide +kernel
theorem dX12_push_49 : decode cX12_push 49 = .ok (.iconst 0, 1) := by decide +kernel
theorem dX12_push_50 : decode cX12_push 50 = .ok (.istore_n 1, 1) := by decide +kernel
theorem dX12_push_51 : decode cX12_push 51 = .ok (.iload_n 1, 1) := by decide +kernel
theorem dX12_push_52 : decode cX12_push 52 = .ok (.sipush 131, 3) := by decide +kernel
theorem dX12_push_55 : decode cX12_push 55 = .ok (.if_icmp .ge 30, 3) := by decide +kernel
theorem dX12_push_58 : decode cX12_push 58 = .ok (.aload_n 0, 1) := by decide +kernel
theorem dX12_push_59 : decode cX12_push 59 = .ok (.getfield 16, 3) := by decide +kernel
theorem dX12_push_62 : decode cX12_push 62 = .ok (.sipush 131, 3) := by decide +kernel
theorem dX12_push_65 : decode cX12_push 65 = .ok (.aload_n 0, 1) := by decide +kernel
theorem dX12_push_66 : decode cX12_push 66 = .ok (.getfield 56, 3) := by decide +kernel
theorem dX12_push_69 : decode cX12_push 69 = .ok (.imul, 1) := by decide +kernel
theorem dX12_push_70 : decode cX12_push 70 = .ok (.iload_n 1, 1) := by decide +kernel
theorem dX12_push_71 : decode cX12_push 71 = .ok (.iadd, 1) := by decide +kernel
theorem dX12_push_72 : decode cX12_push 72 = .ok (.aload_n 0, 1) := by decide +kernel
theorem dX12_push_73 : decode cX12_push 73 = .ok (.getfield 13, 3) := by decide +kernel
theorem dX12_push_76 : decode cX12_push 76 = .ok (.iload_n 1, 1) := by decide +kernel
theorem dX12_push_77 : decode cX12_push 77 = .ok (.iaload, 1) := by decide +kernel
theorem dX12_push_78 : decode cX12_push 78 = .ok (.iastore, 1) := by decide +kernel
theorem dX12_push_79 : decode cX12_push 79 = .ok (.iinc 1 1, 3) := by decide +kernel
theorem dX12_push_82 : decode cX12_push 82 = .ok (.goto (-31), 3) := by decide +kernel
theorem dX12_push_85 : decode cX12_push 85 = .ok (.aload_n 0, 1) := by decide +kernel
theorem dX12_push_86 : decode cX12_push 86 = .ok (.dup, 1) := by decide +kernel
theorem dX12_push_87 : decode cX12_push 87 = .ok (.getfield 56, 3) := by decide +kernel
theorem dX12_push_90 : decode cX12_push 90 = .ok (.iconst 1, 1) := by decide +kernel
theorem dX12_push_91 : decode cX12_push 91 = .ok (.iadd, 1) := by decide +kernel
theorem dX12_push_92 : decode cX12_push 92 = .ok (.putfield 56, 3) := by decide +kernel
theorem dX12_push_95 : decode cX12_push 95 = .ok (.return_, 1) := by decide +kernel
theorem dX12_ends_0 : decode cX12_ends 0 = .ok (.iload_n 1, 1) := by decide +kernel
theorem dX12_ends_1 : decode cX12_ends 1 = .ok (.ifCond .ge 9, 3) := by decide +kernel
theorem dX12_ends_4 : decode cX12_ends 4 = .ok (.aload_n 0, 1) := by decide +kernel
theorem dX12_ends_5 : decode cX12_ends 5 = .ok (.iload_n 1, 1) := by decide +kernel
theorem dX12_ends_6 : decode cX12_ends 6 = .ok (.invokevirtual 60, 3) := by decide +kernel
theorem dX12_ends_9 : decode cX12_ends 9 = .ok (.ireturn, 1) := by decide +kernel
theorem dX12_ends_10 : decode cX12_ends 10 = .ok (.aload_n 0, 1) := by decide +kernel
theorem dX12_ends_11 : decode cX12_ends 11 = .ok (.invokevirtual 64, 3) := by decide +kernel
theorem dX12_ends_14 : decode cX12_ends 14 = .ok (.iload_n 1, 1) := by decide +kernel
theorem dX12_ends_15 : decode cX12_ends 15 = .ok (.ireturn, 1) := by decide +kernel
theorem dX12_back_0 : decode cX12_back 0 = .ok (.aload_n 0, 1) := by decide +kernel
theorem dX12_back_1 : decode cX12_back 1 = .ok (.getfield 56, 3) := by decide +kernel
theorem dX12_back_4 : decode cX12_back 4 = .ok (.ifCond .ne 10, 3) := by decide +kernel
theorem dX12_back_7 : decode cX12_back 7 = .ok (.aload_n 0, 1) := by decide +kernel
theorem dX12_back_8 : decode cX12_back 8 = .ok (.bipush (-3), 2) := by decide +kernel
theorem dX12_back_10 : decode cX12_back 10 = .ok (.invokevirtual 60, 3) := by decide +kernel
theorem dX12_back_13 : decode cX12_back 13 = .ok (.ireturn, 1) := by decide +kernel
theorem dX12_back_14 : decode cX12_back 14 = .ok (.aload_n 0, 1) := by decide +kernel
theorem dX12_back_15 : decode cX12_back 15 = .ok (.dup, 1) := by decide +kernel
theorem dX12_back_16 : decode cX12_back 16 = .ok (.getfield 56, 3) := by decide +kernel
theorem dX12_back_19 : decode cX12_back 19 = .ok (.iconst 1, 1) := by decide +kernel
theorem dX12_back_20 : decode cX12_back 20 = .ok (.isub, 1) := by decide +kernel
theorem dX12_back_21 : decode cX12_back 21 = .ok (.putfield 56, 3) := by decide +kernel
theorem dX12_back_24 : decode cX12_back 24 = .ok (.iconst 0, 1) := by decide +kernel
theorem dX12_back_25 : decode cX12_back 25 = .ok (.istore_n 1, 1) := by decide +kernel
theorem dX12_back_26 : decode cX12_back 26 = .ok (.iload_n 1, 1) := by decide +kernel
theorem dX12_back_27 : decode cX12_back 27 = .ok (.sipush 131, 3) := by decide +kernel
theorem dX12_back_30 : decode cX12_back 30 = .ok (.if_icmp .ge 30, 3) := by decide +kernel
theorem dX12_back_33 : decode cX12_back 33 = .ok (.aload_n 0, 1) := by decide +kernel
theorem dX12_back_34 : decode cX12_back 34 = .ok (.getfield 7, 3) := by decide +kernel
theorem dX12_back_37 : decode cX12_back 37 = .ok (.iload_n 1, 1) := by decide +kernel
theorem dX12_back_38 : decode cX12_back 38 = .ok (.aload_n 0, 1) := by decide +kernel
theorem dX12_back_39 : decode cX12_back 39 = .ok (.getfield 16, 3) := by decide +kernel
theorem dX12_back_42 : decode cX12_back 42 = .ok (.sipush 131, 3) := by decide +kernel
theorem dX12_back_45 : decode cX12_back 45 = .ok (.aload_n 0, 1) := by decide +kernel
theorem dX12_back_46 : decode cX12_back 46 = .ok (.getfield 56, 3) := by decide +kernel
theorem dX12_back_49 : decode cX12_back 49 = .ok (.imul, 1) := by decide +kernel
theorem dX12_back_50 : decode cX12_back 50 = .ok (.iload_n 1, 1) := by decide +kernel
theorem dX12_back_51 : decode cX12_back 51 = .ok (.iadd, 1) := by decide +kernel
theorem dX12_back_52 : decode cX12_back 52 = .ok (.iaload, 1) := by decide +kernel
theorem dX12_back_53 : decode cX12_back 53 = .ok (.iastore, 1) := by decide +kernel
theorem dX12_back_54 : decode cX12_back 54 = .ok (.iinc 1 1, 3) := by decide +kernel
theorem dX12_back_57 : decode cX12_back 57 = .ok (.goto (-31), 3) := by decide +kernel
theorem dX12_back_60 : decode cX12_back 60 = .ok (.aload_n 0, 1) := by decide +kernel
theorem dX12_back_61 : decode cX12_back 61 = .ok (.getfield 56, 3) := by decide +kernel
theorem dX12_back_64 : decode cX12_back 64 = .ok (.ireturn, 1) := by decide +kernel
theorem dX12_isBlock_0 : decode cX12_isBlock 0 = .ok (.iload_n 1, 1) := by decide +kernel
theorem dX12_isBlock_1 : decode cX12_isBlock 1 = .ok (.iconst 0, 1) := by decide +kernel
theorem dX12_isBlock_2 : decode cX12_isBlock 2 = .ok (.aload_n 0, 1) := by decide +kernel
theorem dX12_isBlock_3 : decode cX12_isBlock 3 = .ok (.getfield 7, 3) := by decide +kernel
theorem dX12_isBlock_6 : decode cX12_isBlock 6 = .ok (.iconst 0, 1) := by decide +kernel
theorem dX12_isBlock_7 : decode cX12_isBlock 7 = .ok (.iaload, 1) := by decide +kernel
theorem dX12_isBlock_8 : decode cX12_isBlock 8 = .ok (.iconst 1, 1) := by decide +kernel
theorem dX12_isBlock_9 : decode cX12_isBlock 9 = .ok (.isub, 1) := by decide +kernel
theorem dX12_isBlock_10 : decode cX12_isBlock 10 = .ok (.invokestatic 67, 3) := by decide +kernel
theorem dX12_isBlock_13 : decode cX12_isBlock 13 = .ok (.ireturn, 1) := by decide +kernel
theorem dX12_ofBlock_0 : decode cX12_ofBlock 0 = .ok (.aload_n 0, 1) := by decide +kernel
theorem dX12_ofBlock_1 : decode cX12_ofBlock 1 = .ok (.getfield 7, 3) := by decide +kernel
theorem dX12_ofBlock_4 : decode cX12_ofBlock 4 = .ok (.iconst 1, 1) := by decide +kernel
theorem dX12_ofBlock_5 : decode cX12_ofBlock 5 = .ok (.bipush 7, 2) := by decide +kernel
theorem dX12_ofBlock_7 : decode cX12_ofBlock 7 = .ok (.iload_n 1, 1) := by decide +kernel
theorem dX12_ofBlock_8 : decode cX12_ofBlock 8 = .ok (.imul, 1) := by decide +kernel
theorem dX12_ofBlock_9 : decode cX12_ofBlock 9 = .ok (.iadd, 1) := by decide +kernel
theorem dX12_ofBlock_10 : decode cX12_ofBlock 10 = .ok (.iload_n 2, 1) := by decide +kernel
theorem dX12_ofBlock_11 : decode cX12_ofBlock 11 = .ok (.iadd, 1) := by decide +kernel
theorem dX12_ofBlock_12 : decode cX12_ofBlock 12 = .ok (.iaload, 1) := by decide +kernel
theorem dX12_ofBlock_13 : decode cX12_ofBlock 13 = .ok (.ireturn, 1) := by decide +kernel
theorem dX12_moved_0 : decode cX12_moved 0 = .ok (.iconst 0, 1) := by decide +kernel
theorem dX12_moved_1 : decode cX12_moved 1 = .ok (.istore_n 3, 1) := by decide +kernel
theorem dX12_moved_2 : decode cX12_moved 2 = .ok (.iconst 0, 1) := by decide +kernel
theorem dX12_moved_3 : decode cX12_moved 3 = .ok (.istore 4, 2) := by decide +kernel
theorem dX12_moved_5 : decode cX12_moved 5 = .ok (.iload 4, 2) := by decide +kernel
theorem dX12_moved_7 : decode cX12_moved 7 = .ok (.bipush 16, 2) := by decide +kernel
theorem dX12_moved_9 : decode cX12_moved 9 = .ok (.if_icmp .ge 66, 3) := by decide +kernel
theorem dX12_moved_12 : decode cX12_moved 12 = .ok (.iload 4, 2) := by decide +kernel
theorem dX12_moved_14 : decode cX12_moved 14 = .ok (.iconst 4, 1) := by decide +kernel
theorem dX12_moved_15 : decode cX12_moved 15 = .ok (.irem, 1) := by decide +kernel
theorem dX12_moved_16 : decode cX12_moved 16 = .ok (.iload_n 1, 1) := by decide +kernel
theorem dX12_moved_17 : decode cX12_moved 17 = .ok (.iadd, 1) := by decide +kernel
theorem dX12_moved_18 : decode cX12_moved 18 = .ok (.istore 5, 2) := by decide +kernel
theorem dX12_moved_20 : decode cX12_moved 20 = .ok (.iload 4, 2) := by decide +kernel
theorem dX12_moved_22 : decode cX12_moved 22 = .ok (.iconst 4, 1) := by decide +kernel
theorem dX12_moved_23 : decode cX12_moved 23 = .ok (.idiv, 1) := by decide +kernel
theorem dX12_moved_24 : decode cX12_moved 24 = .ok (.iload_n 2, 1) := by decide +kernel
theorem dX12_moved_25 : decode cX12_moved 25 = .ok (.iadd, 1) := by decide +kernel
theorem dX12_moved_26 : decode cX12_moved 26 = .ok (.istore 6, 2) := by decide +kernel
theorem dX12_moved_28 : decode cX12_moved 28 = .ok (.iload_n 0, 1) := by decide +kernel
theorem dX12_moved_29 : decode cX12_moved 29 = .ok (.iload 4, 2) := by decide +kernel
theorem dX12_moved_31 : decode cX12_moved 31 = .ok (.invokestatic 71, 3) := by decide +kernel
theorem dX12_moved_34 : decode cX12_moved 34 = .ok (.ifCond .eq 35, 3) := by decide +kernel
theorem dX12_moved_37 : decode cX12_moved 37 = .ok (.iload 5, 2) := by decide +kernel
theorem dX12_moved_39 : decode cX12_moved 39 = .ok (.iconst 0, 1) := by decide +kernel
theorem dX12_moved_40 : decode cX12_moved 40 = .ok (.iconst 3, 1) := by decide +kernel
theorem dX12_moved_41 : decode cX12_moved 41 = .ok (.invokestatic 67, 3) := by decide +kernel
theorem dX12_moved_44 : decode cX12_moved 44 = .ok (.ifCond .eq 25, 3) := by decide +kernel
theorem dX12_moved_47 : decode cX12_moved 47 = .ok (.iload 6, 2) := by decide +kernel
theorem dX12_moved_49 : decode cX12_moved 49 = .ok (.iconst 0, 1) := by decide +kernel
theorem dX12_moved_50 : decode cX12_moved 50 = .ok (.iconst 3, 1) := by decide +kernel
theorem dX12_moved_51 : decode cX12_moved 51 = .ok (.invokestatic 67, 3) := by decide +kernel
theorem dX12_moved_54 : decode cX12_moved 54 = .ok (.ifCond .eq 15, 3) := by decide +kernel
theorem dX12_moved_57 : decode cX12_moved 57 = .ok (.iload_n 3, 1) := by decide +kernel
theorem dX12_moved_58 : decode cX12_moved 58 = .ok (.iconst 1, 1) := by decide +kernel
theorem dX12_moved_59 : decode cX12_moved 59 = .ok (.iconst 4, 1) := by decide +kernel
theorem dX12_moved_60 : decode cX12_moved 60 = .ok (.iload 6, 2) := by decide +kernel
theorem dX12_moved_62 : decode cX12_moved 62 = .ok (.imul, 1) := by decide +kernel
theorem dX12_moved_63 : decode cX12_moved 63 = .ok (.iload 5, 2) := by decide +kernel
theorem dX12_moved_65 : decode cX12_moved 65 = .ok (.iadd, 1) := by decide +kernel
theorem dX12_moved_66 : decode cX12_moved 66 = .ok (.ishl, 1) := by decide +kernel
theorem dX12_moved_67 : decode cX12_moved 67 = .ok (.ior, 1) := by decide +kernel
theorem dX12_moved_68 : decode cX12_moved 68 = .ok (.istore_n 3, 1) := by decide +kernel
theorem dX12_moved_69 : decode cX12_moved 69 = .ok (.iinc 4 1, 3) := by decide +kernel
theorem dX12_moved_72 : decode cX12_moved 72 = .ok (.goto (-67), 3) := by decide +kernel
theorem dX12_moved_75 : decode cX12_moved 75 = .ok (.iload_n 3, 1) := by decide +kernel
theorem dX12_moved_76 : decode cX12_moved 76 = .ok (.ireturn, 1) := by decide +kernel
theorem dX12_placeOf_0 : decode cX12_placeOf 0 = .ok (.aload_n 0, 1) := by decide +kernel
theorem dX12_placeOf_1 : decode cX12_placeOf 1 = .ok (.iload_n 1, 1) := by decide +kernel
theorem dX12_placeOf_2 : decode cX12_placeOf 2 = .ok (.iconst 3, 1) := by decide +kernel
theorem dX12_placeOf_3 : decode cX12_placeOf 3 = .ok (.invokevirtual 75, 3) := by decide +kernel
theorem dX12_placeOf_6 : decode cX12_placeOf 6 = .ok (.aload_n 0, 1) := by decide +kernel
theorem dX12_placeOf_7 : decode cX12_placeOf 7 = .ok (.iload_n 1, 1) := by decide +kernel
theorem dX12_placeOf_8 : decode cX12_placeOf 8 = .ok (.iconst 4, 1) := by decide +kernel
theorem dX12_placeOf_9 : decode cX12_placeOf 9 = .ok (.invokevirtual 75, 3) := by decide +kernel
theorem dX12_placeOf_12 : decode cX12_placeOf 12 = .ok (.aload_n 0, 1) := by decide +kernel
theorem dX12_placeOf_13 : decode cX12_placeOf 13 = .ok (.iload_n 1, 1) := by decide +kernel
theorem dX12_placeOf_14 : decode cX12_placeOf 14 = .ok (.iconst 5, 1) := by decide +kernel
theorem dX12_placeOf_15 : decode cX12_placeOf 15 = .ok (.invokevirtual 75, 3) := by decide +kernel
theorem dX12_placeOf_18 : decode cX12_placeOf 18 = .ok (.invokestatic 79, 3) := by decide +kernel
theorem dX12_placeOf_21 : decode cX12_placeOf 21 = .ok (.ireturn, 1) := by decide +kernel
theorem dX12_doBlock_0 : decode cX12_doBlock 0 = .ok (.iload_n 1, 1) := by decide +kernel
theorem dX12_doBlock_1 : decode cX12_doBlock 1 = .ok (.iconst 0, 1) := by decide +kernel
theorem dX12_doBlock_2 : decode cX12_doBlock 2 = .ok (.iconst 3, 1) := by decide +kernel
theorem dX12_doBlock_3 : decode cX12_doBlock 3 = .ok (.invokestatic 67, 3) := by decide +kernel
theorem dX12_doBlock_6 : decode cX12_doBlock 6 = .ok (.ifCond .eq 34, 3) := by decide +kernel
theorem dX12_doBlock_9 : decode cX12_doBlock 9 = .ok (.iload_n 2, 1) := by decide +kernel
theorem dX12_doBlock_10 : decode cX12_doBlock 10 = .ok (.iconst 1, 1) := by decide +kernel
theorem dX12_doBlock_11 : decode cX12_doBlock 11 = .ok (.bipush 7, 2) := by decide +kernel
theorem dX12_doBlock_13 : decode cX12_doBlock 13 = .ok (.invokestatic 67, 3) := by decide +kernel
theorem dX12_doBlock_16 : decode cX12_doBlock 16 = .ok (.ifCond .eq 24, 3) := by decide +kernel
theorem dX12_doBlock_19 : decode cX12_doBlock 19 = .ok (.iload_n 3, 1) := by decide +kernel
theorem dX12_doBlock_20 : decode cX12_doBlock 20 = .ok (.iconst 0, 1) := by decide +kernel
theorem dX12_doBlock_21 : decode cX12_doBlock 21 = .ok (.bipush 9, 2) := by decide +kernel
theorem dX12_doBlock_23 : decode cX12_doBlock 23 = .ok (.invokestatic 67, 3) := by decide +kernel
theorem dX12_doBlock_26 : decode cX12_doBlock 26 = .ok (.ifCond .eq 14, 3) := by decide +kernel
theorem dX12_doBlock_29 : decode cX12_doBlock 29 = .ok (.iload 4, 2) := by decide +kernel
theorem dX12_doBlock_31 : decode cX12_doBlock 31 = .ok (.iconst 1, 1) := by decide +kernel
theorem dX12_doBlock_32 : decode cX12_doBlock 32 = .ok (.ldc 83, 2) := by decide +kernel
theorem dX12_doBlock_34 : decode cX12_doBlock 34 = .ok (.invokestatic 67, 3) := by decide +kernel
theorem dX12_doBlock_37 : decode cX12_doBlock 37 = .ok (.ifCond .ne 6, 3) := by decide +kernel
theorem dX12_doBlock_40 : decode cX12_doBlock 40 = .ok (.bipush (-2), 2) := by decide +kernel
theorem dX12_doBlock_42 : decode cX12_doBlock 42 = .ok (.ireturn, 1) := by decide +kernel
theorem dX12_doBlock_43 : decode cX12_doBlock 43 = .ok (.aload_n 0, 1) := by decide +kernel
theorem dX12_doBlock_44 : decode cX12_doBlock 44 = .ok (.getfield 7, 3) := by decide +kernel
theorem dX12_doBlock_47 : decode cX12_doBlock 47 = .ok (.iconst 0, 1) := by decide +kernel
theorem dX12_doBlock_48 : decode cX12_doBlock 48 = .ok (.iaload, 1) := by decide +kernel
theorem dX12_doBlock_49 : decode cX12_doBlock 49 = .ok (.bipush 6, 2) := by decide +kernel
theorem dX12_doBlock_51 : decode cX12_doBlock 51 = .ok (.if_icmp .ne 6, 3) := by decide +kernel
theorem dX12_doBlock_54 : decode cX12_doBlock 54 = .ok (.bipush (-4), 2) := by decide +kernel
theorem dX12_doBlock_56 : decode cX12_doBlock 56 = .ok (.ireturn, 1) := by decide +kernel
theorem dX12_doBlock_57 : decode cX12_doBlock 57 = .ok (.iconst 1, 1) := by decide +kernel
theorem dX12_doBlock_58 : decode cX12_doBlock 58 = .ok (.bipush 7, 2) := by decide +kernel
theorem dX12_doBlock_60 : decode cX12_doBlock 60 = .ok (.aload_n 0, 1) := by decide +kernel
theorem dX12_doBlock_61 : decode cX12_doBlock 61 = .ok (.getfield 7, 3) := by decide +kernel
theorem dX12_doBlock_64 : decode cX12_doBlock 64 = .ok (.iconst 0, 1) := by decide +kernel
theorem dX12_doBlock_65 : decode cX12_doBlock 65 = .ok (.iaload, 1) := by decide +kernel
theorem dX12_doBlock_66 : decode cX12_doBlock 66 = .ok (.imul, 1) := by decide +kernel
theorem dX12_doBlock_67 : decode cX12_doBlock 67 = .ok (.iadd, 1) := by decide +kernel
theorem dX12_doBlock_68 : decode cX12_doBlock 68 = .ok (.istore 5, 2) := by decide +kernel
theorem dX12_doBlock_70 : decode cX12_doBlock 70 = .ok (.aload_n 0, 1) := by decide +kernel
theorem dX12_doBlock_71 : decode cX12_doBlock 71 = .ok (.getfield 7, 3) := by decide +kernel
theorem dX12_doBlock_74 : decode cX12_doBlock 74 = .ok (.iload 5, 2) := by decide +kernel
theorem dX12_doBlock_76 : decode cX12_doBlock 76 = .ok (.iload_n 1, 1) := by decide +kernel
theorem dX12_doBlock_77 : decode cX12_doBlock 77 = .ok (.iastore, 1) := by decide +kernel
theorem dX12_doBlock_78 : decode cX12_doBlock 78 = .ok (.aload_n 0, 1) := by decide +kernel
theorem dX12_doBlock_79 : decode cX12_doBlock 79 = .ok (.getfield 7, 3) := by decide +kernel
theorem dX12_doBlock_82 : decode cX12_doBlock 82 = .ok (.iload 5, 2) := by decide +kernel
theorem dX12_doBlock_84 : decode cX12_doBlock 84 = .ok (.iconst 1, 1) := by decide +kernel
theorem dX12_doBlock_85 : decode cX12_doBlock 85 = .ok (.iadd, 1) := by decide +kernel
theorem dX12_doBlock_86 : decode cX12_doBlock 86 = .ok (.iload_n 2, 1) := by decide +kernel
theorem dX12_doBlock_87 : decode cX12_doBlock 87 = .ok (.iastore, 1) := by decide +kernel
theorem dX12_doBlock_88 : decode cX12_doBlock 88 = .ok (.aload_n 0, 1) := by decide +kernel
theorem dX12_doBlock_89 : decode cX12_doBlock 89 = .ok (.getfield 7, 3) := by decide +kernel
theorem dX12_doBlock_92 : decode cX12_doBlock 92 = .ok (.iload 5, 2) := by decide +kernel
theorem dX12_doBlock_94 : decode cX12_doBlock 94 = .ok (.iconst 2, 1) := by decide +kernel
theorem dX12_doBlock_95 : decode cX12_doBlock 95 = .ok (.iadd, 1) := by decide +kernel
theorem dX12_doBlock_96 : decode cX12_doBlock 96 = .ok (.iload_n 3, 1) := by decide +kernel
theorem dX12_doBlock_97 : decode cX12_doBlock 97 = .ok (.iastore, 1) := by decide +kernel
theorem dX12_doBlock_98 : decode cX12_doBlock 98 = .ok (.aload_n 0, 1) := by decide +kernel
theorem dX12_doBlock_99 : decode cX12_doBlock 99 = .ok (.getfield 7, 3) := by decide +kernel
theorem dX12_doBlock_102 : decode cX12_doBlock 102 = .ok (.iload 5, 2) := by decide +kernel
theorem dX12_doBlock_104 : decode cX12_doBlock 104 = .ok (.iconst 3, 1) := by decide +kernel
theorem dX12_doBlock_105 : decode cX12_doBlock 105 = .ok (.iadd, 1) := by decide +kernel
theorem dX12_doBlock_106 : decode cX12_doBlock 106 = .ok (.iload 4, 2) := by decide +kernel
theorem dX12_doBlock_108 : decode cX12_doBlock 108 = .ok (.iastore, 1) := by decide +kernel
theorem dX12_doBlock_109 : decode cX12_doBlock 109 = .ok (.aload_n 0, 1) := by decide +kernel
theorem dX12_doBlock_110 : decode cX12_doBlock 110 = .ok (.getfield 7, 3) := by decide +kernel
theorem dX12_doBlock_113 : decode cX12_doBlock 113 = .ok (.iload 5, 2) := by decide +kernel
theorem dX12_doBlock_115 : decode cX12_doBlock 115 = .ok (.iconst 4, 1) := by decide +kernel
theorem dX12_doBlock_116 : decode cX12_doBlock 116 = .ok (.iadd, 1) := by decide +kernel
theorem dX12_doBlock_117 : decode cX12_doBlock 117 = .ok (.iconst 0, 1) := by decide +kernel
theorem dX12_doBlock_118 : decode cX12_doBlock 118 = .ok (.iastore, 1) := by decide +kernel
theorem dX12_doBlock_119 : decode cX12_doBlock 119 = .ok (.aload_n 0, 1) := by decide +kernel
theorem dX12_doBlock_120 : decode cX12_doBlock 120 = .ok (.getfield 7, 3) := by decide +kernel
theorem dX12_doBlock_123 : decode cX12_doBlock 123 = .ok (.iload 5, 2) := by decide +kernel
theorem dX12_doBlock_125 : decode cX12_doBlock 125 = .ok (.iconst 5, 1) := by decide +kernel
theorem dX12_doBlock_126 : decode cX12_doBlock 126 = .ok (.iadd, 1) := by decide +kernel
theorem dX12_doBlock_127 : decode cX12_doBlock 127 = .ok (.iconst 0, 1) := by decide +kernel
theorem dX12_doBlock_128 : decode cX12_doBlock 128 = .ok (.iastore, 1) := by decide +kernel
theorem dX12_doBlock_129 : decode cX12_doBlock 129 = .ok (.aload_n 0, 1) := by decide +kernel
theorem dX12_doBlock_130 : decode cX12_doBlock 130 = .ok (.getfield 7, 3) := by decide +kernel
theorem dX12_doBlock_133 : decode cX12_doBlock 133 = .ok (.iload 5, 2) := by decide +kernel
theorem dX12_doBlock_135 : decode cX12_doBlock 135 = .ok (.bipush 6, 2) := by decide +kernel
theorem dX12_doBlock_137 : decode cX12_doBlock 137 = .ok (.iadd, 1) := by decide +kernel
theorem dX12_doBlock_138 : decode cX12_doBlock 138 = .ok (.iconst 0, 1) := by decide +kernel
theorem dX12_doBlock_139 : decode cX12_doBlock 139 = .ok (.iastore, 1) := by decide +kernel
theorem dX12_doBlock_140 : decode cX12_doBlock 140 = .ok (.aload_n 0, 1) := by decide +kernel
theorem dX12_doBlock_141 : decode cX12_doBlock 141 = .ok (.getfield 7, 3) := by decide +kernel
theorem dX12_doBlock_144 : decode cX12_doBlock 144 = .ok (.iconst 0, 1) := by decide +kernel
theorem dX12_doBlock_145 : decode cX12_doBlock 145 = .ok (.dup2, 1) := by decide +kernel
theorem dX12_doBlock_146 : decode cX12_doBlock 146 = .ok (.iaload, 1) := by decide +kernel
theorem dX12_doBlock_147 : decode cX12_doBlock 147 = .ok (.iconst 1, 1) := by decide +kernel
theorem dX12_doBlock_148 : decode cX12_doBlock 148 = .ok (.iadd, 1) := by decide +kernel
theorem dX12_doBlock_149 : decode cX12_doBlock 149 = .ok (.iastore, 1) := by decide +kernel
theorem dX12_doBlock_150 : decode cX12_doBlock 150 = .ok (.aload_n 0, 1) := by decide +kernel
theorem dX12_doBlock_151 : decode cX12_doBlock 151 = .ok (.getfield 7, 3) := by decide +kernel
theorem dX12_doBlock_154 : decode cX12_doBlock 154 = .ok (.iconst 0, 1) := by decide +kernel
theorem dX12_doBlock_155 : decode cX12_doBlock 155 = .ok (.iaload, 1) := by decide +kernel
theorem dX12_doBlock_156 : decode cX12_doBlock 156 = .ok (.iconst 1, 1) := by decide +kernel
theorem dX12_doBlock_157 : decode cX12_doBlock 157 = .ok (.isub, 1) := by decide +kernel
theorem dX12_doBlock_158 : decode cX12_doBlock 158 = .ok (.ireturn, 1) := by decide +kernel
theorem dX12_doShifts_0 : decode cX12_doShifts 0 = .ok (.aload_n 0, 1) := by decide +kernel
theorem dX12_doShifts_1 : decode cX12_doShifts 1 = .ok (.iload_n 1, 1) := by decide +kernel
theorem dX12_doShifts_2 : decode cX12_doShifts 2 = .ok (.invokevirtual 84, 3) := by decide +kernel
theorem dX12_doShifts_5 : decode cX12_doShifts 5 = .ok (.ifCond .eq 23, 3) := by decide +kernel
theorem dX12_doShifts_8 : decode cX12_doShifts 8 = .ok (.iload_n 2, 1) := by decide +kernel
theorem dX12_doShifts_9 : decode cX12_doShifts 9 = .ok (.bipush (-3), 2) := by decide +kernel
theorem dX12_doShifts_11 : decode cX12_doShifts 11 = .ok (.iconst 3, 1) := by decide +kernel
theorem dX12_doShifts_12 : decode cX12_doShifts 12 = .ok (.invokestatic 67, 3) := by decide +kernel
theorem dX12_doShifts_15 : decode cX12_doShifts 15 = .ok (.ifCond .eq 13, 3) := by decide +kernel
theorem dX12_doShifts_18 : decode cX12_doShifts 18 = .ok (.iload_n 3, 1) := by decide +kernel
theorem dX12_doShifts_19 : decode cX12_doShifts 19 = .ok (.bipush (-3), 2) := by decide +kernel
theorem dX12_doShifts_21 : decode cX12_doShifts 21 = .ok (.iconst 3, 1) := by decide +kernel
theorem dX12_doShifts_22 : decode cX12_doShifts 22 = .ok (.invokestatic 67, 3) := by decide +kernel
theorem dX12_doShifts_25 : decode cX12_doShifts 25 = .ok (.ifCond .ne 6, 3) := by decide +kernel
theorem dX12_doShifts_28 : decode cX12_doShifts 28 = .ok (.bipush (-2), 2) := by decide +kernel
theorem dX12_doShifts_30 : decode cX12_doShifts 30 = .ok (.ireturn, 1) := by decide +kernel
theorem dX12_doShifts_31 : decode cX12_doShifts 31 = .ok (.aload_n 0, 1) := by decide +kernel
theorem dX12_doShifts_32 : decode cX12_doShifts 32 = .ok (.getfield 7, 3) := by decide +kernel
theorem dX12_doShifts_35 : decode cX12_doShifts 35 = .ok (.iconst 1, 1) := by decide +kernel
theorem dX12_doShifts_36 : decode cX12_doShifts 36 = .ok (.bipush 7, 2) := by decide +kernel
theorem dX12_doShifts_38 : decode cX12_doShifts 38 = .ok (.iload_n 1, 1) := by decide +kernel
theorem dX12_doShifts_39 : decode cX12_doShifts 39 = .ok (.imul, 1) := by decide +kernel
theorem dX12_doShifts_40 : decode cX12_doShifts 40 = .ok (.iadd, 1) := by decide +kernel
theorem dX12_doShifts_41 : decode cX12_doShifts 41 = .ok (.iconst 4, 1) := by decide +kernel
theorem dX12_doShifts_42 : decode cX12_doShifts 42 = .ok (.iadd, 1) := by decide +kernel
theorem dX12_doShifts_43 : decode cX12_doShifts 43 = .ok (.iload_n 2, 1) := by decide +kernel
theorem dX12_doShifts_44 : decode cX12_doShifts 44 = .ok (.iastore, 1) := by decide +kernel
theorem dX12_doShifts_45 : decode cX12_doShifts 45 = .ok (.aload_n 0, 1) := by decide +kernel
theorem dX12_doShifts_46 : decode cX12_doShifts 46 = .ok (.getfield 7, 3) := by decide +kernel
theorem dX12_doShifts_49 : decode cX12_doShifts 49 = .ok (.iconst 1, 1) := by decide +kernel
theorem dX12_doShifts_50 : decode cX12_doShifts 50 = .ok (.bipush 7, 2) := by decide +kernel
theorem dX12_doShifts_52 : decode cX12_doShifts 52 = .ok (.iload_n 1, 1) := by decide +kernel
theorem dX12_doShifts_53 : decode cX12_doShifts 53 = .ok (.imul, 1) := by decide +kernel
theorem dX12_doShifts_54 : decode cX12_doShifts 54 = .ok (.iadd, 1) := by decide +kernel
theorem dX12_doShifts_55 : decode cX12_doShifts 55 = .ok (.iconst 5, 1) := by decide +kernel
theorem dX12_doShifts_56 : decode cX12_doShifts 56 = .ok (.iadd, 1) := by decide +kernel
theorem dX12_doShifts_57 : decode cX12_doShifts 57 = .ok (.iload_n 3, 1) := by decide +kernel
theorem dX12_doShifts_58 : decode cX12_doShifts 58 = .ok (.iastore, 1) := by decide +kernel
theorem dX12_doShifts_59 : decode cX12_doShifts 59 = .ok (.aload_n 0, 1) := by decide +kernel
theorem dX12_doShifts_60 : decode cX12_doShifts 60 = .ok (.iload_n 1, 1) := by decide +kernel
theorem dX12_doShifts_61 : decode cX12_doShifts 61 = .ok (.invokevirtual 88, 3) := by decide +kernel
theorem dX12_doShifts_64 : decode cX12_doShifts 64 = .ok (.invokestatic 91, 3) := by decide +kernel
theorem dX12_doShifts_67 : decode cX12_doShifts 67 = .ok (.ireturn, 1) := by decide +kernel
theorem dX12_doBehind_0 : decode cX12_doBehind 0 = .ok (.aload_n 0, 1) := by decide +kernel
theorem dX12_doBehind_1 : decode cX12_doBehind 1 = .ok (.iload_n 1, 1) := by decide +kernel
theorem dX12_doBehind_2 : decode cX12_doBehind 2 = .ok (.invokevirtual 84, 3) := by decide +kernel
theorem dX12_doBehind_5 : decode cX12_doBehind 5 = .ok (.ifCond .eq 25, 3) := by decide +kernel
theorem dX12_doBehind_8 : decode cX12_doBehind 8 = .ok (.aload_n 0, 1) := by decide +kernel
theorem dX12_doBehind_9 : decode cX12_doBehind 9 = .ok (.iload_n 2, 1) := by decide +kernel
theorem dX12_doBehind_10 : decode cX12_doBehind 10 = .ok (.invokevirtual 84, 3) := by decide +kernel
theorem dX12_doBehind_13 : decode cX12_doBehind 13 = .ok (.ifCond .eq 17, 3) := by decide +kernel
theorem dX12_doBehind_16 : decode cX12_doBehind 16 = .ok (.iload_n 1, 1) := by decide +kernel
theorem dX12_doBehind_17 : decode cX12_doBehind 17 = .ok (.iload_n 2, 1) := by decide +kernel
theorem dX12_doBehind_18 : decode cX12_doBehind 18 = .ok (.if_icmp .eq 12, 3) := by decide +kernel
theorem dX12_doBehind_21 : decode cX12_doBehind 21 = .ok (.iload_n 3, 1) := by decide +kernel
theorem dX12_doBehind_22 : decode cX12_doBehind 22 = .ok (.iconst 0, 1) := by decide +kernel
theorem dX12_doBehind_23 : decode cX12_doBehind 23 = .ok (.iconst 1, 1) := by decide +kernel
theorem dX12_doBehind_24 : decode cX12_doBehind 24 = .ok (.invokestatic 67, 3) := by decide +kernel
theorem dX12_doBehind_27 : decode cX12_doBehind 27 = .ok (.ifCond .ne 6, 3) := by decide +kernel
theorem dX12_doBehind_30 : decode cX12_doBehind 30 = .ok (.bipush (-2), 2) := by decide +kernel
theorem dX12_doBehind_32 : decode cX12_doBehind 32 = .ok (.ireturn, 1) := by decide +kernel
theorem dX12_doBehind_33 : decode cX12_doBehind 33 = .ok (.iconst 1, 1) := by decide +kernel
theorem dX12_doBehind_34 : decode cX12_doBehind 34 = .ok (.bipush 7, 2) := by decide +kernel
theorem dX12_doBehind_36 : decode cX12_doBehind 36 = .ok (.iload_n 1, 1) := by decide +kernel
theorem dX12_doBehind_37 : decode cX12_doBehind 37 = .ok (.imul, 1) := by decide +kernel
theorem dX12_doBehind_38 : decode cX12_doBehind 38 = .ok (.iadd, 1) := by decide +kernel
theorem dX12_doBehind_39 : decode cX12_doBehind 39 = .ok (.bipush 6, 2) := by decide +kernel
theorem dX12_doBehind_41 : decode cX12_doBehind 41 = .ok (.iadd, 1) := by decide +kernel
theorem dX12_doBehind_42 : decode cX12_doBehind 42 = .ok (.istore 4, 2) := by decide +kernel
theorem dX12_doBehind_44 : decode cX12_doBehind 44 = .ok (.aload_n 0, 1) := by decide +kernel
theorem dX12_doBehind_45 : decode cX12_doBehind 45 = .ok (.getfield 7, 3) := by decide +kernel
theorem dX12_doBehind_48 : decode cX12_doBehind 48 = .ok (.iload 4, 2) := by decide +kernel
theorem dX12_doBehind_50 : decode cX12_doBehind 50 = .ok (.iaload, 1) := by decide +kernel
theorem dX12_doBehind_51 : decode cX12_doBehind 51 = .ok (.iload_n 2, 1) := by decide +kernel
theorem dX12_doBehind_52 : decode cX12_doBehind 52 = .ok (.ishr, 1) := by decide +kernel
theorem dX12_doBehind_53 : decode cX12_doBehind 53 = .ok (.iconst 1, 1) := by decide +kernel
theorem dX12_doBehind_54 : decode cX12_doBehind 54 = .ok (.iand, 1) := by decide +kernel
theorem dX12_doBehind_55 : decode cX12_doBehind 55 = .ok (.istore 5, 2) := by decide +kernel
theorem dX12_doBehind_57 : decode cX12_doBehind 57 = .ok (.aload_n 0, 1) := by decide +kernel
theorem dX12_doBehind_58 : decode cX12_doBehind 58 = .ok (.getfield 7, 3) := by decide +kernel
theorem dX12_doBehind_61 : decode cX12_doBehind 61 = .ok (.iload 4, 2) := by decide +kernel
theorem dX12_doBehind_63 : decode cX12_doBehind 63 = .ok (.aload_n 0, 1) := by decide +kernel
theorem dX12_doBehind_64 : decode cX12_doBehind 64 = .ok (.getfield 7, 3) := by decide +kernel
theorem dX12_doBehind_67 : decode cX12_doBehind 67 = .ok (.iload 4, 2) := by decide +kernel
theorem dX12_doBehind_69 : decode cX12_doBehind 69 = .ok (.iaload, 1) := by decide +kernel
theorem dX12_doBehind_70 : decode cX12_doBehind 70 = .ok (.iconst 1, 1) := by decide +kernel
theorem dX12_doBehind_71 : decode cX12_doBehind 71 = .ok (.iload_n 2, 1) := by decide +kernel
theorem dX12_doBehind_72 : decode cX12_doBehind 72 = .ok (.ishl, 1) := by decide +kernel
theorem dX12_doBehind_73 : decode cX12_doBehind 73 = .ok (.iconst (-1), 1) := by decide +kernel
theorem dX12_doBehind_74 : decode cX12_doBehind 74 = .ok (.ixor, 1) := by decide +kernel
theorem dX12_doBehind_75 : decode cX12_doBehind 75 = .ok (.iand, 1) := by decide +kernel
theorem dX12_doBehind_76 : decode cX12_doBehind 76 = .ok (.iload_n 3, 1) := by decide +kernel
theorem dX12_doBehind_77 : decode cX12_doBehind 77 = .ok (.iload_n 2, 1) := by decide +kernel
theorem dX12_doBehind_78 : decode cX12_doBehind 78 = .ok (.ishl, 1) := by decide +kernel
theorem dX12_doBehind_79 : decode cX12_doBehind 79 = .ok (.ior, 1) := by decide +kernel
theorem dX12_doBehind_80 : decode cX12_doBehind 80 = .ok (.iastore, 1) := by decide +kernel
theorem dX12_doBehind_81 : decode cX12_doBehind 81 = .ok (.iload 5, 2) := by decide +kernel
theorem dX12_doBehind_83 : decode cX12_doBehind 83 = .ok (.ireturn, 1) := by decide +kernel
theorem dX12_block_0 : decode cX12_block 0 = .ok (.aload_n 0, 1) := by decide +kernel
theorem dX12_block_1 : decode cX12_block 1 = .ok (.invokevirtual 94, 3) := by decide +kernel
theorem dX12_block_4 : decode cX12_block 4 = .ok (.aload_n 0, 1) := by decide +kernel
theorem dX12_block_5 : decode cX12_block 5 = .ok (.aload_n 0, 1) := by decide +kernel
theorem dX12_block_6 : decode cX12_block 6 = .ok (.iload_n 1, 1) := by decide +kernel
theorem dX12_block_7 : decode cX12_block 7 = .ok (.iload_n 2, 1) := by decide +kernel
theorem dX12_block_8 : decode cX12_block 8 = .ok (.iload_n 3, 1) := by decide +kernel
theorem dX12_block_9 : decode cX12_block 9 = .ok (.iload 4, 2) := by decide +kernel
theorem dX12_block_11 : decode cX12_block 11 = .ok (.invokevirtual 97, 3) := by decide +kernel
theorem dX12_block_14 : decode cX12_block 14 = .ok (.invokevirtual 101, 3) := by decide +kernel
theorem dX12_block_17 : decode cX12_block 17 = .ok (.ireturn, 1) := by decide +kernel
theorem dX12_shifts_0 : decode cX12_shifts 0 = .ok (.aload_n 0, 1) := by decide +kernel
theorem dX12_shifts_1 : decode cX12_shifts 1 = .ok (.invokevirtual 94, 3) := by decide +kernel
theorem dX12_shifts_4 : decode cX12_shifts 4 = .ok (.aload_n 0, 1) := by decide +kernel
theorem dX12_shifts_5 : decode cX12_shifts 5 = .ok (.aload_n 0, 1) := by decide +kernel
theorem dX12_shifts_6 : decode cX12_shifts 6 = .ok (.iload_n 1, 1) := by decide +kernel
theorem dX12_shifts_7 : decode cX12_shifts 7 = .ok (.iload_n 2, 1) := by decide +kernel
theorem dX12_shifts_8 : decode cX12_shifts 8 = .ok (.iload_n 3, 1) := by decide +kernel
theorem dX12_shifts_9 : decode cX12_shifts 9 = .ok (.invokevirtual 104, 3) := by decide +kernel
theorem dX12_shifts_12 : decode cX12_shifts 12 = .ok (.invokevirtual 101, 3) := by decide +kernel
theorem dX12_shifts_15 : decode cX12_shifts 15 = .ok (.ireturn, 1) := by decide +kernel
theorem dX12_behind_0 : decode cX12_behind 0 = .ok (.aload_n 0, 1) := by decide +kernel
theorem dX12_behind_1 : decode cX12_behind 1 = .ok (.invokevirtual 94, 3) := by decide +kernel
theorem dX12_behind_4 : decode cX12_behind 4 = .ok (.aload_n 0, 1) := by decide +kernel
theorem dX12_behind_5 : decode cX12_behind 5 = .ok (.aload_n 0, 1) := by decide +kernel
theorem dX12_behind_6 : decode cX12_behind 6 = .ok (.iload_n 1, 1) := by decide +kernel
theorem dX12_behind_7 : decode cX12_behind 7 = .ok (.iload_n 2, 1) := by decide +kernel
theorem dX12_behind_8 : decode cX12_behind 8 = .ok (.iload_n 3, 1) := by decide +kernel
theorem dX12_behind_9 : decode cX12_behind 9 = .ok (.invokevirtual 107, 3) := by decide +kernel
theorem dX12_behind_12 : decode cX12_behind 12 = .ok (.invokevirtual 101, 3) := by decide +kernel
theorem dX12_behind_15 : decode cX12_behind 15 = .ok (.ireturn, 1) := by decide +kernel
theorem dX12_plans_0 : decode cX12_plans 0 = .ok (.iload_n 1, 1) := by decide +kernel
theorem dX12_plans_1 : decode cX12_plans 1 = .ok (.iconst 0, 1) := by decide +kernel
theorem dX12_plans_2 : decode cX12_plans 2 = .ok (.bipush 15, 2) := by decide +kernel
theorem dX12_plans_4 : decode cX12_plans 4 = .ok (.invokestatic 67, 3) := by decide +kernel
theorem dX12_plans_7 : decode cX12_plans 7 = .ok (.ifCond .eq 13, 3) := by decide +kernel
theorem dX12_plans_10 : decode cX12_plans 10 = .ok (.iload_n 2, 1) := by decide +kernel
theorem dX12_plans_11 : decode cX12_plans 11 = .ok (.iconst 0, 1) := by decide +kernel
theorem dX12_plans_12 : decode cX12_plans 12 = .ok (.bipush 7, 2) := by decide +kernel
theorem dX12_plans_14 : decode cX12_plans 14 = .ok (.invokestatic 67, 3) := by decide +kernel
theorem dX12_plans_17 : decode cX12_plans 17 = .ok (.ifCond .ne 10, 3) := by decide +kernel
theorem dX12_plans_20 : decode cX12_plans 20 = .ok (.aload_n 0, 1) := by decide +kernel
theorem dX12_plans_21 : decode cX12_plans 21 = .ok (.bipush (-2), 2) := by decide +kernel
theorem dX12_plans_23 : decode cX12_plans 23 = .ok (.invokevirtual 60, 3) := by decide +kernel
theorem dX12_plans_26 : decode cX12_plans 26 = .ok (.ireturn, 1) := by decide +kernel
theorem dX12_plans_27 : decode cX12_plans 27 = .ok (.aload_n 0, 1) := by decide +kernel
theorem dX12_plans_28 : decode cX12_plans 28 = .ok (.invokevirtual 94, 3) := by decide +kernel
theorem dX12_plans_31 : decode cX12_plans 31 = .ok (.aload_n 0, 1) := by decide +kernel
theorem dX12_plans_32 : decode cX12_plans 32 = .ok (.getfield 7, 3) := by decide +kernel
theorem dX12_plans_35 : decode cX12_plans 35 = .ok (.bipush 43, 2) := by decide +kernel
theorem dX12_plans_37 : decode cX12_plans 37 = .ok (.iload_n 1, 1) := by decide +kernel
theorem dX12_plans_38 : decode cX12_plans 38 = .ok (.iadd, 1) := by decide +kernel
theorem dX12_plans_39 : decode cX12_plans 39 = .ok (.iaload, 1) := by decide +kernel
theorem dX12_plans_40 : decode cX12_plans 40 = .ok (.istore_n 3, 1) := by decide +kernel
theorem dX12_plans_41 : decode cX12_plans 41 = .ok (.aload_n 0, 1) := by decide +kernel
theorem dX12_plans_42 : decode cX12_plans 42 = .ok (.getfield 7, 3) := by decide +kernel
theorem dX12_plans_45 : decode cX12_plans 45 = .ok (.bipush 43, 2) := by decide +kernel
theorem dX12_plans_47 : decode cX12_plans 47 = .ok (.iload_n 1, 1) := by decide +kernel
theorem dX12_plans_48 : decode cX12_plans 48 = .ok (.iadd, 1) := by decide +kernel
theorem dX12_plans_49 : decode cX12_plans 49 = .ok (.iload_n 2, 1) := by decide +kernel
theorem dX12_plans_50 : decode cX12_plans 50 = .ok (.iastore, 1) := by decide +kernel
theorem dX12_plans_51 : decode cX12_plans 51 = .ok (.aload_n 0, 1) := by decide +kernel
theorem dX12_plans_52 : decode cX12_plans 52 = .ok (.invokevirtual 64, 3) := by decide +kernel
theorem dX12_plans_55 : decode cX12_plans 55 = .ok (.iload_n 3, 1) := by decide +kernel
theorem dX12_plans_56 : decode cX12_plans 56 = .ok (.ireturn, 1) := by decide +kernel
theorem dX12_ofAll_0 : decode cX12_ofAll 0 = .ok (.iload_n 2, 1) := by decide +kernel
theorem dX12_ofAll_1 : decode cX12_ofAll 1 = .ok (.iconst 4, 1) := by decide +kernel
theorem dX12_ofAll_2 : decode cX12_ofAll 2 = .ok (.if_icmp .ge 12, 3) := by decide +kernel
theorem dX12_ofAll_5 : decode cX12_ofAll 5 = .ok (.aload_n 0, 1) := by decide +kernel
theorem dX12_ofAll_6 : decode cX12_ofAll 6 = .ok (.iload_n 1, 1) := by decide +kernel
theorem dX12_ofAll_7 : decode cX12_ofAll 7 = .ok (.iload_n 2, 1) := by decide +kernel
theorem dX12_ofAll_8 : decode cX12_ofAll 8 = .ok (.invokevirtual 75, 3) := by decide +kernel
theorem dX12_ofAll_11 : decode cX12_ofAll 11 = .ok (.goto 42, 3) := by decide +kernel
theorem dX12_ofAll_14 : decode cX12_ofAll 14 = .ok (.iload_n 2, 1) := by decide +kernel
theorem dX12_ofAll_15 : decode cX12_ofAll 15 = .ok (.iconst 4, 1) := by decide +kernel
theorem dX12_ofAll_16 : decode cX12_ofAll 16 = .ok (.if_icmp .ne 11, 3) := by decide +kernel
theorem dX12_ofAll_19 : decode cX12_ofAll 19 = .ok (.aload_n 0, 1) := by decide +kernel
theorem dX12_ofAll_20 : decode cX12_ofAll 20 = .ok (.iload_n 1, 1) := by decide +kernel
theorem dX12_ofAll_21 : decode cX12_ofAll 21 = .ok (.invokevirtual 88, 3) := by decide +kernel
theorem dX12_ofAll_24 : decode cX12_ofAll 24 = .ok (.goto 29, 3) := by decide +kernel
theorem dX12_ofAll_27 : decode cX12_ofAll 27 = .ok (.iload_n 2, 1) := by decide +kernel
theorem dX12_ofAll_28 : decode cX12_ofAll 28 = .ok (.bipush 7, 2) := by decide +kernel
theorem dX12_ofAll_30 : decode cX12_ofAll 30 = .ok (.if_icmp .ge 16, 3) := by decide +kernel
theorem dX12_ofAll_33 : decode cX12_ofAll 33 = .ok (.aload_n 0, 1) := by decide +kernel
theorem dX12_ofAll_34 : decode cX12_ofAll 34 = .ok (.iload_n 1, 1) := by decide +kernel
theorem dX12_ofAll_35 : decode cX12_ofAll 35 = .ok (.iload_n 2, 1) := by decide +kernel
theorem dX12_ofAll_36 : decode cX12_ofAll 36 = .ok (.iconst 1, 1) := by decide +kernel
theorem dX12_ofAll_37 : decode cX12_ofAll 37 = .ok (.isub, 1) := by decide +kernel
theorem dX12_ofAll_38 : decode cX12_ofAll 38 = .ok (.invokevirtual 75, 3) := by decide +kernel
theorem dX12_ofAll_41 : decode cX12_ofAll 41 = .ok (.iconst 3, 1) := by decide +kernel
theorem dX12_ofAll_42 : decode cX12_ofAll 42 = .ok (.iadd, 1) := by decide +kernel
theorem dX12_ofAll_43 : decode cX12_ofAll 43 = .ok (.goto 10, 3) := by decide +kernel
theorem dX12_ofAll_46 : decode cX12_ofAll 46 = .ok (.aload_n 0, 1) := by decide +kernel
theorem dX12_ofAll_47 : decode cX12_ofAll 47 = .ok (.iload_n 1, 1) := by decide +kernel
theorem dX12_ofAll_48 : decode cX12_ofAll 48 = .ok (.bipush 6, 2) := by decide +kernel
theorem dX12_ofAll_50 : decode cX12_ofAll 50 = .ok (.invokevirtual 75, 3) := by decide +kernel
theorem dX12_ofAll_53 : decode cX12_ofAll 53 = .ok (.ireturn, 1) := by decide +kernel
theorem dX12_of_0 : decode cX12_of 0 = .ok (.aload_n 0, 1) := by decide +kernel
theorem dX12_of_1 : decode cX12_of 1 = .ok (.iload_n 1, 1) := by decide +kernel
theorem dX12_of_2 : decode cX12_of 2 = .ok (.invokevirtual 84, 3) := by decide +kernel
theorem dX12_of_5 : decode cX12_of 5 = .ok (.ifCond .eq 22, 3) := by decide +kernel
theorem dX12_of_8 : decode cX12_of 8 = .ok (.iload_n 2, 1) := by decide +kernel
theorem dX12_of_9 : decode cX12_of 9 = .ok (.iconst 0, 1) := by decide +kernel
theorem dX12_of_10 : decode cX12_of 10 = .ok (.bipush 7, 2) := by decide +kernel
theorem dX12_of_12 : decode cX12_of 12 = .ok (.invokestatic 67, 3) := by decide +kernel
theorem dX12_of_15 : decode cX12_of 15 = .ok (.ifCond .eq 12, 3) := by decide +kernel
theorem dX12_of_18 : decode cX12_of 18 = .ok (.aload_n 0, 1) := by decide +kernel
theorem dX12_of_19 : decode cX12_of 19 = .ok (.iload_n 1, 1) := by decide +kernel
theorem dX12_of_20 : decode cX12_of 20 = .ok (.iload_n 2, 1) := by decide +kernel
theorem dX12_of_21 : decode cX12_of 21 = .ok (.invokevirtual 110, 3) := by decide +kernel
theorem dX12_of_24 : decode cX12_of 24 = .ok (.goto 9, 3) := by decide +kernel
theorem dX12_of_27 : decode cX12_of 27 = .ok (.aload_n 0, 1) := by decide +kernel
theorem dX12_of_28 : decode cX12_of 28 = .ok (.bipush (-2), 2) := by decide +kernel
theorem dX12_of_30 : decode cX12_of 30 = .ok (.invokevirtual 60, 3) := by decide +kernel
theorem dX12_of_33 : decode cX12_of 33 = .ok (.ireturn, 1) := by decide +kernel
theorem dX12_common_0 : decode cX12_common 0 = .ok (.aload_n 0, 1) := by decide +kernel
theorem dX12_common_1 : decode cX12_common 1 = .ok (.iload_n 1, 1) := by decide +kernel
theorem dX12_common_2 : decode cX12_common 2 = .ok (.invokevirtual 84, 3) := by decide +kernel
theorem dX12_common_5 : decode cX12_common 5 = .ok (.ifCond .eq 25, 3) := by decide +kernel
theorem dX12_common_8 : decode cX12_common 8 = .ok (.aload_n 0, 1) := by decide +kernel
theorem dX12_common_9 : decode cX12_common 9 = .ok (.iload_n 2, 1) := by decide +kernel
theorem dX12_common_10 : decode cX12_common 10 = .ok (.invokevirtual 84, 3) := by decide +kernel
theorem dX12_common_13 : decode cX12_common 13 = .ok (.ifCond .eq 17, 3) := by decide +kernel
theorem dX12_common_16 : decode cX12_common 16 = .ok (.iload_n 1, 1) := by decide +kernel
theorem dX12_common_17 : decode cX12_common 17 = .ok (.iload_n 2, 1) := by decide +kernel
theorem dX12_common_18 : decode cX12_common 18 = .ok (.if_icmp .eq 12, 3) := by decide +kernel
theorem dX12_common_21 : decode cX12_common 21 = .ok (.iload_n 3, 1) := by decide +kernel
theorem dX12_common_22 : decode cX12_common 22 = .ok (.iconst 0, 1) := by decide +kernel
theorem dX12_common_23 : decode cX12_common 23 = .ok (.iconst 1, 1) := by decide +kernel
theorem dX12_common_24 : decode cX12_common 24 = .ok (.invokestatic 67, 3) := by decide +kernel
theorem dX12_common_27 : decode cX12_common 27 = .ok (.ifCond .ne 10, 3) := by decide +kernel
theorem dX12_common_30 : decode cX12_common 30 = .ok (.aload_n 0, 1) := by decide +kernel
theorem dX12_common_31 : decode cX12_common 31 = .ok (.bipush (-2), 2) := by decide +kernel
theorem dX12_common_33 : decode cX12_common 33 = .ok (.invokevirtual 60, 3) := by decide +kernel
theorem dX12_common_36 : decode cX12_common 36 = .ok (.ireturn, 1) := by decide +kernel
theorem dX12_common_37 : decode cX12_common 37 = .ok (.aload_n 0, 1) := by decide +kernel
theorem dX12_common_38 : decode cX12_common 38 = .ok (.iload_n 1, 1) := by decide +kernel
theorem dX12_common_39 : decode cX12_common 39 = .ok (.invokevirtual 88, 3) := by decide +kernel
theorem dX12_common_42 : decode cX12_common 42 = .ok (.aload_n 0, 1) := by decide +kernel
theorem dX12_common_43 : decode cX12_common 43 = .ok (.iload_n 2, 1) := by decide +kernel
theorem dX12_common_44 : decode cX12_common 44 = .ok (.invokevirtual 88, 3) := by decide +kernel
theorem dX12_common_47 : decode cX12_common 47 = .ok (.iand, 1) := by decide +kernel
theorem dX12_common_48 : decode cX12_common 48 = .ok (.istore 4, 2) := by decide +kernel
theorem dX12_common_50 : decode cX12_common 50 = .ok (.iload_n 3, 1) := by decide +kernel
theorem dX12_common_51 : decode cX12_common 51 = .ok (.ifCond .ne 11, 3) := by decide +kernel
theorem dX12_common_54 : decode cX12_common 54 = .ok (.iload 4, 2) := by decide +kernel
theorem dX12_common_56 : decode cX12_common 56 = .ok (.invokestatic 91, 3) := by decide +kernel
theorem dX12_common_59 : decode cX12_common 59 = .ok (.goto 5, 3) := by decide +kernel
theorem dX12_common_62 : decode cX12_common 62 = .ok (.iload 4, 2) := by decide +kernel
theorem dX12_common_64 : decode cX12_common 64 = .ok (.ireturn, 1) := by decide +kernel
theorem dX12_more_0 : decode cX12_more 0 = .ok (.iconst 0, 1) := by decide +kernel
theorem dX12_more_1 : decode cX12_more 1 = .ok (.istore_n 3, 1) := by decide +kernel
theorem dX12_more_2 : decode cX12_more 2 = .ok (.iconst 0, 1) := by decide +kernel
theorem dX12_more_3 : decode cX12_more 3 = .ok (.istore 4, 2) := by decide +kernel
theorem dX12_more_5 : decode cX12_more 5 = .ok (.iload 4, 2) := by decide +kernel
theorem dX12_more_7 : decode cX12_more 7 = .ok (.bipush 16, 2) := by decide +kernel
theorem dX12_more_9 : decode cX12_more 9 = .ok (.if_icmp .ge 44, 3) := by decide +kernel
theorem dX12_more_12 : decode cX12_more 12 = .ok (.iload_n 3, 1) := by decide +kernel
theorem dX12_more_13 : decode cX12_more 13 = .ok (.iload_n 1, 1) := by decide +kernel
theorem dX12_more_14 : decode cX12_more 14 = .ok (.iload 4, 2) := by decide +kernel
theorem dX12_more_16 : decode cX12_more 16 = .ok (.invokestatic 71, 3) := by decide +kernel
theorem dX12_more_19 : decode cX12_more 19 = .ok (.ifCond .ne 7, 3) := by decide +kernel
theorem dX12_more_22 : decode cX12_more 22 = .ok (.iconst 0, 1) := by decide +kernel
theorem dX12_more_23 : decode cX12_more 23 = .ok (.goto 22, 3) := by decide +kernel
theorem dX12_more_26 : decode cX12_more 26 = .ok (.aload_n 0, 1) := by decide +kernel
theorem dX12_more_27 : decode cX12_more 27 = .ok (.getfield 7, 3) := by decide +kernel
theorem dX12_more_30 : decode cX12_more 30 = .ok (.bipush 43, 2) := by decide +kernel
theorem dX12_more_32 : decode cX12_more 32 = .ok (.iload 4, 2) := by decide +kernel
theorem dX12_more_34 : decode cX12_more 34 = .ok (.iadd, 1) := by decide +kernel
theorem dX12_more_35 : decode cX12_more 35 = .ok (.iaload, 1) := by decide +kernel
theorem dX12_more_36 : decode cX12_more 36 = .ok (.iload_n 2, 1) := by decide +kernel
theorem dX12_more_37 : decode cX12_more 37 = .ok (.if_icmp .ne 7, 3) := by decide +kernel
theorem dX12_more_40 : decode cX12_more 40 = .ok (.iconst 1, 1) := by decide +kernel
theorem dX12_more_41 : decode cX12_more 41 = .ok (.goto 4, 3) := by decide +kernel
theorem dX12_more_44 : decode cX12_more 44 = .ok (.iconst (-1), 1) := by decide +kernel
theorem dX12_more_45 : decode cX12_more 45 = .ok (.iadd, 1) := by decide +kernel
theorem dX12_more_46 : decode cX12_more 46 = .ok (.istore_n 3, 1) := by decide +kernel
theorem dX12_more_47 : decode cX12_more 47 = .ok (.iinc 4 1, 3) := by decide +kernel
theorem dX12_more_50 : decode cX12_more 50 = .ok (.goto (-45), 3) := by decide +kernel
theorem dX12_more_53 : decode cX12_more 53 = .ok (.iload_n 3, 1) := by decide +kernel
theorem dX12_more_54 : decode cX12_more 54 = .ok (.ireturn, 1) := by decide +kernel
theorem dX12_fit_0 : decode cX12_fit 0 = .ok (.aload_n 0, 1) := by decide +kernel
theorem dX12_fit_1 : decode cX12_fit 1 = .ok (.iload_n 1, 1) := by decide +kernel
theorem dX12_fit_2 : decode cX12_fit 2 = .ok (.invokevirtual 84, 3) := by decide +kernel
theorem dX12_fit_5 : decode cX12_fit 5 = .ok (.ifCond .eq 12, 3) := by decide +kernel
theorem dX12_fit_8 : decode cX12_fit 8 = .ok (.iload_n 2, 1) := by decide +kernel
