theorem tbX4_digest_126 : ∀ q ∈ ([(126, .iload_n 3, 1), (127, .iconst 3, 1), (128, .if_icmp .ge 23, 3), (131, .lload_n 1, 1), (132, .ldc2_w 195, 3), (135, .lmul, 1), (136, .aload_n 0, 1), (137, .getfield 44, 3), (140, .iload_n 3, 1), (141, .iaload, 1), (142, .i2l, 1), (143, .ladd, 1), (144, .lstore_n 1, 1), (145, .iinc 3 1, 3), (148, .goto (-22), 3), (151, .iconst 0, 1), (152, .istore_n 3, 1), (153, .iload_n 3, 1), (154, .iconst 4, 1), (155, .if_icmp .ge 22, 3), (158, .lload_n 1, 1), (159, .ldc2_w 195, 3), (162, .lmul, 1), (163, .aload_n 0, 1), (164, .iload_n 3, 1), (165, .invokevirtual 147, 3), (168, .i2l, 1), (169, .ladd, 1), (170, .lstore_n 1, 1), (171, .iinc 3 1, 3), (174, .goto (-21), 3), (177, .lload_n 1, 1), (178, .ldc2_w 195, 3), (181, .lmul, 1), (182, .aload_n 0, 1), (183, .getfield 121, 3), (186, .i2l, 1), (187, .ladd, 1), (188, .ldc2_w 195, 3), (191, .lmul, 1)] : List (Nat × Instr × Nat)), decode cX4_digest q.1 = .ok (q.2.1, q.2.2) := by decide +kernel
theorem dX4_digest_126 : decode cX4_digest 126 = .ok (.iload_n 3, 1) := tbX4_digest_126 (126, .iload_n 3, 1) (List.mem_of_getElem? (i := 0) rfl)
theorem dX4_digest_127 : decode cX4_digest 127 = .ok (.iconst 3, 1) := tbX4_digest_126 (127, .iconst 3, 1) (List.mem_of_getElem? (i := 1) rfl)
theorem dX4_digest_128 : decode cX4_digest 128 = .ok (.if_icmp .ge 23, 3) := tbX4_digest_126 (128, .if_icmp .ge 23, 3) (List.mem_of_getElem? (i := 2) rfl)
theorem dX4_digest_131 : decode cX4_digest 131 = .ok (.lload_n 1, 1) := tbX4_digest_126 (131, .lload_n 1, 1) (List.mem_of_getElem? (i := 3) rfl)
theorem dX4_digest_132 : decode cX4_digest 132 = .ok (.ldc2_w 195, 3) := tbX4_digest_126 (132, .ldc2_w 195, 3) (List.mem_of_getElem? (i := 4) rfl)
theorem dX4_digest_135 : decode cX4_digest 135 = .ok (.lmul, 1) := tbX4_digest_126 (135, .lmul, 1) (List.mem_of_getElem? (i := 5) rfl)
theorem dX4_digest_136 : decode cX4_digest 136 = .ok (.aload_n 0, 1) := tbX4_digest_126 (136, .aload_n 0, 1) (List.mem_of_getElem? (i := 6) rfl)
theorem dX4_digest_137 : decode cX4_digest 137 = .ok (.getfield 44, 3) := tbX4_digest_126 (137, .getfield 44, 3) (List.mem_of_getElem? (i := 7) rfl)
theorem dX4_digest_140 : decode cX4_digest 140 = .ok (.iload_n 3, 1) := tbX4_digest_126 (140, .iload_n 3, 1) (List.mem_of_getElem? (i := 8) rfl)
theorem dX4_digest_141 : decode cX4_digest 141 = .ok (.iaload, 1) := tbX4_digest_126 (141, .iaload, 1) (List.mem_of_getElem? (i := 9) rfl)
theorem dX4_digest_142 : decode cX4_digest 142 = .ok (.i2l, 1) := tbX4_digest_126 (142, .i2l, 1) (List.mem_of_getElem? (i := 10) rfl)
theorem dX4_digest_143 : decode cX4_digest 143 = .ok (.ladd, 1) := tbX4_digest_126 (143, .ladd, 1) (List.mem_of_getElem? (i := 11) rfl)
theorem dX4_digest_144 : decode cX4_digest 144 = .ok (.lstore_n 1, 1) := tbX4_digest_126 (144, .lstore_n 1, 1) (List.mem_of_getElem? (i := 12) rfl)
theorem dX4_digest_145 : decode cX4_digest 145 = .ok (.iinc 3 1, 3) := tbX4_digest_126 (145, .iinc 3 1, 3) (List.mem_of_getElem? (i := 13) rfl)
theorem dX4_digest_148 : decode cX4_digest 148 = .ok (.goto (-22), 3) := tbX4_digest_126 (148, .goto (-22), 3) (List.mem_of_getElem? (i := 14) rfl)
theorem dX4_digest_151 : decode cX4_digest 151 = .ok (.iconst 0, 1) := tbX4_digest_126 (151, .iconst 0, 1) (List.mem_of_getElem? (i := 15) rfl)
theorem dX4_digest_152 : decode cX4_digest 152 = .ok (.istore_n 3, 1) := tbX4_digest_126 (152, .istore_n 3, 1) (List.mem_of_getElem? (i := 16) rfl)
theorem dX4_digest_153 : decode cX4_digest 153 = .ok (.iload_n 3, 1) := tbX4_digest_126 (153, .iload_n 3, 1) (List.mem_of_getElem? (i := 17) rfl)
theorem dX4_digest_154 : decode cX4_digest 154 = .ok (.iconst 4, 1) := tbX4_digest_126 (154, .iconst 4, 1) (List.mem_of_getElem? (i := 18) rfl)
theorem dX4_digest_155 : decode cX4_digest 155 = .ok (.if_icmp .ge 22, 3) := tbX4_digest_126 (155, .if_icmp .ge 22, 3) (List.mem_of_getElem? (i := 19) rfl)
theorem dX4_digest_158 : decode cX4_digest 158 = .ok (.lload_n 1, 1) := tbX4_digest_126 (158, .lload_n 1, 1) (List.mem_of_getElem? (i := 20) rfl)
theorem dX4_digest_159 : decode cX4_digest 159 = .ok (.ldc2_w 195, 3) := tbX4_digest_126 (159, .ldc2_w 195, 3) (List.mem_of_getElem? (i := 21) rfl)
theorem dX4_digest_162 : decode cX4_digest 162 = .ok (.lmul, 1) := tbX4_digest_126 (162, .lmul, 1) (List.mem_of_getElem? (i := 22) rfl)
theorem dX4_digest_163 : decode cX4_digest 163 = .ok (.aload_n 0, 1) := tbX4_digest_126 (163, .aload_n 0, 1) (List.mem_of_getElem? (i := 23) rfl)
theorem dX4_digest_164 : decode cX4_digest 164 = .ok (.iload_n 3, 1) := tbX4_digest_126 (164, .iload_n 3, 1) (List.mem_of_getElem? (i := 24) rfl)
theorem dX4_digest_165 : decode cX4_digest 165 = .ok (.invokevirtual 147, 3) := tbX4_digest_126 (165, .invokevirtual 147, 3) (List.mem_of_getElem? (i := 25) rfl)
theorem dX4_digest_168 : decode cX4_digest 168 = .ok (.i2l, 1) := tbX4_digest_126 (168, .i2l, 1) (List.mem_of_getElem? (i := 26) rfl)
theorem dX4_digest_169 : decode cX4_digest 169 = .ok (.ladd, 1) := tbX4_digest_126 (169, .ladd, 1) (List.mem_of_getElem? (i := 27) rfl)
theorem dX4_digest_170 : decode cX4_digest 170 = .ok (.lstore_n 1, 1) := tbX4_digest_126 (170, .lstore_n 1, 1) (List.mem_of_getElem? (i := 28) rfl)
theorem dX4_digest_171 : decode cX4_digest 171 = .ok (.iinc 3 1, 3) := tbX4_digest_126 (171, .iinc 3 1, 3) (List.mem_of_getElem? (i := 29) rfl)
theorem dX4_digest_174 : decode cX4_digest 174 = .ok (.goto (-21), 3) := tbX4_digest_126 (174, .goto (-21), 3) (List.mem_of_getElem? (i := 30) rfl)
theorem dX4_digest_177 : decode cX4_digest 177 = .ok (.lload_n 1, 1) := tbX4_digest_126 (177, .lload_n 1, 1) (List.mem_of_getElem? (i := 31) rfl)
theorem dX4_digest_178 : decode cX4_digest 178 = .ok (.ldc2_w 195, 3) := tbX4_digest_126 (178, .ldc2_w 195, 3) (List.mem_of_getElem? (i := 32) rfl)
theorem dX4_digest_181 : decode cX4_digest 181 = .ok (.lmul, 1) := tbX4_digest_126 (181, .lmul, 1) (List.mem_of_getElem? (i := 33) rfl)
theorem dX4_digest_182 : decode cX4_digest 182 = .ok (.aload_n 0, 1) := tbX4_digest_126 (182, .aload_n 0, 1) (List.mem_of_getElem? (i := 34) rfl)
theorem dX4_digest_183 : decode cX4_digest 183 = .ok (.getfield 121, 3) := tbX4_digest_126 (183, .getfield 121, 3) (List.mem_of_getElem? (i := 35) rfl)
theorem dX4_digest_186 : decode cX4_digest 186 = .ok (.i2l, 1) := tbX4_digest_126 (186, .i2l, 1) (List.mem_of_getElem? (i := 36) rfl)
theorem dX4_digest_187 : decode cX4_digest 187 = .ok (.ladd, 1) := tbX4_digest_126 (187, .ladd, 1) (List.mem_of_getElem? (i := 37) rfl)
theorem dX4_digest_188 : decode cX4_digest 188 = .ok (.ldc2_w 195, 3) := tbX4_digest_126 (188, .ldc2_w 195, 3) (List.mem_of_getElem? (i := 38) rfl)
theorem dX4_digest_191 : decode cX4_digest 191 = .ok (.lmul, 1) := tbX4_digest_126 (191, .lmul, 1) (List.mem_of_getElem? (i := 39) rfl)
theorem tbX4_digest_192 : ∀ q ∈ ([(192, .aload_n 0, 1), (193, .getfield 124, 3), (196, .i2l, 1), (197, .ladd, 1), (198, .lstore_n 1, 1), (199, .aload_n 0, 1), (200, .getfield 90, 3), (203, .ifCond .ne 5, 3), (206, .lload_n 1, 1), (207, .lreturn, 1), (208, .lload_n 1, 1), (209, .ldc2_w 195, 3), (212, .lmul, 1), (213, .aload_n 0, 1), (214, .getfield 172, 3), (217, .i2l, 1), (218, .ladd, 1), (219, .lstore_n 1, 1), (220, .iconst 0, 1), (221, .istore_n 3, 1), (222, .iload_n 3, 1), (223, .aload_n 0, 1), (224, .getfield 172, 3), (227, .if_icmp .ge 23, 3), (230, .lload_n 1, 1), (231, .ldc2_w 195, 3), (234, .lmul, 1), (235, .aload_n 0, 1), (236, .getfield 61, 3), (239, .iload_n 3, 1), (240, .iaload, 1), (241, .i2l, 1), (242, .ladd, 1), (243, .lstore_n 1, 1), (244, .iinc 3 1, 3), (247, .goto (-25), 3), (250, .lload_n 1, 1), (251, .lreturn, 1)] : List (Nat × Instr × Nat)), decode cX4_digest q.1 = .ok (q.2.1, q.2.2) := by decide +kernel
theorem dX4_digest_192 : decode cX4_digest 192 = .ok (.aload_n 0, 1) := tbX4_digest_192 (192, .aload_n 0, 1) (List.mem_of_getElem? (i := 0) rfl)
theorem dX4_digest_193 : decode cX4_digest 193 = .ok (.getfield 124, 3) := tbX4_digest_192 (193, .getfield 124, 3) (List.mem_of_getElem? (i := 1) rfl)
theorem dX4_digest_196 : decode cX4_digest 196 = .ok (.i2l, 1) := tbX4_digest_192 (196, .i2l, 1) (List.mem_of_getElem? (i := 2) rfl)
theorem dX4_digest_197 : decode cX4_digest 197 = .ok (.ladd, 1) := tbX4_digest_192 (197, .ladd, 1) (List.mem_of_getElem? (i := 3) rfl)
theorem dX4_digest_198 : decode cX4_digest 198 = .ok (.lstore_n 1, 1) := tbX4_digest_192 (198, .lstore_n 1, 1) (List.mem_of_getElem? (i := 4) rfl)
theorem dX4_digest_199 : decode cX4_digest 199 = .ok (.aload_n 0, 1) := tbX4_digest_192 (199, .aload_n 0, 1) (List.mem_of_getElem? (i := 5) rfl)
theorem dX4_digest_200 : decode cX4_digest 200 = .ok (.getfield 90, 3) := tbX4_digest_192 (200, .getfield 90, 3) (List.mem_of_getElem? (i := 6) rfl)
theorem dX4_digest_203 : decode cX4_digest 203 = .ok (.ifCond .ne 5, 3) := tbX4_digest_192 (203, .ifCond .ne 5, 3) (List.mem_of_getElem? (i := 7) rfl)
theorem dX4_digest_206 : decode cX4_digest 206 = .ok (.lload_n 1, 1) := tbX4_digest_192 (206, .lload_n 1, 1) (List.mem_of_getElem? (i := 8) rfl)
theorem dX4_digest_207 : decode cX4_digest 207 = .ok (.lreturn, 1) := tbX4_digest_192 (207, .lreturn, 1) (List.mem_of_getElem? (i := 9) rfl)
theorem dX4_digest_208 : decode cX4_digest 208 = .ok (.lload_n 1, 1) := tbX4_digest_192 (208, .lload_n 1, 1) (List.mem_of_getElem? (i := 10) rfl)
theorem dX4_digest_209 : decode cX4_digest 209 = .ok (.ldc2_w 195, 3) := tbX4_digest_192 (209, .ldc2_w 195, 3) (List.mem_of_getElem? (i := 11) rfl)
theorem dX4_digest_212 : decode cX4_digest 212 = .ok (.lmul, 1) := tbX4_digest_192 (212, .lmul, 1) (List.mem_of_getElem? (i := 12) rfl)
theorem dX4_digest_213 : decode cX4_digest 213 = .ok (.aload_n 0, 1) := tbX4_digest_192 (213, .aload_n 0, 1) (List.mem_of_getElem? (i := 13) rfl)
theorem dX4_digest_214 : decode cX4_digest 214 = .ok (.getfield 172, 3) := tbX4_digest_192 (214, .getfield 172, 3) (List.mem_of_getElem? (i := 14) rfl)
theorem dX4_digest_217 : decode cX4_digest 217 = .ok (.i2l, 1) := tbX4_digest_192 (217, .i2l, 1) (List.mem_of_getElem? (i := 15) rfl)
theorem dX4_digest_218 : decode cX4_digest 218 = .ok (.ladd, 1) := tbX4_digest_192 (218, .ladd, 1) (List.mem_of_getElem? (i := 16) rfl)
theorem dX4_digest_219 : decode cX4_digest 219 = .ok (.lstore_n 1, 1) := tbX4_digest_192 (219, .lstore_n 1, 1) (List.mem_of_getElem? (i := 17) rfl)
theorem dX4_digest_220 : decode cX4_digest 220 = .ok (.iconst 0, 1) := tbX4_digest_192 (220, .iconst 0, 1) (List.mem_of_getElem? (i := 18) rfl)
theorem dX4_digest_221 : decode cX4_digest 221 = .ok (.istore_n 3, 1) := tbX4_digest_192 (221, .istore_n 3, 1) (List.mem_of_getElem? (i := 19) rfl)
theorem dX4_digest_222 : decode cX4_digest 222 = .ok (.iload_n 3, 1) := tbX4_digest_192 (222, .iload_n 3, 1) (List.mem_of_getElem? (i := 20) rfl)
theorem dX4_digest_223 : decode cX4_digest 223 = .ok (.aload_n 0, 1) := tbX4_digest_192 (223, .aload_n 0, 1) (List.mem_of_getElem? (i := 21) rfl)
theorem dX4_digest_224 : decode cX4_digest 224 = .ok (.getfield 172, 3) := tbX4_digest_192 (224, .getfield 172, 3) (List.mem_of_getElem? (i := 22) rfl)
theorem dX4_digest_227 : decode cX4_digest 227 = .ok (.if_icmp .ge 23, 3) := tbX4_digest_192 (227, .if_icmp .ge 23, 3) (List.mem_of_getElem? (i := 23) rfl)
theorem dX4_digest_230 : decode cX4_digest 230 = .ok (.lload_n 1, 1) := tbX4_digest_192 (230, .lload_n 1, 1) (List.mem_of_getElem? (i := 24) rfl)
theorem dX4_digest_231 : decode cX4_digest 231 = .ok (.ldc2_w 195, 3) := tbX4_digest_192 (231, .ldc2_w 195, 3) (List.mem_of_getElem? (i := 25) rfl)
theorem dX4_digest_234 : decode cX4_digest 234 = .ok (.lmul, 1) := tbX4_digest_192 (234, .lmul, 1) (List.mem_of_getElem? (i := 26) rfl)
theorem dX4_digest_235 : decode cX4_digest 235 = .ok (.aload_n 0, 1) := tbX4_digest_192 (235, .aload_n 0, 1) (List.mem_of_getElem? (i := 27) rfl)
theorem dX4_digest_236 : decode cX4_digest 236 = .ok (.getfield 61, 3) := tbX4_digest_192 (236, .getfield 61, 3) (List.mem_of_getElem? (i := 28) rfl)
theorem dX4_digest_239 : decode cX4_digest 239 = .ok (.iload_n 3, 1) := tbX4_digest_192 (239, .iload_n 3, 1) (List.mem_of_getElem? (i := 29) rfl)
theorem dX4_digest_240 : decode cX4_digest 240 = .ok (.iaload, 1) := tbX4_digest_192 (240, .iaload, 1) (List.mem_of_getElem? (i := 30) rfl)
theorem dX4_digest_241 : decode cX4_digest 241 = .ok (.i2l, 1) := tbX4_digest_192 (241, .i2l, 1) (List.mem_of_getElem? (i := 31) rfl)
theorem dX4_digest_242 : decode cX4_digest 242 = .ok (.ladd, 1) := tbX4_digest_192 (242, .ladd, 1) (List.mem_of_getElem? (i := 32) rfl)
theorem dX4_digest_243 : decode cX4_digest 243 = .ok (.lstore_n 1, 1) := tbX4_digest_192 (243, .lstore_n 1, 1) (List.mem_of_getElem? (i := 33) rfl)
theorem dX4_digest_244 : decode cX4_digest 244 = .ok (.iinc 3 1, 3) := tbX4_digest_192 (244, .iinc 3 1, 3) (List.mem_of_getElem? (i := 34) rfl)
theorem dX4_digest_247 : decode cX4_digest 247 = .ok (.goto (-25), 3) := tbX4_digest_192 (247, .goto (-25), 3) (List.mem_of_getElem? (i := 35) rfl)
theorem dX4_digest_250 : decode cX4_digest 250 = .ok (.lload_n 1, 1) := tbX4_digest_192 (250, .lload_n 1, 1) (List.mem_of_getElem? (i := 36) rfl)
theorem dX4_digest_251 : decode cX4_digest 251 = .ok (.lreturn, 1) := tbX4_digest_192 (251, .lreturn, 1) (List.mem_of_getElem? (i := 37) rfl)
theorem tbJ6_bitCount_0f7a4_0 : ∀ q ∈ ([(0, .iload_n 0, 1), (1, .iload_n 0, 1), (2, .iconst 1, 1), (3, .iushr, 1), (4, .ldc_w 265, 3), (7, .iand, 1), (8, .isub, 1), (9, .istore_n 0, 1), (10, .iload_n 0, 1), (11, .ldc_w 266, 3), (14, .iand, 1), (15, .iload_n 0, 1), (16, .iconst 2, 1), (17, .iushr, 1), (18, .ldc_w 266, 3), (21, .iand, 1), (22, .iadd, 1), (23, .istore_n 0, 1), (24, .iload_n 0, 1), (25, .iload_n 0, 1), (26, .iconst 4, 1), (27, .iushr, 1), (28, .iadd, 1), (29, .ldc_w 267, 3), (32, .iand, 1), (33, .istore_n 0, 1), (34, .iload_n 0, 1), (35, .iload_n 0, 1), (36, .bipush 8, 2), (38, .iushr, 1), (39, .iadd, 1), (40, .istore_n 0, 1), (41, .iload_n 0, 1), (42, .iload_n 0, 1), (43, .bipush 16, 2), (45, .iushr, 1), (46, .iadd, 1), (47, .istore_n 0, 1), (48, .iload_n 0, 1), (49, .bipush 63, 2)] : List (Nat × Instr × Nat)), decode cJ6_bitCount_0f7a4 q.1 = .ok (q.2.1, q.2.2) := by decide +kernel
theorem dJ6_bitCount_0f7a4_0 : decode cJ6_bitCount_0f7a4 0 = .ok (.iload_n 0, 1) := tbJ6_bitCount_0f7a4_0 (0, .iload_n 0, 1) (List.mem_of_getElem? (i := 0) rfl)
theorem dJ6_bitCount_0f7a4_1 : decode cJ6_bitCount_0f7a4 1 = .ok (.iload_n 0, 1) := tbJ6_bitCount_0f7a4_0 (1, .iload_n 0, 1) (List.mem_of_getElem? (i := 1) rfl)
theorem dJ6_bitCount_0f7a4_2 : decode cJ6_bitCount_0f7a4 2 = .ok (.iconst 1, 1) := tbJ6_bitCount_0f7a4_0 (2, .iconst 1, 1) (List.mem_of_getElem? (i := 2) rfl)
theorem dJ6_bitCount_0f7a4_3 : decode cJ6_bitCount_0f7a4 3 = .ok (.iushr, 1) := tbJ6_bitCount_0f7a4_0 (3, .iushr, 1) (List.mem_of_getElem? (i := 3) rfl)
theorem dJ6_bitCount_0f7a4_4 : decode cJ6_bitCount_0f7a4 4 = .ok (.ldc_w 265, 3) := tbJ6_bitCount_0f7a4_0 (4, .ldc_w 265, 3) (List.mem_of_getElem? (i := 4) rfl)
theorem dJ6_bitCount_0f7a4_7 : decode cJ6_bitCount_0f7a4 7 = .ok (.iand, 1) := tbJ6_bitCount_0f7a4_0 (7, .iand, 1) (List.mem_of_getElem? (i := 5) rfl)
theorem dJ6_bitCount_0f7a4_8 : decode cJ6_bitCount_0f7a4 8 = .ok (.isub, 1) := tbJ6_bitCount_0f7a4_0 (8, .isub, 1) (List.mem_of_getElem? (i := 6) rfl)
theorem dJ6_bitCount_0f7a4_9 : decode cJ6_bitCount_0f7a4 9 = .ok (.istore_n 0, 1) := tbJ6_bitCount_0f7a4_0 (9, .istore_n 0, 1) (List.mem_of_getElem? (i := 7) rfl)
theorem dJ6_bitCount_0f7a4_10 : decode cJ6_bitCount_0f7a4 10 = .ok (.iload_n 0, 1) := tbJ6_bitCount_0f7a4_0 (10, .iload_n 0, 1) (List.mem_of_getElem? (i := 8) rfl)
theorem dJ6_bitCount_0f7a4_11 : decode cJ6_bitCount_0f7a4 11 = .ok (.ldc_w 266, 3) := tbJ6_bitCount_0f7a4_0 (11, .ldc_w 266, 3) (List.mem_of_getElem? (i := 9) rfl)
theorem dJ6_bitCount_0f7a4_14 : decode cJ6_bitCount_0f7a4 14 = .ok (.iand, 1) := tbJ6_bitCount_0f7a4_0 (14, .iand, 1) (List.mem_of_getElem? (i := 10) rfl)
theorem dJ6_bitCount_0f7a4_15 : decode cJ6_bitCount_0f7a4 15 = .ok (.iload_n 0, 1) := tbJ6_bitCount_0f7a4_0 (15, .iload_n 0, 1) (List.mem_of_getElem? (i := 11) rfl)
theorem dJ6_bitCount_0f7a4_16 : decode cJ6_bitCount_0f7a4 16 = .ok (.iconst 2, 1) := tbJ6_bitCount_0f7a4_0 (16, .iconst 2, 1) (List.mem_of_getElem? (i := 12) rfl)
theorem dJ6_bitCount_0f7a4_17 : decode cJ6_bitCount_0f7a4 17 = .ok (.iushr, 1) := tbJ6_bitCount_0f7a4_0 (17, .iushr, 1) (List.mem_of_getElem? (i := 13) rfl)
theorem dJ6_bitCount_0f7a4_18 : decode cJ6_bitCount_0f7a4 18 = .ok (.ldc_w 266, 3) := tbJ6_bitCount_0f7a4_0 (18, .ldc_w 266, 3) (List.mem_of_getElem? (i := 14) rfl)
theorem dJ6_bitCount_0f7a4_21 : decode cJ6_bitCount_0f7a4 21 = .ok (.iand, 1) := tbJ6_bitCount_0f7a4_0 (21, .iand, 1) (List.mem_of_getElem? (i := 15) rfl)
theorem dJ6_bitCount_0f7a4_22 : decode cJ6_bitCount_0f7a4 22 = .ok (.iadd, 1) := tbJ6_bitCount_0f7a4_0 (22, .iadd, 1) (List.mem_of_getElem? (i := 16) rfl)
theorem dJ6_bitCount_0f7a4_23 : decode cJ6_bitCount_0f7a4 23 = .ok (.istore_n 0, 1) := tbJ6_bitCount_0f7a4_0 (23, .istore_n 0, 1) (List.mem_of_getElem? (i := 17) rfl)
theorem dJ6_bitCount_0f7a4_24 : decode cJ6_bitCount_0f7a4 24 = .ok (.iload_n 0, 1) := tbJ6_bitCount_0f7a4_0 (24, .iload_n 0, 1) (List.mem_of_getElem? (i := 18) rfl)
theorem dJ6_bitCount_0f7a4_25 : decode cJ6_bitCount_0f7a4 25 = .ok (.iload_n 0, 1) := tbJ6_bitCount_0f7a4_0 (25, .iload_n 0, 1) (List.mem_of_getElem? (i := 19) rfl)
theorem dJ6_bitCount_0f7a4_26 : decode cJ6_bitCount_0f7a4 26 = .ok (.iconst 4, 1) := tbJ6_bitCount_0f7a4_0 (26, .iconst 4, 1) (List.mem_of_getElem? (i := 20) rfl)
theorem dJ6_bitCount_0f7a4_27 : decode cJ6_bitCount_0f7a4 27 = .ok (.iushr, 1) := tbJ6_bitCount_0f7a4_0 (27, .iushr, 1) (List.mem_of_getElem? (i := 21) rfl)
theorem dJ6_bitCount_0f7a4_28 : decode cJ6_bitCount_0f7a4 28 = .ok (.iadd, 1) := tbJ6_bitCount_0f7a4_0 (28, .iadd, 1) (List.mem_of_getElem? (i := 22) rfl)
theorem dJ6_bitCount_0f7a4_29 : decode cJ6_bitCount_0f7a4 29 = .ok (.ldc_w 267, 3) := tbJ6_bitCount_0f7a4_0 (29, .ldc_w 267, 3) (List.mem_of_getElem? (i := 23) rfl)
theorem dJ6_bitCount_0f7a4_32 : decode cJ6_bitCount_0f7a4 32 = .ok (.iand, 1) := tbJ6_bitCount_0f7a4_0 (32, .iand, 1) (List.mem_of_getElem? (i := 24) rfl)
theorem dJ6_bitCount_0f7a4_33 : decode cJ6_bitCount_0f7a4 33 = .ok (.istore_n 0, 1) := tbJ6_bitCount_0f7a4_0 (33, .istore_n 0, 1) (List.mem_of_getElem? (i := 25) rfl)
theorem dJ6_bitCount_0f7a4_34 : decode cJ6_bitCount_0f7a4 34 = .ok (.iload_n 0, 1) := tbJ6_bitCount_0f7a4_0 (34, .iload_n 0, 1) (List.mem_of_getElem? (i := 26) rfl)
theorem dJ6_bitCount_0f7a4_35 : decode cJ6_bitCount_0f7a4 35 = .ok (.iload_n 0, 1) := tbJ6_bitCount_0f7a4_0 (35, .iload_n 0, 1) (List.mem_of_getElem? (i := 27) rfl)
theorem dJ6_bitCount_0f7a4_36 : decode cJ6_bitCount_0f7a4 36 = .ok (.bipush 8, 2) := tbJ6_bitCount_0f7a4_0 (36, .bipush 8, 2) (List.mem_of_getElem? (i := 28) rfl)
theorem dJ6_bitCount_0f7a4_38 : decode cJ6_bitCount_0f7a4 38 = .ok (.iushr, 1) := tbJ6_bitCount_0f7a4_0 (38, .iushr, 1) (List.mem_of_getElem? (i := 29) rfl)
theorem dJ6_bitCount_0f7a4_39 : decode cJ6_bitCount_0f7a4 39 = .ok (.iadd, 1) := tbJ6_bitCount_0f7a4_0 (39, .iadd, 1) (List.mem_of_getElem? (i := 30) rfl)
theorem dJ6_bitCount_0f7a4_40 : decode cJ6_bitCount_0f7a4 40 = .ok (.istore_n 0, 1) := tbJ6_bitCount_0f7a4_0 (40, .istore_n 0, 1) (List.mem_of_getElem? (i := 31) rfl)
theorem dJ6_bitCount_0f7a4_41 : decode cJ6_bitCount_0f7a4 41 = .ok (.iload_n 0, 1) := tbJ6_bitCount_0f7a4_0 (41, .iload_n 0, 1) (List.mem_of_getElem? (i := 32) rfl)
theorem dJ6_bitCount_0f7a4_42 : decode cJ6_bitCount_0f7a4 42 = .ok (.iload_n 0, 1) := tbJ6_bitCount_0f7a4_0 (42, .iload_n 0, 1) (List.mem_of_getElem? (i := 33) rfl)
theorem dJ6_bitCount_0f7a4_43 : decode cJ6_bitCount_0f7a4 43 = .ok (.bipush 16, 2) := tbJ6_bitCount_0f7a4_0 (43, .bipush 16, 2) (List.mem_of_getElem? (i := 34) rfl)
theorem dJ6_bitCount_0f7a4_45 : decode cJ6_bitCount_0f7a4 45 = .ok (.iushr, 1) := tbJ6_bitCount_0f7a4_0 (45, .iushr, 1) (List.mem_of_getElem? (i := 35) rfl)
theorem dJ6_bitCount_0f7a4_46 : decode cJ6_bitCount_0f7a4 46 = .ok (.iadd, 1) := tbJ6_bitCount_0f7a4_0 (46, .iadd, 1) (List.mem_of_getElem? (i := 36) rfl)
theorem dJ6_bitCount_0f7a4_47 : decode cJ6_bitCount_0f7a4 47 = .ok (.istore_n 0, 1) := tbJ6_bitCount_0f7a4_0 (47, .istore_n 0, 1) (List.mem_of_getElem? (i := 37) rfl)
theorem dJ6_bitCount_0f7a4_48 : decode cJ6_bitCount_0f7a4 48 = .ok (.iload_n 0, 1) := tbJ6_bitCount_0f7a4_0 (48, .iload_n 0, 1) (List.mem_of_getElem? (i := 38) rfl)
theorem dJ6_bitCount_0f7a4_49 : decode cJ6_bitCount_0f7a4 49 = .ok (.bipush 63, 2) := tbJ6_bitCount_0f7a4_0 (49, .bipush 63, 2) (List.mem_of_getElem? (i := 39) rfl)
theorem tbJ6_bitCount_0f7a4_51 : ∀ q ∈ ([(51, .iand, 1), (52, .ireturn, 1)] : List (Nat × Instr × Nat)), decode cJ6_bitCount_0f7a4 q.1 = .ok (q.2.1, q.2.2) := by decide +kernel
theorem dJ6_bitCount_0f7a4_51 : decode cJ6_bitCount_0f7a4 51 = .ok (.iand, 1) := tbJ6_bitCount_0f7a4_51 (51, .iand, 1) (List.mem_of_getElem? (i := 0) rfl)
theorem dJ6_bitCount_0f7a4_52 : decode cJ6_bitCount_0f7a4 52 = .ok (.ireturn, 1) := tbJ6_bitCount_0f7a4_51 (52, .ireturn, 1) (List.mem_of_getElem? (i := 1) rfl)
theorem tbJ9_max_7cf53_0 : ∀ q ∈ ([(0, .iload_n 0, 1), (1, .iload_n 1, 1), (2, .if_icmp .lt 7, 3), (5, .iload_n 0, 1), (6, .goto 4, 3), (9, .iload_n 1, 1), (10, .ireturn, 1)] : List (Nat × Instr × Nat)), decode cJ9_max_7cf53 q.1 = .ok (q.2.1, q.2.2) := by decide +kernel
theorem dJ9_max_7cf53_0 : decode cJ9_max_7cf53 0 = .ok (.iload_n 0, 1) := tbJ9_max_7cf53_0 (0, .iload_n 0, 1) (List.mem_of_getElem? (i := 0) rfl)
theorem dJ9_max_7cf53_1 : decode cJ9_max_7cf53 1 = .ok (.iload_n 1, 1) := tbJ9_max_7cf53_0 (1, .iload_n 1, 1) (List.mem_of_getElem? (i := 1) rfl)
theorem dJ9_max_7cf53_2 : decode cJ9_max_7cf53 2 = .ok (.if_icmp .lt 7, 3) := tbJ9_max_7cf53_0 (2, .if_icmp .lt 7, 3) (List.mem_of_getElem? (i := 2) rfl)
theorem dJ9_max_7cf53_5 : decode cJ9_max_7cf53 5 = .ok (.iload_n 0, 1) := tbJ9_max_7cf53_0 (5, .iload_n 0, 1) (List.mem_of_getElem? (i := 3) rfl)
theorem dJ9_max_7cf53_6 : decode cJ9_max_7cf53 6 = .ok (.goto 4, 3) := tbJ9_max_7cf53_0 (6, .goto 4, 3) (List.mem_of_getElem? (i := 4) rfl)
theorem dJ9_max_7cf53_9 : decode cJ9_max_7cf53 9 = .ok (.iload_n 1, 1) := tbJ9_max_7cf53_0 (9, .iload_n 1, 1) (List.mem_of_getElem? (i := 5) rfl)
theorem dJ9_max_7cf53_10 : decode cJ9_max_7cf53 10 = .ok (.ireturn, 1) := tbJ9_max_7cf53_0 (10, .ireturn, 1) (List.mem_of_getElem? (i := 6) rfl)
theorem tbJ9_min_7cf53_0 : ∀ q ∈ ([(0, .iload_n 0, 1), (1, .iload_n 1, 1), (2, .if_icmp .gt 7, 3), (5, .iload_n 0, 1), (6, .goto 4, 3), (9, .iload_n 1, 1), (10, .ireturn, 1)] : List (Nat × Instr × Nat)), decode cJ9_min_7cf53 q.1 = .ok (q.2.1, q.2.2) := by decide +kernel
theorem dJ9_min_7cf53_0 : decode cJ9_min_7cf53 0 = .ok (.iload_n 0, 1) := tbJ9_min_7cf53_0 (0, .iload_n 0, 1) (List.mem_of_getElem? (i := 0) rfl)
theorem dJ9_min_7cf53_1 : decode cJ9_min_7cf53 1 = .ok (.iload_n 1, 1) := tbJ9_min_7cf53_0 (1, .iload_n 1, 1) (List.mem_of_getElem? (i := 1) rfl)
theorem dJ9_min_7cf53_2 : decode cJ9_min_7cf53 2 = .ok (.if_icmp .gt 7, 3) := tbJ9_min_7cf53_0 (2, .if_icmp .gt 7, 3) (List.mem_of_getElem? (i := 2) rfl)
theorem dJ9_min_7cf53_5 : decode cJ9_min_7cf53 5 = .ok (.iload_n 0, 1) := tbJ9_min_7cf53_0 (5, .iload_n 0, 1) (List.mem_of_getElem? (i := 3) rfl)
theorem dJ9_min_7cf53_6 : decode cJ9_min_7cf53 6 = .ok (.goto 4, 3) := tbJ9_min_7cf53_0 (6, .goto 4, 3) (List.mem_of_getElem? (i := 4) rfl)
theorem dJ9_min_7cf53_9 : decode cJ9_min_7cf53 9 = .ok (.iload_n 1, 1) := tbJ9_min_7cf53_0 (9, .iload_n 1, 1) (List.mem_of_getElem? (i := 5) rfl)
theorem dJ9_min_7cf53_10 : decode cJ9_min_7cf53 10 = .ok (.ireturn, 1) := tbJ9_min_7cf53_0 (10, .ireturn, 1) (List.mem_of_getElem? (i := 6) rfl)
theorem tbJ7_fill_d0a16_0 : ∀ q ∈ ([(0, .iconst 0, 1), (1, .istore_n 3, 1), (2, .aload_n 0, 1), (3, .arraylength, 1), (4, .istore 4, 2), (6, .iload_n 3, 1), (7, .iload 4, 2), (9, .if_icmp .ge 13, 3), (12, .aload_n 0, 1), (13, .iload_n 3, 1), (14, .lload_n 1, 1), (15, .lastore, 1), (16, .iinc 3 1, 3), (19, .goto (-13), 3), (22, .return_, 1)] : List (Nat × Instr × Nat)), decode cJ7_fill_d0a16 q.1 = .ok (q.2.1, q.2.2) := by decide +kernel
theorem dJ7_fill_d0a16_0 : decode cJ7_fill_d0a16 0 = .ok (.iconst 0, 1) := tbJ7_fill_d0a16_0 (0, .iconst 0, 1) (List.mem_of_getElem? (i := 0) rfl)
theorem dJ7_fill_d0a16_1 : decode cJ7_fill_d0a16 1 = .ok (.istore_n 3, 1) := tbJ7_fill_d0a16_0 (1, .istore_n 3, 1) (List.mem_of_getElem? (i := 1) rfl)
theorem dJ7_fill_d0a16_2 : decode cJ7_fill_d0a16 2 = .ok (.aload_n 0, 1) := tbJ7_fill_d0a16_0 (2, .aload_n 0, 1) (List.mem_of_getElem? (i := 2) rfl)
theorem dJ7_fill_d0a16_3 : decode cJ7_fill_d0a16 3 = .ok (.arraylength, 1) := tbJ7_fill_d0a16_0 (3, .arraylength, 1) (List.mem_of_getElem? (i := 3) rfl)
theorem dJ7_fill_d0a16_4 : decode cJ7_fill_d0a16 4 = .ok (.istore 4, 2) := tbJ7_fill_d0a16_0 (4, .istore 4, 2) (List.mem_of_getElem? (i := 4) rfl)
theorem dJ7_fill_d0a16_6 : decode cJ7_fill_d0a16 6 = .ok (.iload_n 3, 1) := tbJ7_fill_d0a16_0 (6, .iload_n 3, 1) (List.mem_of_getElem? (i := 5) rfl)
theorem dJ7_fill_d0a16_7 : decode cJ7_fill_d0a16 7 = .ok (.iload 4, 2) := tbJ7_fill_d0a16_0 (7, .iload 4, 2) (List.mem_of_getElem? (i := 6) rfl)
theorem dJ7_fill_d0a16_9 : decode cJ7_fill_d0a16 9 = .ok (.if_icmp .ge 13, 3) := tbJ7_fill_d0a16_0 (9, .if_icmp .ge 13, 3) (List.mem_of_getElem? (i := 7) rfl)
theorem dJ7_fill_d0a16_12 : decode cJ7_fill_d0a16 12 = .ok (.aload_n 0, 1) := tbJ7_fill_d0a16_0 (12, .aload_n 0, 1) (List.mem_of_getElem? (i := 8) rfl)
theorem dJ7_fill_d0a16_13 : decode cJ7_fill_d0a16 13 = .ok (.iload_n 3, 1) := tbJ7_fill_d0a16_0 (13, .iload_n 3, 1) (List.mem_of_getElem? (i := 9) rfl)
theorem dJ7_fill_d0a16_14 : decode cJ7_fill_d0a16 14 = .ok (.lload_n 1, 1) := tbJ7_fill_d0a16_0 (14, .lload_n 1, 1) (List.mem_of_getElem? (i := 10) rfl)
theorem dJ7_fill_d0a16_15 : decode cJ7_fill_d0a16 15 = .ok (.lastore, 1) := tbJ7_fill_d0a16_0 (15, .lastore, 1) (List.mem_of_getElem? (i := 11) rfl)
theorem dJ7_fill_d0a16_16 : decode cJ7_fill_d0a16 16 = .ok (.iinc 3 1, 3) := tbJ7_fill_d0a16_0 (16, .iinc 3 1, 3) (List.mem_of_getElem? (i := 12) rfl)
theorem dJ7_fill_d0a16_19 : decode cJ7_fill_d0a16 19 = .ok (.goto (-13), 3) := tbJ7_fill_d0a16_0 (19, .goto (-13), 3) (List.mem_of_getElem? (i := 13) rfl)
theorem dJ7_fill_d0a16_22 : decode cJ7_fill_d0a16 22 = .ok (.return_, 1) := tbJ7_fill_d0a16_0 (22, .return_, 1) (List.mem_of_getElem? (i := 14) rfl)
theorem tbJ7_fill_53178_0 : ∀ q ∈ ([(0, .iconst 0, 1), (1, .istore_n 2, 1), (2, .aload_n 0, 1), (3, .arraylength, 1), (4, .istore_n 3, 1), (5, .iload_n 2, 1), (6, .iload_n 3, 1), (7, .if_icmp .ge 13, 3), (10, .aload_n 0, 1), (11, .iload_n 2, 1), (12, .iload_n 1, 1), (13, .iastore, 1), (14, .iinc 2 1, 3), (17, .goto (-12), 3), (20, .return_, 1)] : List (Nat × Instr × Nat)), decode cJ7_fill_53178 q.1 = .ok (q.2.1, q.2.2) := by decide +kernel
theorem dJ7_fill_53178_0 : decode cJ7_fill_53178 0 = .ok (.iconst 0, 1) := tbJ7_fill_53178_0 (0, .iconst 0, 1) (List.mem_of_getElem? (i := 0) rfl)
theorem dJ7_fill_53178_1 : decode cJ7_fill_53178 1 = .ok (.istore_n 2, 1) := tbJ7_fill_53178_0 (1, .istore_n 2, 1) (List.mem_of_getElem? (i := 1) rfl)
theorem dJ7_fill_53178_2 : decode cJ7_fill_53178 2 = .ok (.aload_n 0, 1) := tbJ7_fill_53178_0 (2, .aload_n 0, 1) (List.mem_of_getElem? (i := 2) rfl)
theorem dJ7_fill_53178_3 : decode cJ7_fill_53178 3 = .ok (.arraylength, 1) := tbJ7_fill_53178_0 (3, .arraylength, 1) (List.mem_of_getElem? (i := 3) rfl)
theorem dJ7_fill_53178_4 : decode cJ7_fill_53178 4 = .ok (.istore_n 3, 1) := tbJ7_fill_53178_0 (4, .istore_n 3, 1) (List.mem_of_getElem? (i := 4) rfl)
theorem dJ7_fill_53178_5 : decode cJ7_fill_53178 5 = .ok (.iload_n 2, 1) := tbJ7_fill_53178_0 (5, .iload_n 2, 1) (List.mem_of_getElem? (i := 5) rfl)
theorem dJ7_fill_53178_6 : decode cJ7_fill_53178 6 = .ok (.iload_n 3, 1) := tbJ7_fill_53178_0 (6, .iload_n 3, 1) (List.mem_of_getElem? (i := 6) rfl)
theorem dJ7_fill_53178_7 : decode cJ7_fill_53178 7 = .ok (.if_icmp .ge 13, 3) := tbJ7_fill_53178_0 (7, .if_icmp .ge 13, 3) (List.mem_of_getElem? (i := 7) rfl)
theorem dJ7_fill_53178_10 : decode cJ7_fill_53178 10 = .ok (.aload_n 0, 1) := tbJ7_fill_53178_0 (10, .aload_n 0, 1) (List.mem_of_getElem? (i := 8) rfl)
theorem dJ7_fill_53178_11 : decode cJ7_fill_53178 11 = .ok (.iload_n 2, 1) := tbJ7_fill_53178_0 (11, .iload_n 2, 1) (List.mem_of_getElem? (i := 9) rfl)
theorem dJ7_fill_53178_12 : decode cJ7_fill_53178 12 = .ok (.iload_n 1, 1) := tbJ7_fill_53178_0 (12, .iload_n 1, 1) (List.mem_of_getElem? (i := 10) rfl)
theorem dJ7_fill_53178_13 : decode cJ7_fill_53178 13 = .ok (.iastore, 1) := tbJ7_fill_53178_0 (13, .iastore, 1) (List.mem_of_getElem? (i := 11) rfl)
theorem dJ7_fill_53178_14 : decode cJ7_fill_53178 14 = .ok (.iinc 2 1, 3) := tbJ7_fill_53178_0 (14, .iinc 2 1, 3) (List.mem_of_getElem? (i := 12) rfl)
theorem dJ7_fill_53178_17 : decode cJ7_fill_53178 17 = .ok (.goto (-12), 3) := tbJ7_fill_53178_0 (17, .goto (-12), 3) (List.mem_of_getElem? (i := 13) rfl)
theorem dJ7_fill_53178_20 : decode cJ7_fill_53178 20 = .ok (.return_, 1) := tbJ7_fill_53178_0 (20, .return_, 1) (List.mem_of_getElem? (i := 14) rfl)
set_option maxRecDepth 20000 in
theorem ggL_addState_X3_addState : GoodIn wsL_addState wsX3_addState := goodIn_ca (goodIn_r _ [6, 7, 8, 9, 10, 11, 12, 13, 14, 15, 16, 17, 18, 19, 20, 21, 22, 23, 24, 25, 26, 27, 28, 29, 30, 31, 32, 33, 34, 35, 36, 37, 38] (by decide +kernel) (by decide +kernel)) (goodIn_sub (fun _ h => List.mem_cons_of_mem _ (List.mem_append_right _ h)) (by decide +kernel))
set_option maxRecDepth 20000 in
theorem gL_addState_X3_addState : GoodIn wsL_addState (wsV RL 7 RX3 yX3_addState wsX3_addState) := goodIn_app (goodIn_of _ (by decide +kernel)) ggL_addState_X3_addState
theorem tbL_addState_0 : ∀ q ∈ ([(0, .aload_n 1, 1), (1, .iconst 0, 1), (2, .aload_n 0, 1), (3, .invokevirtual 7, 3), (6, .i2l, 1), (7, .lastore, 1), (8, .goto 6, 3), (11, .astore_n 2, 1), (12, .iconst 1, 1), (13, .ireturn, 1), (14, .iconst 0, 1), (15, .ireturn, 1)] : List (Nat × Instr × Nat)), decode cL_addState q.1 = .ok (q.2.1, q.2.2) := by decide +kernel
theorem dL_addState_0 : decode cL_addState 0 = .ok (.aload_n 1, 1) := tbL_addState_0 (0, .aload_n 1, 1) (List.mem_of_getElem? (i := 0) rfl)
theorem dL_addState_1 : decode cL_addState 1 = .ok (.iconst 0, 1) := tbL_addState_0 (1, .iconst 0, 1) (List.mem_of_getElem? (i := 1) rfl)
theorem dL_addState_2 : decode cL_addState 2 = .ok (.aload_n 0, 1) := tbL_addState_0 (2, .aload_n 0, 1) (List.mem_of_getElem? (i := 2) rfl)
theorem dL_addState_3 : decode cL_addState 3 = .ok (.invokevirtual 7, 3) := tbL_addState_0 (3, .invokevirtual 7, 3) (List.mem_of_getElem? (i := 3) rfl)
theorem dL_addState_6 : decode cL_addState 6 = .ok (.i2l, 1) := tbL_addState_0 (6, .i2l, 1) (List.mem_of_getElem? (i := 4) rfl)
theorem dL_addState_7 : decode cL_addState 7 = .ok (.lastore, 1) := tbL_addState_0 (7, .lastore, 1) (List.mem_of_getElem? (i := 5) rfl)
theorem dL_addState_8 : decode cL_addState 8 = .ok (.goto 6, 3) := tbL_addState_0 (8, .goto 6, 3) (List.mem_of_getElem? (i := 6) rfl)
theorem dL_addState_11 : decode cL_addState 11 = .ok (.astore_n 2, 1) := tbL_addState_0 (11, .astore_n 2, 1) (List.mem_of_getElem? (i := 7) rfl)
theorem dL_addState_12 : decode cL_addState 12 = .ok (.iconst 1, 1) := tbL_addState_0 (12, .iconst 1, 1) (List.mem_of_getElem? (i := 8) rfl)
theorem dL_addState_13 : decode cL_addState 13 = .ok (.ireturn, 1) := tbL_addState_0 (13, .ireturn, 1) (List.mem_of_getElem? (i := 9) rfl)
theorem dL_addState_14 : decode cL_addState 14 = .ok (.iconst 0, 1) := tbL_addState_0 (14, .iconst 0, 1) (List.mem_of_getElem? (i := 10) rfl)
theorem dL_addState_15 : decode cL_addState 15 = .ok (.ireturn, 1) := tbL_addState_0 (15, .ireturn, 1) (List.mem_of_getElem? (i := 11) rfl)
set_option maxRecDepth 20000 in
theorem ggL_addTransition_X3_addTransition : GoodIn wsL_addTransition wsX3_addTransition := goodIn_ca (goodIn_ca (goodIn_ca (goodIn_r _ [8, 9, 10, 11, 12, 13, 14, 15, 16, 17, 18, 19, 20, 21, 22, 23, 7, 24, 25, 26, 27, 28, 29, 30, 31, 32, 33, 34, 35, 36, 37, 38, 39, 40, 41, 42, 43, 44, 45, 46, 47, 48, 49, 50, 51, 52, 53, 54, 55, 56, 57, 58, 59, 60, 61, 62, 63, 64, 65, 66, 67, 68, 69, 70, 71, 72, 73, 74, 75, 76, 77, 78, 79, 80] (by decide +kernel) (by decide +kernel)) (goodIn_sub (fun _ h => List.mem_cons_of_mem _ (List.mem_append_left _ (List.mem_append_left _ (List.mem_append_right _ h)))) (by decide +kernel))) (goodIn_sub (fun _ h => List.mem_cons_of_mem _ (List.mem_append_left _ (List.mem_append_right _ h))) (by decide +kernel))) (goodIn_sub (fun _ h => List.mem_cons_of_mem _ (List.mem_append_right _ h)) (by decide +kernel))
set_option maxRecDepth 20000 in
theorem gL_addTransition_X3_addTransition : GoodIn wsL_addTransition (wsV RL 15 RX3 yX3_addTransition wsX3_addTransition) := goodIn_app (goodIn_of _ (by decide +kernel)) ggL_addTransition_X3_addTransition
theorem tbL_addTransition_0 : ∀ q ∈ ([(0, .aload 7, 2), (2, .iconst 0, 1), (3, .aload_n 0, 1), (4, .iload_n 1, 1), (5, .iload_n 2, 1), (6, .iload_n 3, 1), (7, .iload 4, 2), (9, .iload 5, 2), (11, .iload 6, 2), (13, .invokevirtual 15, 3), (16, .i2l, 1), (17, .lastore, 1), (18, .goto 15, 3), (21, .astore 8, 2), (23, .iconst 1, 1), (24, .ireturn, 1), (25, .astore 8, 2), (27, .iconst 2, 1), (28, .ireturn, 1), (29, .astore 8, 2), (31, .iconst 3, 1), (32, .ireturn, 1), (33, .iconst 0, 1), (34, .ireturn, 1)] : List (Nat × Instr × Nat)), decode cL_addTransition q.1 = .ok (q.2.1, q.2.2) := by decide +kernel
theorem dL_addTransition_0 : decode cL_addTransition 0 = .ok (.aload 7, 2) := tbL_addTransition_0 (0, .aload 7, 2) (List.mem_of_getElem? (i := 0) rfl)
theorem dL_addTransition_2 : decode cL_addTransition 2 = .ok (.iconst 0, 1) := tbL_addTransition_0 (2, .iconst 0, 1) (List.mem_of_getElem? (i := 1) rfl)
theorem dL_addTransition_3 : decode cL_addTransition 3 = .ok (.aload_n 0, 1) := tbL_addTransition_0 (3, .aload_n 0, 1) (List.mem_of_getElem? (i := 2) rfl)
theorem dL_addTransition_4 : decode cL_addTransition 4 = .ok (.iload_n 1, 1) := tbL_addTransition_0 (4, .iload_n 1, 1) (List.mem_of_getElem? (i := 3) rfl)
theorem dL_addTransition_5 : decode cL_addTransition 5 = .ok (.iload_n 2, 1) := tbL_addTransition_0 (5, .iload_n 2, 1) (List.mem_of_getElem? (i := 4) rfl)
theorem dL_addTransition_6 : decode cL_addTransition 6 = .ok (.iload_n 3, 1) := tbL_addTransition_0 (6, .iload_n 3, 1) (List.mem_of_getElem? (i := 5) rfl)
theorem dL_addTransition_7 : decode cL_addTransition 7 = .ok (.iload 4, 2) := tbL_addTransition_0 (7, .iload 4, 2) (List.mem_of_getElem? (i := 6) rfl)
theorem dL_addTransition_9 : decode cL_addTransition 9 = .ok (.iload 5, 2) := tbL_addTransition_0 (9, .iload 5, 2) (List.mem_of_getElem? (i := 7) rfl)
theorem dL_addTransition_11 : decode cL_addTransition 11 = .ok (.iload 6, 2) := tbL_addTransition_0 (11, .iload 6, 2) (List.mem_of_getElem? (i := 8) rfl)
theorem dL_addTransition_13 : decode cL_addTransition 13 = .ok (.invokevirtual 15, 3) := tbL_addTransition_0 (13, .invokevirtual 15, 3) (List.mem_of_getElem? (i := 9) rfl)
theorem dL_addTransition_16 : decode cL_addTransition 16 = .ok (.i2l, 1) := tbL_addTransition_0 (16, .i2l, 1) (List.mem_of_getElem? (i := 10) rfl)
theorem dL_addTransition_17 : decode cL_addTransition 17 = .ok (.lastore, 1) := tbL_addTransition_0 (17, .lastore, 1) (List.mem_of_getElem? (i := 11) rfl)
theorem dL_addTransition_18 : decode cL_addTransition 18 = .ok (.goto 15, 3) := tbL_addTransition_0 (18, .goto 15, 3) (List.mem_of_getElem? (i := 12) rfl)
theorem dL_addTransition_21 : decode cL_addTransition 21 = .ok (.astore 8, 2) := tbL_addTransition_0 (21, .astore 8, 2) (List.mem_of_getElem? (i := 13) rfl)
theorem dL_addTransition_23 : decode cL_addTransition 23 = .ok (.iconst 1, 1) := tbL_addTransition_0 (23, .iconst 1, 1) (List.mem_of_getElem? (i := 14) rfl)
theorem dL_addTransition_24 : decode cL_addTransition 24 = .ok (.ireturn, 1) := tbL_addTransition_0 (24, .ireturn, 1) (List.mem_of_getElem? (i := 15) rfl)
theorem dL_addTransition_25 : decode cL_addTransition 25 = .ok (.astore 8, 2) := tbL_addTransition_0 (25, .astore 8, 2) (List.mem_of_getElem? (i := 16) rfl)
theorem dL_addTransition_27 : decode cL_addTransition 27 = .ok (.iconst 2, 1) := tbL_addTransition_0 (27, .iconst 2, 1) (List.mem_of_getElem? (i := 17) rfl)
theorem dL_addTransition_28 : decode cL_addTransition 28 = .ok (.ireturn, 1) := tbL_addTransition_0 (28, .ireturn, 1) (List.mem_of_getElem? (i := 18) rfl)
theorem dL_addTransition_29 : decode cL_addTransition 29 = .ok (.astore 8, 2) := tbL_addTransition_0 (29, .astore 8, 2) (List.mem_of_getElem? (i := 19) rfl)
theorem dL_addTransition_31 : decode cL_addTransition 31 = .ok (.iconst 3, 1) := tbL_addTransition_0 (31, .iconst 3, 1) (List.mem_of_getElem? (i := 20) rfl)
theorem dL_addTransition_32 : decode cL_addTransition 32 = .ok (.ireturn, 1) := tbL_addTransition_0 (32, .ireturn, 1) (List.mem_of_getElem? (i := 21) rfl)
theorem dL_addTransition_33 : decode cL_addTransition 33 = .ok (.iconst 0, 1) := tbL_addTransition_0 (33, .iconst 0, 1) (List.mem_of_getElem? (i := 22) rfl)
theorem dL_addTransition_34 : decode cL_addTransition 34 = .ok (.ireturn, 1) := tbL_addTransition_0 (34, .ireturn, 1) (List.mem_of_getElem? (i := 23) rfl)
set_option maxRecDepth 20000 in
theorem ggL_addAction_X3_addAction : GoodIn wsL_addAction wsX3_addAction := goodIn_ca (goodIn_ca (goodIn_ca (goodIn_r _ [8, 9, 10, 11, 12, 13, 14, 15, 16, 17, 18, 19, 20, 21, 7, 22, 23, 24, 25, 26, 27, 28, 29, 30, 31, 32, 33, 34, 35, 36, 37, 38, 39, 40, 41, 42, 43, 44, 45, 46, 47, 48, 49, 50, 51, 52, 53, 54, 55, 56, 57, 58, 59, 60, 61, 62, 63] (by decide +kernel) (by decide +kernel)) (goodIn_sub (fun _ h => List.mem_cons_of_mem _ (List.mem_append_left _ (List.mem_append_left _ (List.mem_append_right _ h)))) (by decide +kernel))) (goodIn_sub (fun _ h => List.mem_cons_of_mem _ (List.mem_append_left _ (List.mem_append_right _ h))) (by decide +kernel))) (goodIn_sub (fun _ h => List.mem_cons_of_mem _ (List.mem_append_right _ h)) (by decide +kernel))
set_option maxRecDepth 20000 in
theorem gL_addAction_X3_addAction : GoodIn wsL_addAction (wsV RL 23 RX3 yX3_addAction wsX3_addAction) := goodIn_app (goodIn_of _ (by decide +kernel)) ggL_addAction_X3_addAction
theorem tbL_addAction_0 : ∀ q ∈ ([(0, .aload 5, 2), (2, .iconst 0, 1), (3, .aload_n 0, 1), (4, .iload_n 1, 1), (5, .iload_n 2, 1), (6, .iload_n 3, 1), (7, .iload 4, 2), (9, .invokevirtual 23, 3), (12, .i2l, 1), (13, .lastore, 1), (14, .goto 15, 3), (17, .astore 6, 2), (19, .iconst 1, 1), (20, .ireturn, 1), (21, .astore 6, 2), (23, .iconst 2, 1), (24, .ireturn, 1), (25, .astore 6, 2), (27, .iconst 3, 1), (28, .ireturn, 1), (29, .iconst 0, 1), (30, .ireturn, 1)] : List (Nat × Instr × Nat)), decode cL_addAction q.1 = .ok (q.2.1, q.2.2) := by decide +kernel
theorem dL_addAction_0 : decode cL_addAction 0 = .ok (.aload 5, 2) := tbL_addAction_0 (0, .aload 5, 2) (List.mem_of_getElem? (i := 0) rfl)
theorem dL_addAction_2 : decode cL_addAction 2 = .ok (.iconst 0, 1) := tbL_addAction_0 (2, .iconst 0, 1) (List.mem_of_getElem? (i := 1) rfl)
theorem dL_addAction_3 : decode cL_addAction 3 = .ok (.aload_n 0, 1) := tbL_addAction_0 (3, .aload_n 0, 1) (List.mem_of_getElem? (i := 2) rfl)
theorem dL_addAction_4 : decode cL_addAction 4 = .ok (.iload_n 1, 1) := tbL_addAction_0 (4, .iload_n 1, 1) (List.mem_of_getElem? (i := 3) rfl)
theorem dL_addAction_5 : decode cL_addAction 5 = .ok (.iload_n 2, 1) := tbL_addAction_0 (5, .iload_n 2, 1) (List.mem_of_getElem? (i := 4) rfl)
theorem dL_addAction_6 : decode cL_addAction 6 = .ok (.iload_n 3, 1) := tbL_addAction_0 (6, .iload_n 3, 1) (List.mem_of_getElem? (i := 5) rfl)
theorem dL_addAction_7 : decode cL_addAction 7 = .ok (.iload 4, 2) := tbL_addAction_0 (7, .iload 4, 2) (List.mem_of_getElem? (i := 6) rfl)
theorem dL_addAction_9 : decode cL_addAction 9 = .ok (.invokevirtual 23, 3) := tbL_addAction_0 (9, .invokevirtual 23, 3) (List.mem_of_getElem? (i := 7) rfl)
theorem dL_addAction_12 : decode cL_addAction 12 = .ok (.i2l, 1) := tbL_addAction_0 (12, .i2l, 1) (List.mem_of_getElem? (i := 8) rfl)
theorem dL_addAction_13 : decode cL_addAction 13 = .ok (.lastore, 1) := tbL_addAction_0 (13, .lastore, 1) (List.mem_of_getElem? (i := 9) rfl)
theorem dL_addAction_14 : decode cL_addAction 14 = .ok (.goto 15, 3) := tbL_addAction_0 (14, .goto 15, 3) (List.mem_of_getElem? (i := 10) rfl)
theorem dL_addAction_17 : decode cL_addAction 17 = .ok (.astore 6, 2) := tbL_addAction_0 (17, .astore 6, 2) (List.mem_of_getElem? (i := 11) rfl)
theorem dL_addAction_19 : decode cL_addAction 19 = .ok (.iconst 1, 1) := tbL_addAction_0 (19, .iconst 1, 1) (List.mem_of_getElem? (i := 12) rfl)
theorem dL_addAction_20 : decode cL_addAction 20 = .ok (.ireturn, 1) := tbL_addAction_0 (20, .ireturn, 1) (List.mem_of_getElem? (i := 13) rfl)
theorem dL_addAction_21 : decode cL_addAction 21 = .ok (.astore 6, 2) := tbL_addAction_0 (21, .astore 6, 2) (List.mem_of_getElem? (i := 14) rfl)
theorem dL_addAction_23 : decode cL_addAction 23 = .ok (.iconst 2, 1) := tbL_addAction_0 (23, .iconst 2, 1) (List.mem_of_getElem? (i := 15) rfl)
theorem dL_addAction_24 : decode cL_addAction 24 = .ok (.ireturn, 1) := tbL_addAction_0 (24, .ireturn, 1) (List.mem_of_getElem? (i := 16) rfl)
theorem dL_addAction_25 : decode cL_addAction 25 = .ok (.astore 6, 2) := tbL_addAction_0 (25, .astore 6, 2) (List.mem_of_getElem? (i := 17) rfl)
theorem dL_addAction_27 : decode cL_addAction 27 = .ok (.iconst 3, 1) := tbL_addAction_0 (27, .iconst 3, 1) (List.mem_of_getElem? (i := 18) rfl)
theorem dL_addAction_28 : decode cL_addAction 28 = .ok (.ireturn, 1) := tbL_addAction_0 (28, .ireturn, 1) (List.mem_of_getElem? (i := 19) rfl)
theorem dL_addAction_29 : decode cL_addAction 29 = .ok (.iconst 0, 1) := tbL_addAction_0 (29, .iconst 0, 1) (List.mem_of_getElem? (i := 20) rfl)
theorem dL_addAction_30 : decode cL_addAction 30 = .ok (.ireturn, 1) := tbL_addAction_0 (30, .ireturn, 1) (List.mem_of_getElem? (i := 21) rfl)
set_option maxRecDepth 20000 in
theorem ggL_drop_X3_drop : GoodIn wsL_drop wsX3_drop := goodIn_ca (goodIn_r _ [6, 7, 8, 9, 10, 11, 12, 13, 14, 15, 16, 17, 18, 19, 20, 21, 22, 23, 24, 25, 26, 27, 28, 29, 30, 31, 32, 33, 34, 35, 36, 37, 38] (by decide +kernel) (by decide +kernel)) (goodIn_sub (fun _ h => List.mem_cons_of_mem _ (List.mem_append_right _ h)) (by decide +kernel))
set_option maxRecDepth 20000 in
theorem gL_drop_X3_drop : GoodIn wsL_drop (wsV RL 27 RX3 yX3_drop wsX3_drop) := goodIn_app (goodIn_of _ (by decide +kernel)) ggL_drop_X3_drop
theorem tbL_drop_0 : ∀ q ∈ ([(0, .aload_n 1, 1), (1, .iconst 0, 1), (2, .aload_n 0, 1), (3, .invokevirtual 27, 3), (6, .i2l, 1), (7, .lastore, 1), (8, .goto 6, 3), (11, .astore_n 2, 1), (12, .iconst 1, 1), (13, .ireturn, 1), (14, .iconst 0, 1), (15, .ireturn, 1)] : List (Nat × Instr × Nat)), decode cL_drop q.1 = .ok (q.2.1, q.2.2) := by decide +kernel
theorem dL_drop_0 : decode cL_drop 0 = .ok (.aload_n 1, 1) := tbL_drop_0 (0, .aload_n 1, 1) (List.mem_of_getElem? (i := 0) rfl)
theorem dL_drop_1 : decode cL_drop 1 = .ok (.iconst 0, 1) := tbL_drop_0 (1, .iconst 0, 1) (List.mem_of_getElem? (i := 1) rfl)
theorem dL_drop_2 : decode cL_drop 2 = .ok (.aload_n 0, 1) := tbL_drop_0 (2, .aload_n 0, 1) (List.mem_of_getElem? (i := 2) rfl)
theorem dL_drop_3 : decode cL_drop 3 = .ok (.invokevirtual 27, 3) := tbL_drop_0 (3, .invokevirtual 27, 3) (List.mem_of_getElem? (i := 3) rfl)
theorem dL_drop_6 : decode cL_drop 6 = .ok (.i2l, 1) := tbL_drop_0 (6, .i2l, 1) (List.mem_of_getElem? (i := 4) rfl)
theorem dL_drop_7 : decode cL_drop 7 = .ok (.lastore, 1) := tbL_drop_0 (7, .lastore, 1) (List.mem_of_getElem? (i := 5) rfl)
theorem dL_drop_8 : decode cL_drop 8 = .ok (.goto 6, 3) := tbL_drop_0 (8, .goto 6, 3) (List.mem_of_getElem? (i := 6) rfl)
theorem dL_drop_11 : decode cL_drop 11 = .ok (.astore_n 2, 1) := tbL_drop_0 (11, .astore_n 2, 1) (List.mem_of_getElem? (i := 7) rfl)
theorem dL_drop_12 : decode cL_drop 12 = .ok (.iconst 1, 1) := tbL_drop_0 (12, .iconst 1, 1) (List.mem_of_getElem? (i := 8) rfl)
theorem dL_drop_13 : decode cL_drop 13 = .ok (.ireturn, 1) := tbL_drop_0 (13, .ireturn, 1) (List.mem_of_getElem? (i := 9) rfl)
theorem dL_drop_14 : decode cL_drop 14 = .ok (.iconst 0, 1) := tbL_drop_0 (14, .iconst 0, 1) (List.mem_of_getElem? (i := 10) rfl)
theorem dL_drop_15 : decode cL_drop 15 = .ok (.ireturn, 1) := tbL_drop_0 (15, .ireturn, 1) (List.mem_of_getElem? (i := 11) rfl)
set_option maxRecDepth 20000 in
theorem ggL_setTimerEvent_X3_setTimerEvent : GoodIn wsL_setTimerEvent wsX3_setTimerEvent := goodIn_ca (goodIn_r _ [6, 7, 8, 9, 10, 11, 12, 13, 14, 5, 15, 16, 17, 18, 19, 20, 21, 22, 23, 24, 25, 26, 27, 28, 29, 30, 31, 32, 33, 34, 35, 36, 37, 38, 39, 40, 41] (by decide +kernel) (by decide +kernel)) (goodIn_sub (fun _ h => List.mem_cons_of_mem _ (List.mem_append_right _ h)) (by decide +kernel))
set_option maxRecDepth 20000 in
theorem gL_setTimerEvent_X3_setTimerEvent : GoodIn wsL_setTimerEvent (wsV RL 30 RX3 yX3_setTimerEvent wsX3_setTimerEvent) := goodIn_app (goodIn_of _ (by decide +kernel)) ggL_setTimerEvent_X3_setTimerEvent
theorem tbL_setTimerEvent_0 : ∀ q ∈ ([(0, .aload_n 3, 1), (1, .iconst 0, 1), (2, .aload_n 0, 1), (3, .iload_n 1, 1), (4, .iload_n 2, 1), (5, .invokevirtual 30, 3), (8, .i2l, 1), (9, .lastore, 1), (10, .goto 7, 3), (13, .astore 4, 2), (15, .iconst 1, 1), (16, .ireturn, 1), (17, .iconst 0, 1), (18, .ireturn, 1)] : List (Nat × Instr × Nat)), decode cL_setTimerEvent q.1 = .ok (q.2.1, q.2.2) := by decide +kernel
theorem dL_setTimerEvent_0 : decode cL_setTimerEvent 0 = .ok (.aload_n 3, 1) := tbL_setTimerEvent_0 (0, .aload_n 3, 1) (List.mem_of_getElem? (i := 0) rfl)
theorem dL_setTimerEvent_1 : decode cL_setTimerEvent 1 = .ok (.iconst 0, 1) := tbL_setTimerEvent_0 (1, .iconst 0, 1) (List.mem_of_getElem? (i := 1) rfl)
theorem dL_setTimerEvent_2 : decode cL_setTimerEvent 2 = .ok (.aload_n 0, 1) := tbL_setTimerEvent_0 (2, .aload_n 0, 1) (List.mem_of_getElem? (i := 2) rfl)
theorem dL_setTimerEvent_3 : decode cL_setTimerEvent 3 = .ok (.iload_n 1, 1) := tbL_setTimerEvent_0 (3, .iload_n 1, 1) (List.mem_of_getElem? (i := 3) rfl)
theorem dL_setTimerEvent_4 : decode cL_setTimerEvent 4 = .ok (.iload_n 2, 1) := tbL_setTimerEvent_0 (4, .iload_n 2, 1) (List.mem_of_getElem? (i := 4) rfl)
theorem dL_setTimerEvent_5 : decode cL_setTimerEvent 5 = .ok (.invokevirtual 30, 3) := tbL_setTimerEvent_0 (5, .invokevirtual 30, 3) (List.mem_of_getElem? (i := 5) rfl)
theorem dL_setTimerEvent_8 : decode cL_setTimerEvent 8 = .ok (.i2l, 1) := tbL_setTimerEvent_0 (8, .i2l, 1) (List.mem_of_getElem? (i := 6) rfl)
theorem dL_setTimerEvent_9 : decode cL_setTimerEvent 9 = .ok (.lastore, 1) := tbL_setTimerEvent_0 (9, .lastore, 1) (List.mem_of_getElem? (i := 7) rfl)
theorem dL_setTimerEvent_10 : decode cL_setTimerEvent 10 = .ok (.goto 7, 3) := tbL_setTimerEvent_0 (10, .goto 7, 3) (List.mem_of_getElem? (i := 8) rfl)
theorem dL_setTimerEvent_13 : decode cL_setTimerEvent 13 = .ok (.astore 4, 2) := tbL_setTimerEvent_0 (13, .astore 4, 2) (List.mem_of_getElem? (i := 9) rfl)
theorem dL_setTimerEvent_15 : decode cL_setTimerEvent 15 = .ok (.iconst 1, 1) := tbL_setTimerEvent_0 (15, .iconst 1, 1) (List.mem_of_getElem? (i := 10) rfl)
theorem dL_setTimerEvent_16 : decode cL_setTimerEvent 16 = .ok (.ireturn, 1) := tbL_setTimerEvent_0 (16, .ireturn, 1) (List.mem_of_getElem? (i := 11) rfl)
theorem dL_setTimerEvent_17 : decode cL_setTimerEvent 17 = .ok (.iconst 0, 1) := tbL_setTimerEvent_0 (17, .iconst 0, 1) (List.mem_of_getElem? (i := 12) rfl)
theorem dL_setTimerEvent_18 : decode cL_setTimerEvent 18 = .ok (.ireturn, 1) := tbL_setTimerEvent_0 (18, .ireturn, 1) (List.mem_of_getElem? (i := 13) rfl)
set_option maxRecDepth 20000 in
theorem ggL_isHidden_X3_isHidden : GoodIn wsL_isHidden wsX3_isHidden := goodIn_ca (goodIn_r _ [6, 7, 8, 9, 10, 11, 12, 5, 13, 14, 15, 16, 17, 18, 19, 20, 21, 22, 23, 24, 25, 26, 27, 28, 29, 30, 31, 32, 33, 34, 35, 36, 37, 38, 39, 40, 41, 42, 43, 44, 45, 46, 47, 48, 49, 50, 51] (by decide +kernel) (by decide +kernel)) (goodIn_sub (fun _ h => List.mem_cons_of_mem _ (List.mem_append_right _ h)) (by decide +kernel))
set_option maxRecDepth 20000 in
theorem gL_isHidden_X3_isHidden : GoodIn wsL_isHidden (wsV RL 34 RX3 yX3_isHidden wsX3_isHidden) := goodIn_app (goodIn_of _ (by decide +kernel)) ggL_isHidden_X3_isHidden
theorem tbL_isHidden_0 : ∀ q ∈ ([(0, .aload_n 2, 1), (1, .iconst 0, 1), (2, .aload_n 0, 1), (3, .iload_n 1, 1), (4, .invokevirtual 34, 3), (7, .ifCond .eq 7, 3), (10, .lconst 1, 1), (11, .goto 4, 3), (14, .lconst 0, 1), (15, .lastore, 1), (16, .goto 6, 3), (19, .astore_n 3, 1), (20, .iconst 1, 1), (21, .ireturn, 1), (22, .iconst 0, 1), (23, .ireturn, 1)] : List (Nat × Instr × Nat)), decode cL_isHidden q.1 = .ok (q.2.1, q.2.2) := by decide +kernel
theorem dL_isHidden_0 : decode cL_isHidden 0 = .ok (.aload_n 2, 1) := tbL_isHidden_0 (0, .aload_n 2, 1) (List.mem_of_getElem? (i := 0) rfl)
theorem dL_isHidden_1 : decode cL_isHidden 1 = .ok (.iconst 0, 1) := tbL_isHidden_0 (1, .iconst 0, 1) (List.mem_of_getElem? (i := 1) rfl)
theorem dL_isHidden_2 : decode cL_isHidden 2 = .ok (.aload_n 0, 1) := tbL_isHidden_0 (2, .aload_n 0, 1) (List.mem_of_getElem? (i := 2) rfl)
theorem dL_isHidden_3 : decode cL_isHidden 3 = .ok (.iload_n 1, 1) := tbL_isHidden_0 (3, .iload_n 1, 1) (List.mem_of_getElem? (i := 3) rfl)
theorem dL_isHidden_4 : decode cL_isHidden 4 = .ok (.invokevirtual 34, 3) := tbL_isHidden_0 (4, .invokevirtual 34, 3) (List.mem_of_getElem? (i := 4) rfl)
theorem dL_isHidden_7 : decode cL_isHidden 7 = .ok (.ifCond .eq 7, 3) := tbL_isHidden_0 (7, .ifCond .eq 7, 3) (List.mem_of_getElem? (i := 5) rfl)
theorem dL_isHidden_10 : decode cL_isHidden 10 = .ok (.lconst 1, 1) := tbL_isHidden_0 (10, .lconst 1, 1) (List.mem_of_getElem? (i := 6) rfl)
theorem dL_isHidden_11 : decode cL_isHidden 11 = .ok (.goto 4, 3) := tbL_isHidden_0 (11, .goto 4, 3) (List.mem_of_getElem? (i := 7) rfl)
theorem dL_isHidden_14 : decode cL_isHidden 14 = .ok (.lconst 0, 1) := tbL_isHidden_0 (14, .lconst 0, 1) (List.mem_of_getElem? (i := 8) rfl)
theorem dL_isHidden_15 : decode cL_isHidden 15 = .ok (.lastore, 1) := tbL_isHidden_0 (15, .lastore, 1) (List.mem_of_getElem? (i := 9) rfl)
theorem dL_isHidden_16 : decode cL_isHidden 16 = .ok (.goto 6, 3) := tbL_isHidden_0 (16, .goto 6, 3) (List.mem_of_getElem? (i := 10) rfl)
theorem dL_isHidden_19 : decode cL_isHidden 19 = .ok (.astore_n 3, 1) := tbL_isHidden_0 (19, .astore_n 3, 1) (List.mem_of_getElem? (i := 11) rfl)
theorem dL_isHidden_20 : decode cL_isHidden 20 = .ok (.iconst 1, 1) := tbL_isHidden_0 (20, .iconst 1, 1) (List.mem_of_getElem? (i := 12) rfl)
theorem dL_isHidden_21 : decode cL_isHidden 21 = .ok (.ireturn, 1) := tbL_isHidden_0 (21, .ireturn, 1) (List.mem_of_getElem? (i := 13) rfl)
theorem dL_isHidden_22 : decode cL_isHidden 22 = .ok (.iconst 0, 1) := tbL_isHidden_0 (22, .iconst 0, 1) (List.mem_of_getElem? (i := 14) rfl)
theorem dL_isHidden_23 : decode cL_isHidden 23 = .ok (.ireturn, 1) := tbL_isHidden_0 (23, .ireturn, 1) (List.mem_of_getElem? (i := 15) rfl)
set_option maxRecDepth 20000 in
theorem ggL_happen_X3_happen : GoodIn wsL_happen wsX3_happen := goodIn_ca (goodIn_r _ [6, 7, 8, 9, 10, 11, 5, 12, 13, 14, 15, 16, 17, 18, 19, 20, 21, 22, 23, 24, 25, 26, 27, 28, 29, 30, 31, 32, 33, 34, 35, 36, 37, 38, 39, 40, 41, 42, 43, 44, 45, 46, 47, 48, 49, 50, 51, 52, 53, 54, 55, 56, 57, 58, 59, 60, 61, 62, 63, 64, 65, 66, 67, 68, 69, 70, 71, 72, 73, 74, 75, 76, 77, 78, 79, 80, 81, 82, 83, 84, 85, 86, 87, 88, 89, 90, 91, 92, 93, 94, 95, 96, 97, 98, 99, 100, 101] (by decide +kernel) (by decide +kernel)) (goodIn_sub (fun _ h => List.mem_cons_of_mem _ (List.mem_append_right _ h)) (by decide +kernel))
set_option maxRecDepth 20000 in
theorem gL_happen_X3_happen : GoodIn wsL_happen (wsV RL 38 RX3 yX3_happen wsX3_happen) := goodIn_app (goodIn_of _ (by decide +kernel)) ggL_happen_X3_happen
theorem tbL_happen_0 : ∀ q ∈ ([(0, .aload_n 2, 1), (1, .iconst 0, 1), (2, .aload_n 0, 1), (3, .iload_n 1, 1), (4, .invokevirtual 38, 3), (7, .i2l, 1), (8, .lastore, 1), (9, .goto 6, 3), (12, .astore_n 3, 1), (13, .iconst 1, 1), (14, .ireturn, 1), (15, .iconst 0, 1), (16, .ireturn, 1)] : List (Nat × Instr × Nat)), decode cL_happen q.1 = .ok (q.2.1, q.2.2) := by decide +kernel
theorem dL_happen_0 : decode cL_happen 0 = .ok (.aload_n 2, 1) := tbL_happen_0 (0, .aload_n 2, 1) (List.mem_of_getElem? (i := 0) rfl)
theorem dL_happen_1 : decode cL_happen 1 = .ok (.iconst 0, 1) := tbL_happen_0 (1, .iconst 0, 1) (List.mem_of_getElem? (i := 1) rfl)
theorem dL_happen_2 : decode cL_happen 2 = .ok (.aload_n 0, 1) := tbL_happen_0 (2, .aload_n 0, 1) (List.mem_of_getElem? (i := 2) rfl)
theorem dL_happen_3 : decode cL_happen 3 = .ok (.iload_n 1, 1) := tbL_happen_0 (3, .iload_n 1, 1) (List.mem_of_getElem? (i := 3) rfl)
theorem dL_happen_4 : decode cL_happen 4 = .ok (.invokevirtual 38, 3) := tbL_happen_0 (4, .invokevirtual 38, 3) (List.mem_of_getElem? (i := 4) rfl)
theorem dL_happen_7 : decode cL_happen 7 = .ok (.i2l, 1) := tbL_happen_0 (7, .i2l, 1) (List.mem_of_getElem? (i := 5) rfl)
theorem dL_happen_8 : decode cL_happen 8 = .ok (.lastore, 1) := tbL_happen_0 (8, .lastore, 1) (List.mem_of_getElem? (i := 6) rfl)
theorem dL_happen_9 : decode cL_happen 9 = .ok (.goto 6, 3) := tbL_happen_0 (9, .goto 6, 3) (List.mem_of_getElem? (i := 7) rfl)
theorem dL_happen_12 : decode cL_happen 12 = .ok (.astore_n 3, 1) := tbL_happen_0 (12, .astore_n 3, 1) (List.mem_of_getElem? (i := 8) rfl)
theorem dL_happen_13 : decode cL_happen 13 = .ok (.iconst 1, 1) := tbL_happen_0 (13, .iconst 1, 1) (List.mem_of_getElem? (i := 9) rfl)
theorem dL_happen_14 : decode cL_happen 14 = .ok (.ireturn, 1) := tbL_happen_0 (14, .ireturn, 1) (List.mem_of_getElem? (i := 10) rfl)
theorem dL_happen_15 : decode cL_happen 15 = .ok (.iconst 0, 1) := tbL_happen_0 (15, .iconst 0, 1) (List.mem_of_getElem? (i := 11) rfl)
theorem dL_happen_16 : decode cL_happen 16 = .ok (.ireturn, 1) := tbL_happen_0 (16, .ireturn, 1) (List.mem_of_getElem? (i := 12) rfl)
set_option maxRecDepth 20000 in
theorem ggL_advance_X3_advance : GoodIn wsL_advance wsX3_advance := goodIn_ca (goodIn_r _ [6, 7, 8, 9, 10, 11, 12, 13, 14, 15, 16, 17, 18, 19, 20, 21, 22, 23, 24, 25, 26, 27, 28, 29, 30, 31, 32, 33, 34, 35, 36, 37, 38, 39, 40, 41, 42, 43, 44, 45, 46, 47, 48, 49, 50, 51, 52, 53, 54, 55, 56, 57, 58, 59, 60, 61, 62, 63, 64, 65, 66, 67, 68, 69, 70, 71, 72, 73, 74, 75, 76, 77, 78, 79, 80, 81, 82, 83, 84, 85, 86, 87, 88, 89, 90, 91, 92, 93, 94, 95, 96, 97, 98, 99, 100, 101, 102, 103, 104, 105, 106, 107] (by decide +kernel) (by decide +kernel)) (goodIn_sub (fun _ h => List.mem_cons_of_mem _ (List.mem_append_right _ h)) (by decide +kernel))
set_option maxRecDepth 20000 in
theorem gL_advance_X3_advance : GoodIn wsL_advance (wsV RL 42 RX3 yX3_advance wsX3_advance) := goodIn_app (goodIn_of _ (by decide +kernel)) ggL_advance_X3_advance
theorem tbL_advance_0 : ∀ q ∈ ([(0, .aload_n 2, 1), (1, .iconst 0, 1), (2, .aload_n 0, 1), (3, .iload_n 1, 1), (4, .invokevirtual 42, 3), (7, .i2l, 1), (8, .lastore, 1), (9, .goto 6, 3), (12, .astore_n 3, 1), (13, .iconst 1, 1), (14, .ireturn, 1), (15, .iconst 0, 1), (16, .ireturn, 1)] : List (Nat × Instr × Nat)), decode cL_advance q.1 = .ok (q.2.1, q.2.2) := by decide +kernel
theorem dL_advance_0 : decode cL_advance 0 = .ok (.aload_n 2, 1) := tbL_advance_0 (0, .aload_n 2, 1) (List.mem_of_getElem? (i := 0) rfl)
theorem dL_advance_1 : decode cL_advance 1 = .ok (.iconst 0, 1) := tbL_advance_0 (1, .iconst 0, 1) (List.mem_of_getElem? (i := 1) rfl)
theorem dL_advance_2 : decode cL_advance 2 = .ok (.aload_n 0, 1) := tbL_advance_0 (2, .aload_n 0, 1) (List.mem_of_getElem? (i := 2) rfl)
theorem dL_advance_3 : decode cL_advance 3 = .ok (.iload_n 1, 1) := tbL_advance_0 (3, .iload_n 1, 1) (List.mem_of_getElem? (i := 3) rfl)
theorem dL_advance_4 : decode cL_advance 4 = .ok (.invokevirtual 42, 3) := tbL_advance_0 (4, .invokevirtual 42, 3) (List.mem_of_getElem? (i := 4) rfl)
theorem dL_advance_7 : decode cL_advance 7 = .ok (.i2l, 1) := tbL_advance_0 (7, .i2l, 1) (List.mem_of_getElem? (i := 5) rfl)
theorem dL_advance_8 : decode cL_advance 8 = .ok (.lastore, 1) := tbL_advance_0 (8, .lastore, 1) (List.mem_of_getElem? (i := 6) rfl)
theorem dL_advance_9 : decode cL_advance 9 = .ok (.goto 6, 3) := tbL_advance_0 (9, .goto 6, 3) (List.mem_of_getElem? (i := 7) rfl)
theorem dL_advance_12 : decode cL_advance 12 = .ok (.astore_n 3, 1) := tbL_advance_0 (12, .astore_n 3, 1) (List.mem_of_getElem? (i := 8) rfl)
theorem dL_advance_13 : decode cL_advance 13 = .ok (.iconst 1, 1) := tbL_advance_0 (13, .iconst 1, 1) (List.mem_of_getElem? (i := 9) rfl)
theorem dL_advance_14 : decode cL_advance 14 = .ok (.ireturn, 1) := tbL_advance_0 (14, .ireturn, 1) (List.mem_of_getElem? (i := 10) rfl)
theorem dL_advance_15 : decode cL_advance 15 = .ok (.iconst 0, 1) := tbL_advance_0 (15, .iconst 0, 1) (List.mem_of_getElem? (i := 11) rfl)
theorem dL_advance_16 : decode cL_advance 16 = .ok (.ireturn, 1) := tbL_advance_0 (16, .ireturn, 1) (List.mem_of_getElem? (i := 12) rfl)
set_option maxRecDepth 20000 in
theorem ggL_value_X3_value : GoodIn wsL_value wsX3_value := goodIn_ca (goodIn_r _ [6, 7, 8, 9, 10, 11, 12, 5, 13, 14, 15, 16, 17, 18, 19, 20, 21, 22, 23, 24, 25, 26] (by decide +kernel) (by decide +kernel)) (goodIn_sub (fun _ h => List.mem_cons_of_mem _ (List.mem_append_right _ h)) (by decide +kernel))
set_option maxRecDepth 20000 in
theorem gL_value_X3_value : GoodIn wsL_value (wsV RL 45 RX3 yX3_value wsX3_value) := goodIn_app (goodIn_of _ (by decide +kernel)) ggL_value_X3_value
theorem tbL_value_0 : ∀ q ∈ ([(0, .aload_n 2, 1), (1, .iconst 0, 1), (2, .aload_n 0, 1), (3, .iload_n 1, 1), (4, .invokevirtual 45, 3), (7, .i2l, 1), (8, .lastore, 1), (9, .goto 6, 3), (12, .astore_n 3, 1), (13, .iconst 1, 1), (14, .ireturn, 1), (15, .iconst 0, 1), (16, .ireturn, 1)] : List (Nat × Instr × Nat)), decode cL_value q.1 = .ok (q.2.1, q.2.2) := by decide +kernel
theorem dL_value_0 : decode cL_value 0 = .ok (.aload_n 2, 1) := tbL_value_0 (0, .aload_n 2, 1) (List.mem_of_getElem? (i := 0) rfl)
theorem dL_value_1 : decode cL_value 1 = .ok (.iconst 0, 1) := tbL_value_0 (1, .iconst 0, 1) (List.mem_of_getElem? (i := 1) rfl)
theorem dL_value_2 : decode cL_value 2 = .ok (.aload_n 0, 1) := tbL_value_0 (2, .aload_n 0, 1) (List.mem_of_getElem? (i := 2) rfl)
theorem dL_value_3 : decode cL_value 3 = .ok (.iload_n 1, 1) := tbL_value_0 (3, .iload_n 1, 1) (List.mem_of_getElem? (i := 3) rfl)
theorem dL_value_4 : decode cL_value 4 = .ok (.invokevirtual 45, 3) := tbL_value_0 (4, .invokevirtual 45, 3) (List.mem_of_getElem? (i := 4) rfl)
theorem dL_value_7 : decode cL_value 7 = .ok (.i2l, 1) := tbL_value_0 (7, .i2l, 1) (List.mem_of_getElem? (i := 5) rfl)
theorem dL_value_8 : decode cL_value 8 = .ok (.lastore, 1) := tbL_value_0 (8, .lastore, 1) (List.mem_of_getElem? (i := 6) rfl)
theorem dL_value_9 : decode cL_value 9 = .ok (.goto 6, 3) := tbL_value_0 (9, .goto 6, 3) (List.mem_of_getElem? (i := 7) rfl)
theorem dL_value_12 : decode cL_value 12 = .ok (.astore_n 3, 1) := tbL_value_0 (12, .astore_n 3, 1) (List.mem_of_getElem? (i := 8) rfl)
theorem dL_value_13 : decode cL_value 13 = .ok (.iconst 1, 1) := tbL_value_0 (13, .iconst 1, 1) (List.mem_of_getElem? (i := 9) rfl)
theorem dL_value_14 : decode cL_value 14 = .ok (.ireturn, 1) := tbL_value_0 (14, .ireturn, 1) (List.mem_of_getElem? (i := 10) rfl)
theorem dL_value_15 : decode cL_value 15 = .ok (.iconst 0, 1) := tbL_value_0 (15, .iconst 0, 1) (List.mem_of_getElem? (i := 11) rfl)
theorem dL_value_16 : decode cL_value 16 = .ok (.ireturn, 1) := tbL_value_0 (16, .ireturn, 1) (List.mem_of_getElem? (i := 12) rfl)
set_option maxRecDepth 20000 in
theorem ggL_left_X3_left : GoodIn wsL_left wsX3_left := goodIn_ca (goodIn_r _ [6, 7, 8, 9, 10, 11, 5, 12, 13, 14, 15, 16, 17, 18, 19, 20, 21, 22, 23, 24, 25, 26, 27, 28, 29, 30, 31, 32, 33] (by decide +kernel) (by decide +kernel)) (goodIn_sub (fun _ h => List.mem_cons_of_mem _ (List.mem_append_right _ h)) (by decide +kernel))
set_option maxRecDepth 20000 in
theorem gL_left_X3_left : GoodIn wsL_left (wsV RL 48 RX3 yX3_left wsX3_left) := goodIn_app (goodIn_of _ (by decide +kernel)) ggL_left_X3_left
theorem tbL_left_0 : ∀ q ∈ ([(0, .aload_n 2, 1), (1, .iconst 0, 1), (2, .aload_n 0, 1), (3, .iload_n 1, 1), (4, .invokevirtual 48, 3), (7, .i2l, 1), (8, .lastore, 1), (9, .goto 6, 3), (12, .astore_n 3, 1), (13, .iconst 1, 1), (14, .ireturn, 1), (15, .iconst 0, 1), (16, .ireturn, 1)] : List (Nat × Instr × Nat)), decode cL_left q.1 = .ok (q.2.1, q.2.2) := by decide +kernel
theorem dL_left_0 : decode cL_left 0 = .ok (.aload_n 2, 1) := tbL_left_0 (0, .aload_n 2, 1) (List.mem_of_getElem? (i := 0) rfl)
theorem dL_left_1 : decode cL_left 1 = .ok (.iconst 0, 1) := tbL_left_0 (1, .iconst 0, 1) (List.mem_of_getElem? (i := 1) rfl)
theorem dL_left_2 : decode cL_left 2 = .ok (.aload_n 0, 1) := tbL_left_0 (2, .aload_n 0, 1) (List.mem_of_getElem? (i := 2) rfl)
theorem dL_left_3 : decode cL_left 3 = .ok (.iload_n 1, 1) := tbL_left_0 (3, .iload_n 1, 1) (List.mem_of_getElem? (i := 3) rfl)
theorem dL_left_4 : decode cL_left 4 = .ok (.invokevirtual 48, 3) := tbL_left_0 (4, .invokevirtual 48, 3) (List.mem_of_getElem? (i := 4) rfl)
theorem dL_left_7 : decode cL_left 7 = .ok (.i2l, 1) := tbL_left_0 (7, .i2l, 1) (List.mem_of_getElem? (i := 5) rfl)
theorem dL_left_8 : decode cL_left 8 = .ok (.lastore, 1) := tbL_left_0 (8, .lastore, 1) (List.mem_of_getElem? (i := 6) rfl)
theorem dL_left_9 : decode cL_left 9 = .ok (.goto 6, 3) := tbL_left_0 (9, .goto 6, 3) (List.mem_of_getElem? (i := 7) rfl)
theorem dL_left_12 : decode cL_left 12 = .ok (.astore_n 3, 1) := tbL_left_0 (12, .astore_n 3, 1) (List.mem_of_getElem? (i := 8) rfl)
theorem dL_left_13 : decode cL_left 13 = .ok (.iconst 1, 1) := tbL_left_0 (13, .iconst 1, 1) (List.mem_of_getElem? (i := 9) rfl)
theorem dL_left_14 : decode cL_left 14 = .ok (.ireturn, 1) := tbL_left_0 (14, .ireturn, 1) (List.mem_of_getElem? (i := 10) rfl)
theorem dL_left_15 : decode cL_left 15 = .ok (.iconst 0, 1) := tbL_left_0 (15, .iconst 0, 1) (List.mem_of_getElem? (i := 11) rfl)
theorem dL_left_16 : decode cL_left 16 = .ok (.ireturn, 1) := tbL_left_0 (16, .ireturn, 1) (List.mem_of_getElem? (i := 12) rfl)
set_option maxRecDepth 20000 in
theorem ggL_output_X3_output : GoodIn wsL_output wsX3_output := goodIn_ca (goodIn_r _ [6, 7, 8, 9, 10, 11, 12, 13, 5, 14, 15, 16, 17, 18, 19, 20, 21, 22, 23, 24, 25, 26, 27] (by decide +kernel) (by decide +kernel)) (goodIn_sub (fun _ h => List.mem_cons_of_mem _ (List.mem_append_right _ h)) (by decide +kernel))
set_option maxRecDepth 20000 in
theorem gL_output_X3_output : GoodIn wsL_output (wsV RL 51 RX3 yX3_output wsX3_output) := goodIn_app (goodIn_of _ (by decide +kernel)) ggL_output_X3_output
theorem tbL_output_0 : ∀ q ∈ ([(0, .aload_n 2, 1), (1, .iconst 0, 1), (2, .aload_n 0, 1), (3, .iload_n 1, 1), (4, .invokevirtual 51, 3), (7, .i2l, 1), (8, .lastore, 1), (9, .goto 6, 3), (12, .astore_n 3, 1), (13, .iconst 1, 1), (14, .ireturn, 1), (15, .iconst 0, 1), (16, .ireturn, 1)] : List (Nat × Instr × Nat)), decode cL_output q.1 = .ok (q.2.1, q.2.2) := by decide +kernel
theorem dL_output_0 : decode cL_output 0 = .ok (.aload_n 2, 1) := tbL_output_0 (0, .aload_n 2, 1) (List.mem_of_getElem? (i := 0) rfl)
theorem dL_output_1 : decode cL_output 1 = .ok (.iconst 0, 1) := tbL_output_0 (1, .iconst 0, 1) (List.mem_of_getElem? (i := 1) rfl)
theorem dL_output_2 : decode cL_output 2 = .ok (.aload_n 0, 1) := tbL_output_0 (2, .aload_n 0, 1) (List.mem_of_getElem? (i := 2) rfl)
theorem dL_output_3 : decode cL_output 3 = .ok (.iload_n 1, 1) := tbL_output_0 (3, .iload_n 1, 1) (List.mem_of_getElem? (i := 3) rfl)
theorem dL_output_4 : decode cL_output 4 = .ok (.invokevirtual 51, 3) := tbL_output_0 (4, .invokevirtual 51, 3) (List.mem_of_getElem? (i := 4) rfl)
theorem dL_output_7 : decode cL_output 7 = .ok (.i2l, 1) := tbL_output_0 (7, .i2l, 1) (List.mem_of_getElem? (i := 5) rfl)
theorem dL_output_8 : decode cL_output 8 = .ok (.lastore, 1) := tbL_output_0 (8, .lastore, 1) (List.mem_of_getElem? (i := 6) rfl)
theorem dL_output_9 : decode cL_output 9 = .ok (.goto 6, 3) := tbL_output_0 (9, .goto 6, 3) (List.mem_of_getElem? (i := 7) rfl)
theorem dL_output_12 : decode cL_output 12 = .ok (.astore_n 3, 1) := tbL_output_0 (12, .astore_n 3, 1) (List.mem_of_getElem? (i := 8) rfl)
theorem dL_output_13 : decode cL_output 13 = .ok (.iconst 1, 1) := tbL_output_0 (13, .iconst 1, 1) (List.mem_of_getElem? (i := 9) rfl)
theorem dL_output_14 : decode cL_output 14 = .ok (.ireturn, 1) := tbL_output_0 (14, .ireturn, 1) (List.mem_of_getElem? (i := 10) rfl)
theorem dL_output_15 : decode cL_output 15 = .ok (.iconst 0, 1) := tbL_output_0 (15, .iconst 0, 1) (List.mem_of_getElem? (i := 11) rfl)
theorem dL_output_16 : decode cL_output 16 = .ok (.ireturn, 1) := tbL_output_0 (16, .ireturn, 1) (List.mem_of_getElem? (i := 12) rfl)
set_option maxRecDepth 20000 in
theorem ggL_fired_X3_fired : GoodIn wsL_fired wsX3_fired := goodIn_ca (goodIn_r _ [6, 7, 8, 9, 10, 11, 12, 13, 14, 5, 15, 16, 17, 18, 19, 20, 21, 22, 23, 24, 25, 26, 27, 28, 29, 30, 31, 32, 33, 34, 35, 36, 37, 38, 39, 40, 41] (by decide +kernel) (by decide +kernel)) (goodIn_sub (fun _ h => List.mem_cons_of_mem _ (List.mem_append_right _ h)) (by decide +kernel))
set_option maxRecDepth 20000 in
theorem gL_fired_X3_fired : GoodIn wsL_fired (wsV RL 54 RX3 yX3_fired wsX3_fired) := goodIn_app (goodIn_of _ (by decide +kernel)) ggL_fired_X3_fired
theorem tbL_fired_0 : ∀ q ∈ ([(0, .aload_n 2, 1), (1, .iconst 0, 1), (2, .aload_n 0, 1), (3, .iload_n 1, 1), (4, .invokevirtual 54, 3), (7, .i2l, 1), (8, .lastore, 1), (9, .goto 6, 3), (12, .astore_n 3, 1), (13, .iconst 1, 1), (14, .ireturn, 1), (15, .iconst 0, 1), (16, .ireturn, 1)] : List (Nat × Instr × Nat)), decode cL_fired q.1 = .ok (q.2.1, q.2.2) := by decide +kernel
theorem dL_fired_0 : decode cL_fired 0 = .ok (.aload_n 2, 1) := tbL_fired_0 (0, .aload_n 2, 1) (List.mem_of_getElem? (i := 0) rfl)
theorem dL_fired_1 : decode cL_fired 1 = .ok (.iconst 0, 1) := tbL_fired_0 (1, .iconst 0, 1) (List.mem_of_getElem? (i := 1) rfl)
theorem dL_fired_2 : decode cL_fired 2 = .ok (.aload_n 0, 1) := tbL_fired_0 (2, .aload_n 0, 1) (List.mem_of_getElem? (i := 2) rfl)
theorem dL_fired_3 : decode cL_fired 3 = .ok (.iload_n 1, 1) := tbL_fired_0 (3, .iload_n 1, 1) (List.mem_of_getElem? (i := 3) rfl)
theorem dL_fired_4 : decode cL_fired 4 = .ok (.invokevirtual 54, 3) := tbL_fired_0 (4, .invokevirtual 54, 3) (List.mem_of_getElem? (i := 4) rfl)
theorem dL_fired_7 : decode cL_fired 7 = .ok (.i2l, 1) := tbL_fired_0 (7, .i2l, 1) (List.mem_of_getElem? (i := 5) rfl)
theorem dL_fired_8 : decode cL_fired 8 = .ok (.lastore, 1) := tbL_fired_0 (8, .lastore, 1) (List.mem_of_getElem? (i := 6) rfl)
theorem dL_fired_9 : decode cL_fired 9 = .ok (.goto 6, 3) := tbL_fired_0 (9, .goto 6, 3) (List.mem_of_getElem? (i := 7) rfl)
theorem dL_fired_12 : decode cL_fired 12 = .ok (.astore_n 3, 1) := tbL_fired_0 (12, .astore_n 3, 1) (List.mem_of_getElem? (i := 8) rfl)
theorem dL_fired_13 : decode cL_fired 13 = .ok (.iconst 1, 1) := tbL_fired_0 (13, .iconst 1, 1) (List.mem_of_getElem? (i := 9) rfl)
theorem dL_fired_14 : decode cL_fired 14 = .ok (.ireturn, 1) := tbL_fired_0 (14, .ireturn, 1) (List.mem_of_getElem? (i := 10) rfl)
theorem dL_fired_15 : decode cL_fired 15 = .ok (.iconst 0, 1) := tbL_fired_0 (15, .iconst 0, 1) (List.mem_of_getElem? (i := 11) rfl)
theorem dL_fired_16 : decode cL_fired 16 = .ok (.ireturn, 1) := tbL_fired_0 (16, .ireturn, 1) (List.mem_of_getElem? (i := 12) rfl)
set_option maxRecDepth 20000 in
theorem ggL_classOf_X3_classOf : GoodIn wsL_classOf wsX3_classOf := goodIn_ca (goodIn_ca (goodIn_r _ [7, 8, 9, 10, 11, 12, 13, 14, 15, 16, 6, 17, 18, 19, 20, 21, 22, 23, 24, 25, 26, 27, 28, 29, 30, 31, 32, 33, 34, 35, 36, 37, 38, 39, 40, 41, 42, 43, 44, 45, 46, 47, 48, 49] (by decide +kernel) (by decide +kernel)) (goodIn_sub (fun _ h => List.mem_cons_of_mem _ (List.mem_append_left _ (List.mem_append_right _ h))) (by decide +kernel))) (goodIn_sub (fun _ h => List.mem_cons_of_mem _ (List.mem_append_right _ h)) (by decide +kernel))
set_option maxRecDepth 20000 in
theorem gL_classOf_X3_classOf : GoodIn wsL_classOf (wsV RL 57 RX3 yX3_classOf wsX3_classOf) := goodIn_app (goodIn_of _ (by decide +kernel)) ggL_classOf_X3_classOf
theorem tbL_classOf_0 : ∀ q ∈ ([(0, .aload_n 2, 1), (1, .iconst 0, 1), (2, .aload_n 0, 1), (3, .iload_n 1, 1), (4, .invokevirtual 57, 3), (7, .i2l, 1), (8, .lastore, 1), (9, .goto 9, 3), (12, .astore_n 3, 1), (13, .iconst 1, 1), (14, .ireturn, 1), (15, .astore_n 3, 1), (16, .iconst 2, 1), (17, .ireturn, 1), (18, .iconst 0, 1), (19, .ireturn, 1)] : List (Nat × Instr × Nat)), decode cL_classOf q.1 = .ok (q.2.1, q.2.2) := by decide +kernel
theorem dL_classOf_0 : decode cL_classOf 0 = .ok (.aload_n 2, 1) := tbL_classOf_0 (0, .aload_n 2, 1) (List.mem_of_getElem? (i := 0) rfl)
theorem dL_classOf_1 : decode cL_classOf 1 = .ok (.iconst 0, 1) := tbL_classOf_0 (1, .iconst 0, 1) (List.mem_of_getElem? (i := 1) rfl)
theorem dL_classOf_2 : decode cL_classOf 2 = .ok (.aload_n 0, 1) := tbL_classOf_0 (2, .aload_n 0, 1) (List.mem_of_getElem? (i := 2) rfl)
theorem dL_classOf_3 : decode cL_classOf 3 = .ok (.iload_n 1, 1) := tbL_classOf_0 (3, .iload_n 1, 1) (List.mem_of_getElem? (i := 3) rfl)
theorem dL_classOf_4 : decode cL_classOf 4 = .ok (.invokevirtual 57, 3) := tbL_classOf_0 (4, .invokevirtual 57, 3) (List.mem_of_getElem? (i := 4) rfl)
theorem dL_classOf_7 : decode cL_classOf 7 = .ok (.i2l, 1) := tbL_classOf_0 (7, .i2l, 1) (List.mem_of_getElem? (i := 5) rfl)
theorem dL_classOf_8 : decode cL_classOf 8 = .ok (.lastore, 1) := tbL_classOf_0 (8, .lastore, 1) (List.mem_of_getElem? (i := 6) rfl)
theorem dL_classOf_9 : decode cL_classOf 9 = .ok (.goto 9, 3) := tbL_classOf_0 (9, .goto 9, 3) (List.mem_of_getElem? (i := 7) rfl)
theorem dL_classOf_12 : decode cL_classOf 12 = .ok (.astore_n 3, 1) := tbL_classOf_0 (12, .astore_n 3, 1) (List.mem_of_getElem? (i := 8) rfl)
theorem dL_classOf_13 : decode cL_classOf 13 = .ok (.iconst 1, 1) := tbL_classOf_0 (13, .iconst 1, 1) (List.mem_of_getElem? (i := 9) rfl)
theorem dL_classOf_14 : decode cL_classOf 14 = .ok (.ireturn, 1) := tbL_classOf_0 (14, .ireturn, 1) (List.mem_of_getElem? (i := 10) rfl)
theorem dL_classOf_15 : decode cL_classOf 15 = .ok (.astore_n 3, 1) := tbL_classOf_0 (15, .astore_n 3, 1) (List.mem_of_getElem? (i := 11) rfl)
theorem dL_classOf_16 : decode cL_classOf 16 = .ok (.iconst 2, 1) := tbL_classOf_0 (16, .iconst 2, 1) (List.mem_of_getElem? (i := 12) rfl)
theorem dL_classOf_17 : decode cL_classOf 17 = .ok (.ireturn, 1) := tbL_classOf_0 (17, .ireturn, 1) (List.mem_of_getElem? (i := 13) rfl)
theorem dL_classOf_18 : decode cL_classOf 18 = .ok (.iconst 0, 1) := tbL_classOf_0 (18, .iconst 0, 1) (List.mem_of_getElem? (i := 14) rfl)
theorem dL_classOf_19 : decode cL_classOf 19 = .ok (.ireturn, 1) := tbL_classOf_0 (19, .ireturn, 1) (List.mem_of_getElem? (i := 15) rfl)
set_option maxRecDepth 20000 in
theorem ggL_offset_X3_offset : GoodIn wsL_offset wsX3_offset := goodIn_ca (goodIn_ca (goodIn_r _ [7, 8, 9, 10, 11, 12, 6, 13, 14, 15, 16, 17, 18, 19, 20, 21, 22, 23, 24, 25, 26, 27, 28, 29, 30, 31, 32, 33, 34, 35, 36, 37, 38, 39] (by decide +kernel) (by decide +kernel)) (goodIn_sub (fun _ h => List.mem_cons_of_mem _ (List.mem_append_left _ (List.mem_append_right _ h))) (by decide +kernel))) (goodIn_sub (fun _ h => List.mem_cons_of_mem _ (List.mem_append_right _ h)) (by decide +kernel))
set_option maxRecDepth 20000 in
theorem gL_offset_X3_offset : GoodIn wsL_offset (wsV RL 60 RX3 yX3_offset wsX3_offset) := goodIn_app (goodIn_of _ (by decide +kernel)) ggL_offset_X3_offset
theorem tbL_offset_0 : ∀ q ∈ ([(0, .aload_n 2, 1), (1, .iconst 0, 1), (2, .aload_n 0, 1), (3, .iload_n 1, 1), (4, .invokevirtual 60, 3), (7, .i2l, 1), (8, .lastore, 1), (9, .goto 9, 3), (12, .astore_n 3, 1), (13, .iconst 1, 1), (14, .ireturn, 1), (15, .astore_n 3, 1), (16, .iconst 2, 1), (17, .ireturn, 1), (18, .iconst 0, 1), (19, .ireturn, 1)] : List (Nat × Instr × Nat)), decode cL_offset q.1 = .ok (q.2.1, q.2.2) := by decide +kernel
theorem dL_offset_0 : decode cL_offset 0 = .ok (.aload_n 2, 1) := tbL_offset_0 (0, .aload_n 2, 1) (List.mem_of_getElem? (i := 0) rfl)
theorem dL_offset_1 : decode cL_offset 1 = .ok (.iconst 0, 1) := tbL_offset_0 (1, .iconst 0, 1) (List.mem_of_getElem? (i := 1) rfl)
theorem dL_offset_2 : decode cL_offset 2 = .ok (.aload_n 0, 1) := tbL_offset_0 (2, .aload_n 0, 1) (List.mem_of_getElem? (i := 2) rfl)
theorem dL_offset_3 : decode cL_offset 3 = .ok (.iload_n 1, 1) := tbL_offset_0 (3, .iload_n 1, 1) (List.mem_of_getElem? (i := 3) rfl)
theorem dL_offset_4 : decode cL_offset 4 = .ok (.invokevirtual 60, 3) := tbL_offset_0 (4, .invokevirtual 60, 3) (List.mem_of_getElem? (i := 4) rfl)
theorem dL_offset_7 : decode cL_offset 7 = .ok (.i2l, 1) := tbL_offset_0 (7, .i2l, 1) (List.mem_of_getElem? (i := 5) rfl)
theorem dL_offset_8 : decode cL_offset 8 = .ok (.lastore, 1) := tbL_offset_0 (8, .lastore, 1) (List.mem_of_getElem? (i := 6) rfl)
theorem dL_offset_9 : decode cL_offset 9 = .ok (.goto 9, 3) := tbL_offset_0 (9, .goto 9, 3) (List.mem_of_getElem? (i := 7) rfl)
theorem dL_offset_12 : decode cL_offset 12 = .ok (.astore_n 3, 1) := tbL_offset_0 (12, .astore_n 3, 1) (List.mem_of_getElem? (i := 8) rfl)
theorem dL_offset_13 : decode cL_offset 13 = .ok (.iconst 1, 1) := tbL_offset_0 (13, .iconst 1, 1) (List.mem_of_getElem? (i := 9) rfl)
theorem dL_offset_14 : decode cL_offset 14 = .ok (.ireturn, 1) := tbL_offset_0 (14, .ireturn, 1) (List.mem_of_getElem? (i := 10) rfl)
theorem dL_offset_15 : decode cL_offset 15 = .ok (.astore_n 3, 1) := tbL_offset_0 (15, .astore_n 3, 1) (List.mem_of_getElem? (i := 11) rfl)
theorem dL_offset_16 : decode cL_offset 16 = .ok (.iconst 2, 1) := tbL_offset_0 (16, .iconst 2, 1) (List.mem_of_getElem? (i := 12) rfl)
theorem dL_offset_17 : decode cL_offset 17 = .ok (.ireturn, 1) := tbL_offset_0 (17, .ireturn, 1) (List.mem_of_getElem? (i := 13) rfl)
theorem dL_offset_18 : decode cL_offset 18 = .ok (.iconst 0, 1) := tbL_offset_0 (18, .iconst 0, 1) (List.mem_of_getElem? (i := 14) rfl)
theorem dL_offset_19 : decode cL_offset 19 = .ok (.ireturn, 1) := tbL_offset_0 (19, .ireturn, 1) (List.mem_of_getElem? (i := 15) rfl)
set_option maxRecDepth 20000 in
theorem ggL_used_X3_used : GoodIn wsL_used wsX3_used := goodIn_ca (goodIn_ca (goodIn_r _ [7, 8, 9, 10, 11, 6, 12, 13, 14, 15, 16, 17, 18, 19, 20, 21, 22, 23, 24, 25, 26, 27, 28, 29, 30, 31, 32, 33, 34, 35, 36, 37, 38, 39, 40, 41, 42, 43, 44, 45, 46, 47, 48, 49, 50, 51] (by decide +kernel) (by decide +kernel)) (goodIn_sub (fun _ h => List.mem_cons_of_mem _ (List.mem_append_left _ (List.mem_append_right _ h))) (by decide +kernel))) (goodIn_sub (fun _ h => List.mem_cons_of_mem _ (List.mem_append_right _ h)) (by decide +kernel))
set_option maxRecDepth 20000 in
theorem gL_used_X3_used : GoodIn wsL_used (wsV RL 63 RX3 yX3_used wsX3_used) := goodIn_app (goodIn_of _ (by decide +kernel)) ggL_used_X3_used
theorem tbL_used_0 : ∀ q ∈ ([(0, .aload_n 2, 1), (1, .iconst 0, 1), (2, .aload_n 0, 1), (3, .iload_n 1, 1), (4, .invokevirtual 63, 3), (7, .i2l, 1), (8, .lastore, 1), (9, .goto 9, 3), (12, .astore_n 3, 1), (13, .iconst 1, 1), (14, .ireturn, 1), (15, .astore_n 3, 1), (16, .iconst 2, 1), (17, .ireturn, 1), (18, .iconst 0, 1), (19, .ireturn, 1)] : List (Nat × Instr × Nat)), decode cL_used q.1 = .ok (q.2.1, q.2.2) := by decide +kernel
theorem dL_used_0 : decode cL_used 0 = .ok (.aload_n 2, 1) := tbL_used_0 (0, .aload_n 2, 1) (List.mem_of_getElem? (i := 0) rfl)
theorem dL_used_1 : decode cL_used 1 = .ok (.iconst 0, 1) := tbL_used_0 (1, .iconst 0, 1) (List.mem_of_getElem? (i := 1) rfl)
theorem dL_used_2 : decode cL_used 2 = .ok (.aload_n 0, 1) := tbL_used_0 (2, .aload_n 0, 1) (List.mem_of_getElem? (i := 2) rfl)
theorem dL_used_3 : decode cL_used 3 = .ok (.iload_n 1, 1) := tbL_used_0 (3, .iload_n 1, 1) (List.mem_of_getElem? (i := 3) rfl)
theorem dL_used_4 : decode cL_used 4 = .ok (.invokevirtual 63, 3) := tbL_used_0 (4, .invokevirtual 63, 3) (List.mem_of_getElem? (i := 4) rfl)
theorem dL_used_7 : decode cL_used 7 = .ok (.i2l, 1) := tbL_used_0 (7, .i2l, 1) (List.mem_of_getElem? (i := 5) rfl)
theorem dL_used_8 : decode cL_used 8 = .ok (.lastore, 1) := tbL_used_0 (8, .lastore, 1) (List.mem_of_getElem? (i := 6) rfl)
theorem dL_used_9 : decode cL_used 9 = .ok (.goto 9, 3) := tbL_used_0 (9, .goto 9, 3) (List.mem_of_getElem? (i := 7) rfl)
theorem dL_used_12 : decode cL_used 12 = .ok (.astore_n 3, 1) := tbL_used_0 (12, .astore_n 3, 1) (List.mem_of_getElem? (i := 8) rfl)
theorem dL_used_13 : decode cL_used 13 = .ok (.iconst 1, 1) := tbL_used_0 (13, .iconst 1, 1) (List.mem_of_getElem? (i := 9) rfl)
theorem dL_used_14 : decode cL_used 14 = .ok (.ireturn, 1) := tbL_used_0 (14, .ireturn, 1) (List.mem_of_getElem? (i := 10) rfl)
theorem dL_used_15 : decode cL_used 15 = .ok (.astore_n 3, 1) := tbL_used_0 (15, .astore_n 3, 1) (List.mem_of_getElem? (i := 11) rfl)
theorem dL_used_16 : decode cL_used 16 = .ok (.iconst 2, 1) := tbL_used_0 (16, .iconst 2, 1) (List.mem_of_getElem? (i := 12) rfl)
theorem dL_used_17 : decode cL_used 17 = .ok (.ireturn, 1) := tbL_used_0 (17, .ireturn, 1) (List.mem_of_getElem? (i := 13) rfl)
theorem dL_used_18 : decode cL_used 18 = .ok (.iconst 0, 1) := tbL_used_0 (18, .iconst 0, 1) (List.mem_of_getElem? (i := 14) rfl)
theorem dL_used_19 : decode cL_used 19 = .ok (.ireturn, 1) := tbL_used_0 (19, .ireturn, 1) (List.mem_of_getElem? (i := 15) rfl)
set_option maxRecDepth 20000 in
theorem ggL_tableSize_X3_tableSize : GoodIn wsL_tableSize wsX3_tableSize := goodIn_ca (goodIn_r _ [6, 7, 8, 9, 10, 11, 5, 12, 13, 14, 15, 16, 17, 18, 19, 20, 21, 22, 23, 24, 25, 26, 27, 28] (by decide +kernel) (by decide +kernel)) (goodIn_sub (fun _ h => List.mem_cons_of_mem _ (List.mem_append_right _ h)) (by decide +kernel))
set_option maxRecDepth 20000 in
theorem gL_tableSize_X3_tableSize : GoodIn wsL_tableSize (wsV RL 66 RX3 yX3_tableSize wsX3_tableSize) := goodIn_app (goodIn_of _ (by decide +kernel)) ggL_tableSize_X3_tableSize
theorem tbL_tableSize_0 : ∀ q ∈ ([(0, .aload_n 1, 1), (1, .iconst 0, 1), (2, .aload_n 0, 1), (3, .invokevirtual 66, 3), (6, .i2l, 1), (7, .lastore, 1), (8, .goto 6, 3), (11, .astore_n 2, 1), (12, .iconst 1, 1), (13, .ireturn, 1), (14, .iconst 0, 1), (15, .ireturn, 1)] : List (Nat × Instr × Nat)), decode cL_tableSize q.1 = .ok (q.2.1, q.2.2) := by decide +kernel
theorem dL_tableSize_0 : decode cL_tableSize 0 = .ok (.aload_n 1, 1) := tbL_tableSize_0 (0, .aload_n 1, 1) (List.mem_of_getElem? (i := 0) rfl)
theorem dL_tableSize_1 : decode cL_tableSize 1 = .ok (.iconst 0, 1) := tbL_tableSize_0 (1, .iconst 0, 1) (List.mem_of_getElem? (i := 1) rfl)
theorem dL_tableSize_2 : decode cL_tableSize 2 = .ok (.aload_n 0, 1) := tbL_tableSize_0 (2, .aload_n 0, 1) (List.mem_of_getElem? (i := 2) rfl)
theorem dL_tableSize_3 : decode cL_tableSize 3 = .ok (.invokevirtual 66, 3) := tbL_tableSize_0 (3, .invokevirtual 66, 3) (List.mem_of_getElem? (i := 3) rfl)
theorem dL_tableSize_6 : decode cL_tableSize 6 = .ok (.i2l, 1) := tbL_tableSize_0 (6, .i2l, 1) (List.mem_of_getElem? (i := 4) rfl)
theorem dL_tableSize_7 : decode cL_tableSize 7 = .ok (.lastore, 1) := tbL_tableSize_0 (7, .lastore, 1) (List.mem_of_getElem? (i := 5) rfl)
theorem dL_tableSize_8 : decode cL_tableSize 8 = .ok (.goto 6, 3) := tbL_tableSize_0 (8, .goto 6, 3) (List.mem_of_getElem? (i := 6) rfl)
theorem dL_tableSize_11 : decode cL_tableSize 11 = .ok (.astore_n 2, 1) := tbL_tableSize_0 (11, .astore_n 2, 1) (List.mem_of_getElem? (i := 7) rfl)
theorem dL_tableSize_12 : decode cL_tableSize 12 = .ok (.iconst 1, 1) := tbL_tableSize_0 (12, .iconst 1, 1) (List.mem_of_getElem? (i := 8) rfl)
theorem dL_tableSize_13 : decode cL_tableSize 13 = .ok (.ireturn, 1) := tbL_tableSize_0 (13, .ireturn, 1) (List.mem_of_getElem? (i := 9) rfl)
theorem dL_tableSize_14 : decode cL_tableSize 14 = .ok (.iconst 0, 1) := tbL_tableSize_0 (14, .iconst 0, 1) (List.mem_of_getElem? (i := 10) rfl)
theorem dL_tableSize_15 : decode cL_tableSize 15 = .ok (.ireturn, 1) := tbL_tableSize_0 (15, .ireturn, 1) (List.mem_of_getElem? (i := 11) rfl)
set_option maxRecDepth 20000 in
theorem ggL_owner_X3_owner : GoodIn wsL_owner wsX3_owner := goodIn_ca (goodIn_ca (goodIn_r _ [7, 8, 9, 10, 11, 12, 13, 14, 15, 6, 16, 17, 18, 19, 20, 21, 22, 23, 24, 25, 26, 27, 28, 29, 30, 31, 32, 33, 34, 35] (by decide +kernel) (by decide +kernel)) (goodIn_sub (fun _ h => List.mem_cons_of_mem _ (List.mem_append_left _ (List.mem_append_right _ h))) (by decide +kernel))) (goodIn_sub (fun _ h => List.mem_cons_of_mem _ (List.mem_append_right _ h)) (by decide +kernel))
set_option maxRecDepth 20000 in
theorem gL_owner_X3_owner : GoodIn wsL_owner (wsV RL 69 RX3 yX3_owner wsX3_owner) := goodIn_app (goodIn_of _ (by decide +kernel)) ggL_owner_X3_owner
theorem tbL_owner_0 : ∀ q ∈ ([(0, .aload_n 2, 1), (1, .iconst 0, 1), (2, .aload_n 0, 1), (3, .iload_n 1, 1), (4, .invokevirtual 69, 3), (7, .i2l, 1), (8, .lastore, 1), (9, .goto 9, 3), (12, .astore_n 3, 1), (13, .iconst 1, 1), (14, .ireturn, 1), (15, .astore_n 3, 1), (16, .iconst 2, 1), (17, .ireturn, 1), (18, .iconst 0, 1), (19, .ireturn, 1)] : List (Nat × Instr × Nat)), decode cL_owner q.1 = .ok (q.2.1, q.2.2) := by decide +kernel
theorem dL_owner_0 : decode cL_owner 0 = .ok (.aload_n 2, 1) := tbL_owner_0 (0, .aload_n 2, 1) (List.mem_of_getElem? (i := 0) rfl)
theorem dL_owner_1 : decode cL_owner 1 = .ok (.iconst 0, 1) := tbL_owner_0 (1, .iconst 0, 1) (List.mem_of_getElem? (i := 1) rfl)
theorem dL_owner_2 : decode cL_owner 2 = .ok (.aload_n 0, 1) := tbL_owner_0 (2, .aload_n 0, 1) (List.mem_of_getElem? (i := 2) rfl)
theorem dL_owner_3 : decode cL_owner 3 = .ok (.iload_n 1, 1) := tbL_owner_0 (3, .iload_n 1, 1) (List.mem_of_getElem? (i := 3) rfl)
theorem dL_owner_4 : decode cL_owner 4 = .ok (.invokevirtual 69, 3) := tbL_owner_0 (4, .invokevirtual 69, 3) (List.mem_of_getElem? (i := 4) rfl)
theorem dL_owner_7 : decode cL_owner 7 = .ok (.i2l, 1) := tbL_owner_0 (7, .i2l, 1) (List.mem_of_getElem? (i := 5) rfl)
theorem dL_owner_8 : decode cL_owner 8 = .ok (.lastore, 1) := tbL_owner_0 (8, .lastore, 1) (List.mem_of_getElem? (i := 6) rfl)
theorem dL_owner_9 : decode cL_owner 9 = .ok (.goto 9, 3) := tbL_owner_0 (9, .goto 9, 3) (List.mem_of_getElem? (i := 7) rfl)
theorem dL_owner_12 : decode cL_owner 12 = .ok (.astore_n 3, 1) := tbL_owner_0 (12, .astore_n 3, 1) (List.mem_of_getElem? (i := 8) rfl)
theorem dL_owner_13 : decode cL_owner 13 = .ok (.iconst 1, 1) := tbL_owner_0 (13, .iconst 1, 1) (List.mem_of_getElem? (i := 9) rfl)
theorem dL_owner_14 : decode cL_owner 14 = .ok (.ireturn, 1) := tbL_owner_0 (14, .ireturn, 1) (List.mem_of_getElem? (i := 10) rfl)
theorem dL_owner_15 : decode cL_owner 15 = .ok (.astore_n 3, 1) := tbL_owner_0 (15, .astore_n 3, 1) (List.mem_of_getElem? (i := 11) rfl)
theorem dL_owner_16 : decode cL_owner 16 = .ok (.iconst 2, 1) := tbL_owner_0 (16, .iconst 2, 1) (List.mem_of_getElem? (i := 12) rfl)
theorem dL_owner_17 : decode cL_owner 17 = .ok (.ireturn, 1) := tbL_owner_0 (17, .ireturn, 1) (List.mem_of_getElem? (i := 13) rfl)
theorem dL_owner_18 : decode cL_owner 18 = .ok (.iconst 0, 1) := tbL_owner_0 (18, .iconst 0, 1) (List.mem_of_getElem? (i := 14) rfl)
theorem dL_owner_19 : decode cL_owner 19 = .ok (.ireturn, 1) := tbL_owner_0 (19, .ireturn, 1) (List.mem_of_getElem? (i := 15) rfl)
set_option maxRecDepth 20000 in
theorem ggL_density_X3_density : GoodIn wsL_density wsX3_density := goodIn_ca (goodIn_r _ [6, 7, 8, 9, 10, 11, 12, 5, 13, 14, 15, 16, 17, 18, 19, 20, 21, 22, 23, 24, 25, 26, 27, 28, 29] (by decide +kernel) (by decide +kernel)) (goodIn_sub (fun _ h => List.mem_cons_of_mem _ (List.mem_append_right _ h)) (by decide +kernel))
set_option maxRecDepth 20000 in
theorem gL_density_X3_density : GoodIn wsL_density (wsV RL 72 RX3 yX3_density wsX3_density) := goodIn_app (goodIn_of _ (by decide +kernel)) ggL_density_X3_density
theorem tbL_density_0 : ∀ q ∈ ([(0, .aload_n 1, 1), (1, .iconst 0, 1), (2, .aload_n 0, 1), (3, .invokevirtual 72, 3), (6, .dastore, 1), (7, .goto 6, 3), (10, .astore_n 2, 1), (11, .iconst 1, 1), (12, .ireturn, 1), (13, .iconst 0, 1), (14, .ireturn, 1)] : List (Nat × Instr × Nat)), decode cL_density q.1 = .ok (q.2.1, q.2.2) := by decide +kernel
theorem dL_density_0 : decode cL_density 0 = .ok (.aload_n 1, 1) := tbL_density_0 (0, .aload_n 1, 1) (List.mem_of_getElem? (i := 0) rfl)
theorem dL_density_1 : decode cL_density 1 = .ok (.iconst 0, 1) := tbL_density_0 (1, .iconst 0, 1) (List.mem_of_getElem? (i := 1) rfl)
theorem dL_density_2 : decode cL_density 2 = .ok (.aload_n 0, 1) := tbL_density_0 (2, .aload_n 0, 1) (List.mem_of_getElem? (i := 2) rfl)
theorem dL_density_3 : decode cL_density 3 = .ok (.invokevirtual 72, 3) := tbL_density_0 (3, .invokevirtual 72, 3) (List.mem_of_getElem? (i := 3) rfl)
theorem dL_density_6 : decode cL_density 6 = .ok (.dastore, 1) := tbL_density_0 (6, .dastore, 1) (List.mem_of_getElem? (i := 4) rfl)
theorem dL_density_7 : decode cL_density 7 = .ok (.goto 6, 3) := tbL_density_0 (7, .goto 6, 3) (List.mem_of_getElem? (i := 5) rfl)
theorem dL_density_10 : decode cL_density 10 = .ok (.astore_n 2, 1) := tbL_density_0 (10, .astore_n 2, 1) (List.mem_of_getElem? (i := 6) rfl)
theorem dL_density_11 : decode cL_density 11 = .ok (.iconst 1, 1) := tbL_density_0 (11, .iconst 1, 1) (List.mem_of_getElem? (i := 7) rfl)
theorem dL_density_12 : decode cL_density 12 = .ok (.ireturn, 1) := tbL_density_0 (12, .ireturn, 1) (List.mem_of_getElem? (i := 8) rfl)
theorem dL_density_13 : decode cL_density 13 = .ok (.iconst 0, 1) := tbL_density_0 (13, .iconst 0, 1) (List.mem_of_getElem? (i := 9) rfl)
theorem dL_density_14 : decode cL_density 14 = .ok (.ireturn, 1) := tbL_density_0 (14, .ireturn, 1) (List.mem_of_getElem? (i := 10) rfl)
set_option maxRecDepth 20000 in
theorem ggL_law_X3_init : GoodIn wsL_law wsX3_init := goodIn_r _ [10, 11, 12, 13, 14, 15, 16, 17, 18, 19, 20, 21, 22, 23, 24, 25, 26, 27, 28, 29, 30, 31, 32, 33, 34, 35, 36, 37, 38, 39, 40, 41, 42, 43, 44, 45, 46, 47, 48, 49, 50, 51, 52, 53, 6, 54, 55, 56, 57, 58, 59, 60, 61, 62, 63, 64, 65, 66, 67, 68, 69, 70, 71, 72, 73, 74, 75, 76, 739, 740, 741, 742, 743, 744, 745, 746, 747, 748, 749, 750, 751, 706, 707, 708, 752, 753, 754, 755, 756, 757, 758, 759, 760, 761, 762, 763, 764, 765, 766, 767, 768, 769, 770, 771] (by decide +kernel) (by decide +kernel)
set_option maxRecDepth 20000 in
theorem gL_law_X3_init : GoodIn wsL_law (wsX3_init) := ggL_law_X3_init
set_option maxRecDepth 20000 in
theorem ggL_law_X4_init : GoodIn wsL_law wsX4_init := goodIn_r _ [79, 80, 12, 13, 81, 32, 82, 83, 84, 85, 86, 87, 88, 89, 90, 91, 92, 93, 94, 6, 95, 96, 97, 98, 99, 100, 101, 102, 709, 710, 711, 712, 713, 714, 715, 716, 717, 718, 719, 720, 721, 722, 723, 724, 725, 726, 727, 728, 729, 730, 731, 732, 733, 734, 735, 736, 737, 738] (by decide +kernel) (by decide +kernel)
set_option maxRecDepth 20000 in
theorem gL_law_X4_init : GoodIn wsL_law (wsX4_init) := ggL_law_X4_init
set_option maxRecDepth 20000 in
theorem ggL_law_L_addState : GoodIn wsL_law wsL_addState := goodIn_ca (goodIn_r _ [106, 107, 108, 109, 110, 2, 111, 112, 113, 17, 114, 25, 115, 706, 707, 708, 739, 740, 741, 742, 743, 744, 745, 746, 747, 748, 749, 750, 751, 762, 763, 764, 765, 766, 767, 768, 769, 770, 771] (by decide +kernel) (by decide +kernel)) (goodIn_sub (fun _ h => List.mem_append_left _ (List.mem_append_left _ (List.mem_append_right _ h))) (by decide +kernel))
set_option maxRecDepth 20000 in
theorem gL_law_L_addState : GoodIn wsL_law (va_wsS RL 80 yL_addState wsL_addState) := goodIn_app (goodIn_of _ (by decide +kernel)) ggL_law_L_addState
set_option maxRecDepth 20000 in
theorem ggL_law_X4_addState : GoodIn wsL_law wsX4_addState := goodIn_r _ [119, 120, 81, 121, 122, 123, 124, 5, 125, 709, 710, 711, 712, 713, 714, 715, 716, 717, 718, 719, 720, 721, 722, 723, 724, 725, 726, 727, 728, 729, 730, 731, 732, 733, 734, 735, 736, 737, 738] (by decide +kernel) (by decide +kernel)
set_option maxRecDepth 20000 in
theorem gL_law_X4_addState : GoodIn wsL_law (wsV RL 85 RX4 yX4_addState wsX4_addState) := goodIn_app (goodIn_of _ (by decide +kernel)) ggL_law_X4_addState
set_option maxRecDepth 20000 in
theorem ggL_law_X4_thrown : GoodIn wsL_law wsX4_thrown := goodIn_r _ [129, 120, 709, 710, 711, 712, 713, 714, 715, 716, 717, 718, 719, 720, 721, 722, 723, 724, 725, 726, 727, 728, 729, 730, 731, 732, 733, 734, 735, 736, 737, 738] (by decide +kernel) (by decide +kernel)
set_option maxRecDepth 20000 in
theorem gL_law_X4_thrown : GoodIn wsL_law (wsV RL 86 RX4 yX4_thrown wsX4_thrown) := goodIn_app (goodIn_of _ (by decide +kernel)) ggL_law_X4_thrown
set_option maxRecDepth 20000 in
theorem ggL_law_L_addTransition : GoodIn wsL_law wsL_addTransition := goodIn_ca (goodIn_ca (goodIn_ca (goodIn_r _ [132, 133, 134, 107, 135, 136, 137, 2, 138, 139, 140, 141, 142, 112, 113, 17, 114, 143, 25, 115, 21, 144, 145, 146, 147, 148, 149, 150, 151, 152, 153, 16, 154, 31, 34, 35, 36, 37, 38, 39, 40, 155, 156, 157, 158, 706, 707, 708, 739, 740, 741, 742, 743, 744, 745, 746, 747, 748, 749, 750, 751, 762, 763, 764, 765, 766, 767, 768, 769, 770, 771, 752, 753, 754, 755, 756, 757, 758, 759, 760, 761] (by decide +kernel) (by decide +kernel)) (goodIn_sub (fun _ h => List.mem_append_left _ (List.mem_append_right _ h)) (by decide +kernel))) (goodIn_sub (fun _ h => List.mem_append_right _ h) (by decide +kernel))) (goodIn_sub (fun _ h => List.mem_append_left _ (List.mem_append_left _ (List.mem_append_right _ h))) (by decide +kernel))
set_option maxRecDepth 20000 in
theorem gL_law_L_addTransition : GoodIn wsL_law (va_wsS RL 89 yL_addTransition wsL_addTransition) := goodIn_app (goodIn_of _ (by decide +kernel)) ggL_law_L_addTransition
set_option maxRecDepth 20000 in
theorem ggL_law_X4_addTransition : GoodIn wsL_law wsX4_addTransition := goodIn_r _ [162, 120, 163, 83, 84, 85, 86, 87, 88, 89, 91, 121, 164, 165, 166, 5, 167, 81, 168, 169, 170, 171, 172, 173, 122, 123, 124, 125, 174, 175, 176, 709, 710, 711, 712, 713, 714, 715, 716, 717, 718, 719, 720, 721, 722, 723, 724, 725, 726, 727, 728, 729, 730, 731, 732, 733, 734, 735, 736, 737, 738] (by decide +kernel) (by decide +kernel)
set_option maxRecDepth 20000 in
theorem gL_law_X4_addTransition : GoodIn wsL_law (wsV RL 92 RX4 yX4_addTransition wsX4_addTransition) := goodIn_app (goodIn_of _ (by decide +kernel)) ggL_law_X4_addTransition
set_option maxRecDepth 20000 in
theorem ggL_law_L_addAction : GoodIn wsL_law wsL_addAction := goodIn_ca (goodIn_ca (goodIn_ca (goodIn_r _ [179, 133, 134, 107, 180, 181, 182, 2, 183, 139, 140, 141, 142, 112, 113, 17, 143, 184, 25, 115, 145, 146, 147, 185, 186, 187, 148, 149, 150, 188, 189, 190, 16, 191, 40, 41, 42, 43, 706, 707, 708, 739, 740, 741, 742, 743, 744, 745, 746, 747, 748, 749, 750, 751, 762, 763, 764, 765, 766, 767, 768, 769, 770, 771] (by decide +kernel) (by decide +kernel)) (goodIn_sub (fun _ h => List.mem_append_left _ (List.mem_append_right _ h)) (by decide +kernel))) (goodIn_sub (fun _ h => List.mem_append_right _ h) (by decide +kernel))) (goodIn_sub (fun _ h => List.mem_append_left _ (List.mem_append_left _ (List.mem_append_right _ h))) (by decide +kernel))
set_option maxRecDepth 20000 in
theorem gL_law_L_addAction : GoodIn wsL_law (va_wsS RL 93 yL_addAction wsL_addAction) := goodIn_app (goodIn_of _ (by decide +kernel)) ggL_law_L_addAction
set_option maxRecDepth 20000 in
theorem ggL_law_X4_addAction : GoodIn wsL_law wsX4_addAction := goodIn_r _ [195, 120, 89, 90, 121, 196, 197, 198, 5, 199, 163, 168, 169, 170, 122, 123, 124, 125, 174, 175, 176, 709, 710, 711, 712, 713, 714, 715, 716, 717, 718, 719, 720, 721, 722, 723, 724, 725, 726, 727, 728, 729, 730, 731, 732, 733, 734, 735, 736, 737, 738] (by decide +kernel) (by decide +kernel)
set_option maxRecDepth 20000 in
theorem gL_law_X4_addAction : GoodIn wsL_law (wsV RL 96 RX4 yX4_addAction wsX4_addAction) := goodIn_app (goodIn_of _ (by decide +kernel)) ggL_law_X4_addAction
set_option maxRecDepth 20000 in
theorem ggL_law_L_drop : GoodIn wsL_law wsL_drop := goodIn_ca (goodIn_r _ [202, 107, 203, 204, 205, 2, 206, 112, 113, 17, 143, 25, 115, 706, 707, 708, 739, 740, 741, 742, 743, 744, 745, 746, 747, 748, 749, 750, 751, 762, 763, 764, 765, 766, 767, 768, 769, 770, 771] (by decide +kernel) (by decide +kernel)) (goodIn_sub (fun _ h => List.mem_append_left _ (List.mem_append_left _ (List.mem_append_right _ h))) (by decide +kernel))
set_option maxRecDepth 20000 in
theorem gL_law_L_drop : GoodIn wsL_law (va_wsS RL 97 yL_drop wsL_drop) := goodIn_app (goodIn_of _ (by decide +kernel)) ggL_law_L_drop
set_option maxRecDepth 20000 in
theorem ggL_law_X4_drop : GoodIn wsL_law wsX4_drop := goodIn_r _ [210, 120, 163, 121, 122, 123, 124, 5, 125, 709, 710, 711, 712, 713, 714, 715, 716, 717, 718, 719, 720, 721, 722, 723, 724, 725, 726, 727, 728, 729, 730, 731, 732, 733, 734, 735, 736, 737, 738] (by decide +kernel) (by decide +kernel)
set_option maxRecDepth 20000 in
theorem gL_law_X4_drop : GoodIn wsL_law (wsV RL 99 RX4 yX4_drop wsX4_drop) := goodIn_app (goodIn_of _ (by decide +kernel)) ggL_law_X4_drop
set_option maxRecDepth 20000 in
theorem ggL_law_L_setTimerEvent : GoodIn wsL_law wsL_setTimerEvent := goodIn_ca (goodIn_r _ [213, 133, 214, 215, 216, 2, 217, 139, 140, 25, 115, 17, 218, 145, 146, 147, 706, 707, 708, 762, 763, 764, 765, 766, 767, 768, 769, 770, 771, 739, 740, 741, 742, 743, 744, 745, 746, 747, 748, 749, 750, 751] (by decide +kernel) (by decide +kernel)) (goodIn_sub (fun _ h => List.mem_append_left _ (List.mem_append_right _ h)) (by decide +kernel))
set_option maxRecDepth 20000 in
theorem gL_law_L_setTimerEvent : GoodIn wsL_law (va_wsS RL 100 yL_setTimerEvent wsL_setTimerEvent) := goodIn_app (goodIn_of _ (by decide +kernel)) ggL_law_L_setTimerEvent
set_option maxRecDepth 20000 in
theorem ggL_law_X4_setTimerEvent : GoodIn wsL_law wsX4_setTimerEvent := goodIn_r _ [222, 120, 82, 121, 168, 169, 5, 170, 171, 172, 173, 122, 123, 124, 125, 709, 710, 711, 712, 713, 714, 715, 716, 717, 718, 719, 720, 721, 722, 723, 724, 725, 726, 727, 728, 729, 730, 731, 732, 733, 734, 735, 736, 737, 738] (by decide +kernel) (by decide +kernel)
set_option maxRecDepth 20000 in
theorem gL_law_X4_setTimerEvent : GoodIn wsL_law (wsV RL 103 RX4 yX4_setTimerEvent wsX4_setTimerEvent) := goodIn_app (goodIn_of _ (by decide +kernel)) ggL_law_X4_setTimerEvent
set_option maxRecDepth 20000 in
theorem ggL_law_X3_stateCount : GoodIn wsL_law wsX3_stateCount := goodIn_r _ [226, 17, 114, 706, 707, 708, 739, 740, 741, 742, 743, 744, 745, 746, 747, 748, 749, 750, 751] (by decide +kernel) (by decide +kernel)
set_option maxRecDepth 20000 in
theorem gL_law_X3_stateCount : GoodIn wsL_law (wsV RL 104 RX3 yX3_stateCount wsX3_stateCount) := goodIn_app (goodIn_of _ (by decide +kernel)) ggL_law_X3_stateCount
set_option maxRecDepth 20000 in
theorem ggL_law_X4_stateCount : GoodIn wsL_law wsX4_stateCount := goodIn_r _ [230, 120, 81, 709, 710, 711, 712, 713, 714, 715, 716, 717, 718, 719, 720, 721, 722, 723, 724, 725, 726, 727, 728, 729, 730, 731, 732, 733, 734, 735, 736, 737, 738] (by decide +kernel) (by decide +kernel)
set_option maxRecDepth 20000 in
theorem gL_law_X4_stateCount : GoodIn wsL_law (wsV RL 107 RX4 yX4_stateCount wsX4_stateCount) := goodIn_app (goodIn_of _ (by decide +kernel)) ggL_law_X4_stateCount
set_option maxRecDepth 20000 in
theorem ggL_law_X3_transitionCount : GoodIn wsL_law wsX3_transitionCount := goodIn_r _ [234, 17, 143, 706, 707, 708, 739, 740, 741, 742, 743, 744, 745, 746, 747, 748, 749, 750, 751] (by decide +kernel) (by decide +kernel)
set_option maxRecDepth 20000 in
theorem gL_law_X3_transitionCount : GoodIn wsL_law (wsV RL 108 RX3 yX3_transitionCount wsX3_transitionCount) := goodIn_app (goodIn_of _ (by decide +kernel)) ggL_law_X3_transitionCount
set_option maxRecDepth 20000 in
theorem ggL_law_X4_transitionCount : GoodIn wsL_law wsX4_transitionCount := goodIn_r _ [238, 120, 163, 709, 710, 711, 712, 713, 714, 715, 716, 717, 718, 719, 720, 721, 722, 723, 724, 725, 726, 727, 728, 729, 730, 731, 732, 733, 734, 735, 736, 737, 738] (by decide +kernel) (by decide +kernel)
set_option maxRecDepth 20000 in
theorem gL_law_X4_transitionCount : GoodIn wsL_law (wsV RL 111 RX4 yX4_transitionCount wsX4_transitionCount) := goodIn_app (goodIn_of _ (by decide +kernel)) ggL_law_X4_transitionCount
set_option maxRecDepth 20000 in
theorem ggL_law_L_isHidden : GoodIn wsL_law wsL_isHidden := goodIn_ca (goodIn_r _ [241, 133, 242, 243, 244, 2, 245, 139, 140, 17, 143, 145, 146, 147, 246, 247, 248, 16, 249, 34, 35, 250, 251, 252, 253, 37, 254, 255, 256, 257, 38, 39, 258, 259, 260, 261, 706, 707, 708, 739, 740, 741, 742, 743, 744, 745, 746, 747, 748, 749, 750, 751] (by decide +kernel) (by decide +kernel)) (goodIn_sub (fun _ h => List.mem_append_left _ (List.mem_append_right _ h)) (by decide +kernel))
set_option maxRecDepth 20000 in
theorem gL_law_L_isHidden : GoodIn wsL_law (va_wsS RL 112 yL_isHidden wsL_isHidden) := goodIn_app (goodIn_of _ (by decide +kernel)) ggL_law_L_isHidden
set_option maxRecDepth 20000 in
theorem ggL_law_X4_isHidden : GoodIn wsL_law wsX4_isHidden := goodIn_r _ [265, 120, 196, 197, 198, 5, 199, 163, 168, 169, 170, 266, 267, 268, 269, 83, 84, 85, 270, 271, 272, 273, 86, 87, 709, 710, 711, 712, 713, 714, 715, 716, 717, 718, 719, 720, 721, 722, 723, 724, 725, 726, 727, 728, 729, 730, 731, 732, 733, 734, 735, 736, 737, 738] (by decide +kernel) (by decide +kernel)
set_option maxRecDepth 20000 in
theorem gL_law_X4_isHidden : GoodIn wsL_law (wsV RL 115 RX4 yX4_isHidden wsX4_isHidden) := goodIn_app (goodIn_of _ (by decide +kernel)) ggL_law_X4_isHidden
set_option maxRecDepth 20000 in
theorem ggL_law_X3_restart : GoodIn wsL_law wsX3_restart := goodIn_r _ [277, 21, 278, 279, 280, 281, 20, 282, 48, 49, 50, 51, 52, 53, 54, 58, 56, 283, 284, 61, 285, 59, 60, 62, 706, 707, 708, 752, 753, 754, 755, 756, 757, 758, 759, 760, 761] (by decide +kernel) (by decide +kernel)
set_option maxRecDepth 20000 in
theorem gL_law_X3_restart : GoodIn wsL_law (wsV RL 116 RX3 yX3_restart wsX3_restart) := goodIn_app (goodIn_of _ (by decide +kernel)) ggL_law_X3_restart
set_option maxRecDepth 20000 in
theorem ggL_law_X4_restart : GoodIn wsL_law wsX4_restart := goodIn_r _ [289, 120, 290, 291, 92, 94, 91, 292, 293, 709, 710, 711, 712, 713, 714, 715, 716, 717, 718, 719, 720, 721, 722, 723, 724, 725, 726, 727, 728, 729, 730, 731, 732, 733, 734, 735, 736, 737, 738] (by decide +kernel) (by decide +kernel)
set_option maxRecDepth 20000 in
theorem gL_law_X4_restart : GoodIn wsL_law (wsV RL 120 RX4 yX4_restart wsX4_restart) := goodIn_app (goodIn_of _ (by decide +kernel)) ggL_law_X4_restart
set_option maxRecDepth 20000 in
theorem ggL_law_L_happen : GoodIn wsL_law wsL_happen := goodIn_ca (goodIn_r _ [296, 133, 297, 298, 299, 2, 300, 139, 140, 21, 145, 146, 147, 301, 302, 303, 20, 304, 52, 56, 57, 305, 306, 48, 307, 308, 309, 310, 311, 312, 313, 16, 314, 31, 34, 35, 315, 316, 317, 318, 319, 53, 320, 255, 256, 257, 38, 39, 321, 259, 260, 261, 322, 323, 324, 325, 326, 327, 328, 329, 330, 331, 332, 333, 334, 335, 54, 49, 58, 336, 337, 338, 339, 51, 55, 50, 706, 707, 708, 752, 753, 754, 755, 756, 757, 758, 759, 760, 761, 739, 740, 741, 742, 743, 744, 745, 746, 747, 748, 749, 750, 751] (by decide +kernel) (by decide +kernel)) (goodIn_sub (fun _ h => List.mem_append_left _ (List.mem_append_right _ h)) (by decide +kernel))
set_option maxRecDepth 20000 in
theorem gL_law_L_happen : GoodIn wsL_law (va_wsS RL 121 yL_happen wsL_happen) := goodIn_app (goodIn_of _ (by decide +kernel)) ggL_law_L_happen
set_option maxRecDepth 20000 in
theorem ggL_law_X4_happen : GoodIn wsL_law wsX4_happen := goodIn_r _ [343, 120, 171, 172, 5, 173, 168, 169, 170, 344, 345, 346, 347, 163, 83, 291, 84, 85, 92, 89, 90, 88, 91, 293, 270, 271, 272, 273, 86, 87, 348, 349, 350, 351, 352, 330, 331, 332, 353, 334, 335, 94, 95, 290, 292, 96, 122, 123, 124, 125, 709, 710, 711, 712, 713, 714, 715, 716, 717, 718, 719, 720, 721, 722, 723, 724, 725, 726, 727, 728, 729, 730, 731, 732, 733, 734, 735, 736, 737, 738] (by decide +kernel) (by decide +kernel)
set_option maxRecDepth 20000 in
theorem gL_law_X4_happen : GoodIn wsL_law (wsV RL 123 RX4 yX4_happen wsX4_happen) := goodIn_app (goodIn_of _ (by decide +kernel)) ggL_law_X4_happen
set_option maxRecDepth 20000 in
theorem ggL_law_L_advance : GoodIn wsL_law wsL_advance := goodIn_ca (goodIn_r _ [356, 134, 357, 358, 359, 2, 360, 141, 142, 21, 361, 362, 363, 20, 364, 49, 54, 58, 57, 365, 366, 367, 368, 369, 370, 302, 303, 304, 52, 56, 305, 306, 48, 307, 308, 309, 310, 311, 312, 313, 16, 314, 31, 34, 35, 315, 316, 317, 318, 319, 53, 320, 255, 256, 257, 38, 39, 321, 259, 260, 261, 322, 323, 324, 325, 326, 327, 328, 329, 330, 331, 332, 333, 334, 335, 336, 337, 338, 339, 51, 55, 50, 706, 707, 708, 752, 753, 754, 755, 756, 757, 758, 759, 760, 761, 739, 740, 741, 742, 743, 744, 745, 746, 747, 748, 749, 750, 751] (by decide +kernel) (by decide +kernel)) (goodIn_sub (fun _ h => List.mem_append_right _ h) (by decide +kernel))
set_option maxRecDepth 20000 in
theorem gL_law_L_advance : GoodIn wsL_law (va_wsS RL 124 yL_advance wsL_advance) := goodIn_app (goodIn_of _ (by decide +kernel)) ggL_law_L_advance
set_option maxRecDepth 20000 in
theorem ggL_law_X4_advance : GoodIn wsL_law wsX4_advance := goodIn_r _ [374, 120, 290, 95, 94, 82, 168, 169, 5, 170, 122, 123, 124, 125, 375, 376, 377, 378, 344, 345, 346, 347, 163, 83, 291, 84, 85, 92, 89, 90, 88, 91, 293, 270, 271, 272, 273, 86, 87, 348, 349, 350, 351, 352, 330, 331, 332, 353, 334, 335, 292, 96, 709, 710, 711, 712, 713, 714, 715, 716, 717, 718, 719, 720, 721, 722, 723, 724, 725, 726, 727, 728, 729, 730, 731, 732, 733, 734, 735, 736, 737, 738] (by decide +kernel) (by decide +kernel)
set_option maxRecDepth 20000 in
theorem gL_law_X4_advance : GoodIn wsL_law (wsV RL 126 RX4 yX4_advance wsX4_advance) := goodIn_app (goodIn_of _ (by decide +kernel)) ggL_law_X4_advance
set_option maxRecDepth 20000 in
theorem ggL_law_X3_state : GoodIn wsL_law wsX3_state := goodIn_r _ [382, 21, 383, 706, 707, 708, 752, 753, 754, 755, 756, 757, 758, 759, 760, 761] (by decide +kernel) (by decide +kernel)
set_option maxRecDepth 20000 in
theorem gL_law_X3_state : GoodIn wsL_law (wsV RL 127 RX3 yX3_state wsX3_state) := goodIn_app (goodIn_of _ (by decide +kernel)) ggL_law_X3_state
set_option maxRecDepth 20000 in
theorem ggL_law_X4_state : GoodIn wsL_law wsX4_state := goodIn_r _ [387, 120, 291, 709, 710, 711, 712, 713, 714, 715, 716, 717, 718, 719, 720, 721, 722, 723, 724, 725, 726, 727, 728, 729, 730, 731, 732, 733, 734, 735, 736, 737, 738] (by decide +kernel) (by decide +kernel)
set_option maxRecDepth 20000 in
theorem gL_law_X4_state : GoodIn wsL_law (wsV RL 130 RX4 yX4_state wsX4_state) := goodIn_app (goodIn_of _ (by decide +kernel)) ggL_law_X4_state
set_option maxRecDepth 20000 in
theorem ggL_law_X3_time : GoodIn wsL_law wsX3_time := goodIn_r _ [391, 21, 278, 706, 707, 708, 752, 753, 754, 755, 756, 757, 758, 759, 760, 761] (by decide +kernel) (by decide +kernel)
set_option maxRecDepth 20000 in
theorem gL_law_X3_time : GoodIn wsL_law (wsV RL 131 RX3 yX3_time wsX3_time) := goodIn_app (goodIn_of _ (by decide +kernel)) ggL_law_X3_time
set_option maxRecDepth 20000 in
theorem ggL_law_X4_time : GoodIn wsL_law wsX4_time := goodIn_r _ [395, 120, 290, 709, 710, 711, 712, 713, 714, 715, 716, 717, 718, 719, 720, 721, 722, 723, 724, 725, 726, 727, 728, 729, 730, 731, 732, 733, 734, 735, 736, 737, 738] (by decide +kernel) (by decide +kernel)
set_option maxRecDepth 20000 in
theorem gL_law_X4_time : GoodIn wsL_law (wsV RL 134 RX4 yX4_time wsX4_time) := goodIn_app (goodIn_of _ (by decide +kernel)) ggL_law_X4_time
set_option maxRecDepth 20000 in
theorem ggL_law_L_value : GoodIn wsL_law wsL_value := goodIn_ca (goodIn_r _ [398, 133, 399, 400, 401, 2, 402, 139, 140, 21, 403, 145, 146, 147, 706, 707, 708, 752, 753, 754, 755, 756, 757, 758, 759, 760, 761] (by decide +kernel) (by decide +kernel)) (goodIn_sub (fun _ h => List.mem_append_left _ (List.mem_append_right _ h)) (by decide +kernel))
set_option maxRecDepth 20000 in
theorem gL_law_L_value : GoodIn wsL_law (va_wsS RL 135 yL_value wsL_value) := goodIn_app (goodIn_of _ (by decide +kernel)) ggL_law_L_value
set_option maxRecDepth 20000 in
theorem ggL_law_X4_value : GoodIn wsL_law wsX4_value := goodIn_r _ [407, 120, 92, 168, 169, 5, 170, 122, 123, 124, 125, 709, 710, 711, 712, 713, 714, 715, 716, 717, 718, 719, 720, 721, 722, 723, 724, 725, 726, 727, 728, 729, 730, 731, 732, 733, 734, 735, 736, 737, 738] (by decide +kernel) (by decide +kernel)
set_option maxRecDepth 20000 in
theorem gL_law_X4_value : GoodIn wsL_law (wsV RL 137 RX4 yX4_value wsX4_value) := goodIn_app (goodIn_of _ (by decide +kernel)) ggL_law_X4_value
set_option maxRecDepth 20000 in
theorem ggL_law_L_left : GoodIn wsL_law wsL_left := goodIn_ca (goodIn_r _ [410, 133, 411, 412, 413, 2, 414, 139, 140, 21, 145, 146, 147, 415, 416, 417, 20, 418, 54, 58, 49, 706, 707, 708, 752, 753, 754, 755, 756, 757, 758, 759, 760, 761] (by decide +kernel) (by decide +kernel)) (goodIn_sub (fun _ h => List.mem_append_left _ (List.mem_append_right _ h)) (by decide +kernel))
set_option maxRecDepth 20000 in
theorem gL_law_L_left : GoodIn wsL_law (va_wsS RL 138 yL_left wsL_left) := goodIn_app (goodIn_of _ (by decide +kernel)) ggL_law_L_left
set_option maxRecDepth 20000 in
theorem ggL_law_X4_left : GoodIn wsL_law wsX4_left := goodIn_r _ [422, 120, 168, 169, 5, 170, 423, 424, 425, 426, 94, 95, 290, 122, 123, 124, 125, 709, 710, 711, 712, 713, 714, 715, 716, 717, 718, 719, 720, 721, 722, 723, 724, 725, 726, 727, 728, 729, 730, 731, 732, 733, 734, 735, 736, 737, 738] (by decide +kernel) (by decide +kernel)
set_option maxRecDepth 20000 in
theorem gL_law_X4_left : GoodIn wsL_law (wsV RL 140 RX4 yX4_left wsX4_left) := goodIn_app (goodIn_of _ (by decide +kernel)) ggL_law_X4_left
set_option maxRecDepth 20000 in
theorem ggL_law_X3_emitted : GoodIn wsL_law wsX3_emitted := goodIn_r _ [430, 21, 431, 706, 707, 708, 752, 753, 754, 755, 756, 757, 758, 759, 760, 761] (by decide +kernel) (by decide +kernel)
set_option maxRecDepth 20000 in
theorem gL_law_X3_emitted : GoodIn wsL_law (wsV RL 141 RX3 yX3_emitted wsX3_emitted) := goodIn_app (goodIn_of _ (by decide +kernel)) ggL_law_X3_emitted
set_option maxRecDepth 20000 in
theorem ggL_law_X4_emitted : GoodIn wsL_law wsX4_emitted := goodIn_r _ [435, 120, 292, 709, 710, 711, 712, 713, 714, 715, 716, 717, 718, 719, 720, 721, 722, 723, 724, 725, 726, 727, 728, 729, 730, 731, 732, 733, 734, 735, 736, 737, 738] (by decide +kernel) (by decide +kernel)
set_option maxRecDepth 20000 in
theorem gL_law_X4_emitted : GoodIn wsL_law (wsV RL 144 RX4 yX4_emitted wsX4_emitted) := goodIn_app (goodIn_of _ (by decide +kernel)) ggL_law_X4_emitted
set_option maxRecDepth 20000 in
theorem ggL_law_L_output : GoodIn wsL_law wsL_output := goodIn_ca (goodIn_r _ [438, 133, 439, 440, 441, 2, 442, 139, 140, 21, 443, 444, 145, 146, 147, 706, 707, 708, 752, 753, 754, 755, 756, 757, 758, 759, 760, 761] (by decide +kernel) (by decide +kernel)) (goodIn_sub (fun _ h => List.mem_append_left _ (List.mem_append_right _ h)) (by decide +kernel))
set_option maxRecDepth 20000 in
theorem gL_law_L_output : GoodIn wsL_law (va_wsS RL 145 yL_output wsL_output) := goodIn_app (goodIn_of _ (by decide +kernel)) ggL_law_L_output
set_option maxRecDepth 20000 in
theorem ggL_law_X4_output : GoodIn wsL_law wsX4_output := goodIn_r _ [448, 120, 292, 352, 330, 331, 332, 96, 168, 169, 5, 170, 122, 123, 124, 125, 709, 710, 711, 712, 713, 714, 715, 716, 717, 718, 719, 720, 721, 722, 723, 724, 725, 726, 727, 728, 729, 730, 731, 732, 733, 734, 735, 736, 737, 738] (by decide +kernel) (by decide +kernel)
set_option maxRecDepth 20000 in
theorem gL_law_X4_output : GoodIn wsL_law (wsV RL 147 RX4 yX4_output wsX4_output) := goodIn_app (goodIn_of _ (by decide +kernel)) ggL_law_X4_output
set_option maxRecDepth 20000 in
theorem ggL_law_L_fired : GoodIn wsL_law wsL_fired := goodIn_ca (goodIn_r _ [451, 133, 452, 453, 454, 2, 455, 139, 140, 17, 143, 21, 144, 145, 146, 147, 706, 707, 708, 739, 740, 741, 742, 743, 744, 745, 746, 747, 748, 749, 750, 751, 752, 753, 754, 755, 756, 757, 758, 759, 760, 761] (by decide +kernel) (by decide +kernel)) (goodIn_sub (fun _ h => List.mem_append_left _ (List.mem_append_right _ h)) (by decide +kernel))
set_option maxRecDepth 20000 in
theorem gL_law_L_fired : GoodIn wsL_law (va_wsS RL 148 yL_fired wsL_fired) := goodIn_app (goodIn_of _ (by decide +kernel)) ggL_law_L_fired
set_option maxRecDepth 20000 in
theorem ggL_law_X4_fired : GoodIn wsL_law wsX4_fired := goodIn_r _ [459, 120, 91, 196, 197, 198, 5, 199, 163, 168, 169, 170, 122, 123, 124, 125, 709, 710, 711, 712, 713, 714, 715, 716, 717, 718, 719, 720, 721, 722, 723, 724, 725, 726, 727, 728, 729, 730, 731, 732, 733, 734, 735, 736, 737, 738] (by decide +kernel) (by decide +kernel)
set_option maxRecDepth 20000 in
theorem gL_law_X4_fired : GoodIn wsL_law (wsV RL 150 RX4 yX4_fired wsX4_fired) := goodIn_app (goodIn_of _ (by decide +kernel)) ggL_law_X4_fired
set_option maxRecDepth 20000 in
theorem ggL_law_X3_ignored : GoodIn wsL_law wsX3_ignored := goodIn_r _ [463, 21, 464, 706, 707, 708, 752, 753, 754, 755, 756, 757, 758, 759, 760, 761] (by decide +kernel) (by decide +kernel)
set_option maxRecDepth 20000 in
theorem gL_law_X3_ignored : GoodIn wsL_law (wsV RL 151 RX3 yX3_ignored wsX3_ignored) := goodIn_app (goodIn_of _ (by decide +kernel)) ggL_law_X3_ignored
set_option maxRecDepth 20000 in
theorem ggL_law_X4_ignored : GoodIn wsL_law wsX4_ignored := goodIn_r _ [468, 120, 293, 709, 710, 711, 712, 713, 714, 715, 716, 717, 718, 719, 720, 721, 722, 723, 724, 725, 726, 727, 728, 729, 730, 731, 732, 733, 734, 735, 736, 737, 738] (by decide +kernel) (by decide +kernel)
set_option maxRecDepth 20000 in
theorem gL_law_X4_ignored : GoodIn wsL_law (wsV RL 154 RX4 yX4_ignored wsX4_ignored) := goodIn_app (goodIn_of _ (by decide +kernel)) ggL_law_X4_ignored
set_option maxRecDepth 20000 in
theorem ggL_law_X3_compile : GoodIn wsL_law wsX3_compile := goodIn_r _ [472, 25, 115, 473, 474, 475, 476, 24, 477, 68, 67, 478, 479, 480, 481, 71, 76, 482, 483, 484, 485, 486, 284, 61, 285, 487, 488, 489, 490, 72, 491, 492, 493, 494, 495, 496, 497, 498, 499, 500, 501, 502, 503, 504, 505, 506, 507, 312, 313, 16, 314, 31, 34, 35, 508, 509, 510, 511, 37, 38, 39, 40, 41, 42, 43, 512, 513, 514, 515, 73, 516, 517, 518, 519, 520, 75, 69, 70, 521, 522, 523, 524, 525, 526, 527, 528, 529, 530, 531, 532, 533, 534, 535, 74, 536, 334, 331, 335, 537, 538, 539, 540, 541, 542, 543, 544, 706, 707, 708, 762, 763, 764, 765, 766, 767, 768, 769, 770, 771, 739, 740, 741, 742, 743, 744, 745, 746, 747, 748, 749, 750, 751] (by decide +kernel) (by decide +kernel)
set_option maxRecDepth 20000 in
theorem gL_law_X3_compile : GoodIn wsL_law (wsV RL 155 RX3 yX3_compile wsX3_compile) := goodIn_app (goodIn_of _ (by decide +kernel)) ggL_law_X3_compile
set_option maxRecDepth 20000 in
theorem ggL_law_X4_compile : GoodIn wsL_law wsX4_compile := goodIn_r _ [548, 120, 121, 549, 550, 551, 552, 5, 553, 32, 81, 97, 101, 102, 99, 554, 100, 555, 556, 557, 558, 163, 83, 88, 559, 560, 561, 562, 563, 564, 565, 566, 567, 568, 569, 570, 84, 571, 572, 573, 574, 85, 86, 87, 89, 90, 575, 576, 577, 578, 579, 526, 527, 528, 529, 530, 531, 580, 581, 582, 583, 98, 353, 334, 331, 335, 584, 585, 586, 587, 709, 710, 711, 712, 713, 714, 715, 716, 717, 718, 719, 720, 721, 722, 723, 724, 725, 726, 727, 728, 729, 730, 731, 732, 733, 734, 735, 736, 737, 738] (by decide +kernel) (by decide +kernel)
set_option maxRecDepth 20000 in
theorem gL_law_X4_compile : GoodIn wsL_law (wsV RL 158 RX4 yX4_compile wsX4_compile) := goodIn_app (goodIn_of _ (by decide +kernel)) ggL_law_X4_compile
set_option maxRecDepth 20000 in
theorem ggL_law_X3_isCompiled : GoodIn wsL_law wsX3_isCompiled := goodIn_r _ [591, 25, 115, 706, 707, 708, 762, 763, 764, 765, 766, 767, 768, 769, 770, 771] (by decide +kernel) (by decide +kernel)
set_option maxRecDepth 20000 in
theorem gL_law_X3_isCompiled : GoodIn wsL_law (wsV RL 159 RX3 yX3_isCompiled wsX3_isCompiled) := goodIn_app (goodIn_of _ (by decide +kernel)) ggL_law_X3_isCompiled
set_option maxRecDepth 20000 in
theorem ggL_law_X4_isCompiled : GoodIn wsL_law wsX4_isCompiled := goodIn_r _ [595, 120, 121, 709, 710, 711, 712, 713, 714, 715, 716, 717, 718, 719, 720, 721, 722, 723, 724, 725, 726, 727, 728, 729, 730, 731, 732, 733, 734, 735, 736, 737, 738] (by decide +kernel) (by decide +kernel)
set_option maxRecDepth 20000 in
theorem gL_law_X4_isCompiled : GoodIn wsL_law (wsV RL 163 RX4 yX4_isCompiled wsX4_isCompiled) := goodIn_app (goodIn_of _ (by decide +kernel)) ggL_law_X4_isCompiled
set_option maxRecDepth 20000 in
theorem ggL_law_L_classOf : GoodIn wsL_law wsL_classOf := goodIn_ca (goodIn_ca (goodIn_r _ [598, 107, 133, 599, 600, 601, 2, 602, 139, 140, 17, 114, 25, 603, 604, 605, 606, 607, 112, 113, 115, 145, 146, 147, 706, 707, 708, 739, 740, 741, 742, 743, 744, 745, 746, 747, 748, 749, 750, 751, 762, 763, 764, 765, 766, 767, 768, 769, 770, 771] (by decide +kernel) (by decide +kernel)) (goodIn_sub (fun _ h => List.mem_append_left _ (List.mem_append_right _ h)) (by decide +kernel))) (goodIn_sub (fun _ h => List.mem_append_left _ (List.mem_append_left _ (List.mem_append_right _ h))) (by decide +kernel))
set_option maxRecDepth 20000 in
theorem gL_law_L_classOf : GoodIn wsL_law (va_wsS RL 164 yL_classOf wsL_classOf) := goodIn_app (goodIn_of _ (by decide +kernel)) ggL_law_L_classOf
set_option maxRecDepth 20000 in
theorem ggL_law_X4_classOf : GoodIn wsL_law wsX4_classOf := goodIn_r _ [611, 81, 97, 612, 613, 614, 5, 615, 121, 120, 709, 710, 711, 712, 713, 714, 715, 716, 717, 718, 719, 720, 721, 722, 723, 724, 725, 726, 727, 728, 729, 730, 731, 732, 733, 734, 735, 736, 737, 738] (by decide +kernel) (by decide +kernel)
set_option maxRecDepth 20000 in
theorem gL_law_X4_classOf : GoodIn wsL_law (wsV RL 166 RX4 yX4_classOf wsX4_classOf) := goodIn_app (goodIn_of _ (by decide +kernel)) ggL_law_X4_classOf
set_option maxRecDepth 20000 in
theorem ggL_law_L_offset : GoodIn wsL_law wsL_offset := goodIn_ca (goodIn_ca (goodIn_r _ [618, 107, 133, 619, 620, 621, 2, 622, 25, 623, 624, 625, 626, 627, 139, 140, 473, 604, 605, 606, 607, 112, 113, 115, 145, 146, 147, 706, 707, 708, 762, 763, 764, 765, 766, 767, 768, 769, 770, 771] (by decide +kernel) (by decide +kernel)) (goodIn_sub (fun _ h => List.mem_append_left _ (List.mem_append_right _ h)) (by decide +kernel))) (goodIn_sub (fun _ h => List.mem_append_left _ (List.mem_append_left _ (List.mem_append_right _ h))) (by decide +kernel))
set_option maxRecDepth 20000 in
theorem gL_law_L_offset : GoodIn wsL_law (va_wsS RL 167 yL_offset wsL_offset) := goodIn_app (goodIn_of _ (by decide +kernel)) ggL_law_L_offset
set_option maxRecDepth 20000 in
theorem ggL_law_X4_offset : GoodIn wsL_law wsX4_offset := goodIn_r _ [631, 549, 98, 612, 613, 614, 5, 615, 121, 120, 709, 710, 711, 712, 713, 714, 715, 716, 717, 718, 719, 720, 721, 722, 723, 724, 725, 726, 727, 728, 729, 730, 731, 732, 733, 734, 735, 736, 737, 738] (by decide +kernel) (by decide +kernel)
set_option maxRecDepth 20000 in
theorem gL_law_X4_offset : GoodIn wsL_law (wsV RL 169 RX4 yX4_offset wsX4_offset) := goodIn_app (goodIn_of _ (by decide +kernel)) ggL_law_X4_offset
set_option maxRecDepth 20000 in
theorem ggL_law_L_used : GoodIn wsL_law wsL_used := goodIn_ca (goodIn_ca (goodIn_r _ [634, 107, 133, 635, 636, 637, 2, 638, 25, 624, 625, 626, 627, 139, 140, 473, 604, 605, 606, 607, 112, 113, 115, 145, 146, 147, 639, 522, 523, 24, 524, 73, 525, 526, 527, 528, 529, 530, 531, 706, 707, 708, 762, 763, 764, 765, 766, 767, 768, 769, 770, 771] (by decide +kernel) (by decide +kernel)) (goodIn_sub (fun _ h => List.mem_append_left _ (List.mem_append_right _ h)) (by decide +kernel))) (goodIn_sub (fun _ h => List.mem_append_left _ (List.mem_append_left _ (List.mem_append_right _ h))) (by decide +kernel))
set_option maxRecDepth 20000 in
theorem gL_law_L_used : GoodIn wsL_law (va_wsS RL 170 yL_used wsL_used) := goodIn_app (goodIn_of _ (by decide +kernel)) ggL_law_L_used
set_option maxRecDepth 20000 in
theorem ggL_law_X4_used : GoodIn wsL_law wsX4_used := goodIn_r _ [643, 549, 99, 612, 613, 614, 5, 615, 121, 120, 709, 710, 711, 712, 713, 714, 715, 716, 717, 718, 719, 720, 721, 722, 723, 724, 725, 726, 727, 728, 729, 730, 731, 732, 733, 734, 735, 736, 737, 738] (by decide +kernel) (by decide +kernel)
set_option maxRecDepth 20000 in
theorem gL_law_X4_used : GoodIn wsL_law (wsV RL 172 RX4 yX4_used wsX4_used) := goodIn_app (goodIn_of _ (by decide +kernel)) ggL_law_X4_used
set_option maxRecDepth 20000 in
theorem ggL_law_L_tableSize : GoodIn wsL_law wsL_tableSize := goodIn_ca (goodIn_r _ [646, 107, 647, 648, 649, 2, 650, 25, 651, 604, 605, 606, 607, 112, 113, 115, 706, 707, 708, 762, 763, 764, 765, 766, 767, 768, 769, 770, 771] (by decide +kernel) (by decide +kernel)) (goodIn_sub (fun _ h => List.mem_append_left _ (List.mem_append_left _ (List.mem_append_right _ h))) (by decide +kernel))
set_option maxRecDepth 20000 in
theorem gL_law_L_tableSize : GoodIn wsL_law (va_wsS RL 173 yL_tableSize wsL_tableSize) := goodIn_app (goodIn_of _ (by decide +kernel)) ggL_law_L_tableSize
set_option maxRecDepth 20000 in
theorem ggL_law_X4_tableSize : GoodIn wsL_law wsX4_tableSize := goodIn_r _ [655, 121, 120, 554, 709, 710, 711, 712, 713, 714, 715, 716, 717, 718, 719, 720, 721, 722, 723, 724, 725, 726, 727, 728, 729, 730, 731, 732, 733, 734, 735, 736, 737, 738] (by decide +kernel) (by decide +kernel)
set_option maxRecDepth 20000 in
theorem gL_law_X4_tableSize : GoodIn wsL_law (wsV RL 175 RX4 yX4_tableSize wsX4_tableSize) := goodIn_app (goodIn_of _ (by decide +kernel)) ggL_law_X4_tableSize
set_option maxRecDepth 20000 in
theorem ggL_law_L_owner : GoodIn wsL_law wsL_owner := goodIn_ca (goodIn_ca (goodIn_r _ [658, 107, 133, 659, 660, 661, 2, 662, 139, 140, 25, 651, 663, 604, 605, 606, 607, 112, 113, 115, 145, 146, 147, 706, 707, 708, 762, 763, 764, 765, 766, 767, 768, 769, 770, 771] (by decide +kernel) (by decide +kernel)) (goodIn_sub (fun _ h => List.mem_append_left _ (List.mem_append_right _ h)) (by decide +kernel))) (goodIn_sub (fun _ h => List.mem_append_left _ (List.mem_append_left _ (List.mem_append_right _ h))) (by decide +kernel))
set_option maxRecDepth 20000 in
theorem gL_law_L_owner : GoodIn wsL_law (va_wsS RL 176 yL_owner wsL_owner) := goodIn_app (goodIn_of _ (by decide +kernel)) ggL_law_L_owner
set_option maxRecDepth 20000 in
theorem ggL_law_X4_owner : GoodIn wsL_law wsX4_owner := goodIn_r _ [667, 554, 100, 612, 613, 614, 5, 615, 121, 120, 709, 710, 711, 712, 713, 714, 715, 716, 717, 718, 719, 720, 721, 722, 723, 724, 725, 726, 727, 728, 729, 730, 731, 732, 733, 734, 735, 736, 737, 738] (by decide +kernel) (by decide +kernel)
set_option maxRecDepth 20000 in
theorem gL_law_X4_owner : GoodIn wsL_law (wsV RL 178 RX4 yX4_owner wsX4_owner) := goodIn_app (goodIn_of _ (by decide +kernel)) ggL_law_X4_owner
set_option maxRecDepth 20000 in
theorem ggL_law_L_density : GoodIn wsL_law wsL_density := goodIn_ca (goodIn_r _ [670, 107, 671, 672, 673, 2, 674, 25, 651, 675, 604, 605, 606, 607, 112, 113, 115, 706, 707, 708, 762, 763, 764, 765, 766, 767, 768, 769, 770, 771] (by decide +kernel) (by decide +kernel)) (goodIn_sub (fun _ h => List.mem_append_left _ (List.mem_append_left _ (List.mem_append_right _ h))) (by decide +kernel))
set_option maxRecDepth 20000 in
theorem gL_law_L_density : GoodIn wsL_law (va_wsS RL 179 yL_density wsL_density) := goodIn_app (goodIn_of _ (by decide +kernel)) ggL_law_L_density
set_option maxRecDepth 20000 in
theorem ggL_law_X4_density : GoodIn wsL_law wsX4_density := goodIn_r _ [679, 121, 120, 554, 100, 709, 710, 711, 712, 713, 714, 715, 716, 717, 718, 719, 720, 721, 722, 723, 724, 725, 726, 727, 728, 729, 730, 731, 732, 733, 734, 735, 736, 737, 738] (by decide +kernel) (by decide +kernel)
set_option maxRecDepth 20000 in
theorem gL_law_X4_density : GoodIn wsL_law (wsV RL 182 RX4 yX4_density wsX4_density) := goodIn_app (goodIn_of _ (by decide +kernel)) ggL_law_X4_density
set_option maxRecDepth 20000 in
theorem ggL_law_X3_digest : GoodIn wsL_law wsX3_digest := goodIn_r _ [683, 684, 17, 114, 143, 685, 686, 687, 184, 21, 144, 25, 115, 688, 689, 2, 690, 691, 692, 693, 694, 695, 383, 278, 403, 431, 464, 415, 416, 417, 20, 418, 54, 58, 49, 696, 697, 698, 699, 473, 623, 706, 707, 708, 739, 740, 741, 742, 743, 744, 745, 746, 747, 748, 749, 750, 751, 752, 753, 754, 755, 756, 757, 758, 759, 760, 761, 762, 763, 764, 765, 766, 767, 768, 769, 770, 771] (by decide +kernel) (by decide +kernel)
set_option maxRecDepth 20000 in
theorem gL_law_X3_digest : GoodIn wsL_law (wsV RL 183 RX3 yX3_digest wsX3_digest) := goodIn_app (goodIn_of _ (by decide +kernel)) ggL_law_X3_digest
set_option maxRecDepth 20000 in
theorem ggL_law_X4_digest : GoodIn wsL_law wsX4_digest := goodIn_r _ [703, 120, 704, 81, 705, 163, 83, 84, 88, 89, 91, 291, 290, 92, 292, 293, 121, 549, 98, 423, 424, 425, 5, 426, 94, 95, 709, 710, 711, 712, 713, 714, 715, 716, 717, 718, 719, 720, 721, 722, 723, 724, 725, 726, 727, 728, 729, 730, 731, 732, 733, 734, 735, 736, 737, 738] (by decide +kernel) (by decide +kernel)
set_option maxRecDepth 20000 in
theorem gL_law_X4_digest : GoodIn wsL_law (wsV RL 186 RX4 yX4_digest wsX4_digest) := goodIn_app (goodIn_of _ (by decide +kernel)) ggL_law_X4_digest
