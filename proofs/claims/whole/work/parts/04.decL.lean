set_option maxRecDepth 100000 in
theorem dL_law_all0 : ([(0, (.new 7 : Instr), 3), (3, (.dup : Instr), 1), (4, (.invokespecial 9 : Instr), 3), (7, (.astore_n 1 : Instr), 1), (8, (.new 10 : Instr), 3), (11, (.dup : Instr), 1), (12, (.invokespecial 12 : Instr), 3), (15, (.astore_n 2 : Instr), 1), (16, (.iconst 0 : Instr), 1), (17, (.istore_n 3 : Instr), 1), (18, (.iload_n 3 : Instr), 1), (19, (.aload_n 0 : Instr), 1), (20, (.arraylength : Instr), 1), (21, (.bipush 6 : Instr), 2), (23, (.isub : Instr), 1), (24, (.if_icmp .gt 1238 : Instr), 3), (27, (.aload_n 0 : Instr), 1), (28, (.iload_n 3 : Instr), 1), (29, (.iaload : Instr), 1), (30, (.bipush 63 : Instr), 2), (32, (.iand : Instr), 1), (33, (.tableswitch 1223 0 35 #[159, 182, 205, 248, 291, 334, 377, 410, 443, 476, 509, 532, 575, 598, 621, 644, 667, 700, 733, 756, 779, 802, 865, 898, 911, 970, 1013, 1026, 1049, 1062, 1085, 1098, 1121, 1174, 1187, 1210] : Instr), 159), (192, (.aload_n 1 : Instr), 1), (193, (.aload_n 0 : Instr), 1), (194, (.iload_n 3 : Instr), 1), (195, (.iconst 1 : Instr), 1), (196, (.iadd : Instr), 1), (197, (.iaload : Instr), 1), (198, (.invokevirtual 13 : Instr), 3), (201, (.aload_n 2 : Instr), 1), (202, (.aload_n 0 : Instr), 1), (203, (.iload_n 3 : Instr), 1), (204, (.iconst 1 : Instr), 1), (205, (.iadd : Instr), 1), (206, (.iaload : Instr), 1), (207, (.invokevirtual 17 : Instr), 3), (210, (.if_icmp .eq 1046 : Instr), 3), (213, (.iconst 0 : Instr), 1), (214, (.ireturn : Instr), 1), (215, (.aload_n 1 : Instr), 1), (216, (.aload_n 0 : Instr), 1), (217, (.iload_n 3 : Instr), 1), (218, (.iconst 1 : Instr), 1), (219, (.iadd : Instr), 1), (220, (.iaload : Instr), 1), (221, (.invokevirtual 18 : Instr), 3), (224, (.aload_n 2 : Instr), 1), (225, (.aload_n 0 : Instr), 1)] : List (Nat × Instr × Nat)).all (fun q => decide (decode cL_law q.1 = .ok (q.2.1, q.2.2))) = true := by decide +kernel
theorem dL_law_0 : decode cL_law 0 = .ok (.new 7, 3) := all_d dL_law_all0 0 rfl
theorem dL_law_3 : decode cL_law 3 = .ok (.dup, 1) := all_d dL_law_all0 1 rfl
theorem dL_law_4 : decode cL_law 4 = .ok (.invokespecial 9, 3) := all_d dL_law_all0 2 rfl
theorem dL_law_7 : decode cL_law 7 = .ok (.astore_n 1, 1) := all_d dL_law_all0 3 rfl
theorem dL_law_8 : decode cL_law 8 = .ok (.new 10, 3) := all_d dL_law_all0 4 rfl
theorem dL_law_11 : decode cL_law 11 = .ok (.dup, 1) := all_d dL_law_all0 5 rfl
theorem dL_law_12 : decode cL_law 12 = .ok (.invokespecial 12, 3) := all_d dL_law_all0 6 rfl
theorem dL_law_15 : decode cL_law 15 = .ok (.astore_n 2, 1) := all_d dL_law_all0 7 rfl
theorem dL_law_16 : decode cL_law 16 = .ok (.iconst 0, 1) := all_d dL_law_all0 8 rfl
theorem dL_law_17 : decode cL_law 17 = .ok (.istore_n 3, 1) := all_d dL_law_all0 9 rfl
theorem dL_law_18 : decode cL_law 18 = .ok (.iload_n 3, 1) := all_d dL_law_all0 10 rfl
theorem dL_law_19 : decode cL_law 19 = .ok (.aload_n 0, 1) := all_d dL_law_all0 11 rfl
theorem dL_law_20 : decode cL_law 20 = .ok (.arraylength, 1) := all_d dL_law_all0 12 rfl
theorem dL_law_21 : decode cL_law 21 = .ok (.bipush 6, 2) := all_d dL_law_all0 13 rfl
theorem dL_law_23 : decode cL_law 23 = .ok (.isub, 1) := all_d dL_law_all0 14 rfl
theorem dL_law_24 : decode cL_law 24 = .ok (.if_icmp .gt 1238, 3) := all_d dL_law_all0 15 rfl
theorem dL_law_27 : decode cL_law 27 = .ok (.aload_n 0, 1) := all_d dL_law_all0 16 rfl
theorem dL_law_28 : decode cL_law 28 = .ok (.iload_n 3, 1) := all_d dL_law_all0 17 rfl
theorem dL_law_29 : decode cL_law 29 = .ok (.iaload, 1) := all_d dL_law_all0 18 rfl
theorem dL_law_30 : decode cL_law 30 = .ok (.bipush 63, 2) := all_d dL_law_all0 19 rfl
theorem dL_law_32 : decode cL_law 32 = .ok (.iand, 1) := all_d dL_law_all0 20 rfl
theorem dL_law_33 : decode cL_law 33 = .ok (.tableswitch 1223 0 35 #[159, 182, 205, 248, 291, 334, 377, 410, 443, 476, 509, 532, 575, 598, 621, 644, 667, 700, 733, 756, 779, 802, 865, 898, 911, 970, 1013, 1026, 1049, 1062, 1085, 1098, 1121, 1174, 1187, 1210], 159) := all_d dL_law_all0 21 rfl
theorem dL_law_192 : decode cL_law 192 = .ok (.aload_n 1, 1) := all_d dL_law_all0 22 rfl
theorem dL_law_193 : decode cL_law 193 = .ok (.aload_n 0, 1) := all_d dL_law_all0 23 rfl
theorem dL_law_194 : decode cL_law 194 = .ok (.iload_n 3, 1) := all_d dL_law_all0 24 rfl
theorem dL_law_195 : decode cL_law 195 = .ok (.iconst 1, 1) := all_d dL_law_all0 25 rfl
theorem dL_law_196 : decode cL_law 196 = .ok (.iadd, 1) := all_d dL_law_all0 26 rfl
theorem dL_law_197 : decode cL_law 197 = .ok (.iaload, 1) := all_d dL_law_all0 27 rfl
theorem dL_law_198 : decode cL_law 198 = .ok (.invokevirtual 13, 3) := all_d dL_law_all0 28 rfl
theorem dL_law_201 : decode cL_law 201 = .ok (.aload_n 2, 1) := all_d dL_law_all0 29 rfl
theorem dL_law_202 : decode cL_law 202 = .ok (.aload_n 0, 1) := all_d dL_law_all0 30 rfl
theorem dL_law_203 : decode cL_law 203 = .ok (.iload_n 3, 1) := all_d dL_law_all0 31 rfl
theorem dL_law_204 : decode cL_law 204 = .ok (.iconst 1, 1) := all_d dL_law_all0 32 rfl
theorem dL_law_205 : decode cL_law 205 = .ok (.iadd, 1) := all_d dL_law_all0 33 rfl
theorem dL_law_206 : decode cL_law 206 = .ok (.iaload, 1) := all_d dL_law_all0 34 rfl
theorem dL_law_207 : decode cL_law 207 = .ok (.invokevirtual 17, 3) := all_d dL_law_all0 35 rfl
theorem dL_law_210 : decode cL_law 210 = .ok (.if_icmp .eq 1046, 3) := all_d dL_law_all0 36 rfl
theorem dL_law_213 : decode cL_law 213 = .ok (.iconst 0, 1) := all_d dL_law_all0 37 rfl
theorem dL_law_214 : decode cL_law 214 = .ok (.ireturn, 1) := all_d dL_law_all0 38 rfl
theorem dL_law_215 : decode cL_law 215 = .ok (.aload_n 1, 1) := all_d dL_law_all0 39 rfl
theorem dL_law_216 : decode cL_law 216 = .ok (.aload_n 0, 1) := all_d dL_law_all0 40 rfl
theorem dL_law_217 : decode cL_law 217 = .ok (.iload_n 3, 1) := all_d dL_law_all0 41 rfl
theorem dL_law_218 : decode cL_law 218 = .ok (.iconst 1, 1) := all_d dL_law_all0 42 rfl
theorem dL_law_219 : decode cL_law 219 = .ok (.iadd, 1) := all_d dL_law_all0 43 rfl
theorem dL_law_220 : decode cL_law 220 = .ok (.iaload, 1) := all_d dL_law_all0 44 rfl
theorem dL_law_221 : decode cL_law 221 = .ok (.invokevirtual 18, 3) := all_d dL_law_all0 45 rfl
theorem dL_law_224 : decode cL_law 224 = .ok (.aload_n 2, 1) := all_d dL_law_all0 46 rfl
theorem dL_law_225 : decode cL_law 225 = .ok (.aload_n 0, 1) := all_d dL_law_all0 47 rfl
set_option maxRecDepth 100000 in
theorem dL_law_all1 : ([(226, (.iload_n 3 : Instr), 1), (227, (.iconst 1 : Instr), 1), (228, (.iadd : Instr), 1), (229, (.iaload : Instr), 1), (230, (.invokevirtual 22 : Instr), 3), (233, (.if_icmp .eq 1023 : Instr), 3), (236, (.iconst 0 : Instr), 1), (237, (.ireturn : Instr), 1), (238, (.aload_n 1 : Instr), 1), (239, (.aload_n 0 : Instr), 1), (240, (.iload_n 3 : Instr), 1), (241, (.iconst 1 : Instr), 1), (242, (.iadd : Instr), 1), (243, (.iaload : Instr), 1), (244, (.aload_n 0 : Instr), 1), (245, (.iload_n 3 : Instr), 1), (246, (.iconst 2 : Instr), 1), (247, (.iadd : Instr), 1), (248, (.iaload : Instr), 1), (249, (.aload_n 0 : Instr), 1), (250, (.iload_n 3 : Instr), 1), (251, (.iconst 3 : Instr), 1), (252, (.iadd : Instr), 1), (253, (.iaload : Instr), 1), (254, (.invokevirtual 23 : Instr), 3), (257, (.aload_n 2 : Instr), 1), (258, (.aload_n 0 : Instr), 1), (259, (.iload_n 3 : Instr), 1), (260, (.iconst 1 : Instr), 1), (261, (.iadd : Instr), 1), (262, (.iaload : Instr), 1), (263, (.aload_n 0 : Instr), 1), (264, (.iload_n 3 : Instr), 1), (265, (.iconst 2 : Instr), 1), (266, (.iadd : Instr), 1), (267, (.iaload : Instr), 1), (268, (.aload_n 0 : Instr), 1), (269, (.iload_n 3 : Instr), 1), (270, (.iconst 3 : Instr), 1), (271, (.iadd : Instr), 1), (272, (.iaload : Instr), 1), (273, (.invokevirtual 27 : Instr), 3), (276, (.if_icmp .eq 980 : Instr), 3), (279, (.iconst 0 : Instr), 1), (280, (.ireturn : Instr), 1), (281, (.aload_n 1 : Instr), 1), (282, (.aload_n 0 : Instr), 1), (283, (.iload_n 3 : Instr), 1)] : List (Nat × Instr × Nat)).all (fun q => decide (decode cL_law q.1 = .ok (q.2.1, q.2.2))) = true := by decide +kernel
theorem dL_law_226 : decode cL_law 226 = .ok (.iload_n 3, 1) := all_d dL_law_all1 0 rfl
theorem dL_law_227 : decode cL_law 227 = .ok (.iconst 1, 1) := all_d dL_law_all1 1 rfl
theorem dL_law_228 : decode cL_law 228 = .ok (.iadd, 1) := all_d dL_law_all1 2 rfl
theorem dL_law_229 : decode cL_law 229 = .ok (.iaload, 1) := all_d dL_law_all1 3 rfl
theorem dL_law_230 : decode cL_law 230 = .ok (.invokevirtual 22, 3) := all_d dL_law_all1 4 rfl
theorem dL_law_233 : decode cL_law 233 = .ok (.if_icmp .eq 1023, 3) := all_d dL_law_all1 5 rfl
theorem dL_law_236 : decode cL_law 236 = .ok (.iconst 0, 1) := all_d dL_law_all1 6 rfl
theorem dL_law_237 : decode cL_law 237 = .ok (.ireturn, 1) := all_d dL_law_all1 7 rfl
theorem dL_law_238 : decode cL_law 238 = .ok (.aload_n 1, 1) := all_d dL_law_all1 8 rfl
theorem dL_law_239 : decode cL_law 239 = .ok (.aload_n 0, 1) := all_d dL_law_all1 9 rfl
theorem dL_law_240 : decode cL_law 240 = .ok (.iload_n 3, 1) := all_d dL_law_all1 10 rfl
theorem dL_law_241 : decode cL_law 241 = .ok (.iconst 1, 1) := all_d dL_law_all1 11 rfl
theorem dL_law_242 : decode cL_law 242 = .ok (.iadd, 1) := all_d dL_law_all1 12 rfl
theorem dL_law_243 : decode cL_law 243 = .ok (.iaload, 1) := all_d dL_law_all1 13 rfl
theorem dL_law_244 : decode cL_law 244 = .ok (.aload_n 0, 1) := all_d dL_law_all1 14 rfl
theorem dL_law_245 : decode cL_law 245 = .ok (.iload_n 3, 1) := all_d dL_law_all1 15 rfl
theorem dL_law_246 : decode cL_law 246 = .ok (.iconst 2, 1) := all_d dL_law_all1 16 rfl
theorem dL_law_247 : decode cL_law 247 = .ok (.iadd, 1) := all_d dL_law_all1 17 rfl
theorem dL_law_248 : decode cL_law 248 = .ok (.iaload, 1) := all_d dL_law_all1 18 rfl
theorem dL_law_249 : decode cL_law 249 = .ok (.aload_n 0, 1) := all_d dL_law_all1 19 rfl
theorem dL_law_250 : decode cL_law 250 = .ok (.iload_n 3, 1) := all_d dL_law_all1 20 rfl
theorem dL_law_251 : decode cL_law 251 = .ok (.iconst 3, 1) := all_d dL_law_all1 21 rfl
theorem dL_law_252 : decode cL_law 252 = .ok (.iadd, 1) := all_d dL_law_all1 22 rfl
theorem dL_law_253 : decode cL_law 253 = .ok (.iaload, 1) := all_d dL_law_all1 23 rfl
theorem dL_law_254 : decode cL_law 254 = .ok (.invokevirtual 23, 3) := all_d dL_law_all1 24 rfl
theorem dL_law_257 : decode cL_law 257 = .ok (.aload_n 2, 1) := all_d dL_law_all1 25 rfl
theorem dL_law_258 : decode cL_law 258 = .ok (.aload_n 0, 1) := all_d dL_law_all1 26 rfl
theorem dL_law_259 : decode cL_law 259 = .ok (.iload_n 3, 1) := all_d dL_law_all1 27 rfl
theorem dL_law_260 : decode cL_law 260 = .ok (.iconst 1, 1) := all_d dL_law_all1 28 rfl
theorem dL_law_261 : decode cL_law 261 = .ok (.iadd, 1) := all_d dL_law_all1 29 rfl
theorem dL_law_262 : decode cL_law 262 = .ok (.iaload, 1) := all_d dL_law_all1 30 rfl
theorem dL_law_263 : decode cL_law 263 = .ok (.aload_n 0, 1) := all_d dL_law_all1 31 rfl
theorem dL_law_264 : decode cL_law 264 = .ok (.iload_n 3, 1) := all_d dL_law_all1 32 rfl
theorem dL_law_265 : decode cL_law 265 = .ok (.iconst 2, 1) := all_d dL_law_all1 33 rfl
theorem dL_law_266 : decode cL_law 266 = .ok (.iadd, 1) := all_d dL_law_all1 34 rfl
theorem dL_law_267 : decode cL_law 267 = .ok (.iaload, 1) := all_d dL_law_all1 35 rfl
theorem dL_law_268 : decode cL_law 268 = .ok (.aload_n 0, 1) := all_d dL_law_all1 36 rfl
theorem dL_law_269 : decode cL_law 269 = .ok (.iload_n 3, 1) := all_d dL_law_all1 37 rfl
theorem dL_law_270 : decode cL_law 270 = .ok (.iconst 3, 1) := all_d dL_law_all1 38 rfl
theorem dL_law_271 : decode cL_law 271 = .ok (.iadd, 1) := all_d dL_law_all1 39 rfl
theorem dL_law_272 : decode cL_law 272 = .ok (.iaload, 1) := all_d dL_law_all1 40 rfl
theorem dL_law_273 : decode cL_law 273 = .ok (.invokevirtual 27, 3) := all_d dL_law_all1 41 rfl
theorem dL_law_276 : decode cL_law 276 = .ok (.if_icmp .eq 980, 3) := all_d dL_law_all1 42 rfl
theorem dL_law_279 : decode cL_law 279 = .ok (.iconst 0, 1) := all_d dL_law_all1 43 rfl
theorem dL_law_280 : decode cL_law 280 = .ok (.ireturn, 1) := all_d dL_law_all1 44 rfl
theorem dL_law_281 : decode cL_law 281 = .ok (.aload_n 1, 1) := all_d dL_law_all1 45 rfl
theorem dL_law_282 : decode cL_law 282 = .ok (.aload_n 0, 1) := all_d dL_law_all1 46 rfl
theorem dL_law_283 : decode cL_law 283 = .ok (.iload_n 3, 1) := all_d dL_law_all1 47 rfl
set_option maxRecDepth 100000 in
theorem dL_law_all2 : ([(284, (.iconst 1 : Instr), 1), (285, (.iadd : Instr), 1), (286, (.iaload : Instr), 1), (287, (.aload_n 0 : Instr), 1), (288, (.iload_n 3 : Instr), 1), (289, (.iconst 2 : Instr), 1), (290, (.iadd : Instr), 1), (291, (.iaload : Instr), 1), (292, (.aload_n 0 : Instr), 1), (293, (.iload_n 3 : Instr), 1), (294, (.iconst 3 : Instr), 1), (295, (.iadd : Instr), 1), (296, (.iaload : Instr), 1), (297, (.invokevirtual 28 : Instr), 3), (300, (.aload_n 2 : Instr), 1), (301, (.aload_n 0 : Instr), 1), (302, (.iload_n 3 : Instr), 1), (303, (.iconst 1 : Instr), 1), (304, (.iadd : Instr), 1), (305, (.iaload : Instr), 1), (306, (.aload_n 0 : Instr), 1), (307, (.iload_n 3 : Instr), 1), (308, (.iconst 2 : Instr), 1), (309, (.iadd : Instr), 1), (310, (.iaload : Instr), 1), (311, (.aload_n 0 : Instr), 1), (312, (.iload_n 3 : Instr), 1), (313, (.iconst 3 : Instr), 1), (314, (.iadd : Instr), 1), (315, (.iaload : Instr), 1), (316, (.invokevirtual 32 : Instr), 3), (319, (.if_icmp .eq 937 : Instr), 3), (322, (.iconst 0 : Instr), 1), (323, (.ireturn : Instr), 1), (324, (.aload_n 1 : Instr), 1), (325, (.aload_n 0 : Instr), 1), (326, (.iload_n 3 : Instr), 1), (327, (.iconst 1 : Instr), 1), (328, (.iadd : Instr), 1), (329, (.iaload : Instr), 1), (330, (.aload_n 0 : Instr), 1), (331, (.iload_n 3 : Instr), 1), (332, (.iconst 2 : Instr), 1), (333, (.iadd : Instr), 1), (334, (.iaload : Instr), 1), (335, (.aload_n 0 : Instr), 1), (336, (.iload_n 3 : Instr), 1), (337, (.iconst 3 : Instr), 1)] : List (Nat × Instr × Nat)).all (fun q => decide (decode cL_law q.1 = .ok (q.2.1, q.2.2))) = true := by decide +kernel
theorem dL_law_284 : decode cL_law 284 = .ok (.iconst 1, 1) := all_d dL_law_all2 0 rfl
theorem dL_law_285 : decode cL_law 285 = .ok (.iadd, 1) := all_d dL_law_all2 1 rfl
theorem dL_law_286 : decode cL_law 286 = .ok (.iaload, 1) := all_d dL_law_all2 2 rfl
theorem dL_law_287 : decode cL_law 287 = .ok (.aload_n 0, 1) := all_d dL_law_all2 3 rfl
theorem dL_law_288 : decode cL_law 288 = .ok (.iload_n 3, 1) := all_d dL_law_all2 4 rfl
theorem dL_law_289 : decode cL_law 289 = .ok (.iconst 2, 1) := all_d dL_law_all2 5 rfl
theorem dL_law_290 : decode cL_law 290 = .ok (.iadd, 1) := all_d dL_law_all2 6 rfl
theorem dL_law_291 : decode cL_law 291 = .ok (.iaload, 1) := all_d dL_law_all2 7 rfl
theorem dL_law_292 : decode cL_law 292 = .ok (.aload_n 0, 1) := all_d dL_law_all2 8 rfl
theorem dL_law_293 : decode cL_law 293 = .ok (.iload_n 3, 1) := all_d dL_law_all2 9 rfl
theorem dL_law_294 : decode cL_law 294 = .ok (.iconst 3, 1) := all_d dL_law_all2 10 rfl
theorem dL_law_295 : decode cL_law 295 = .ok (.iadd, 1) := all_d dL_law_all2 11 rfl
theorem dL_law_296 : decode cL_law 296 = .ok (.iaload, 1) := all_d dL_law_all2 12 rfl
theorem dL_law_297 : decode cL_law 297 = .ok (.invokevirtual 28, 3) := all_d dL_law_all2 13 rfl
theorem dL_law_300 : decode cL_law 300 = .ok (.aload_n 2, 1) := all_d dL_law_all2 14 rfl
theorem dL_law_301 : decode cL_law 301 = .ok (.aload_n 0, 1) := all_d dL_law_all2 15 rfl
theorem dL_law_302 : decode cL_law 302 = .ok (.iload_n 3, 1) := all_d dL_law_all2 16 rfl
theorem dL_law_303 : decode cL_law 303 = .ok (.iconst 1, 1) := all_d dL_law_all2 17 rfl
theorem dL_law_304 : decode cL_law 304 = .ok (.iadd, 1) := all_d dL_law_all2 18 rfl
theorem dL_law_305 : decode cL_law 305 = .ok (.iaload, 1) := all_d dL_law_all2 19 rfl
theorem dL_law_306 : decode cL_law 306 = .ok (.aload_n 0, 1) := all_d dL_law_all2 20 rfl
theorem dL_law_307 : decode cL_law 307 = .ok (.iload_n 3, 1) := all_d dL_law_all2 21 rfl
theorem dL_law_308 : decode cL_law 308 = .ok (.iconst 2, 1) := all_d dL_law_all2 22 rfl
theorem dL_law_309 : decode cL_law 309 = .ok (.iadd, 1) := all_d dL_law_all2 23 rfl
theorem dL_law_310 : decode cL_law 310 = .ok (.iaload, 1) := all_d dL_law_all2 24 rfl
theorem dL_law_311 : decode cL_law 311 = .ok (.aload_n 0, 1) := all_d dL_law_all2 25 rfl
theorem dL_law_312 : decode cL_law 312 = .ok (.iload_n 3, 1) := all_d dL_law_all2 26 rfl
theorem dL_law_313 : decode cL_law 313 = .ok (.iconst 3, 1) := all_d dL_law_all2 27 rfl
theorem dL_law_314 : decode cL_law 314 = .ok (.iadd, 1) := all_d dL_law_all2 28 rfl
theorem dL_law_315 : decode cL_law 315 = .ok (.iaload, 1) := all_d dL_law_all2 29 rfl
theorem dL_law_316 : decode cL_law 316 = .ok (.invokevirtual 32, 3) := all_d dL_law_all2 30 rfl
theorem dL_law_319 : decode cL_law 319 = .ok (.if_icmp .eq 937, 3) := all_d dL_law_all2 31 rfl
theorem dL_law_322 : decode cL_law 322 = .ok (.iconst 0, 1) := all_d dL_law_all2 32 rfl
theorem dL_law_323 : decode cL_law 323 = .ok (.ireturn, 1) := all_d dL_law_all2 33 rfl
theorem dL_law_324 : decode cL_law 324 = .ok (.aload_n 1, 1) := all_d dL_law_all2 34 rfl
theorem dL_law_325 : decode cL_law 325 = .ok (.aload_n 0, 1) := all_d dL_law_all2 35 rfl
theorem dL_law_326 : decode cL_law 326 = .ok (.iload_n 3, 1) := all_d dL_law_all2 36 rfl
theorem dL_law_327 : decode cL_law 327 = .ok (.iconst 1, 1) := all_d dL_law_all2 37 rfl
theorem dL_law_328 : decode cL_law 328 = .ok (.iadd, 1) := all_d dL_law_all2 38 rfl
theorem dL_law_329 : decode cL_law 329 = .ok (.iaload, 1) := all_d dL_law_all2 39 rfl
theorem dL_law_330 : decode cL_law 330 = .ok (.aload_n 0, 1) := all_d dL_law_all2 40 rfl
theorem dL_law_331 : decode cL_law 331 = .ok (.iload_n 3, 1) := all_d dL_law_all2 41 rfl
theorem dL_law_332 : decode cL_law 332 = .ok (.iconst 2, 1) := all_d dL_law_all2 42 rfl
theorem dL_law_333 : decode cL_law 333 = .ok (.iadd, 1) := all_d dL_law_all2 43 rfl
theorem dL_law_334 : decode cL_law 334 = .ok (.iaload, 1) := all_d dL_law_all2 44 rfl
theorem dL_law_335 : decode cL_law 335 = .ok (.aload_n 0, 1) := all_d dL_law_all2 45 rfl
theorem dL_law_336 : decode cL_law 336 = .ok (.iload_n 3, 1) := all_d dL_law_all2 46 rfl
theorem dL_law_337 : decode cL_law 337 = .ok (.iconst 3, 1) := all_d dL_law_all2 47 rfl
set_option maxRecDepth 100000 in
theorem dL_law_all3 : ([(338, (.iadd : Instr), 1), (339, (.iaload : Instr), 1), (340, (.invokevirtual 33 : Instr), 3), (343, (.aload_n 2 : Instr), 1), (344, (.aload_n 0 : Instr), 1), (345, (.iload_n 3 : Instr), 1), (346, (.iconst 1 : Instr), 1), (347, (.iadd : Instr), 1), (348, (.iaload : Instr), 1), (349, (.aload_n 0 : Instr), 1), (350, (.iload_n 3 : Instr), 1), (351, (.iconst 2 : Instr), 1), (352, (.iadd : Instr), 1), (353, (.iaload : Instr), 1), (354, (.aload_n 0 : Instr), 1), (355, (.iload_n 3 : Instr), 1), (356, (.iconst 3 : Instr), 1), (357, (.iadd : Instr), 1), (358, (.iaload : Instr), 1), (359, (.invokevirtual 36 : Instr), 3), (362, (.if_icmp .eq 894 : Instr), 3), (365, (.iconst 0 : Instr), 1), (366, (.ireturn : Instr), 1), (367, (.aload_n 1 : Instr), 1), (368, (.aload_n 0 : Instr), 1), (369, (.iload_n 3 : Instr), 1), (370, (.iconst 1 : Instr), 1), (371, (.iadd : Instr), 1), (372, (.iaload : Instr), 1), (373, (.aload_n 0 : Instr), 1), (374, (.iload_n 3 : Instr), 1), (375, (.iconst 2 : Instr), 1), (376, (.iadd : Instr), 1), (377, (.iaload : Instr), 1), (378, (.aload_n 0 : Instr), 1), (379, (.iload_n 3 : Instr), 1), (380, (.iconst 3 : Instr), 1), (381, (.iadd : Instr), 1), (382, (.iaload : Instr), 1), (383, (.invokevirtual 37 : Instr), 3), (386, (.aload_n 2 : Instr), 1), (387, (.aload_n 0 : Instr), 1), (388, (.iload_n 3 : Instr), 1), (389, (.iconst 1 : Instr), 1), (390, (.iadd : Instr), 1), (391, (.iaload : Instr), 1), (392, (.aload_n 0 : Instr), 1), (393, (.iload_n 3 : Instr), 1)] : List (Nat × Instr × Nat)).all (fun q => decide (decode cL_law q.1 = .ok (q.2.1, q.2.2))) = true := by decide +kernel
theorem dL_law_338 : decode cL_law 338 = .ok (.iadd, 1) := all_d dL_law_all3 0 rfl
theorem dL_law_339 : decode cL_law 339 = .ok (.iaload, 1) := all_d dL_law_all3 1 rfl
theorem dL_law_340 : decode cL_law 340 = .ok (.invokevirtual 33, 3) := all_d dL_law_all3 2 rfl
theorem dL_law_343 : decode cL_law 343 = .ok (.aload_n 2, 1) := all_d dL_law_all3 3 rfl
theorem dL_law_344 : decode cL_law 344 = .ok (.aload_n 0, 1) := all_d dL_law_all3 4 rfl
theorem dL_law_345 : decode cL_law 345 = .ok (.iload_n 3, 1) := all_d dL_law_all3 5 rfl
theorem dL_law_346 : decode cL_law 346 = .ok (.iconst 1, 1) := all_d dL_law_all3 6 rfl
theorem dL_law_347 : decode cL_law 347 = .ok (.iadd, 1) := all_d dL_law_all3 7 rfl
theorem dL_law_348 : decode cL_law 348 = .ok (.iaload, 1) := all_d dL_law_all3 8 rfl
theorem dL_law_349 : decode cL_law 349 = .ok (.aload_n 0, 1) := all_d dL_law_all3 9 rfl
theorem dL_law_350 : decode cL_law 350 = .ok (.iload_n 3, 1) := all_d dL_law_all3 10 rfl
theorem dL_law_351 : decode cL_law 351 = .ok (.iconst 2, 1) := all_d dL_law_all3 11 rfl
theorem dL_law_352 : decode cL_law 352 = .ok (.iadd, 1) := all_d dL_law_all3 12 rfl
theorem dL_law_353 : decode cL_law 353 = .ok (.iaload, 1) := all_d dL_law_all3 13 rfl
theorem dL_law_354 : decode cL_law 354 = .ok (.aload_n 0, 1) := all_d dL_law_all3 14 rfl
theorem dL_law_355 : decode cL_law 355 = .ok (.iload_n 3, 1) := all_d dL_law_all3 15 rfl
theorem dL_law_356 : decode cL_law 356 = .ok (.iconst 3, 1) := all_d dL_law_all3 16 rfl
theorem dL_law_357 : decode cL_law 357 = .ok (.iadd, 1) := all_d dL_law_all3 17 rfl
theorem dL_law_358 : decode cL_law 358 = .ok (.iaload, 1) := all_d dL_law_all3 18 rfl
theorem dL_law_359 : decode cL_law 359 = .ok (.invokevirtual 36, 3) := all_d dL_law_all3 19 rfl
theorem dL_law_362 : decode cL_law 362 = .ok (.if_icmp .eq 894, 3) := all_d dL_law_all3 20 rfl
theorem dL_law_365 : decode cL_law 365 = .ok (.iconst 0, 1) := all_d dL_law_all3 21 rfl
theorem dL_law_366 : decode cL_law 366 = .ok (.ireturn, 1) := all_d dL_law_all3 22 rfl
theorem dL_law_367 : decode cL_law 367 = .ok (.aload_n 1, 1) := all_d dL_law_all3 23 rfl
theorem dL_law_368 : decode cL_law 368 = .ok (.aload_n 0, 1) := all_d dL_law_all3 24 rfl
theorem dL_law_369 : decode cL_law 369 = .ok (.iload_n 3, 1) := all_d dL_law_all3 25 rfl
theorem dL_law_370 : decode cL_law 370 = .ok (.iconst 1, 1) := all_d dL_law_all3 26 rfl
theorem dL_law_371 : decode cL_law 371 = .ok (.iadd, 1) := all_d dL_law_all3 27 rfl
theorem dL_law_372 : decode cL_law 372 = .ok (.iaload, 1) := all_d dL_law_all3 28 rfl
theorem dL_law_373 : decode cL_law 373 = .ok (.aload_n 0, 1) := all_d dL_law_all3 29 rfl
theorem dL_law_374 : decode cL_law 374 = .ok (.iload_n 3, 1) := all_d dL_law_all3 30 rfl
theorem dL_law_375 : decode cL_law 375 = .ok (.iconst 2, 1) := all_d dL_law_all3 31 rfl
theorem dL_law_376 : decode cL_law 376 = .ok (.iadd, 1) := all_d dL_law_all3 32 rfl
theorem dL_law_377 : decode cL_law 377 = .ok (.iaload, 1) := all_d dL_law_all3 33 rfl
theorem dL_law_378 : decode cL_law 378 = .ok (.aload_n 0, 1) := all_d dL_law_all3 34 rfl
theorem dL_law_379 : decode cL_law 379 = .ok (.iload_n 3, 1) := all_d dL_law_all3 35 rfl
theorem dL_law_380 : decode cL_law 380 = .ok (.iconst 3, 1) := all_d dL_law_all3 36 rfl
theorem dL_law_381 : decode cL_law 381 = .ok (.iadd, 1) := all_d dL_law_all3 37 rfl
theorem dL_law_382 : decode cL_law 382 = .ok (.iaload, 1) := all_d dL_law_all3 38 rfl
theorem dL_law_383 : decode cL_law 383 = .ok (.invokevirtual 37, 3) := all_d dL_law_all3 39 rfl
theorem dL_law_386 : decode cL_law 386 = .ok (.aload_n 2, 1) := all_d dL_law_all3 40 rfl
theorem dL_law_387 : decode cL_law 387 = .ok (.aload_n 0, 1) := all_d dL_law_all3 41 rfl
theorem dL_law_388 : decode cL_law 388 = .ok (.iload_n 3, 1) := all_d dL_law_all3 42 rfl
theorem dL_law_389 : decode cL_law 389 = .ok (.iconst 1, 1) := all_d dL_law_all3 43 rfl
theorem dL_law_390 : decode cL_law 390 = .ok (.iadd, 1) := all_d dL_law_all3 44 rfl
theorem dL_law_391 : decode cL_law 391 = .ok (.iaload, 1) := all_d dL_law_all3 45 rfl
theorem dL_law_392 : decode cL_law 392 = .ok (.aload_n 0, 1) := all_d dL_law_all3 46 rfl
theorem dL_law_393 : decode cL_law 393 = .ok (.iload_n 3, 1) := all_d dL_law_all3 47 rfl
set_option maxRecDepth 100000 in
theorem dL_law_all4 : ([(394, (.iconst 2 : Instr), 1), (395, (.iadd : Instr), 1), (396, (.iaload : Instr), 1), (397, (.aload_n 0 : Instr), 1), (398, (.iload_n 3 : Instr), 1), (399, (.iconst 3 : Instr), 1), (400, (.iadd : Instr), 1), (401, (.iaload : Instr), 1), (402, (.invokevirtual 40 : Instr), 3), (405, (.if_icmp .eq 851 : Instr), 3), (408, (.iconst 0 : Instr), 1), (409, (.ireturn : Instr), 1), (410, (.aload_n 1 : Instr), 1), (411, (.aload_n 0 : Instr), 1), (412, (.iload_n 3 : Instr), 1), (413, (.iconst 1 : Instr), 1), (414, (.iadd : Instr), 1), (415, (.iaload : Instr), 1), (416, (.aload_n 0 : Instr), 1), (417, (.iload_n 3 : Instr), 1), (418, (.iconst 2 : Instr), 1), (419, (.iadd : Instr), 1), (420, (.iaload : Instr), 1), (421, (.invokevirtual 41 : Instr), 3), (424, (.aload_n 2 : Instr), 1), (425, (.aload_n 0 : Instr), 1), (426, (.iload_n 3 : Instr), 1), (427, (.iconst 1 : Instr), 1), (428, (.iadd : Instr), 1), (429, (.iaload : Instr), 1), (430, (.aload_n 0 : Instr), 1), (431, (.iload_n 3 : Instr), 1), (432, (.iconst 2 : Instr), 1), (433, (.iadd : Instr), 1), (434, (.iaload : Instr), 1), (435, (.invokevirtual 45 : Instr), 3), (438, (.if_icmp .eq 818 : Instr), 3), (441, (.iconst 0 : Instr), 1), (442, (.ireturn : Instr), 1), (443, (.aload_n 1 : Instr), 1), (444, (.aload_n 0 : Instr), 1), (445, (.iload_n 3 : Instr), 1), (446, (.iconst 1 : Instr), 1), (447, (.iadd : Instr), 1), (448, (.iaload : Instr), 1), (449, (.aload_n 0 : Instr), 1), (450, (.iload_n 3 : Instr), 1), (451, (.iconst 2 : Instr), 1)] : List (Nat × Instr × Nat)).all (fun q => decide (decode cL_law q.1 = .ok (q.2.1, q.2.2))) = true := by decide +kernel
theorem dL_law_394 : decode cL_law 394 = .ok (.iconst 2, 1) := all_d dL_law_all4 0 rfl
theorem dL_law_395 : decode cL_law 395 = .ok (.iadd, 1) := all_d dL_law_all4 1 rfl
theorem dL_law_396 : decode cL_law 396 = .ok (.iaload, 1) := all_d dL_law_all4 2 rfl
theorem dL_law_397 : decode cL_law 397 = .ok (.aload_n 0, 1) := all_d dL_law_all4 3 rfl
theorem dL_law_398 : decode cL_law 398 = .ok (.iload_n 3, 1) := all_d dL_law_all4 4 rfl
theorem dL_law_399 : decode cL_law 399 = .ok (.iconst 3, 1) := all_d dL_law_all4 5 rfl
theorem dL_law_400 : decode cL_law 400 = .ok (.iadd, 1) := all_d dL_law_all4 6 rfl
theorem dL_law_401 : decode cL_law 401 = .ok (.iaload, 1) := all_d dL_law_all4 7 rfl
theorem dL_law_402 : decode cL_law 402 = .ok (.invokevirtual 40, 3) := all_d dL_law_all4 8 rfl
theorem dL_law_405 : decode cL_law 405 = .ok (.if_icmp .eq 851, 3) := all_d dL_law_all4 9 rfl
theorem dL_law_408 : decode cL_law 408 = .ok (.iconst 0, 1) := all_d dL_law_all4 10 rfl
theorem dL_law_409 : decode cL_law 409 = .ok (.ireturn, 1) := all_d dL_law_all4 11 rfl
theorem dL_law_410 : decode cL_law 410 = .ok (.aload_n 1, 1) := all_d dL_law_all4 12 rfl
theorem dL_law_411 : decode cL_law 411 = .ok (.aload_n 0, 1) := all_d dL_law_all4 13 rfl
theorem dL_law_412 : decode cL_law 412 = .ok (.iload_n 3, 1) := all_d dL_law_all4 14 rfl
theorem dL_law_413 : decode cL_law 413 = .ok (.iconst 1, 1) := all_d dL_law_all4 15 rfl
theorem dL_law_414 : decode cL_law 414 = .ok (.iadd, 1) := all_d dL_law_all4 16 rfl
theorem dL_law_415 : decode cL_law 415 = .ok (.iaload, 1) := all_d dL_law_all4 17 rfl
theorem dL_law_416 : decode cL_law 416 = .ok (.aload_n 0, 1) := all_d dL_law_all4 18 rfl
theorem dL_law_417 : decode cL_law 417 = .ok (.iload_n 3, 1) := all_d dL_law_all4 19 rfl
theorem dL_law_418 : decode cL_law 418 = .ok (.iconst 2, 1) := all_d dL_law_all4 20 rfl
theorem dL_law_419 : decode cL_law 419 = .ok (.iadd, 1) := all_d dL_law_all4 21 rfl
theorem dL_law_420 : decode cL_law 420 = .ok (.iaload, 1) := all_d dL_law_all4 22 rfl
theorem dL_law_421 : decode cL_law 421 = .ok (.invokevirtual 41, 3) := all_d dL_law_all4 23 rfl
theorem dL_law_424 : decode cL_law 424 = .ok (.aload_n 2, 1) := all_d dL_law_all4 24 rfl
theorem dL_law_425 : decode cL_law 425 = .ok (.aload_n 0, 1) := all_d dL_law_all4 25 rfl
theorem dL_law_426 : decode cL_law 426 = .ok (.iload_n 3, 1) := all_d dL_law_all4 26 rfl
theorem dL_law_427 : decode cL_law 427 = .ok (.iconst 1, 1) := all_d dL_law_all4 27 rfl
theorem dL_law_428 : decode cL_law 428 = .ok (.iadd, 1) := all_d dL_law_all4 28 rfl
theorem dL_law_429 : decode cL_law 429 = .ok (.iaload, 1) := all_d dL_law_all4 29 rfl
theorem dL_law_430 : decode cL_law 430 = .ok (.aload_n 0, 1) := all_d dL_law_all4 30 rfl
theorem dL_law_431 : decode cL_law 431 = .ok (.iload_n 3, 1) := all_d dL_law_all4 31 rfl
theorem dL_law_432 : decode cL_law 432 = .ok (.iconst 2, 1) := all_d dL_law_all4 32 rfl
theorem dL_law_433 : decode cL_law 433 = .ok (.iadd, 1) := all_d dL_law_all4 33 rfl
theorem dL_law_434 : decode cL_law 434 = .ok (.iaload, 1) := all_d dL_law_all4 34 rfl
theorem dL_law_435 : decode cL_law 435 = .ok (.invokevirtual 45, 3) := all_d dL_law_all4 35 rfl
theorem dL_law_438 : decode cL_law 438 = .ok (.if_icmp .eq 818, 3) := all_d dL_law_all4 36 rfl
theorem dL_law_441 : decode cL_law 441 = .ok (.iconst 0, 1) := all_d dL_law_all4 37 rfl
theorem dL_law_442 : decode cL_law 442 = .ok (.ireturn, 1) := all_d dL_law_all4 38 rfl
theorem dL_law_443 : decode cL_law 443 = .ok (.aload_n 1, 1) := all_d dL_law_all4 39 rfl
theorem dL_law_444 : decode cL_law 444 = .ok (.aload_n 0, 1) := all_d dL_law_all4 40 rfl
theorem dL_law_445 : decode cL_law 445 = .ok (.iload_n 3, 1) := all_d dL_law_all4 41 rfl
theorem dL_law_446 : decode cL_law 446 = .ok (.iconst 1, 1) := all_d dL_law_all4 42 rfl
theorem dL_law_447 : decode cL_law 447 = .ok (.iadd, 1) := all_d dL_law_all4 43 rfl
theorem dL_law_448 : decode cL_law 448 = .ok (.iaload, 1) := all_d dL_law_all4 44 rfl
theorem dL_law_449 : decode cL_law 449 = .ok (.aload_n 0, 1) := all_d dL_law_all4 45 rfl
theorem dL_law_450 : decode cL_law 450 = .ok (.iload_n 3, 1) := all_d dL_law_all4 46 rfl
theorem dL_law_451 : decode cL_law 451 = .ok (.iconst 2, 1) := all_d dL_law_all4 47 rfl
set_option maxRecDepth 100000 in
theorem dL_law_all5 : ([(452, (.iadd : Instr), 1), (453, (.iaload : Instr), 1), (454, (.invokevirtual 46 : Instr), 3), (457, (.aload_n 2 : Instr), 1), (458, (.aload_n 0 : Instr), 1), (459, (.iload_n 3 : Instr), 1), (460, (.iconst 1 : Instr), 1), (461, (.iadd : Instr), 1), (462, (.iaload : Instr), 1), (463, (.aload_n 0 : Instr), 1), (464, (.iload_n 3 : Instr), 1), (465, (.iconst 2 : Instr), 1), (466, (.iadd : Instr), 1), (467, (.iaload : Instr), 1), (468, (.invokevirtual 49 : Instr), 3), (471, (.if_icmp .eq 785 : Instr), 3), (474, (.iconst 0 : Instr), 1), (475, (.ireturn : Instr), 1), (476, (.aload_n 1 : Instr), 1), (477, (.aload_n 0 : Instr), 1), (478, (.iload_n 3 : Instr), 1), (479, (.iconst 1 : Instr), 1), (480, (.iadd : Instr), 1), (481, (.iaload : Instr), 1), (482, (.aload_n 0 : Instr), 1), (483, (.iload_n 3 : Instr), 1), (484, (.iconst 2 : Instr), 1), (485, (.iadd : Instr), 1), (486, (.iaload : Instr), 1), (487, (.invokevirtual 50 : Instr), 3), (490, (.aload_n 2 : Instr), 1), (491, (.aload_n 0 : Instr), 1), (492, (.iload_n 3 : Instr), 1), (493, (.iconst 1 : Instr), 1), (494, (.iadd : Instr), 1), (495, (.iaload : Instr), 1), (496, (.aload_n 0 : Instr), 1), (497, (.iload_n 3 : Instr), 1), (498, (.iconst 2 : Instr), 1), (499, (.iadd : Instr), 1), (500, (.iaload : Instr), 1), (501, (.invokevirtual 53 : Instr), 3), (504, (.if_icmp .eq 752 : Instr), 3), (507, (.iconst 0 : Instr), 1), (508, (.ireturn : Instr), 1), (509, (.aload_n 1 : Instr), 1), (510, (.aload_n 0 : Instr), 1), (511, (.iload_n 3 : Instr), 1)] : List (Nat × Instr × Nat)).all (fun q => decide (decode cL_law q.1 = .ok (q.2.1, q.2.2))) = true := by decide +kernel
theorem dL_law_452 : decode cL_law 452 = .ok (.iadd, 1) := all_d dL_law_all5 0 rfl
theorem dL_law_453 : decode cL_law 453 = .ok (.iaload, 1) := all_d dL_law_all5 1 rfl
theorem dL_law_454 : decode cL_law 454 = .ok (.invokevirtual 46, 3) := all_d dL_law_all5 2 rfl
theorem dL_law_457 : decode cL_law 457 = .ok (.aload_n 2, 1) := all_d dL_law_all5 3 rfl
theorem dL_law_458 : decode cL_law 458 = .ok (.aload_n 0, 1) := all_d dL_law_all5 4 rfl
theorem dL_law_459 : decode cL_law 459 = .ok (.iload_n 3, 1) := all_d dL_law_all5 5 rfl
theorem dL_law_460 : decode cL_law 460 = .ok (.iconst 1, 1) := all_d dL_law_all5 6 rfl
theorem dL_law_461 : decode cL_law 461 = .ok (.iadd, 1) := all_d dL_law_all5 7 rfl
theorem dL_law_462 : decode cL_law 462 = .ok (.iaload, 1) := all_d dL_law_all5 8 rfl
theorem dL_law_463 : decode cL_law 463 = .ok (.aload_n 0, 1) := all_d dL_law_all5 9 rfl
theorem dL_law_464 : decode cL_law 464 = .ok (.iload_n 3, 1) := all_d dL_law_all5 10 rfl
theorem dL_law_465 : decode cL_law 465 = .ok (.iconst 2, 1) := all_d dL_law_all5 11 rfl
theorem dL_law_466 : decode cL_law 466 = .ok (.iadd, 1) := all_d dL_law_all5 12 rfl
theorem dL_law_467 : decode cL_law 467 = .ok (.iaload, 1) := all_d dL_law_all5 13 rfl
theorem dL_law_468 : decode cL_law 468 = .ok (.invokevirtual 49, 3) := all_d dL_law_all5 14 rfl
theorem dL_law_471 : decode cL_law 471 = .ok (.if_icmp .eq 785, 3) := all_d dL_law_all5 15 rfl
theorem dL_law_474 : decode cL_law 474 = .ok (.iconst 0, 1) := all_d dL_law_all5 16 rfl
theorem dL_law_475 : decode cL_law 475 = .ok (.ireturn, 1) := all_d dL_law_all5 17 rfl
theorem dL_law_476 : decode cL_law 476 = .ok (.aload_n 1, 1) := all_d dL_law_all5 18 rfl
theorem dL_law_477 : decode cL_law 477 = .ok (.aload_n 0, 1) := all_d dL_law_all5 19 rfl
theorem dL_law_478 : decode cL_law 478 = .ok (.iload_n 3, 1) := all_d dL_law_all5 20 rfl
theorem dL_law_479 : decode cL_law 479 = .ok (.iconst 1, 1) := all_d dL_law_all5 21 rfl
theorem dL_law_480 : decode cL_law 480 = .ok (.iadd, 1) := all_d dL_law_all5 22 rfl
theorem dL_law_481 : decode cL_law 481 = .ok (.iaload, 1) := all_d dL_law_all5 23 rfl
theorem dL_law_482 : decode cL_law 482 = .ok (.aload_n 0, 1) := all_d dL_law_all5 24 rfl
theorem dL_law_483 : decode cL_law 483 = .ok (.iload_n 3, 1) := all_d dL_law_all5 25 rfl
theorem dL_law_484 : decode cL_law 484 = .ok (.iconst 2, 1) := all_d dL_law_all5 26 rfl
theorem dL_law_485 : decode cL_law 485 = .ok (.iadd, 1) := all_d dL_law_all5 27 rfl
theorem dL_law_486 : decode cL_law 486 = .ok (.iaload, 1) := all_d dL_law_all5 28 rfl
theorem dL_law_487 : decode cL_law 487 = .ok (.invokevirtual 50, 3) := all_d dL_law_all5 29 rfl
theorem dL_law_490 : decode cL_law 490 = .ok (.aload_n 2, 1) := all_d dL_law_all5 30 rfl
theorem dL_law_491 : decode cL_law 491 = .ok (.aload_n 0, 1) := all_d dL_law_all5 31 rfl
theorem dL_law_492 : decode cL_law 492 = .ok (.iload_n 3, 1) := all_d dL_law_all5 32 rfl
theorem dL_law_493 : decode cL_law 493 = .ok (.iconst 1, 1) := all_d dL_law_all5 33 rfl
theorem dL_law_494 : decode cL_law 494 = .ok (.iadd, 1) := all_d dL_law_all5 34 rfl
theorem dL_law_495 : decode cL_law 495 = .ok (.iaload, 1) := all_d dL_law_all5 35 rfl
theorem dL_law_496 : decode cL_law 496 = .ok (.aload_n 0, 1) := all_d dL_law_all5 36 rfl
theorem dL_law_497 : decode cL_law 497 = .ok (.iload_n 3, 1) := all_d dL_law_all5 37 rfl
theorem dL_law_498 : decode cL_law 498 = .ok (.iconst 2, 1) := all_d dL_law_all5 38 rfl
theorem dL_law_499 : decode cL_law 499 = .ok (.iadd, 1) := all_d dL_law_all5 39 rfl
theorem dL_law_500 : decode cL_law 500 = .ok (.iaload, 1) := all_d dL_law_all5 40 rfl
theorem dL_law_501 : decode cL_law 501 = .ok (.invokevirtual 53, 3) := all_d dL_law_all5 41 rfl
theorem dL_law_504 : decode cL_law 504 = .ok (.if_icmp .eq 752, 3) := all_d dL_law_all5 42 rfl
theorem dL_law_507 : decode cL_law 507 = .ok (.iconst 0, 1) := all_d dL_law_all5 43 rfl
theorem dL_law_508 : decode cL_law 508 = .ok (.ireturn, 1) := all_d dL_law_all5 44 rfl
theorem dL_law_509 : decode cL_law 509 = .ok (.aload_n 1, 1) := all_d dL_law_all5 45 rfl
theorem dL_law_510 : decode cL_law 510 = .ok (.aload_n 0, 1) := all_d dL_law_all5 46 rfl
theorem dL_law_511 : decode cL_law 511 = .ok (.iload_n 3, 1) := all_d dL_law_all5 47 rfl
set_option maxRecDepth 100000 in
theorem dL_law_all6 : ([(512, (.iconst 1 : Instr), 1), (513, (.iadd : Instr), 1), (514, (.iaload : Instr), 1), (515, (.aload_n 0 : Instr), 1), (516, (.iload_n 3 : Instr), 1), (517, (.iconst 2 : Instr), 1), (518, (.iadd : Instr), 1), (519, (.iaload : Instr), 1), (520, (.invokevirtual 54 : Instr), 3), (523, (.aload_n 2 : Instr), 1), (524, (.aload_n 0 : Instr), 1), (525, (.iload_n 3 : Instr), 1), (526, (.iconst 1 : Instr), 1), (527, (.iadd : Instr), 1), (528, (.iaload : Instr), 1), (529, (.aload_n 0 : Instr), 1), (530, (.iload_n 3 : Instr), 1), (531, (.iconst 2 : Instr), 1), (532, (.iadd : Instr), 1), (533, (.iaload : Instr), 1), (534, (.invokevirtual 57 : Instr), 3), (537, (.if_icmp .eq 719 : Instr), 3), (540, (.iconst 0 : Instr), 1), (541, (.ireturn : Instr), 1), (542, (.aload_n 1 : Instr), 1), (543, (.aload_n 0 : Instr), 1), (544, (.iload_n 3 : Instr), 1), (545, (.iconst 1 : Instr), 1), (546, (.iadd : Instr), 1), (547, (.iaload : Instr), 1), (548, (.invokevirtual 58 : Instr), 3), (551, (.aload_n 2 : Instr), 1), (552, (.aload_n 0 : Instr), 1), (553, (.iload_n 3 : Instr), 1), (554, (.iconst 1 : Instr), 1), (555, (.iadd : Instr), 1), (556, (.iaload : Instr), 1), (557, (.invokevirtual 61 : Instr), 3), (560, (.if_icmp .eq 696 : Instr), 3), (563, (.iconst 0 : Instr), 1), (564, (.ireturn : Instr), 1), (565, (.aload_n 1 : Instr), 1), (566, (.aload_n 0 : Instr), 1), (567, (.iload_n 3 : Instr), 1), (568, (.iconst 1 : Instr), 1), (569, (.iadd : Instr), 1), (570, (.iaload : Instr), 1), (571, (.aload_n 0 : Instr), 1)] : List (Nat × Instr × Nat)).all (fun q => decide (decode cL_law q.1 = .ok (q.2.1, q.2.2))) = true := by decide +kernel
theorem dL_law_512 : decode cL_law 512 = .ok (.iconst 1, 1) := all_d dL_law_all6 0 rfl
theorem dL_law_513 : decode cL_law 513 = .ok (.iadd, 1) := all_d dL_law_all6 1 rfl
theorem dL_law_514 : decode cL_law 514 = .ok (.iaload, 1) := all_d dL_law_all6 2 rfl
theorem dL_law_515 : decode cL_law 515 = .ok (.aload_n 0, 1) := all_d dL_law_all6 3 rfl
theorem dL_law_516 : decode cL_law 516 = .ok (.iload_n 3, 1) := all_d dL_law_all6 4 rfl
theorem dL_law_517 : decode cL_law 517 = .ok (.iconst 2, 1) := all_d dL_law_all6 5 rfl
theorem dL_law_518 : decode cL_law 518 = .ok (.iadd, 1) := all_d dL_law_all6 6 rfl
theorem dL_law_519 : decode cL_law 519 = .ok (.iaload, 1) := all_d dL_law_all6 7 rfl
theorem dL_law_520 : decode cL_law 520 = .ok (.invokevirtual 54, 3) := all_d dL_law_all6 8 rfl
theorem dL_law_523 : decode cL_law 523 = .ok (.aload_n 2, 1) := all_d dL_law_all6 9 rfl
theorem dL_law_524 : decode cL_law 524 = .ok (.aload_n 0, 1) := all_d dL_law_all6 10 rfl
theorem dL_law_525 : decode cL_law 525 = .ok (.iload_n 3, 1) := all_d dL_law_all6 11 rfl
theorem dL_law_526 : decode cL_law 526 = .ok (.iconst 1, 1) := all_d dL_law_all6 12 rfl
theorem dL_law_527 : decode cL_law 527 = .ok (.iadd, 1) := all_d dL_law_all6 13 rfl
theorem dL_law_528 : decode cL_law 528 = .ok (.iaload, 1) := all_d dL_law_all6 14 rfl
theorem dL_law_529 : decode cL_law 529 = .ok (.aload_n 0, 1) := all_d dL_law_all6 15 rfl
theorem dL_law_530 : decode cL_law 530 = .ok (.iload_n 3, 1) := all_d dL_law_all6 16 rfl
theorem dL_law_531 : decode cL_law 531 = .ok (.iconst 2, 1) := all_d dL_law_all6 17 rfl
theorem dL_law_532 : decode cL_law 532 = .ok (.iadd, 1) := all_d dL_law_all6 18 rfl
theorem dL_law_533 : decode cL_law 533 = .ok (.iaload, 1) := all_d dL_law_all6 19 rfl
theorem dL_law_534 : decode cL_law 534 = .ok (.invokevirtual 57, 3) := all_d dL_law_all6 20 rfl
theorem dL_law_537 : decode cL_law 537 = .ok (.if_icmp .eq 719, 3) := all_d dL_law_all6 21 rfl
theorem dL_law_540 : decode cL_law 540 = .ok (.iconst 0, 1) := all_d dL_law_all6 22 rfl
theorem dL_law_541 : decode cL_law 541 = .ok (.ireturn, 1) := all_d dL_law_all6 23 rfl
theorem dL_law_542 : decode cL_law 542 = .ok (.aload_n 1, 1) := all_d dL_law_all6 24 rfl
theorem dL_law_543 : decode cL_law 543 = .ok (.aload_n 0, 1) := all_d dL_law_all6 25 rfl
theorem dL_law_544 : decode cL_law 544 = .ok (.iload_n 3, 1) := all_d dL_law_all6 26 rfl
theorem dL_law_545 : decode cL_law 545 = .ok (.iconst 1, 1) := all_d dL_law_all6 27 rfl
theorem dL_law_546 : decode cL_law 546 = .ok (.iadd, 1) := all_d dL_law_all6 28 rfl
theorem dL_law_547 : decode cL_law 547 = .ok (.iaload, 1) := all_d dL_law_all6 29 rfl
theorem dL_law_548 : decode cL_law 548 = .ok (.invokevirtual 58, 3) := all_d dL_law_all6 30 rfl
theorem dL_law_551 : decode cL_law 551 = .ok (.aload_n 2, 1) := all_d dL_law_all6 31 rfl
theorem dL_law_552 : decode cL_law 552 = .ok (.aload_n 0, 1) := all_d dL_law_all6 32 rfl
theorem dL_law_553 : decode cL_law 553 = .ok (.iload_n 3, 1) := all_d dL_law_all6 33 rfl
theorem dL_law_554 : decode cL_law 554 = .ok (.iconst 1, 1) := all_d dL_law_all6 34 rfl
theorem dL_law_555 : decode cL_law 555 = .ok (.iadd, 1) := all_d dL_law_all6 35 rfl
theorem dL_law_556 : decode cL_law 556 = .ok (.iaload, 1) := all_d dL_law_all6 36 rfl
theorem dL_law_557 : decode cL_law 557 = .ok (.invokevirtual 61, 3) := all_d dL_law_all6 37 rfl
theorem dL_law_560 : decode cL_law 560 = .ok (.if_icmp .eq 696, 3) := all_d dL_law_all6 38 rfl
theorem dL_law_563 : decode cL_law 563 = .ok (.iconst 0, 1) := all_d dL_law_all6 39 rfl
theorem dL_law_564 : decode cL_law 564 = .ok (.ireturn, 1) := all_d dL_law_all6 40 rfl
theorem dL_law_565 : decode cL_law 565 = .ok (.aload_n 1, 1) := all_d dL_law_all6 41 rfl
theorem dL_law_566 : decode cL_law 566 = .ok (.aload_n 0, 1) := all_d dL_law_all6 42 rfl
theorem dL_law_567 : decode cL_law 567 = .ok (.iload_n 3, 1) := all_d dL_law_all6 43 rfl
theorem dL_law_568 : decode cL_law 568 = .ok (.iconst 1, 1) := all_d dL_law_all6 44 rfl
theorem dL_law_569 : decode cL_law 569 = .ok (.iadd, 1) := all_d dL_law_all6 45 rfl
theorem dL_law_570 : decode cL_law 570 = .ok (.iaload, 1) := all_d dL_law_all6 46 rfl
theorem dL_law_571 : decode cL_law 571 = .ok (.aload_n 0, 1) := all_d dL_law_all6 47 rfl
set_option maxRecDepth 100000 in
theorem dL_law_all7 : ([(572, (.iload_n 3 : Instr), 1), (573, (.iconst 2 : Instr), 1), (574, (.iadd : Instr), 1), (575, (.iaload : Instr), 1), (576, (.aload_n 0 : Instr), 1), (577, (.iload_n 3 : Instr), 1), (578, (.iconst 3 : Instr), 1), (579, (.iadd : Instr), 1), (580, (.iaload : Instr), 1), (581, (.invokevirtual 62 : Instr), 3), (584, (.aload_n 2 : Instr), 1), (585, (.aload_n 0 : Instr), 1), (586, (.iload_n 3 : Instr), 1), (587, (.iconst 1 : Instr), 1), (588, (.iadd : Instr), 1), (589, (.iaload : Instr), 1), (590, (.aload_n 0 : Instr), 1), (591, (.iload_n 3 : Instr), 1), (592, (.iconst 2 : Instr), 1), (593, (.iadd : Instr), 1), (594, (.iaload : Instr), 1), (595, (.aload_n 0 : Instr), 1), (596, (.iload_n 3 : Instr), 1), (597, (.iconst 3 : Instr), 1), (598, (.iadd : Instr), 1), (599, (.iaload : Instr), 1), (600, (.invokevirtual 65 : Instr), 3), (603, (.if_icmp .eq 653 : Instr), 3), (606, (.iconst 0 : Instr), 1), (607, (.ireturn : Instr), 1), (608, (.aload_n 1 : Instr), 1), (609, (.aload_n 0 : Instr), 1), (610, (.iload_n 3 : Instr), 1), (611, (.iconst 1 : Instr), 1), (612, (.iadd : Instr), 1), (613, (.iaload : Instr), 1), (614, (.invokevirtual 66 : Instr), 3), (617, (.aload_n 2 : Instr), 1), (618, (.aload_n 0 : Instr), 1), (619, (.iload_n 3 : Instr), 1), (620, (.iconst 1 : Instr), 1), (621, (.iadd : Instr), 1), (622, (.iaload : Instr), 1), (623, (.invokevirtual 69 : Instr), 3), (626, (.if_icmp .eq 630 : Instr), 3), (629, (.iconst 0 : Instr), 1), (630, (.ireturn : Instr), 1), (631, (.aload_n 1 : Instr), 1)] : List (Nat × Instr × Nat)).all (fun q => decide (decode cL_law q.1 = .ok (q.2.1, q.2.2))) = true := by decide +kernel
theorem dL_law_572 : decode cL_law 572 = .ok (.iload_n 3, 1) := all_d dL_law_all7 0 rfl
theorem dL_law_573 : decode cL_law 573 = .ok (.iconst 2, 1) := all_d dL_law_all7 1 rfl
theorem dL_law_574 : decode cL_law 574 = .ok (.iadd, 1) := all_d dL_law_all7 2 rfl
theorem dL_law_575 : decode cL_law 575 = .ok (.iaload, 1) := all_d dL_law_all7 3 rfl
theorem dL_law_576 : decode cL_law 576 = .ok (.aload_n 0, 1) := all_d dL_law_all7 4 rfl
theorem dL_law_577 : decode cL_law 577 = .ok (.iload_n 3, 1) := all_d dL_law_all7 5 rfl
theorem dL_law_578 : decode cL_law 578 = .ok (.iconst 3, 1) := all_d dL_law_all7 6 rfl
theorem dL_law_579 : decode cL_law 579 = .ok (.iadd, 1) := all_d dL_law_all7 7 rfl
theorem dL_law_580 : decode cL_law 580 = .ok (.iaload, 1) := all_d dL_law_all7 8 rfl
theorem dL_law_581 : decode cL_law 581 = .ok (.invokevirtual 62, 3) := all_d dL_law_all7 9 rfl
theorem dL_law_584 : decode cL_law 584 = .ok (.aload_n 2, 1) := all_d dL_law_all7 10 rfl
theorem dL_law_585 : decode cL_law 585 = .ok (.aload_n 0, 1) := all_d dL_law_all7 11 rfl
theorem dL_law_586 : decode cL_law 586 = .ok (.iload_n 3, 1) := all_d dL_law_all7 12 rfl
theorem dL_law_587 : decode cL_law 587 = .ok (.iconst 1, 1) := all_d dL_law_all7 13 rfl
theorem dL_law_588 : decode cL_law 588 = .ok (.iadd, 1) := all_d dL_law_all7 14 rfl
theorem dL_law_589 : decode cL_law 589 = .ok (.iaload, 1) := all_d dL_law_all7 15 rfl
theorem dL_law_590 : decode cL_law 590 = .ok (.aload_n 0, 1) := all_d dL_law_all7 16 rfl
theorem dL_law_591 : decode cL_law 591 = .ok (.iload_n 3, 1) := all_d dL_law_all7 17 rfl
theorem dL_law_592 : decode cL_law 592 = .ok (.iconst 2, 1) := all_d dL_law_all7 18 rfl
theorem dL_law_593 : decode cL_law 593 = .ok (.iadd, 1) := all_d dL_law_all7 19 rfl
theorem dL_law_594 : decode cL_law 594 = .ok (.iaload, 1) := all_d dL_law_all7 20 rfl
theorem dL_law_595 : decode cL_law 595 = .ok (.aload_n 0, 1) := all_d dL_law_all7 21 rfl
theorem dL_law_596 : decode cL_law 596 = .ok (.iload_n 3, 1) := all_d dL_law_all7 22 rfl
theorem dL_law_597 : decode cL_law 597 = .ok (.iconst 3, 1) := all_d dL_law_all7 23 rfl
theorem dL_law_598 : decode cL_law 598 = .ok (.iadd, 1) := all_d dL_law_all7 24 rfl
theorem dL_law_599 : decode cL_law 599 = .ok (.iaload, 1) := all_d dL_law_all7 25 rfl
theorem dL_law_600 : decode cL_law 600 = .ok (.invokevirtual 65, 3) := all_d dL_law_all7 26 rfl
theorem dL_law_603 : decode cL_law 603 = .ok (.if_icmp .eq 653, 3) := all_d dL_law_all7 27 rfl
theorem dL_law_606 : decode cL_law 606 = .ok (.iconst 0, 1) := all_d dL_law_all7 28 rfl
theorem dL_law_607 : decode cL_law 607 = .ok (.ireturn, 1) := all_d dL_law_all7 29 rfl
theorem dL_law_608 : decode cL_law 608 = .ok (.aload_n 1, 1) := all_d dL_law_all7 30 rfl
theorem dL_law_609 : decode cL_law 609 = .ok (.aload_n 0, 1) := all_d dL_law_all7 31 rfl
theorem dL_law_610 : decode cL_law 610 = .ok (.iload_n 3, 1) := all_d dL_law_all7 32 rfl
theorem dL_law_611 : decode cL_law 611 = .ok (.iconst 1, 1) := all_d dL_law_all7 33 rfl
theorem dL_law_612 : decode cL_law 612 = .ok (.iadd, 1) := all_d dL_law_all7 34 rfl
theorem dL_law_613 : decode cL_law 613 = .ok (.iaload, 1) := all_d dL_law_all7 35 rfl
theorem dL_law_614 : decode cL_law 614 = .ok (.invokevirtual 66, 3) := all_d dL_law_all7 36 rfl
theorem dL_law_617 : decode cL_law 617 = .ok (.aload_n 2, 1) := all_d dL_law_all7 37 rfl
theorem dL_law_618 : decode cL_law 618 = .ok (.aload_n 0, 1) := all_d dL_law_all7 38 rfl
theorem dL_law_619 : decode cL_law 619 = .ok (.iload_n 3, 1) := all_d dL_law_all7 39 rfl
theorem dL_law_620 : decode cL_law 620 = .ok (.iconst 1, 1) := all_d dL_law_all7 40 rfl
theorem dL_law_621 : decode cL_law 621 = .ok (.iadd, 1) := all_d dL_law_all7 41 rfl
theorem dL_law_622 : decode cL_law 622 = .ok (.iaload, 1) := all_d dL_law_all7 42 rfl
theorem dL_law_623 : decode cL_law 623 = .ok (.invokevirtual 69, 3) := all_d dL_law_all7 43 rfl
theorem dL_law_626 : decode cL_law 626 = .ok (.if_icmp .eq 630, 3) := all_d dL_law_all7 44 rfl
theorem dL_law_629 : decode cL_law 629 = .ok (.iconst 0, 1) := all_d dL_law_all7 45 rfl
theorem dL_law_630 : decode cL_law 630 = .ok (.ireturn, 1) := all_d dL_law_all7 46 rfl
theorem dL_law_631 : decode cL_law 631 = .ok (.aload_n 1, 1) := all_d dL_law_all7 47 rfl
set_option maxRecDepth 100000 in
theorem dL_law_all8 : ([(632, (.aload_n 0 : Instr), 1), (633, (.iload_n 3 : Instr), 1), (634, (.iconst 1 : Instr), 1), (635, (.iadd : Instr), 1), (636, (.iaload : Instr), 1), (637, (.invokevirtual 70 : Instr), 3), (640, (.aload_n 2 : Instr), 1), (641, (.aload_n 0 : Instr), 1), (642, (.iload_n 3 : Instr), 1), (643, (.iconst 1 : Instr), 1), (644, (.iadd : Instr), 1), (645, (.iaload : Instr), 1), (646, (.invokevirtual 73 : Instr), 3), (649, (.if_icmp .eq 607 : Instr), 3), (652, (.iconst 0 : Instr), 1), (653, (.ireturn : Instr), 1), (654, (.aload_n 1 : Instr), 1), (655, (.aload_n 0 : Instr), 1), (656, (.iload_n 3 : Instr), 1), (657, (.iconst 1 : Instr), 1), (658, (.iadd : Instr), 1), (659, (.iaload : Instr), 1), (660, (.invokevirtual 74 : Instr), 3), (663, (.aload_n 2 : Instr), 1), (664, (.aload_n 0 : Instr), 1), (665, (.iload_n 3 : Instr), 1), (666, (.iconst 1 : Instr), 1), (667, (.iadd : Instr), 1), (668, (.iaload : Instr), 1), (669, (.invokevirtual 77 : Instr), 3), (672, (.if_icmp .eq 584 : Instr), 3), (675, (.iconst 0 : Instr), 1), (676, (.ireturn : Instr), 1), (677, (.aload_n 1 : Instr), 1), (678, (.aload_n 0 : Instr), 1), (679, (.iload_n 3 : Instr), 1), (680, (.iconst 1 : Instr), 1), (681, (.iadd : Instr), 1), (682, (.iaload : Instr), 1), (683, (.invokevirtual 78 : Instr), 3), (686, (.aload_n 2 : Instr), 1), (687, (.aload_n 0 : Instr), 1), (688, (.iload_n 3 : Instr), 1), (689, (.iconst 1 : Instr), 1), (690, (.iadd : Instr), 1), (691, (.iaload : Instr), 1), (692, (.invokevirtual 81 : Instr), 3), (695, (.if_icmp .eq 561 : Instr), 3)] : List (Nat × Instr × Nat)).all (fun q => decide (decode cL_law q.1 = .ok (q.2.1, q.2.2))) = true := by decide +kernel
theorem dL_law_632 : decode cL_law 632 = .ok (.aload_n 0, 1) := all_d dL_law_all8 0 rfl
theorem dL_law_633 : decode cL_law 633 = .ok (.iload_n 3, 1) := all_d dL_law_all8 1 rfl
theorem dL_law_634 : decode cL_law 634 = .ok (.iconst 1, 1) := all_d dL_law_all8 2 rfl
theorem dL_law_635 : decode cL_law 635 = .ok (.iadd, 1) := all_d dL_law_all8 3 rfl
theorem dL_law_636 : decode cL_law 636 = .ok (.iaload, 1) := all_d dL_law_all8 4 rfl
theorem dL_law_637 : decode cL_law 637 = .ok (.invokevirtual 70, 3) := all_d dL_law_all8 5 rfl
theorem dL_law_640 : decode cL_law 640 = .ok (.aload_n 2, 1) := all_d dL_law_all8 6 rfl
theorem dL_law_641 : decode cL_law 641 = .ok (.aload_n 0, 1) := all_d dL_law_all8 7 rfl
theorem dL_law_642 : decode cL_law 642 = .ok (.iload_n 3, 1) := all_d dL_law_all8 8 rfl
theorem dL_law_643 : decode cL_law 643 = .ok (.iconst 1, 1) := all_d dL_law_all8 9 rfl
theorem dL_law_644 : decode cL_law 644 = .ok (.iadd, 1) := all_d dL_law_all8 10 rfl
theorem dL_law_645 : decode cL_law 645 = .ok (.iaload, 1) := all_d dL_law_all8 11 rfl
theorem dL_law_646 : decode cL_law 646 = .ok (.invokevirtual 73, 3) := all_d dL_law_all8 12 rfl
theorem dL_law_649 : decode cL_law 649 = .ok (.if_icmp .eq 607, 3) := all_d dL_law_all8 13 rfl
theorem dL_law_652 : decode cL_law 652 = .ok (.iconst 0, 1) := all_d dL_law_all8 14 rfl
theorem dL_law_653 : decode cL_law 653 = .ok (.ireturn, 1) := all_d dL_law_all8 15 rfl
theorem dL_law_654 : decode cL_law 654 = .ok (.aload_n 1, 1) := all_d dL_law_all8 16 rfl
theorem dL_law_655 : decode cL_law 655 = .ok (.aload_n 0, 1) := all_d dL_law_all8 17 rfl
theorem dL_law_656 : decode cL_law 656 = .ok (.iload_n 3, 1) := all_d dL_law_all8 18 rfl
theorem dL_law_657 : decode cL_law 657 = .ok (.iconst 1, 1) := all_d dL_law_all8 19 rfl
theorem dL_law_658 : decode cL_law 658 = .ok (.iadd, 1) := all_d dL_law_all8 20 rfl
theorem dL_law_659 : decode cL_law 659 = .ok (.iaload, 1) := all_d dL_law_all8 21 rfl
theorem dL_law_660 : decode cL_law 660 = .ok (.invokevirtual 74, 3) := all_d dL_law_all8 22 rfl
theorem dL_law_663 : decode cL_law 663 = .ok (.aload_n 2, 1) := all_d dL_law_all8 23 rfl
theorem dL_law_664 : decode cL_law 664 = .ok (.aload_n 0, 1) := all_d dL_law_all8 24 rfl
theorem dL_law_665 : decode cL_law 665 = .ok (.iload_n 3, 1) := all_d dL_law_all8 25 rfl
theorem dL_law_666 : decode cL_law 666 = .ok (.iconst 1, 1) := all_d dL_law_all8 26 rfl
theorem dL_law_667 : decode cL_law 667 = .ok (.iadd, 1) := all_d dL_law_all8 27 rfl
theorem dL_law_668 : decode cL_law 668 = .ok (.iaload, 1) := all_d dL_law_all8 28 rfl
theorem dL_law_669 : decode cL_law 669 = .ok (.invokevirtual 77, 3) := all_d dL_law_all8 29 rfl
theorem dL_law_672 : decode cL_law 672 = .ok (.if_icmp .eq 584, 3) := all_d dL_law_all8 30 rfl
theorem dL_law_675 : decode cL_law 675 = .ok (.iconst 0, 1) := all_d dL_law_all8 31 rfl
theorem dL_law_676 : decode cL_law 676 = .ok (.ireturn, 1) := all_d dL_law_all8 32 rfl
theorem dL_law_677 : decode cL_law 677 = .ok (.aload_n 1, 1) := all_d dL_law_all8 33 rfl
theorem dL_law_678 : decode cL_law 678 = .ok (.aload_n 0, 1) := all_d dL_law_all8 34 rfl
theorem dL_law_679 : decode cL_law 679 = .ok (.iload_n 3, 1) := all_d dL_law_all8 35 rfl
theorem dL_law_680 : decode cL_law 680 = .ok (.iconst 1, 1) := all_d dL_law_all8 36 rfl
theorem dL_law_681 : decode cL_law 681 = .ok (.iadd, 1) := all_d dL_law_all8 37 rfl
theorem dL_law_682 : decode cL_law 682 = .ok (.iaload, 1) := all_d dL_law_all8 38 rfl
theorem dL_law_683 : decode cL_law 683 = .ok (.invokevirtual 78, 3) := all_d dL_law_all8 39 rfl
theorem dL_law_686 : decode cL_law 686 = .ok (.aload_n 2, 1) := all_d dL_law_all8 40 rfl
theorem dL_law_687 : decode cL_law 687 = .ok (.aload_n 0, 1) := all_d dL_law_all8 41 rfl
theorem dL_law_688 : decode cL_law 688 = .ok (.iload_n 3, 1) := all_d dL_law_all8 42 rfl
theorem dL_law_689 : decode cL_law 689 = .ok (.iconst 1, 1) := all_d dL_law_all8 43 rfl
theorem dL_law_690 : decode cL_law 690 = .ok (.iadd, 1) := all_d dL_law_all8 44 rfl
theorem dL_law_691 : decode cL_law 691 = .ok (.iaload, 1) := all_d dL_law_all8 45 rfl
theorem dL_law_692 : decode cL_law 692 = .ok (.invokevirtual 81, 3) := all_d dL_law_all8 46 rfl
theorem dL_law_695 : decode cL_law 695 = .ok (.if_icmp .eq 561, 3) := all_d dL_law_all8 47 rfl
set_option maxRecDepth 100000 in
theorem dL_law_all9 : ([(698, (.iconst 0 : Instr), 1), (699, (.ireturn : Instr), 1), (700, (.aload_n 1 : Instr), 1), (701, (.aload_n 0 : Instr), 1), (702, (.iload_n 3 : Instr), 1), (703, (.iconst 1 : Instr), 1), (704, (.iadd : Instr), 1), (705, (.iaload : Instr), 1), (706, (.aload_n 0 : Instr), 1), (707, (.iload_n 3 : Instr), 1), (708, (.iconst 2 : Instr), 1), (709, (.iadd : Instr), 1), (710, (.iaload : Instr), 1), (711, (.invokevirtual 82 : Instr), 3), (714, (.aload_n 2 : Instr), 1), (715, (.aload_n 0 : Instr), 1), (716, (.iload_n 3 : Instr), 1), (717, (.iconst 1 : Instr), 1), (718, (.iadd : Instr), 1), (719, (.iaload : Instr), 1), (720, (.aload_n 0 : Instr), 1), (721, (.iload_n 3 : Instr), 1), (722, (.iconst 2 : Instr), 1), (723, (.iadd : Instr), 1), (724, (.iaload : Instr), 1), (725, (.invokevirtual 85 : Instr), 3), (728, (.if_icmp .eq 528 : Instr), 3), (731, (.iconst 0 : Instr), 1), (732, (.ireturn : Instr), 1), (733, (.aload_n 1 : Instr), 1), (734, (.aload_n 0 : Instr), 1), (735, (.iload_n 3 : Instr), 1), (736, (.iconst 1 : Instr), 1), (737, (.iadd : Instr), 1), (738, (.iaload : Instr), 1), (739, (.aload_n 0 : Instr), 1), (740, (.iload_n 3 : Instr), 1), (741, (.iconst 2 : Instr), 1), (742, (.iadd : Instr), 1), (743, (.iaload : Instr), 1), (744, (.invokevirtual 86 : Instr), 3), (747, (.aload_n 2 : Instr), 1), (748, (.aload_n 0 : Instr), 1), (749, (.iload_n 3 : Instr), 1), (750, (.iconst 1 : Instr), 1), (751, (.iadd : Instr), 1), (752, (.iaload : Instr), 1), (753, (.aload_n 0 : Instr), 1)] : List (Nat × Instr × Nat)).all (fun q => decide (decode cL_law q.1 = .ok (q.2.1, q.2.2))) = true := by decide +kernel
theorem dL_law_698 : decode cL_law 698 = .ok (.iconst 0, 1) := all_d dL_law_all9 0 rfl
theorem dL_law_699 : decode cL_law 699 = .ok (.ireturn, 1) := all_d dL_law_all9 1 rfl
theorem dL_law_700 : decode cL_law 700 = .ok (.aload_n 1, 1) := all_d dL_law_all9 2 rfl
theorem dL_law_701 : decode cL_law 701 = .ok (.aload_n 0, 1) := all_d dL_law_all9 3 rfl
theorem dL_law_702 : decode cL_law 702 = .ok (.iload_n 3, 1) := all_d dL_law_all9 4 rfl
theorem dL_law_703 : decode cL_law 703 = .ok (.iconst 1, 1) := all_d dL_law_all9 5 rfl
theorem dL_law_704 : decode cL_law 704 = .ok (.iadd, 1) := all_d dL_law_all9 6 rfl
theorem dL_law_705 : decode cL_law 705 = .ok (.iaload, 1) := all_d dL_law_all9 7 rfl
theorem dL_law_706 : decode cL_law 706 = .ok (.aload_n 0, 1) := all_d dL_law_all9 8 rfl
theorem dL_law_707 : decode cL_law 707 = .ok (.iload_n 3, 1) := all_d dL_law_all9 9 rfl
theorem dL_law_708 : decode cL_law 708 = .ok (.iconst 2, 1) := all_d dL_law_all9 10 rfl
theorem dL_law_709 : decode cL_law 709 = .ok (.iadd, 1) := all_d dL_law_all9 11 rfl
theorem dL_law_710 : decode cL_law 710 = .ok (.iaload, 1) := all_d dL_law_all9 12 rfl
theorem dL_law_711 : decode cL_law 711 = .ok (.invokevirtual 82, 3) := all_d dL_law_all9 13 rfl
theorem dL_law_714 : decode cL_law 714 = .ok (.aload_n 2, 1) := all_d dL_law_all9 14 rfl
theorem dL_law_715 : decode cL_law 715 = .ok (.aload_n 0, 1) := all_d dL_law_all9 15 rfl
theorem dL_law_716 : decode cL_law 716 = .ok (.iload_n 3, 1) := all_d dL_law_all9 16 rfl
theorem dL_law_717 : decode cL_law 717 = .ok (.iconst 1, 1) := all_d dL_law_all9 17 rfl
theorem dL_law_718 : decode cL_law 718 = .ok (.iadd, 1) := all_d dL_law_all9 18 rfl
theorem dL_law_719 : decode cL_law 719 = .ok (.iaload, 1) := all_d dL_law_all9 19 rfl
theorem dL_law_720 : decode cL_law 720 = .ok (.aload_n 0, 1) := all_d dL_law_all9 20 rfl
theorem dL_law_721 : decode cL_law 721 = .ok (.iload_n 3, 1) := all_d dL_law_all9 21 rfl
theorem dL_law_722 : decode cL_law 722 = .ok (.iconst 2, 1) := all_d dL_law_all9 22 rfl
theorem dL_law_723 : decode cL_law 723 = .ok (.iadd, 1) := all_d dL_law_all9 23 rfl
theorem dL_law_724 : decode cL_law 724 = .ok (.iaload, 1) := all_d dL_law_all9 24 rfl
theorem dL_law_725 : decode cL_law 725 = .ok (.invokevirtual 85, 3) := all_d dL_law_all9 25 rfl
theorem dL_law_728 : decode cL_law 728 = .ok (.if_icmp .eq 528, 3) := all_d dL_law_all9 26 rfl
theorem dL_law_731 : decode cL_law 731 = .ok (.iconst 0, 1) := all_d dL_law_all9 27 rfl
theorem dL_law_732 : decode cL_law 732 = .ok (.ireturn, 1) := all_d dL_law_all9 28 rfl
theorem dL_law_733 : decode cL_law 733 = .ok (.aload_n 1, 1) := all_d dL_law_all9 29 rfl
theorem dL_law_734 : decode cL_law 734 = .ok (.aload_n 0, 1) := all_d dL_law_all9 30 rfl
theorem dL_law_735 : decode cL_law 735 = .ok (.iload_n 3, 1) := all_d dL_law_all9 31 rfl
theorem dL_law_736 : decode cL_law 736 = .ok (.iconst 1, 1) := all_d dL_law_all9 32 rfl
theorem dL_law_737 : decode cL_law 737 = .ok (.iadd, 1) := all_d dL_law_all9 33 rfl
theorem dL_law_738 : decode cL_law 738 = .ok (.iaload, 1) := all_d dL_law_all9 34 rfl
theorem dL_law_739 : decode cL_law 739 = .ok (.aload_n 0, 1) := all_d dL_law_all9 35 rfl
theorem dL_law_740 : decode cL_law 740 = .ok (.iload_n 3, 1) := all_d dL_law_all9 36 rfl
theorem dL_law_741 : decode cL_law 741 = .ok (.iconst 2, 1) := all_d dL_law_all9 37 rfl
theorem dL_law_742 : decode cL_law 742 = .ok (.iadd, 1) := all_d dL_law_all9 38 rfl
theorem dL_law_743 : decode cL_law 743 = .ok (.iaload, 1) := all_d dL_law_all9 39 rfl
theorem dL_law_744 : decode cL_law 744 = .ok (.invokevirtual 86, 3) := all_d dL_law_all9 40 rfl
theorem dL_law_747 : decode cL_law 747 = .ok (.aload_n 2, 1) := all_d dL_law_all9 41 rfl
theorem dL_law_748 : decode cL_law 748 = .ok (.aload_n 0, 1) := all_d dL_law_all9 42 rfl
theorem dL_law_749 : decode cL_law 749 = .ok (.iload_n 3, 1) := all_d dL_law_all9 43 rfl
theorem dL_law_750 : decode cL_law 750 = .ok (.iconst 1, 1) := all_d dL_law_all9 44 rfl
theorem dL_law_751 : decode cL_law 751 = .ok (.iadd, 1) := all_d dL_law_all9 45 rfl
theorem dL_law_752 : decode cL_law 752 = .ok (.iaload, 1) := all_d dL_law_all9 46 rfl
theorem dL_law_753 : decode cL_law 753 = .ok (.aload_n 0, 1) := all_d dL_law_all9 47 rfl
set_option maxRecDepth 100000 in
theorem dL_law_all10 : ([(754, (.iload_n 3 : Instr), 1), (755, (.iconst 2 : Instr), 1), (756, (.iadd : Instr), 1), (757, (.iaload : Instr), 1), (758, (.invokevirtual 89 : Instr), 3), (761, (.if_icmp .eq 495 : Instr), 3), (764, (.iconst 0 : Instr), 1), (765, (.ireturn : Instr), 1), (766, (.aload_n 1 : Instr), 1), (767, (.aload_n 0 : Instr), 1), (768, (.iload_n 3 : Instr), 1), (769, (.iconst 1 : Instr), 1), (770, (.iadd : Instr), 1), (771, (.iaload : Instr), 1), (772, (.invokevirtual 90 : Instr), 3), (775, (.aload_n 2 : Instr), 1), (776, (.aload_n 0 : Instr), 1), (777, (.iload_n 3 : Instr), 1), (778, (.iconst 1 : Instr), 1), (779, (.iadd : Instr), 1), (780, (.iaload : Instr), 1), (781, (.invokevirtual 93 : Instr), 3), (784, (.if_icmp .eq 472 : Instr), 3), (787, (.iconst 0 : Instr), 1), (788, (.ireturn : Instr), 1), (789, (.aload_n 1 : Instr), 1), (790, (.aload_n 0 : Instr), 1), (791, (.iload_n 3 : Instr), 1), (792, (.iconst 1 : Instr), 1), (793, (.iadd : Instr), 1), (794, (.iaload : Instr), 1), (795, (.invokevirtual 94 : Instr), 3), (798, (.aload_n 2 : Instr), 1), (799, (.aload_n 0 : Instr), 1), (800, (.iload_n 3 : Instr), 1), (801, (.iconst 1 : Instr), 1), (802, (.iadd : Instr), 1), (803, (.iaload : Instr), 1), (804, (.invokevirtual 97 : Instr), 3), (807, (.if_icmp .eq 449 : Instr), 3), (810, (.iconst 0 : Instr), 1), (811, (.ireturn : Instr), 1), (812, (.aload_n 1 : Instr), 1), (813, (.aload_n 0 : Instr), 1), (814, (.iload_n 3 : Instr), 1), (815, (.iconst 1 : Instr), 1), (816, (.iadd : Instr), 1), (817, (.iaload : Instr), 1)] : List (Nat × Instr × Nat)).all (fun q => decide (decode cL_law q.1 = .ok (q.2.1, q.2.2))) = true := by decide +kernel
theorem dL_law_754 : decode cL_law 754 = .ok (.iload_n 3, 1) := all_d dL_law_all10 0 rfl
theorem dL_law_755 : decode cL_law 755 = .ok (.iconst 2, 1) := all_d dL_law_all10 1 rfl
theorem dL_law_756 : decode cL_law 756 = .ok (.iadd, 1) := all_d dL_law_all10 2 rfl
theorem dL_law_757 : decode cL_law 757 = .ok (.iaload, 1) := all_d dL_law_all10 3 rfl
theorem dL_law_758 : decode cL_law 758 = .ok (.invokevirtual 89, 3) := all_d dL_law_all10 4 rfl
theorem dL_law_761 : decode cL_law 761 = .ok (.if_icmp .eq 495, 3) := all_d dL_law_all10 5 rfl
theorem dL_law_764 : decode cL_law 764 = .ok (.iconst 0, 1) := all_d dL_law_all10 6 rfl
theorem dL_law_765 : decode cL_law 765 = .ok (.ireturn, 1) := all_d dL_law_all10 7 rfl
theorem dL_law_766 : decode cL_law 766 = .ok (.aload_n 1, 1) := all_d dL_law_all10 8 rfl
theorem dL_law_767 : decode cL_law 767 = .ok (.aload_n 0, 1) := all_d dL_law_all10 9 rfl
theorem dL_law_768 : decode cL_law 768 = .ok (.iload_n 3, 1) := all_d dL_law_all10 10 rfl
theorem dL_law_769 : decode cL_law 769 = .ok (.iconst 1, 1) := all_d dL_law_all10 11 rfl
theorem dL_law_770 : decode cL_law 770 = .ok (.iadd, 1) := all_d dL_law_all10 12 rfl
theorem dL_law_771 : decode cL_law 771 = .ok (.iaload, 1) := all_d dL_law_all10 13 rfl
theorem dL_law_772 : decode cL_law 772 = .ok (.invokevirtual 90, 3) := all_d dL_law_all10 14 rfl
theorem dL_law_775 : decode cL_law 775 = .ok (.aload_n 2, 1) := all_d dL_law_all10 15 rfl
theorem dL_law_776 : decode cL_law 776 = .ok (.aload_n 0, 1) := all_d dL_law_all10 16 rfl
theorem dL_law_777 : decode cL_law 777 = .ok (.iload_n 3, 1) := all_d dL_law_all10 17 rfl
theorem dL_law_778 : decode cL_law 778 = .ok (.iconst 1, 1) := all_d dL_law_all10 18 rfl
theorem dL_law_779 : decode cL_law 779 = .ok (.iadd, 1) := all_d dL_law_all10 19 rfl
theorem dL_law_780 : decode cL_law 780 = .ok (.iaload, 1) := all_d dL_law_all10 20 rfl
theorem dL_law_781 : decode cL_law 781 = .ok (.invokevirtual 93, 3) := all_d dL_law_all10 21 rfl
theorem dL_law_784 : decode cL_law 784 = .ok (.if_icmp .eq 472, 3) := all_d dL_law_all10 22 rfl
theorem dL_law_787 : decode cL_law 787 = .ok (.iconst 0, 1) := all_d dL_law_all10 23 rfl
theorem dL_law_788 : decode cL_law 788 = .ok (.ireturn, 1) := all_d dL_law_all10 24 rfl
theorem dL_law_789 : decode cL_law 789 = .ok (.aload_n 1, 1) := all_d dL_law_all10 25 rfl
theorem dL_law_790 : decode cL_law 790 = .ok (.aload_n 0, 1) := all_d dL_law_all10 26 rfl
theorem dL_law_791 : decode cL_law 791 = .ok (.iload_n 3, 1) := all_d dL_law_all10 27 rfl
theorem dL_law_792 : decode cL_law 792 = .ok (.iconst 1, 1) := all_d dL_law_all10 28 rfl
theorem dL_law_793 : decode cL_law 793 = .ok (.iadd, 1) := all_d dL_law_all10 29 rfl
theorem dL_law_794 : decode cL_law 794 = .ok (.iaload, 1) := all_d dL_law_all10 30 rfl
theorem dL_law_795 : decode cL_law 795 = .ok (.invokevirtual 94, 3) := all_d dL_law_all10 31 rfl
theorem dL_law_798 : decode cL_law 798 = .ok (.aload_n 2, 1) := all_d dL_law_all10 32 rfl
theorem dL_law_799 : decode cL_law 799 = .ok (.aload_n 0, 1) := all_d dL_law_all10 33 rfl
theorem dL_law_800 : decode cL_law 800 = .ok (.iload_n 3, 1) := all_d dL_law_all10 34 rfl
theorem dL_law_801 : decode cL_law 801 = .ok (.iconst 1, 1) := all_d dL_law_all10 35 rfl
theorem dL_law_802 : decode cL_law 802 = .ok (.iadd, 1) := all_d dL_law_all10 36 rfl
theorem dL_law_803 : decode cL_law 803 = .ok (.iaload, 1) := all_d dL_law_all10 37 rfl
theorem dL_law_804 : decode cL_law 804 = .ok (.invokevirtual 97, 3) := all_d dL_law_all10 38 rfl
theorem dL_law_807 : decode cL_law 807 = .ok (.if_icmp .eq 449, 3) := all_d dL_law_all10 39 rfl
theorem dL_law_810 : decode cL_law 810 = .ok (.iconst 0, 1) := all_d dL_law_all10 40 rfl
theorem dL_law_811 : decode cL_law 811 = .ok (.ireturn, 1) := all_d dL_law_all10 41 rfl
theorem dL_law_812 : decode cL_law 812 = .ok (.aload_n 1, 1) := all_d dL_law_all10 42 rfl
theorem dL_law_813 : decode cL_law 813 = .ok (.aload_n 0, 1) := all_d dL_law_all10 43 rfl
theorem dL_law_814 : decode cL_law 814 = .ok (.iload_n 3, 1) := all_d dL_law_all10 44 rfl
theorem dL_law_815 : decode cL_law 815 = .ok (.iconst 1, 1) := all_d dL_law_all10 45 rfl
theorem dL_law_816 : decode cL_law 816 = .ok (.iadd, 1) := all_d dL_law_all10 46 rfl
theorem dL_law_817 : decode cL_law 817 = .ok (.iaload, 1) := all_d dL_law_all10 47 rfl
set_option maxRecDepth 100000 in
theorem dL_law_all11 : ([(818, (.invokevirtual 98 : Instr), 3), (821, (.aload_n 2 : Instr), 1), (822, (.aload_n 0 : Instr), 1), (823, (.iload_n 3 : Instr), 1), (824, (.iconst 1 : Instr), 1), (825, (.iadd : Instr), 1), (826, (.iaload : Instr), 1), (827, (.invokevirtual 101 : Instr), 3), (830, (.if_icmp .eq 426 : Instr), 3), (833, (.iconst 0 : Instr), 1), (834, (.ireturn : Instr), 1), (835, (.aload_n 1 : Instr), 1), (836, (.aload_n 0 : Instr), 1), (837, (.iload_n 3 : Instr), 1), (838, (.iconst 1 : Instr), 1), (839, (.iadd : Instr), 1), (840, (.iaload : Instr), 1), (841, (.aload_n 0 : Instr), 1), (842, (.iload_n 3 : Instr), 1), (843, (.iconst 2 : Instr), 1), (844, (.iadd : Instr), 1), (845, (.iaload : Instr), 1), (846, (.aload_n 0 : Instr), 1), (847, (.iload_n 3 : Instr), 1), (848, (.iconst 3 : Instr), 1), (849, (.iadd : Instr), 1), (850, (.iaload : Instr), 1), (851, (.aload_n 0 : Instr), 1), (852, (.iload_n 3 : Instr), 1), (853, (.iconst 4 : Instr), 1), (854, (.iadd : Instr), 1), (855, (.iaload : Instr), 1), (856, (.aload_n 0 : Instr), 1), (857, (.iload_n 3 : Instr), 1), (858, (.iconst 5 : Instr), 1), (859, (.iadd : Instr), 1), (860, (.iaload : Instr), 1), (861, (.invokevirtual 102 : Instr), 3), (864, (.aload_n 2 : Instr), 1), (865, (.aload_n 0 : Instr), 1), (866, (.iload_n 3 : Instr), 1), (867, (.iconst 1 : Instr), 1), (868, (.iadd : Instr), 1), (869, (.iaload : Instr), 1), (870, (.aload_n 0 : Instr), 1), (871, (.iload_n 3 : Instr), 1), (872, (.iconst 2 : Instr), 1), (873, (.iadd : Instr), 1)] : List (Nat × Instr × Nat)).all (fun q => decide (decode cL_law q.1 = .ok (q.2.1, q.2.2))) = true := by decide +kernel
theorem dL_law_818 : decode cL_law 818 = .ok (.invokevirtual 98, 3) := all_d dL_law_all11 0 rfl
theorem dL_law_821 : decode cL_law 821 = .ok (.aload_n 2, 1) := all_d dL_law_all11 1 rfl
theorem dL_law_822 : decode cL_law 822 = .ok (.aload_n 0, 1) := all_d dL_law_all11 2 rfl
theorem dL_law_823 : decode cL_law 823 = .ok (.iload_n 3, 1) := all_d dL_law_all11 3 rfl
theorem dL_law_824 : decode cL_law 824 = .ok (.iconst 1, 1) := all_d dL_law_all11 4 rfl
theorem dL_law_825 : decode cL_law 825 = .ok (.iadd, 1) := all_d dL_law_all11 5 rfl
theorem dL_law_826 : decode cL_law 826 = .ok (.iaload, 1) := all_d dL_law_all11 6 rfl
theorem dL_law_827 : decode cL_law 827 = .ok (.invokevirtual 101, 3) := all_d dL_law_all11 7 rfl
theorem dL_law_830 : decode cL_law 830 = .ok (.if_icmp .eq 426, 3) := all_d dL_law_all11 8 rfl
theorem dL_law_833 : decode cL_law 833 = .ok (.iconst 0, 1) := all_d dL_law_all11 9 rfl
theorem dL_law_834 : decode cL_law 834 = .ok (.ireturn, 1) := all_d dL_law_all11 10 rfl
theorem dL_law_835 : decode cL_law 835 = .ok (.aload_n 1, 1) := all_d dL_law_all11 11 rfl
theorem dL_law_836 : decode cL_law 836 = .ok (.aload_n 0, 1) := all_d dL_law_all11 12 rfl
theorem dL_law_837 : decode cL_law 837 = .ok (.iload_n 3, 1) := all_d dL_law_all11 13 rfl
theorem dL_law_838 : decode cL_law 838 = .ok (.iconst 1, 1) := all_d dL_law_all11 14 rfl
theorem dL_law_839 : decode cL_law 839 = .ok (.iadd, 1) := all_d dL_law_all11 15 rfl
theorem dL_law_840 : decode cL_law 840 = .ok (.iaload, 1) := all_d dL_law_all11 16 rfl
theorem dL_law_841 : decode cL_law 841 = .ok (.aload_n 0, 1) := all_d dL_law_all11 17 rfl
theorem dL_law_842 : decode cL_law 842 = .ok (.iload_n 3, 1) := all_d dL_law_all11 18 rfl
theorem dL_law_843 : decode cL_law 843 = .ok (.iconst 2, 1) := all_d dL_law_all11 19 rfl
theorem dL_law_844 : decode cL_law 844 = .ok (.iadd, 1) := all_d dL_law_all11 20 rfl
theorem dL_law_845 : decode cL_law 845 = .ok (.iaload, 1) := all_d dL_law_all11 21 rfl
theorem dL_law_846 : decode cL_law 846 = .ok (.aload_n 0, 1) := all_d dL_law_all11 22 rfl
theorem dL_law_847 : decode cL_law 847 = .ok (.iload_n 3, 1) := all_d dL_law_all11 23 rfl
theorem dL_law_848 : decode cL_law 848 = .ok (.iconst 3, 1) := all_d dL_law_all11 24 rfl
theorem dL_law_849 : decode cL_law 849 = .ok (.iadd, 1) := all_d dL_law_all11 25 rfl
theorem dL_law_850 : decode cL_law 850 = .ok (.iaload, 1) := all_d dL_law_all11 26 rfl
theorem dL_law_851 : decode cL_law 851 = .ok (.aload_n 0, 1) := all_d dL_law_all11 27 rfl
theorem dL_law_852 : decode cL_law 852 = .ok (.iload_n 3, 1) := all_d dL_law_all11 28 rfl
theorem dL_law_853 : decode cL_law 853 = .ok (.iconst 4, 1) := all_d dL_law_all11 29 rfl
theorem dL_law_854 : decode cL_law 854 = .ok (.iadd, 1) := all_d dL_law_all11 30 rfl
theorem dL_law_855 : decode cL_law 855 = .ok (.iaload, 1) := all_d dL_law_all11 31 rfl
theorem dL_law_856 : decode cL_law 856 = .ok (.aload_n 0, 1) := all_d dL_law_all11 32 rfl
theorem dL_law_857 : decode cL_law 857 = .ok (.iload_n 3, 1) := all_d dL_law_all11 33 rfl
theorem dL_law_858 : decode cL_law 858 = .ok (.iconst 5, 1) := all_d dL_law_all11 34 rfl
theorem dL_law_859 : decode cL_law 859 = .ok (.iadd, 1) := all_d dL_law_all11 35 rfl
theorem dL_law_860 : decode cL_law 860 = .ok (.iaload, 1) := all_d dL_law_all11 36 rfl
theorem dL_law_861 : decode cL_law 861 = .ok (.invokevirtual 102, 3) := all_d dL_law_all11 37 rfl
theorem dL_law_864 : decode cL_law 864 = .ok (.aload_n 2, 1) := all_d dL_law_all11 38 rfl
theorem dL_law_865 : decode cL_law 865 = .ok (.aload_n 0, 1) := all_d dL_law_all11 39 rfl
theorem dL_law_866 : decode cL_law 866 = .ok (.iload_n 3, 1) := all_d dL_law_all11 40 rfl
theorem dL_law_867 : decode cL_law 867 = .ok (.iconst 1, 1) := all_d dL_law_all11 41 rfl
theorem dL_law_868 : decode cL_law 868 = .ok (.iadd, 1) := all_d dL_law_all11 42 rfl
theorem dL_law_869 : decode cL_law 869 = .ok (.iaload, 1) := all_d dL_law_all11 43 rfl
theorem dL_law_870 : decode cL_law 870 = .ok (.aload_n 0, 1) := all_d dL_law_all11 44 rfl
theorem dL_law_871 : decode cL_law 871 = .ok (.iload_n 3, 1) := all_d dL_law_all11 45 rfl
theorem dL_law_872 : decode cL_law 872 = .ok (.iconst 2, 1) := all_d dL_law_all11 46 rfl
theorem dL_law_873 : decode cL_law 873 = .ok (.iadd, 1) := all_d dL_law_all11 47 rfl
set_option maxRecDepth 100000 in
theorem dL_law_all12 : ([(874, (.iaload : Instr), 1), (875, (.aload_n 0 : Instr), 1), (876, (.iload_n 3 : Instr), 1), (877, (.iconst 3 : Instr), 1), (878, (.iadd : Instr), 1), (879, (.iaload : Instr), 1), (880, (.aload_n 0 : Instr), 1), (881, (.iload_n 3 : Instr), 1), (882, (.iconst 4 : Instr), 1), (883, (.iadd : Instr), 1), (884, (.iaload : Instr), 1), (885, (.aload_n 0 : Instr), 1), (886, (.iload_n 3 : Instr), 1), (887, (.iconst 5 : Instr), 1), (888, (.iadd : Instr), 1), (889, (.iaload : Instr), 1), (890, (.invokevirtual 106 : Instr), 3), (893, (.if_icmp .eq 363 : Instr), 3), (896, (.iconst 0 : Instr), 1), (897, (.ireturn : Instr), 1), (898, (.aload_n 1 : Instr), 1), (899, (.aload_n 0 : Instr), 1), (900, (.iload_n 3 : Instr), 1), (901, (.iconst 1 : Instr), 1), (902, (.iadd : Instr), 1), (903, (.iaload : Instr), 1), (904, (.aload_n 0 : Instr), 1), (905, (.iload_n 3 : Instr), 1), (906, (.iconst 2 : Instr), 1), (907, (.iadd : Instr), 1), (908, (.iaload : Instr), 1), (909, (.invokevirtual 107 : Instr), 3), (912, (.aload_n 2 : Instr), 1), (913, (.aload_n 0 : Instr), 1), (914, (.iload_n 3 : Instr), 1), (915, (.iconst 1 : Instr), 1), (916, (.iadd : Instr), 1), (917, (.iaload : Instr), 1), (918, (.aload_n 0 : Instr), 1), (919, (.iload_n 3 : Instr), 1), (920, (.iconst 2 : Instr), 1), (921, (.iadd : Instr), 1), (922, (.iaload : Instr), 1), (923, (.invokevirtual 110 : Instr), 3), (926, (.if_icmp .eq 330 : Instr), 3), (929, (.iconst 0 : Instr), 1), (930, (.ireturn : Instr), 1), (931, (.aload_n 1 : Instr), 1)] : List (Nat × Instr × Nat)).all (fun q => decide (decode cL_law q.1 = .ok (q.2.1, q.2.2))) = true := by decide +kernel
theorem dL_law_874 : decode cL_law 874 = .ok (.iaload, 1) := all_d dL_law_all12 0 rfl
theorem dL_law_875 : decode cL_law 875 = .ok (.aload_n 0, 1) := all_d dL_law_all12 1 rfl
theorem dL_law_876 : decode cL_law 876 = .ok (.iload_n 3, 1) := all_d dL_law_all12 2 rfl
theorem dL_law_877 : decode cL_law 877 = .ok (.iconst 3, 1) := all_d dL_law_all12 3 rfl
theorem dL_law_878 : decode cL_law 878 = .ok (.iadd, 1) := all_d dL_law_all12 4 rfl
theorem dL_law_879 : decode cL_law 879 = .ok (.iaload, 1) := all_d dL_law_all12 5 rfl
theorem dL_law_880 : decode cL_law 880 = .ok (.aload_n 0, 1) := all_d dL_law_all12 6 rfl
theorem dL_law_881 : decode cL_law 881 = .ok (.iload_n 3, 1) := all_d dL_law_all12 7 rfl
theorem dL_law_882 : decode cL_law 882 = .ok (.iconst 4, 1) := all_d dL_law_all12 8 rfl
theorem dL_law_883 : decode cL_law 883 = .ok (.iadd, 1) := all_d dL_law_all12 9 rfl
theorem dL_law_884 : decode cL_law 884 = .ok (.iaload, 1) := all_d dL_law_all12 10 rfl
theorem dL_law_885 : decode cL_law 885 = .ok (.aload_n 0, 1) := all_d dL_law_all12 11 rfl
theorem dL_law_886 : decode cL_law 886 = .ok (.iload_n 3, 1) := all_d dL_law_all12 12 rfl
theorem dL_law_887 : decode cL_law 887 = .ok (.iconst 5, 1) := all_d dL_law_all12 13 rfl
theorem dL_law_888 : decode cL_law 888 = .ok (.iadd, 1) := all_d dL_law_all12 14 rfl
theorem dL_law_889 : decode cL_law 889 = .ok (.iaload, 1) := all_d dL_law_all12 15 rfl
theorem dL_law_890 : decode cL_law 890 = .ok (.invokevirtual 106, 3) := all_d dL_law_all12 16 rfl
theorem dL_law_893 : decode cL_law 893 = .ok (.if_icmp .eq 363, 3) := all_d dL_law_all12 17 rfl
theorem dL_law_896 : decode cL_law 896 = .ok (.iconst 0, 1) := all_d dL_law_all12 18 rfl
theorem dL_law_897 : decode cL_law 897 = .ok (.ireturn, 1) := all_d dL_law_all12 19 rfl
theorem dL_law_898 : decode cL_law 898 = .ok (.aload_n 1, 1) := all_d dL_law_all12 20 rfl
theorem dL_law_899 : decode cL_law 899 = .ok (.aload_n 0, 1) := all_d dL_law_all12 21 rfl
theorem dL_law_900 : decode cL_law 900 = .ok (.iload_n 3, 1) := all_d dL_law_all12 22 rfl
theorem dL_law_901 : decode cL_law 901 = .ok (.iconst 1, 1) := all_d dL_law_all12 23 rfl
theorem dL_law_902 : decode cL_law 902 = .ok (.iadd, 1) := all_d dL_law_all12 24 rfl
theorem dL_law_903 : decode cL_law 903 = .ok (.iaload, 1) := all_d dL_law_all12 25 rfl
theorem dL_law_904 : decode cL_law 904 = .ok (.aload_n 0, 1) := all_d dL_law_all12 26 rfl
theorem dL_law_905 : decode cL_law 905 = .ok (.iload_n 3, 1) := all_d dL_law_all12 27 rfl
theorem dL_law_906 : decode cL_law 906 = .ok (.iconst 2, 1) := all_d dL_law_all12 28 rfl
theorem dL_law_907 : decode cL_law 907 = .ok (.iadd, 1) := all_d dL_law_all12 29 rfl
theorem dL_law_908 : decode cL_law 908 = .ok (.iaload, 1) := all_d dL_law_all12 30 rfl
theorem dL_law_909 : decode cL_law 909 = .ok (.invokevirtual 107, 3) := all_d dL_law_all12 31 rfl
theorem dL_law_912 : decode cL_law 912 = .ok (.aload_n 2, 1) := all_d dL_law_all12 32 rfl
theorem dL_law_913 : decode cL_law 913 = .ok (.aload_n 0, 1) := all_d dL_law_all12 33 rfl
theorem dL_law_914 : decode cL_law 914 = .ok (.iload_n 3, 1) := all_d dL_law_all12 34 rfl
theorem dL_law_915 : decode cL_law 915 = .ok (.iconst 1, 1) := all_d dL_law_all12 35 rfl
theorem dL_law_916 : decode cL_law 916 = .ok (.iadd, 1) := all_d dL_law_all12 36 rfl
theorem dL_law_917 : decode cL_law 917 = .ok (.iaload, 1) := all_d dL_law_all12 37 rfl
theorem dL_law_918 : decode cL_law 918 = .ok (.aload_n 0, 1) := all_d dL_law_all12 38 rfl
theorem dL_law_919 : decode cL_law 919 = .ok (.iload_n 3, 1) := all_d dL_law_all12 39 rfl
theorem dL_law_920 : decode cL_law 920 = .ok (.iconst 2, 1) := all_d dL_law_all12 40 rfl
theorem dL_law_921 : decode cL_law 921 = .ok (.iadd, 1) := all_d dL_law_all12 41 rfl
theorem dL_law_922 : decode cL_law 922 = .ok (.iaload, 1) := all_d dL_law_all12 42 rfl
theorem dL_law_923 : decode cL_law 923 = .ok (.invokevirtual 110, 3) := all_d dL_law_all12 43 rfl
theorem dL_law_926 : decode cL_law 926 = .ok (.if_icmp .eq 330, 3) := all_d dL_law_all12 44 rfl
theorem dL_law_929 : decode cL_law 929 = .ok (.iconst 0, 1) := all_d dL_law_all12 45 rfl
theorem dL_law_930 : decode cL_law 930 = .ok (.ireturn, 1) := all_d dL_law_all12 46 rfl
theorem dL_law_931 : decode cL_law 931 = .ok (.aload_n 1, 1) := all_d dL_law_all12 47 rfl
set_option maxRecDepth 100000 in
theorem dL_law_all13 : ([(932, (.invokevirtual 111 : Instr), 3), (935, (.aload_n 2 : Instr), 1), (936, (.invokevirtual 115 : Instr), 3), (939, (.if_icmp .eq 317 : Instr), 3), (942, (.iconst 0 : Instr), 1), (943, (.ireturn : Instr), 1), (944, (.aload_n 1 : Instr), 1), (945, (.aload_n 0 : Instr), 1), (946, (.iload_n 3 : Instr), 1), (947, (.iconst 1 : Instr), 1), (948, (.iadd : Instr), 1), (949, (.iaload : Instr), 1), (950, (.aload_n 0 : Instr), 1), (951, (.iload_n 3 : Instr), 1), (952, (.iconst 2 : Instr), 1), (953, (.iadd : Instr), 1), (954, (.iaload : Instr), 1), (955, (.aload_n 0 : Instr), 1), (956, (.iload_n 3 : Instr), 1), (957, (.iconst 3 : Instr), 1), (958, (.iadd : Instr), 1), (959, (.iaload : Instr), 1), (960, (.ifCond .eq 7 : Instr), 3), (963, (.iconst 1 : Instr), 1), (964, (.goto 4 : Instr), 3), (967, (.iconst 0 : Instr), 1), (968, (.invokevirtual 116 : Instr), 3), (971, (.aload_n 2 : Instr), 1), (972, (.aload_n 0 : Instr), 1), (973, (.iload_n 3 : Instr), 1), (974, (.iconst 1 : Instr), 1), (975, (.iadd : Instr), 1), (976, (.iaload : Instr), 1), (977, (.aload_n 0 : Instr), 1), (978, (.iload_n 3 : Instr), 1), (979, (.iconst 2 : Instr), 1), (980, (.iadd : Instr), 1), (981, (.iaload : Instr), 1), (982, (.aload_n 0 : Instr), 1), (983, (.iload_n 3 : Instr), 1), (984, (.iconst 3 : Instr), 1), (985, (.iadd : Instr), 1), (986, (.iaload : Instr), 1), (987, (.ifCond .eq 7 : Instr), 3), (990, (.iconst 1 : Instr), 1), (991, (.goto 4 : Instr), 3), (994, (.iconst 0 : Instr), 1), (995, (.invokevirtual 120 : Instr), 3)] : List (Nat × Instr × Nat)).all (fun q => decide (decode cL_law q.1 = .ok (q.2.1, q.2.2))) = true := by decide +kernel
theorem dL_law_932 : decode cL_law 932 = .ok (.invokevirtual 111, 3) := all_d dL_law_all13 0 rfl
theorem dL_law_935 : decode cL_law 935 = .ok (.aload_n 2, 1) := all_d dL_law_all13 1 rfl
theorem dL_law_936 : decode cL_law 936 = .ok (.invokevirtual 115, 3) := all_d dL_law_all13 2 rfl
theorem dL_law_939 : decode cL_law 939 = .ok (.if_icmp .eq 317, 3) := all_d dL_law_all13 3 rfl
theorem dL_law_942 : decode cL_law 942 = .ok (.iconst 0, 1) := all_d dL_law_all13 4 rfl
theorem dL_law_943 : decode cL_law 943 = .ok (.ireturn, 1) := all_d dL_law_all13 5 rfl
theorem dL_law_944 : decode cL_law 944 = .ok (.aload_n 1, 1) := all_d dL_law_all13 6 rfl
theorem dL_law_945 : decode cL_law 945 = .ok (.aload_n 0, 1) := all_d dL_law_all13 7 rfl
theorem dL_law_946 : decode cL_law 946 = .ok (.iload_n 3, 1) := all_d dL_law_all13 8 rfl
theorem dL_law_947 : decode cL_law 947 = .ok (.iconst 1, 1) := all_d dL_law_all13 9 rfl
theorem dL_law_948 : decode cL_law 948 = .ok (.iadd, 1) := all_d dL_law_all13 10 rfl
theorem dL_law_949 : decode cL_law 949 = .ok (.iaload, 1) := all_d dL_law_all13 11 rfl
theorem dL_law_950 : decode cL_law 950 = .ok (.aload_n 0, 1) := all_d dL_law_all13 12 rfl
theorem dL_law_951 : decode cL_law 951 = .ok (.iload_n 3, 1) := all_d dL_law_all13 13 rfl
theorem dL_law_952 : decode cL_law 952 = .ok (.iconst 2, 1) := all_d dL_law_all13 14 rfl
theorem dL_law_953 : decode cL_law 953 = .ok (.iadd, 1) := all_d dL_law_all13 15 rfl
theorem dL_law_954 : decode cL_law 954 = .ok (.iaload, 1) := all_d dL_law_all13 16 rfl
theorem dL_law_955 : decode cL_law 955 = .ok (.aload_n 0, 1) := all_d dL_law_all13 17 rfl
theorem dL_law_956 : decode cL_law 956 = .ok (.iload_n 3, 1) := all_d dL_law_all13 18 rfl
theorem dL_law_957 : decode cL_law 957 = .ok (.iconst 3, 1) := all_d dL_law_all13 19 rfl
theorem dL_law_958 : decode cL_law 958 = .ok (.iadd, 1) := all_d dL_law_all13 20 rfl
theorem dL_law_959 : decode cL_law 959 = .ok (.iaload, 1) := all_d dL_law_all13 21 rfl
theorem dL_law_960 : decode cL_law 960 = .ok (.ifCond .eq 7, 3) := all_d dL_law_all13 22 rfl
theorem dL_law_963 : decode cL_law 963 = .ok (.iconst 1, 1) := all_d dL_law_all13 23 rfl
theorem dL_law_964 : decode cL_law 964 = .ok (.goto 4, 3) := all_d dL_law_all13 24 rfl
theorem dL_law_967 : decode cL_law 967 = .ok (.iconst 0, 1) := all_d dL_law_all13 25 rfl
theorem dL_law_968 : decode cL_law 968 = .ok (.invokevirtual 116, 3) := all_d dL_law_all13 26 rfl
theorem dL_law_971 : decode cL_law 971 = .ok (.aload_n 2, 1) := all_d dL_law_all13 27 rfl
theorem dL_law_972 : decode cL_law 972 = .ok (.aload_n 0, 1) := all_d dL_law_all13 28 rfl
theorem dL_law_973 : decode cL_law 973 = .ok (.iload_n 3, 1) := all_d dL_law_all13 29 rfl
theorem dL_law_974 : decode cL_law 974 = .ok (.iconst 1, 1) := all_d dL_law_all13 30 rfl
theorem dL_law_975 : decode cL_law 975 = .ok (.iadd, 1) := all_d dL_law_all13 31 rfl
theorem dL_law_976 : decode cL_law 976 = .ok (.iaload, 1) := all_d dL_law_all13 32 rfl
theorem dL_law_977 : decode cL_law 977 = .ok (.aload_n 0, 1) := all_d dL_law_all13 33 rfl
theorem dL_law_978 : decode cL_law 978 = .ok (.iload_n 3, 1) := all_d dL_law_all13 34 rfl
theorem dL_law_979 : decode cL_law 979 = .ok (.iconst 2, 1) := all_d dL_law_all13 35 rfl
theorem dL_law_980 : decode cL_law 980 = .ok (.iadd, 1) := all_d dL_law_all13 36 rfl
theorem dL_law_981 : decode cL_law 981 = .ok (.iaload, 1) := all_d dL_law_all13 37 rfl
theorem dL_law_982 : decode cL_law 982 = .ok (.aload_n 0, 1) := all_d dL_law_all13 38 rfl
theorem dL_law_983 : decode cL_law 983 = .ok (.iload_n 3, 1) := all_d dL_law_all13 39 rfl
theorem dL_law_984 : decode cL_law 984 = .ok (.iconst 3, 1) := all_d dL_law_all13 40 rfl
theorem dL_law_985 : decode cL_law 985 = .ok (.iadd, 1) := all_d dL_law_all13 41 rfl
theorem dL_law_986 : decode cL_law 986 = .ok (.iaload, 1) := all_d dL_law_all13 42 rfl
theorem dL_law_987 : decode cL_law 987 = .ok (.ifCond .eq 7, 3) := all_d dL_law_all13 43 rfl
theorem dL_law_990 : decode cL_law 990 = .ok (.iconst 1, 1) := all_d dL_law_all13 44 rfl
theorem dL_law_991 : decode cL_law 991 = .ok (.goto 4, 3) := all_d dL_law_all13 45 rfl
theorem dL_law_994 : decode cL_law 994 = .ok (.iconst 0, 1) := all_d dL_law_all13 46 rfl
theorem dL_law_995 : decode cL_law 995 = .ok (.invokevirtual 120, 3) := all_d dL_law_all13 47 rfl
set_option maxRecDepth 100000 in
theorem dL_law_all14 : ([(998, (.if_icmp .eq 258 : Instr), 3), (1001, (.iconst 0 : Instr), 1), (1002, (.ireturn : Instr), 1), (1003, (.aload_n 1 : Instr), 1), (1004, (.aload_n 0 : Instr), 1), (1005, (.iload_n 3 : Instr), 1), (1006, (.iconst 1 : Instr), 1), (1007, (.iadd : Instr), 1), (1008, (.iaload : Instr), 1), (1009, (.aload_n 0 : Instr), 1), (1010, (.iload_n 3 : Instr), 1), (1011, (.iconst 2 : Instr), 1), (1012, (.iadd : Instr), 1), (1013, (.iaload : Instr), 1), (1014, (.aload_n 0 : Instr), 1), (1015, (.iload_n 3 : Instr), 1), (1016, (.iconst 3 : Instr), 1), (1017, (.iadd : Instr), 1), (1018, (.iaload : Instr), 1), (1019, (.invokevirtual 121 : Instr), 3), (1022, (.aload_n 2 : Instr), 1), (1023, (.aload_n 0 : Instr), 1), (1024, (.iload_n 3 : Instr), 1), (1025, (.iconst 1 : Instr), 1), (1026, (.iadd : Instr), 1), (1027, (.iaload : Instr), 1), (1028, (.aload_n 0 : Instr), 1), (1029, (.iload_n 3 : Instr), 1), (1030, (.iconst 2 : Instr), 1), (1031, (.iadd : Instr), 1), (1032, (.iaload : Instr), 1), (1033, (.aload_n 0 : Instr), 1), (1034, (.iload_n 3 : Instr), 1), (1035, (.iconst 3 : Instr), 1), (1036, (.iadd : Instr), 1), (1037, (.iaload : Instr), 1), (1038, (.invokevirtual 124 : Instr), 3), (1041, (.if_icmp .eq 215 : Instr), 3), (1044, (.iconst 0 : Instr), 1), (1045, (.ireturn : Instr), 1), (1046, (.aload_n 1 : Instr), 1), (1047, (.invokevirtual 125 : Instr), 3), (1050, (.aload_n 2 : Instr), 1), (1051, (.invokevirtual 128 : Instr), 3), (1054, (.if_icmp .eq 202 : Instr), 3), (1057, (.iconst 0 : Instr), 1), (1058, (.ireturn : Instr), 1), (1059, (.aload_n 1 : Instr), 1)] : List (Nat × Instr × Nat)).all (fun q => decide (decode cL_law q.1 = .ok (q.2.1, q.2.2))) = true := by decide +kernel
theorem dL_law_998 : decode cL_law 998 = .ok (.if_icmp .eq 258, 3) := all_d dL_law_all14 0 rfl
theorem dL_law_1001 : decode cL_law 1001 = .ok (.iconst 0, 1) := all_d dL_law_all14 1 rfl
theorem dL_law_1002 : decode cL_law 1002 = .ok (.ireturn, 1) := all_d dL_law_all14 2 rfl
theorem dL_law_1003 : decode cL_law 1003 = .ok (.aload_n 1, 1) := all_d dL_law_all14 3 rfl
theorem dL_law_1004 : decode cL_law 1004 = .ok (.aload_n 0, 1) := all_d dL_law_all14 4 rfl
theorem dL_law_1005 : decode cL_law 1005 = .ok (.iload_n 3, 1) := all_d dL_law_all14 5 rfl
theorem dL_law_1006 : decode cL_law 1006 = .ok (.iconst 1, 1) := all_d dL_law_all14 6 rfl
theorem dL_law_1007 : decode cL_law 1007 = .ok (.iadd, 1) := all_d dL_law_all14 7 rfl
theorem dL_law_1008 : decode cL_law 1008 = .ok (.iaload, 1) := all_d dL_law_all14 8 rfl
theorem dL_law_1009 : decode cL_law 1009 = .ok (.aload_n 0, 1) := all_d dL_law_all14 9 rfl
theorem dL_law_1010 : decode cL_law 1010 = .ok (.iload_n 3, 1) := all_d dL_law_all14 10 rfl
theorem dL_law_1011 : decode cL_law 1011 = .ok (.iconst 2, 1) := all_d dL_law_all14 11 rfl
theorem dL_law_1012 : decode cL_law 1012 = .ok (.iadd, 1) := all_d dL_law_all14 12 rfl
theorem dL_law_1013 : decode cL_law 1013 = .ok (.iaload, 1) := all_d dL_law_all14 13 rfl
theorem dL_law_1014 : decode cL_law 1014 = .ok (.aload_n 0, 1) := all_d dL_law_all14 14 rfl
theorem dL_law_1015 : decode cL_law 1015 = .ok (.iload_n 3, 1) := all_d dL_law_all14 15 rfl
theorem dL_law_1016 : decode cL_law 1016 = .ok (.iconst 3, 1) := all_d dL_law_all14 16 rfl
theorem dL_law_1017 : decode cL_law 1017 = .ok (.iadd, 1) := all_d dL_law_all14 17 rfl
theorem dL_law_1018 : decode cL_law 1018 = .ok (.iaload, 1) := all_d dL_law_all14 18 rfl
theorem dL_law_1019 : decode cL_law 1019 = .ok (.invokevirtual 121, 3) := all_d dL_law_all14 19 rfl
theorem dL_law_1022 : decode cL_law 1022 = .ok (.aload_n 2, 1) := all_d dL_law_all14 20 rfl
theorem dL_law_1023 : decode cL_law 1023 = .ok (.aload_n 0, 1) := all_d dL_law_all14 21 rfl
theorem dL_law_1024 : decode cL_law 1024 = .ok (.iload_n 3, 1) := all_d dL_law_all14 22 rfl
theorem dL_law_1025 : decode cL_law 1025 = .ok (.iconst 1, 1) := all_d dL_law_all14 23 rfl
theorem dL_law_1026 : decode cL_law 1026 = .ok (.iadd, 1) := all_d dL_law_all14 24 rfl
theorem dL_law_1027 : decode cL_law 1027 = .ok (.iaload, 1) := all_d dL_law_all14 25 rfl
theorem dL_law_1028 : decode cL_law 1028 = .ok (.aload_n 0, 1) := all_d dL_law_all14 26 rfl
theorem dL_law_1029 : decode cL_law 1029 = .ok (.iload_n 3, 1) := all_d dL_law_all14 27 rfl
theorem dL_law_1030 : decode cL_law 1030 = .ok (.iconst 2, 1) := all_d dL_law_all14 28 rfl
theorem dL_law_1031 : decode cL_law 1031 = .ok (.iadd, 1) := all_d dL_law_all14 29 rfl
theorem dL_law_1032 : decode cL_law 1032 = .ok (.iaload, 1) := all_d dL_law_all14 30 rfl
theorem dL_law_1033 : decode cL_law 1033 = .ok (.aload_n 0, 1) := all_d dL_law_all14 31 rfl
theorem dL_law_1034 : decode cL_law 1034 = .ok (.iload_n 3, 1) := all_d dL_law_all14 32 rfl
theorem dL_law_1035 : decode cL_law 1035 = .ok (.iconst 3, 1) := all_d dL_law_all14 33 rfl
theorem dL_law_1036 : decode cL_law 1036 = .ok (.iadd, 1) := all_d dL_law_all14 34 rfl
theorem dL_law_1037 : decode cL_law 1037 = .ok (.iaload, 1) := all_d dL_law_all14 35 rfl
theorem dL_law_1038 : decode cL_law 1038 = .ok (.invokevirtual 124, 3) := all_d dL_law_all14 36 rfl
theorem dL_law_1041 : decode cL_law 1041 = .ok (.if_icmp .eq 215, 3) := all_d dL_law_all14 37 rfl
theorem dL_law_1044 : decode cL_law 1044 = .ok (.iconst 0, 1) := all_d dL_law_all14 38 rfl
theorem dL_law_1045 : decode cL_law 1045 = .ok (.ireturn, 1) := all_d dL_law_all14 39 rfl
theorem dL_law_1046 : decode cL_law 1046 = .ok (.aload_n 1, 1) := all_d dL_law_all14 40 rfl
theorem dL_law_1047 : decode cL_law 1047 = .ok (.invokevirtual 125, 3) := all_d dL_law_all14 41 rfl
theorem dL_law_1050 : decode cL_law 1050 = .ok (.aload_n 2, 1) := all_d dL_law_all14 42 rfl
theorem dL_law_1051 : decode cL_law 1051 = .ok (.invokevirtual 128, 3) := all_d dL_law_all14 43 rfl
theorem dL_law_1054 : decode cL_law 1054 = .ok (.if_icmp .eq 202, 3) := all_d dL_law_all14 44 rfl
theorem dL_law_1057 : decode cL_law 1057 = .ok (.iconst 0, 1) := all_d dL_law_all14 45 rfl
theorem dL_law_1058 : decode cL_law 1058 = .ok (.ireturn, 1) := all_d dL_law_all14 46 rfl
theorem dL_law_1059 : decode cL_law 1059 = .ok (.aload_n 1, 1) := all_d dL_law_all14 47 rfl
set_option maxRecDepth 100000 in
theorem dL_law_all15 : ([(1060, (.aload_n 0 : Instr), 1), (1061, (.iload_n 3 : Instr), 1), (1062, (.iconst 1 : Instr), 1), (1063, (.iadd : Instr), 1), (1064, (.iaload : Instr), 1), (1065, (.invokevirtual 129 : Instr), 3), (1068, (.aload_n 2 : Instr), 1), (1069, (.aload_n 0 : Instr), 1), (1070, (.iload_n 3 : Instr), 1), (1071, (.iconst 1 : Instr), 1), (1072, (.iadd : Instr), 1), (1073, (.iaload : Instr), 1), (1074, (.invokevirtual 132 : Instr), 3), (1077, (.if_icmp .eq 179 : Instr), 3), (1080, (.iconst 0 : Instr), 1), (1081, (.ireturn : Instr), 1), (1082, (.aload_n 1 : Instr), 1), (1083, (.invokevirtual 133 : Instr), 3), (1086, (.aload_n 2 : Instr), 1), (1087, (.invokevirtual 136 : Instr), 3), (1090, (.if_icmp .eq 166 : Instr), 3), (1093, (.iconst 0 : Instr), 1), (1094, (.ireturn : Instr), 1), (1095, (.aload_n 1 : Instr), 1), (1096, (.aload_n 0 : Instr), 1), (1097, (.iload_n 3 : Instr), 1), (1098, (.iconst 1 : Instr), 1), (1099, (.iadd : Instr), 1), (1100, (.iaload : Instr), 1), (1101, (.invokevirtual 137 : Instr), 3), (1104, (.aload_n 2 : Instr), 1), (1105, (.aload_n 0 : Instr), 1), (1106, (.iload_n 3 : Instr), 1), (1107, (.iconst 1 : Instr), 1), (1108, (.iadd : Instr), 1), (1109, (.iaload : Instr), 1), (1110, (.invokevirtual 140 : Instr), 3), (1113, (.if_icmp .eq 143 : Instr), 3), (1116, (.iconst 0 : Instr), 1), (1117, (.ireturn : Instr), 1), (1118, (.aload_n 1 : Instr), 1), (1119, (.invokevirtual 141 : Instr), 3), (1122, (.aload_n 2 : Instr), 1), (1123, (.invokevirtual 144 : Instr), 3), (1126, (.if_icmp .eq 130 : Instr), 3), (1129, (.iconst 0 : Instr), 1), (1130, (.ireturn : Instr), 1), (1131, (.aload_n 1 : Instr), 1)] : List (Nat × Instr × Nat)).all (fun q => decide (decode cL_law q.1 = .ok (q.2.1, q.2.2))) = true := by decide +kernel
theorem dL_law_1060 : decode cL_law 1060 = .ok (.aload_n 0, 1) := all_d dL_law_all15 0 rfl
theorem dL_law_1061 : decode cL_law 1061 = .ok (.iload_n 3, 1) := all_d dL_law_all15 1 rfl
theorem dL_law_1062 : decode cL_law 1062 = .ok (.iconst 1, 1) := all_d dL_law_all15 2 rfl
theorem dL_law_1063 : decode cL_law 1063 = .ok (.iadd, 1) := all_d dL_law_all15 3 rfl
theorem dL_law_1064 : decode cL_law 1064 = .ok (.iaload, 1) := all_d dL_law_all15 4 rfl
theorem dL_law_1065 : decode cL_law 1065 = .ok (.invokevirtual 129, 3) := all_d dL_law_all15 5 rfl
theorem dL_law_1068 : decode cL_law 1068 = .ok (.aload_n 2, 1) := all_d dL_law_all15 6 rfl
theorem dL_law_1069 : decode cL_law 1069 = .ok (.aload_n 0, 1) := all_d dL_law_all15 7 rfl
theorem dL_law_1070 : decode cL_law 1070 = .ok (.iload_n 3, 1) := all_d dL_law_all15 8 rfl
theorem dL_law_1071 : decode cL_law 1071 = .ok (.iconst 1, 1) := all_d dL_law_all15 9 rfl
theorem dL_law_1072 : decode cL_law 1072 = .ok (.iadd, 1) := all_d dL_law_all15 10 rfl
theorem dL_law_1073 : decode cL_law 1073 = .ok (.iaload, 1) := all_d dL_law_all15 11 rfl
theorem dL_law_1074 : decode cL_law 1074 = .ok (.invokevirtual 132, 3) := all_d dL_law_all15 12 rfl
theorem dL_law_1077 : decode cL_law 1077 = .ok (.if_icmp .eq 179, 3) := all_d dL_law_all15 13 rfl
theorem dL_law_1080 : decode cL_law 1080 = .ok (.iconst 0, 1) := all_d dL_law_all15 14 rfl
theorem dL_law_1081 : decode cL_law 1081 = .ok (.ireturn, 1) := all_d dL_law_all15 15 rfl
theorem dL_law_1082 : decode cL_law 1082 = .ok (.aload_n 1, 1) := all_d dL_law_all15 16 rfl
theorem dL_law_1083 : decode cL_law 1083 = .ok (.invokevirtual 133, 3) := all_d dL_law_all15 17 rfl
theorem dL_law_1086 : decode cL_law 1086 = .ok (.aload_n 2, 1) := all_d dL_law_all15 18 rfl
theorem dL_law_1087 : decode cL_law 1087 = .ok (.invokevirtual 136, 3) := all_d dL_law_all15 19 rfl
theorem dL_law_1090 : decode cL_law 1090 = .ok (.if_icmp .eq 166, 3) := all_d dL_law_all15 20 rfl
theorem dL_law_1093 : decode cL_law 1093 = .ok (.iconst 0, 1) := all_d dL_law_all15 21 rfl
theorem dL_law_1094 : decode cL_law 1094 = .ok (.ireturn, 1) := all_d dL_law_all15 22 rfl
theorem dL_law_1095 : decode cL_law 1095 = .ok (.aload_n 1, 1) := all_d dL_law_all15 23 rfl
theorem dL_law_1096 : decode cL_law 1096 = .ok (.aload_n 0, 1) := all_d dL_law_all15 24 rfl
theorem dL_law_1097 : decode cL_law 1097 = .ok (.iload_n 3, 1) := all_d dL_law_all15 25 rfl
theorem dL_law_1098 : decode cL_law 1098 = .ok (.iconst 1, 1) := all_d dL_law_all15 26 rfl
theorem dL_law_1099 : decode cL_law 1099 = .ok (.iadd, 1) := all_d dL_law_all15 27 rfl
theorem dL_law_1100 : decode cL_law 1100 = .ok (.iaload, 1) := all_d dL_law_all15 28 rfl
theorem dL_law_1101 : decode cL_law 1101 = .ok (.invokevirtual 137, 3) := all_d dL_law_all15 29 rfl
theorem dL_law_1104 : decode cL_law 1104 = .ok (.aload_n 2, 1) := all_d dL_law_all15 30 rfl
theorem dL_law_1105 : decode cL_law 1105 = .ok (.aload_n 0, 1) := all_d dL_law_all15 31 rfl
theorem dL_law_1106 : decode cL_law 1106 = .ok (.iload_n 3, 1) := all_d dL_law_all15 32 rfl
theorem dL_law_1107 : decode cL_law 1107 = .ok (.iconst 1, 1) := all_d dL_law_all15 33 rfl
theorem dL_law_1108 : decode cL_law 1108 = .ok (.iadd, 1) := all_d dL_law_all15 34 rfl
theorem dL_law_1109 : decode cL_law 1109 = .ok (.iaload, 1) := all_d dL_law_all15 35 rfl
theorem dL_law_1110 : decode cL_law 1110 = .ok (.invokevirtual 140, 3) := all_d dL_law_all15 36 rfl
theorem dL_law_1113 : decode cL_law 1113 = .ok (.if_icmp .eq 143, 3) := all_d dL_law_all15 37 rfl
theorem dL_law_1116 : decode cL_law 1116 = .ok (.iconst 0, 1) := all_d dL_law_all15 38 rfl
theorem dL_law_1117 : decode cL_law 1117 = .ok (.ireturn, 1) := all_d dL_law_all15 39 rfl
theorem dL_law_1118 : decode cL_law 1118 = .ok (.aload_n 1, 1) := all_d dL_law_all15 40 rfl
theorem dL_law_1119 : decode cL_law 1119 = .ok (.invokevirtual 141, 3) := all_d dL_law_all15 41 rfl
theorem dL_law_1122 : decode cL_law 1122 = .ok (.aload_n 2, 1) := all_d dL_law_all15 42 rfl
theorem dL_law_1123 : decode cL_law 1123 = .ok (.invokevirtual 144, 3) := all_d dL_law_all15 43 rfl
theorem dL_law_1126 : decode cL_law 1126 = .ok (.if_icmp .eq 130, 3) := all_d dL_law_all15 44 rfl
theorem dL_law_1129 : decode cL_law 1129 = .ok (.iconst 0, 1) := all_d dL_law_all15 45 rfl
theorem dL_law_1130 : decode cL_law 1130 = .ok (.ireturn, 1) := all_d dL_law_all15 46 rfl
theorem dL_law_1131 : decode cL_law 1131 = .ok (.aload_n 1, 1) := all_d dL_law_all15 47 rfl
set_option maxRecDepth 100000 in
theorem dL_law_all16 : ([(1132, (.aload_n 0 : Instr), 1), (1133, (.iload_n 3 : Instr), 1), (1134, (.iconst 1 : Instr), 1), (1135, (.iadd : Instr), 1), (1136, (.iaload : Instr), 1), (1137, (.invokevirtual 145 : Instr), 3), (1140, (.aload_n 2 : Instr), 1), (1141, (.aload_n 0 : Instr), 1), (1142, (.iload_n 3 : Instr), 1), (1143, (.iconst 1 : Instr), 1), (1144, (.iadd : Instr), 1), (1145, (.iaload : Instr), 1), (1146, (.invokevirtual 148 : Instr), 3), (1149, (.if_icmp .eq 107 : Instr), 3), (1152, (.iconst 0 : Instr), 1), (1153, (.ireturn : Instr), 1), (1154, (.aload_n 1 : Instr), 1), (1155, (.aload_n 0 : Instr), 1), (1156, (.iload_n 3 : Instr), 1), (1157, (.iconst 1 : Instr), 1), (1158, (.iadd : Instr), 1), (1159, (.iaload : Instr), 1), (1160, (.aload_n 0 : Instr), 1), (1161, (.iload_n 3 : Instr), 1), (1162, (.iconst 2 : Instr), 1), (1163, (.iadd : Instr), 1), (1164, (.iaload : Instr), 1), (1165, (.aload_n 0 : Instr), 1), (1166, (.iload_n 3 : Instr), 1), (1167, (.iconst 3 : Instr), 1), (1168, (.iadd : Instr), 1), (1169, (.iaload : Instr), 1), (1170, (.aload_n 0 : Instr), 1), (1171, (.iload_n 3 : Instr), 1), (1172, (.iconst 4 : Instr), 1), (1173, (.iadd : Instr), 1), (1174, (.iaload : Instr), 1), (1175, (.invokevirtual 149 : Instr), 3), (1178, (.aload_n 2 : Instr), 1), (1179, (.aload_n 0 : Instr), 1), (1180, (.iload_n 3 : Instr), 1), (1181, (.iconst 1 : Instr), 1), (1182, (.iadd : Instr), 1), (1183, (.iaload : Instr), 1), (1184, (.aload_n 0 : Instr), 1), (1185, (.iload_n 3 : Instr), 1), (1186, (.iconst 2 : Instr), 1), (1187, (.iadd : Instr), 1)] : List (Nat × Instr × Nat)).all (fun q => decide (decode cL_law q.1 = .ok (q.2.1, q.2.2))) = true := by decide +kernel
theorem dL_law_1132 : decode cL_law 1132 = .ok (.aload_n 0, 1) := all_d dL_law_all16 0 rfl
theorem dL_law_1133 : decode cL_law 1133 = .ok (.iload_n 3, 1) := all_d dL_law_all16 1 rfl
theorem dL_law_1134 : decode cL_law 1134 = .ok (.iconst 1, 1) := all_d dL_law_all16 2 rfl
theorem dL_law_1135 : decode cL_law 1135 = .ok (.iadd, 1) := all_d dL_law_all16 3 rfl
theorem dL_law_1136 : decode cL_law 1136 = .ok (.iaload, 1) := all_d dL_law_all16 4 rfl
theorem dL_law_1137 : decode cL_law 1137 = .ok (.invokevirtual 145, 3) := all_d dL_law_all16 5 rfl
theorem dL_law_1140 : decode cL_law 1140 = .ok (.aload_n 2, 1) := all_d dL_law_all16 6 rfl
theorem dL_law_1141 : decode cL_law 1141 = .ok (.aload_n 0, 1) := all_d dL_law_all16 7 rfl
theorem dL_law_1142 : decode cL_law 1142 = .ok (.iload_n 3, 1) := all_d dL_law_all16 8 rfl
theorem dL_law_1143 : decode cL_law 1143 = .ok (.iconst 1, 1) := all_d dL_law_all16 9 rfl
theorem dL_law_1144 : decode cL_law 1144 = .ok (.iadd, 1) := all_d dL_law_all16 10 rfl
theorem dL_law_1145 : decode cL_law 1145 = .ok (.iaload, 1) := all_d dL_law_all16 11 rfl
theorem dL_law_1146 : decode cL_law 1146 = .ok (.invokevirtual 148, 3) := all_d dL_law_all16 12 rfl
theorem dL_law_1149 : decode cL_law 1149 = .ok (.if_icmp .eq 107, 3) := all_d dL_law_all16 13 rfl
theorem dL_law_1152 : decode cL_law 1152 = .ok (.iconst 0, 1) := all_d dL_law_all16 14 rfl
theorem dL_law_1153 : decode cL_law 1153 = .ok (.ireturn, 1) := all_d dL_law_all16 15 rfl
theorem dL_law_1154 : decode cL_law 1154 = .ok (.aload_n 1, 1) := all_d dL_law_all16 16 rfl
theorem dL_law_1155 : decode cL_law 1155 = .ok (.aload_n 0, 1) := all_d dL_law_all16 17 rfl
theorem dL_law_1156 : decode cL_law 1156 = .ok (.iload_n 3, 1) := all_d dL_law_all16 18 rfl
theorem dL_law_1157 : decode cL_law 1157 = .ok (.iconst 1, 1) := all_d dL_law_all16 19 rfl
theorem dL_law_1158 : decode cL_law 1158 = .ok (.iadd, 1) := all_d dL_law_all16 20 rfl
theorem dL_law_1159 : decode cL_law 1159 = .ok (.iaload, 1) := all_d dL_law_all16 21 rfl
theorem dL_law_1160 : decode cL_law 1160 = .ok (.aload_n 0, 1) := all_d dL_law_all16 22 rfl
theorem dL_law_1161 : decode cL_law 1161 = .ok (.iload_n 3, 1) := all_d dL_law_all16 23 rfl
theorem dL_law_1162 : decode cL_law 1162 = .ok (.iconst 2, 1) := all_d dL_law_all16 24 rfl
theorem dL_law_1163 : decode cL_law 1163 = .ok (.iadd, 1) := all_d dL_law_all16 25 rfl
theorem dL_law_1164 : decode cL_law 1164 = .ok (.iaload, 1) := all_d dL_law_all16 26 rfl
theorem dL_law_1165 : decode cL_law 1165 = .ok (.aload_n 0, 1) := all_d dL_law_all16 27 rfl
theorem dL_law_1166 : decode cL_law 1166 = .ok (.iload_n 3, 1) := all_d dL_law_all16 28 rfl
theorem dL_law_1167 : decode cL_law 1167 = .ok (.iconst 3, 1) := all_d dL_law_all16 29 rfl
theorem dL_law_1168 : decode cL_law 1168 = .ok (.iadd, 1) := all_d dL_law_all16 30 rfl
theorem dL_law_1169 : decode cL_law 1169 = .ok (.iaload, 1) := all_d dL_law_all16 31 rfl
theorem dL_law_1170 : decode cL_law 1170 = .ok (.aload_n 0, 1) := all_d dL_law_all16 32 rfl
theorem dL_law_1171 : decode cL_law 1171 = .ok (.iload_n 3, 1) := all_d dL_law_all16 33 rfl
theorem dL_law_1172 : decode cL_law 1172 = .ok (.iconst 4, 1) := all_d dL_law_all16 34 rfl
theorem dL_law_1173 : decode cL_law 1173 = .ok (.iadd, 1) := all_d dL_law_all16 35 rfl
theorem dL_law_1174 : decode cL_law 1174 = .ok (.iaload, 1) := all_d dL_law_all16 36 rfl
theorem dL_law_1175 : decode cL_law 1175 = .ok (.invokevirtual 149, 3) := all_d dL_law_all16 37 rfl
theorem dL_law_1178 : decode cL_law 1178 = .ok (.aload_n 2, 1) := all_d dL_law_all16 38 rfl
theorem dL_law_1179 : decode cL_law 1179 = .ok (.aload_n 0, 1) := all_d dL_law_all16 39 rfl
theorem dL_law_1180 : decode cL_law 1180 = .ok (.iload_n 3, 1) := all_d dL_law_all16 40 rfl
theorem dL_law_1181 : decode cL_law 1181 = .ok (.iconst 1, 1) := all_d dL_law_all16 41 rfl
theorem dL_law_1182 : decode cL_law 1182 = .ok (.iadd, 1) := all_d dL_law_all16 42 rfl
theorem dL_law_1183 : decode cL_law 1183 = .ok (.iaload, 1) := all_d dL_law_all16 43 rfl
theorem dL_law_1184 : decode cL_law 1184 = .ok (.aload_n 0, 1) := all_d dL_law_all16 44 rfl
theorem dL_law_1185 : decode cL_law 1185 = .ok (.iload_n 3, 1) := all_d dL_law_all16 45 rfl
theorem dL_law_1186 : decode cL_law 1186 = .ok (.iconst 2, 1) := all_d dL_law_all16 46 rfl
theorem dL_law_1187 : decode cL_law 1187 = .ok (.iadd, 1) := all_d dL_law_all16 47 rfl
set_option maxRecDepth 100000 in
theorem dL_law_all17 : ([(1188, (.iaload : Instr), 1), (1189, (.aload_n 0 : Instr), 1), (1190, (.iload_n 3 : Instr), 1), (1191, (.iconst 3 : Instr), 1), (1192, (.iadd : Instr), 1), (1193, (.iaload : Instr), 1), (1194, (.aload_n 0 : Instr), 1), (1195, (.iload_n 3 : Instr), 1), (1196, (.iconst 4 : Instr), 1), (1197, (.iadd : Instr), 1), (1198, (.iaload : Instr), 1), (1199, (.invokevirtual 153 : Instr), 3), (1202, (.if_icmp .eq 54 : Instr), 3), (1205, (.iconst 0 : Instr), 1), (1206, (.ireturn : Instr), 1), (1207, (.aload_n 1 : Instr), 1), (1208, (.invokevirtual 154 : Instr), 3), (1211, (.aload_n 2 : Instr), 1), (1212, (.invokevirtual 157 : Instr), 3), (1215, (.if_icmp .eq 41 : Instr), 3), (1218, (.iconst 0 : Instr), 1), (1219, (.ireturn : Instr), 1), (1220, (.aload_n 1 : Instr), 1), (1221, (.aload_n 0 : Instr), 1), (1222, (.iload_n 3 : Instr), 1), (1223, (.iconst 1 : Instr), 1), (1224, (.iadd : Instr), 1), (1225, (.iaload : Instr), 1), (1226, (.invokevirtual 158 : Instr), 3), (1229, (.aload_n 2 : Instr), 1), (1230, (.aload_n 0 : Instr), 1), (1231, (.iload_n 3 : Instr), 1), (1232, (.iconst 1 : Instr), 1), (1233, (.iadd : Instr), 1), (1234, (.iaload : Instr), 1), (1235, (.invokevirtual 161 : Instr), 3), (1238, (.if_icmp .eq 18 : Instr), 3), (1241, (.iconst 0 : Instr), 1), (1242, (.ireturn : Instr), 1), (1243, (.aload_n 1 : Instr), 1), (1244, (.invokevirtual 162 : Instr), 3), (1247, (.aload_n 2 : Instr), 1), (1248, (.invokevirtual 165 : Instr), 3), (1251, (.if_icmp .eq 5 : Instr), 3), (1254, (.iconst 0 : Instr), 1), (1255, (.ireturn : Instr), 1), (1256, (.iinc 3 6 : Instr), 3), (1259, (.goto (-1241) : Instr), 3)] : List (Nat × Instr × Nat)).all (fun q => decide (decode cL_law q.1 = .ok (q.2.1, q.2.2))) = true := by decide +kernel
theorem dL_law_1188 : decode cL_law 1188 = .ok (.iaload, 1) := all_d dL_law_all17 0 rfl
theorem dL_law_1189 : decode cL_law 1189 = .ok (.aload_n 0, 1) := all_d dL_law_all17 1 rfl
theorem dL_law_1190 : decode cL_law 1190 = .ok (.iload_n 3, 1) := all_d dL_law_all17 2 rfl
theorem dL_law_1191 : decode cL_law 1191 = .ok (.iconst 3, 1) := all_d dL_law_all17 3 rfl
theorem dL_law_1192 : decode cL_law 1192 = .ok (.iadd, 1) := all_d dL_law_all17 4 rfl
theorem dL_law_1193 : decode cL_law 1193 = .ok (.iaload, 1) := all_d dL_law_all17 5 rfl
theorem dL_law_1194 : decode cL_law 1194 = .ok (.aload_n 0, 1) := all_d dL_law_all17 6 rfl
theorem dL_law_1195 : decode cL_law 1195 = .ok (.iload_n 3, 1) := all_d dL_law_all17 7 rfl
theorem dL_law_1196 : decode cL_law 1196 = .ok (.iconst 4, 1) := all_d dL_law_all17 8 rfl
theorem dL_law_1197 : decode cL_law 1197 = .ok (.iadd, 1) := all_d dL_law_all17 9 rfl
theorem dL_law_1198 : decode cL_law 1198 = .ok (.iaload, 1) := all_d dL_law_all17 10 rfl
theorem dL_law_1199 : decode cL_law 1199 = .ok (.invokevirtual 153, 3) := all_d dL_law_all17 11 rfl
theorem dL_law_1202 : decode cL_law 1202 = .ok (.if_icmp .eq 54, 3) := all_d dL_law_all17 12 rfl
theorem dL_law_1205 : decode cL_law 1205 = .ok (.iconst 0, 1) := all_d dL_law_all17 13 rfl
theorem dL_law_1206 : decode cL_law 1206 = .ok (.ireturn, 1) := all_d dL_law_all17 14 rfl
theorem dL_law_1207 : decode cL_law 1207 = .ok (.aload_n 1, 1) := all_d dL_law_all17 15 rfl
theorem dL_law_1208 : decode cL_law 1208 = .ok (.invokevirtual 154, 3) := all_d dL_law_all17 16 rfl
theorem dL_law_1211 : decode cL_law 1211 = .ok (.aload_n 2, 1) := all_d dL_law_all17 17 rfl
theorem dL_law_1212 : decode cL_law 1212 = .ok (.invokevirtual 157, 3) := all_d dL_law_all17 18 rfl
theorem dL_law_1215 : decode cL_law 1215 = .ok (.if_icmp .eq 41, 3) := all_d dL_law_all17 19 rfl
theorem dL_law_1218 : decode cL_law 1218 = .ok (.iconst 0, 1) := all_d dL_law_all17 20 rfl
theorem dL_law_1219 : decode cL_law 1219 = .ok (.ireturn, 1) := all_d dL_law_all17 21 rfl
theorem dL_law_1220 : decode cL_law 1220 = .ok (.aload_n 1, 1) := all_d dL_law_all17 22 rfl
theorem dL_law_1221 : decode cL_law 1221 = .ok (.aload_n 0, 1) := all_d dL_law_all17 23 rfl
theorem dL_law_1222 : decode cL_law 1222 = .ok (.iload_n 3, 1) := all_d dL_law_all17 24 rfl
theorem dL_law_1223 : decode cL_law 1223 = .ok (.iconst 1, 1) := all_d dL_law_all17 25 rfl
theorem dL_law_1224 : decode cL_law 1224 = .ok (.iadd, 1) := all_d dL_law_all17 26 rfl
theorem dL_law_1225 : decode cL_law 1225 = .ok (.iaload, 1) := all_d dL_law_all17 27 rfl
theorem dL_law_1226 : decode cL_law 1226 = .ok (.invokevirtual 158, 3) := all_d dL_law_all17 28 rfl
theorem dL_law_1229 : decode cL_law 1229 = .ok (.aload_n 2, 1) := all_d dL_law_all17 29 rfl
theorem dL_law_1230 : decode cL_law 1230 = .ok (.aload_n 0, 1) := all_d dL_law_all17 30 rfl
theorem dL_law_1231 : decode cL_law 1231 = .ok (.iload_n 3, 1) := all_d dL_law_all17 31 rfl
theorem dL_law_1232 : decode cL_law 1232 = .ok (.iconst 1, 1) := all_d dL_law_all17 32 rfl
theorem dL_law_1233 : decode cL_law 1233 = .ok (.iadd, 1) := all_d dL_law_all17 33 rfl
theorem dL_law_1234 : decode cL_law 1234 = .ok (.iaload, 1) := all_d dL_law_all17 34 rfl
theorem dL_law_1235 : decode cL_law 1235 = .ok (.invokevirtual 161, 3) := all_d dL_law_all17 35 rfl
theorem dL_law_1238 : decode cL_law 1238 = .ok (.if_icmp .eq 18, 3) := all_d dL_law_all17 36 rfl
theorem dL_law_1241 : decode cL_law 1241 = .ok (.iconst 0, 1) := all_d dL_law_all17 37 rfl
theorem dL_law_1242 : decode cL_law 1242 = .ok (.ireturn, 1) := all_d dL_law_all17 38 rfl
theorem dL_law_1243 : decode cL_law 1243 = .ok (.aload_n 1, 1) := all_d dL_law_all17 39 rfl
theorem dL_law_1244 : decode cL_law 1244 = .ok (.invokevirtual 162, 3) := all_d dL_law_all17 40 rfl
theorem dL_law_1247 : decode cL_law 1247 = .ok (.aload_n 2, 1) := all_d dL_law_all17 41 rfl
theorem dL_law_1248 : decode cL_law 1248 = .ok (.invokevirtual 165, 3) := all_d dL_law_all17 42 rfl
theorem dL_law_1251 : decode cL_law 1251 = .ok (.if_icmp .eq 5, 3) := all_d dL_law_all17 43 rfl
theorem dL_law_1254 : decode cL_law 1254 = .ok (.iconst 0, 1) := all_d dL_law_all17 44 rfl
theorem dL_law_1255 : decode cL_law 1255 = .ok (.ireturn, 1) := all_d dL_law_all17 45 rfl
theorem dL_law_1256 : decode cL_law 1256 = .ok (.iinc 3 6, 3) := all_d dL_law_all17 46 rfl
theorem dL_law_1259 : decode cL_law 1259 = .ok (.goto (-1241), 3) := all_d dL_law_all17 47 rfl
set_option maxRecDepth 100000 in
theorem dL_law_all18 : ([(1262, (.iconst 1 : Instr), 1), (1263, (.ireturn : Instr), 1)] : List (Nat × Instr × Nat)).all (fun q => decide (decode cL_law q.1 = .ok (q.2.1, q.2.2))) = true := by decide +kernel
theorem dL_law_1262 : decode cL_law 1262 = .ok (.iconst 1, 1) := all_d dL_law_all18 0 rfl
theorem dL_law_1263 : decode cL_law 1263 = .ok (.ireturn, 1) := all_d dL_law_all18 1 rfl
