section LawRules
variable {G : GG} {d rc rs : Nat} {md : MD} {pc : Nat} {lv : List (Option Value)} {st : List Value} {X : Mem} {Q : Option Value → Mem → Prop} {b L : Nat} {xs : Nat → Int32}
theorem va_X.lt {U : State} {H : Heap} (h : va_X b L xs U H) : b < H.size := by
  obtain ⟨scr, h1, -⟩ := h
  exact (Array.getElem?_eq_some_iff.mp h1).1
theorem Cx.scr {p : Program} {s : State} {m : MethodId} {meth : Method} {c : Code} {H : Heap} {locs : List Loc} {ls : Array Slot} (hX : va_X b L xs (g_s G) (g_s G).heap) (hc : Cx G md p s m meth c) (hy : Cy G md s X lv H locs ls) : va_X b L xs s s.heap := by
  have hb : b < g_b G := va_X.lt hX
  refine (hX.moved hc.2.2.2.2.2.2.2.1.alike).kept ?_
  rw [← hy.2.1.2.1 b (Nat.lt_of_lt_of_le hb hc.2.2.2.2.2.2.2.2) (fun h => by have : g_b G ≤ b := h; omega)]
  exact hy.1.2.2.1 b hb
theorem r_sld {i : Int32} (hX : va_X b L xs (g_s G) (g_s G).heap) (hd : decode md.2.1 pc = .ok (.iaload, 1)) (hi : vp_in i L) (kk : Wk G d rc rs md (pc + 1) lv (.int (xs i.toNatClampNeg) :: st) X Q) : Wk G d rc rs md pc lv (.int i :: .ref b :: st) X Q := by
  intro hG p e s m args below meth c H locs ls cells slots mc ms hc hy h1 h2
  have hb : b < g_b G := va_X.lt hX
  exact va_sld hc.1 hc.2.1 (hc.scr hX hy) (Nat.lt_of_lt_of_le hb hc.2.2.2.2.2.2.2.2) (fun h => by have : g_b G ≤ b := h; omega) hy.2.1 hi hd (kk hG p e s m args below meth c H locs ls cells slots mc ms hc hy h1 h2)
theorem r_slen (hX : va_X b L xs (g_s G) (g_s G).heap) (hd : decode md.2.1 pc = .ok (.arraylength, 1)) (kk : Wk G d rc rs md (pc + 1) lv (.int (nI L) :: st) X Q) : Wk G d rc rs md pc lv (.ref b :: st) X Q := by
  intro hG p e s m args below meth c H locs ls cells slots mc ms hc hy h1 h2
  have hb : b < g_b G := va_X.lt hX
  exact va_slen hc.1 hc.2.1 (hc.scr hX hy) (Nat.lt_of_lt_of_le hb hc.2.2.2.2.2.2.2.2) (fun h => by have : g_b G ≤ b := h; omega) hy.2.1 hd (kk hG p e s m args below meth c H locs ls cells slots mc ms hc hy h1 h2)
end LawRules
abbrev mL_law : MD := (yL_law, cL_law, 4, (some .boolean))
theorem lkL_9 : LOK RL 9 mX11_init.1 := Or.inl ww_24
theorem lkL_12 : LOK RL 12 mX12_init.1 := Or.inl ww_1200
theorem lkL_13 : LOK RL 13 mX11_begin.1 := Or.inl ww_468
theorem lkL_17 : LOK RL 17 mX12_begin.1 := Or.inl ww_1485
theorem lkL_18 : LOK RL 18 mX11_sheet.1 := Or.inl ww_480
theorem lkL_22 : LOK RL 22 mX12_sheet.1 := Or.inl ww_1500
theorem lkL_23 : LOK RL 23 mX11_cell.1 := Or.inl ww_487
theorem lkL_26 : LOK RL 26 mX12_cell.1 := Or.inl ww_1504
theorem lkL_27 : LOK RL 27 mX11_machine.1 := Or.inl ww_491
theorem lkL_31 : LOK RL 31 mX12_machine.1 := Or.inl ww_1508
theorem lkL_32 : LOK RL 32 mX11_grown.1 := Or.inl ww_592
theorem lkL_35 : LOK RL 35 mX12_grown.1 := Or.inl ww_1545
theorem lkL_36 : LOK RL 36 mX11_ring.1 := Or.inl ww_604
theorem lkL_39 : LOK RL 39 mX12_ring.1 := Or.inl ww_1549
theorem lkL_40 : LOK RL 40 mX11_pair.1 := Or.inl ww_612
theorem lkL_43 : LOK RL 43 mX12_pair.1 := Or.inl ww_1553
theorem lkL_44 : LOK RL 44 mX11_sought.1 := Or.inl ww_659
theorem lkL_47 : LOK RL 47 mX12_sought.1 := Or.inl ww_1573
theorem lkL_50 : LOK RL 50 mX11_feed.1 := Or.inl ww_681
theorem lkL_54 : LOK RL 54 mX12_feed.1 := Or.inl ww_1584
theorem lkL_55 : LOK RL 55 mX11_question.1 := Or.inl ww_685
theorem lkL_59 : LOK RL 59 mX12_question.1 := Or.inl ww_1593
theorem lkL_60 : LOK RL 60 mX11_drop.1 := Or.inl ww_971
theorem lkL_63 : LOK RL 63 mX12_drop.1 := Or.inl ww_1589
theorem lkL_64 : LOK RL 64 mX11_count.1 := Or.inl ww_983
theorem lkL_67 : LOK RL 67 mX12_count.1 := Or.inl ww_1749
theorem lkL_68 : LOK RL 68 mX11_kind.1 := Or.inl ww_987
theorem lkL_71 : LOK RL 71 mX12_kind.1 := Or.inl ww_1753
theorem lkL_72 : LOK RL 72 mX11_letter.1 := Or.inl ww_991
theorem lkL_75 : LOK RL 75 mX12_letter.1 := Or.inl ww_1757
theorem lkL_76 : LOK RL 76 mX11_width.1 := Or.inl ww_1002
theorem lkL_79 : LOK RL 79 mX12_width.1 := Or.inl ww_1769
theorem lkL_80 : LOK RL 80 mX11_differ.1 := Or.inl ww_1006
theorem lkL_84 : LOK RL 84 mX12_differ.1 := Or.inl ww_1773
theorem lkL_85 : LOK RL 85 mX11_told.1 := Or.inl ww_1026
theorem lkL_89 : LOK RL 89 mX12_told.1 := Or.inl ww_1785
theorem lkL_90 : LOK RL 90 mX11_step.1 := Or.inl ww_1039
theorem lkL_93 : LOK RL 93 mX12_step.1 := Or.inl ww_1792
theorem lkL_94 : LOK RL 94 mX11_takes.1 := Or.inl ww_1044
theorem lkL_97 : LOK RL 97 mX12_takes.1 := Or.inl ww_1800
theorem lkL_98 : LOK RL 98 mX11_holds.1 := Or.inl ww_1048
theorem lkL_102 : LOK RL 102 mX12_holds.1 := Or.inl ww_1804
theorem lkL_103 : LOK RL 103 mX11_next.1 := Or.inl ww_1056
theorem lkL_107 : LOK RL 107 mX12_next_.1 := Or.inl ww_1808
theorem lkL_108 : LOK RL 108 mX11_many.1 := Or.inl ww_1090
theorem lkL_112 : LOK RL 112 mX12_many.1 := Or.inl ww_1824
theorem lkL_113 : LOK RL 113 mX11_values.1 := Or.inl ww_1118
theorem lkL_116 : LOK RL 116 mX12_values.1 := Or.inl ww_1851
theorem lkL_117 : LOK RL 117 mX11_alike.1 := Or.inl ww_1127
theorem lkL_120 : LOK RL 120 mX12_alike.1 := Or.inl ww_1856
theorem lkL_121 : LOK RL 121 mX11_act.1 := Or.inl ww_1135
theorem lkL_124 : LOK RL 124 mX12_act.1 := Or.inl ww_1860
theorem lkL_125 : LOK RL 125 mX11_trace.1 := Or.inl ww_1167
theorem lkL_128 : LOK RL 128 mX12_trace.1 := Or.inl ww_1892
theorem lkL_129 : LOK RL 129 mX11_forge.1 := Or.inl ww_1171
theorem lkL_132 : LOK RL 132 mX12_forge.1 := Or.inl ww_1896
theorem lkL_133 : LOK RL 133 mX11_status.1 := Or.inl ww_1194
theorem lkL_136 : LOK RL 136 mX12_status.1 := Or.inl ww_1911
theorem dL_law_0 : decode cL_law 0 = .ok (.new 7, 3) := by decide +kernel
theorem dL_law_3 : decode cL_law 3 = .ok (.dup, 1) := by decide +kernel
theorem dL_law_4 : decode cL_law 4 = .ok (.invokespecial 9, 3) := by decide +kernel
theorem dL_law_7 : decode cL_law 7 = .ok (.astore_n 1, 1) := by decide +kernel
theorem dL_law_8 : decode cL_law 8 = .ok (.new 10, 3) := by decide +kernel
theorem dL_law_11 : decode cL_law 11 = .ok (.dup, 1) := by decide +kernel
theorem dL_law_12 : decode cL_law 12 = .ok (.invokespecial 12, 3) := by decide +kernel
theorem dL_law_15 : decode cL_law 15 = .ok (.astore_n 2, 1) := by decide +kernel
theorem dL_law_16 : decode cL_law 16 = .ok (.iconst 0, 1) := by decide +kernel
theorem dL_law_17 : decode cL_law 17 = .ok (.istore_n 3, 1) := by decide +kernel
theorem dL_law_18 : decode cL_law 18 = .ok (.iload_n 3, 1) := by decide +kernel
theorem dL_law_19 : decode cL_law 19 = .ok (.aload_n 0, 1) := by decide +kernel
theorem dL_law_20 : decode cL_law 20 = .ok (.arraylength, 1) := by decide +kernel
theorem dL_law_21 : decode cL_law 21 = .ok (.bipush 8, 2) := by decide +kernel
theorem dL_law_23 : decode cL_law 23 = .ok (.isub, 1) := by decide +kernel
theorem dL_law_24 : decode cL_law 24 = .ok (.if_icmp .gt 1294, 3) := by decide +kernel
theorem dL_law_27 : decode cL_law 27 = .ok (.aload_n 0, 1) := by decide +kernel
theorem dL_law_28 : decode cL_law 28 = .ok (.iload_n 3, 1) := by decide +kernel
theorem dL_law_29 : decode cL_law 29 = .ok (.iaload, 1) := by decide +kernel
theorem dL_law_30 : decode cL_law 30 = .ok (.bipush 31, 2) := by decide +kernel
theorem dL_law_32 : decode cL_law 32 = .ok (.iand, 1) := by decide +kernel
theorem dL_law_33 : decode cL_law 33 = .ok (.tableswitch 1279 0 27 #[127, 150, 193, 236, 289, 332, 385, 428, 451, 514, 527, 550, 573, 596, 659, 682, 716, 749, 792, 825, 972, 1036, 1060, 1124, 1157, 1200, 1223, 1266], 127) := by decide +kernel
theorem dL_law_160 : decode cL_law 160 = .ok (.aload_n 1, 1) := by decide +kernel
theorem dL_law_161 : decode cL_law 161 = .ok (.aload_n 0, 1) := by decide +kernel
theorem dL_law_162 : decode cL_law 162 = .ok (.iload_n 3, 1) := by decide +kernel
theorem dL_law_163 : decode cL_law 163 = .ok (.iconst 1, 1) := by decide +kernel
theorem dL_law_164 : decode cL_law 164 = .ok (.iadd, 1) := by decide +kernel
theorem dL_law_165 : decode cL_law 165 = .ok (.iaload, 1) := by decide +kernel
theorem dL_law_166 : decode cL_law 166 = .ok (.invokevirtual 13, 3) := by decide +kernel
theorem dL_law_169 : decode cL_law 169 = .ok (.aload_n 2, 1) := by decide +kernel
theorem dL_law_170 : decode cL_law 170 = .ok (.aload_n 0, 1) := by decide +kernel
theorem dL_law_171 : decode cL_law 171 = .ok (.iload_n 3, 1) := by decide +kernel
theorem dL_law_172 : decode cL_law 172 = .ok (.iconst 1, 1) := by decide +kernel
theorem dL_law_173 : decode cL_law 173 = .ok (.iadd, 1) := by decide +kernel
theorem dL_law_174 : decode cL_law 174 = .ok (.iaload, 1) := by decide +kernel
theorem dL_law_175 : decode cL_law 175 = .ok (.invokevirtual 17, 3) := by decide +kernel
theorem dL_law_178 : decode cL_law 178 = .ok (.if_icmp .eq 1134, 3) := by decide +kernel
theorem dL_law_181 : decode cL_law 181 = .ok (.iconst 0, 1) := by decide +kernel
theorem dL_law_182 : decode cL_law 182 = .ok (.ireturn, 1) := by decide +kernel
theorem dL_law_183 : decode cL_law 183 = .ok (.aload_n 1, 1) := by decide +kernel
theorem dL_law_184 : decode cL_law 184 = .ok (.aload_n 0, 1) := by decide +kernel
theorem dL_law_185 : decode cL_law 185 = .ok (.iload_n 3, 1) := by decide +kernel
theorem dL_law_186 : decode cL_law 186 = .ok (.iconst 1, 1) := by decide +kernel
theorem dL_law_187 : decode cL_law 187 = .ok (.iadd, 1) := by decide +kernel
theorem dL_law_188 : decode cL_law 188 = .ok (.iaload, 1) := by decide +kernel
theorem dL_law_189 : decode cL_law 189 = .ok (.aload_n 0, 1) := by decide +kernel
theorem dL_law_190 : decode cL_law 190 = .ok (.iload_n 3, 1) := by decide +kernel
theorem dL_law_191 : decode cL_law 191 = .ok (.iconst 2, 1) := by decide +kernel
theorem dL_law_192 : decode cL_law 192 = .ok (.iadd, 1) := by decide +kernel
theorem dL_law_193 : decode cL_law 193 = .ok (.iaload, 1) := by decide +kernel
theorem dL_law_194 : decode cL_law 194 = .ok (.aload_n 0, 1) := by decide +kernel
theorem dL_law_195 : decode cL_law 195 = .ok (.iload_n 3, 1) := by decide +kernel
theorem dL_law_196 : decode cL_law 196 = .ok (.iconst 3, 1) := by decide +kernel
theorem dL_law_197 : decode cL_law 197 = .ok (.iadd, 1) := by decide +kernel
theorem dL_law_198 : decode cL_law 198 = .ok (.iaload, 1) := by decide +kernel
theorem dL_law_199 : decode cL_law 199 = .ok (.invokevirtual 18, 3) := by decide +kernel
theorem dL_law_202 : decode cL_law 202 = .ok (.aload_n 2, 1) := by decide +kernel
theorem dL_law_203 : decode cL_law 203 = .ok (.aload_n 0, 1) := by decide +kernel
theorem dL_law_204 : decode cL_law 204 = .ok (.iload_n 3, 1) := by decide +kernel
theorem dL_law_205 : decode cL_law 205 = .ok (.iconst 1, 1) := by decide +kernel
theorem dL_law_206 : decode cL_law 206 = .ok (.iadd, 1) := by decide +kernel
theorem dL_law_207 : decode cL_law 207 = .ok (.iaload, 1) := by decide +kernel
theorem dL_law_208 : decode cL_law 208 = .ok (.aload_n 0, 1) := by decide +kernel
theorem dL_law_209 : decode cL_law 209 = .ok (.iload_n 3, 1) := by decide +kernel
theorem dL_law_210 : decode cL_law 210 = .ok (.iconst 2, 1) := by decide +kernel
theorem dL_law_211 : decode cL_law 211 = .ok (.iadd, 1) := by decide +kernel
theorem dL_law_212 : decode cL_law 212 = .ok (.iaload, 1) := by decide +kernel
theorem dL_law_213 : decode cL_law 213 = .ok (.aload_n 0, 1) := by decide +kernel
theorem dL_law_214 : decode cL_law 214 = .ok (.iload_n 3, 1) := by decide +kernel
theorem dL_law_215 : decode cL_law 215 = .ok (.iconst 3, 1) := by decide +kernel
theorem dL_law_216 : decode cL_law 216 = .ok (.iadd, 1) := by decide +kernel
theorem dL_law_217 : decode cL_law 217 = .ok (.iaload, 1) := by decide +kernel
theorem dL_law_218 : decode cL_law 218 = .ok (.invokevirtual 22, 3) := by decide +kernel
theorem dL_law_221 : decode cL_law 221 = .ok (.if_icmp .eq 1091, 3) := by decide +kernel
theorem dL_law_224 : decode cL_law 224 = .ok (.iconst 0, 1) := by decide +kernel
theorem dL_law_225 : decode cL_law 225 = .ok (.ireturn, 1) := by decide +kernel
theorem dL_law_226 : decode cL_law 226 = .ok (.aload_n 1, 1) := by decide +kernel
theorem dL_law_227 : decode cL_law 227 = .ok (.aload_n 0, 1) := by decide +kernel
theorem dL_law_228 : decode cL_law 228 = .ok (.iload_n 3, 1) := by decide +kernel
theorem dL_law_229 : decode cL_law 229 = .ok (.iconst 1, 1) := by decide +kernel
theorem dL_law_230 : decode cL_law 230 = .ok (.iadd, 1) := by decide +kernel
theorem dL_law_231 : decode cL_law 231 = .ok (.iaload, 1) := by decide +kernel
theorem dL_law_232 : decode cL_law 232 = .ok (.aload_n 0, 1) := by decide +kernel
theorem dL_law_233 : decode cL_law 233 = .ok (.iload_n 3, 1) := by decide +kernel
theorem dL_law_234 : decode cL_law 234 = .ok (.iconst 2, 1) := by decide +kernel
theorem dL_law_235 : decode cL_law 235 = .ok (.iadd, 1) := by decide +kernel
theorem dL_law_236 : decode cL_law 236 = .ok (.iaload, 1) := by decide +kernel
theorem dL_law_237 : decode cL_law 237 = .ok (.aload_n 0, 1) := by decide +kernel
theorem dL_law_238 : decode cL_law 238 = .ok (.iload_n 3, 1) := by decide +kernel
theorem dL_law_239 : decode cL_law 239 = .ok (.iconst 3, 1) := by decide +kernel
theorem dL_law_240 : decode cL_law 240 = .ok (.iadd, 1) := by decide +kernel
theorem dL_law_241 : decode cL_law 241 = .ok (.iaload, 1) := by decide +kernel
theorem dL_law_242 : decode cL_law 242 = .ok (.invokevirtual 23, 3) := by decide +kernel
theorem dL_law_245 : decode cL_law 245 = .ok (.aload_n 2, 1) := by decide +kernel
theorem dL_law_246 : decode cL_law 246 = .ok (.aload_n 0, 1) := by decide +kernel
theorem dL_law_247 : decode cL_law 247 = .ok (.iload_n 3, 1) := by decide +kernel
theorem dL_law_248 : decode cL_law 248 = .ok (.iconst 1, 1) := by decide +kernel
theorem dL_law_249 : decode cL_law 249 = .ok (.iadd, 1) := by decide +kernel
theorem dL_law_250 : decode cL_law 250 = .ok (.iaload, 1) := by decide +kernel
theorem dL_law_251 : decode cL_law 251 = .ok (.aload_n 0, 1) := by decide +kernel
theorem dL_law_252 : decode cL_law 252 = .ok (.iload_n 3, 1) := by decide +kernel
theorem dL_law_253 : decode cL_law 253 = .ok (.iconst 2, 1) := by decide +kernel
theorem dL_law_254 : decode cL_law 254 = .ok (.iadd, 1) := by decide +kernel
theorem dL_law_255 : decode cL_law 255 = .ok (.iaload, 1) := by decide +kernel
theorem dL_law_256 : decode cL_law 256 = .ok (.aload_n 0, 1) := by decide +kernel
theorem dL_law_257 : decode cL_law 257 = .ok (.iload_n 3, 1) := by decide +kernel
theorem dL_law_258 : decode cL_law 258 = .ok (.iconst 3, 1) := by decide +kernel
theorem dL_law_259 : decode cL_law 259 = .ok (.iadd, 1) := by decide +kernel
theorem dL_law_260 : decode cL_law 260 = .ok (.iaload, 1) := by decide +kernel
theorem dL_law_261 : decode cL_law 261 = .ok (.invokevirtual 26, 3) := by decide +kernel
theorem dL_law_264 : decode cL_law 264 = .ok (.if_icmp .eq 1048, 3) := by decide +kernel
theorem dL_law_267 : decode cL_law 267 = .ok (.iconst 0, 1) := by decide +kernel
theorem dL_law_268 : decode cL_law 268 = .ok (.ireturn, 1) := by decide +kernel
theorem dL_law_269 : decode cL_law 269 = .ok (.aload_n 1, 1) := by decide +kernel
theorem dL_law_270 : decode cL_law 270 = .ok (.aload_n 0, 1) := by decide +kernel
theorem dL_law_271 : decode cL_law 271 = .ok (.iload_n 3, 1) := by decide +kernel
theorem dL_law_272 : decode cL_law 272 = .ok (.iconst 1, 1) := by decide +kernel
theorem dL_law_273 : decode cL_law 273 = .ok (.iadd, 1) := by decide +kernel
theorem dL_law_274 : decode cL_law 274 = .ok (.iaload, 1) := by decide +kernel
theorem dL_law_275 : decode cL_law 275 = .ok (.aload_n 0, 1) := by decide +kernel
theorem dL_law_276 : decode cL_law 276 = .ok (.iload_n 3, 1) := by decide +kernel
theorem dL_law_277 : decode cL_law 277 = .ok (.iconst 2, 1) := by decide +kernel
theorem dL_law_278 : decode cL_law 278 = .ok (.iadd, 1) := by decide +kernel
theorem dL_law_279 : decode cL_law 279 = .ok (.iaload, 1) := by decide +kernel
theorem dL_law_280 : decode cL_law 280 = .ok (.aload_n 0, 1) := by decide +kernel
theorem dL_law_281 : decode cL_law 281 = .ok (.iload_n 3, 1) := by decide +kernel
theorem dL_law_282 : decode cL_law 282 = .ok (.iconst 3, 1) := by decide +kernel
theorem dL_law_283 : decode cL_law 283 = .ok (.iadd, 1) := by decide +kernel
theorem dL_law_284 : decode cL_law 284 = .ok (.iaload, 1) := by decide +kernel
theorem dL_law_285 : decode cL_law 285 = .ok (.aload_n 0, 1) := by decide +kernel
theorem dL_law_286 : decode cL_law 286 = .ok (.iload_n 3, 1) := by decide +kernel
theorem dL_law_287 : decode cL_law 287 = .ok (.iconst 4, 1) := by decide +kernel
theorem dL_law_288 : decode cL_law 288 = .ok (.iadd, 1) := by decide +kernel
theorem dL_law_289 : decode cL_law 289 = .ok (.iaload, 1) := by decide +kernel
theorem dL_law_290 : decode cL_law 290 = .ok (.invokevirtual 27, 3) := by decide +kernel
theorem dL_law_293 : decode cL_law 293 = .ok (.aload_n 2, 1) := by decide +kernel
theorem dL_law_294 : decode cL_law 294 = .ok (.aload_n 0, 1) := by decide +kernel
theorem dL_law_295 : decode cL_law 295 = .ok (.iload_n 3, 1) := by decide +kernel
theorem dL_law_296 : decode cL_law 296 = .ok (.iconst 1, 1) := by decide +kernel
theorem dL_law_297 : decode cL_law 297 = .ok (.iadd, 1) := by decide +kernel
theorem dL_law_298 : decode cL_law 298 = .ok (.iaload, 1) := by decide +kernel
theorem dL_law_299 : decode cL_law 299 = .ok (.aload_n 0, 1) := by decide +kernel
theorem dL_law_300 : decode cL_law 300 = .ok (.iload_n 3, 1) := by decide +kernel
theorem dL_law_301 : decode cL_law 301 = .ok (.iconst 2, 1) := by decide +kernel
theorem dL_law_302 : decode cL_law 302 = .ok (.iadd, 1) := by decide +kernel
theorem dL_law_303 : decode cL_law 303 = .ok (.iaload, 1) := by decide +kernel
theorem dL_law_304 : decode cL_law 304 = .ok (.aload_n 0, 1) := by decide +kernel
theorem dL_law_305 : decode cL_law 305 = .ok (.iload_n 3, 1) := by decide +kernel
theorem dL_law_306 : decode cL_law 306 = .ok (.iconst 3, 1) := by decide +kernel
theorem dL_law_307 : decode cL_law 307 = .ok (.iadd, 1) := by decide +kernel
theorem dL_law_308 : decode cL_law 308 = .ok (.iaload, 1) := by decide +kernel
theorem dL_law_309 : decode cL_law 309 = .ok (.aload_n 0, 1) := by decide +kernel
theorem dL_law_310 : decode cL_law 310 = .ok (.iload_n 3, 1) := by decide +kernel
theorem dL_law_311 : decode cL_law 311 = .ok (.iconst 4, 1) := by decide +kernel
theorem dL_law_312 : decode cL_law 312 = .ok (.iadd, 1) := by decide +kernel
theorem dL_law_313 : decode cL_law 313 = .ok (.iaload, 1) := by decide +kernel
theorem dL_law_314 : decode cL_law 314 = .ok (.invokevirtual 31, 3) := by decide +kernel
theorem dL_law_317 : decode cL_law 317 = .ok (.if_icmp .eq 995, 3) := by decide +kernel
theorem dL_law_320 : decode cL_law 320 = .ok (.iconst 0, 1) := by decide +kernel
theorem dL_law_321 : decode cL_law 321 = .ok (.ireturn, 1) := by decide +kernel
theorem dL_law_322 : decode cL_law 322 = .ok (.aload_n 1, 1) := by decide +kernel
theorem dL_law_323 : decode cL_law 323 = .ok (.aload_n 0, 1) := by decide +kernel
theorem dL_law_324 : decode cL_law 324 = .ok (.iload_n 3, 1) := by decide +kernel
theorem dL_law_325 : decode cL_law 325 = .ok (.iconst 1, 1) := by decide +kernel
theorem dL_law_326 : decode cL_law 326 = .ok (.iadd, 1) := by decide +kernel
theorem dL_law_327 : decode cL_law 327 = .ok (.iaload, 1) := by decide +kernel
theorem dL_law_328 : decode cL_law 328 = .ok (.aload_n 0, 1) := by decide +kernel
theorem dL_law_329 : decode cL_law 329 = .ok (.iload_n 3, 1) := by decide +kernel
theorem dL_law_330 : decode cL_law 330 = .ok (.iconst 2, 1) := by decide +kernel
theorem dL_law_331 : decode cL_law 331 = .ok (.iadd, 1) := by decide +kernel
theorem dL_law_332 : decode cL_law 332 = .ok (.iaload, 1) := by decide +kernel
theorem dL_law_333 : decode cL_law 333 = .ok (.aload_n 0, 1) := by decide +kernel
theorem dL_law_334 : decode cL_law 334 = .ok (.iload_n 3, 1) := by decide +kernel
theorem dL_law_335 : decode cL_law 335 = .ok (.iconst 3, 1) := by decide +kernel
theorem dL_law_336 : decode cL_law 336 = .ok (.iadd, 1) := by decide +kernel
theorem dL_law_337 : decode cL_law 337 = .ok (.iaload, 1) := by decide +kernel
theorem dL_law_338 : decode cL_law 338 = .ok (.invokevirtual 32, 3) := by decide +kernel
theorem dL_law_341 : decode cL_law 341 = .ok (.aload_n 2, 1) := by decide +kernel
theorem dL_law_342 : decode cL_law 342 = .ok (.aload_n 0, 1) := by decide +kernel
theorem dL_law_343 : decode cL_law 343 = .ok (.iload_n 3, 1) := by decide +kernel
theorem dL_law_344 : decode cL_law 344 = .ok (.iconst 1, 1) := by decide +kernel
theorem dL_law_345 : decode cL_law 345 = .ok (.iadd, 1) := by decide +kernel
theorem dL_law_346 : decode cL_law 346 = .ok (.iaload, 1) := by decide +kernel
theorem dL_law_347 : decode cL_law 347 = .ok (.aload_n 0, 1) := by decide +kernel
theorem dL_law_348 : decode cL_law 348 = .ok (.iload_n 3, 1) := by decide +kernel
theorem dL_law_349 : decode cL_law 349 = .ok (.iconst 2, 1) := by decide +kernel
theorem dL_law_350 : decode cL_law 350 = .ok (.iadd, 1) := by decide +kernel
theorem dL_law_351 : decode cL_law 351 = .ok (.iaload, 1) := by decide +kernel
theorem dL_law_352 : decode cL_law 352 = .ok (.aload_n 0, 1) := by decide +kernel
theorem dL_law_353 : decode cL_law 353 = .ok (.iload_n 3, 1) := by decide +kernel
theorem dL_law_354 : decode cL_law 354 = .ok (.iconst 3, 1) := by decide +kernel
theorem dL_law_355 : decode cL_law 355 = .ok (.iadd, 1) := by decide +kernel
theorem dL_law_356 : decode cL_law 356 = .ok (.iaload, 1) := by decide +kernel
theorem dL_law_357 : decode cL_law 357 = .ok (.invokevirtual 35, 3) := by decide +kernel
theorem dL_law_360 : decode cL_law 360 = .ok (.if_icmp .eq 952, 3) := by decide +kernel
theorem dL_law_363 : decode cL_law 363 = .ok (.iconst 0, 1) := by decide +kernel
theorem dL_law_364 : decode cL_law 364 = .ok (.ireturn, 1) := by decide +kernel
theorem dL_law_365 : decode cL_law 365 = .ok (.aload_n 1, 1) := by decide +kernel
theorem dL_law_366 : decode cL_law 366 = .ok (.aload_n 0, 1) := by decide +kernel
theorem dL_law_367 : decode cL_law 367 = .ok (.iload_n 3, 1) := by decide +kernel
theorem dL_law_368 : decode cL_law 368 = .ok (.iconst 1, 1) := by decide +kernel
theorem dL_law_369 : decode cL_law 369 = .ok (.iadd, 1) := by decide +kernel
theorem dL_law_370 : decode cL_law 370 = .ok (.iaload, 1) := by decide +kernel
theorem dL_law_371 : decode cL_law 371 = .ok (.aload_n 0, 1) := by decide +kernel
theorem dL_law_372 : decode cL_law 372 = .ok (.iload_n 3, 1) := by decide +kernel
theorem dL_law_373 : decode cL_law 373 = .ok (.iconst 2, 1) := by decide +kernel
theorem dL_law_374 : decode cL_law 374 = .ok (.iadd, 1) := by decide +kernel
theorem dL_law_375 : decode cL_law 375 = .ok (.iaload, 1) := by decide +kernel
theorem dL_law_376 : decode cL_law 376 = .ok (.aload_n 0, 1) := by decide +kernel
theorem dL_law_377 : decode cL_law 377 = .ok (.iload_n 3, 1) := by decide +kernel
theorem dL_law_378 : decode cL_law 378 = .ok (.iconst 3, 1) := by decide +kernel
theorem dL_law_379 : decode cL_law 379 = .ok (.iadd, 1) := by decide +kernel
theorem dL_law_380 : decode cL_law 380 = .ok (.iaload, 1) := by decide +kernel
theorem dL_law_381 : decode cL_law 381 = .ok (.aload_n 0, 1) := by decide +kernel
theorem dL_law_382 : decode cL_law 382 = .ok (.iload_n 3, 1) := by decide +kernel
theorem dL_law_383 : decode cL_law 383 = .ok (.iconst 4, 1) := by decide +kernel
theorem dL_law_384 : decode cL_law 384 = .ok (.iadd, 1) := by decide +kernel
theorem dL_law_385 : decode cL_law 385 = .ok (.iaload, 1) := by decide +kernel
theorem dL_law_386 : decode cL_law 386 = .ok (.invokevirtual 36, 3) := by decide +kernel
theorem dL_law_389 : decode cL_law 389 = .ok (.aload_n 2, 1) := by decide +kernel
theorem dL_law_390 : decode cL_law 390 = .ok (.aload_n 0, 1) := by decide +kernel
theorem dL_law_391 : decode cL_law 391 = .ok (.iload_n 3, 1) := by decide +kernel
theorem dL_law_392 : decode cL_law 392 = .ok (.iconst 1, 1) := by decide +kernel
theorem dL_law_393 : decode cL_law 393 = .ok (.iadd, 1) := by decide +kernel
theorem dL_law_394 : decode cL_law 394 = .ok (.iaload, 1) := by decide +kernel
theorem dL_law_395 : decode cL_law 395 = .ok (.aload_n 0, 1) := by decide +kernel
theorem dL_law_396 : decode cL_law 396 = .ok (.iload_n 3, 1) := by decide +kernel
theorem dL_law_397 : decode cL_law 397 = .ok (.iconst 2, 1) := by decide +kernel
theorem dL_law_398 : decode cL_law 398 = .ok (.iadd, 1) := by decide +kernel
theorem dL_law_399 : decode cL_law 399 = .ok (.iaload, 1) := by decide +kernel
theorem dL_law_400 : decode cL_law 400 = .ok (.aload_n 0, 1) := by decide +kernel
theorem dL_law_401 : decode cL_law 401 = .ok (.iload_n 3, 1) := by decide +kernel
theorem dL_law_402 : decode cL_law 402 = .ok (.iconst 3, 1) := by decide +kernel
theorem dL_law_403 : decode cL_law 403 = .ok (.iadd, 1) := by decide +kernel
theorem dL_law_404 : decode cL_law 404 = .ok (.iaload, 1) := by decide +kernel
theorem dL_law_405 : decode cL_law 405 = .ok (.aload_n 0, 1) := by decide +kernel
theorem dL_law_406 : decode cL_law 406 = .ok (.iload_n 3, 1) := by decide +kernel
theorem dL_law_407 : decode cL_law 407 = .ok (.iconst 4, 1) := by decide +kernel
theorem dL_law_408 : decode cL_law 408 = .ok (.iadd, 1) := by decide +kernel
theorem dL_law_409 : decode cL_law 409 = .ok (.iaload, 1) := by decide +kernel
theorem dL_law_410 : decode cL_law 410 = .ok (.invokevirtual 39, 3) := by decide +kernel
theorem dL_law_413 : decode cL_law 413 = .ok (.if_icmp .eq 899, 3) := by decide +kernel
theorem dL_law_416 : decode cL_law 416 = .ok (.iconst 0, 1) := by decide +kernel
theorem dL_law_417 : decode cL_law 417 = .ok (.ireturn, 1) := by decide +kernel
theorem dL_law_418 : decode cL_law 418 = .ok (.aload_n 1, 1) := by decide +kernel
theorem dL_law_419 : decode cL_law 419 = .ok (.aload_n 0, 1) := by decide +kernel
theorem dL_law_420 : decode cL_law 420 = .ok (.iload_n 3, 1) := by decide +kernel
theorem dL_law_421 : decode cL_law 421 = .ok (.iconst 1, 1) := by decide +kernel
theorem dL_law_422 : decode cL_law 422 = .ok (.iadd, 1) := by decide +kernel
theorem dL_law_423 : decode cL_law 423 = .ok (.iaload, 1) := by decide +kernel
theorem dL_law_424 : decode cL_law 424 = .ok (.aload_n 0, 1) := by decide +kernel
theorem dL_law_425 : decode cL_law 425 = .ok (.iload_n 3, 1) := by decide +kernel
theorem dL_law_426 : decode cL_law 426 = .ok (.iconst 2, 1) := by decide +kernel
theorem dL_law_427 : decode cL_law 427 = .ok (.iadd, 1) := by decide +kernel
theorem dL_law_428 : decode cL_law 428 = .ok (.iaload, 1) := by decide +kernel
theorem dL_law_429 : decode cL_law 429 = .ok (.aload_n 0, 1) := by decide +kernel
theorem dL_law_430 : decode cL_law 430 = .ok (.iload_n 3, 1) := by decide +kernel
theorem dL_law_431 : decode cL_law 431 = .ok (.iconst 3, 1) := by decide +kernel
theorem dL_law_432 : decode cL_law 432 = .ok (.iadd, 1) := by decide +kernel
theorem dL_law_433 : decode cL_law 433 = .ok (.iaload, 1) := by decide +kernel
theorem dL_law_434 : decode cL_law 434 = .ok (.invokevirtual 40, 3) := by decide +kernel
theorem dL_law_437 : decode cL_law 437 = .ok (.aload_n 2, 1) := by decide +kernel
theorem dL_law_438 : decode cL_law 438 = .ok (.aload_n 0, 1) := by decide +kernel
theorem dL_law_439 : decode cL_law 439 = .ok (.iload_n 3, 1) := by decide +kernel
theorem dL_law_440 : decode cL_law 440 = .ok (.iconst 1, 1) := by decide +kernel
theorem dL_law_441 : decode cL_law 441 = .ok (.iadd, 1) := by decide +kernel
theorem dL_law_442 : decode cL_law 442 = .ok (.iaload, 1) := by decide +kernel
theorem dL_law_443 : decode cL_law 443 = .ok (.aload_n 0, 1) := by decide +kernel
theorem dL_law_444 : decode cL_law 444 = .ok (.iload_n 3, 1) := by decide +kernel
theorem dL_law_445 : decode cL_law 445 = .ok (.iconst 2, 1) := by decide +kernel
theorem dL_law_446 : decode cL_law 446 = .ok (.iadd, 1) := by decide +kernel
theorem dL_law_447 : decode cL_law 447 = .ok (.iaload, 1) := by decide +kernel
theorem dL_law_448 : decode cL_law 448 = .ok (.aload_n 0, 1) := by decide +kernel
theorem dL_law_449 : decode cL_law 449 = .ok (.iload_n 3, 1) := by decide +kernel
theorem dL_law_450 : decode cL_law 450 = .ok (.iconst 3, 1) := by decide +kernel
theorem dL_law_451 : decode cL_law 451 = .ok (.iadd, 1) := by decide +kernel
theorem dL_law_452 : decode cL_law 452 = .ok (.iaload, 1) := by decide +kernel
theorem dL_law_453 : decode cL_law 453 = .ok (.invokevirtual 43, 3) := by decide +kernel
theorem dL_law_456 : decode cL_law 456 = .ok (.if_icmp .eq 856, 3) := by decide +kernel
theorem dL_law_459 : decode cL_law 459 = .ok (.iconst 0, 1) := by decide +kernel
theorem dL_law_460 : decode cL_law 460 = .ok (.ireturn, 1) := by decide +kernel
theorem dL_law_461 : decode cL_law 461 = .ok (.aload_n 1, 1) := by decide +kernel
theorem dL_law_462 : decode cL_law 462 = .ok (.aload_n 0, 1) := by decide +kernel
theorem dL_law_463 : decode cL_law 463 = .ok (.iload_n 3, 1) := by decide +kernel
theorem dL_law_464 : decode cL_law 464 = .ok (.iconst 1, 1) := by decide +kernel
theorem dL_law_465 : decode cL_law 465 = .ok (.iadd, 1) := by decide +kernel
theorem dL_law_466 : decode cL_law 466 = .ok (.iaload, 1) := by decide +kernel
theorem dL_law_467 : decode cL_law 467 = .ok (.invokevirtual 44, 3) := by decide +kernel
theorem dL_law_470 : decode cL_law 470 = .ok (.aload_n 2, 1) := by decide +kernel
theorem dL_law_471 : decode cL_law 471 = .ok (.aload_n 0, 1) := by decide +kernel
theorem dL_law_472 : decode cL_law 472 = .ok (.iload_n 3, 1) := by decide +kernel
theorem dL_law_473 : decode cL_law 473 = .ok (.iconst 1, 1) := by decide +kernel
theorem dL_law_474 : decode cL_law 474 = .ok (.iadd, 1) := by decide +kernel
theorem dL_law_475 : decode cL_law 475 = .ok (.iaload, 1) := by decide +kernel
theorem dL_law_476 : decode cL_law 476 = .ok (.invokevirtual 47, 3) := by decide +kernel
theorem dL_law_479 : decode cL_law 479 = .ok (.if_icmp .eq 833, 3) := by decide +kernel
theorem dL_law_482 : decode cL_law 482 = .ok (.iconst 0, 1) := by decide +kernel
theorem dL_law_483 : decode cL_law 483 = .ok (.ireturn, 1) := by decide +kernel
theorem dL_law_484 : decode cL_law 484 = .ok (.aload_n 1, 1) := by decide +kernel
theorem dL_law_485 : decode cL_law 485 = .ok (.aload_n 0, 1) := by decide +kernel
theorem dL_law_486 : decode cL_law 486 = .ok (.iload_n 3, 1) := by decide +kernel
theorem dL_law_487 : decode cL_law 487 = .ok (.iconst 1, 1) := by decide +kernel
theorem dL_law_488 : decode cL_law 488 = .ok (.iadd, 1) := by decide +kernel
theorem dL_law_489 : decode cL_law 489 = .ok (.iaload, 1) := by decide +kernel
theorem dL_law_490 : decode cL_law 490 = .ok (.aload_n 0, 1) := by decide +kernel
theorem dL_law_491 : decode cL_law 491 = .ok (.iload_n 3, 1) := by decide +kernel
theorem dL_law_492 : decode cL_law 492 = .ok (.iconst 2, 1) := by decide +kernel
theorem dL_law_493 : decode cL_law 493 = .ok (.iadd, 1) := by decide +kernel
theorem dL_law_494 : decode cL_law 494 = .ok (.iaload, 1) := by decide +kernel
theorem dL_law_495 : decode cL_law 495 = .ok (.i2l, 1) := by decide +kernel
theorem dL_law_496 : decode cL_law 496 = .ok (.bipush 32, 2) := by decide +kernel
theorem dL_law_498 : decode cL_law 498 = .ok (.lshl, 1) := by decide +kernel
theorem dL_law_499 : decode cL_law 499 = .ok (.aload_n 0, 1) := by decide +kernel
theorem dL_law_500 : decode cL_law 500 = .ok (.iload_n 3, 1) := by decide +kernel
theorem dL_law_501 : decode cL_law 501 = .ok (.iconst 3, 1) := by decide +kernel
theorem dL_law_502 : decode cL_law 502 = .ok (.iadd, 1) := by decide +kernel
theorem dL_law_503 : decode cL_law 503 = .ok (.iaload, 1) := by decide +kernel
theorem dL_law_504 : decode cL_law 504 = .ok (.i2l, 1) := by decide +kernel
theorem dL_law_505 : decode cL_law 505 = .ok (.ldc2_w 48, 3) := by decide +kernel
theorem dL_law_508 : decode cL_law 508 = .ok (.land, 1) := by decide +kernel
theorem dL_law_509 : decode cL_law 509 = .ok (.lor, 1) := by decide +kernel
theorem dL_law_510 : decode cL_law 510 = .ok (.invokevirtual 50, 3) := by decide +kernel
theorem dL_law_513 : decode cL_law 513 = .ok (.aload_n 2, 1) := by decide +kernel
theorem dL_law_514 : decode cL_law 514 = .ok (.aload_n 0, 1) := by decide +kernel
theorem dL_law_515 : decode cL_law 515 = .ok (.iload_n 3, 1) := by decide +kernel
theorem dL_law_516 : decode cL_law 516 = .ok (.iconst 1, 1) := by decide +kernel
theorem dL_law_517 : decode cL_law 517 = .ok (.iadd, 1) := by decide +kernel
theorem dL_law_518 : decode cL_law 518 = .ok (.iaload, 1) := by decide +kernel
theorem dL_law_519 : decode cL_law 519 = .ok (.aload_n 0, 1) := by decide +kernel
theorem dL_law_520 : decode cL_law 520 = .ok (.iload_n 3, 1) := by decide +kernel
theorem dL_law_521 : decode cL_law 521 = .ok (.iconst 2, 1) := by decide +kernel
theorem dL_law_522 : decode cL_law 522 = .ok (.iadd, 1) := by decide +kernel
theorem dL_law_523 : decode cL_law 523 = .ok (.iaload, 1) := by decide +kernel
theorem dL_law_524 : decode cL_law 524 = .ok (.i2l, 1) := by decide +kernel
theorem dL_law_525 : decode cL_law 525 = .ok (.bipush 32, 2) := by decide +kernel
theorem dL_law_527 : decode cL_law 527 = .ok (.lshl, 1) := by decide +kernel
theorem dL_law_528 : decode cL_law 528 = .ok (.aload_n 0, 1) := by decide +kernel
theorem dL_law_529 : decode cL_law 529 = .ok (.iload_n 3, 1) := by decide +kernel
theorem dL_law_530 : decode cL_law 530 = .ok (.iconst 3, 1) := by decide +kernel
theorem dL_law_531 : decode cL_law 531 = .ok (.iadd, 1) := by decide +kernel
theorem dL_law_532 : decode cL_law 532 = .ok (.iaload, 1) := by decide +kernel
theorem dL_law_533 : decode cL_law 533 = .ok (.i2l, 1) := by decide +kernel
theorem dL_law_534 : decode cL_law 534 = .ok (.ldc2_w 48, 3) := by decide +kernel
theorem dL_law_537 : decode cL_law 537 = .ok (.land, 1) := by decide +kernel
theorem dL_law_538 : decode cL_law 538 = .ok (.lor, 1) := by decide +kernel
theorem dL_law_539 : decode cL_law 539 = .ok (.invokevirtual 54, 3) := by decide +kernel
theorem dL_law_542 : decode cL_law 542 = .ok (.if_icmp .eq 770, 3) := by decide +kernel
theorem dL_law_545 : decode cL_law 545 = .ok (.iconst 0, 1) := by decide +kernel
theorem dL_law_546 : decode cL_law 546 = .ok (.ireturn, 1) := by decide +kernel
theorem dL_law_547 : decode cL_law 547 = .ok (.aload_n 1, 1) := by decide +kernel
theorem dL_law_548 : decode cL_law 548 = .ok (.invokevirtual 55, 3) := by decide +kernel
theorem dL_law_551 : decode cL_law 551 = .ok (.aload_n 2, 1) := by decide +kernel
theorem dL_law_552 : decode cL_law 552 = .ok (.invokevirtual 59, 3) := by decide +kernel
theorem dL_law_555 : decode cL_law 555 = .ok (.if_icmp .eq 757, 3) := by decide +kernel
theorem dL_law_558 : decode cL_law 558 = .ok (.iconst 0, 1) := by decide +kernel
theorem dL_law_559 : decode cL_law 559 = .ok (.ireturn, 1) := by decide +kernel
theorem dL_law_560 : decode cL_law 560 = .ok (.aload_n 1, 1) := by decide +kernel
theorem dL_law_561 : decode cL_law 561 = .ok (.aload_n 0, 1) := by decide +kernel
theorem dL_law_562 : decode cL_law 562 = .ok (.iload_n 3, 1) := by decide +kernel
theorem dL_law_563 : decode cL_law 563 = .ok (.iconst 1, 1) := by decide +kernel
theorem dL_law_564 : decode cL_law 564 = .ok (.iadd, 1) := by decide +kernel
theorem dL_law_565 : decode cL_law 565 = .ok (.iaload, 1) := by decide +kernel
theorem dL_law_566 : decode cL_law 566 = .ok (.invokevirtual 60, 3) := by decide +kernel
theorem dL_law_569 : decode cL_law 569 = .ok (.aload_n 2, 1) := by decide +kernel
theorem dL_law_570 : decode cL_law 570 = .ok (.aload_n 0, 1) := by decide +kernel
theorem dL_law_571 : decode cL_law 571 = .ok (.iload_n 3, 1) := by decide +kernel
theorem dL_law_572 : decode cL_law 572 = .ok (.iconst 1, 1) := by decide +kernel
theorem dL_law_573 : decode cL_law 573 = .ok (.iadd, 1) := by decide +kernel
theorem dL_law_574 : decode cL_law 574 = .ok (.iaload, 1) := by decide +kernel
theorem dL_law_575 : decode cL_law 575 = .ok (.invokevirtual 63, 3) := by decide +kernel
theorem dL_law_578 : decode cL_law 578 = .ok (.if_icmp .eq 734, 3) := by decide +kernel
theorem dL_law_581 : decode cL_law 581 = .ok (.iconst 0, 1) := by decide +kernel
theorem dL_law_582 : decode cL_law 582 = .ok (.ireturn, 1) := by decide +kernel
theorem dL_law_583 : decode cL_law 583 = .ok (.aload_n 1, 1) := by decide +kernel
theorem dL_law_584 : decode cL_law 584 = .ok (.aload_n 0, 1) := by decide +kernel
theorem dL_law_585 : decode cL_law 585 = .ok (.iload_n 3, 1) := by decide +kernel
theorem dL_law_586 : decode cL_law 586 = .ok (.iconst 1, 1) := by decide +kernel
theorem dL_law_587 : decode cL_law 587 = .ok (.iadd, 1) := by decide +kernel
theorem dL_law_588 : decode cL_law 588 = .ok (.iaload, 1) := by decide +kernel
theorem dL_law_589 : decode cL_law 589 = .ok (.invokevirtual 64, 3) := by decide +kernel
theorem dL_law_592 : decode cL_law 592 = .ok (.aload_n 2, 1) := by decide +kernel
theorem dL_law_593 : decode cL_law 593 = .ok (.aload_n 0, 1) := by decide +kernel
theorem dL_law_594 : decode cL_law 594 = .ok (.iload_n 3, 1) := by decide +kernel
theorem dL_law_595 : decode cL_law 595 = .ok (.iconst 1, 1) := by decide +kernel
theorem dL_law_596 : decode cL_law 596 = .ok (.iadd, 1) := by decide +kernel
theorem dL_law_597 : decode cL_law 597 = .ok (.iaload, 1) := by decide +kernel
theorem dL_law_598 : decode cL_law 598 = .ok (.invokevirtual 67, 3) := by decide +kernel
theorem dL_law_601 : decode cL_law 601 = .ok (.if_icmp .eq 711, 3) := by decide +kernel
theorem dL_law_604 : decode cL_law 604 = .ok (.iconst 0, 1) := by decide +kernel
theorem dL_law_605 : decode cL_law 605 = .ok (.ireturn, 1) := by decide +kernel
theorem dL_law_606 : decode cL_law 606 = .ok (.aload_n 1, 1) := by decide +kernel
theorem dL_law_607 : decode cL_law 607 = .ok (.aload_n 0, 1) := by decide +kernel
theorem dL_law_608 : decode cL_law 608 = .ok (.iload_n 3, 1) := by decide +kernel
theorem dL_law_609 : decode cL_law 609 = .ok (.iconst 1, 1) := by decide +kernel
theorem dL_law_610 : decode cL_law 610 = .ok (.iadd, 1) := by decide +kernel
theorem dL_law_611 : decode cL_law 611 = .ok (.iaload, 1) := by decide +kernel
theorem dL_law_612 : decode cL_law 612 = .ok (.invokevirtual 68, 3) := by decide +kernel
theorem dL_law_615 : decode cL_law 615 = .ok (.aload_n 2, 1) := by decide +kernel
theorem dL_law_616 : decode cL_law 616 = .ok (.aload_n 0, 1) := by decide +kernel
theorem dL_law_617 : decode cL_law 617 = .ok (.iload_n 3, 1) := by decide +kernel
theorem dL_law_618 : decode cL_law 618 = .ok (.iconst 1, 1) := by decide +kernel
theorem dL_law_619 : decode cL_law 619 = .ok (.iadd, 1) := by decide +kernel
theorem dL_law_620 : decode cL_law 620 = .ok (.iaload, 1) := by decide +kernel
theorem dL_law_621 : decode cL_law 621 = .ok (.invokevirtual 71, 3) := by decide +kernel
theorem dL_law_624 : decode cL_law 624 = .ok (.if_icmp .eq 688, 3) := by decide +kernel
theorem dL_law_627 : decode cL_law 627 = .ok (.iconst 0, 1) := by decide +kernel
theorem dL_law_628 : decode cL_law 628 = .ok (.ireturn, 1) := by decide +kernel
theorem dL_law_629 : decode cL_law 629 = .ok (.aload_n 1, 1) := by decide +kernel
theorem dL_law_630 : decode cL_law 630 = .ok (.aload_n 0, 1) := by decide +kernel
theorem dL_law_631 : decode cL_law 631 = .ok (.iload_n 3, 1) := by decide +kernel
theorem dL_law_632 : decode cL_law 632 = .ok (.iconst 1, 1) := by decide +kernel
theorem dL_law_633 : decode cL_law 633 = .ok (.iadd, 1) := by decide +kernel
theorem dL_law_634 : decode cL_law 634 = .ok (.iaload, 1) := by decide +kernel
theorem dL_law_635 : decode cL_law 635 = .ok (.aload_n 0, 1) := by decide +kernel
theorem dL_law_636 : decode cL_law 636 = .ok (.iload_n 3, 1) := by decide +kernel
theorem dL_law_637 : decode cL_law 637 = .ok (.iconst 2, 1) := by decide +kernel
theorem dL_law_638 : decode cL_law 638 = .ok (.iadd, 1) := by decide +kernel
theorem dL_law_639 : decode cL_law 639 = .ok (.iaload, 1) := by decide +kernel
theorem dL_law_640 : decode cL_law 640 = .ok (.i2l, 1) := by decide +kernel
theorem dL_law_641 : decode cL_law 641 = .ok (.bipush 32, 2) := by decide +kernel
theorem dL_law_643 : decode cL_law 643 = .ok (.lshl, 1) := by decide +kernel
theorem dL_law_644 : decode cL_law 644 = .ok (.aload_n 0, 1) := by decide +kernel
theorem dL_law_645 : decode cL_law 645 = .ok (.iload_n 3, 1) := by decide +kernel
theorem dL_law_646 : decode cL_law 646 = .ok (.iconst 3, 1) := by decide +kernel
theorem dL_law_647 : decode cL_law 647 = .ok (.iadd, 1) := by decide +kernel
theorem dL_law_648 : decode cL_law 648 = .ok (.iaload, 1) := by decide +kernel
theorem dL_law_649 : decode cL_law 649 = .ok (.i2l, 1) := by decide +kernel
theorem dL_law_650 : decode cL_law 650 = .ok (.ldc2_w 48, 3) := by decide +kernel
theorem dL_law_653 : decode cL_law 653 = .ok (.land, 1) := by decide +kernel
theorem dL_law_654 : decode cL_law 654 = .ok (.lor, 1) := by decide +kernel
theorem dL_law_655 : decode cL_law 655 = .ok (.invokevirtual 72, 3) := by decide +kernel
theorem dL_law_658 : decode cL_law 658 = .ok (.aload_n 2, 1) := by decide +kernel
theorem dL_law_659 : decode cL_law 659 = .ok (.aload_n 0, 1) := by decide +kernel
theorem dL_law_660 : decode cL_law 660 = .ok (.iload_n 3, 1) := by decide +kernel
theorem dL_law_661 : decode cL_law 661 = .ok (.iconst 1, 1) := by decide +kernel
theorem dL_law_662 : decode cL_law 662 = .ok (.iadd, 1) := by decide +kernel
theorem dL_law_663 : decode cL_law 663 = .ok (.iaload, 1) := by decide +kernel
theorem dL_law_664 : decode cL_law 664 = .ok (.aload_n 0, 1) := by decide +kernel
theorem dL_law_665 : decode cL_law 665 = .ok (.iload_n 3, 1) := by decide +kernel
theorem dL_law_666 : decode cL_law 666 = .ok (.iconst 2, 1) := by decide +kernel
theorem dL_law_667 : decode cL_law 667 = .ok (.iadd, 1) := by decide +kernel
theorem dL_law_668 : decode cL_law 668 = .ok (.iaload, 1) := by decide +kernel
theorem dL_law_669 : decode cL_law 669 = .ok (.i2l, 1) := by decide +kernel
theorem dL_law_670 : decode cL_law 670 = .ok (.bipush 32, 2) := by decide +kernel
theorem dL_law_672 : decode cL_law 672 = .ok (.lshl, 1) := by decide +kernel
theorem dL_law_673 : decode cL_law 673 = .ok (.aload_n 0, 1) := by decide +kernel
theorem dL_law_674 : decode cL_law 674 = .ok (.iload_n 3, 1) := by decide +kernel
theorem dL_law_675 : decode cL_law 675 = .ok (.iconst 3, 1) := by decide +kernel
theorem dL_law_676 : decode cL_law 676 = .ok (.iadd, 1) := by decide +kernel
theorem dL_law_677 : decode cL_law 677 = .ok (.iaload, 1) := by decide +kernel
theorem dL_law_678 : decode cL_law 678 = .ok (.i2l, 1) := by decide +kernel
theorem dL_law_679 : decode cL_law 679 = .ok (.ldc2_w 48, 3) := by decide +kernel
theorem dL_law_682 : decode cL_law 682 = .ok (.land, 1) := by decide +kernel
theorem dL_law_683 : decode cL_law 683 = .ok (.lor, 1) := by decide +kernel
theorem dL_law_684 : decode cL_law 684 = .ok (.invokevirtual 75, 3) := by decide +kernel
theorem dL_law_687 : decode cL_law 687 = .ok (.if_icmp .eq 625, 3) := by decide +kernel
theorem dL_law_690 : decode cL_law 690 = .ok (.iconst 0, 1) := by decide +kernel
theorem dL_law_691 : decode cL_law 691 = .ok (.ireturn, 1) := by decide +kernel
theorem dL_law_692 : decode cL_law 692 = .ok (.aload_n 1, 1) := by decide +kernel
theorem dL_law_693 : decode cL_law 693 = .ok (.aload_n 0, 1) := by decide +kernel
theorem dL_law_694 : decode cL_law 694 = .ok (.iload_n 3, 1) := by decide +kernel
theorem dL_law_695 : decode cL_law 695 = .ok (.iconst 1, 1) := by decide +kernel
theorem dL_law_696 : decode cL_law 696 = .ok (.iadd, 1) := by decide +kernel
theorem dL_law_697 : decode cL_law 697 = .ok (.iaload, 1) := by decide +kernel
theorem dL_law_698 : decode cL_law 698 = .ok (.invokevirtual 76, 3) := by decide +kernel
theorem dL_law_701 : decode cL_law 701 = .ok (.aload_n 2, 1) := by decide +kernel
theorem dL_law_702 : decode cL_law 702 = .ok (.aload_n 0, 1) := by decide +kernel
theorem dL_law_703 : decode cL_law 703 = .ok (.iload_n 3, 1) := by decide +kernel
theorem dL_law_704 : decode cL_law 704 = .ok (.iconst 1, 1) := by decide +kernel
theorem dL_law_705 : decode cL_law 705 = .ok (.iadd, 1) := by decide +kernel
theorem dL_law_706 : decode cL_law 706 = .ok (.iaload, 1) := by decide +kernel
theorem dL_law_707 : decode cL_law 707 = .ok (.invokevirtual 79, 3) := by decide +kernel
theorem dL_law_710 : decode cL_law 710 = .ok (.if_icmp .eq 602, 3) := by decide +kernel
theorem dL_law_713 : decode cL_law 713 = .ok (.iconst 0, 1) := by decide +kernel
theorem dL_law_714 : decode cL_law 714 = .ok (.ireturn, 1) := by decide +kernel
theorem dL_law_715 : decode cL_law 715 = .ok (.aload_n 1, 1) := by decide +kernel
theorem dL_law_716 : decode cL_law 716 = .ok (.aload_n 0, 1) := by decide +kernel
theorem dL_law_717 : decode cL_law 717 = .ok (.iload_n 3, 1) := by decide +kernel
theorem dL_law_718 : decode cL_law 718 = .ok (.iconst 1, 1) := by decide +kernel
theorem dL_law_719 : decode cL_law 719 = .ok (.iadd, 1) := by decide +kernel
theorem dL_law_720 : decode cL_law 720 = .ok (.iaload, 1) := by decide +kernel
theorem dL_law_721 : decode cL_law 721 = .ok (.aload_n 0, 1) := by decide +kernel
theorem dL_law_722 : decode cL_law 722 = .ok (.iload_n 3, 1) := by decide +kernel
theorem dL_law_723 : decode cL_law 723 = .ok (.iconst 2, 1) := by decide +kernel
theorem dL_law_724 : decode cL_law 724 = .ok (.iadd, 1) := by decide +kernel
theorem dL_law_725 : decode cL_law 725 = .ok (.iaload, 1) := by decide +kernel
theorem dL_law_726 : decode cL_law 726 = .ok (.invokevirtual 80, 3) := by decide +kernel
theorem dL_law_729 : decode cL_law 729 = .ok (.aload_n 2, 1) := by decide +kernel
theorem dL_law_730 : decode cL_law 730 = .ok (.aload_n 0, 1) := by decide +kernel
theorem dL_law_731 : decode cL_law 731 = .ok (.iload_n 3, 1) := by decide +kernel
theorem dL_law_732 : decode cL_law 732 = .ok (.iconst 1, 1) := by decide +kernel
theorem dL_law_733 : decode cL_law 733 = .ok (.iadd, 1) := by decide +kernel
theorem dL_law_734 : decode cL_law 734 = .ok (.iaload, 1) := by decide +kernel
theorem dL_law_735 : decode cL_law 735 = .ok (.aload_n 0, 1) := by decide +kernel
theorem dL_law_736 : decode cL_law 736 = .ok (.iload_n 3, 1) := by decide +kernel
theorem dL_law_737 : decode cL_law 737 = .ok (.iconst 2, 1) := by decide +kernel
theorem dL_law_738 : decode cL_law 738 = .ok (.iadd, 1) := by decide +kernel
theorem dL_law_739 : decode cL_law 739 = .ok (.iaload, 1) := by decide +kernel
theorem dL_law_740 : decode cL_law 740 = .ok (.invokevirtual 84, 3) := by decide +kernel
theorem dL_law_743 : decode cL_law 743 = .ok (.lcmp, 1) := by decide +kernel
theorem dL_law_744 : decode cL_law 744 = .ok (.ifCond .eq 568, 3) := by decide +kernel
theorem dL_law_747 : decode cL_law 747 = .ok (.iconst 0, 1) := by decide +kernel
theorem dL_law_748 : decode cL_law 748 = .ok (.ireturn, 1) := by decide +kernel
theorem dL_law_749 : decode cL_law 749 = .ok (.aload_n 1, 1) := by decide +kernel
theorem dL_law_750 : decode cL_law 750 = .ok (.aload_n 0, 1) := by decide +kernel
theorem dL_law_751 : decode cL_law 751 = .ok (.iload_n 3, 1) := by decide +kernel
theorem dL_law_752 : decode cL_law 752 = .ok (.iconst 1, 1) := by decide +kernel
theorem dL_law_753 : decode cL_law 753 = .ok (.iadd, 1) := by decide +kernel
theorem dL_law_754 : decode cL_law 754 = .ok (.iaload, 1) := by decide +kernel
theorem dL_law_755 : decode cL_law 755 = .ok (.aload_n 0, 1) := by decide +kernel
theorem dL_law_756 : decode cL_law 756 = .ok (.iload_n 3, 1) := by decide +kernel
theorem dL_law_757 : decode cL_law 757 = .ok (.iconst 2, 1) := by decide +kernel
theorem dL_law_758 : decode cL_law 758 = .ok (.iadd, 1) := by decide +kernel
theorem dL_law_759 : decode cL_law 759 = .ok (.iaload, 1) := by decide +kernel
theorem dL_law_760 : decode cL_law 760 = .ok (.invokevirtual 85, 3) := by decide +kernel
theorem dL_law_763 : decode cL_law 763 = .ok (.aload_n 2, 1) := by decide +kernel
theorem dL_law_764 : decode cL_law 764 = .ok (.aload_n 0, 1) := by decide +kernel
theorem dL_law_765 : decode cL_law 765 = .ok (.iload_n 3, 1) := by decide +kernel
theorem dL_law_766 : decode cL_law 766 = .ok (.iconst 1, 1) := by decide +kernel
theorem dL_law_767 : decode cL_law 767 = .ok (.iadd, 1) := by decide +kernel
theorem dL_law_768 : decode cL_law 768 = .ok (.iaload, 1) := by decide +kernel
theorem dL_law_769 : decode cL_law 769 = .ok (.aload_n 0, 1) := by decide +kernel
theorem dL_law_770 : decode cL_law 770 = .ok (.iload_n 3, 1) := by decide +kernel
theorem dL_law_771 : decode cL_law 771 = .ok (.iconst 2, 1) := by decide +kernel
theorem dL_law_772 : decode cL_law 772 = .ok (.iadd, 1) := by decide +kernel
theorem dL_law_773 : decode cL_law 773 = .ok (.iaload, 1) := by decide +kernel
theorem dL_law_774 : decode cL_law 774 = .ok (.invokevirtual 89, 3) := by decide +kernel
theorem dL_law_777 : decode cL_law 777 = .ok (.if_icmp .eq 535, 3) := by decide +kernel
theorem dL_law_780 : decode cL_law 780 = .ok (.iconst 0, 1) := by decide +kernel
theorem dL_law_781 : decode cL_law 781 = .ok (.ireturn, 1) := by decide +kernel
theorem dL_law_782 : decode cL_law 782 = .ok (.aload_n 1, 1) := by decide +kernel
theorem dL_law_783 : decode cL_law 783 = .ok (.aload_n 0, 1) := by decide +kernel
theorem dL_law_784 : decode cL_law 784 = .ok (.iload_n 3, 1) := by decide +kernel
theorem dL_law_785 : decode cL_law 785 = .ok (.iconst 1, 1) := by decide +kernel
theorem dL_law_786 : decode cL_law 786 = .ok (.iadd, 1) := by decide +kernel
theorem dL_law_787 : decode cL_law 787 = .ok (.iaload, 1) := by decide +kernel
theorem dL_law_788 : decode cL_law 788 = .ok (.aload_n 0, 1) := by decide +kernel
theorem dL_law_789 : decode cL_law 789 = .ok (.iload_n 3, 1) := by decide +kernel
theorem dL_law_790 : decode cL_law 790 = .ok (.iconst 2, 1) := by decide +kernel
theorem dL_law_791 : decode cL_law 791 = .ok (.iadd, 1) := by decide +kernel
theorem dL_law_792 : decode cL_law 792 = .ok (.iaload, 1) := by decide +kernel
theorem dL_law_793 : decode cL_law 793 = .ok (.aload_n 0, 1) := by decide +kernel
theorem dL_law_794 : decode cL_law 794 = .ok (.iload_n 3, 1) := by decide +kernel
theorem dL_law_795 : decode cL_law 795 = .ok (.iconst 3, 1) := by decide +kernel
theorem dL_law_796 : decode cL_law 796 = .ok (.iadd, 1) := by decide +kernel
theorem dL_law_797 : decode cL_law 797 = .ok (.iaload, 1) := by decide +kernel
theorem dL_law_798 : decode cL_law 798 = .ok (.invokevirtual 90, 3) := by decide +kernel
theorem dL_law_801 : decode cL_law 801 = .ok (.aload_n 2, 1) := by decide +kernel
theorem dL_law_802 : decode cL_law 802 = .ok (.aload_n 0, 1) := by decide +kernel
theorem dL_law_803 : decode cL_law 803 = .ok (.iload_n 3, 1) := by decide +kernel
theorem dL_law_804 : decode cL_law 804 = .ok (.iconst 1, 1) := by decide +kernel
theorem dL_law_805 : decode cL_law 805 = .ok (.iadd, 1) := by decide +kernel
theorem dL_law_806 : decode cL_law 806 = .ok (.iaload, 1) := by decide +kernel
theorem dL_law_807 : decode cL_law 807 = .ok (.aload_n 0, 1) := by decide +kernel
theorem dL_law_808 : decode cL_law 808 = .ok (.iload_n 3, 1) := by decide +kernel
theorem dL_law_809 : decode cL_law 809 = .ok (.iconst 2, 1) := by decide +kernel
theorem dL_law_810 : decode cL_law 810 = .ok (.iadd, 1) := by decide +kernel
theorem dL_law_811 : decode cL_law 811 = .ok (.iaload, 1) := by decide +kernel
theorem dL_law_812 : decode cL_law 812 = .ok (.aload_n 0, 1) := by decide +kernel
theorem dL_law_813 : decode cL_law 813 = .ok (.iload_n 3, 1) := by decide +kernel
theorem dL_law_814 : decode cL_law 814 = .ok (.iconst 3, 1) := by decide +kernel
theorem dL_law_815 : decode cL_law 815 = .ok (.iadd, 1) := by decide +kernel
theorem dL_law_816 : decode cL_law 816 = .ok (.iaload, 1) := by decide +kernel
theorem dL_law_817 : decode cL_law 817 = .ok (.invokevirtual 93, 3) := by decide +kernel
theorem dL_law_820 : decode cL_law 820 = .ok (.if_icmp .eq 492, 3) := by decide +kernel
theorem dL_law_823 : decode cL_law 823 = .ok (.iconst 0, 1) := by decide +kernel
theorem dL_law_824 : decode cL_law 824 = .ok (.ireturn, 1) := by decide +kernel
theorem dL_law_825 : decode cL_law 825 = .ok (.aload_n 1, 1) := by decide +kernel
theorem dL_law_826 : decode cL_law 826 = .ok (.aload_n 0, 1) := by decide +kernel
theorem dL_law_827 : decode cL_law 827 = .ok (.iload_n 3, 1) := by decide +kernel
theorem dL_law_828 : decode cL_law 828 = .ok (.iconst 1, 1) := by decide +kernel
theorem dL_law_829 : decode cL_law 829 = .ok (.iadd, 1) := by decide +kernel
theorem dL_law_830 : decode cL_law 830 = .ok (.iaload, 1) := by decide +kernel
theorem dL_law_831 : decode cL_law 831 = .ok (.aload_n 0, 1) := by decide +kernel
theorem dL_law_832 : decode cL_law 832 = .ok (.iload_n 3, 1) := by decide +kernel
theorem dL_law_833 : decode cL_law 833 = .ok (.iconst 2, 1) := by decide +kernel
theorem dL_law_834 : decode cL_law 834 = .ok (.iadd, 1) := by decide +kernel
theorem dL_law_835 : decode cL_law 835 = .ok (.iaload, 1) := by decide +kernel
theorem dL_law_836 : decode cL_law 836 = .ok (.invokevirtual 94, 3) := by decide +kernel
theorem dL_law_839 : decode cL_law 839 = .ok (.aload_n 2, 1) := by decide +kernel
theorem dL_law_840 : decode cL_law 840 = .ok (.aload_n 0, 1) := by decide +kernel
theorem dL_law_841 : decode cL_law 841 = .ok (.iload_n 3, 1) := by decide +kernel
theorem dL_law_842 : decode cL_law 842 = .ok (.iconst 1, 1) := by decide +kernel
theorem dL_law_843 : decode cL_law 843 = .ok (.iadd, 1) := by decide +kernel
theorem dL_law_844 : decode cL_law 844 = .ok (.iaload, 1) := by decide +kernel
theorem dL_law_845 : decode cL_law 845 = .ok (.aload_n 0, 1) := by decide +kernel
theorem dL_law_846 : decode cL_law 846 = .ok (.iload_n 3, 1) := by decide +kernel
theorem dL_law_847 : decode cL_law 847 = .ok (.iconst 2, 1) := by decide +kernel
theorem dL_law_848 : decode cL_law 848 = .ok (.iadd, 1) := by decide +kernel
theorem dL_law_849 : decode cL_law 849 = .ok (.iaload, 1) := by decide +kernel
theorem dL_law_850 : decode cL_law 850 = .ok (.invokevirtual 97, 3) := by decide +kernel
theorem dL_law_853 : decode cL_law 853 = .ok (.if_icmp .eq 459, 3) := by decide +kernel
theorem dL_law_856 : decode cL_law 856 = .ok (.iconst 0, 1) := by decide +kernel
theorem dL_law_857 : decode cL_law 857 = .ok (.ireturn, 1) := by decide +kernel
theorem dL_law_858 : decode cL_law 858 = .ok (.aload_n 1, 1) := by decide +kernel
theorem dL_law_859 : decode cL_law 859 = .ok (.aload_n 0, 1) := by decide +kernel
theorem dL_law_860 : decode cL_law 860 = .ok (.iload_n 3, 1) := by decide +kernel
theorem dL_law_861 : decode cL_law 861 = .ok (.iconst 1, 1) := by decide +kernel
theorem dL_law_862 : decode cL_law 862 = .ok (.iadd, 1) := by decide +kernel
theorem dL_law_863 : decode cL_law 863 = .ok (.iaload, 1) := by decide +kernel
theorem dL_law_864 : decode cL_law 864 = .ok (.aload_n 0, 1) := by decide +kernel
theorem dL_law_865 : decode cL_law 865 = .ok (.iload_n 3, 1) := by decide +kernel
theorem dL_law_866 : decode cL_law 866 = .ok (.iconst 2, 1) := by decide +kernel
theorem dL_law_867 : decode cL_law 867 = .ok (.iadd, 1) := by decide +kernel
theorem dL_law_868 : decode cL_law 868 = .ok (.iaload, 1) := by decide +kernel
theorem dL_law_869 : decode cL_law 869 = .ok (.i2l, 1) := by decide +kernel
theorem dL_law_870 : decode cL_law 870 = .ok (.bipush 32, 2) := by decide +kernel
theorem dL_law_872 : decode cL_law 872 = .ok (.lshl, 1) := by decide +kernel
theorem dL_law_873 : decode cL_law 873 = .ok (.aload_n 0, 1) := by decide +kernel
theorem dL_law_874 : decode cL_law 874 = .ok (.iload_n 3, 1) := by decide +kernel
theorem dL_law_875 : decode cL_law 875 = .ok (.iconst 3, 1) := by decide +kernel
theorem dL_law_876 : decode cL_law 876 = .ok (.iadd, 1) := by decide +kernel
theorem dL_law_877 : decode cL_law 877 = .ok (.iaload, 1) := by decide +kernel
theorem dL_law_878 : decode cL_law 878 = .ok (.i2l, 1) := by decide +kernel
theorem dL_law_879 : decode cL_law 879 = .ok (.ldc2_w 48, 3) := by decide +kernel
theorem dL_law_882 : decode cL_law 882 = .ok (.land, 1) := by decide +kernel
theorem dL_law_883 : decode cL_law 883 = .ok (.lor, 1) := by decide +kernel
theorem dL_law_884 : decode cL_law 884 = .ok (.aload_n 0, 1) := by decide +kernel
theorem dL_law_885 : decode cL_law 885 = .ok (.iload_n 3, 1) := by decide +kernel
theorem dL_law_886 : decode cL_law 886 = .ok (.iconst 4, 1) := by decide +kernel
theorem dL_law_887 : decode cL_law 887 = .ok (.iadd, 1) := by decide +kernel
theorem dL_law_888 : decode cL_law 888 = .ok (.iaload, 1) := by decide +kernel
theorem dL_law_889 : decode cL_law 889 = .ok (.i2l, 1) := by decide +kernel
theorem dL_law_890 : decode cL_law 890 = .ok (.bipush 32, 2) := by decide +kernel
theorem dL_law_892 : decode cL_law 892 = .ok (.lshl, 1) := by decide +kernel
theorem dL_law_893 : decode cL_law 893 = .ok (.aload_n 0, 1) := by decide +kernel
theorem dL_law_894 : decode cL_law 894 = .ok (.iload_n 3, 1) := by decide +kernel
theorem dL_law_895 : decode cL_law 895 = .ok (.iconst 5, 1) := by decide +kernel
theorem dL_law_896 : decode cL_law 896 = .ok (.iadd, 1) := by decide +kernel
theorem dL_law_897 : decode cL_law 897 = .ok (.iaload, 1) := by decide +kernel
theorem dL_law_898 : decode cL_law 898 = .ok (.i2l, 1) := by decide +kernel
theorem dL_law_899 : decode cL_law 899 = .ok (.ldc2_w 48, 3) := by decide +kernel
theorem dL_law_902 : decode cL_law 902 = .ok (.land, 1) := by decide +kernel
theorem dL_law_903 : decode cL_law 903 = .ok (.lor, 1) := by decide +kernel
theorem dL_law_904 : decode cL_law 904 = .ok (.aload_n 0, 1) := by decide +kernel
theorem dL_law_905 : decode cL_law 905 = .ok (.iload_n 3, 1) := by decide +kernel
theorem dL_law_906 : decode cL_law 906 = .ok (.bipush 6, 2) := by decide +kernel
theorem dL_law_908 : decode cL_law 908 = .ok (.iadd, 1) := by decide +kernel
theorem dL_law_909 : decode cL_law 909 = .ok (.iaload, 1) := by decide +kernel
theorem dL_law_910 : decode cL_law 910 = .ok (.i2l, 1) := by decide +kernel
theorem dL_law_911 : decode cL_law 911 = .ok (.bipush 32, 2) := by decide +kernel
theorem dL_law_913 : decode cL_law 913 = .ok (.lshl, 1) := by decide +kernel
theorem dL_law_914 : decode cL_law 914 = .ok (.aload_n 0, 1) := by decide +kernel
theorem dL_law_915 : decode cL_law 915 = .ok (.iload_n 3, 1) := by decide +kernel
theorem dL_law_916 : decode cL_law 916 = .ok (.bipush 7, 2) := by decide +kernel
theorem dL_law_918 : decode cL_law 918 = .ok (.iadd, 1) := by decide +kernel
theorem dL_law_919 : decode cL_law 919 = .ok (.iaload, 1) := by decide +kernel
theorem dL_law_920 : decode cL_law 920 = .ok (.i2l, 1) := by decide +kernel
theorem dL_law_921 : decode cL_law 921 = .ok (.ldc2_w 48, 3) := by decide +kernel
theorem dL_law_924 : decode cL_law 924 = .ok (.land, 1) := by decide +kernel
theorem dL_law_925 : decode cL_law 925 = .ok (.lor, 1) := by decide +kernel
theorem dL_law_926 : decode cL_law 926 = .ok (.invokevirtual 98, 3) := by decide +kernel
theorem dL_law_929 : decode cL_law 929 = .ok (.aload_n 2, 1) := by decide +kernel
theorem dL_law_930 : decode cL_law 930 = .ok (.aload_n 0, 1) := by decide +kernel
theorem dL_law_931 : decode cL_law 931 = .ok (.iload_n 3, 1) := by decide +kernel
theorem dL_law_932 : decode cL_law 932 = .ok (.iconst 1, 1) := by decide +kernel
theorem dL_law_933 : decode cL_law 933 = .ok (.iadd, 1) := by decide +kernel
theorem dL_law_934 : decode cL_law 934 = .ok (.iaload, 1) := by decide +kernel
theorem dL_law_935 : decode cL_law 935 = .ok (.aload_n 0, 1) := by decide +kernel
theorem dL_law_936 : decode cL_law 936 = .ok (.iload_n 3, 1) := by decide +kernel
theorem dL_law_937 : decode cL_law 937 = .ok (.iconst 2, 1) := by decide +kernel
theorem dL_law_938 : decode cL_law 938 = .ok (.iadd, 1) := by decide +kernel
theorem dL_law_939 : decode cL_law 939 = .ok (.iaload, 1) := by decide +kernel
theorem dL_law_940 : decode cL_law 940 = .ok (.i2l, 1) := by decide +kernel
theorem dL_law_941 : decode cL_law 941 = .ok (.bipush 32, 2) := by decide +kernel
theorem dL_law_943 : decode cL_law 943 = .ok (.lshl, 1) := by decide +kernel
theorem dL_law_944 : decode cL_law 944 = .ok (.aload_n 0, 1) := by decide +kernel
theorem dL_law_945 : decode cL_law 945 = .ok (.iload_n 3, 1) := by decide +kernel
theorem dL_law_946 : decode cL_law 946 = .ok (.iconst 3, 1) := by decide +kernel
theorem dL_law_947 : decode cL_law 947 = .ok (.iadd, 1) := by decide +kernel
theorem dL_law_948 : decode cL_law 948 = .ok (.iaload, 1) := by decide +kernel
theorem dL_law_949 : decode cL_law 949 = .ok (.i2l, 1) := by decide +kernel
theorem dL_law_950 : decode cL_law 950 = .ok (.ldc2_w 48, 3) := by decide +kernel
theorem dL_law_953 : decode cL_law 953 = .ok (.land, 1) := by decide +kernel
theorem dL_law_954 : decode cL_law 954 = .ok (.lor, 1) := by decide +kernel
theorem dL_law_955 : decode cL_law 955 = .ok (.aload_n 0, 1) := by decide +kernel
theorem dL_law_956 : decode cL_law 956 = .ok (.iload_n 3, 1) := by decide +kernel
theorem dL_law_957 : decode cL_law 957 = .ok (.iconst 4, 1) := by decide +kernel
theorem dL_law_958 : decode cL_law 958 = .ok (.iadd, 1) := by decide +kernel
theorem dL_law_959 : decode cL_law 959 = .ok (.iaload, 1) := by decide +kernel
theorem dL_law_960 : decode cL_law 960 = .ok (.i2l, 1) := by decide +kernel
theorem dL_law_961 : decode cL_law 961 = .ok (.bipush 32, 2) := by decide +kernel
theorem dL_law_963 : decode cL_law 963 = .ok (.lshl, 1) := by decide +kernel
theorem dL_law_964 : decode cL_law 964 = .ok (.aload_n 0, 1) := by decide +kernel
theorem dL_law_965 : decode cL_law 965 = .ok (.iload_n 3, 1) := by decide +kernel
theorem dL_law_966 : decode cL_law 966 = .ok (.iconst 5, 1) := by decide +kernel
theorem dL_law_967 : decode cL_law 967 = .ok (.iadd, 1) := by decide +kernel
theorem dL_law_968 : decode cL_law 968 = .ok (.iaload, 1) := by decide +kernel
theorem dL_law_969 : decode cL_law 969 = .ok (.i2l, 1) := by decide +kernel
theorem dL_law_970 : decode cL_law 970 = .ok (.ldc2_w 48, 3) := by decide +kernel
theorem dL_law_973 : decode cL_law 973 = .ok (.land, 1) := by decide +kernel
theorem dL_law_974 : decode cL_law 974 = .ok (.lor, 1) := by decide +kernel
theorem dL_law_975 : decode cL_law 975 = .ok (.aload_n 0, 1) := by decide +kernel
theorem dL_law_976 : decode cL_law 976 = .ok (.iload_n 3, 1) := by decide +kernel
theorem dL_law_977 : decode cL_law 977 = .ok (.bipush 6, 2) := by decide +kernel
theorem dL_law_979 : decode cL_law 979 = .ok (.iadd, 1) := by decide +kernel
theorem dL_law_980 : decode cL_law 980 = .ok (.iaload, 1) := by decide +kernel
theorem dL_law_981 : decode cL_law 981 = .ok (.i2l, 1) := by decide +kernel
theorem dL_law_982 : decode cL_law 982 = .ok (.bipush 32, 2) := by decide +kernel
theorem dL_law_984 : decode cL_law 984 = .ok (.lshl, 1) := by decide +kernel
theorem dL_law_985 : decode cL_law 985 = .ok (.aload_n 0, 1) := by decide +kernel
theorem dL_law_986 : decode cL_law 986 = .ok (.iload_n 3, 1) := by decide +kernel
theorem dL_law_987 : decode cL_law 987 = .ok (.bipush 7, 2) := by decide +kernel
theorem dL_law_989 : decode cL_law 989 = .ok (.iadd, 1) := by decide +kernel
theorem dL_law_990 : decode cL_law 990 = .ok (.iaload, 1) := by decide +kernel
theorem dL_law_991 : decode cL_law 991 = .ok (.i2l, 1) := by decide +kernel
theorem dL_law_992 : decode cL_law 992 = .ok (.ldc2_w 48, 3) := by decide +kernel
theorem dL_law_995 : decode cL_law 995 = .ok (.land, 1) := by decide +kernel
theorem dL_law_996 : decode cL_law 996 = .ok (.lor, 1) := by decide +kernel
theorem dL_law_997 : decode cL_law 997 = .ok (.invokevirtual 102, 3) := by decide +kernel
theorem dL_law_1000 : decode cL_law 1000 = .ok (.if_icmp .eq 312, 3) := by decide +kernel
theorem dL_law_1003 : decode cL_law 1003 = .ok (.iconst 0, 1) := by decide +kernel
theorem dL_law_1004 : decode cL_law 1004 = .ok (.ireturn, 1) := by decide +kernel
theorem dL_law_1005 : decode cL_law 1005 = .ok (.aload_n 1, 1) := by decide +kernel
theorem dL_law_1006 : decode cL_law 1006 = .ok (.aload_n 0, 1) := by decide +kernel
theorem dL_law_1007 : decode cL_law 1007 = .ok (.iload_n 3, 1) := by decide +kernel
theorem dL_law_1008 : decode cL_law 1008 = .ok (.iconst 1, 1) := by decide +kernel
theorem dL_law_1009 : decode cL_law 1009 = .ok (.iadd, 1) := by decide +kernel
theorem dL_law_1010 : decode cL_law 1010 = .ok (.iaload, 1) := by decide +kernel
theorem dL_law_1011 : decode cL_law 1011 = .ok (.aload_n 0, 1) := by decide +kernel
theorem dL_law_1012 : decode cL_law 1012 = .ok (.iload_n 3, 1) := by decide +kernel
theorem dL_law_1013 : decode cL_law 1013 = .ok (.iconst 2, 1) := by decide +kernel
theorem dL_law_1014 : decode cL_law 1014 = .ok (.iadd, 1) := by decide +kernel
theorem dL_law_1015 : decode cL_law 1015 = .ok (.iaload, 1) := by decide +kernel
theorem dL_law_1016 : decode cL_law 1016 = .ok (.i2l, 1) := by decide +kernel
theorem dL_law_1017 : decode cL_law 1017 = .ok (.bipush 32, 2) := by decide +kernel
theorem dL_law_1019 : decode cL_law 1019 = .ok (.lshl, 1) := by decide +kernel
theorem dL_law_1020 : decode cL_law 1020 = .ok (.aload_n 0, 1) := by decide +kernel
theorem dL_law_1021 : decode cL_law 1021 = .ok (.iload_n 3, 1) := by decide +kernel
theorem dL_law_1022 : decode cL_law 1022 = .ok (.iconst 3, 1) := by decide +kernel
theorem dL_law_1023 : decode cL_law 1023 = .ok (.iadd, 1) := by decide +kernel
theorem dL_law_1024 : decode cL_law 1024 = .ok (.iaload, 1) := by decide +kernel
theorem dL_law_1025 : decode cL_law 1025 = .ok (.i2l, 1) := by decide +kernel
theorem dL_law_1026 : decode cL_law 1026 = .ok (.ldc2_w 48, 3) := by decide +kernel
theorem dL_law_1029 : decode cL_law 1029 = .ok (.land, 1) := by decide +kernel
theorem dL_law_1030 : decode cL_law 1030 = .ok (.lor, 1) := by decide +kernel
theorem dL_law_1031 : decode cL_law 1031 = .ok (.invokevirtual 103, 3) := by decide +kernel
theorem dL_law_1034 : decode cL_law 1034 = .ok (.aload_n 2, 1) := by decide +kernel
theorem dL_law_1035 : decode cL_law 1035 = .ok (.aload_n 0, 1) := by decide +kernel
theorem dL_law_1036 : decode cL_law 1036 = .ok (.iload_n 3, 1) := by decide +kernel
theorem dL_law_1037 : decode cL_law 1037 = .ok (.iconst 1, 1) := by decide +kernel
theorem dL_law_1038 : decode cL_law 1038 = .ok (.iadd, 1) := by decide +kernel
theorem dL_law_1039 : decode cL_law 1039 = .ok (.iaload, 1) := by decide +kernel
theorem dL_law_1040 : decode cL_law 1040 = .ok (.aload_n 0, 1) := by decide +kernel
theorem dL_law_1041 : decode cL_law 1041 = .ok (.iload_n 3, 1) := by decide +kernel
theorem dL_law_1042 : decode cL_law 1042 = .ok (.iconst 2, 1) := by decide +kernel
theorem dL_law_1043 : decode cL_law 1043 = .ok (.iadd, 1) := by decide +kernel
theorem dL_law_1044 : decode cL_law 1044 = .ok (.iaload, 1) := by decide +kernel
theorem dL_law_1045 : decode cL_law 1045 = .ok (.i2l, 1) := by decide +kernel
theorem dL_law_1046 : decode cL_law 1046 = .ok (.bipush 32, 2) := by decide +kernel
theorem dL_law_1048 : decode cL_law 1048 = .ok (.lshl, 1) := by decide +kernel
theorem dL_law_1049 : decode cL_law 1049 = .ok (.aload_n 0, 1) := by decide +kernel
theorem dL_law_1050 : decode cL_law 1050 = .ok (.iload_n 3, 1) := by decide +kernel
theorem dL_law_1051 : decode cL_law 1051 = .ok (.iconst 3, 1) := by decide +kernel
theorem dL_law_1052 : decode cL_law 1052 = .ok (.iadd, 1) := by decide +kernel
theorem dL_law_1053 : decode cL_law 1053 = .ok (.iaload, 1) := by decide +kernel
theorem dL_law_1054 : decode cL_law 1054 = .ok (.i2l, 1) := by decide +kernel
theorem dL_law_1055 : decode cL_law 1055 = .ok (.ldc2_w 48, 3) := by decide +kernel
theorem dL_law_1058 : decode cL_law 1058 = .ok (.land, 1) := by decide +kernel
theorem dL_law_1059 : decode cL_law 1059 = .ok (.lor, 1) := by decide +kernel
theorem dL_law_1060 : decode cL_law 1060 = .ok (.invokevirtual 107, 3) := by decide +kernel
theorem dL_law_1063 : decode cL_law 1063 = .ok (.lcmp, 1) := by decide +kernel
theorem dL_law_1064 : decode cL_law 1064 = .ok (.ifCond .eq 248, 3) := by decide +kernel
theorem dL_law_1067 : decode cL_law 1067 = .ok (.iconst 0, 1) := by decide +kernel
theorem dL_law_1068 : decode cL_law 1068 = .ok (.ireturn, 1) := by decide +kernel
theorem dL_law_1069 : decode cL_law 1069 = .ok (.aload_n 1, 1) := by decide +kernel
theorem dL_law_1070 : decode cL_law 1070 = .ok (.aload_n 0, 1) := by decide +kernel
theorem dL_law_1071 : decode cL_law 1071 = .ok (.iload_n 3, 1) := by decide +kernel
theorem dL_law_1072 : decode cL_law 1072 = .ok (.iconst 1, 1) := by decide +kernel
theorem dL_law_1073 : decode cL_law 1073 = .ok (.iadd, 1) := by decide +kernel
theorem dL_law_1074 : decode cL_law 1074 = .ok (.iaload, 1) := by decide +kernel
theorem dL_law_1075 : decode cL_law 1075 = .ok (.invokevirtual 108, 3) := by decide +kernel
theorem dL_law_1078 : decode cL_law 1078 = .ok (.aload_n 2, 1) := by decide +kernel
theorem dL_law_1079 : decode cL_law 1079 = .ok (.aload_n 0, 1) := by decide +kernel
theorem dL_law_1080 : decode cL_law 1080 = .ok (.iload_n 3, 1) := by decide +kernel
theorem dL_law_1081 : decode cL_law 1081 = .ok (.iconst 1, 1) := by decide +kernel
theorem dL_law_1082 : decode cL_law 1082 = .ok (.iadd, 1) := by decide +kernel
theorem dL_law_1083 : decode cL_law 1083 = .ok (.iaload, 1) := by decide +kernel
theorem dL_law_1084 : decode cL_law 1084 = .ok (.invokevirtual 112, 3) := by decide +kernel
theorem dL_law_1087 : decode cL_law 1087 = .ok (.lcmp, 1) := by decide +kernel
theorem dL_law_1088 : decode cL_law 1088 = .ok (.ifCond .eq 224, 3) := by decide +kernel
theorem dL_law_1091 : decode cL_law 1091 = .ok (.iconst 0, 1) := by decide +kernel
theorem dL_law_1092 : decode cL_law 1092 = .ok (.ireturn, 1) := by decide +kernel
theorem dL_law_1093 : decode cL_law 1093 = .ok (.aload_n 1, 1) := by decide +kernel
theorem dL_law_1094 : decode cL_law 1094 = .ok (.aload_n 0, 1) := by decide +kernel
theorem dL_law_1095 : decode cL_law 1095 = .ok (.iload_n 3, 1) := by decide +kernel
theorem dL_law_1096 : decode cL_law 1096 = .ok (.iconst 1, 1) := by decide +kernel
theorem dL_law_1097 : decode cL_law 1097 = .ok (.iadd, 1) := by decide +kernel
theorem dL_law_1098 : decode cL_law 1098 = .ok (.iaload, 1) := by decide +kernel
theorem dL_law_1099 : decode cL_law 1099 = .ok (.aload_n 0, 1) := by decide +kernel
theorem dL_law_1100 : decode cL_law 1100 = .ok (.iload_n 3, 1) := by decide +kernel
theorem dL_law_1101 : decode cL_law 1101 = .ok (.iconst 2, 1) := by decide +kernel
theorem dL_law_1102 : decode cL_law 1102 = .ok (.iadd, 1) := by decide +kernel
theorem dL_law_1103 : decode cL_law 1103 = .ok (.iaload, 1) := by decide +kernel
theorem dL_law_1104 : decode cL_law 1104 = .ok (.i2l, 1) := by decide +kernel
theorem dL_law_1105 : decode cL_law 1105 = .ok (.bipush 32, 2) := by decide +kernel
theorem dL_law_1107 : decode cL_law 1107 = .ok (.lshl, 1) := by decide +kernel
theorem dL_law_1108 : decode cL_law 1108 = .ok (.aload_n 0, 1) := by decide +kernel
theorem dL_law_1109 : decode cL_law 1109 = .ok (.iload_n 3, 1) := by decide +kernel
theorem dL_law_1110 : decode cL_law 1110 = .ok (.iconst 3, 1) := by decide +kernel
theorem dL_law_1111 : decode cL_law 1111 = .ok (.iadd, 1) := by decide +kernel
theorem dL_law_1112 : decode cL_law 1112 = .ok (.iaload, 1) := by decide +kernel
theorem dL_law_1113 : decode cL_law 1113 = .ok (.i2l, 1) := by decide +kernel
theorem dL_law_1114 : decode cL_law 1114 = .ok (.ldc2_w 48, 3) := by decide +kernel
theorem dL_law_1117 : decode cL_law 1117 = .ok (.land, 1) := by decide +kernel
theorem dL_law_1118 : decode cL_law 1118 = .ok (.lor, 1) := by decide +kernel
theorem dL_law_1119 : decode cL_law 1119 = .ok (.invokevirtual 113, 3) := by decide +kernel
theorem dL_law_1122 : decode cL_law 1122 = .ok (.aload_n 2, 1) := by decide +kernel
theorem dL_law_1123 : decode cL_law 1123 = .ok (.aload_n 0, 1) := by decide +kernel
theorem dL_law_1124 : decode cL_law 1124 = .ok (.iload_n 3, 1) := by decide +kernel
theorem dL_law_1125 : decode cL_law 1125 = .ok (.iconst 1, 1) := by decide +kernel
theorem dL_law_1126 : decode cL_law 1126 = .ok (.iadd, 1) := by decide +kernel
theorem dL_law_1127 : decode cL_law 1127 = .ok (.iaload, 1) := by decide +kernel
theorem dL_law_1128 : decode cL_law 1128 = .ok (.aload_n 0, 1) := by decide +kernel
theorem dL_law_1129 : decode cL_law 1129 = .ok (.iload_n 3, 1) := by decide +kernel
theorem dL_law_1130 : decode cL_law 1130 = .ok (.iconst 2, 1) := by decide +kernel
theorem dL_law_1131 : decode cL_law 1131 = .ok (.iadd, 1) := by decide +kernel
theorem dL_law_1132 : decode cL_law 1132 = .ok (.iaload, 1) := by decide +kernel
theorem dL_law_1133 : decode cL_law 1133 = .ok (.i2l, 1) := by decide +kernel
theorem dL_law_1134 : decode cL_law 1134 = .ok (.bipush 32, 2) := by decide +kernel
theorem dL_law_1136 : decode cL_law 1136 = .ok (.lshl, 1) := by decide +kernel
theorem dL_law_1137 : decode cL_law 1137 = .ok (.aload_n 0, 1) := by decide +kernel
theorem dL_law_1138 : decode cL_law 1138 = .ok (.iload_n 3, 1) := by decide +kernel
theorem dL_law_1139 : decode cL_law 1139 = .ok (.iconst 3, 1) := by decide +kernel
theorem dL_law_1140 : decode cL_law 1140 = .ok (.iadd, 1) := by decide +kernel
theorem dL_law_1141 : decode cL_law 1141 = .ok (.iaload, 1) := by decide +kernel
theorem dL_law_1142 : decode cL_law 1142 = .ok (.i2l, 1) := by decide +kernel
theorem dL_law_1143 : decode cL_law 1143 = .ok (.ldc2_w 48, 3) := by decide +kernel
theorem dL_law_1146 : decode cL_law 1146 = .ok (.land, 1) := by decide +kernel
theorem dL_law_1147 : decode cL_law 1147 = .ok (.lor, 1) := by decide +kernel
theorem dL_law_1148 : decode cL_law 1148 = .ok (.invokevirtual 116, 3) := by decide +kernel
theorem dL_law_1151 : decode cL_law 1151 = .ok (.lcmp, 1) := by decide +kernel
theorem dL_law_1152 : decode cL_law 1152 = .ok (.ifCond .eq 160, 3) := by decide +kernel
theorem dL_law_1155 : decode cL_law 1155 = .ok (.iconst 0, 1) := by decide +kernel
theorem dL_law_1156 : decode cL_law 1156 = .ok (.ireturn, 1) := by decide +kernel
theorem dL_law_1157 : decode cL_law 1157 = .ok (.aload_n 1, 1) := by decide +kernel
theorem dL_law_1158 : decode cL_law 1158 = .ok (.aload_n 0, 1) := by decide +kernel
theorem dL_law_1159 : decode cL_law 1159 = .ok (.iload_n 3, 1) := by decide +kernel
theorem dL_law_1160 : decode cL_law 1160 = .ok (.iconst 1, 1) := by decide +kernel
theorem dL_law_1161 : decode cL_law 1161 = .ok (.iadd, 1) := by decide +kernel
theorem dL_law_1162 : decode cL_law 1162 = .ok (.iaload, 1) := by decide +kernel
theorem dL_law_1163 : decode cL_law 1163 = .ok (.aload_n 0, 1) := by decide +kernel
theorem dL_law_1164 : decode cL_law 1164 = .ok (.iload_n 3, 1) := by decide +kernel
theorem dL_law_1165 : decode cL_law 1165 = .ok (.iconst 2, 1) := by decide +kernel
theorem dL_law_1166 : decode cL_law 1166 = .ok (.iadd, 1) := by decide +kernel
theorem dL_law_1167 : decode cL_law 1167 = .ok (.iaload, 1) := by decide +kernel
theorem dL_law_1168 : decode cL_law 1168 = .ok (.invokevirtual 117, 3) := by decide +kernel
theorem dL_law_1171 : decode cL_law 1171 = .ok (.aload_n 2, 1) := by decide +kernel
theorem dL_law_1172 : decode cL_law 1172 = .ok (.aload_n 0, 1) := by decide +kernel
theorem dL_law_1173 : decode cL_law 1173 = .ok (.iload_n 3, 1) := by decide +kernel
theorem dL_law_1174 : decode cL_law 1174 = .ok (.iconst 1, 1) := by decide +kernel
theorem dL_law_1175 : decode cL_law 1175 = .ok (.iadd, 1) := by decide +kernel
theorem dL_law_1176 : decode cL_law 1176 = .ok (.iaload, 1) := by decide +kernel
theorem dL_law_1177 : decode cL_law 1177 = .ok (.aload_n 0, 1) := by decide +kernel
theorem dL_law_1178 : decode cL_law 1178 = .ok (.iload_n 3, 1) := by decide +kernel
theorem dL_law_1179 : decode cL_law 1179 = .ok (.iconst 2, 1) := by decide +kernel
theorem dL_law_1180 : decode cL_law 1180 = .ok (.iadd, 1) := by decide +kernel
theorem dL_law_1181 : decode cL_law 1181 = .ok (.iaload, 1) := by decide +kernel
theorem dL_law_1182 : decode cL_law 1182 = .ok (.invokevirtual 120, 3) := by decide +kernel
theorem dL_law_1185 : decode cL_law 1185 = .ok (.if_icmp .eq 127, 3) := by decide +kernel
theorem dL_law_1188 : decode cL_law 1188 = .ok (.iconst 0, 1) := by decide +kernel
theorem dL_law_1189 : decode cL_law 1189 = .ok (.ireturn, 1) := by decide +kernel
theorem dL_law_1190 : decode cL_law 1190 = .ok (.aload_n 1, 1) := by decide +kernel
theorem dL_law_1191 : decode cL_law 1191 = .ok (.aload_n 0, 1) := by decide +kernel
theorem dL_law_1192 : decode cL_law 1192 = .ok (.iload_n 3, 1) := by decide +kernel
theorem dL_law_1193 : decode cL_law 1193 = .ok (.iconst 1, 1) := by decide +kernel
theorem dL_law_1194 : decode cL_law 1194 = .ok (.iadd, 1) := by decide +kernel
theorem dL_law_1195 : decode cL_law 1195 = .ok (.iaload, 1) := by decide +kernel
theorem dL_law_1196 : decode cL_law 1196 = .ok (.aload_n 0, 1) := by decide +kernel
theorem dL_law_1197 : decode cL_law 1197 = .ok (.iload_n 3, 1) := by decide +kernel
theorem dL_law_1198 : decode cL_law 1198 = .ok (.iconst 2, 1) := by decide +kernel
theorem dL_law_1199 : decode cL_law 1199 = .ok (.iadd, 1) := by decide +kernel
theorem dL_law_1200 : decode cL_law 1200 = .ok (.iaload, 1) := by decide +kernel
theorem dL_law_1201 : decode cL_law 1201 = .ok (.aload_n 0, 1) := by decide +kernel
theorem dL_law_1202 : decode cL_law 1202 = .ok (.iload_n 3, 1) := by decide +kernel
theorem dL_law_1203 : decode cL_law 1203 = .ok (.iconst 3, 1) := by decide +kernel
theorem dL_law_1204 : decode cL_law 1204 = .ok (.iadd, 1) := by decide +kernel
theorem dL_law_1205 : decode cL_law 1205 = .ok (.iaload, 1) := by decide +kernel
theorem dL_law_1206 : decode cL_law 1206 = .ok (.invokevirtual 121, 3) := by decide +kernel
theorem dL_law_1209 : decode cL_law 1209 = .ok (.aload_n 2, 1) := by decide +kernel
theorem dL_law_1210 : decode cL_law 1210 = .ok (.aload_n 0, 1) := by decide +kernel
theorem dL_law_1211 : decode cL_law 1211 = .ok (.iload_n 3, 1) := by decide +kernel
theorem dL_law_1212 : decode cL_law 1212 = .ok (.iconst 1, 1) := by decide +kernel
theorem dL_law_1213 : decode cL_law 1213 = .ok (.iadd, 1) := by decide +kernel
theorem dL_law_1214 : decode cL_law 1214 = .ok (.iaload, 1) := by decide +kernel
theorem dL_law_1215 : decode cL_law 1215 = .ok (.aload_n 0, 1) := by decide +kernel
theorem dL_law_1216 : decode cL_law 1216 = .ok (.iload_n 3, 1) := by decide +kernel
theorem dL_law_1217 : decode cL_law 1217 = .ok (.iconst 2, 1) := by decide +kernel
theorem dL_law_1218 : decode cL_law 1218 = .ok (.iadd, 1) := by decide +kernel
theorem dL_law_1219 : decode cL_law 1219 = .ok (.iaload, 1) := by decide +kernel
theorem dL_law_1220 : decode cL_law 1220 = .ok (.aload_n 0, 1) := by decide +kernel
theorem dL_law_1221 : decode cL_law 1221 = .ok (.iload_n 3, 1) := by decide +kernel
theorem dL_law_1222 : decode cL_law 1222 = .ok (.iconst 3, 1) := by decide +kernel
theorem dL_law_1223 : decode cL_law 1223 = .ok (.iadd, 1) := by decide +kernel
theorem dL_law_1224 : decode cL_law 1224 = .ok (.iaload, 1) := by decide +kernel
theorem dL_law_1225 : decode cL_law 1225 = .ok (.invokevirtual 124, 3) := by decide +kernel
theorem dL_law_1228 : decode cL_law 1228 = .ok (.if_icmp .eq 84, 3) := by decide +kernel
theorem dL_law_1231 : decode cL_law 1231 = .ok (.iconst 0, 1) := by decide +kernel
theorem dL_law_1232 : decode cL_law 1232 = .ok (.ireturn, 1) := by decide +kernel
theorem dL_law_1233 : decode cL_law 1233 = .ok (.aload_n 1, 1) := by decide +kernel
theorem dL_law_1234 : decode cL_law 1234 = .ok (.aload_n 0, 1) := by decide +kernel
theorem dL_law_1235 : decode cL_law 1235 = .ok (.iload_n 3, 1) := by decide +kernel
theorem dL_law_1236 : decode cL_law 1236 = .ok (.iconst 1, 1) := by decide +kernel
theorem dL_law_1237 : decode cL_law 1237 = .ok (.iadd, 1) := by decide +kernel
theorem dL_law_1238 : decode cL_law 1238 = .ok (.iaload, 1) := by decide +kernel
theorem dL_law_1239 : decode cL_law 1239 = .ok (.invokevirtual 125, 3) := by decide +kernel
theorem dL_law_1242 : decode cL_law 1242 = .ok (.aload_n 2, 1) := by decide +kernel
theorem dL_law_1243 : decode cL_law 1243 = .ok (.aload_n 0, 1) := by decide +kernel
theorem dL_law_1244 : decode cL_law 1244 = .ok (.iload_n 3, 1) := by decide +kernel
theorem dL_law_1245 : decode cL_law 1245 = .ok (.iconst 1, 1) := by decide +kernel
theorem dL_law_1246 : decode cL_law 1246 = .ok (.iadd, 1) := by decide +kernel
theorem dL_law_1247 : decode cL_law 1247 = .ok (.iaload, 1) := by decide +kernel
theorem dL_law_1248 : decode cL_law 1248 = .ok (.invokevirtual 128, 3) := by decide +kernel
theorem dL_law_1251 : decode cL_law 1251 = .ok (.if_icmp .eq 61, 3) := by decide +kernel
theorem dL_law_1254 : decode cL_law 1254 = .ok (.iconst 0, 1) := by decide +kernel
theorem dL_law_1255 : decode cL_law 1255 = .ok (.ireturn, 1) := by decide +kernel
theorem dL_law_1256 : decode cL_law 1256 = .ok (.aload_n 1, 1) := by decide +kernel
theorem dL_law_1257 : decode cL_law 1257 = .ok (.aload_n 0, 1) := by decide +kernel
theorem dL_law_1258 : decode cL_law 1258 = .ok (.iload_n 3, 1) := by decide +kernel
theorem dL_law_1259 : decode cL_law 1259 = .ok (.iconst 1, 1) := by decide +kernel
theorem dL_law_1260 : decode cL_law 1260 = .ok (.iadd, 1) := by decide +kernel
theorem dL_law_1261 : decode cL_law 1261 = .ok (.iaload, 1) := by decide +kernel
theorem dL_law_1262 : decode cL_law 1262 = .ok (.aload_n 0, 1) := by decide +kernel
theorem dL_law_1263 : decode cL_law 1263 = .ok (.iload_n 3, 1) := by decide +kernel
theorem dL_law_1264 : decode cL_law 1264 = .ok (.iconst 2, 1) := by decide +kernel
theorem dL_law_1265 : decode cL_law 1265 = .ok (.iadd, 1) := by decide +kernel
theorem dL_law_1266 : decode cL_law 1266 = .ok (.iaload, 1) := by decide +kernel
theorem dL_law_1267 : decode cL_law 1267 = .ok (.aload_n 0, 1) := by decide +kernel
theorem dL_law_1268 : decode cL_law 1268 = .ok (.iload_n 3, 1) := by decide +kernel
theorem dL_law_1269 : decode cL_law 1269 = .ok (.iconst 3, 1) := by decide +kernel
theorem dL_law_1270 : decode cL_law 1270 = .ok (.iadd, 1) := by decide +kernel
theorem dL_law_1271 : decode cL_law 1271 = .ok (.iaload, 1) := by decide +kernel
theorem dL_law_1272 : decode cL_law 1272 = .ok (.invokevirtual 129, 3) := by decide +kernel
theorem dL_law_1275 : decode cL_law 1275 = .ok (.aload_n 2, 1) := by decide +kernel
theorem dL_law_1276 : decode cL_law 1276 = .ok (.aload_n 0, 1) := by decide +kernel
theorem dL_law_1277 : decode cL_law 1277 = .ok (.iload_n 3, 1) := by decide +kernel
theorem dL_law_1278 : decode cL_law 1278 = .ok (.iconst 1, 1) := by decide +kernel
theorem dL_law_1279 : decode cL_law 1279 = .ok (.iadd, 1) := by decide +kernel
theorem dL_law_1280 : decode cL_law 1280 = .ok (.iaload, 1) := by decide +kernel
theorem dL_law_1281 : decode cL_law 1281 = .ok (.aload_n 0, 1) := by decide +kernel
theorem dL_law_1282 : decode cL_law 1282 = .ok (.iload_n 3, 1) := by decide +kernel
theorem dL_law_1283 : decode cL_law 1283 = .ok (.iconst 2, 1) := by decide +kernel
theorem dL_law_1284 : decode cL_law 1284 = .ok (.iadd, 1) := by decide +kernel
theorem dL_law_1285 : decode cL_law 1285 = .ok (.iaload, 1) := by decide +kernel
theorem dL_law_1286 : decode cL_law 1286 = .ok (.aload_n 0, 1) := by decide +kernel
theorem dL_law_1287 : decode cL_law 1287 = .ok (.iload_n 3, 1) := by decide +kernel
theorem dL_law_1288 : decode cL_law 1288 = .ok (.iconst 3, 1) := by decide +kernel
theorem dL_law_1289 : decode cL_law 1289 = .ok (.iadd, 1) := by decide +kernel
theorem dL_law_1290 : decode cL_law 1290 = .ok (.iaload, 1) := by decide +kernel
theorem dL_law_1291 : decode cL_law 1291 = .ok (.invokevirtual 132, 3) := by decide +kernel
theorem dL_law_1294 : decode cL_law 1294 = .ok (.if_icmp .eq 18, 3) := by decide +kernel
theorem dL_law_1297 : decode cL_law 1297 = .ok (.iconst 0, 1) := by decide +kernel
theorem dL_law_1298 : decode cL_law 1298 = .ok (.ireturn, 1) := by decide +kernel
theorem dL_law_1299 : decode cL_law 1299 = .ok (.aload_n 1, 1) := by decide +kernel
theorem dL_law_1300 : decode cL_law 1300 = .ok (.invokevirtual 133, 3) := by decide +kernel
theorem dL_law_1303 : decode cL_law 1303 = .ok (.aload_n 2, 1) := by decide +kernel
theorem dL_law_1304 : decode cL_law 1304 = .ok (.invokevirtual 136, 3) := by decide +kernel
theorem dL_law_1307 : decode cL_law 1307 = .ok (.if_icmp .eq 5, 3) := by decide +kernel
theorem dL_law_1310 : decode cL_law 1310 = .ok (.iconst 0, 1) := by decide +kernel
theorem dL_law_1311 : decode cL_law 1311 = .ok (.ireturn, 1) := by decide +kernel
theorem dL_law_1312 : decode cL_law 1312 = .ok (.iinc 3 8, 3) := by decide +kernel
theorem dL_law_1315 : decode cL_law 1315 = .ok (.goto (-1297), 3) := by decide +kernel
theorem dL_law_1318 : decode cL_law 1318 = .ok (.iconst 1, 1) := by decide +kernel
theorem dL_law_1319 : decode cL_law 1319 = .ok (.ireturn, 1) := by decide +kernel
abbrev LL_law_18 (G : GG) (d rc rs : Nat) (p0 : Nat) (p1 : Nat) (p2 : Nat) (x3 : Int32) (M : Mem) (Q : Option Value → Mem → Prop) : Prop := Wk G (d + 1) rc rs mL_law 18 [some (.ref p0), some (.ref p1), some (.ref p2), some (.int x3)] [] M Q
theorem eL_law {G : GG} {d rc rs : Nat} (a1 : Nat) {L : Nat} {xs : Nat → Int32} (hX : va_X a1 L xs (g_s G) (g_s G).heap)  {M : Mem} {Q : Option Value → Mem → Prop} (h : 1 ≤ rc ∧ 16 ≤ rs ∧ (∀ n3, n3 = g_b G + x_n M → ∀ M4, M4 = x_new M n3 27 0 → 615 ≤ (rc - 1) ∧ 162343 ≤ (rs - 16) ∧ Call G d 615 162343 mX11_init [.ref n3] M4 (fun r8 M9 => r8 = none ∧ 1 ≤ ((rc - 1) - 615) ∧ 92 ≤ ((rs - 16) - 162343) ∧ (∀ n12, n12 = g_b G + x_n M9 → ∀ M13, M13 = x_new M9 n12 28 0 → 64 ≤ (((rc - 1) - 615) - 1) ∧ 542897 ≤ (((rs - 16) - 162343) - 92) ∧ Call G d 64 542897 mX12_init [.ref n12] M13 (fun r17 M18 => r17 = none ∧ LL_law_18 G d ((((rc - 1) - 615) - 1) - 64) ((((rs - 16) - 162343) - 92) - 542897) a1 n3 n12 0 M18 Q))))) : Call G (d + 1) rc rs mL_law [.ref a1] M Q := by
  refine call_of (by decide) (Nat.le_of_ble_eq_true rfl) ?_
  show Wk G (d + 1) rc rs mL_law 0 [some (.ref a1), none, none, none] [] M Q
  obtain ⟨y1, y2, h⟩ := h
  refine r_newV (pc := 0) (ci := 11) (q := (RX11, TX11, 16)) dL_law_0 rfl ww_22 ww_23 ww_1 y1 y2 (fun n3 M4 enn3 eMn3 e5 => ?_)
  replace h := h n3 enn3 M4 eMn3
  refine r_dup (pc := 3) dL_law_3 rfl ?_
  obtain ⟨y6, y7, h⟩ := h
  refine r_callI (pc := 4) (as := []) (st := [_]) okX11_init lkL_9 inX11_init rfl dL_law_4 rfl (Nat.le_of_ble_eq_true rfl) y6 y7 (Call.mono h (fun r8 M9 h => ?_))
  obtain ⟨rfl, h⟩ := h
  refine r_astore_n (pc := 7) (i := 1) dL_law_7 rfl rfl (Nat.le_of_ble_eq_true rfl) ?_
  obtain ⟨y10, y11, h⟩ := h
  refine r_newV (pc := 8) (ci := 12) (q := (RX12, TX12, 92)) dL_law_8 rfl ww_1198 ww_1199 ww_14 y10 y11 (fun n12 M13 enn12 eMn12 e14 => ?_)
  replace h := h n12 enn12 M13 eMn12
  refine r_dup (pc := 11) dL_law_11 rfl ?_
  obtain ⟨y15, y16, h⟩ := h
  refine r_callI (pc := 12) (as := []) (st := [_]) okX12_init lkL_12 inX12_init rfl dL_law_12 rfl (Nat.le_of_ble_eq_true rfl) y15 y16 (Call.mono h (fun r17 M18 h => ?_))
  obtain ⟨rfl, h⟩ := h
  refine r_astore_n (pc := 15) (i := 2) dL_law_15 rfl rfl (Nat.le_of_ble_eq_true rfl) ?_
  refine r_iconst (pc := 16) (v := 0) dL_law_16 (by decide) ?_
  refine r_istore_n (pc := 17) (i := 3) dL_law_17 rfl rfl (Nat.le_of_ble_eq_true rfl) ?_
  exact h
theorem vL_law_18 {G : GG} {d rc rs : Nat} (p0 : Nat) (p1 : Nat) (p2 : Nat) (x3 : Int32) {L : Nat} {xs : Nat → Int32} (hX : va_X p0 L xs (g_s G) (g_s G).heap)  {M : Mem} {Q : Option Value → Mem → Prop} (h : (((nI L) - 8) < x3 → Q (some (.int 1)) M) ∧ (¬ ((nI L) - 8) < x3 → vp_in x3 L ∧ (((xs x3.toNatClampNeg) &&& 31) = 0 → vp_in (x3 + 1) L ∧ (x_h M p1).1 = 27 ∧ Call G d 0 0 mX11_begin [.ref p1, .int (xs (x3 + 1).toNatClampNeg)] M (fun r6 M7 => ∃ v8 : Int32, r6 = some (.int v8) ∧ vp_in (x3 + 1) L ∧ (x_h M7 p2).1 = 28 ∧ Call G d 0 0 mX12_begin [.ref p2, .int (xs (x3 + 1).toNatClampNeg)] M7 (fun r11 M12 => ∃ v13 : Int32, r11 = some (.int v13) ∧ (v8 = v13 → LL_law_18 G d rc rs p0 p1 p2 (x3 + 8) M12 Q) ∧ (¬ v8 = v13 → Q (some (.int 0)) M12)))) ∧ (((xs x3.toNatClampNeg) &&& 31) = 1 → vp_in (x3 + 1) L ∧ vp_in (x3 + 2) L ∧ vp_in (x3 + 3) L ∧ (x_h M p1).1 = 27 ∧ Call G d 0 0 mX11_sheet [.ref p1, .int (xs (x3 + 1).toNatClampNeg), .int (xs (x3 + 2).toNatClampNeg), .int (xs (x3 + 3).toNatClampNeg)] M (fun r20 M21 => ∃ v22 : Int32, r20 = some (.int v22) ∧ vp_in (x3 + 1) L ∧ vp_in (x3 + 2) L ∧ vp_in (x3 + 3) L ∧ (x_h M21 p2).1 = 28 ∧ Call G d 0 0 mX12_sheet [.ref p2, .int (xs (x3 + 1).toNatClampNeg), .int (xs (x3 + 2).toNatClampNeg), .int (xs (x3 + 3).toNatClampNeg)] M21 (fun r27 M28 => ∃ v29 : Int32, r27 = some (.int v29) ∧ (v22 = v29 → LL_law_18 G d rc rs p0 p1 p2 (x3 + 8) M28 Q) ∧ (¬ v22 = v29 → Q (some (.int 0)) M28)))) ∧ (((xs x3.toNatClampNeg) &&& 31) = 2 → vp_in (x3 + 1) L ∧ vp_in (x3 + 2) L ∧ vp_in (x3 + 3) L ∧ (x_h M p1).1 = 27 ∧ Call G d 0 0 mX11_cell [.ref p1, .int (xs (x3 + 1).toNatClampNeg), .int (xs (x3 + 2).toNatClampNeg), .int (xs (x3 + 3).toNatClampNeg)] M (fun r36 M37 => ∃ v38 : Int32, r36 = some (.int v38) ∧ vp_in (x3 + 1) L ∧ vp_in (x3 + 2) L ∧ vp_in (x3 + 3) L ∧ (x_h M37 p2).1 = 28 ∧ Call G d 0 0 mX12_cell [.ref p2, .int (xs (x3 + 1).toNatClampNeg), .int (xs (x3 + 2).toNatClampNeg), .int (xs (x3 + 3).toNatClampNeg)] M37 (fun r43 M44 => ∃ v45 : Int32, r43 = some (.int v45) ∧ (v38 = v45 → LL_law_18 G d rc rs p0 p1 p2 (x3 + 8) M44 Q) ∧ (¬ v38 = v45 → Q (some (.int 0)) M44)))) ∧ (((xs x3.toNatClampNeg) &&& 31) = 3 → vp_in (x3 + 1) L ∧ vp_in (x3 + 2) L ∧ vp_in (x3 + 3) L ∧ vp_in (x3 + 4) L ∧ (x_h M p1).1 = 27 ∧ Call G d 0 0 mX11_machine [.ref p1, .int (xs (x3 + 1).toNatClampNeg), .int (xs (x3 + 2).toNatClampNeg), .int (xs (x3 + 3).toNatClampNeg), .int (xs (x3 + 4).toNatClampNeg)] M (fun r53 M54 => ∃ v55 : Int32, r53 = some (.int v55) ∧ vp_in (x3 + 1) L ∧ vp_in (x3 + 2) L ∧ vp_in (x3 + 3) L ∧ vp_in (x3 + 4) L ∧ (x_h M54 p2).1 = 28 ∧ Call G d 0 0 mX12_machine [.ref p2, .int (xs (x3 + 1).toNatClampNeg), .int (xs (x3 + 2).toNatClampNeg), .int (xs (x3 + 3).toNatClampNeg), .int (xs (x3 + 4).toNatClampNeg)] M54 (fun r61 M62 => ∃ v63 : Int32, r61 = some (.int v63) ∧ (v55 = v63 → LL_law_18 G d rc rs p0 p1 p2 (x3 + 8) M62 Q) ∧ (¬ v55 = v63 → Q (some (.int 0)) M62)))) ∧ (((xs x3.toNatClampNeg) &&& 31) = 4 → vp_in (x3 + 1) L ∧ vp_in (x3 + 2) L ∧ vp_in (x3 + 3) L ∧ (x_h M p1).1 = 27 ∧ Call G d 0 0 mX11_grown [.ref p1, .int (xs (x3 + 1).toNatClampNeg), .int (xs (x3 + 2).toNatClampNeg), .int (xs (x3 + 3).toNatClampNeg)] M (fun r70 M71 => ∃ v72 : Int32, r70 = some (.int v72) ∧ vp_in (x3 + 1) L ∧ vp_in (x3 + 2) L ∧ vp_in (x3 + 3) L ∧ (x_h M71 p2).1 = 28 ∧ Call G d 0 0 mX12_grown [.ref p2, .int (xs (x3 + 1).toNatClampNeg), .int (xs (x3 + 2).toNatClampNeg), .int (xs (x3 + 3).toNatClampNeg)] M71 (fun r77 M78 => ∃ v79 : Int32, r77 = some (.int v79) ∧ (v72 = v79 → LL_law_18 G d rc rs p0 p1 p2 (x3 + 8) M78 Q) ∧ (¬ v72 = v79 → Q (some (.int 0)) M78)))) ∧ (((xs x3.toNatClampNeg) &&& 31) = 5 → vp_in (x3 + 1) L ∧ vp_in (x3 + 2) L ∧ vp_in (x3 + 3) L ∧ vp_in (x3 + 4) L ∧ (x_h M p1).1 = 27 ∧ Call G d 0 0 mX11_ring [.ref p1, .int (xs (x3 + 1).toNatClampNeg), .int (xs (x3 + 2).toNatClampNeg), .int (xs (x3 + 3).toNatClampNeg), .int (xs (x3 + 4).toNatClampNeg)] M (fun r87 M88 => ∃ v89 : Int32, r87 = some (.int v89) ∧ vp_in (x3 + 1) L ∧ vp_in (x3 + 2) L ∧ vp_in (x3 + 3) L ∧ vp_in (x3 + 4) L ∧ (x_h M88 p2).1 = 28 ∧ Call G d 0 0 mX12_ring [.ref p2, .int (xs (x3 + 1).toNatClampNeg), .int (xs (x3 + 2).toNatClampNeg), .int (xs (x3 + 3).toNatClampNeg), .int (xs (x3 + 4).toNatClampNeg)] M88 (fun r95 M96 => ∃ v97 : Int32, r95 = some (.int v97) ∧ (v89 = v97 → LL_law_18 G d rc rs p0 p1 p2 (x3 + 8) M96 Q) ∧ (¬ v89 = v97 → Q (some (.int 0)) M96)))) ∧ (((xs x3.toNatClampNeg) &&& 31) = 6 → vp_in (x3 + 1) L ∧ vp_in (x3 + 2) L ∧ vp_in (x3 + 3) L ∧ (x_h M p1).1 = 27 ∧ Call G d 0 0 mX11_pair [.ref p1, .int (xs (x3 + 1).toNatClampNeg), .int (xs (x3 + 2).toNatClampNeg), .int (xs (x3 + 3).toNatClampNeg)] M (fun r104 M105 => ∃ v106 : Int32, r104 = some (.int v106) ∧ vp_in (x3 + 1) L ∧ vp_in (x3 + 2) L ∧ vp_in (x3 + 3) L ∧ (x_h M105 p2).1 = 28 ∧ Call G d 0 0 mX12_pair [.ref p2, .int (xs (x3 + 1).toNatClampNeg), .int (xs (x3 + 2).toNatClampNeg), .int (xs (x3 + 3).toNatClampNeg)] M105 (fun r111 M112 => ∃ v113 : Int32, r111 = some (.int v113) ∧ (v106 = v113 → LL_law_18 G d rc rs p0 p1 p2 (x3 + 8) M112 Q) ∧ (¬ v106 = v113 → Q (some (.int 0)) M112)))) ∧ (((xs x3.toNatClampNeg) &&& 31) = 7 → vp_in (x3 + 1) L ∧ (x_h M p1).1 = 27 ∧ Call G d 0 0 mX11_sought [.ref p1, .int (xs (x3 + 1).toNatClampNeg)] M (fun r118 M119 => ∃ v120 : Int32, r118 = some (.int v120) ∧ vp_in (x3 + 1) L ∧ (x_h M119 p2).1 = 28 ∧ Call G d 0 0 mX12_sought [.ref p2, .int (xs (x3 + 1).toNatClampNeg)] M119 (fun r123 M124 => ∃ v125 : Int32, r123 = some (.int v125) ∧ (v120 = v125 → LL_law_18 G d rc rs p0 p1 p2 (x3 + 8) M124 Q) ∧ (¬ v120 = v125 → Q (some (.int 0)) M124)))) ∧ (((xs x3.toNatClampNeg) &&& 31) = 8 → vp_in (x3 + 1) L ∧ vp_in (x3 + 2) L ∧ vp_in (x3 + 3) L ∧ (x_h M p1).1 = 27 ∧ Call G d 0 0 mX11_feed [.ref p1, .int (xs (x3 + 1).toNatClampNeg), .long ((((xs (x3 + 2).toNatClampNeg).toInt64) <<< ((32 : Int32).toInt64 &&& 63)) ||| (((xs (x3 + 3).toNatClampNeg).toInt64) &&& 4294967295))] M (fun r132 M133 => ∃ v134 : Int32, r132 = some (.int v134) ∧ vp_in (x3 + 1) L ∧ vp_in (x3 + 2) L ∧ vp_in (x3 + 3) L ∧ (x_h M133 p2).1 = 28 ∧ Call G d 0 0 mX12_feed [.ref p2, .int (xs (x3 + 1).toNatClampNeg), .long ((((xs (x3 + 2).toNatClampNeg).toInt64) <<< ((32 : Int32).toInt64 &&& 63)) ||| (((xs (x3 + 3).toNatClampNeg).toInt64) &&& 4294967295))] M133 (fun r139 M140 => ∃ v141 : Int32, r139 = some (.int v141) ∧ (v134 = v141 → LL_law_18 G d rc rs p0 p1 p2 (x3 + 8) M140 Q) ∧ (¬ v134 = v141 → Q (some (.int 0)) M140)))) ∧ (((xs x3.toNatClampNeg) &&& 31) = 9 → (x_h M p1).1 = 27 ∧ Call G d 0 0 mX11_question [.ref p1] M (fun r145 M146 => ∃ v147 : Int32, r145 = some (.int v147) ∧ (x_h M146 p2).1 = 28 ∧ Call G d 0 0 mX12_question [.ref p2] M146 (fun r149 M150 => ∃ v151 : Int32, r149 = some (.int v151) ∧ (v147 = v151 → LL_law_18 G d rc rs p0 p1 p2 (x3 + 8) M150 Q) ∧ (¬ v147 = v151 → Q (some (.int 0)) M150)))) ∧ (((xs x3.toNatClampNeg) &&& 31) = 10 → vp_in (x3 + 1) L ∧ (x_h M p1).1 = 27 ∧ Call G d 0 0 mX11_drop [.ref p1, .int (xs (x3 + 1).toNatClampNeg)] M (fun r156 M157 => ∃ v158 : Int32, r156 = some (.int v158) ∧ vp_in (x3 + 1) L ∧ (x_h M157 p2).1 = 28 ∧ Call G d 0 0 mX12_drop [.ref p2, .int (xs (x3 + 1).toNatClampNeg)] M157 (fun r161 M162 => ∃ v163 : Int32, r161 = some (.int v163) ∧ (v158 = v163 → LL_law_18 G d rc rs p0 p1 p2 (x3 + 8) M162 Q) ∧ (¬ v158 = v163 → Q (some (.int 0)) M162)))) ∧ (((xs x3.toNatClampNeg) &&& 31) = 11 → vp_in (x3 + 1) L ∧ (x_h M p1).1 = 27 ∧ Call G d 0 0 mX11_count [.ref p1, .int (xs (x3 + 1).toNatClampNeg)] M (fun r168 M169 => ∃ v170 : Int32, r168 = some (.int v170) ∧ vp_in (x3 + 1) L ∧ (x_h M169 p2).1 = 28 ∧ Call G d 0 0 mX12_count [.ref p2, .int (xs (x3 + 1).toNatClampNeg)] M169 (fun r173 M174 => ∃ v175 : Int32, r173 = some (.int v175) ∧ (v170 = v175 → LL_law_18 G d rc rs p0 p1 p2 (x3 + 8) M174 Q) ∧ (¬ v170 = v175 → Q (some (.int 0)) M174)))) ∧ (((xs x3.toNatClampNeg) &&& 31) = 12 → vp_in (x3 + 1) L ∧ (x_h M p1).1 = 27 ∧ Call G d 0 0 mX11_kind [.ref p1, .int (xs (x3 + 1).toNatClampNeg)] M (fun r180 M181 => ∃ v182 : Int32, r180 = some (.int v182) ∧ vp_in (x3 + 1) L ∧ (x_h M181 p2).1 = 28 ∧ Call G d 0 0 mX12_kind [.ref p2, .int (xs (x3 + 1).toNatClampNeg)] M181 (fun r185 M186 => ∃ v187 : Int32, r185 = some (.int v187) ∧ (v182 = v187 → LL_law_18 G d rc rs p0 p1 p2 (x3 + 8) M186 Q) ∧ (¬ v182 = v187 → Q (some (.int 0)) M186)))) ∧ (((xs x3.toNatClampNeg) &&& 31) = 13 → vp_in (x3 + 1) L ∧ vp_in (x3 + 2) L ∧ vp_in (x3 + 3) L ∧ (x_h M p1).1 = 27 ∧ Call G d 0 0 mX11_letter [.ref p1, .int (xs (x3 + 1).toNatClampNeg), .long ((((xs (x3 + 2).toNatClampNeg).toInt64) <<< ((32 : Int32).toInt64 &&& 63)) ||| (((xs (x3 + 3).toNatClampNeg).toInt64) &&& 4294967295))] M (fun r194 M195 => ∃ v196 : Int32, r194 = some (.int v196) ∧ vp_in (x3 + 1) L ∧ vp_in (x3 + 2) L ∧ vp_in (x3 + 3) L ∧ (x_h M195 p2).1 = 28 ∧ Call G d 0 0 mX12_letter [.ref p2, .int (xs (x3 + 1).toNatClampNeg), .long ((((xs (x3 + 2).toNatClampNeg).toInt64) <<< ((32 : Int32).toInt64 &&& 63)) ||| (((xs (x3 + 3).toNatClampNeg).toInt64) &&& 4294967295))] M195 (fun r201 M202 => ∃ v203 : Int32, r201 = some (.int v203) ∧ (v196 = v203 → LL_law_18 G d rc rs p0 p1 p2 (x3 + 8) M202 Q) ∧ (¬ v196 = v203 → Q (some (.int 0)) M202)))) ∧ (((xs x3.toNatClampNeg) &&& 31) = 14 → vp_in (x3 + 1) L ∧ (x_h M p1).1 = 27 ∧ Call G d 0 0 mX11_width [.ref p1, .int (xs (x3 + 1).toNatClampNeg)] M (fun r208 M209 => ∃ v210 : Int32, r208 = some (.int v210) ∧ vp_in (x3 + 1) L ∧ (x_h M209 p2).1 = 28 ∧ Call G d 0 0 mX12_width [.ref p2, .int (xs (x3 + 1).toNatClampNeg)] M209 (fun r213 M214 => ∃ v215 : Int32, r213 = some (.int v215) ∧ (v210 = v215 → LL_law_18 G d rc rs p0 p1 p2 (x3 + 8) M214 Q) ∧ (¬ v210 = v215 → Q (some (.int 0)) M214)))) ∧ (((xs x3.toNatClampNeg) &&& 31) = 15 → vp_in (x3 + 1) L ∧ vp_in (x3 + 2) L ∧ (x_h M p1).1 = 27 ∧ Call G d 0 0 mX11_differ [.ref p1, .int (xs (x3 + 1).toNatClampNeg), .int (xs (x3 + 2).toNatClampNeg)] M (fun r221 M222 => ∃ v223 : Int64, r221 = some (.long v223) ∧ vp_in (x3 + 1) L ∧ vp_in (x3 + 2) L ∧ (x_h M222 p2).1 = 28 ∧ Call G d 0 0 mX12_differ [.ref p2, .int (xs (x3 + 1).toNatClampNeg), .int (xs (x3 + 2).toNatClampNeg)] M222 (fun r227 M228 => ∃ v229 : Int64, r227 = some (.long v229) ∧ ((lg_cmp v223 v229) = 0 → LL_law_18 G d rc rs p0 p1 p2 (x3 + 8) M228 Q) ∧ (¬ (lg_cmp v223 v229) = 0 → Q (some (.int 0)) M228)))) ∧ (((xs x3.toNatClampNeg) &&& 31) = 16 → vp_in (x3 + 1) L ∧ vp_in (x3 + 2) L ∧ (x_h M p1).1 = 27 ∧ Call G d 0 0 mX11_told [.ref p1, .int (xs (x3 + 1).toNatClampNeg), .int (xs (x3 + 2).toNatClampNeg)] M (fun r235 M236 => ∃ v237 : Int32, r235 = some (.int v237) ∧ vp_in (x3 + 1) L ∧ vp_in (x3 + 2) L ∧ (x_h M236 p2).1 = 28 ∧ Call G d 0 0 mX12_told [.ref p2, .int (xs (x3 + 1).toNatClampNeg), .int (xs (x3 + 2).toNatClampNeg)] M236 (fun r241 M242 => ∃ v243 : Int32, r241 = some (.int v243) ∧ (v237 = v243 → LL_law_18 G d rc rs p0 p1 p2 (x3 + 8) M242 Q) ∧ (¬ v237 = v243 → Q (some (.int 0)) M242)))) ∧ (((xs x3.toNatClampNeg) &&& 31) = 17 → vp_in (x3 + 1) L ∧ vp_in (x3 + 2) L ∧ vp_in (x3 + 3) L ∧ (x_h M p1).1 = 27 ∧ Call G d 0 0 mX11_step [.ref p1, .int (xs (x3 + 1).toNatClampNeg), .int (xs (x3 + 2).toNatClampNeg), .int (xs (x3 + 3).toNatClampNeg)] M (fun r250 M251 => ∃ v252 : Int32, r250 = some (.int v252) ∧ vp_in (x3 + 1) L ∧ vp_in (x3 + 2) L ∧ vp_in (x3 + 3) L ∧ (x_h M251 p2).1 = 28 ∧ Call G d 0 0 mX12_step [.ref p2, .int (xs (x3 + 1).toNatClampNeg), .int (xs (x3 + 2).toNatClampNeg), .int (xs (x3 + 3).toNatClampNeg)] M251 (fun r257 M258 => ∃ v259 : Int32, r257 = some (.int v259) ∧ (v252 = v259 → LL_law_18 G d rc rs p0 p1 p2 (x3 + 8) M258 Q) ∧ (¬ v252 = v259 → Q (some (.int 0)) M258)))) ∧ (((xs x3.toNatClampNeg) &&& 31) = 18 → vp_in (x3 + 1) L ∧ vp_in (x3 + 2) L ∧ (x_h M p1).1 = 27 ∧ Call G d 0 0 mX11_takes [.ref p1, .int (xs (x3 + 1).toNatClampNeg), .int (xs (x3 + 2).toNatClampNeg)] M (fun r265 M266 => ∃ v267 : Int32, r265 = some (.int v267) ∧ vp_in (x3 + 1) L ∧ vp_in (x3 + 2) L ∧ (x_h M266 p2).1 = 28 ∧ Call G d 0 0 mX12_takes [.ref p2, .int (xs (x3 + 1).toNatClampNeg), .int (xs (x3 + 2).toNatClampNeg)] M266 (fun r271 M272 => ∃ v273 : Int32, r271 = some (.int v273) ∧ (v267 = v273 → LL_law_18 G d rc rs p0 p1 p2 (x3 + 8) M272 Q) ∧ (¬ v267 = v273 → Q (some (.int 0)) M272)))) ∧ (((xs x3.toNatClampNeg) &&& 31) = 19 → vp_in (x3 + 1) L ∧ vp_in (x3 + 2) L ∧ vp_in (x3 + 3) L ∧ vp_in (x3 + 4) L ∧ vp_in (x3 + 5) L ∧ vp_in (x3 + 6) L ∧ vp_in (x3 + 7) L ∧ (x_h M p1).1 = 27 ∧ Call G d 0 0 mX11_holds [.ref p1, .int (xs (x3 + 1).toNatClampNeg), .long ((((xs (x3 + 2).toNatClampNeg).toInt64) <<< ((32 : Int32).toInt64 &&& 63)) ||| (((xs (x3 + 3).toNatClampNeg).toInt64) &&& 4294967295)), .long ((((xs (x3 + 4).toNatClampNeg).toInt64) <<< ((32 : Int32).toInt64 &&& 63)) ||| (((xs (x3 + 5).toNatClampNeg).toInt64) &&& 4294967295)), .long ((((xs (x3 + 6).toNatClampNeg).toInt64) <<< ((32 : Int32).toInt64 &&& 63)) ||| (((xs (x3 + 7).toNatClampNeg).toInt64) &&& 4294967295))] M (fun r284 M285 => ∃ v286 : Int32, r284 = some (.int v286) ∧ vp_in (x3 + 1) L ∧ vp_in (x3 + 2) L ∧ vp_in (x3 + 3) L ∧ vp_in (x3 + 4) L ∧ vp_in (x3 + 5) L ∧ vp_in (x3 + 6) L ∧ vp_in (x3 + 7) L ∧ (x_h M285 p2).1 = 28 ∧ Call G d 0 0 mX12_holds [.ref p2, .int (xs (x3 + 1).toNatClampNeg), .long ((((xs (x3 + 2).toNatClampNeg).toInt64) <<< ((32 : Int32).toInt64 &&& 63)) ||| (((xs (x3 + 3).toNatClampNeg).toInt64) &&& 4294967295)), .long ((((xs (x3 + 4).toNatClampNeg).toInt64) <<< ((32 : Int32).toInt64 &&& 63)) ||| (((xs (x3 + 5).toNatClampNeg).toInt64) &&& 4294967295)), .long ((((xs (x3 + 6).toNatClampNeg).toInt64) <<< ((32 : Int32).toInt64 &&& 63)) ||| (((xs (x3 + 7).toNatClampNeg).toInt64) &&& 4294967295))] M285 (fun r295 M296 => ∃ v297 : Int32, r295 = some (.int v297) ∧ (v286 = v297 → LL_law_18 G d rc rs p0 p1 p2 (x3 + 8) M296 Q) ∧ (¬ v286 = v297 → Q (some (.int 0)) M296)))) ∧ (((xs x3.toNatClampNeg) &&& 31) = 20 → vp_in (x3 + 1) L ∧ vp_in (x3 + 2) L ∧ vp_in (x3 + 3) L ∧ (x_h M p1).1 = 27 ∧ Call G d 0 0 mX11_next [.ref p1, .int (xs (x3 + 1).toNatClampNeg), .long ((((xs (x3 + 2).toNatClampNeg).toInt64) <<< ((32 : Int32).toInt64 &&& 63)) ||| (((xs (x3 + 3).toNatClampNeg).toInt64) &&& 4294967295))] M (fun r304 M305 => ∃ v306 : Int64, r304 = some (.long v306) ∧ vp_in (x3 + 1) L ∧ vp_in (x3 + 2) L ∧ vp_in (x3 + 3) L ∧ (x_h M305 p2).1 = 28 ∧ Call G d 0 0 mX12_next_ [.ref p2, .int (xs (x3 + 1).toNatClampNeg), .long ((((xs (x3 + 2).toNatClampNeg).toInt64) <<< ((32 : Int32).toInt64 &&& 63)) ||| (((xs (x3 + 3).toNatClampNeg).toInt64) &&& 4294967295))] M305 (fun r311 M312 => ∃ v313 : Int64, r311 = some (.long v313) ∧ ((lg_cmp v306 v313) = 0 → LL_law_18 G d rc rs p0 p1 p2 (x3 + 8) M312 Q) ∧ (¬ (lg_cmp v306 v313) = 0 → Q (some (.int 0)) M312)))) ∧ (((xs x3.toNatClampNeg) &&& 31) = 21 → vp_in (x3 + 1) L ∧ (x_h M p1).1 = 27 ∧ Call G d 0 0 mX11_many [.ref p1, .int (xs (x3 + 1).toNatClampNeg)] M (fun r318 M319 => ∃ v320 : Int64, r318 = some (.long v320) ∧ vp_in (x3 + 1) L ∧ (x_h M319 p2).1 = 28 ∧ Call G d 0 0 mX12_many [.ref p2, .int (xs (x3 + 1).toNatClampNeg)] M319 (fun r323 M324 => ∃ v325 : Int64, r323 = some (.long v325) ∧ ((lg_cmp v320 v325) = 0 → LL_law_18 G d rc rs p0 p1 p2 (x3 + 8) M324 Q) ∧ (¬ (lg_cmp v320 v325) = 0 → Q (some (.int 0)) M324)))) ∧ (((xs x3.toNatClampNeg) &&& 31) = 22 → vp_in (x3 + 1) L ∧ vp_in (x3 + 2) L ∧ vp_in (x3 + 3) L ∧ (x_h M p1).1 = 27 ∧ Call G d 0 0 mX11_values [.ref p1, .int (xs (x3 + 1).toNatClampNeg), .long ((((xs (x3 + 2).toNatClampNeg).toInt64) <<< ((32 : Int32).toInt64 &&& 63)) ||| (((xs (x3 + 3).toNatClampNeg).toInt64) &&& 4294967295))] M (fun r332 M333 => ∃ v334 : Int64, r332 = some (.long v334) ∧ vp_in (x3 + 1) L ∧ vp_in (x3 + 2) L ∧ vp_in (x3 + 3) L ∧ (x_h M333 p2).1 = 28 ∧ Call G d 0 0 mX12_values [.ref p2, .int (xs (x3 + 1).toNatClampNeg), .long ((((xs (x3 + 2).toNatClampNeg).toInt64) <<< ((32 : Int32).toInt64 &&& 63)) ||| (((xs (x3 + 3).toNatClampNeg).toInt64) &&& 4294967295))] M333 (fun r339 M340 => ∃ v341 : Int64, r339 = some (.long v341) ∧ ((lg_cmp v334 v341) = 0 → LL_law_18 G d rc rs p0 p1 p2 (x3 + 8) M340 Q) ∧ (¬ (lg_cmp v334 v341) = 0 → Q (some (.int 0)) M340)))) ∧ (((xs x3.toNatClampNeg) &&& 31) = 23 → vp_in (x3 + 1) L ∧ vp_in (x3 + 2) L ∧ (x_h M p1).1 = 27 ∧ Call G d 0 0 mX11_alike [.ref p1, .int (xs (x3 + 1).toNatClampNeg), .int (xs (x3 + 2).toNatClampNeg)] M (fun r347 M348 => ∃ v349 : Int32, r347 = some (.int v349) ∧ vp_in (x3 + 1) L ∧ vp_in (x3 + 2) L ∧ (x_h M348 p2).1 = 28 ∧ Call G d 0 0 mX12_alike [.ref p2, .int (xs (x3 + 1).toNatClampNeg), .int (xs (x3 + 2).toNatClampNeg)] M348 (fun r353 M354 => ∃ v355 : Int32, r353 = some (.int v355) ∧ (v349 = v355 → LL_law_18 G d rc rs p0 p1 p2 (x3 + 8) M354 Q) ∧ (¬ v349 = v355 → Q (some (.int 0)) M354)))) ∧ (((xs x3.toNatClampNeg) &&& 31) = 24 → vp_in (x3 + 1) L ∧ vp_in (x3 + 2) L ∧ vp_in (x3 + 3) L ∧ (x_h M p1).1 = 27 ∧ Call G d 0 0 mX11_act [.ref p1, .int (xs (x3 + 1).toNatClampNeg), .int (xs (x3 + 2).toNatClampNeg), .int (xs (x3 + 3).toNatClampNeg)] M (fun r362 M363 => ∃ v364 : Int32, r362 = some (.int v364) ∧ vp_in (x3 + 1) L ∧ vp_in (x3 + 2) L ∧ vp_in (x3 + 3) L ∧ (x_h M363 p2).1 = 28 ∧ Call G d 0 0 mX12_act [.ref p2, .int (xs (x3 + 1).toNatClampNeg), .int (xs (x3 + 2).toNatClampNeg), .int (xs (x3 + 3).toNatClampNeg)] M363 (fun r369 M370 => ∃ v371 : Int32, r369 = some (.int v371) ∧ (v364 = v371 → LL_law_18 G d rc rs p0 p1 p2 (x3 + 8) M370 Q) ∧ (¬ v364 = v371 → Q (some (.int 0)) M370)))) ∧ (((xs x3.toNatClampNeg) &&& 31) = 25 → vp_in (x3 + 1) L ∧ (x_h M p1).1 = 27 ∧ Call G d 0 0 mX11_trace [.ref p1, .int (xs (x3 + 1).toNatClampNeg)] M (fun r376 M377 => ∃ v378 : Int32, r376 = some (.int v378) ∧ vp_in (x3 + 1) L ∧ (x_h M377 p2).1 = 28 ∧ Call G d 0 0 mX12_trace [.ref p2, .int (xs (x3 + 1).toNatClampNeg)] M377 (fun r381 M382 => ∃ v383 : Int32, r381 = some (.int v383) ∧ (v378 = v383 → LL_law_18 G d rc rs p0 p1 p2 (x3 + 8) M382 Q) ∧ (¬ v378 = v383 → Q (some (.int 0)) M382)))) ∧ (((xs x3.toNatClampNeg) &&& 31) = 26 → vp_in (x3 + 1) L ∧ vp_in (x3 + 2) L ∧ vp_in (x3 + 3) L ∧ (x_h M p1).1 = 27 ∧ Call G d 0 0 mX11_forge [.ref p1, .int (xs (x3 + 1).toNatClampNeg), .int (xs (x3 + 2).toNatClampNeg), .int (xs (x3 + 3).toNatClampNeg)] M (fun r390 M391 => ∃ v392 : Int32, r390 = some (.int v392) ∧ vp_in (x3 + 1) L ∧ vp_in (x3 + 2) L ∧ vp_in (x3 + 3) L ∧ (x_h M391 p2).1 = 28 ∧ Call G d 0 0 mX12_forge [.ref p2, .int (xs (x3 + 1).toNatClampNeg), .int (xs (x3 + 2).toNatClampNeg), .int (xs (x3 + 3).toNatClampNeg)] M391 (fun r397 M398 => ∃ v399 : Int32, r397 = some (.int v399) ∧ (v392 = v399 → LL_law_18 G d rc rs p0 p1 p2 (x3 + 8) M398 Q) ∧ (¬ v392 = v399 → Q (some (.int 0)) M398)))) ∧ (((xs x3.toNatClampNeg) &&& 31) = 27 → (x_h M p1).1 = 27 ∧ Call G d 0 0 mX11_status [.ref p1] M (fun r403 M404 => ∃ v405 : Int32, r403 = some (.int v405) ∧ (x_h M404 p2).1 = 28 ∧ Call G d 0 0 mX12_status [.ref p2] M404 (fun r407 M408 => ∃ v409 : Int32, r407 = some (.int v409) ∧ (v405 = v409 → LL_law_18 G d rc rs p0 p1 p2 (x3 + 8) M408 Q) ∧ (¬ v405 = v409 → Q (some (.int 0)) M408)))) ∧ (¬ ((xs x3.toNatClampNeg) &&& 31) = 0 ∧ ¬ ((xs x3.toNatClampNeg) &&& 31) = 1 ∧ ¬ ((xs x3.toNatClampNeg) &&& 31) = 2 ∧ ¬ ((xs x3.toNatClampNeg) &&& 31) = 3 ∧ ¬ ((xs x3.toNatClampNeg) &&& 31) = 4 ∧ ¬ ((xs x3.toNatClampNeg) &&& 31) = 5 ∧ ¬ ((xs x3.toNatClampNeg) &&& 31) = 6 ∧ ¬ ((xs x3.toNatClampNeg) &&& 31) = 7 ∧ ¬ ((xs x3.toNatClampNeg) &&& 31) = 8 ∧ ¬ ((xs x3.toNatClampNeg) &&& 31) = 9 ∧ ¬ ((xs x3.toNatClampNeg) &&& 31) = 10 ∧ ¬ ((xs x3.toNatClampNeg) &&& 31) = 11 ∧ ¬ ((xs x3.toNatClampNeg) &&& 31) = 12 ∧ ¬ ((xs x3.toNatClampNeg) &&& 31) = 13 ∧ ¬ ((xs x3.toNatClampNeg) &&& 31) = 14 ∧ ¬ ((xs x3.toNatClampNeg) &&& 31) = 15 ∧ ¬ ((xs x3.toNatClampNeg) &&& 31) = 16 ∧ ¬ ((xs x3.toNatClampNeg) &&& 31) = 17 ∧ ¬ ((xs x3.toNatClampNeg) &&& 31) = 18 ∧ ¬ ((xs x3.toNatClampNeg) &&& 31) = 19 ∧ ¬ ((xs x3.toNatClampNeg) &&& 31) = 20 ∧ ¬ ((xs x3.toNatClampNeg) &&& 31) = 21 ∧ ¬ ((xs x3.toNatClampNeg) &&& 31) = 22 ∧ ¬ ((xs x3.toNatClampNeg) &&& 31) = 23 ∧ ¬ ((xs x3.toNatClampNeg) &&& 31) = 24 ∧ ¬ ((xs x3.toNatClampNeg) &&& 31) = 25 ∧ ¬ ((xs x3.toNatClampNeg) &&& 31) = 26 ∧ ¬ ((xs x3.toNatClampNeg) &&& 31) = 27 → LL_law_18 G d rc rs p0 p1 p2 (x3 + 8) M Q))) : LL_law_18 G d rc rs p0 p1 p2 x3 M Q := by
  show Wk G (d + 1) rc rs mL_law 18 _ _ M Q
  refine r_iload_n (pc := 18) (i := 3) dL_law_18 rfl rfl ?_
  refine r_aload_n (pc := 19) (i := 0) dL_law_19 rfl rfl ?_
  refine r_slen (pc := 20) hX dL_law_20 ?_
  refine r_bipush (pc := 21) (v := 8) dL_law_21 (by decide) ?_
  refine r_isub (pc := 23) dL_law_23 ?_
  refine r_icmp_gt (pc := 24) (tgt := 1318) dL_law_24 (by decide) (fun c1 => ?_) (fun c1 => ?_)
  · replace h := h.1 c1
    refine r_iconst (pc := 1318) (v := 1) dL_law_1318 (by decide) ?_
    exact r_zret (pc := 1319) dL_law_1319 rfl (Or.inr rfl) h
  · replace h := h.2 c1
    refine r_aload_n (pc := 27) (i := 0) dL_law_27 rfl rfl ?_
    refine r_iload_n (pc := 28) (i := 3) dL_law_28 rfl rfl ?_
    obtain ⟨i2, h⟩ := h
    refine r_sld (pc := 29) hX dL_law_29 i2 ?_
    refine r_bipush (pc := 30) (v := 31) dL_law_30 (by decide) ?_
    refine r_iand (pc := 32) dL_law_32 ?_
    refine dite (((xs x3.toNatClampNeg) &&& 31) = 0) (fun c3 => ?_) (fun c3 => ?_)
    · replace h := h.1 c3
      refine r_tabIn (pc := 33) (tgt := 160) dL_law_33 (by rw [c3]; decide) (by rw [c3]; decide) (by rw [c3]; rfl) (by decide) ?_
      refine r_aload_n (pc := 160) (i := 1) dL_law_160 rfl rfl ?_
      refine r_aload_n (pc := 161) (i := 0) dL_law_161 rfl rfl ?_
      refine r_iload_n (pc := 162) (i := 3) dL_law_162 rfl rfl ?_
      refine r_iconst (pc := 163) (v := 1) dL_law_163 (by decide) ?_
      refine r_iadd (pc := 164) dL_law_164 ?_
      obtain ⟨i4, h⟩ := h
      refine r_sld (pc := 165) hX dL_law_165 i4 ?_
      obtain ⟨k5, h⟩ := h
      refine r_callV (pc := 166) (ci := 11) (as := [_]) (st := []) okX11_begin lkL_13 inX11_begin seX11_begin ⟨_, rfl, rfl⟩ dL_law_166 rfl k5 (Nat.le_of_ble_eq_true rfl) (Nat.zero_le _) (Nat.zero_le _) (Call.mono h (fun r6 M7 h => ?_))
      obtain ⟨v8, rfl, h⟩ := h
      refine r_aload_n (pc := 169) (i := 2) dL_law_169 rfl rfl ?_
      refine r_aload_n (pc := 170) (i := 0) dL_law_170 rfl rfl ?_
      refine r_iload_n (pc := 171) (i := 3) dL_law_171 rfl rfl ?_
      refine r_iconst (pc := 172) (v := 1) dL_law_172 (by decide) ?_
      refine r_iadd (pc := 173) dL_law_173 ?_
      obtain ⟨i9, h⟩ := h
      refine r_sld (pc := 174) hX dL_law_174 i9 ?_
      obtain ⟨k10, h⟩ := h
      refine r_callV (pc := 175) (ci := 12) (as := [_]) (st := [_]) okX12_begin lkL_17 inX12_begin seX12_begin ⟨_, rfl, rfl⟩ dL_law_175 rfl k10 (Nat.le_of_ble_eq_true rfl) (Nat.zero_le _) (Nat.zero_le _) (Call.mono h (fun r11 M12 h => ?_))
      obtain ⟨v13, rfl, h⟩ := h
      refine r_icmp_eq (pc := 178) (tgt := 1312) dL_law_178 (by decide) (fun c14 => ?_) (fun c14 => ?_)
      · replace h := h.1 c14
        refine r_iinc (pc := 1312) (i := 3) (v := _ + 8) dL_law_1312 rfl rfl rfl ?_
        refine r_goto (pc := 1315) (tgt := 18) dL_law_1315 (by decide) ?_
        exact h
      · replace h := h.2 c14
        refine r_iconst (pc := 181) (v := 0) dL_law_181 (by decide) ?_
        exact r_zret (pc := 182) dL_law_182 rfl (Or.inl rfl) h
    refine dite (((xs x3.toNatClampNeg) &&& 31) = 1) (fun c15 => ?_) (fun c15 => ?_)
    · replace h := h.2.1 c15
      refine r_tabIn (pc := 33) (tgt := 183) dL_law_33 (by rw [c15]; decide) (by rw [c15]; decide) (by rw [c15]; rfl) (by decide) ?_
      refine r_aload_n (pc := 183) (i := 1) dL_law_183 rfl rfl ?_
      refine r_aload_n (pc := 184) (i := 0) dL_law_184 rfl rfl ?_
      refine r_iload_n (pc := 185) (i := 3) dL_law_185 rfl rfl ?_
      refine r_iconst (pc := 186) (v := 1) dL_law_186 (by decide) ?_
      refine r_iadd (pc := 187) dL_law_187 ?_
      obtain ⟨i16, h⟩ := h
      refine r_sld (pc := 188) hX dL_law_188 i16 ?_
      refine r_aload_n (pc := 189) (i := 0) dL_law_189 rfl rfl ?_
      refine r_iload_n (pc := 190) (i := 3) dL_law_190 rfl rfl ?_
      refine r_iconst (pc := 191) (v := 2) dL_law_191 (by decide) ?_
      refine r_iadd (pc := 192) dL_law_192 ?_
      obtain ⟨i17, h⟩ := h
      refine r_sld (pc := 193) hX dL_law_193 i17 ?_
      refine r_aload_n (pc := 194) (i := 0) dL_law_194 rfl rfl ?_
      refine r_iload_n (pc := 195) (i := 3) dL_law_195 rfl rfl ?_
      refine r_iconst (pc := 196) (v := 3) dL_law_196 (by decide) ?_
      refine r_iadd (pc := 197) dL_law_197 ?_
      obtain ⟨i18, h⟩ := h
      refine r_sld (pc := 198) hX dL_law_198 i18 ?_
      obtain ⟨k19, h⟩ := h
      refine r_callV (pc := 199) (ci := 11) (as := [_, _, _]) (st := []) okX11_sheet lkL_18 inX11_sheet seX11_sheet ⟨_, rfl, rfl⟩ dL_law_199 rfl k19 (Nat.le_of_ble_eq_true rfl) (Nat.zero_le _) (Nat.zero_le _) (Call.mono h (fun r20 M21 h => ?_))
      obtain ⟨v22, rfl, h⟩ := h
      refine r_aload_n (pc := 202) (i := 2) dL_law_202 rfl rfl ?_
      refine r_aload_n (pc := 203) (i := 0) dL_law_203 rfl rfl ?_
      refine r_iload_n (pc := 204) (i := 3) dL_law_204 rfl rfl ?_
      refine r_iconst (pc := 205) (v := 1) dL_law_205 (by decide) ?_
      refine r_iadd (pc := 206) dL_law_206 ?_
      obtain ⟨i23, h⟩ := h
      refine r_sld (pc := 207) hX dL_law_207 i23 ?_
      refine r_aload_n (pc := 208) (i := 0) dL_law_208 rfl rfl ?_
      refine r_iload_n (pc := 209) (i := 3) dL_law_209 rfl rfl ?_
      refine r_iconst (pc := 210) (v := 2) dL_law_210 (by decide) ?_
      refine r_iadd (pc := 211) dL_law_211 ?_
      obtain ⟨i24, h⟩ := h
      refine r_sld (pc := 212) hX dL_law_212 i24 ?_
      refine r_aload_n (pc := 213) (i := 0) dL_law_213 rfl rfl ?_
      refine r_iload_n (pc := 214) (i := 3) dL_law_214 rfl rfl ?_
      refine r_iconst (pc := 215) (v := 3) dL_law_215 (by decide) ?_
      refine r_iadd (pc := 216) dL_law_216 ?_
      obtain ⟨i25, h⟩ := h
      refine r_sld (pc := 217) hX dL_law_217 i25 ?_
      obtain ⟨k26, h⟩ := h
      refine r_callV (pc := 218) (ci := 12) (as := [_, _, _]) (st := [_]) okX12_sheet lkL_22 inX12_sheet seX12_sheet ⟨_, rfl, rfl⟩ dL_law_218 rfl k26 (Nat.le_of_ble_eq_true rfl) (Nat.zero_le _) (Nat.zero_le _) (Call.mono h (fun r27 M28 h => ?_))
      obtain ⟨v29, rfl, h⟩ := h
      refine r_icmp_eq (pc := 221) (tgt := 1312) dL_law_221 (by decide) (fun c30 => ?_) (fun c30 => ?_)
      · replace h := h.1 c30
        refine r_iinc (pc := 1312) (i := 3) (v := _ + 8) dL_law_1312 rfl rfl rfl ?_
        refine r_goto (pc := 1315) (tgt := 18) dL_law_1315 (by decide) ?_
        exact h
      · replace h := h.2 c30
        refine r_iconst (pc := 224) (v := 0) dL_law_224 (by decide) ?_
        exact r_zret (pc := 225) dL_law_225 rfl (Or.inl rfl) h
    refine dite (((xs x3.toNatClampNeg) &&& 31) = 2) (fun c31 => ?_) (fun c31 => ?_)
    · replace h := h.2.2.1 c31
      refine r_tabIn (pc := 33) (tgt := 226) dL_law_33 (by rw [c31]; decide) (by rw [c31]; decide) (by rw [c31]; rfl) (by decide) ?_
      refine r_aload_n (pc := 226) (i := 1) dL_law_226 rfl rfl ?_
      refine r_aload_n (pc := 227) (i := 0) dL_law_227 rfl rfl ?_
      refine r_iload_n (pc := 228) (i := 3) dL_law_228 rfl rfl ?_
      refine r_iconst (pc := 229) (v := 1) dL_law_229 (by decide) ?_
      refine r_iadd (pc := 230) dL_law_230 ?_
      obtain ⟨i32, h⟩ := h
      refine r_sld (pc := 231) hX dL_law_231 i32 ?_
      refine r_aload_n (pc := 232) (i := 0) dL_law_232 rfl rfl ?_
      refine r_iload_n (pc := 233) (i := 3) dL_law_233 rfl rfl ?_
      refine r_iconst (pc := 234) (v := 2) dL_law_234 (by decide) ?_
      refine r_iadd (pc := 235) dL_law_235 ?_
      obtain ⟨i33, h⟩ := h
      refine r_sld (pc := 236) hX dL_law_236 i33 ?_
      refine r_aload_n (pc := 237) (i := 0) dL_law_237 rfl rfl ?_
      refine r_iload_n (pc := 238) (i := 3) dL_law_238 rfl rfl ?_
      refine r_iconst (pc := 239) (v := 3) dL_law_239 (by decide) ?_
      refine r_iadd (pc := 240) dL_law_240 ?_
      obtain ⟨i34, h⟩ := h
      refine r_sld (pc := 241) hX dL_law_241 i34 ?_
      obtain ⟨k35, h⟩ := h
      refine r_callV (pc := 242) (ci := 11) (as := [_, _, _]) (st := []) okX11_cell lkL_23 inX11_cell seX11_cell ⟨_, rfl, rfl⟩ dL_law_242 rfl k35 (Nat.le_of_ble_eq_true rfl) (Nat.zero_le _) (Nat.zero_le _) (Call.mono h (fun r36 M37 h => ?_))
      obtain ⟨v38, rfl, h⟩ := h
      refine r_aload_n (pc := 245) (i := 2) dL_law_245 rfl rfl ?_
      refine r_aload_n (pc := 246) (i := 0) dL_law_246 rfl rfl ?_
      refine r_iload_n (pc := 247) (i := 3) dL_law_247 rfl rfl ?_
      refine r_iconst (pc := 248) (v := 1) dL_law_248 (by decide) ?_
      refine r_iadd (pc := 249) dL_law_249 ?_
      obtain ⟨i39, h⟩ := h
      refine r_sld (pc := 250) hX dL_law_250 i39 ?_
      refine r_aload_n (pc := 251) (i := 0) dL_law_251 rfl rfl ?_
      refine r_iload_n (pc := 252) (i := 3) dL_law_252 rfl rfl ?_
      refine r_iconst (pc := 253) (v := 2) dL_law_253 (by decide) ?_
      refine r_iadd (pc := 254) dL_law_254 ?_
      obtain ⟨i40, h⟩ := h
      refine r_sld (pc := 255) hX dL_law_255 i40 ?_
      refine r_aload_n (pc := 256) (i := 0) dL_law_256 rfl rfl ?_
      refine r_iload_n (pc := 257) (i := 3) dL_law_257 rfl rfl ?_
      refine r_iconst (pc := 258) (v := 3) dL_law_258 (by decide) ?_
      refine r_iadd (pc := 259) dL_law_259 ?_
      obtain ⟨i41, h⟩ := h
      refine r_sld (pc := 260) hX dL_law_260 i41 ?_
      obtain ⟨k42, h⟩ := h
      refine r_callV (pc := 261) (ci := 12) (as := [_, _, _]) (st := [_]) okX12_cell lkL_26 inX12_cell seX12_cell ⟨_, rfl, rfl⟩ dL_law_261 rfl k42 (Nat.le_of_ble_eq_true rfl) (Nat.zero_le _) (Nat.zero_le _) (Call.mono h (fun r43 M44 h => ?_))
      obtain ⟨v45, rfl, h⟩ := h
      refine r_icmp_eq (pc := 264) (tgt := 1312) dL_law_264 (by decide) (fun c46 => ?_) (fun c46 => ?_)
      · replace h := h.1 c46
        refine r_iinc (pc := 1312) (i := 3) (v := _ + 8) dL_law_1312 rfl rfl rfl ?_
        refine r_goto (pc := 1315) (tgt := 18) dL_law_1315 (by decide) ?_
        exact h
      · replace h := h.2 c46
        refine r_iconst (pc := 267) (v := 0) dL_law_267 (by decide) ?_
        exact r_zret (pc := 268) dL_law_268 rfl (Or.inl rfl) h
    refine dite (((xs x3.toNatClampNeg) &&& 31) = 3) (fun c47 => ?_) (fun c47 => ?_)
    · replace h := h.2.2.2.1 c47
      refine r_tabIn (pc := 33) (tgt := 269) dL_law_33 (by rw [c47]; decide) (by rw [c47]; decide) (by rw [c47]; rfl) (by decide) ?_
      refine r_aload_n (pc := 269) (i := 1) dL_law_269 rfl rfl ?_
      refine r_aload_n (pc := 270) (i := 0) dL_law_270 rfl rfl ?_
      refine r_iload_n (pc := 271) (i := 3) dL_law_271 rfl rfl ?_
      refine r_iconst (pc := 272) (v := 1) dL_law_272 (by decide) ?_
      refine r_iadd (pc := 273) dL_law_273 ?_
      obtain ⟨i48, h⟩ := h
      refine r_sld (pc := 274) hX dL_law_274 i48 ?_
      refine r_aload_n (pc := 275) (i := 0) dL_law_275 rfl rfl ?_
      refine r_iload_n (pc := 276) (i := 3) dL_law_276 rfl rfl ?_
      refine r_iconst (pc := 277) (v := 2) dL_law_277 (by decide) ?_
      refine r_iadd (pc := 278) dL_law_278 ?_
      obtain ⟨i49, h⟩ := h
      refine r_sld (pc := 279) hX dL_law_279 i49 ?_
      refine r_aload_n (pc := 280) (i := 0) dL_law_280 rfl rfl ?_
      refine r_iload_n (pc := 281) (i := 3) dL_law_281 rfl rfl ?_
      refine r_iconst (pc := 282) (v := 3) dL_law_282 (by decide) ?_
      refine r_iadd (pc := 283) dL_law_283 ?_
      obtain ⟨i50, h⟩ := h
      refine r_sld (pc := 284) hX dL_law_284 i50 ?_
      refine r_aload_n (pc := 285) (i := 0) dL_law_285 rfl rfl ?_
      refine r_iload_n (pc := 286) (i := 3) dL_law_286 rfl rfl ?_
      refine r_iconst (pc := 287) (v := 4) dL_law_287 (by decide) ?_
      refine r_iadd (pc := 288) dL_law_288 ?_
      obtain ⟨i51, h⟩ := h
      refine r_sld (pc := 289) hX dL_law_289 i51 ?_
      obtain ⟨k52, h⟩ := h
      refine r_callV (pc := 290) (ci := 11) (as := [_, _, _, _]) (st := []) okX11_machine lkL_27 inX11_machine seX11_machine ⟨_, rfl, rfl⟩ dL_law_290 rfl k52 (Nat.le_of_ble_eq_true rfl) (Nat.zero_le _) (Nat.zero_le _) (Call.mono h (fun r53 M54 h => ?_))
      obtain ⟨v55, rfl, h⟩ := h
      refine r_aload_n (pc := 293) (i := 2) dL_law_293 rfl rfl ?_
      refine r_aload_n (pc := 294) (i := 0) dL_law_294 rfl rfl ?_
      refine r_iload_n (pc := 295) (i := 3) dL_law_295 rfl rfl ?_
      refine r_iconst (pc := 296) (v := 1) dL_law_296 (by decide) ?_
      refine r_iadd (pc := 297) dL_law_297 ?_
      obtain ⟨i56, h⟩ := h
      refine r_sld (pc := 298) hX dL_law_298 i56 ?_
      refine r_aload_n (pc := 299) (i := 0) dL_law_299 rfl rfl ?_
      refine r_iload_n (pc := 300) (i := 3) dL_law_300 rfl rfl ?_
      refine r_iconst (pc := 301) (v := 2) dL_law_301 (by decide) ?_
      refine r_iadd (pc := 302) dL_law_302 ?_
      obtain ⟨i57, h⟩ := h
      refine r_sld (pc := 303) hX dL_law_303 i57 ?_
      refine r_aload_n (pc := 304) (i := 0) dL_law_304 rfl rfl ?_
      refine r_iload_n (pc := 305) (i := 3) dL_law_305 rfl rfl ?_
      refine r_iconst (pc := 306) (v := 3) dL_law_306 (by decide) ?_
      refine r_iadd (pc := 307) dL_law_307 ?_
      obtain ⟨i58, h⟩ := h
      refine r_sld (pc := 308) hX dL_law_308 i58 ?_
      refine r_aload_n (pc := 309) (i := 0) dL_law_309 rfl rfl ?_
      refine r_iload_n (pc := 310) (i := 3) dL_law_310 rfl rfl ?_
      refine r_iconst (pc := 311) (v := 4) dL_law_311 (by decide) ?_
      refine r_iadd (pc := 312) dL_law_312 ?_
      obtain ⟨i59, h⟩ := h
      refine r_sld (pc := 313) hX dL_law_313 i59 ?_
      obtain ⟨k60, h⟩ := h
      refine r_callV (pc := 314) (ci := 12) (as := [_, _, _, _]) (st := [_]) okX12_machine lkL_31 inX12_machine seX12_machine ⟨_, rfl, rfl⟩ dL_law_314 rfl k60 (Nat.le_of_ble_eq_true rfl) (Nat.zero_le _) (Nat.zero_le _) (Call.mono h (fun r61 M62 h => ?_))
      obtain ⟨v63, rfl, h⟩ := h
      refine r_icmp_eq (pc := 317) (tgt := 1312) dL_law_317 (by decide) (fun c64 => ?_) (fun c64 => ?_)
      · replace h := h.1 c64
        refine r_iinc (pc := 1312) (i := 3) (v := _ + 8) dL_law_1312 rfl rfl rfl ?_
        refine r_goto (pc := 1315) (tgt := 18) dL_law_1315 (by decide) ?_
        exact h
      · replace h := h.2 c64
        refine r_iconst (pc := 320) (v := 0) dL_law_320 (by decide) ?_
        exact r_zret (pc := 321) dL_law_321 rfl (Or.inl rfl) h
    refine dite (((xs x3.toNatClampNeg) &&& 31) = 4) (fun c65 => ?_) (fun c65 => ?_)
    · replace h := h.2.2.2.2.1 c65
      refine r_tabIn (pc := 33) (tgt := 322) dL_law_33 (by rw [c65]; decide) (by rw [c65]; decide) (by rw [c65]; rfl) (by decide) ?_
      refine r_aload_n (pc := 322) (i := 1) dL_law_322 rfl rfl ?_
      refine r_aload_n (pc := 323) (i := 0) dL_law_323 rfl rfl ?_
      refine r_iload_n (pc := 324) (i := 3) dL_law_324 rfl rfl ?_
      refine r_iconst (pc := 325) (v := 1) dL_law_325 (by decide) ?_
      refine r_iadd (pc := 326) dL_law_326 ?_
      obtain ⟨i66, h⟩ := h
      refine r_sld (pc := 327) hX dL_law_327 i66 ?_
      refine r_aload_n (pc := 328) (i := 0) dL_law_328 rfl rfl ?_
      refine r_iload_n (pc := 329) (i := 3) dL_law_329 rfl rfl ?_
      refine r_iconst (pc := 330) (v := 2) dL_law_330 (by decide) ?_
      refine r_iadd (pc := 331) dL_law_331 ?_
      obtain ⟨i67, h⟩ := h
      refine r_sld (pc := 332) hX dL_law_332 i67 ?_
      refine r_aload_n (pc := 333) (i := 0) dL_law_333 rfl rfl ?_
      refine r_iload_n (pc := 334) (i := 3) dL_law_334 rfl rfl ?_
      refine r_iconst (pc := 335) (v := 3) dL_law_335 (by decide) ?_
      refine r_iadd (pc := 336) dL_law_336 ?_
      obtain ⟨i68, h⟩ := h
      refine r_sld (pc := 337) hX dL_law_337 i68 ?_
      obtain ⟨k69, h⟩ := h
      refine r_callV (pc := 338) (ci := 11) (as := [_, _, _]) (st := []) okX11_grown lkL_32 inX11_grown seX11_grown ⟨_, rfl, rfl⟩ dL_law_338 rfl k69 (Nat.le_of_ble_eq_true rfl) (Nat.zero_le _) (Nat.zero_le _) (Call.mono h (fun r70 M71 h => ?_))
      obtain ⟨v72, rfl, h⟩ := h
      refine r_aload_n (pc := 341) (i := 2) dL_law_341 rfl rfl ?_
      refine r_aload_n (pc := 342) (i := 0) dL_law_342 rfl rfl ?_
      refine r_iload_n (pc := 343) (i := 3) dL_law_343 rfl rfl ?_
      refine r_iconst (pc := 344) (v := 1) dL_law_344 (by decide) ?_
      refine r_iadd (pc := 345) dL_law_345 ?_
      obtain ⟨i73, h⟩ := h
      refine r_sld (pc := 346) hX dL_law_346 i73 ?_
      refine r_aload_n (pc := 347) (i := 0) dL_law_347 rfl rfl ?_
      refine r_iload_n (pc := 348) (i := 3) dL_law_348 rfl rfl ?_
      refine r_iconst (pc := 349) (v := 2) dL_law_349 (by decide) ?_
      refine r_iadd (pc := 350) dL_law_350 ?_
      obtain ⟨i74, h⟩ := h
      refine r_sld (pc := 351) hX dL_law_351 i74 ?_
      refine r_aload_n (pc := 352) (i := 0) dL_law_352 rfl rfl ?_
      refine r_iload_n (pc := 353) (i := 3) dL_law_353 rfl rfl ?_
      refine r_iconst (pc := 354) (v := 3) dL_law_354 (by decide) ?_
      refine r_iadd (pc := 355) dL_law_355 ?_
      obtain ⟨i75, h⟩ := h
      refine r_sld (pc := 356) hX dL_law_356 i75 ?_
      obtain ⟨k76, h⟩ := h
      refine r_callV (pc := 357) (ci := 12) (as := [_, _, _]) (st := [_]) okX12_grown lkL_35 inX12_grown seX12_grown ⟨_, rfl, rfl⟩ dL_law_357 rfl k76 (Nat.le_of_ble_eq_true rfl) (Nat.zero_le _) (Nat.zero_le _) (Call.mono h (fun r77 M78 h => ?_))
      obtain ⟨v79, rfl, h⟩ := h
      refine r_icmp_eq (pc := 360) (tgt := 1312) dL_law_360 (by decide) (fun c80 => ?_) (fun c80 => ?_)
      · replace h := h.1 c80
        refine r_iinc (pc := 1312) (i := 3) (v := _ + 8) dL_law_1312 rfl rfl rfl ?_
        refine r_goto (pc := 1315) (tgt := 18) dL_law_1315 (by decide) ?_
        exact h
      · replace h := h.2 c80
        refine r_iconst (pc := 363) (v := 0) dL_law_363 (by decide) ?_
        exact r_zret (pc := 364) dL_law_364 rfl (Or.inl rfl) h
    refine dite (((xs x3.toNatClampNeg) &&& 31) = 5) (fun c81 => ?_) (fun c81 => ?_)
    · replace h := h.2.2.2.2.2.1 c81
      refine r_tabIn (pc := 33) (tgt := 365) dL_law_33 (by rw [c81]; decide) (by rw [c81]; decide) (by rw [c81]; rfl) (by decide) ?_
      refine r_aload_n (pc := 365) (i := 1) dL_law_365 rfl rfl ?_
      refine r_aload_n (pc := 366) (i := 0) dL_law_366 rfl rfl ?_
      refine r_iload_n (pc := 367) (i := 3) dL_law_367 rfl rfl ?_
      refine r_iconst (pc := 368) (v := 1) dL_law_368 (by decide) ?_
      refine r_iadd (pc := 369) dL_law_369 ?_
      obtain ⟨i82, h⟩ := h
      refine r_sld (pc := 370) hX dL_law_370 i82 ?_
      refine r_aload_n (pc := 371) (i := 0) dL_law_371 rfl rfl ?_
      refine r_iload_n (pc := 372) (i := 3) dL_law_372 rfl rfl ?_
      refine r_iconst (pc := 373) (v := 2) dL_law_373 (by decide) ?_
      refine r_iadd (pc := 374) dL_law_374 ?_
      obtain ⟨i83, h⟩ := h
      refine r_sld (pc := 375) hX dL_law_375 i83 ?_
      refine r_aload_n (pc := 376) (i := 0) dL_law_376 rfl rfl ?_
      refine r_iload_n (pc := 377) (i := 3) dL_law_377 rfl rfl ?_
      refine r_iconst (pc := 378) (v := 3) dL_law_378 (by decide) ?_
      refine r_iadd (pc := 379) dL_law_379 ?_
      obtain ⟨i84, h⟩ := h
      refine r_sld (pc := 380) hX dL_law_380 i84 ?_
      refine r_aload_n (pc := 381) (i := 0) dL_law_381 rfl rfl ?_
      refine r_iload_n (pc := 382) (i := 3) dL_law_382 rfl rfl ?_
      refine r_iconst (pc := 383) (v := 4) dL_law_383 (by decide) ?_
      refine r_iadd (pc := 384) dL_law_384 ?_
      obtain ⟨i85, h⟩ := h
      refine r_sld (pc := 385) hX dL_law_385 i85 ?_
      obtain ⟨k86, h⟩ := h
      refine r_callV (pc := 386) (ci := 11) (as := [_, _, _, _]) (st := []) okX11_ring lkL_36 inX11_ring seX11_ring ⟨_, rfl, rfl⟩ dL_law_386 rfl k86 (Nat.le_of_ble_eq_true rfl) (Nat.zero_le _) (Nat.zero_le _) (Call.mono h (fun r87 M88 h => ?_))
      obtain ⟨v89, rfl, h⟩ := h
      refine r_aload_n (pc := 389) (i := 2) dL_law_389 rfl rfl ?_
      refine r_aload_n (pc := 390) (i := 0) dL_law_390 rfl rfl ?_
      refine r_iload_n (pc := 391) (i := 3) dL_law_391 rfl rfl ?_
      refine r_iconst (pc := 392) (v := 1) dL_law_392 (by decide) ?_
      refine r_iadd (pc := 393) dL_law_393 ?_
      obtain ⟨i90, h⟩ := h
      refine r_sld (pc := 394) hX dL_law_394 i90 ?_
      refine r_aload_n (pc := 395) (i := 0) dL_law_395 rfl rfl ?_
      refine r_iload_n (pc := 396) (i := 3) dL_law_396 rfl rfl ?_
      refine r_iconst (pc := 397) (v := 2) dL_law_397 (by decide) ?_
      refine r_iadd (pc := 398) dL_law_398 ?_
      obtain ⟨i91, h⟩ := h
      refine r_sld (pc := 399) hX dL_law_399 i91 ?_
      refine r_aload_n (pc := 400) (i := 0) dL_law_400 rfl rfl ?_
      refine r_iload_n (pc := 401) (i := 3) dL_law_401 rfl rfl ?_
      refine r_iconst (pc := 402) (v := 3) dL_law_402 (by decide) ?_
      refine r_iadd (pc := 403) dL_law_403 ?_
      obtain ⟨i92, h⟩ := h
      refine r_sld (pc := 404) hX dL_law_404 i92 ?_
      refine r_aload_n (pc := 405) (i := 0) dL_law_405 rfl rfl ?_
      refine r_iload_n (pc := 406) (i := 3) dL_law_406 rfl rfl ?_
      refine r_iconst (pc := 407) (v := 4) dL_law_407 (by decide) ?_
      refine r_iadd (pc := 408) dL_law_408 ?_
      obtain ⟨i93, h⟩ := h
      refine r_sld (pc := 409) hX dL_law_409 i93 ?_
      obtain ⟨k94, h⟩ := h
      refine r_callV (pc := 410) (ci := 12) (as := [_, _, _, _]) (st := [_]) okX12_ring lkL_39 inX12_ring seX12_ring ⟨_, rfl, rfl⟩ dL_law_410 rfl k94 (Nat.le_of_ble_eq_true rfl) (Nat.zero_le _) (Nat.zero_le _) (Call.mono h (fun r95 M96 h => ?_))
      obtain ⟨v97, rfl, h⟩ := h
      refine r_icmp_eq (pc := 413) (tgt := 1312) dL_law_413 (by decide) (fun c98 => ?_) (fun c98 => ?_)
      · replace h := h.1 c98
        refine r_iinc (pc := 1312) (i := 3) (v := _ + 8) dL_law_1312 rfl rfl rfl ?_
        refine r_goto (pc := 1315) (tgt := 18) dL_law_1315 (by decide) ?_
        exact h
      · replace h := h.2 c98
        refine r_iconst (pc := 416) (v := 0) dL_law_416 (by decide) ?_
        exact r_zret (pc := 417) dL_law_417 rfl (Or.inl rfl) h
    refine dite (((xs x3.toNatClampNeg) &&& 31) = 6) (fun c99 => ?_) (fun c99 => ?_)
    · replace h := h.2.2.2.2.2.2.1 c99
      refine r_tabIn (pc := 33) (tgt := 418) dL_law_33 (by rw [c99]; decide) (by rw [c99]; decide) (by rw [c99]; rfl) (by decide) ?_
      refine r_aload_n (pc := 418) (i := 1) dL_law_418 rfl rfl ?_
      refine r_aload_n (pc := 419) (i := 0) dL_law_419 rfl rfl ?_
      refine r_iload_n (pc := 420) (i := 3) dL_law_420 rfl rfl ?_
      refine r_iconst (pc := 421) (v := 1) dL_law_421 (by decide) ?_
      refine r_iadd (pc := 422) dL_law_422 ?_
      obtain ⟨i100, h⟩ := h
      refine r_sld (pc := 423) hX dL_law_423 i100 ?_
      refine r_aload_n (pc := 424) (i := 0) dL_law_424 rfl rfl ?_
      refine r_iload_n (pc := 425) (i := 3) dL_law_425 rfl rfl ?_
      refine r_iconst (pc := 426) (v := 2) dL_law_426 (by decide) ?_
      refine r_iadd (pc := 427) dL_law_427 ?_
      obtain ⟨i101, h⟩ := h
      refine r_sld (pc := 428) hX dL_law_428 i101 ?_
      refine r_aload_n (pc := 429) (i := 0) dL_law_429 rfl rfl ?_
      refine r_iload_n (pc := 430) (i := 3) dL_law_430 rfl rfl ?_
      refine r_iconst (pc := 431) (v := 3) dL_law_431 (by decide) ?_
      refine r_iadd (pc := 432) dL_law_432 ?_
      obtain ⟨i102, h⟩ := h
      refine r_sld (pc := 433) hX dL_law_433 i102 ?_
      obtain ⟨k103, h⟩ := h
      refine r_callV (pc := 434) (ci := 11) (as := [_, _, _]) (st := []) okX11_pair lkL_40 inX11_pair seX11_pair ⟨_, rfl, rfl⟩ dL_law_434 rfl k103 (Nat.le_of_ble_eq_true rfl) (Nat.zero_le _) (Nat.zero_le _) (Call.mono h (fun r104 M105 h => ?_))
      obtain ⟨v106, rfl, h⟩ := h
      refine r_aload_n (pc := 437) (i := 2) dL_law_437 rfl rfl ?_
      refine r_aload_n (pc := 438) (i := 0) dL_law_438 rfl rfl ?_
      refine r_iload_n (pc := 439) (i := 3) dL_law_439 rfl rfl ?_
      refine r_iconst (pc := 440) (v := 1) dL_law_440 (by decide) ?_
      refine r_iadd (pc := 441) dL_law_441 ?_
      obtain ⟨i107, h⟩ := h
      refine r_sld (pc := 442) hX dL_law_442 i107 ?_
      refine r_aload_n (pc := 443) (i := 0) dL_law_443 rfl rfl ?_
      refine r_iload_n (pc := 444) (i := 3) dL_law_444 rfl rfl ?_
      refine r_iconst (pc := 445) (v := 2) dL_law_445 (by decide) ?_
      refine r_iadd (pc := 446) dL_law_446 ?_
      obtain ⟨i108, h⟩ := h
      refine r_sld (pc := 447) hX dL_law_447 i108 ?_
      refine r_aload_n (pc := 448) (i := 0) dL_law_448 rfl rfl ?_
      refine r_iload_n (pc := 449) (i := 3) dL_law_449 rfl rfl ?_
      refine r_iconst (pc := 450) (v := 3) dL_law_450 (by decide) ?_
      refine r_iadd (pc := 451) dL_law_451 ?_
      obtain ⟨i109, h⟩ := h
      refine r_sld (pc := 452) hX dL_law_452 i109 ?_
      obtain ⟨k110, h⟩ := h
      refine r_callV (pc := 453) (ci := 12) (as := [_, _, _]) (st := [_]) okX12_pair lkL_43 inX12_pair seX12_pair ⟨_, rfl, rfl⟩ dL_law_453 rfl k110 (Nat.le_of_ble_eq_true rfl) (Nat.zero_le _) (Nat.zero_le _) (Call.mono h (fun r111 M112 h => ?_))
      obtain ⟨v113, rfl, h⟩ := h
      refine r_icmp_eq (pc := 456) (tgt := 1312) dL_law_456 (by decide) (fun c114 => ?_) (fun c114 => ?_)
      · replace h := h.1 c114
        refine r_iinc (pc := 1312) (i := 3) (v := _ + 8) dL_law_1312 rfl rfl rfl ?_
        refine r_goto (pc := 1315) (tgt := 18) dL_law_1315 (by decide) ?_
        exact h
      · replace h := h.2 c114
        refine r_iconst (pc := 459) (v := 0) dL_law_459 (by decide) ?_
        exact r_zret (pc := 460) dL_law_460 rfl (Or.inl rfl) h
    refine dite (((xs x3.toNatClampNeg) &&& 31) = 7) (fun c115 => ?_) (fun c115 => ?_)
    · replace h := h.2.2.2.2.2.2.2.1 c115
      refine r_tabIn (pc := 33) (tgt := 461) dL_law_33 (by rw [c115]; decide) (by rw [c115]; decide) (by rw [c115]; rfl) (by decide) ?_
      refine r_aload_n (pc := 461) (i := 1) dL_law_461 rfl rfl ?_
      refine r_aload_n (pc := 462) (i := 0) dL_law_462 rfl rfl ?_
      refine r_iload_n (pc := 463) (i := 3) dL_law_463 rfl rfl ?_
      refine r_iconst (pc := 464) (v := 1) dL_law_464 (by decide) ?_
      refine r_iadd (pc := 465) dL_law_465 ?_
      obtain ⟨i116, h⟩ := h
      refine r_sld (pc := 466) hX dL_law_466 i116 ?_
      obtain ⟨k117, h⟩ := h
      refine r_callV (pc := 467) (ci := 11) (as := [_]) (st := []) okX11_sought lkL_44 inX11_sought seX11_sought ⟨_, rfl, rfl⟩ dL_law_467 rfl k117 (Nat.le_of_ble_eq_true rfl) (Nat.zero_le _) (Nat.zero_le _) (Call.mono h (fun r118 M119 h => ?_))
      obtain ⟨v120, rfl, h⟩ := h
      refine r_aload_n (pc := 470) (i := 2) dL_law_470 rfl rfl ?_
      refine r_aload_n (pc := 471) (i := 0) dL_law_471 rfl rfl ?_
      refine r_iload_n (pc := 472) (i := 3) dL_law_472 rfl rfl ?_
      refine r_iconst (pc := 473) (v := 1) dL_law_473 (by decide) ?_
      refine r_iadd (pc := 474) dL_law_474 ?_
      obtain ⟨i121, h⟩ := h
      refine r_sld (pc := 475) hX dL_law_475 i121 ?_
      obtain ⟨k122, h⟩ := h
      refine r_callV (pc := 476) (ci := 12) (as := [_]) (st := [_]) okX12_sought lkL_47 inX12_sought seX12_sought ⟨_, rfl, rfl⟩ dL_law_476 rfl k122 (Nat.le_of_ble_eq_true rfl) (Nat.zero_le _) (Nat.zero_le _) (Call.mono h (fun r123 M124 h => ?_))
      obtain ⟨v125, rfl, h⟩ := h
      refine r_icmp_eq (pc := 479) (tgt := 1312) dL_law_479 (by decide) (fun c126 => ?_) (fun c126 => ?_)
      · replace h := h.1 c126
        refine r_iinc (pc := 1312) (i := 3) (v := _ + 8) dL_law_1312 rfl rfl rfl ?_
        refine r_goto (pc := 1315) (tgt := 18) dL_law_1315 (by decide) ?_
        exact h
      · replace h := h.2 c126
        refine r_iconst (pc := 482) (v := 0) dL_law_482 (by decide) ?_
        exact r_zret (pc := 483) dL_law_483 rfl (Or.inl rfl) h
    refine dite (((xs x3.toNatClampNeg) &&& 31) = 8) (fun c127 => ?_) (fun c127 => ?_)
    · replace h := h.2.2.2.2.2.2.2.2.1 c127
      refine r_tabIn (pc := 33) (tgt := 484) dL_law_33 (by rw [c127]; decide) (by rw [c127]; decide) (by rw [c127]; rfl) (by decide) ?_
      refine r_aload_n (pc := 484) (i := 1) dL_law_484 rfl rfl ?_
      refine r_aload_n (pc := 485) (i := 0) dL_law_485 rfl rfl ?_
      refine r_iload_n (pc := 486) (i := 3) dL_law_486 rfl rfl ?_
      refine r_iconst (pc := 487) (v := 1) dL_law_487 (by decide) ?_
      refine r_iadd (pc := 488) dL_law_488 ?_
      obtain ⟨i128, h⟩ := h
      refine r_sld (pc := 489) hX dL_law_489 i128 ?_
      refine r_aload_n (pc := 490) (i := 0) dL_law_490 rfl rfl ?_
      refine r_iload_n (pc := 491) (i := 3) dL_law_491 rfl rfl ?_
      refine r_iconst (pc := 492) (v := 2) dL_law_492 (by decide) ?_
      refine r_iadd (pc := 493) dL_law_493 ?_
      obtain ⟨i129, h⟩ := h
      refine r_sld (pc := 494) hX dL_law_494 i129 ?_
      refine r_i2l (pc := 495) dL_law_495 ?_
      refine r_bipush (pc := 496) (v := 32) dL_law_496 (by decide) ?_
      refine r_lshl (pc := 498) dL_law_498 ?_
      refine r_aload_n (pc := 499) (i := 0) dL_law_499 rfl rfl ?_
      refine r_iload_n (pc := 500) (i := 3) dL_law_500 rfl rfl ?_
      refine r_iconst (pc := 501) (v := 3) dL_law_501 (by decide) ?_
      refine r_iadd (pc := 502) dL_law_502 ?_
      obtain ⟨i130, h⟩ := h
      refine r_sld (pc := 503) hX dL_law_503 i130 ?_
      refine r_i2l (pc := 504) dL_law_504 ?_
      refine r_ldc2 (pc := 505) (v := 4294967295) dL_law_505 ww_1915 ?_
      refine r_land (pc := 508) dL_law_508 ?_
      refine r_lor (pc := 509) dL_law_509 ?_
      obtain ⟨k131, h⟩ := h
      refine r_callV (pc := 510) (ci := 11) (as := [_, _]) (st := []) okX11_feed lkL_50 inX11_feed seX11_feed ⟨_, rfl, rfl⟩ dL_law_510 rfl k131 (Nat.le_of_ble_eq_true rfl) (Nat.zero_le _) (Nat.zero_le _) (Call.mono h (fun r132 M133 h => ?_))
      obtain ⟨v134, rfl, h⟩ := h
      refine r_aload_n (pc := 513) (i := 2) dL_law_513 rfl rfl ?_
      refine r_aload_n (pc := 514) (i := 0) dL_law_514 rfl rfl ?_
      refine r_iload_n (pc := 515) (i := 3) dL_law_515 rfl rfl ?_
      refine r_iconst (pc := 516) (v := 1) dL_law_516 (by decide) ?_
      refine r_iadd (pc := 517) dL_law_517 ?_
      obtain ⟨i135, h⟩ := h
      refine r_sld (pc := 518) hX dL_law_518 i135 ?_
      refine r_aload_n (pc := 519) (i := 0) dL_law_519 rfl rfl ?_
      refine r_iload_n (pc := 520) (i := 3) dL_law_520 rfl rfl ?_
      refine r_iconst (pc := 521) (v := 2) dL_law_521 (by decide) ?_
      refine r_iadd (pc := 522) dL_law_522 ?_
      obtain ⟨i136, h⟩ := h
      refine r_sld (pc := 523) hX dL_law_523 i136 ?_
      refine r_i2l (pc := 524) dL_law_524 ?_
      refine r_bipush (pc := 525) (v := 32) dL_law_525 (by decide) ?_
      refine r_lshl (pc := 527) dL_law_527 ?_
      refine r_aload_n (pc := 528) (i := 0) dL_law_528 rfl rfl ?_
      refine r_iload_n (pc := 529) (i := 3) dL_law_529 rfl rfl ?_
      refine r_iconst (pc := 530) (v := 3) dL_law_530 (by decide) ?_
      refine r_iadd (pc := 531) dL_law_531 ?_
      obtain ⟨i137, h⟩ := h
      refine r_sld (pc := 532) hX dL_law_532 i137 ?_
      refine r_i2l (pc := 533) dL_law_533 ?_
      refine r_ldc2 (pc := 534) (v := 4294967295) dL_law_534 ww_1915 ?_
      refine r_land (pc := 537) dL_law_537 ?_
      refine r_lor (pc := 538) dL_law_538 ?_
      obtain ⟨k138, h⟩ := h
      refine r_callV (pc := 539) (ci := 12) (as := [_, _]) (st := [_]) okX12_feed lkL_54 inX12_feed seX12_feed ⟨_, rfl, rfl⟩ dL_law_539 rfl k138 (Nat.le_of_ble_eq_true rfl) (Nat.zero_le _) (Nat.zero_le _) (Call.mono h (fun r139 M140 h => ?_))
      obtain ⟨v141, rfl, h⟩ := h
      refine r_icmp_eq (pc := 542) (tgt := 1312) dL_law_542 (by decide) (fun c142 => ?_) (fun c142 => ?_)
      · replace h := h.1 c142
        refine r_iinc (pc := 1312) (i := 3) (v := _ + 8) dL_law_1312 rfl rfl rfl ?_
        refine r_goto (pc := 1315) (tgt := 18) dL_law_1315 (by decide) ?_
        exact h
      · replace h := h.2 c142
        refine r_iconst (pc := 545) (v := 0) dL_law_545 (by decide) ?_
        exact r_zret (pc := 546) dL_law_546 rfl (Or.inl rfl) h
    refine dite (((xs x3.toNatClampNeg) &&& 31) = 9) (fun c143 => ?_) (fun c143 => ?_)
    · replace h := h.2.2.2.2.2.2.2.2.2.1 c143
      refine r_tabIn (pc := 33) (tgt := 547) dL_law_33 (by rw [c143]; decide) (by rw [c143]; decide) (by rw [c143]; rfl) (by decide) ?_
      refine r_aload_n (pc := 547) (i := 1) dL_law_547 rfl rfl ?_
      obtain ⟨k144, h⟩ := h
      refine r_callV (pc := 548) (ci := 11) (as := []) (st := []) okX11_question lkL_55 inX11_question seX11_question ⟨_, rfl, rfl⟩ dL_law_548 rfl k144 (Nat.le_of_ble_eq_true rfl) (Nat.zero_le _) (Nat.zero_le _) (Call.mono h (fun r145 M146 h => ?_))
      obtain ⟨v147, rfl, h⟩ := h
      refine r_aload_n (pc := 551) (i := 2) dL_law_551 rfl rfl ?_
      obtain ⟨k148, h⟩ := h
      refine r_callV (pc := 552) (ci := 12) (as := []) (st := [_]) okX12_question lkL_59 inX12_question seX12_question ⟨_, rfl, rfl⟩ dL_law_552 rfl k148 (Nat.le_of_ble_eq_true rfl) (Nat.zero_le _) (Nat.zero_le _) (Call.mono h (fun r149 M150 h => ?_))
      obtain ⟨v151, rfl, h⟩ := h
      refine r_icmp_eq (pc := 555) (tgt := 1312) dL_law_555 (by decide) (fun c152 => ?_) (fun c152 => ?_)
      · replace h := h.1 c152
        refine r_iinc (pc := 1312) (i := 3) (v := _ + 8) dL_law_1312 rfl rfl rfl ?_
        refine r_goto (pc := 1315) (tgt := 18) dL_law_1315 (by decide) ?_
        exact h
      · replace h := h.2 c152
        refine r_iconst (pc := 558) (v := 0) dL_law_558 (by decide) ?_
        exact r_zret (pc := 559) dL_law_559 rfl (Or.inl rfl) h
    refine dite (((xs x3.toNatClampNeg) &&& 31) = 10) (fun c153 => ?_) (fun c153 => ?_)
    · replace h := h.2.2.2.2.2.2.2.2.2.2.1 c153
      refine r_tabIn (pc := 33) (tgt := 560) dL_law_33 (by rw [c153]; decide) (by rw [c153]; decide) (by rw [c153]; rfl) (by decide) ?_
      refine r_aload_n (pc := 560) (i := 1) dL_law_560 rfl rfl ?_
      refine r_aload_n (pc := 561) (i := 0) dL_law_561 rfl rfl ?_
      refine r_iload_n (pc := 562) (i := 3) dL_law_562 rfl rfl ?_
      refine r_iconst (pc := 563) (v := 1) dL_law_563 (by decide) ?_
      refine r_iadd (pc := 564) dL_law_564 ?_
      obtain ⟨i154, h⟩ := h
      refine r_sld (pc := 565) hX dL_law_565 i154 ?_
      obtain ⟨k155, h⟩ := h
      refine r_callV (pc := 566) (ci := 11) (as := [_]) (st := []) okX11_drop lkL_60 inX11_drop seX11_drop ⟨_, rfl, rfl⟩ dL_law_566 rfl k155 (Nat.le_of_ble_eq_true rfl) (Nat.zero_le _) (Nat.zero_le _) (Call.mono h (fun r156 M157 h => ?_))
      obtain ⟨v158, rfl, h⟩ := h
      refine r_aload_n (pc := 569) (i := 2) dL_law_569 rfl rfl ?_
      refine r_aload_n (pc := 570) (i := 0) dL_law_570 rfl rfl ?_
      refine r_iload_n (pc := 571) (i := 3) dL_law_571 rfl rfl ?_
      refine r_iconst (pc := 572) (v := 1) dL_law_572 (by decide) ?_
      refine r_iadd (pc := 573) dL_law_573 ?_
      obtain ⟨i159, h⟩ := h
      refine r_sld (pc := 574) hX dL_law_574 i159 ?_
      obtain ⟨k160, h⟩ := h
      refine r_callV (pc := 575) (ci := 12) (as := [_]) (st := [_]) okX12_drop lkL_63 inX12_drop seX12_drop ⟨_, rfl, rfl⟩ dL_law_575 rfl k160 (Nat.le_of_ble_eq_true rfl) (Nat.zero_le _) (Nat.zero_le _) (Call.mono h (fun r161 M162 h => ?_))
      obtain ⟨v163, rfl, h⟩ := h
      refine r_icmp_eq (pc := 578) (tgt := 1312) dL_law_578 (by decide) (fun c164 => ?_) (fun c164 => ?_)
      · replace h := h.1 c164
        refine r_iinc (pc := 1312) (i := 3) (v := _ + 8) dL_law_1312 rfl rfl rfl ?_
        refine r_goto (pc := 1315) (tgt := 18) dL_law_1315 (by decide) ?_
        exact h
      · replace h := h.2 c164
        refine r_iconst (pc := 581) (v := 0) dL_law_581 (by decide) ?_
        exact r_zret (pc := 582) dL_law_582 rfl (Or.inl rfl) h
    refine dite (((xs x3.toNatClampNeg) &&& 31) = 11) (fun c165 => ?_) (fun c165 => ?_)
    · replace h := h.2.2.2.2.2.2.2.2.2.2.2.1 c165
      refine r_tabIn (pc := 33) (tgt := 583) dL_law_33 (by rw [c165]; decide) (by rw [c165]; decide) (by rw [c165]; rfl) (by decide) ?_
      refine r_aload_n (pc := 583) (i := 1) dL_law_583 rfl rfl ?_
      refine r_aload_n (pc := 584) (i := 0) dL_law_584 rfl rfl ?_
      refine r_iload_n (pc := 585) (i := 3) dL_law_585 rfl rfl ?_
      refine r_iconst (pc := 586) (v := 1) dL_law_586 (by decide) ?_
      refine r_iadd (pc := 587) dL_law_587 ?_
      obtain ⟨i166, h⟩ := h
      refine r_sld (pc := 588) hX dL_law_588 i166 ?_
      obtain ⟨k167, h⟩ := h
      refine r_callV (pc := 589) (ci := 11) (as := [_]) (st := []) okX11_count lkL_64 inX11_count seX11_count ⟨_, rfl, rfl⟩ dL_law_589 rfl k167 (Nat.le_of_ble_eq_true rfl) (Nat.zero_le _) (Nat.zero_le _) (Call.mono h (fun r168 M169 h => ?_))
      obtain ⟨v170, rfl, h⟩ := h
      refine r_aload_n (pc := 592) (i := 2) dL_law_592 rfl rfl ?_
      refine r_aload_n (pc := 593) (i := 0) dL_law_593 rfl rfl ?_
      refine r_iload_n (pc := 594) (i := 3) dL_law_594 rfl rfl ?_
      refine r_iconst (pc := 595) (v := 1) dL_law_595 (by decide) ?_
      refine r_iadd (pc := 596) dL_law_596 ?_
      obtain ⟨i171, h⟩ := h
      refine r_sld (pc := 597) hX dL_law_597 i171 ?_
      obtain ⟨k172, h⟩ := h
      refine r_callV (pc := 598) (ci := 12) (as := [_]) (st := [_]) okX12_count lkL_67 inX12_count seX12_count ⟨_, rfl, rfl⟩ dL_law_598 rfl k172 (Nat.le_of_ble_eq_true rfl) (Nat.zero_le _) (Nat.zero_le _) (Call.mono h (fun r173 M174 h => ?_))
      obtain ⟨v175, rfl, h⟩ := h
      refine r_icmp_eq (pc := 601) (tgt := 1312) dL_law_601 (by decide) (fun c176 => ?_) (fun c176 => ?_)
      · replace h := h.1 c176
        refine r_iinc (pc := 1312) (i := 3) (v := _ + 8) dL_law_1312 rfl rfl rfl ?_
        refine r_goto (pc := 1315) (tgt := 18) dL_law_1315 (by decide) ?_
        exact h
      · replace h := h.2 c176
        refine r_iconst (pc := 604) (v := 0) dL_law_604 (by decide) ?_
        exact r_zret (pc := 605) dL_law_605 rfl (Or.inl rfl) h
    refine dite (((xs x3.toNatClampNeg) &&& 31) = 12) (fun c177 => ?_) (fun c177 => ?_)
    · replace h := h.2.2.2.2.2.2.2.2.2.2.2.2.1 c177
      refine r_tabIn (pc := 33) (tgt := 606) dL_law_33 (by rw [c177]; decide) (by rw [c177]; decide) (by rw [c177]; rfl) (by decide) ?_
      refine r_aload_n (pc := 606) (i := 1) dL_law_606 rfl rfl ?_
      refine r_aload_n (pc := 607) (i := 0) dL_law_607 rfl rfl ?_
      refine r_iload_n (pc := 608) (i := 3) dL_law_608 rfl rfl ?_
      refine r_iconst (pc := 609) (v := 1) dL_law_609 (by decide) ?_
      refine r_iadd (pc := 610) dL_law_610 ?_
      obtain ⟨i178, h⟩ := h
      refine r_sld (pc := 611) hX dL_law_611 i178 ?_
      obtain ⟨k179, h⟩ := h
      refine r_callV (pc := 612) (ci := 11) (as := [_]) (st := []) okX11_kind lkL_68 inX11_kind seX11_kind ⟨_, rfl, rfl⟩ dL_law_612 rfl k179 (Nat.le_of_ble_eq_true rfl) (Nat.zero_le _) (Nat.zero_le _) (Call.mono h (fun r180 M181 h => ?_))
      obtain ⟨v182, rfl, h⟩ := h
      refine r_aload_n (pc := 615) (i := 2) dL_law_615 rfl rfl ?_
      refine r_aload_n (pc := 616) (i := 0) dL_law_616 rfl rfl ?_
      refine r_iload_n (pc := 617) (i := 3) dL_law_617 rfl rfl ?_
      refine r_iconst (pc := 618) (v := 1) dL_law_618 (by decide) ?_
      refine r_iadd (pc := 619) dL_law_619 ?_
      obtain ⟨i183, h⟩ := h
      refine r_sld (pc := 620) hX dL_law_620 i183 ?_
      obtain ⟨k184, h⟩ := h
      refine r_callV (pc := 621) (ci := 12) (as := [_]) (st := [_]) okX12_kind lkL_71 inX12_kind seX12_kind ⟨_, rfl, rfl⟩ dL_law_621 rfl k184 (Nat.le_of_ble_eq_true rfl) (Nat.zero_le _) (Nat.zero_le _) (Call.mono h (fun r185 M186 h => ?_))
      obtain ⟨v187, rfl, h⟩ := h
      refine r_icmp_eq (pc := 624) (tgt := 1312) dL_law_624 (by decide) (fun c188 => ?_) (fun c188 => ?_)
      · replace h := h.1 c188
        refine r_iinc (pc := 1312) (i := 3) (v := _ + 8) dL_law_1312 rfl rfl rfl ?_
        refine r_goto (pc := 1315) (tgt := 18) dL_law_1315 (by decide) ?_
        exact h
      · replace h := h.2 c188
        refine r_iconst (pc := 627) (v := 0) dL_law_627 (by decide) ?_
        exact r_zret (pc := 628) dL_law_628 rfl (Or.inl rfl) h
    refine dite (((xs x3.toNatClampNeg) &&& 31) = 13) (fun c189 => ?_) (fun c189 => ?_)
    · replace h := h.2.2.2.2.2.2.2.2.2.2.2.2.2.1 c189
      refine r_tabIn (pc := 33) (tgt := 629) dL_law_33 (by rw [c189]; decide) (by rw [c189]; decide) (by rw [c189]; rfl) (by decide) ?_
      refine r_aload_n (pc := 629) (i := 1) dL_law_629 rfl rfl ?_
      refine r_aload_n (pc := 630) (i := 0) dL_law_630 rfl rfl ?_
      refine r_iload_n (pc := 631) (i := 3) dL_law_631 rfl rfl ?_
      refine r_iconst (pc := 632) (v := 1) dL_law_632 (by decide) ?_
      refine r_iadd (pc := 633) dL_law_633 ?_
      obtain ⟨i190, h⟩ := h
      refine r_sld (pc := 634) hX dL_law_634 i190 ?_
      refine r_aload_n (pc := 635) (i := 0) dL_law_635 rfl rfl ?_
      refine r_iload_n (pc := 636) (i := 3) dL_law_636 rfl rfl ?_
      refine r_iconst (pc := 637) (v := 2) dL_law_637 (by decide) ?_
      refine r_iadd (pc := 638) dL_law_638 ?_
      obtain ⟨i191, h⟩ := h
      refine r_sld (pc := 639) hX dL_law_639 i191 ?_
      refine r_i2l (pc := 640) dL_law_640 ?_
      refine r_bipush (pc := 641) (v := 32) dL_law_641 (by decide) ?_
      refine r_lshl (pc := 643) dL_law_643 ?_
      refine r_aload_n (pc := 644) (i := 0) dL_law_644 rfl rfl ?_
      refine r_iload_n (pc := 645) (i := 3) dL_law_645 rfl rfl ?_
      refine r_iconst (pc := 646) (v := 3) dL_law_646 (by decide) ?_
      refine r_iadd (pc := 647) dL_law_647 ?_
      obtain ⟨i192, h⟩ := h
      refine r_sld (pc := 648) hX dL_law_648 i192 ?_
      refine r_i2l (pc := 649) dL_law_649 ?_
      refine r_ldc2 (pc := 650) (v := 4294967295) dL_law_650 ww_1915 ?_
      refine r_land (pc := 653) dL_law_653 ?_
      refine r_lor (pc := 654) dL_law_654 ?_
      obtain ⟨k193, h⟩ := h
      refine r_callV (pc := 655) (ci := 11) (as := [_, _]) (st := []) okX11_letter lkL_72 inX11_letter seX11_letter ⟨_, rfl, rfl⟩ dL_law_655 rfl k193 (Nat.le_of_ble_eq_true rfl) (Nat.zero_le _) (Nat.zero_le _) (Call.mono h (fun r194 M195 h => ?_))
      obtain ⟨v196, rfl, h⟩ := h
      refine r_aload_n (pc := 658) (i := 2) dL_law_658 rfl rfl ?_
      refine r_aload_n (pc := 659) (i := 0) dL_law_659 rfl rfl ?_
      refine r_iload_n (pc := 660) (i := 3) dL_law_660 rfl rfl ?_
      refine r_iconst (pc := 661) (v := 1) dL_law_661 (by decide) ?_
      refine r_iadd (pc := 662) dL_law_662 ?_
      obtain ⟨i197, h⟩ := h
      refine r_sld (pc := 663) hX dL_law_663 i197 ?_
      refine r_aload_n (pc := 664) (i := 0) dL_law_664 rfl rfl ?_
      refine r_iload_n (pc := 665) (i := 3) dL_law_665 rfl rfl ?_
      refine r_iconst (pc := 666) (v := 2) dL_law_666 (by decide) ?_
      refine r_iadd (pc := 667) dL_law_667 ?_
      obtain ⟨i198, h⟩ := h
      refine r_sld (pc := 668) hX dL_law_668 i198 ?_
      refine r_i2l (pc := 669) dL_law_669 ?_
      refine r_bipush (pc := 670) (v := 32) dL_law_670 (by decide) ?_
      refine r_lshl (pc := 672) dL_law_672 ?_
      refine r_aload_n (pc := 673) (i := 0) dL_law_673 rfl rfl ?_
      refine r_iload_n (pc := 674) (i := 3) dL_law_674 rfl rfl ?_
      refine r_iconst (pc := 675) (v := 3) dL_law_675 (by decide) ?_
      refine r_iadd (pc := 676) dL_law_676 ?_
      obtain ⟨i199, h⟩ := h
      refine r_sld (pc := 677) hX dL_law_677 i199 ?_
      refine r_i2l (pc := 678) dL_law_678 ?_
      refine r_ldc2 (pc := 679) (v := 4294967295) dL_law_679 ww_1915 ?_
      refine r_land (pc := 682) dL_law_682 ?_
      refine r_lor (pc := 683) dL_law_683 ?_
      obtain ⟨k200, h⟩ := h
      refine r_callV (pc := 684) (ci := 12) (as := [_, _]) (st := [_]) okX12_letter lkL_75 inX12_letter seX12_letter ⟨_, rfl, rfl⟩ dL_law_684 rfl k200 (Nat.le_of_ble_eq_true rfl) (Nat.zero_le _) (Nat.zero_le _) (Call.mono h (fun r201 M202 h => ?_))
      obtain ⟨v203, rfl, h⟩ := h
      refine r_icmp_eq (pc := 687) (tgt := 1312) dL_law_687 (by decide) (fun c204 => ?_) (fun c204 => ?_)
      · replace h := h.1 c204
        refine r_iinc (pc := 1312) (i := 3) (v := _ + 8) dL_law_1312 rfl rfl rfl ?_
        refine r_goto (pc := 1315) (tgt := 18) dL_law_1315 (by decide) ?_
        exact h
      · replace h := h.2 c204
        refine r_iconst (pc := 690) (v := 0) dL_law_690 (by decide) ?_
        exact r_zret (pc := 691) dL_law_691 rfl (Or.inl rfl) h
    refine dite (((xs x3.toNatClampNeg) &&& 31) = 14) (fun c205 => ?_) (fun c205 => ?_)
    · replace h := h.2.2.2.2.2.2.2.2.2.2.2.2.2.2.1 c205
      refine r_tabIn (pc := 33) (tgt := 692) dL_law_33 (by rw [c205]; decide) (by rw [c205]; decide) (by rw [c205]; rfl) (by decide) ?_
      refine r_aload_n (pc := 692) (i := 1) dL_law_692 rfl rfl ?_
      refine r_aload_n (pc := 693) (i := 0) dL_law_693 rfl rfl ?_
      refine r_iload_n (pc := 694) (i := 3) dL_law_694 rfl rfl ?_
      refine r_iconst (pc := 695) (v := 1) dL_law_695 (by decide) ?_
      refine r_iadd (pc := 696) dL_law_696 ?_
      obtain ⟨i206, h⟩ := h
      refine r_sld (pc := 697) hX dL_law_697 i206 ?_
      obtain ⟨k207, h⟩ := h
      refine r_callV (pc := 698) (ci := 11) (as := [_]) (st := []) okX11_width lkL_76 inX11_width seX11_width ⟨_, rfl, rfl⟩ dL_law_698 rfl k207 (Nat.le_of_ble_eq_true rfl) (Nat.zero_le _) (Nat.zero_le _) (Call.mono h (fun r208 M209 h => ?_))
      obtain ⟨v210, rfl, h⟩ := h
      refine r_aload_n (pc := 701) (i := 2) dL_law_701 rfl rfl ?_
      refine r_aload_n (pc := 702) (i := 0) dL_law_702 rfl rfl ?_
      refine r_iload_n (pc := 703) (i := 3) dL_law_703 rfl rfl ?_
      refine r_iconst (pc := 704) (v := 1) dL_law_704 (by decide) ?_
      refine r_iadd (pc := 705) dL_law_705 ?_
      obtain ⟨i211, h⟩ := h
      refine r_sld (pc := 706) hX dL_law_706 i211 ?_
      obtain ⟨k212, h⟩ := h
      refine r_callV (pc := 707) (ci := 12) (as := [_]) (st := [_]) okX12_width lkL_79 inX12_width seX12_width ⟨_, rfl, rfl⟩ dL_law_707 rfl k212 (Nat.le_of_ble_eq_true rfl) (Nat.zero_le _) (Nat.zero_le _) (Call.mono h (fun r213 M214 h => ?_))
      obtain ⟨v215, rfl, h⟩ := h
      refine r_icmp_eq (pc := 710) (tgt := 1312) dL_law_710 (by decide) (fun c216 => ?_) (fun c216 => ?_)
      · replace h := h.1 c216
        refine r_iinc (pc := 1312) (i := 3) (v := _ + 8) dL_law_1312 rfl rfl rfl ?_
        refine r_goto (pc := 1315) (tgt := 18) dL_law_1315 (by decide) ?_
        exact h
      · replace h := h.2 c216
        refine r_iconst (pc := 713) (v := 0) dL_law_713 (by decide) ?_
        exact r_zret (pc := 714) dL_law_714 rfl (Or.inl rfl) h
    refine dite (((xs x3.toNatClampNeg) &&& 31) = 15) (fun c217 => ?_) (fun c217 => ?_)
    · replace h := h.2.2.2.2.2.2.2.2.2.2.2.2.2.2.2.1 c217
      refine r_tabIn (pc := 33) (tgt := 715) dL_law_33 (by rw [c217]; decide) (by rw [c217]; decide) (by rw [c217]; rfl) (by decide) ?_
      refine r_aload_n (pc := 715) (i := 1) dL_law_715 rfl rfl ?_
      refine r_aload_n (pc := 716) (i := 0) dL_law_716 rfl rfl ?_
      refine r_iload_n (pc := 717) (i := 3) dL_law_717 rfl rfl ?_
      refine r_iconst (pc := 718) (v := 1) dL_law_718 (by decide) ?_
      refine r_iadd (pc := 719) dL_law_719 ?_
      obtain ⟨i218, h⟩ := h
      refine r_sld (pc := 720) hX dL_law_720 i218 ?_
      refine r_aload_n (pc := 721) (i := 0) dL_law_721 rfl rfl ?_
      refine r_iload_n (pc := 722) (i := 3) dL_law_722 rfl rfl ?_
      refine r_iconst (pc := 723) (v := 2) dL_law_723 (by decide) ?_
      refine r_iadd (pc := 724) dL_law_724 ?_
      obtain ⟨i219, h⟩ := h
      refine r_sld (pc := 725) hX dL_law_725 i219 ?_
      obtain ⟨k220, h⟩ := h
      refine r_callV (pc := 726) (ci := 11) (as := [_, _]) (st := []) okX11_differ lkL_80 inX11_differ seX11_differ ⟨_, rfl, rfl⟩ dL_law_726 rfl k220 (Nat.le_of_ble_eq_true rfl) (Nat.zero_le _) (Nat.zero_le _) (Call.mono h (fun r221 M222 h => ?_))
      obtain ⟨v223, rfl, h⟩ := h
      refine r_aload_n (pc := 729) (i := 2) dL_law_729 rfl rfl ?_
      refine r_aload_n (pc := 730) (i := 0) dL_law_730 rfl rfl ?_
      refine r_iload_n (pc := 731) (i := 3) dL_law_731 rfl rfl ?_
      refine r_iconst (pc := 732) (v := 1) dL_law_732 (by decide) ?_
      refine r_iadd (pc := 733) dL_law_733 ?_
      obtain ⟨i224, h⟩ := h
      refine r_sld (pc := 734) hX dL_law_734 i224 ?_
      refine r_aload_n (pc := 735) (i := 0) dL_law_735 rfl rfl ?_
      refine r_iload_n (pc := 736) (i := 3) dL_law_736 rfl rfl ?_
      refine r_iconst (pc := 737) (v := 2) dL_law_737 (by decide) ?_
      refine r_iadd (pc := 738) dL_law_738 ?_
      obtain ⟨i225, h⟩ := h
      refine r_sld (pc := 739) hX dL_law_739 i225 ?_
      obtain ⟨k226, h⟩ := h
      refine r_callV (pc := 740) (ci := 12) (as := [_, _]) (st := [_]) okX12_differ lkL_84 inX12_differ seX12_differ ⟨_, rfl, rfl⟩ dL_law_740 rfl k226 (Nat.le_of_ble_eq_true rfl) (Nat.zero_le _) (Nat.zero_le _) (Call.mono h (fun r227 M228 h => ?_))
      obtain ⟨v229, rfl, h⟩ := h
      refine r_lcmp (pc := 743) dL_law_743 ?_
      refine r_if_eq (pc := 744) (tgt := 1312) dL_law_744 (by decide) (fun c230 => ?_) (fun c230 => ?_)
      · replace h := h.1 c230
        refine r_iinc (pc := 1312) (i := 3) (v := _ + 8) dL_law_1312 rfl rfl rfl ?_
        refine r_goto (pc := 1315) (tgt := 18) dL_law_1315 (by decide) ?_
        exact h
      · replace h := h.2 c230
        refine r_iconst (pc := 747) (v := 0) dL_law_747 (by decide) ?_
        exact r_zret (pc := 748) dL_law_748 rfl (Or.inl rfl) h
    refine dite (((xs x3.toNatClampNeg) &&& 31) = 16) (fun c231 => ?_) (fun c231 => ?_)
    · replace h := h.2.2.2.2.2.2.2.2.2.2.2.2.2.2.2.2.1 c231
      refine r_tabIn (pc := 33) (tgt := 749) dL_law_33 (by rw [c231]; decide) (by rw [c231]; decide) (by rw [c231]; rfl) (by decide) ?_
      refine r_aload_n (pc := 749) (i := 1) dL_law_749 rfl rfl ?_
      refine r_aload_n (pc := 750) (i := 0) dL_law_750 rfl rfl ?_
      refine r_iload_n (pc := 751) (i := 3) dL_law_751 rfl rfl ?_
      refine r_iconst (pc := 752) (v := 1) dL_law_752 (by decide) ?_
      refine r_iadd (pc := 753) dL_law_753 ?_
      obtain ⟨i232, h⟩ := h
      refine r_sld (pc := 754) hX dL_law_754 i232 ?_
      refine r_aload_n (pc := 755) (i := 0) dL_law_755 rfl rfl ?_
      refine r_iload_n (pc := 756) (i := 3) dL_law_756 rfl rfl ?_
      refine r_iconst (pc := 757) (v := 2) dL_law_757 (by decide) ?_
      refine r_iadd (pc := 758) dL_law_758 ?_
      obtain ⟨i233, h⟩ := h
      refine r_sld (pc := 759) hX dL_law_759 i233 ?_
      obtain ⟨k234, h⟩ := h
      refine r_callV (pc := 760) (ci := 11) (as := [_, _]) (st := []) okX11_told lkL_85 inX11_told seX11_told ⟨_, rfl, rfl⟩ dL_law_760 rfl k234 (Nat.le_of_ble_eq_true rfl) (Nat.zero_le _) (Nat.zero_le _) (Call.mono h (fun r235 M236 h => ?_))
      obtain ⟨v237, rfl, h⟩ := h
      refine r_aload_n (pc := 763) (i := 2) dL_law_763 rfl rfl ?_
      refine r_aload_n (pc := 764) (i := 0) dL_law_764 rfl rfl ?_
      refine r_iload_n (pc := 765) (i := 3) dL_law_765 rfl rfl ?_
      refine r_iconst (pc := 766) (v := 1) dL_law_766 (by decide) ?_
      refine r_iadd (pc := 767) dL_law_767 ?_
      obtain ⟨i238, h⟩ := h
      refine r_sld (pc := 768) hX dL_law_768 i238 ?_
      refine r_aload_n (pc := 769) (i := 0) dL_law_769 rfl rfl ?_
      refine r_iload_n (pc := 770) (i := 3) dL_law_770 rfl rfl ?_
      refine r_iconst (pc := 771) (v := 2) dL_law_771 (by decide) ?_
      refine r_iadd (pc := 772) dL_law_772 ?_
      obtain ⟨i239, h⟩ := h
      refine r_sld (pc := 773) hX dL_law_773 i239 ?_
      obtain ⟨k240, h⟩ := h
      refine r_callV (pc := 774) (ci := 12) (as := [_, _]) (st := [_]) okX12_told lkL_89 inX12_told seX12_told ⟨_, rfl, rfl⟩ dL_law_774 rfl k240 (Nat.le_of_ble_eq_true rfl) (Nat.zero_le _) (Nat.zero_le _) (Call.mono h (fun r241 M242 h => ?_))
      obtain ⟨v243, rfl, h⟩ := h
      refine r_icmp_eq (pc := 777) (tgt := 1312) dL_law_777 (by decide) (fun c244 => ?_) (fun c244 => ?_)
      · replace h := h.1 c244
        refine r_iinc (pc := 1312) (i := 3) (v := _ + 8) dL_law_1312 rfl rfl rfl ?_
        refine r_goto (pc := 1315) (tgt := 18) dL_law_1315 (by decide) ?_
        exact h
      · replace h := h.2 c244
        refine r_iconst (pc := 780) (v := 0) dL_law_780 (by decide) ?_
        exact r_zret (pc := 781) dL_law_781 rfl (Or.inl rfl) h
    refine dite (((xs x3.toNatClampNeg) &&& 31) = 17) (fun c245 => ?_) (fun c245 => ?_)
    · replace h := h.2.2.2.2.2.2.2.2.2.2.2.2.2.2.2.2.2.1 c245
      refine r_tabIn (pc := 33) (tgt := 782) dL_law_33 (by rw [c245]; decide) (by rw [c245]; decide) (by rw [c245]; rfl) (by decide) ?_
      refine r_aload_n (pc := 782) (i := 1) dL_law_782 rfl rfl ?_
      refine r_aload_n (pc := 783) (i := 0) dL_law_783 rfl rfl ?_
      refine r_iload_n (pc := 784) (i := 3) dL_law_784 rfl rfl ?_
      refine r_iconst (pc := 785) (v := 1) dL_law_785 (by decide) ?_
      refine r_iadd (pc := 786) dL_law_786 ?_
      obtain ⟨i246, h⟩ := h
      refine r_sld (pc := 787) hX dL_law_787 i246 ?_
      refine r_aload_n (pc := 788) (i := 0) dL_law_788 rfl rfl ?_
      refine r_iload_n (pc := 789) (i := 3) dL_law_789 rfl rfl ?_
      refine r_iconst (pc := 790) (v := 2) dL_law_790 (by decide) ?_
      refine r_iadd (pc := 791) dL_law_791 ?_
      obtain ⟨i247, h⟩ := h
      refine r_sld (pc := 792) hX dL_law_792 i247 ?_
      refine r_aload_n (pc := 793) (i := 0) dL_law_793 rfl rfl ?_
      refine r_iload_n (pc := 794) (i := 3) dL_law_794 rfl rfl ?_
      refine r_iconst (pc := 795) (v := 3) dL_law_795 (by decide) ?_
      refine r_iadd (pc := 796) dL_law_796 ?_
      obtain ⟨i248, h⟩ := h
      refine r_sld (pc := 797) hX dL_law_797 i248 ?_
      obtain ⟨k249, h⟩ := h
      refine r_callV (pc := 798) (ci := 11) (as := [_, _, _]) (st := []) okX11_step lkL_90 inX11_step seX11_step ⟨_, rfl, rfl⟩ dL_law_798 rfl k249 (Nat.le_of_ble_eq_true rfl) (Nat.zero_le _) (Nat.zero_le _) (Call.mono h (fun r250 M251 h => ?_))
      obtain ⟨v252, rfl, h⟩ := h
      refine r_aload_n (pc := 801) (i := 2) dL_law_801 rfl rfl ?_
      refine r_aload_n (pc := 802) (i := 0) dL_law_802 rfl rfl ?_
      refine r_iload_n (pc := 803) (i := 3) dL_law_803 rfl rfl ?_
      refine r_iconst (pc := 804) (v := 1) dL_law_804 (by decide) ?_
      refine r_iadd (pc := 805) dL_law_805 ?_
      obtain ⟨i253, h⟩ := h
      refine r_sld (pc := 806) hX dL_law_806 i253 ?_
      refine r_aload_n (pc := 807) (i := 0) dL_law_807 rfl rfl ?_
      refine r_iload_n (pc := 808) (i := 3) dL_law_808 rfl rfl ?_
      refine r_iconst (pc := 809) (v := 2) dL_law_809 (by decide) ?_
      refine r_iadd (pc := 810) dL_law_810 ?_
      obtain ⟨i254, h⟩ := h
      refine r_sld (pc := 811) hX dL_law_811 i254 ?_
      refine r_aload_n (pc := 812) (i := 0) dL_law_812 rfl rfl ?_
      refine r_iload_n (pc := 813) (i := 3) dL_law_813 rfl rfl ?_
      refine r_iconst (pc := 814) (v := 3) dL_law_814 (by decide) ?_
      refine r_iadd (pc := 815) dL_law_815 ?_
      obtain ⟨i255, h⟩ := h
      refine r_sld (pc := 816) hX dL_law_816 i255 ?_
      obtain ⟨k256, h⟩ := h
      refine r_callV (pc := 817) (ci := 12) (as := [_, _, _]) (st := [_]) okX12_step lkL_93 inX12_step seX12_step ⟨_, rfl, rfl⟩ dL_law_817 rfl k256 (Nat.le_of_ble_eq_true rfl) (Nat.zero_le _) (Nat.zero_le _) (Call.mono h (fun r257 M258 h => ?_))
      obtain ⟨v259, rfl, h⟩ := h
      refine r_icmp_eq (pc := 820) (tgt := 1312) dL_law_820 (by decide) (fun c260 => ?_) (fun c260 => ?_)
      · replace h := h.1 c260
        refine r_iinc (pc := 1312) (i := 3) (v := _ + 8) dL_law_1312 rfl rfl rfl ?_
        refine r_goto (pc := 1315) (tgt := 18) dL_law_1315 (by decide) ?_
        exact h
      · replace h := h.2 c260
        refine r_iconst (pc := 823) (v := 0) dL_law_823 (by decide) ?_
        exact r_zret (pc := 824) dL_law_824 rfl (Or.inl rfl) h
    refine dite (((xs x3.toNatClampNeg) &&& 31) = 18) (fun c261 => ?_) (fun c261 => ?_)
    · replace h := h.2.2.2.2.2.2.2.2.2.2.2.2.2.2.2.2.2.2.1 c261
      refine r_tabIn (pc := 33) (tgt := 825) dL_law_33 (by rw [c261]; decide) (by rw [c261]; decide) (by rw [c261]; rfl) (by decide) ?_
      refine r_aload_n (pc := 825) (i := 1) dL_law_825 rfl rfl ?_
      refine r_aload_n (pc := 826) (i := 0) dL_law_826 rfl rfl ?_
      refine r_iload_n (pc := 827) (i := 3) dL_law_827 rfl rfl ?_
      refine r_iconst (pc := 828) (v := 1) dL_law_828 (by decide) ?_
      refine r_iadd (pc := 829) dL_law_829 ?_
      obtain ⟨i262, h⟩ := h
      refine r_sld (pc := 830) hX dL_law_830 i262 ?_
      refine r_aload_n (pc := 831) (i := 0) dL_law_831 rfl rfl ?_
      refine r_iload_n (pc := 832) (i := 3) dL_law_832 rfl rfl ?_
      refine r_iconst (pc := 833) (v := 2) dL_law_833 (by decide) ?_
      refine r_iadd (pc := 834) dL_law_834 ?_
      obtain ⟨i263, h⟩ := h
      refine r_sld (pc := 835) hX dL_law_835 i263 ?_
      obtain ⟨k264, h⟩ := h
      refine r_callV (pc := 836) (ci := 11) (as := [_, _]) (st := []) okX11_takes lkL_94 inX11_takes seX11_takes ⟨_, rfl, rfl⟩ dL_law_836 rfl k264 (Nat.le_of_ble_eq_true rfl) (Nat.zero_le _) (Nat.zero_le _) (Call.mono h (fun r265 M266 h => ?_))
      obtain ⟨v267, rfl, h⟩ := h
      refine r_aload_n (pc := 839) (i := 2) dL_law_839 rfl rfl ?_
      refine r_aload_n (pc := 840) (i := 0) dL_law_840 rfl rfl ?_
      refine r_iload_n (pc := 841) (i := 3) dL_law_841 rfl rfl ?_
      refine r_iconst (pc := 842) (v := 1) dL_law_842 (by decide) ?_
      refine r_iadd (pc := 843) dL_law_843 ?_
      obtain ⟨i268, h⟩ := h
      refine r_sld (pc := 844) hX dL_law_844 i268 ?_
      refine r_aload_n (pc := 845) (i := 0) dL_law_845 rfl rfl ?_
      refine r_iload_n (pc := 846) (i := 3) dL_law_846 rfl rfl ?_
      refine r_iconst (pc := 847) (v := 2) dL_law_847 (by decide) ?_
      refine r_iadd (pc := 848) dL_law_848 ?_
      obtain ⟨i269, h⟩ := h
      refine r_sld (pc := 849) hX dL_law_849 i269 ?_
      obtain ⟨k270, h⟩ := h
      refine r_callV (pc := 850) (ci := 12) (as := [_, _]) (st := [_]) okX12_takes lkL_97 inX12_takes seX12_takes ⟨_, rfl, rfl⟩ dL_law_850 rfl k270 (Nat.le_of_ble_eq_true rfl) (Nat.zero_le _) (Nat.zero_le _) (Call.mono h (fun r271 M272 h => ?_))
      obtain ⟨v273, rfl, h⟩ := h
      refine r_icmp_eq (pc := 853) (tgt := 1312) dL_law_853 (by decide) (fun c274 => ?_) (fun c274 => ?_)
      · replace h := h.1 c274
        refine r_iinc (pc := 1312) (i := 3) (v := _ + 8) dL_law_1312 rfl rfl rfl ?_
        refine r_goto (pc := 1315) (tgt := 18) dL_law_1315 (by decide) ?_
        exact h
      · replace h := h.2 c274
        refine r_iconst (pc := 856) (v := 0) dL_law_856 (by decide) ?_
        exact r_zret (pc := 857) dL_law_857 rfl (Or.inl rfl) h
    refine dite (((xs x3.toNatClampNeg) &&& 31) = 19) (fun c275 => ?_) (fun c275 => ?_)
    · replace h := h.2.2.2.2.2.2.2.2.2.2.2.2.2.2.2.2.2.2.2.1 c275
      refine r_tabIn (pc := 33) (tgt := 858) dL_law_33 (by rw [c275]; decide) (by rw [c275]; decide) (by rw [c275]; rfl) (by decide) ?_
      refine r_aload_n (pc := 858) (i := 1) dL_law_858 rfl rfl ?_
      refine r_aload_n (pc := 859) (i := 0) dL_law_859 rfl rfl ?_
      refine r_iload_n (pc := 860) (i := 3) dL_law_860 rfl rfl ?_
      refine r_iconst (pc := 861) (v := 1) dL_law_861 (by decide) ?_
      refine r_iadd (pc := 862) dL_law_862 ?_
      obtain ⟨i276, h⟩ := h
      refine r_sld (pc := 863) hX dL_law_863 i276 ?_
      refine r_aload_n (pc := 864) (i := 0) dL_law_864 rfl rfl ?_
      refine r_iload_n (pc := 865) (i := 3) dL_law_865 rfl rfl ?_
      refine r_iconst (pc := 866) (v := 2) dL_law_866 (by decide) ?_
      refine r_iadd (pc := 867) dL_law_867 ?_
      obtain ⟨i277, h⟩ := h
      refine r_sld (pc := 868) hX dL_law_868 i277 ?_
      refine r_i2l (pc := 869) dL_law_869 ?_
      refine r_bipush (pc := 870) (v := 32) dL_law_870 (by decide) ?_
      refine r_lshl (pc := 872) dL_law_872 ?_
      refine r_aload_n (pc := 873) (i := 0) dL_law_873 rfl rfl ?_
      refine r_iload_n (pc := 874) (i := 3) dL_law_874 rfl rfl ?_
      refine r_iconst (pc := 875) (v := 3) dL_law_875 (by decide) ?_
      refine r_iadd (pc := 876) dL_law_876 ?_
      obtain ⟨i278, h⟩ := h
      refine r_sld (pc := 877) hX dL_law_877 i278 ?_
      refine r_i2l (pc := 878) dL_law_878 ?_
      refine r_ldc2 (pc := 879) (v := 4294967295) dL_law_879 ww_1915 ?_
      refine r_land (pc := 882) dL_law_882 ?_
      refine r_lor (pc := 883) dL_law_883 ?_
      refine r_aload_n (pc := 884) (i := 0) dL_law_884 rfl rfl ?_
      refine r_iload_n (pc := 885) (i := 3) dL_law_885 rfl rfl ?_
      refine r_iconst (pc := 886) (v := 4) dL_law_886 (by decide) ?_
      refine r_iadd (pc := 887) dL_law_887 ?_
      obtain ⟨i279, h⟩ := h
      refine r_sld (pc := 888) hX dL_law_888 i279 ?_
      refine r_i2l (pc := 889) dL_law_889 ?_
      refine r_bipush (pc := 890) (v := 32) dL_law_890 (by decide) ?_
      refine r_lshl (pc := 892) dL_law_892 ?_
      refine r_aload_n (pc := 893) (i := 0) dL_law_893 rfl rfl ?_
      refine r_iload_n (pc := 894) (i := 3) dL_law_894 rfl rfl ?_
      refine r_iconst (pc := 895) (v := 5) dL_law_895 (by decide) ?_
      refine r_iadd (pc := 896) dL_law_896 ?_
      obtain ⟨i280, h⟩ := h
      refine r_sld (pc := 897) hX dL_law_897 i280 ?_
      refine r_i2l (pc := 898) dL_law_898 ?_
      refine r_ldc2 (pc := 899) (v := 4294967295) dL_law_899 ww_1915 ?_
      refine r_land (pc := 902) dL_law_902 ?_
      refine r_lor (pc := 903) dL_law_903 ?_
      refine r_aload_n (pc := 904) (i := 0) dL_law_904 rfl rfl ?_
      refine r_iload_n (pc := 905) (i := 3) dL_law_905 rfl rfl ?_
      refine r_bipush (pc := 906) (v := 6) dL_law_906 (by decide) ?_
      refine r_iadd (pc := 908) dL_law_908 ?_
      obtain ⟨i281, h⟩ := h
      refine r_sld (pc := 909) hX dL_law_909 i281 ?_
      refine r_i2l (pc := 910) dL_law_910 ?_
      refine r_bipush (pc := 911) (v := 32) dL_law_911 (by decide) ?_
      refine r_lshl (pc := 913) dL_law_913 ?_
      refine r_aload_n (pc := 914) (i := 0) dL_law_914 rfl rfl ?_
      refine r_iload_n (pc := 915) (i := 3) dL_law_915 rfl rfl ?_
      refine r_bipush (pc := 916) (v := 7) dL_law_916 (by decide) ?_
      refine r_iadd (pc := 918) dL_law_918 ?_
      obtain ⟨i282, h⟩ := h
      refine r_sld (pc := 919) hX dL_law_919 i282 ?_
      refine r_i2l (pc := 920) dL_law_920 ?_
      refine r_ldc2 (pc := 921) (v := 4294967295) dL_law_921 ww_1915 ?_
      refine r_land (pc := 924) dL_law_924 ?_
      refine r_lor (pc := 925) dL_law_925 ?_
      obtain ⟨k283, h⟩ := h
      refine r_callV (pc := 926) (ci := 11) (as := [_, _, _, _]) (st := []) okX11_holds lkL_98 inX11_holds seX11_holds ⟨_, rfl, rfl⟩ dL_law_926 rfl k283 (Nat.le_of_ble_eq_true rfl) (Nat.zero_le _) (Nat.zero_le _) (Call.mono h (fun r284 M285 h => ?_))
      obtain ⟨v286, rfl, h⟩ := h
      refine r_aload_n (pc := 929) (i := 2) dL_law_929 rfl rfl ?_
      refine r_aload_n (pc := 930) (i := 0) dL_law_930 rfl rfl ?_
      refine r_iload_n (pc := 931) (i := 3) dL_law_931 rfl rfl ?_
      refine r_iconst (pc := 932) (v := 1) dL_law_932 (by decide) ?_
      refine r_iadd (pc := 933) dL_law_933 ?_
      obtain ⟨i287, h⟩ := h
      refine r_sld (pc := 934) hX dL_law_934 i287 ?_
      refine r_aload_n (pc := 935) (i := 0) dL_law_935 rfl rfl ?_
      refine r_iload_n (pc := 936) (i := 3) dL_law_936 rfl rfl ?_
      refine r_iconst (pc := 937) (v := 2) dL_law_937 (by decide) ?_
      refine r_iadd (pc := 938) dL_law_938 ?_
      obtain ⟨i288, h⟩ := h
      refine r_sld (pc := 939) hX dL_law_939 i288 ?_
      refine r_i2l (pc := 940) dL_law_940 ?_
      refine r_bipush (pc := 941) (v := 32) dL_law_941 (by decide) ?_
      refine r_lshl (pc := 943) dL_law_943 ?_
      refine r_aload_n (pc := 944) (i := 0) dL_law_944 rfl rfl ?_
      refine r_iload_n (pc := 945) (i := 3) dL_law_945 rfl rfl ?_
      refine r_iconst (pc := 946) (v := 3) dL_law_946 (by decide) ?_
      refine r_iadd (pc := 947) dL_law_947 ?_
      obtain ⟨i289, h⟩ := h
      refine r_sld (pc := 948) hX dL_law_948 i289 ?_
      refine r_i2l (pc := 949) dL_law_949 ?_
      refine r_ldc2 (pc := 950) (v := 4294967295) dL_law_950 ww_1915 ?_
      refine r_land (pc := 953) dL_law_953 ?_
      refine r_lor (pc := 954) dL_law_954 ?_
      refine r_aload_n (pc := 955) (i := 0) dL_law_955 rfl rfl ?_
      refine r_iload_n (pc := 956) (i := 3) dL_law_956 rfl rfl ?_
      refine r_iconst (pc := 957) (v := 4) dL_law_957 (by decide) ?_
      refine r_iadd (pc := 958) dL_law_958 ?_
      obtain ⟨i290, h⟩ := h
      refine r_sld (pc := 959) hX dL_law_959 i290 ?_
      refine r_i2l (pc := 960) dL_law_960 ?_
      refine r_bipush (pc := 961) (v := 32) dL_law_961 (by decide) ?_
      refine r_lshl (pc := 963) dL_law_963 ?_
      refine r_aload_n (pc := 964) (i := 0) dL_law_964 rfl rfl ?_
      refine r_iload_n (pc := 965) (i := 3) dL_law_965 rfl rfl ?_
      refine r_iconst (pc := 966) (v := 5) dL_law_966 (by decide) ?_
      refine r_iadd (pc := 967) dL_law_967 ?_
      obtain ⟨i291, h⟩ := h
      refine r_sld (pc := 968) hX dL_law_968 i291 ?_
      refine r_i2l (pc := 969) dL_law_969 ?_
      refine r_ldc2 (pc := 970) (v := 4294967295) dL_law_970 ww_1915 ?_
      refine r_land (pc := 973) dL_law_973 ?_
      refine r_lor (pc := 974) dL_law_974 ?_
      refine r_aload_n (pc := 975) (i := 0) dL_law_975 rfl rfl ?_
      refine r_iload_n (pc := 976) (i := 3) dL_law_976 rfl rfl ?_
      refine r_bipush (pc := 977) (v := 6) dL_law_977 (by decide) ?_
      refine r_iadd (pc := 979) dL_law_979 ?_
      obtain ⟨i292, h⟩ := h
      refine r_sld (pc := 980) hX dL_law_980 i292 ?_
      refine r_i2l (pc := 981) dL_law_981 ?_
      refine r_bipush (pc := 982) (v := 32) dL_law_982 (by decide) ?_
      refine r_lshl (pc := 984) dL_law_984 ?_
      refine r_aload_n (pc := 985) (i := 0) dL_law_985 rfl rfl ?_
      refine r_iload_n (pc := 986) (i := 3) dL_law_986 rfl rfl ?_
      refine r_bipush (pc := 987) (v := 7) dL_law_987 (by decide) ?_
      refine r_iadd (pc := 989) dL_law_989 ?_
      obtain ⟨i293, h⟩ := h
      refine r_sld (pc := 990) hX dL_law_990 i293 ?_
      refine r_i2l (pc := 991) dL_law_991 ?_
      refine r_ldc2 (pc := 992) (v := 4294967295) dL_law_992 ww_1915 ?_
      refine r_land (pc := 995) dL_law_995 ?_
      refine r_lor (pc := 996) dL_law_996 ?_
      obtain ⟨k294, h⟩ := h
      refine r_callV (pc := 997) (ci := 12) (as := [_, _, _, _]) (st := [_]) okX12_holds lkL_102 inX12_holds seX12_holds ⟨_, rfl, rfl⟩ dL_law_997 rfl k294 (Nat.le_of_ble_eq_true rfl) (Nat.zero_le _) (Nat.zero_le _) (Call.mono h (fun r295 M296 h => ?_))
      obtain ⟨v297, rfl, h⟩ := h
      refine r_icmp_eq (pc := 1000) (tgt := 1312) dL_law_1000 (by decide) (fun c298 => ?_) (fun c298 => ?_)
      · replace h := h.1 c298
        refine r_iinc (pc := 1312) (i := 3) (v := _ + 8) dL_law_1312 rfl rfl rfl ?_
        refine r_goto (pc := 1315) (tgt := 18) dL_law_1315 (by decide) ?_
        exact h
      · replace h := h.2 c298
        refine r_iconst (pc := 1003) (v := 0) dL_law_1003 (by decide) ?_
        exact r_zret (pc := 1004) dL_law_1004 rfl (Or.inl rfl) h
    refine dite (((xs x3.toNatClampNeg) &&& 31) = 20) (fun c299 => ?_) (fun c299 => ?_)
    · replace h := h.2.2.2.2.2.2.2.2.2.2.2.2.2.2.2.2.2.2.2.2.1 c299
      refine r_tabIn (pc := 33) (tgt := 1005) dL_law_33 (by rw [c299]; decide) (by rw [c299]; decide) (by rw [c299]; rfl) (by decide) ?_
      refine r_aload_n (pc := 1005) (i := 1) dL_law_1005 rfl rfl ?_
      refine r_aload_n (pc := 1006) (i := 0) dL_law_1006 rfl rfl ?_
      refine r_iload_n (pc := 1007) (i := 3) dL_law_1007 rfl rfl ?_
      refine r_iconst (pc := 1008) (v := 1) dL_law_1008 (by decide) ?_
      refine r_iadd (pc := 1009) dL_law_1009 ?_
      obtain ⟨i300, h⟩ := h
      refine r_sld (pc := 1010) hX dL_law_1010 i300 ?_
      refine r_aload_n (pc := 1011) (i := 0) dL_law_1011 rfl rfl ?_
      refine r_iload_n (pc := 1012) (i := 3) dL_law_1012 rfl rfl ?_
      refine r_iconst (pc := 1013) (v := 2) dL_law_1013 (by decide) ?_
      refine r_iadd (pc := 1014) dL_law_1014 ?_
      obtain ⟨i301, h⟩ := h
      refine r_sld (pc := 1015) hX dL_law_1015 i301 ?_
      refine r_i2l (pc := 1016) dL_law_1016 ?_
      refine r_bipush (pc := 1017) (v := 32) dL_law_1017 (by decide) ?_
      refine r_lshl (pc := 1019) dL_law_1019 ?_
      refine r_aload_n (pc := 1020) (i := 0) dL_law_1020 rfl rfl ?_
      refine r_iload_n (pc := 1021) (i := 3) dL_law_1021 rfl rfl ?_
      refine r_iconst (pc := 1022) (v := 3) dL_law_1022 (by decide) ?_
      refine r_iadd (pc := 1023) dL_law_1023 ?_
      obtain ⟨i302, h⟩ := h
      refine r_sld (pc := 1024) hX dL_law_1024 i302 ?_
      refine r_i2l (pc := 1025) dL_law_1025 ?_
      refine r_ldc2 (pc := 1026) (v := 4294967295) dL_law_1026 ww_1915 ?_
      refine r_land (pc := 1029) dL_law_1029 ?_
      refine r_lor (pc := 1030) dL_law_1030 ?_
      obtain ⟨k303, h⟩ := h
      refine r_callV (pc := 1031) (ci := 11) (as := [_, _]) (st := []) okX11_next lkL_103 inX11_next seX11_next ⟨_, rfl, rfl⟩ dL_law_1031 rfl k303 (Nat.le_of_ble_eq_true rfl) (Nat.zero_le _) (Nat.zero_le _) (Call.mono h (fun r304 M305 h => ?_))
      obtain ⟨v306, rfl, h⟩ := h
      refine r_aload_n (pc := 1034) (i := 2) dL_law_1034 rfl rfl ?_
      refine r_aload_n (pc := 1035) (i := 0) dL_law_1035 rfl rfl ?_
      refine r_iload_n (pc := 1036) (i := 3) dL_law_1036 rfl rfl ?_
      refine r_iconst (pc := 1037) (v := 1) dL_law_1037 (by decide) ?_
      refine r_iadd (pc := 1038) dL_law_1038 ?_
      obtain ⟨i307, h⟩ := h
      refine r_sld (pc := 1039) hX dL_law_1039 i307 ?_
      refine r_aload_n (pc := 1040) (i := 0) dL_law_1040 rfl rfl ?_
      refine r_iload_n (pc := 1041) (i := 3) dL_law_1041 rfl rfl ?_
      refine r_iconst (pc := 1042) (v := 2) dL_law_1042 (by decide) ?_
      refine r_iadd (pc := 1043) dL_law_1043 ?_
      obtain ⟨i308, h⟩ := h
      refine r_sld (pc := 1044) hX dL_law_1044 i308 ?_
      refine r_i2l (pc := 1045) dL_law_1045 ?_
      refine r_bipush (pc := 1046) (v := 32) dL_law_1046 (by decide) ?_
      refine r_lshl (pc := 1048) dL_law_1048 ?_
      refine r_aload_n (pc := 1049) (i := 0) dL_law_1049 rfl rfl ?_
      refine r_iload_n (pc := 1050) (i := 3) dL_law_1050 rfl rfl ?_
      refine r_iconst (pc := 1051) (v := 3) dL_law_1051 (by decide) ?_
      refine r_iadd (pc := 1052) dL_law_1052 ?_
      obtain ⟨i309, h⟩ := h
      refine r_sld (pc := 1053) hX dL_law_1053 i309 ?_
      refine r_i2l (pc := 1054) dL_law_1054 ?_
      refine r_ldc2 (pc := 1055) (v := 4294967295) dL_law_1055 ww_1915 ?_
      refine r_land (pc := 1058) dL_law_1058 ?_
      refine r_lor (pc := 1059) dL_law_1059 ?_
      obtain ⟨k310, h⟩ := h
      refine r_callV (pc := 1060) (ci := 12) (as := [_, _]) (st := [_]) okX12_next_ lkL_107 inX12_next_ seX12_next_ ⟨_, rfl, rfl⟩ dL_law_1060 rfl k310 (Nat.le_of_ble_eq_true rfl) (Nat.zero_le _) (Nat.zero_le _) (Call.mono h (fun r311 M312 h => ?_))
      obtain ⟨v313, rfl, h⟩ := h
      refine r_lcmp (pc := 1063) dL_law_1063 ?_
      refine r_if_eq (pc := 1064) (tgt := 1312) dL_law_1064 (by decide) (fun c314 => ?_) (fun c314 => ?_)
      · replace h := h.1 c314
        refine r_iinc (pc := 1312) (i := 3) (v := _ + 8) dL_law_1312 rfl rfl rfl ?_
        refine r_goto (pc := 1315) (tgt := 18) dL_law_1315 (by decide) ?_
        exact h
      · replace h := h.2 c314
        refine r_iconst (pc := 1067) (v := 0) dL_law_1067 (by decide) ?_
        exact r_zret (pc := 1068) dL_law_1068 rfl (Or.inl rfl) h
    refine dite (((xs x3.toNatClampNeg) &&& 31) = 21) (fun c315 => ?_) (fun c315 => ?_)
    · replace h := h.2.2.2.2.2.2.2.2.2.2.2.2.2.2.2.2.2.2.2.2.2.1 c315
      refine r_tabIn (pc := 33) (tgt := 1069) dL_law_33 (by rw [c315]; decide) (by rw [c315]; decide) (by rw [c315]; rfl) (by decide) ?_
      refine r_aload_n (pc := 1069) (i := 1) dL_law_1069 rfl rfl ?_
      refine r_aload_n (pc := 1070) (i := 0) dL_law_1070 rfl rfl ?_
      refine r_iload_n (pc := 1071) (i := 3) dL_law_1071 rfl rfl ?_
      refine r_iconst (pc := 1072) (v := 1) dL_law_1072 (by decide) ?_
      refine r_iadd (pc := 1073) dL_law_1073 ?_
      obtain ⟨i316, h⟩ := h
      refine r_sld (pc := 1074) hX dL_law_1074 i316 ?_
      obtain ⟨k317, h⟩ := h
      refine r_callV (pc := 1075) (ci := 11) (as := [_]) (st := []) okX11_many lkL_108 inX11_many seX11_many ⟨_, rfl, rfl⟩ dL_law_1075 rfl k317 (Nat.le_of_ble_eq_true rfl) (Nat.zero_le _) (Nat.zero_le _) (Call.mono h (fun r318 M319 h => ?_))
      obtain ⟨v320, rfl, h⟩ := h
      refine r_aload_n (pc := 1078) (i := 2) dL_law_1078 rfl rfl ?_
      refine r_aload_n (pc := 1079) (i := 0) dL_law_1079 rfl rfl ?_
      refine r_iload_n (pc := 1080) (i := 3) dL_law_1080 rfl rfl ?_
      refine r_iconst (pc := 1081) (v := 1) dL_law_1081 (by decide) ?_
      refine r_iadd (pc := 1082) dL_law_1082 ?_
      obtain ⟨i321, h⟩ := h
      refine r_sld (pc := 1083) hX dL_law_1083 i321 ?_
      obtain ⟨k322, h⟩ := h
      refine r_callV (pc := 1084) (ci := 12) (as := [_]) (st := [_]) okX12_many lkL_112 inX12_many seX12_many ⟨_, rfl, rfl⟩ dL_law_1084 rfl k322 (Nat.le_of_ble_eq_true rfl) (Nat.zero_le _) (Nat.zero_le _) (Call.mono h (fun r323 M324 h => ?_))
      obtain ⟨v325, rfl, h⟩ := h
      refine r_lcmp (pc := 1087) dL_law_1087 ?_
      refine r_if_eq (pc := 1088) (tgt := 1312) dL_law_1088 (by decide) (fun c326 => ?_) (fun c326 => ?_)
      · replace h := h.1 c326
        refine r_iinc (pc := 1312) (i := 3) (v := _ + 8) dL_law_1312 rfl rfl rfl ?_
        refine r_goto (pc := 1315) (tgt := 18) dL_law_1315 (by decide) ?_
        exact h
      · replace h := h.2 c326
        refine r_iconst (pc := 1091) (v := 0) dL_law_1091 (by decide) ?_
        exact r_zret (pc := 1092) dL_law_1092 rfl (Or.inl rfl) h
    refine dite (((xs x3.toNatClampNeg) &&& 31) = 22) (fun c327 => ?_) (fun c327 => ?_)
    · replace h := h.2.2.2.2.2.2.2.2.2.2.2.2.2.2.2.2.2.2.2.2.2.2.1 c327
      refine r_tabIn (pc := 33) (tgt := 1093) dL_law_33 (by rw [c327]; decide) (by rw [c327]; decide) (by rw [c327]; rfl) (by decide) ?_
      refine r_aload_n (pc := 1093) (i := 1) dL_law_1093 rfl rfl ?_
      refine r_aload_n (pc := 1094) (i := 0) dL_law_1094 rfl rfl ?_
      refine r_iload_n (pc := 1095) (i := 3) dL_law_1095 rfl rfl ?_
      refine r_iconst (pc := 1096) (v := 1) dL_law_1096 (by decide) ?_
      refine r_iadd (pc := 1097) dL_law_1097 ?_
      obtain ⟨i328, h⟩ := h
      refine r_sld (pc := 1098) hX dL_law_1098 i328 ?_
      refine r_aload_n (pc := 1099) (i := 0) dL_law_1099 rfl rfl ?_
      refine r_iload_n (pc := 1100) (i := 3) dL_law_1100 rfl rfl ?_
      refine r_iconst (pc := 1101) (v := 2) dL_law_1101 (by decide) ?_
      refine r_iadd (pc := 1102) dL_law_1102 ?_
      obtain ⟨i329, h⟩ := h
      refine r_sld (pc := 1103) hX dL_law_1103 i329 ?_
      refine r_i2l (pc := 1104) dL_law_1104 ?_
      refine r_bipush (pc := 1105) (v := 32) dL_law_1105 (by decide) ?_
      refine r_lshl (pc := 1107) dL_law_1107 ?_
      refine r_aload_n (pc := 1108) (i := 0) dL_law_1108 rfl rfl ?_
      refine r_iload_n (pc := 1109) (i := 3) dL_law_1109 rfl rfl ?_
      refine r_iconst (pc := 1110) (v := 3) dL_law_1110 (by decide) ?_
      refine r_iadd (pc := 1111) dL_law_1111 ?_
      obtain ⟨i330, h⟩ := h
      refine r_sld (pc := 1112) hX dL_law_1112 i330 ?_
      refine r_i2l (pc := 1113) dL_law_1113 ?_
      refine r_ldc2 (pc := 1114) (v := 4294967295) dL_law_1114 ww_1915 ?_
      refine r_land (pc := 1117) dL_law_1117 ?_
      refine r_lor (pc := 1118) dL_law_1118 ?_
      obtain ⟨k331, h⟩ := h
      refine r_callV (pc := 1119) (ci := 11) (as := [_, _]) (st := []) okX11_values lkL_113 inX11_values seX11_values ⟨_, rfl, rfl⟩ dL_law_1119 rfl k331 (Nat.le_of_ble_eq_true rfl) (Nat.zero_le _) (Nat.zero_le _) (Call.mono h (fun r332 M333 h => ?_))
      obtain ⟨v334, rfl, h⟩ := h
      refine r_aload_n (pc := 1122) (i := 2) dL_law_1122 rfl rfl ?_
      refine r_aload_n (pc := 1123) (i := 0) dL_law_1123 rfl rfl ?_
      refine r_iload_n (pc := 1124) (i := 3) dL_law_1124 rfl rfl ?_
      refine r_iconst (pc := 1125) (v := 1) dL_law_1125 (by decide) ?_
      refine r_iadd (pc := 1126) dL_law_1126 ?_
      obtain ⟨i335, h⟩ := h
      refine r_sld (pc := 1127) hX dL_law_1127 i335 ?_
      refine r_aload_n (pc := 1128) (i := 0) dL_law_1128 rfl rfl ?_
      refine r_iload_n (pc := 1129) (i := 3) dL_law_1129 rfl rfl ?_
      refine r_iconst (pc := 1130) (v := 2) dL_law_1130 (by decide) ?_
      refine r_iadd (pc := 1131) dL_law_1131 ?_
      obtain ⟨i336, h⟩ := h
      refine r_sld (pc := 1132) hX dL_law_1132 i336 ?_
      refine r_i2l (pc := 1133) dL_law_1133 ?_
      refine r_bipush (pc := 1134) (v := 32) dL_law_1134 (by decide) ?_
      refine r_lshl (pc := 1136) dL_law_1136 ?_
      refine r_aload_n (pc := 1137) (i := 0) dL_law_1137 rfl rfl ?_
      refine r_iload_n (pc := 1138) (i := 3) dL_law_1138 rfl rfl ?_
      refine r_iconst (pc := 1139) (v := 3) dL_law_1139 (by decide) ?_
      refine r_iadd (pc := 1140) dL_law_1140 ?_
      obtain ⟨i337, h⟩ := h
      refine r_sld (pc := 1141) hX dL_law_1141 i337 ?_
      refine r_i2l (pc := 1142) dL_law_1142 ?_
      refine r_ldc2 (pc := 1143) (v := 4294967295) dL_law_1143 ww_1915 ?_
      refine r_land (pc := 1146) dL_law_1146 ?_
      refine r_lor (pc := 1147) dL_law_1147 ?_
      obtain ⟨k338, h⟩ := h
      refine r_callV (pc := 1148) (ci := 12) (as := [_, _]) (st := [_]) okX12_values lkL_116 inX12_values seX12_values ⟨_, rfl, rfl⟩ dL_law_1148 rfl k338 (Nat.le_of_ble_eq_true rfl) (Nat.zero_le _) (Nat.zero_le _) (Call.mono h (fun r339 M340 h => ?_))
      obtain ⟨v341, rfl, h⟩ := h
      refine r_lcmp (pc := 1151) dL_law_1151 ?_
      refine r_if_eq (pc := 1152) (tgt := 1312) dL_law_1152 (by decide) (fun c342 => ?_) (fun c342 => ?_)
      · replace h := h.1 c342
        refine r_iinc (pc := 1312) (i := 3) (v := _ + 8) dL_law_1312 rfl rfl rfl ?_
        refine r_goto (pc := 1315) (tgt := 18) dL_law_1315 (by decide) ?_
        exact h
      · replace h := h.2 c342
        refine r_iconst (pc := 1155) (v := 0) dL_law_1155 (by decide) ?_
        exact r_zret (pc := 1156) dL_law_1156 rfl (Or.inl rfl) h
    refine dite (((xs x3.toNatClampNeg) &&& 31) = 23) (fun c343 => ?_) (fun c343 => ?_)
    · replace h := h.2.2.2.2.2.2.2.2.2.2.2.2.2.2.2.2.2.2.2.2.2.2.2.1 c343
      refine r_tabIn (pc := 33) (tgt := 1157) dL_law_33 (by rw [c343]; decide) (by rw [c343]; decide) (by rw [c343]; rfl) (by decide) ?_
      refine r_aload_n (pc := 1157) (i := 1) dL_law_1157 rfl rfl ?_
      refine r_aload_n (pc := 1158) (i := 0) dL_law_1158 rfl rfl ?_
      refine r_iload_n (pc := 1159) (i := 3) dL_law_1159 rfl rfl ?_
      refine r_iconst (pc := 1160) (v := 1) dL_law_1160 (by decide) ?_
      refine r_iadd (pc := 1161) dL_law_1161 ?_
      obtain ⟨i344, h⟩ := h
      refine r_sld (pc := 1162) hX dL_law_1162 i344 ?_
      refine r_aload_n (pc := 1163) (i := 0) dL_law_1163 rfl rfl ?_
      refine r_iload_n (pc := 1164) (i := 3) dL_law_1164 rfl rfl ?_
      refine r_iconst (pc := 1165) (v := 2) dL_law_1165 (by decide) ?_
      refine r_iadd (pc := 1166) dL_law_1166 ?_
      obtain ⟨i345, h⟩ := h
      refine r_sld (pc := 1167) hX dL_law_1167 i345 ?_
      obtain ⟨k346, h⟩ := h
      refine r_callV (pc := 1168) (ci := 11) (as := [_, _]) (st := []) okX11_alike lkL_117 inX11_alike seX11_alike ⟨_, rfl, rfl⟩ dL_law_1168 rfl k346 (Nat.le_of_ble_eq_true rfl) (Nat.zero_le _) (Nat.zero_le _) (Call.mono h (fun r347 M348 h => ?_))
      obtain ⟨v349, rfl, h⟩ := h
      refine r_aload_n (pc := 1171) (i := 2) dL_law_1171 rfl rfl ?_
      refine r_aload_n (pc := 1172) (i := 0) dL_law_1172 rfl rfl ?_
      refine r_iload_n (pc := 1173) (i := 3) dL_law_1173 rfl rfl ?_
      refine r_iconst (pc := 1174) (v := 1) dL_law_1174 (by decide) ?_
      refine r_iadd (pc := 1175) dL_law_1175 ?_
      obtain ⟨i350, h⟩ := h
      refine r_sld (pc := 1176) hX dL_law_1176 i350 ?_
      refine r_aload_n (pc := 1177) (i := 0) dL_law_1177 rfl rfl ?_
      refine r_iload_n (pc := 1178) (i := 3) dL_law_1178 rfl rfl ?_
      refine r_iconst (pc := 1179) (v := 2) dL_law_1179 (by decide) ?_
      refine r_iadd (pc := 1180) dL_law_1180 ?_
      obtain ⟨i351, h⟩ := h
      refine r_sld (pc := 1181) hX dL_law_1181 i351 ?_
      obtain ⟨k352, h⟩ := h
      refine r_callV (pc := 1182) (ci := 12) (as := [_, _]) (st := [_]) okX12_alike lkL_120 inX12_alike seX12_alike ⟨_, rfl, rfl⟩ dL_law_1182 rfl k352 (Nat.le_of_ble_eq_true rfl) (Nat.zero_le _) (Nat.zero_le _) (Call.mono h (fun r353 M354 h => ?_))
      obtain ⟨v355, rfl, h⟩ := h
      refine r_icmp_eq (pc := 1185) (tgt := 1312) dL_law_1185 (by decide) (fun c356 => ?_) (fun c356 => ?_)
      · replace h := h.1 c356
        refine r_iinc (pc := 1312) (i := 3) (v := _ + 8) dL_law_1312 rfl rfl rfl ?_
        refine r_goto (pc := 1315) (tgt := 18) dL_law_1315 (by decide) ?_
        exact h
      · replace h := h.2 c356
        refine r_iconst (pc := 1188) (v := 0) dL_law_1188 (by decide) ?_
        exact r_zret (pc := 1189) dL_law_1189 rfl (Or.inl rfl) h
    refine dite (((xs x3.toNatClampNeg) &&& 31) = 24) (fun c357 => ?_) (fun c357 => ?_)
    · replace h := h.2.2.2.2.2.2.2.2.2.2.2.2.2.2.2.2.2.2.2.2.2.2.2.2.1 c357
      refine r_tabIn (pc := 33) (tgt := 1190) dL_law_33 (by rw [c357]; decide) (by rw [c357]; decide) (by rw [c357]; rfl) (by decide) ?_
      refine r_aload_n (pc := 1190) (i := 1) dL_law_1190 rfl rfl ?_
      refine r_aload_n (pc := 1191) (i := 0) dL_law_1191 rfl rfl ?_
      refine r_iload_n (pc := 1192) (i := 3) dL_law_1192 rfl rfl ?_
      refine r_iconst (pc := 1193) (v := 1) dL_law_1193 (by decide) ?_
      refine r_iadd (pc := 1194) dL_law_1194 ?_
      obtain ⟨i358, h⟩ := h
      refine r_sld (pc := 1195) hX dL_law_1195 i358 ?_
      refine r_aload_n (pc := 1196) (i := 0) dL_law_1196 rfl rfl ?_
      refine r_iload_n (pc := 1197) (i := 3) dL_law_1197 rfl rfl ?_
      refine r_iconst (pc := 1198) (v := 2) dL_law_1198 (by decide) ?_
      refine r_iadd (pc := 1199) dL_law_1199 ?_
      obtain ⟨i359, h⟩ := h
      refine r_sld (pc := 1200) hX dL_law_1200 i359 ?_
      refine r_aload_n (pc := 1201) (i := 0) dL_law_1201 rfl rfl ?_
      refine r_iload_n (pc := 1202) (i := 3) dL_law_1202 rfl rfl ?_
      refine r_iconst (pc := 1203) (v := 3) dL_law_1203 (by decide) ?_
      refine r_iadd (pc := 1204) dL_law_1204 ?_
      obtain ⟨i360, h⟩ := h
      refine r_sld (pc := 1205) hX dL_law_1205 i360 ?_
      obtain ⟨k361, h⟩ := h
      refine r_callV (pc := 1206) (ci := 11) (as := [_, _, _]) (st := []) okX11_act lkL_121 inX11_act seX11_act ⟨_, rfl, rfl⟩ dL_law_1206 rfl k361 (Nat.le_of_ble_eq_true rfl) (Nat.zero_le _) (Nat.zero_le _) (Call.mono h (fun r362 M363 h => ?_))
      obtain ⟨v364, rfl, h⟩ := h
      refine r_aload_n (pc := 1209) (i := 2) dL_law_1209 rfl rfl ?_
      refine r_aload_n (pc := 1210) (i := 0) dL_law_1210 rfl rfl ?_
      refine r_iload_n (pc := 1211) (i := 3) dL_law_1211 rfl rfl ?_
      refine r_iconst (pc := 1212) (v := 1) dL_law_1212 (by decide) ?_
      refine r_iadd (pc := 1213) dL_law_1213 ?_
      obtain ⟨i365, h⟩ := h
      refine r_sld (pc := 1214) hX dL_law_1214 i365 ?_
      refine r_aload_n (pc := 1215) (i := 0) dL_law_1215 rfl rfl ?_
      refine r_iload_n (pc := 1216) (i := 3) dL_law_1216 rfl rfl ?_
      refine r_iconst (pc := 1217) (v := 2) dL_law_1217 (by decide) ?_
      refine r_iadd (pc := 1218) dL_law_1218 ?_
      obtain ⟨i366, h⟩ := h
      refine r_sld (pc := 1219) hX dL_law_1219 i366 ?_
      refine r_aload_n (pc := 1220) (i := 0) dL_law_1220 rfl rfl ?_
      refine r_iload_n (pc := 1221) (i := 3) dL_law_1221 rfl rfl ?_
      refine r_iconst (pc := 1222) (v := 3) dL_law_1222 (by decide) ?_
      refine r_iadd (pc := 1223) dL_law_1223 ?_
      obtain ⟨i367, h⟩ := h
      refine r_sld (pc := 1224) hX dL_law_1224 i367 ?_
      obtain ⟨k368, h⟩ := h
      refine r_callV (pc := 1225) (ci := 12) (as := [_, _, _]) (st := [_]) okX12_act lkL_124 inX12_act seX12_act ⟨_, rfl, rfl⟩ dL_law_1225 rfl k368 (Nat.le_of_ble_eq_true rfl) (Nat.zero_le _) (Nat.zero_le _) (Call.mono h (fun r369 M370 h => ?_))
      obtain ⟨v371, rfl, h⟩ := h
      refine r_icmp_eq (pc := 1228) (tgt := 1312) dL_law_1228 (by decide) (fun c372 => ?_) (fun c372 => ?_)
      · replace h := h.1 c372
        refine r_iinc (pc := 1312) (i := 3) (v := _ + 8) dL_law_1312 rfl rfl rfl ?_
        refine r_goto (pc := 1315) (tgt := 18) dL_law_1315 (by decide) ?_
        exact h
      · replace h := h.2 c372
        refine r_iconst (pc := 1231) (v := 0) dL_law_1231 (by decide) ?_
        exact r_zret (pc := 1232) dL_law_1232 rfl (Or.inl rfl) h
    refine dite (((xs x3.toNatClampNeg) &&& 31) = 25) (fun c373 => ?_) (fun c373 => ?_)
    · replace h := h.2.2.2.2.2.2.2.2.2.2.2.2.2.2.2.2.2.2.2.2.2.2.2.2.2.1 c373
      refine r_tabIn (pc := 33) (tgt := 1233) dL_law_33 (by rw [c373]; decide) (by rw [c373]; decide) (by rw [c373]; rfl) (by decide) ?_
      refine r_aload_n (pc := 1233) (i := 1) dL_law_1233 rfl rfl ?_
      refine r_aload_n (pc := 1234) (i := 0) dL_law_1234 rfl rfl ?_
      refine r_iload_n (pc := 1235) (i := 3) dL_law_1235 rfl rfl ?_
      refine r_iconst (pc := 1236) (v := 1) dL_law_1236 (by decide) ?_
      refine r_iadd (pc := 1237) dL_law_1237 ?_
      obtain ⟨i374, h⟩ := h
      refine r_sld (pc := 1238) hX dL_law_1238 i374 ?_
      obtain ⟨k375, h⟩ := h
      refine r_callV (pc := 1239) (ci := 11) (as := [_]) (st := []) okX11_trace lkL_125 inX11_trace seX11_trace ⟨_, rfl, rfl⟩ dL_law_1239 rfl k375 (Nat.le_of_ble_eq_true rfl) (Nat.zero_le _) (Nat.zero_le _) (Call.mono h (fun r376 M377 h => ?_))
      obtain ⟨v378, rfl, h⟩ := h
      refine r_aload_n (pc := 1242) (i := 2) dL_law_1242 rfl rfl ?_
      refine r_aload_n (pc := 1243) (i := 0) dL_law_1243 rfl rfl ?_
      refine r_iload_n (pc := 1244) (i := 3) dL_law_1244 rfl rfl ?_
      refine r_iconst (pc := 1245) (v := 1) dL_law_1245 (by decide) ?_
      refine r_iadd (pc := 1246) dL_law_1246 ?_
      obtain ⟨i379, h⟩ := h
      refine r_sld (pc := 1247) hX dL_law_1247 i379 ?_
      obtain ⟨k380, h⟩ := h
      refine r_callV (pc := 1248) (ci := 12) (as := [_]) (st := [_]) okX12_trace lkL_128 inX12_trace seX12_trace ⟨_, rfl, rfl⟩ dL_law_1248 rfl k380 (Nat.le_of_ble_eq_true rfl) (Nat.zero_le _) (Nat.zero_le _) (Call.mono h (fun r381 M382 h => ?_))
      obtain ⟨v383, rfl, h⟩ := h
      refine r_icmp_eq (pc := 1251) (tgt := 1312) dL_law_1251 (by decide) (fun c384 => ?_) (fun c384 => ?_)
      · replace h := h.1 c384
        refine r_iinc (pc := 1312) (i := 3) (v := _ + 8) dL_law_1312 rfl rfl rfl ?_
        refine r_goto (pc := 1315) (tgt := 18) dL_law_1315 (by decide) ?_
        exact h
      · replace h := h.2 c384
        refine r_iconst (pc := 1254) (v := 0) dL_law_1254 (by decide) ?_
        exact r_zret (pc := 1255) dL_law_1255 rfl (Or.inl rfl) h
    refine dite (((xs x3.toNatClampNeg) &&& 31) = 26) (fun c385 => ?_) (fun c385 => ?_)
    · replace h := h.2.2.2.2.2.2.2.2.2.2.2.2.2.2.2.2.2.2.2.2.2.2.2.2.2.2.1 c385
      refine r_tabIn (pc := 33) (tgt := 1256) dL_law_33 (by rw [c385]; decide) (by rw [c385]; decide) (by rw [c385]; rfl) (by decide) ?_
      refine r_aload_n (pc := 1256) (i := 1) dL_law_1256 rfl rfl ?_
      refine r_aload_n (pc := 1257) (i := 0) dL_law_1257 rfl rfl ?_
      refine r_iload_n (pc := 1258) (i := 3) dL_law_1258 rfl rfl ?_
      refine r_iconst (pc := 1259) (v := 1) dL_law_1259 (by decide) ?_
      refine r_iadd (pc := 1260) dL_law_1260 ?_
      obtain ⟨i386, h⟩ := h
      refine r_sld (pc := 1261) hX dL_law_1261 i386 ?_
      refine r_aload_n (pc := 1262) (i := 0) dL_law_1262 rfl rfl ?_
      refine r_iload_n (pc := 1263) (i := 3) dL_law_1263 rfl rfl ?_
      refine r_iconst (pc := 1264) (v := 2) dL_law_1264 (by decide) ?_
      refine r_iadd (pc := 1265) dL_law_1265 ?_
      obtain ⟨i387, h⟩ := h
      refine r_sld (pc := 1266) hX dL_law_1266 i387 ?_
      refine r_aload_n (pc := 1267) (i := 0) dL_law_1267 rfl rfl ?_
      refine r_iload_n (pc := 1268) (i := 3) dL_law_1268 rfl rfl ?_
      refine r_iconst (pc := 1269) (v := 3) dL_law_1269 (by decide) ?_
      refine r_iadd (pc := 1270) dL_law_1270 ?_
      obtain ⟨i388, h⟩ := h
      refine r_sld (pc := 1271) hX dL_law_1271 i388 ?_
      obtain ⟨k389, h⟩ := h
      refine r_callV (pc := 1272) (ci := 11) (as := [_, _, _]) (st := []) okX11_forge lkL_129 inX11_forge seX11_forge ⟨_, rfl, rfl⟩ dL_law_1272 rfl k389 (Nat.le_of_ble_eq_true rfl) (Nat.zero_le _) (Nat.zero_le _) (Call.mono h (fun r390 M391 h => ?_))
      obtain ⟨v392, rfl, h⟩ := h
      refine r_aload_n (pc := 1275) (i := 2) dL_law_1275 rfl rfl ?_
      refine r_aload_n (pc := 1276) (i := 0) dL_law_1276 rfl rfl ?_
      refine r_iload_n (pc := 1277) (i := 3) dL_law_1277 rfl rfl ?_
      refine r_iconst (pc := 1278) (v := 1) dL_law_1278 (by decide) ?_
      refine r_iadd (pc := 1279) dL_law_1279 ?_
      obtain ⟨i393, h⟩ := h
      refine r_sld (pc := 1280) hX dL_law_1280 i393 ?_
      refine r_aload_n (pc := 1281) (i := 0) dL_law_1281 rfl rfl ?_
      refine r_iload_n (pc := 1282) (i := 3) dL_law_1282 rfl rfl ?_
      refine r_iconst (pc := 1283) (v := 2) dL_law_1283 (by decide) ?_
      refine r_iadd (pc := 1284) dL_law_1284 ?_
      obtain ⟨i394, h⟩ := h
      refine r_sld (pc := 1285) hX dL_law_1285 i394 ?_
      refine r_aload_n (pc := 1286) (i := 0) dL_law_1286 rfl rfl ?_
      refine r_iload_n (pc := 1287) (i := 3) dL_law_1287 rfl rfl ?_
      refine r_iconst (pc := 1288) (v := 3) dL_law_1288 (by decide) ?_
      refine r_iadd (pc := 1289) dL_law_1289 ?_
      obtain ⟨i395, h⟩ := h
      refine r_sld (pc := 1290) hX dL_law_1290 i395 ?_
      obtain ⟨k396, h⟩ := h
      refine r_callV (pc := 1291) (ci := 12) (as := [_, _, _]) (st := [_]) okX12_forge lkL_132 inX12_forge seX12_forge ⟨_, rfl, rfl⟩ dL_law_1291 rfl k396 (Nat.le_of_ble_eq_true rfl) (Nat.zero_le _) (Nat.zero_le _) (Call.mono h (fun r397 M398 h => ?_))
      obtain ⟨v399, rfl, h⟩ := h
      refine r_icmp_eq (pc := 1294) (tgt := 1312) dL_law_1294 (by decide) (fun c400 => ?_) (fun c400 => ?_)
      · replace h := h.1 c400
        refine r_iinc (pc := 1312) (i := 3) (v := _ + 8) dL_law_1312 rfl rfl rfl ?_
        refine r_goto (pc := 1315) (tgt := 18) dL_law_1315 (by decide) ?_
        exact h
      · replace h := h.2 c400
        refine r_iconst (pc := 1297) (v := 0) dL_law_1297 (by decide) ?_
        exact r_zret (pc := 1298) dL_law_1298 rfl (Or.inl rfl) h
    refine dite (((xs x3.toNatClampNeg) &&& 31) = 27) (fun c401 => ?_) (fun c401 => ?_)
    · replace h := h.2.2.2.2.2.2.2.2.2.2.2.2.2.2.2.2.2.2.2.2.2.2.2.2.2.2.2.1 c401
      refine r_tabIn (pc := 33) (tgt := 1299) dL_law_33 (by rw [c401]; decide) (by rw [c401]; decide) (by rw [c401]; rfl) (by decide) ?_
      refine r_aload_n (pc := 1299) (i := 1) dL_law_1299 rfl rfl ?_
      obtain ⟨k402, h⟩ := h
      refine r_callV (pc := 1300) (ci := 11) (as := []) (st := []) okX11_status lkL_133 inX11_status seX11_status ⟨_, rfl, rfl⟩ dL_law_1300 rfl k402 (Nat.le_of_ble_eq_true rfl) (Nat.zero_le _) (Nat.zero_le _) (Call.mono h (fun r403 M404 h => ?_))
      obtain ⟨v405, rfl, h⟩ := h
      refine r_aload_n (pc := 1303) (i := 2) dL_law_1303 rfl rfl ?_
      obtain ⟨k406, h⟩ := h
      refine r_callV (pc := 1304) (ci := 12) (as := []) (st := [_]) okX12_status lkL_136 inX12_status seX12_status ⟨_, rfl, rfl⟩ dL_law_1304 rfl k406 (Nat.le_of_ble_eq_true rfl) (Nat.zero_le _) (Nat.zero_le _) (Call.mono h (fun r407 M408 h => ?_))
      obtain ⟨v409, rfl, h⟩ := h
      refine r_icmp_eq (pc := 1307) (tgt := 1312) dL_law_1307 (by decide) (fun c410 => ?_) (fun c410 => ?_)
      · replace h := h.1 c410
        refine r_iinc (pc := 1312) (i := 3) (v := _ + 8) dL_law_1312 rfl rfl rfl ?_
        refine r_goto (pc := 1315) (tgt := 18) dL_law_1315 (by decide) ?_
        exact h
      · replace h := h.2 c410
        refine r_iconst (pc := 1310) (v := 0) dL_law_1310 (by decide) ?_
        exact r_zret (pc := 1311) dL_law_1311 rfl (Or.inl rfl) h
    replace h := h.2.2.2.2.2.2.2.2.2.2.2.2.2.2.2.2.2.2.2.2.2.2.2.2.2.2.2.2 ⟨c3, c15, c31, c47, c65, c81, c99, c115, c127, c143, c153, c165, c177, c189, c205, c217, c231, c245, c261, c275, c299, c315, c327, c343, c357, c373, c385, c401⟩
    refine r_tabOut (pc := 33) (tgt := 1312) dL_law_33 (by have tc3 : ¬ Int32.toInt _ = 0 := sw_ne c3; have tc15 : ¬ Int32.toInt _ = 1 := sw_ne c15; have tc31 : ¬ Int32.toInt _ = 2 := sw_ne c31; have tc47 : ¬ Int32.toInt _ = 3 := sw_ne c47; have tc65 : ¬ Int32.toInt _ = 4 := sw_ne c65; have tc81 : ¬ Int32.toInt _ = 5 := sw_ne c81; have tc99 : ¬ Int32.toInt _ = 6 := sw_ne c99; have tc115 : ¬ Int32.toInt _ = 7 := sw_ne c115; have tc127 : ¬ Int32.toInt _ = 8 := sw_ne c127; have tc143 : ¬ Int32.toInt _ = 9 := sw_ne c143; have tc153 : ¬ Int32.toInt _ = 10 := sw_ne c153; have tc165 : ¬ Int32.toInt _ = 11 := sw_ne c165; have tc177 : ¬ Int32.toInt _ = 12 := sw_ne c177; have tc189 : ¬ Int32.toInt _ = 13 := sw_ne c189; have tc205 : ¬ Int32.toInt _ = 14 := sw_ne c205; have tc217 : ¬ Int32.toInt _ = 15 := sw_ne c217; have tc231 : ¬ Int32.toInt _ = 16 := sw_ne c231; have tc245 : ¬ Int32.toInt _ = 17 := sw_ne c245; have tc261 : ¬ Int32.toInt _ = 18 := sw_ne c261; have tc275 : ¬ Int32.toInt _ = 19 := sw_ne c275; have tc299 : ¬ Int32.toInt _ = 20 := sw_ne c299; have tc315 : ¬ Int32.toInt _ = 21 := sw_ne c315; have tc327 : ¬ Int32.toInt _ = 22 := sw_ne c327; have tc343 : ¬ Int32.toInt _ = 23 := sw_ne c343; have tc357 : ¬ Int32.toInt _ = 24 := sw_ne c357; have tc373 : ¬ Int32.toInt _ = 25 := sw_ne c373; have tc385 : ¬ Int32.toInt _ = 26 := sw_ne c385; have tc401 : ¬ Int32.toInt _ = 27 := sw_ne c401; omega) (by decide) ?_
    refine r_iinc (pc := 1312) (i := 3) (v := _ + 8) dL_law_1312 rfl rfl rfl ?_
    refine r_goto (pc := 1315) (tgt := 18) dL_law_1315 (by decide) ?_
    exact h
