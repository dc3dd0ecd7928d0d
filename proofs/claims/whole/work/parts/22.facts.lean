noncomputable def zB : tM := Classical.choose zex
noncomputable def zM1 : tM := Classical.choose (Classical.choose_spec zex)
theorem zex1 : zr1 = some (none, zB) ∧ tm_run zX0 1000 110 0 (tm_ent 110 [.ref 240]) [] (tm_new zB 11 73) = some (none, zM1) ∧ zchk zM1 = true := Classical.choose_spec (Classical.choose_spec zex)
noncomputable def zE : tE := zM1.1
noncomputable def zK : Nat → Nat × Nat := zE.2.2
noncomputable def zR0 : tR := zM1.2.2.2
noncomputable def zI0 : tI := zM1.2.1
noncomputable def zJ0 : tJ := zM1.2.2.1
theorem zchk_ok : (zE.1 = 288 ∧ zE.2.1 = 144445) ∧ (∀ o, o < 288 → zK o = zKL.getD o (0, 0)) ∧ (∀ q ∈ zRL, zR0 q.1 q.2.1 = some q.2.2) ∧ (∀ q ∈ zIL, zI0 q.1 q.2.1 = q.2.2) := by
  have h := zex1.2.2
  unfold zchk at h
  simp only [Bool.and_eq_true, decide_eq_true_eq] at h
  obtain ⟨⟨⟨⟨h1, h2⟩, h3⟩, h4⟩, h5⟩ := h
  refine ⟨⟨h1, h2⟩, fun o ho => ?_, fun q hq => ?_, fun q hq => ?_⟩
  · exact of_decide_eq_true (List.all_eq_true.mp h3 o (List.mem_range.mpr ho))
  · exact of_decide_eq_true (List.all_eq_true.mp h4 q hq)
  · exact of_decide_eq_true (List.all_eq_true.mp h5 q hq)
theorem zE1 : zE.1 = 288 := zchk_ok.1.1
theorem zkk (o : Nat) {q : Nat × Nat} (h : zKL[o]? = some q) : zK o = q := by
  have hl : zKL.length = 288 := by decide +kernel
  have ho : o < 288 := by rw [← hl]; exact (List.getElem?_eq_some_iff.mp h).1
  rw [zchk_ok.2.1 o ho, List.getD_eq_getElem?_getD, h]
  rfl
theorem zrr (i : Nat) {o k a : Nat} (h : zRL[i]? = some (o, k, a)) : zR0 o k = some a := zchk_ok.2.2.1 _ (List.mem_of_getElem? h)
theorem zii (i : Nat) {o k : Nat} {x : Int32} (h : zIL[i]? = some (o, k, x)) : zI0 o k = x := zchk_ok.2.2.2 _ (List.mem_of_getElem? h)
theorem zF_of {o c k n : Nat} (h : zK o = (c, n)) (ho : o < 288) (hk : k < n) : zF zE o c k = True := by
  have h2 : zE.2.2 o = (c, n) := h
  simp only [zF, zE1, h2, ho, hk, and_self]
theorem zC_of {o c n : Nat} (h : zK o = (c, n)) (ho : o < 288) : zC zE o c = True := by
  have h2 : zE.2.2 o = (c, n) := h
  simp only [zC, zE1, h2, ho, and_self]
theorem zA_of {o c n j : Nat} (h : zK o = (c, n)) (ho : o < 288) (hj : j < 2147483648) : zA zE o c (nI j) = (j < n) := by
  have h2 : zE.2.2 o = (c, n) := h
  have h3 : ¬ nI j < 0 := nI_pos hj
  simp only [zA, zE1, h2, ho, tm_out, true_and, decide_eq_false_iff_not, h3, false_or, nI_clamp hj, Nat.not_le]
theorem zA_no {o c c' n : Nat} {i : Int32} (h : zK o = (c, n)) (hc : c ≠ c') : zA zE o c' i = False := by
  have h2 : zE.2.2 o = (c, n) := h
  simp only [zA, h2, hc, false_and, and_false]
/-- the references, with the three that change: the reducer's two heaps, the tokens' tape -/
noncomputable def zR (hp sp tp : Nat) : tR := va_up (va_up zR0 207 (va_up (va_up (zR0 207) 2 (some hp)) 3 (some sp))) 3 (va_up (zR0 3) 0 (some tp))
theorem zR_ne {hp sp tp o k : Nat} (h1 : o ≠ 207) (h2 : o ≠ 3) : zR hp sp tp o k = zR0 o k := by simp only [zR, va_up, h1, h2, if_false]
theorem zR_207 {hp sp tp k : Nat} (h1 : k ≠ 2) (h2 : k ≠ 3) : zR hp sp tp 207 k = zR0 207 k := by simp [zR, va_up, h1, h2]
theorem zR_h {hp sp tp : Nat} : zR hp sp tp 207 2 = some hp := by simp [zR, va_up]
theorem zR_s {hp sp tp : Nat} : zR hp sp tp 207 3 = some sp := by simp [zR, va_up]
theorem zR_t {hp sp tp : Nat} : zR hp sp tp 3 0 = some tp := by simp [zR, va_up]
theorem zk_0 : zK 0 = (10, 18) := zkk 0 (by decide +kernel)
theorem zk_1 : zK 1 = (101, 4000) := zkk 1 (by decide +kernel)
theorem zk_2 : zK 2 = (7, 12) := zkk 2 (by decide +kernel)
theorem zk_3 : zK 3 = (8, 7) := zkk 3 (by decide +kernel)
theorem zk_4 : zK 4 = (101, 0) := zkk 4 (by decide +kernel)
theorem zk_5 : zK 5 = (100, 60) := zkk 5 (by decide +kernel)
theorem zk_6 : zK 6 = (100, 2000) := zkk 6 (by decide +kernel)
theorem zk_7 : zK 7 = (103, 2000) := zkk 7 (by decide +kernel)
theorem zk_8 : zK 8 = (100, 2000) := zkk 8 (by decide +kernel)
theorem zk_9 : zK 9 = (100, 2000) := zkk 9 (by decide +kernel)
theorem zk_10 : zK 10 = (100, 2000) := zkk 10 (by decide +kernel)
theorem zk_11 : zK 11 = (5, 6) := zkk 11 (by decide +kernel)
theorem zk_12 : zK 12 = (104, 20) := zkk 12 (by decide +kernel)
theorem zk_13 : zK 13 = (1, 3) := zkk 13 (by decide +kernel)
theorem zk_14 : zK 14 = (103, 6) := zkk 14 (by decide +kernel)
theorem zk_15 : zK 15 = (100, 6) := zkk 15 (by decide +kernel)
theorem zk_16 : zK 16 = (100, 6) := zkk 16 (by decide +kernel)
theorem zk_17 : zK 17 = (1, 3) := zkk 17 (by decide +kernel)
theorem zk_18 : zK 18 = (103, 40) := zkk 18 (by decide +kernel)
theorem zk_19 : zK 19 = (100, 40) := zkk 19 (by decide +kernel)
theorem zk_20 : zK 20 = (100, 80) := zkk 20 (by decide +kernel)
theorem zk_201 : zK 201 = (1, 3) := zkk 201 (by decide +kernel)
theorem zk_202 : zK 202 = (103, 2000) := zkk 202 (by decide +kernel)
theorem zk_203 : zK 203 = (100, 2000) := zkk 203 (by decide +kernel)
theorem zk_204 : zK 204 = (100, 2000) := zkk 204 (by decide +kernel)
theorem zk_205 : zK 205 = (100, 1000) := zkk 205 (by decide +kernel)
theorem zk_206 : zK 206 = (100, 1000) := zkk 206 (by decide +kernel)
theorem zk_207 : zK 207 = (3, 14) := zkk 207 (by decide +kernel)
theorem zk_208 : zK 208 = (100, 8000) := zkk 208 (by decide +kernel)
theorem zk_209 : zK 209 = (100, 8000) := zkk 209 (by decide +kernel)
theorem zk_210 : zK 210 = (100, 1000) := zkk 210 (by decide +kernel)
theorem zk_211 : zK 211 = (100, 1000) := zkk 211 (by decide +kernel)
theorem zk_212 : zK 212 = (100, 40) := zkk 212 (by decide +kernel)
theorem zk_213 : zK 213 = (100, 80) := zkk 213 (by decide +kernel)
theorem zk_214 : zK 214 = (100, 1000) := zkk 214 (by decide +kernel)
theorem zk_215 : zK 215 = (100, 1000) := zkk 215 (by decide +kernel)
theorem zk_216 : zK 216 = (100, 2000) := zkk 216 (by decide +kernel)
theorem zk_217 : zK 217 = (2, 7) := zkk 217 (by decide +kernel)
theorem zk_218 : zK 218 = (100, 6) := zkk 218 (by decide +kernel)
theorem zk_219 : zK 219 = (100, 6) := zkk 219 (by decide +kernel)
theorem zk_220 : zK 220 = (100, 384) := zkk 220 (by decide +kernel)
theorem zk_221 : zK 221 = (103, 36) := zkk 221 (by decide +kernel)
theorem zk_222 : zK 222 = (103, 1600) := zkk 222 (by decide +kernel)
theorem zk_223 : zK 223 = (0, 16) := zkk 223 (by decide +kernel)
theorem zk_224 : zK 224 = (100, 1000) := zkk 224 (by decide +kernel)
theorem zk_225 : zK 225 = (100, 1000) := zkk 225 (by decide +kernel)
theorem zk_226 : zK 226 = (100, 1000) := zkk 226 (by decide +kernel)
theorem zk_227 : zK 227 = (100, 80) := zkk 227 (by decide +kernel)
theorem zk_228 : zK 228 = (100, 80) := zkk 228 (by decide +kernel)
theorem zk_229 : zK 229 = (100, 80) := zkk 229 (by decide +kernel)
theorem zk_230 : zK 230 = (100, 80) := zkk 230 (by decide +kernel)
theorem zk_231 : zK 231 = (102, 80) := zkk 231 (by decide +kernel)
theorem zk_232 : zK 232 = (100, 80) := zkk 232 (by decide +kernel)
theorem zk_233 : zK 233 = (100, 160) := zkk 233 (by decide +kernel)
theorem zk_234 : zK 234 = (100, 160) := zkk 234 (by decide +kernel)
theorem zk_235 : zK 235 = (9, 4) := zkk 235 (by decide +kernel)
theorem zk_236 : zK 236 = (101, 4000) := zkk 236 (by decide +kernel)
theorem zk_237 : zK 237 = (100, 2000) := zkk 237 (by decide +kernel)
theorem zk_238 : zK 238 = (101, 4000) := zkk 238 (by decide +kernel)
theorem zk_239 : zK 239 = (101, 4000) := zkk 239 (by decide +kernel)
theorem zk_240 : zK 240 = (11, 73) := zkk 240 (by decide +kernel)
theorem zk_241 : zK 241 = (100, 4000) := zkk 241 (by decide +kernel)
theorem zk_242 : zK 242 = (100, 4002) := zkk 242 (by decide +kernel)
theorem zk_243 : zK 243 = (100, 4002) := zkk 243 (by decide +kernel)
theorem zk_244 : zK 244 = (100, 4002) := zkk 244 (by decide +kernel)
theorem zk_245 : zK 245 = (100, 4002) := zkk 245 (by decide +kernel)
theorem zk_246 : zK 246 = (100, 4002) := zkk 246 (by decide +kernel)
theorem zk_247 : zK 247 = (100, 60) := zkk 247 (by decide +kernel)
theorem zk_248 : zK 248 = (100, 1400) := zkk 248 (by decide +kernel)
theorem zk_249 : zK 249 = (100, 1400) := zkk 249 (by decide +kernel)
theorem zk_250 : zK 250 = (100, 6) := zkk 250 (by decide +kernel)
theorem zk_251 : zK 251 = (100, 6) := zkk 251 (by decide +kernel)
theorem zk_252 : zK 252 = (100, 72) := zkk 252 (by decide +kernel)
theorem zk_253 : zK 253 = (100, 6) := zkk 253 (by decide +kernel)
theorem zk_254 : zK 254 = (100, 800) := zkk 254 (by decide +kernel)
theorem zk_255 : zK 255 = (100, 20) := zkk 255 (by decide +kernel)
theorem zk_256 : zK 256 = (100, 800) := zkk 256 (by decide +kernel)
theorem zk_257 : zK 257 = (100, 20) := zkk 257 (by decide +kernel)
theorem zk_258 : zK 258 = (100, 80) := zkk 258 (by decide +kernel)
theorem zk_259 : zK 259 = (100, 6) := zkk 259 (by decide +kernel)
theorem zk_260 : zK 260 = (100, 6) := zkk 260 (by decide +kernel)
theorem zk_261 : zK 261 = (102, 1600) := zkk 261 (by decide +kernel)
theorem zk_262 : zK 262 = (102, 1600) := zkk 262 (by decide +kernel)
theorem zk_263 : zK 263 = (100, 40) := zkk 263 (by decide +kernel)
theorem zk_264 : zK 264 = (100, 40) := zkk 264 (by decide +kernel)
theorem zk_265 : zK 265 = (100, 1001) := zkk 265 (by decide +kernel)
theorem zk_266 : zK 266 = (100, 1001) := zkk 266 (by decide +kernel)
theorem zk_267 : zK 267 = (100, 1002) := zkk 267 (by decide +kernel)
theorem zk_268 : zK 268 = (100, 80) := zkk 268 (by decide +kernel)
theorem zk_269 : zK 269 = (100, 4002) := zkk 269 (by decide +kernel)
theorem zk_270 : zK 270 = (100, 1000) := zkk 270 (by decide +kernel)
theorem zk_271 : zK 271 = (100, 4000) := zkk 271 (by decide +kernel)
theorem zk_272 : zK 272 = (100, 4002) := zkk 272 (by decide +kernel)
theorem zk_273 : zK 273 = (100, 4002) := zkk 273 (by decide +kernel)
theorem zk_274 : zK 274 = (100, 1000) := zkk 274 (by decide +kernel)
theorem zk_275 : zK 275 = (100, 160) := zkk 275 (by decide +kernel)
theorem zk_276 : zK 276 = (100, 160) := zkk 276 (by decide +kernel)
theorem zk_277 : zK 277 = (100, 200) := zkk 277 (by decide +kernel)
theorem zk_278 : zK 278 = (102, 200) := zkk 278 (by decide +kernel)
theorem zk_279 : zK 279 = (100, 2048) := zkk 279 (by decide +kernel)
theorem zk_280 : zK 280 = (100, 1000) := zkk 280 (by decide +kernel)
theorem zk_281 : zK 281 = (100, 1000) := zkk 281 (by decide +kernel)
theorem zk_282 : zK 282 = (100, 1000) := zkk 282 (by decide +kernel)
theorem zk_283 : zK 283 = (100, 200) := zkk 283 (by decide +kernel)
theorem zk_284 : zK 284 = (100, 4001) := zkk 284 (by decide +kernel)
theorem zk_285 : zK 285 = (100, 4000) := zkk 285 (by decide +kernel)
theorem zk_286 : zK 286 = (100, 4016) := zkk 286 (by decide +kernel)
theorem zk_287 : zK 287 = (100, 4002) := zkk 287 (by decide +kernel)
theorem zf_0_0 : zF zE 0 10 0 = True := zF_of zk_0 (by decide) (by decide)
theorem zf_0_1 : zF zE 0 10 1 = True := zF_of zk_0 (by decide) (by decide)
theorem zf_0_2 : zF zE 0 10 2 = True := zF_of zk_0 (by decide) (by decide)
theorem zf_0_3 : zF zE 0 10 3 = True := zF_of zk_0 (by decide) (by decide)
theorem zf_0_4 : zF zE 0 10 4 = True := zF_of zk_0 (by decide) (by decide)
theorem zf_0_5 : zF zE 0 10 5 = True := zF_of zk_0 (by decide) (by decide)
theorem zf_0_6 : zF zE 0 10 6 = True := zF_of zk_0 (by decide) (by decide)
theorem zf_0_7 : zF zE 0 10 7 = True := zF_of zk_0 (by decide) (by decide)
theorem zf_0_8 : zF zE 0 10 8 = True := zF_of zk_0 (by decide) (by decide)
theorem zf_0_9 : zF zE 0 10 9 = True := zF_of zk_0 (by decide) (by decide)
theorem zf_0_10 : zF zE 0 10 10 = True := zF_of zk_0 (by decide) (by decide)
theorem zf_0_11 : zF zE 0 10 11 = True := zF_of zk_0 (by decide) (by decide)
theorem zf_0_12 : zF zE 0 10 12 = True := zF_of zk_0 (by decide) (by decide)
theorem zf_0_13 : zF zE 0 10 13 = True := zF_of zk_0 (by decide) (by decide)
theorem zf_0_14 : zF zE 0 10 14 = True := zF_of zk_0 (by decide) (by decide)
theorem zf_0_15 : zF zE 0 10 15 = True := zF_of zk_0 (by decide) (by decide)
theorem zf_0_16 : zF zE 0 10 16 = True := zF_of zk_0 (by decide) (by decide)
theorem zf_0_17 : zF zE 0 10 17 = True := zF_of zk_0 (by decide) (by decide)
theorem zc_0 : zC zE 0 10 = True := zC_of zk_0 (by decide)
theorem za_1 {j : Nat} (hj : j < 2147483648) : zA zE 1 101 (nI j) = (j < 4000) := zA_of zk_1 (by decide) hj
theorem zan_1 {i : Int32} : zA zE 1 102 i = False := zA_no zk_1 (by decide)
theorem zf_2_0 : zF zE 2 7 0 = True := zF_of zk_2 (by decide) (by decide)
theorem zf_2_1 : zF zE 2 7 1 = True := zF_of zk_2 (by decide) (by decide)
theorem zf_2_2 : zF zE 2 7 2 = True := zF_of zk_2 (by decide) (by decide)
theorem zf_2_3 : zF zE 2 7 3 = True := zF_of zk_2 (by decide) (by decide)
theorem zf_2_4 : zF zE 2 7 4 = True := zF_of zk_2 (by decide) (by decide)
theorem zf_2_5 : zF zE 2 7 5 = True := zF_of zk_2 (by decide) (by decide)
theorem zf_2_6 : zF zE 2 7 6 = True := zF_of zk_2 (by decide) (by decide)
theorem zf_2_7 : zF zE 2 7 7 = True := zF_of zk_2 (by decide) (by decide)
theorem zf_2_8 : zF zE 2 7 8 = True := zF_of zk_2 (by decide) (by decide)
theorem zf_2_9 : zF zE 2 7 9 = True := zF_of zk_2 (by decide) (by decide)
theorem zf_2_10 : zF zE 2 7 10 = True := zF_of zk_2 (by decide) (by decide)
theorem zf_2_11 : zF zE 2 7 11 = True := zF_of zk_2 (by decide) (by decide)
theorem zc_2 : zC zE 2 7 = True := zC_of zk_2 (by decide)
theorem zf_3_0 : zF zE 3 8 0 = True := zF_of zk_3 (by decide) (by decide)
theorem zf_3_1 : zF zE 3 8 1 = True := zF_of zk_3 (by decide) (by decide)
theorem zf_3_2 : zF zE 3 8 2 = True := zF_of zk_3 (by decide) (by decide)
theorem zf_3_3 : zF zE 3 8 3 = True := zF_of zk_3 (by decide) (by decide)
theorem zf_3_4 : zF zE 3 8 4 = True := zF_of zk_3 (by decide) (by decide)
theorem zf_3_5 : zF zE 3 8 5 = True := zF_of zk_3 (by decide) (by decide)
theorem zf_3_6 : zF zE 3 8 6 = True := zF_of zk_3 (by decide) (by decide)
theorem zc_3 : zC zE 3 8 = True := zC_of zk_3 (by decide)
theorem za_4 {j : Nat} (hj : j < 2147483648) : zA zE 4 101 (nI j) = (j < 0) := zA_of zk_4 (by decide) hj
theorem zan_4 {i : Int32} : zA zE 4 102 i = False := zA_no zk_4 (by decide)
theorem za_5 {j : Nat} (hj : j < 2147483648) : zA zE 5 100 (nI j) = (j < 60) := zA_of zk_5 (by decide) hj
theorem za_6 {j : Nat} (hj : j < 2147483648) : zA zE 6 100 (nI j) = (j < 2000) := zA_of zk_6 (by decide) hj
theorem za_7 {j : Nat} (hj : j < 2147483648) : zA zE 7 103 (nI j) = (j < 2000) := zA_of zk_7 (by decide) hj
theorem za_8 {j : Nat} (hj : j < 2147483648) : zA zE 8 100 (nI j) = (j < 2000) := zA_of zk_8 (by decide) hj
theorem za_9 {j : Nat} (hj : j < 2147483648) : zA zE 9 100 (nI j) = (j < 2000) := zA_of zk_9 (by decide) hj
theorem za_10 {j : Nat} (hj : j < 2147483648) : zA zE 10 100 (nI j) = (j < 2000) := zA_of zk_10 (by decide) hj
theorem zf_11_0 : zF zE 11 5 0 = True := zF_of zk_11 (by decide) (by decide)
theorem zf_11_1 : zF zE 11 5 1 = True := zF_of zk_11 (by decide) (by decide)
theorem zf_11_2 : zF zE 11 5 2 = True := zF_of zk_11 (by decide) (by decide)
theorem zf_11_3 : zF zE 11 5 3 = True := zF_of zk_11 (by decide) (by decide)
theorem zf_11_4 : zF zE 11 5 4 = True := zF_of zk_11 (by decide) (by decide)
theorem zf_11_5 : zF zE 11 5 5 = True := zF_of zk_11 (by decide) (by decide)
theorem zc_11 : zC zE 11 5 = True := zC_of zk_11 (by decide)
theorem zf_13_0 : zF zE 13 1 0 = True := zF_of zk_13 (by decide) (by decide)
theorem zf_13_1 : zF zE 13 1 1 = True := zF_of zk_13 (by decide) (by decide)
theorem zf_13_2 : zF zE 13 1 2 = True := zF_of zk_13 (by decide) (by decide)
theorem zc_13 : zC zE 13 1 = True := zC_of zk_13 (by decide)
theorem za_14 {j : Nat} (hj : j < 2147483648) : zA zE 14 103 (nI j) = (j < 6) := zA_of zk_14 (by decide) hj
theorem za_15 {j : Nat} (hj : j < 2147483648) : zA zE 15 100 (nI j) = (j < 6) := zA_of zk_15 (by decide) hj
theorem za_16 {j : Nat} (hj : j < 2147483648) : zA zE 16 100 (nI j) = (j < 6) := zA_of zk_16 (by decide) hj
theorem zf_17_0 : zF zE 17 1 0 = True := zF_of zk_17 (by decide) (by decide)
theorem zf_17_1 : zF zE 17 1 1 = True := zF_of zk_17 (by decide) (by decide)
theorem zf_17_2 : zF zE 17 1 2 = True := zF_of zk_17 (by decide) (by decide)
theorem zc_17 : zC zE 17 1 = True := zC_of zk_17 (by decide)
theorem za_18 {j : Nat} (hj : j < 2147483648) : zA zE 18 103 (nI j) = (j < 40) := zA_of zk_18 (by decide) hj
theorem za_19 {j : Nat} (hj : j < 2147483648) : zA zE 19 100 (nI j) = (j < 40) := zA_of zk_19 (by decide) hj
theorem za_20 {j : Nat} (hj : j < 2147483648) : zA zE 20 100 (nI j) = (j < 80) := zA_of zk_20 (by decide) hj
theorem zf_201_0 : zF zE 201 1 0 = True := zF_of zk_201 (by decide) (by decide)
theorem zf_201_1 : zF zE 201 1 1 = True := zF_of zk_201 (by decide) (by decide)
theorem zf_201_2 : zF zE 201 1 2 = True := zF_of zk_201 (by decide) (by decide)
theorem zc_201 : zC zE 201 1 = True := zC_of zk_201 (by decide)
theorem za_202 {j : Nat} (hj : j < 2147483648) : zA zE 202 103 (nI j) = (j < 2000) := zA_of zk_202 (by decide) hj
theorem za_203 {j : Nat} (hj : j < 2147483648) : zA zE 203 100 (nI j) = (j < 2000) := zA_of zk_203 (by decide) hj
theorem za_204 {j : Nat} (hj : j < 2147483648) : zA zE 204 100 (nI j) = (j < 2000) := zA_of zk_204 (by decide) hj
theorem za_205 {j : Nat} (hj : j < 2147483648) : zA zE 205 100 (nI j) = (j < 1000) := zA_of zk_205 (by decide) hj
theorem za_206 {j : Nat} (hj : j < 2147483648) : zA zE 206 100 (nI j) = (j < 1000) := zA_of zk_206 (by decide) hj
theorem zf_207_0 : zF zE 207 3 0 = True := zF_of zk_207 (by decide) (by decide)
theorem zf_207_1 : zF zE 207 3 1 = True := zF_of zk_207 (by decide) (by decide)
theorem zf_207_2 : zF zE 207 3 2 = True := zF_of zk_207 (by decide) (by decide)
theorem zf_207_3 : zF zE 207 3 3 = True := zF_of zk_207 (by decide) (by decide)
theorem zf_207_4 : zF zE 207 3 4 = True := zF_of zk_207 (by decide) (by decide)
theorem zf_207_5 : zF zE 207 3 5 = True := zF_of zk_207 (by decide) (by decide)
theorem zf_207_6 : zF zE 207 3 6 = True := zF_of zk_207 (by decide) (by decide)
theorem zf_207_7 : zF zE 207 3 7 = True := zF_of zk_207 (by decide) (by decide)
theorem zf_207_8 : zF zE 207 3 8 = True := zF_of zk_207 (by decide) (by decide)
theorem zf_207_9 : zF zE 207 3 9 = True := zF_of zk_207 (by decide) (by decide)
theorem zf_207_10 : zF zE 207 3 10 = True := zF_of zk_207 (by decide) (by decide)
theorem zf_207_11 : zF zE 207 3 11 = True := zF_of zk_207 (by decide) (by decide)
theorem zf_207_12 : zF zE 207 3 12 = True := zF_of zk_207 (by decide) (by decide)
theorem zf_207_13 : zF zE 207 3 13 = True := zF_of zk_207 (by decide) (by decide)
theorem zc_207 : zC zE 207 3 = True := zC_of zk_207 (by decide)
theorem za_208 {j : Nat} (hj : j < 2147483648) : zA zE 208 100 (nI j) = (j < 8000) := zA_of zk_208 (by decide) hj
theorem za_209 {j : Nat} (hj : j < 2147483648) : zA zE 209 100 (nI j) = (j < 8000) := zA_of zk_209 (by decide) hj
theorem za_210 {j : Nat} (hj : j < 2147483648) : zA zE 210 100 (nI j) = (j < 1000) := zA_of zk_210 (by decide) hj
theorem za_211 {j : Nat} (hj : j < 2147483648) : zA zE 211 100 (nI j) = (j < 1000) := zA_of zk_211 (by decide) hj
theorem za_212 {j : Nat} (hj : j < 2147483648) : zA zE 212 100 (nI j) = (j < 40) := zA_of zk_212 (by decide) hj
theorem za_213 {j : Nat} (hj : j < 2147483648) : zA zE 213 100 (nI j) = (j < 80) := zA_of zk_213 (by decide) hj
theorem za_214 {j : Nat} (hj : j < 2147483648) : zA zE 214 100 (nI j) = (j < 1000) := zA_of zk_214 (by decide) hj
theorem za_215 {j : Nat} (hj : j < 2147483648) : zA zE 215 100 (nI j) = (j < 1000) := zA_of zk_215 (by decide) hj
theorem za_216 {j : Nat} (hj : j < 2147483648) : zA zE 216 100 (nI j) = (j < 2000) := zA_of zk_216 (by decide) hj
theorem zf_217_0 : zF zE 217 2 0 = True := zF_of zk_217 (by decide) (by decide)
theorem zf_217_1 : zF zE 217 2 1 = True := zF_of zk_217 (by decide) (by decide)
theorem zf_217_2 : zF zE 217 2 2 = True := zF_of zk_217 (by decide) (by decide)
theorem zf_217_3 : zF zE 217 2 3 = True := zF_of zk_217 (by decide) (by decide)
theorem zf_217_4 : zF zE 217 2 4 = True := zF_of zk_217 (by decide) (by decide)
theorem zf_217_5 : zF zE 217 2 5 = True := zF_of zk_217 (by decide) (by decide)
theorem zf_217_6 : zF zE 217 2 6 = True := zF_of zk_217 (by decide) (by decide)
theorem zc_217 : zC zE 217 2 = True := zC_of zk_217 (by decide)
theorem za_218 {j : Nat} (hj : j < 2147483648) : zA zE 218 100 (nI j) = (j < 6) := zA_of zk_218 (by decide) hj
theorem za_219 {j : Nat} (hj : j < 2147483648) : zA zE 219 100 (nI j) = (j < 6) := zA_of zk_219 (by decide) hj
theorem za_220 {j : Nat} (hj : j < 2147483648) : zA zE 220 100 (nI j) = (j < 384) := zA_of zk_220 (by decide) hj
theorem za_221 {j : Nat} (hj : j < 2147483648) : zA zE 221 103 (nI j) = (j < 36) := zA_of zk_221 (by decide) hj
theorem za_222 {j : Nat} (hj : j < 2147483648) : zA zE 222 103 (nI j) = (j < 1600) := zA_of zk_222 (by decide) hj
theorem zf_223_0 : zF zE 223 0 0 = True := zF_of zk_223 (by decide) (by decide)
theorem zf_223_1 : zF zE 223 0 1 = True := zF_of zk_223 (by decide) (by decide)
theorem zf_223_2 : zF zE 223 0 2 = True := zF_of zk_223 (by decide) (by decide)
theorem zf_223_3 : zF zE 223 0 3 = True := zF_of zk_223 (by decide) (by decide)
theorem zf_223_4 : zF zE 223 0 4 = True := zF_of zk_223 (by decide) (by decide)
theorem zf_223_5 : zF zE 223 0 5 = True := zF_of zk_223 (by decide) (by decide)
theorem zf_223_6 : zF zE 223 0 6 = True := zF_of zk_223 (by decide) (by decide)
theorem zf_223_7 : zF zE 223 0 7 = True := zF_of zk_223 (by decide) (by decide)
theorem zf_223_8 : zF zE 223 0 8 = True := zF_of zk_223 (by decide) (by decide)
theorem zf_223_9 : zF zE 223 0 9 = True := zF_of zk_223 (by decide) (by decide)
theorem zf_223_10 : zF zE 223 0 10 = True := zF_of zk_223 (by decide) (by decide)
theorem zf_223_11 : zF zE 223 0 11 = True := zF_of zk_223 (by decide) (by decide)
theorem zf_223_12 : zF zE 223 0 12 = True := zF_of zk_223 (by decide) (by decide)
theorem zf_223_13 : zF zE 223 0 13 = True := zF_of zk_223 (by decide) (by decide)
theorem zf_223_14 : zF zE 223 0 14 = True := zF_of zk_223 (by decide) (by decide)
theorem zf_223_15 : zF zE 223 0 15 = True := zF_of zk_223 (by decide) (by decide)
theorem zc_223 : zC zE 223 0 = True := zC_of zk_223 (by decide)
theorem za_224 {j : Nat} (hj : j < 2147483648) : zA zE 224 100 (nI j) = (j < 1000) := zA_of zk_224 (by decide) hj
theorem za_225 {j : Nat} (hj : j < 2147483648) : zA zE 225 100 (nI j) = (j < 1000) := zA_of zk_225 (by decide) hj
theorem za_226 {j : Nat} (hj : j < 2147483648) : zA zE 226 100 (nI j) = (j < 1000) := zA_of zk_226 (by decide) hj
theorem za_227 {j : Nat} (hj : j < 2147483648) : zA zE 227 100 (nI j) = (j < 80) := zA_of zk_227 (by decide) hj
theorem za_228 {j : Nat} (hj : j < 2147483648) : zA zE 228 100 (nI j) = (j < 80) := zA_of zk_228 (by decide) hj
theorem za_229 {j : Nat} (hj : j < 2147483648) : zA zE 229 100 (nI j) = (j < 80) := zA_of zk_229 (by decide) hj
theorem za_230 {j : Nat} (hj : j < 2147483648) : zA zE 230 100 (nI j) = (j < 80) := zA_of zk_230 (by decide) hj
theorem za_231 {j : Nat} (hj : j < 2147483648) : zA zE 231 102 (nI j) = (j < 80) := zA_of zk_231 (by decide) hj
theorem zan_231 {i : Int32} : zA zE 231 101 i = False := zA_no zk_231 (by decide)
theorem za_232 {j : Nat} (hj : j < 2147483648) : zA zE 232 100 (nI j) = (j < 80) := zA_of zk_232 (by decide) hj
theorem za_233 {j : Nat} (hj : j < 2147483648) : zA zE 233 100 (nI j) = (j < 160) := zA_of zk_233 (by decide) hj
theorem za_234 {j : Nat} (hj : j < 2147483648) : zA zE 234 100 (nI j) = (j < 160) := zA_of zk_234 (by decide) hj
theorem zf_235_0 : zF zE 235 9 0 = True := zF_of zk_235 (by decide) (by decide)
theorem zf_235_1 : zF zE 235 9 1 = True := zF_of zk_235 (by decide) (by decide)
theorem zf_235_2 : zF zE 235 9 2 = True := zF_of zk_235 (by decide) (by decide)
theorem zf_235_3 : zF zE 235 9 3 = True := zF_of zk_235 (by decide) (by decide)
theorem zc_235 : zC zE 235 9 = True := zC_of zk_235 (by decide)
theorem za_236 {j : Nat} (hj : j < 2147483648) : zA zE 236 101 (nI j) = (j < 4000) := zA_of zk_236 (by decide) hj
theorem zan_236 {i : Int32} : zA zE 236 102 i = False := zA_no zk_236 (by decide)
theorem za_237 {j : Nat} (hj : j < 2147483648) : zA zE 237 100 (nI j) = (j < 2000) := zA_of zk_237 (by decide) hj
theorem za_238 {j : Nat} (hj : j < 2147483648) : zA zE 238 101 (nI j) = (j < 4000) := zA_of zk_238 (by decide) hj
theorem zan_238 {i : Int32} : zA zE 238 102 i = False := zA_no zk_238 (by decide)
theorem za_239 {j : Nat} (hj : j < 2147483648) : zA zE 239 101 (nI j) = (j < 4000) := zA_of zk_239 (by decide) hj
theorem zan_239 {i : Int32} : zA zE 239 102 i = False := zA_no zk_239 (by decide)
theorem zf_240_0 : zF zE 240 11 0 = True := zF_of zk_240 (by decide) (by decide)
theorem zf_240_1 : zF zE 240 11 1 = True := zF_of zk_240 (by decide) (by decide)
theorem zf_240_2 : zF zE 240 11 2 = True := zF_of zk_240 (by decide) (by decide)
theorem zf_240_3 : zF zE 240 11 3 = True := zF_of zk_240 (by decide) (by decide)
theorem zf_240_4 : zF zE 240 11 4 = True := zF_of zk_240 (by decide) (by decide)
theorem zf_240_5 : zF zE 240 11 5 = True := zF_of zk_240 (by decide) (by decide)
theorem zf_240_6 : zF zE 240 11 6 = True := zF_of zk_240 (by decide) (by decide)
theorem zf_240_7 : zF zE 240 11 7 = True := zF_of zk_240 (by decide) (by decide)
theorem zf_240_8 : zF zE 240 11 8 = True := zF_of zk_240 (by decide) (by decide)
theorem zf_240_9 : zF zE 240 11 9 = True := zF_of zk_240 (by decide) (by decide)
theorem zf_240_10 : zF zE 240 11 10 = True := zF_of zk_240 (by decide) (by decide)
theorem zf_240_11 : zF zE 240 11 11 = True := zF_of zk_240 (by decide) (by decide)
theorem zf_240_12 : zF zE 240 11 12 = True := zF_of zk_240 (by decide) (by decide)
theorem zf_240_13 : zF zE 240 11 13 = True := zF_of zk_240 (by decide) (by decide)
theorem zf_240_14 : zF zE 240 11 14 = True := zF_of zk_240 (by decide) (by decide)
theorem zf_240_15 : zF zE 240 11 15 = True := zF_of zk_240 (by decide) (by decide)
theorem zf_240_16 : zF zE 240 11 16 = True := zF_of zk_240 (by decide) (by decide)
theorem zf_240_17 : zF zE 240 11 17 = True := zF_of zk_240 (by decide) (by decide)
theorem zf_240_18 : zF zE 240 11 18 = True := zF_of zk_240 (by decide) (by decide)
theorem zf_240_19 : zF zE 240 11 19 = True := zF_of zk_240 (by decide) (by decide)
theorem zf_240_20 : zF zE 240 11 20 = True := zF_of zk_240 (by decide) (by decide)
theorem zf_240_21 : zF zE 240 11 21 = True := zF_of zk_240 (by decide) (by decide)
theorem zf_240_22 : zF zE 240 11 22 = True := zF_of zk_240 (by decide) (by decide)
theorem zf_240_23 : zF zE 240 11 23 = True := zF_of zk_240 (by decide) (by decide)
theorem zf_240_24 : zF zE 240 11 24 = True := zF_of zk_240 (by decide) (by decide)
theorem zf_240_25 : zF zE 240 11 25 = True := zF_of zk_240 (by decide) (by decide)
theorem zf_240_26 : zF zE 240 11 26 = True := zF_of zk_240 (by decide) (by decide)
theorem zf_240_27 : zF zE 240 11 27 = True := zF_of zk_240 (by decide) (by decide)
theorem zf_240_28 : zF zE 240 11 28 = True := zF_of zk_240 (by decide) (by decide)
theorem zf_240_29 : zF zE 240 11 29 = True := zF_of zk_240 (by decide) (by decide)
theorem zf_240_30 : zF zE 240 11 30 = True := zF_of zk_240 (by decide) (by decide)
theorem zf_240_31 : zF zE 240 11 31 = True := zF_of zk_240 (by decide) (by decide)
theorem zf_240_32 : zF zE 240 11 32 = True := zF_of zk_240 (by decide) (by decide)
theorem zf_240_33 : zF zE 240 11 33 = True := zF_of zk_240 (by decide) (by decide)
theorem zf_240_34 : zF zE 240 11 34 = True := zF_of zk_240 (by decide) (by decide)
theorem zf_240_35 : zF zE 240 11 35 = True := zF_of zk_240 (by decide) (by decide)
theorem zf_240_36 : zF zE 240 11 36 = True := zF_of zk_240 (by decide) (by decide)
theorem zf_240_37 : zF zE 240 11 37 = True := zF_of zk_240 (by decide) (by decide)
theorem zf_240_38 : zF zE 240 11 38 = True := zF_of zk_240 (by decide) (by decide)
theorem zf_240_39 : zF zE 240 11 39 = True := zF_of zk_240 (by decide) (by decide)
theorem zf_240_40 : zF zE 240 11 40 = True := zF_of zk_240 (by decide) (by decide)
theorem zf_240_41 : zF zE 240 11 41 = True := zF_of zk_240 (by decide) (by decide)
theorem zf_240_42 : zF zE 240 11 42 = True := zF_of zk_240 (by decide) (by decide)
theorem zf_240_43 : zF zE 240 11 43 = True := zF_of zk_240 (by decide) (by decide)
theorem zf_240_44 : zF zE 240 11 44 = True := zF_of zk_240 (by decide) (by decide)
theorem zf_240_45 : zF zE 240 11 45 = True := zF_of zk_240 (by decide) (by decide)
theorem zf_240_46 : zF zE 240 11 46 = True := zF_of zk_240 (by decide) (by decide)
theorem zf_240_47 : zF zE 240 11 47 = True := zF_of zk_240 (by decide) (by decide)
theorem zf_240_48 : zF zE 240 11 48 = True := zF_of zk_240 (by decide) (by decide)
theorem zf_240_49 : zF zE 240 11 49 = True := zF_of zk_240 (by decide) (by decide)
theorem zf_240_50 : zF zE 240 11 50 = True := zF_of zk_240 (by decide) (by decide)
theorem zf_240_51 : zF zE 240 11 51 = True := zF_of zk_240 (by decide) (by decide)
theorem zf_240_52 : zF zE 240 11 52 = True := zF_of zk_240 (by decide) (by decide)
theorem zf_240_53 : zF zE 240 11 53 = True := zF_of zk_240 (by decide) (by decide)
theorem zf_240_54 : zF zE 240 11 54 = True := zF_of zk_240 (by decide) (by decide)
theorem zf_240_55 : zF zE 240 11 55 = True := zF_of zk_240 (by decide) (by decide)
theorem zf_240_56 : zF zE 240 11 56 = True := zF_of zk_240 (by decide) (by decide)
theorem zf_240_57 : zF zE 240 11 57 = True := zF_of zk_240 (by decide) (by decide)
theorem zf_240_58 : zF zE 240 11 58 = True := zF_of zk_240 (by decide) (by decide)
theorem zf_240_59 : zF zE 240 11 59 = True := zF_of zk_240 (by decide) (by decide)
theorem zf_240_60 : zF zE 240 11 60 = True := zF_of zk_240 (by decide) (by decide)
theorem zf_240_61 : zF zE 240 11 61 = True := zF_of zk_240 (by decide) (by decide)
theorem zf_240_62 : zF zE 240 11 62 = True := zF_of zk_240 (by decide) (by decide)
theorem zf_240_63 : zF zE 240 11 63 = True := zF_of zk_240 (by decide) (by decide)
theorem zf_240_64 : zF zE 240 11 64 = True := zF_of zk_240 (by decide) (by decide)
theorem zf_240_65 : zF zE 240 11 65 = True := zF_of zk_240 (by decide) (by decide)
theorem zf_240_66 : zF zE 240 11 66 = True := zF_of zk_240 (by decide) (by decide)
theorem zf_240_67 : zF zE 240 11 67 = True := zF_of zk_240 (by decide) (by decide)
theorem zf_240_68 : zF zE 240 11 68 = True := zF_of zk_240 (by decide) (by decide)
theorem zf_240_69 : zF zE 240 11 69 = True := zF_of zk_240 (by decide) (by decide)
theorem zf_240_70 : zF zE 240 11 70 = True := zF_of zk_240 (by decide) (by decide)
theorem zf_240_71 : zF zE 240 11 71 = True := zF_of zk_240 (by decide) (by decide)
theorem zf_240_72 : zF zE 240 11 72 = True := zF_of zk_240 (by decide) (by decide)
theorem zc_240 : zC zE 240 11 = True := zC_of zk_240 (by decide)
theorem za_241 {j : Nat} (hj : j < 2147483648) : zA zE 241 100 (nI j) = (j < 4000) := zA_of zk_241 (by decide) hj
theorem za_242 {j : Nat} (hj : j < 2147483648) : zA zE 242 100 (nI j) = (j < 4002) := zA_of zk_242 (by decide) hj
theorem za_243 {j : Nat} (hj : j < 2147483648) : zA zE 243 100 (nI j) = (j < 4002) := zA_of zk_243 (by decide) hj
theorem za_244 {j : Nat} (hj : j < 2147483648) : zA zE 244 100 (nI j) = (j < 4002) := zA_of zk_244 (by decide) hj
theorem za_245 {j : Nat} (hj : j < 2147483648) : zA zE 245 100 (nI j) = (j < 4002) := zA_of zk_245 (by decide) hj
theorem za_246 {j : Nat} (hj : j < 2147483648) : zA zE 246 100 (nI j) = (j < 4002) := zA_of zk_246 (by decide) hj
theorem za_247 {j : Nat} (hj : j < 2147483648) : zA zE 247 100 (nI j) = (j < 60) := zA_of zk_247 (by decide) hj
theorem za_248 {j : Nat} (hj : j < 2147483648) : zA zE 248 100 (nI j) = (j < 1400) := zA_of zk_248 (by decide) hj
theorem za_249 {j : Nat} (hj : j < 2147483648) : zA zE 249 100 (nI j) = (j < 1400) := zA_of zk_249 (by decide) hj
theorem za_250 {j : Nat} (hj : j < 2147483648) : zA zE 250 100 (nI j) = (j < 6) := zA_of zk_250 (by decide) hj
theorem za_251 {j : Nat} (hj : j < 2147483648) : zA zE 251 100 (nI j) = (j < 6) := zA_of zk_251 (by decide) hj
theorem za_252 {j : Nat} (hj : j < 2147483648) : zA zE 252 100 (nI j) = (j < 72) := zA_of zk_252 (by decide) hj
theorem za_253 {j : Nat} (hj : j < 2147483648) : zA zE 253 100 (nI j) = (j < 6) := zA_of zk_253 (by decide) hj
theorem za_254 {j : Nat} (hj : j < 2147483648) : zA zE 254 100 (nI j) = (j < 800) := zA_of zk_254 (by decide) hj
theorem za_255 {j : Nat} (hj : j < 2147483648) : zA zE 255 100 (nI j) = (j < 20) := zA_of zk_255 (by decide) hj
theorem za_256 {j : Nat} (hj : j < 2147483648) : zA zE 256 100 (nI j) = (j < 800) := zA_of zk_256 (by decide) hj
theorem za_257 {j : Nat} (hj : j < 2147483648) : zA zE 257 100 (nI j) = (j < 20) := zA_of zk_257 (by decide) hj
theorem za_258 {j : Nat} (hj : j < 2147483648) : zA zE 258 100 (nI j) = (j < 80) := zA_of zk_258 (by decide) hj
theorem za_259 {j : Nat} (hj : j < 2147483648) : zA zE 259 100 (nI j) = (j < 6) := zA_of zk_259 (by decide) hj
theorem za_260 {j : Nat} (hj : j < 2147483648) : zA zE 260 100 (nI j) = (j < 6) := zA_of zk_260 (by decide) hj
theorem za_261 {j : Nat} (hj : j < 2147483648) : zA zE 261 102 (nI j) = (j < 1600) := zA_of zk_261 (by decide) hj
theorem zan_261 {i : Int32} : zA zE 261 101 i = False := zA_no zk_261 (by decide)
theorem za_262 {j : Nat} (hj : j < 2147483648) : zA zE 262 102 (nI j) = (j < 1600) := zA_of zk_262 (by decide) hj
theorem zan_262 {i : Int32} : zA zE 262 101 i = False := zA_no zk_262 (by decide)
theorem za_263 {j : Nat} (hj : j < 2147483648) : zA zE 263 100 (nI j) = (j < 40) := zA_of zk_263 (by decide) hj
theorem za_264 {j : Nat} (hj : j < 2147483648) : zA zE 264 100 (nI j) = (j < 40) := zA_of zk_264 (by decide) hj
theorem za_265 {j : Nat} (hj : j < 2147483648) : zA zE 265 100 (nI j) = (j < 1001) := zA_of zk_265 (by decide) hj
theorem za_266 {j : Nat} (hj : j < 2147483648) : zA zE 266 100 (nI j) = (j < 1001) := zA_of zk_266 (by decide) hj
theorem za_267 {j : Nat} (hj : j < 2147483648) : zA zE 267 100 (nI j) = (j < 1002) := zA_of zk_267 (by decide) hj
theorem za_268 {j : Nat} (hj : j < 2147483648) : zA zE 268 100 (nI j) = (j < 80) := zA_of zk_268 (by decide) hj
theorem za_269 {j : Nat} (hj : j < 2147483648) : zA zE 269 100 (nI j) = (j < 4002) := zA_of zk_269 (by decide) hj
theorem za_270 {j : Nat} (hj : j < 2147483648) : zA zE 270 100 (nI j) = (j < 1000) := zA_of zk_270 (by decide) hj
theorem za_271 {j : Nat} (hj : j < 2147483648) : zA zE 271 100 (nI j) = (j < 4000) := zA_of zk_271 (by decide) hj
theorem za_272 {j : Nat} (hj : j < 2147483648) : zA zE 272 100 (nI j) = (j < 4002) := zA_of zk_272 (by decide) hj
theorem za_273 {j : Nat} (hj : j < 2147483648) : zA zE 273 100 (nI j) = (j < 4002) := zA_of zk_273 (by decide) hj
theorem za_274 {j : Nat} (hj : j < 2147483648) : zA zE 274 100 (nI j) = (j < 1000) := zA_of zk_274 (by decide) hj
theorem za_275 {j : Nat} (hj : j < 2147483648) : zA zE 275 100 (nI j) = (j < 160) := zA_of zk_275 (by decide) hj
theorem za_276 {j : Nat} (hj : j < 2147483648) : zA zE 276 100 (nI j) = (j < 160) := zA_of zk_276 (by decide) hj
theorem za_277 {j : Nat} (hj : j < 2147483648) : zA zE 277 100 (nI j) = (j < 200) := zA_of zk_277 (by decide) hj
theorem za_278 {j : Nat} (hj : j < 2147483648) : zA zE 278 102 (nI j) = (j < 200) := zA_of zk_278 (by decide) hj
theorem zan_278 {i : Int32} : zA zE 278 101 i = False := zA_no zk_278 (by decide)
theorem za_279 {j : Nat} (hj : j < 2147483648) : zA zE 279 100 (nI j) = (j < 2048) := zA_of zk_279 (by decide) hj
theorem za_280 {j : Nat} (hj : j < 2147483648) : zA zE 280 100 (nI j) = (j < 1000) := zA_of zk_280 (by decide) hj
theorem za_281 {j : Nat} (hj : j < 2147483648) : zA zE 281 100 (nI j) = (j < 1000) := zA_of zk_281 (by decide) hj
theorem za_282 {j : Nat} (hj : j < 2147483648) : zA zE 282 100 (nI j) = (j < 1000) := zA_of zk_282 (by decide) hj
theorem za_283 {j : Nat} (hj : j < 2147483648) : zA zE 283 100 (nI j) = (j < 200) := zA_of zk_283 (by decide) hj
theorem za_284 {j : Nat} (hj : j < 2147483648) : zA zE 284 100 (nI j) = (j < 4001) := zA_of zk_284 (by decide) hj
theorem za_285 {j : Nat} (hj : j < 2147483648) : zA zE 285 100 (nI j) = (j < 4000) := zA_of zk_285 (by decide) hj
theorem za_286 {j : Nat} (hj : j < 2147483648) : zA zE 286 100 (nI j) = (j < 4016) := zA_of zk_286 (by decide) hj
theorem za_287 {j : Nat} (hj : j < 2147483648) : zA zE 287 100 (nI j) = (j < 4002) := zA_of zk_287 (by decide) hj
theorem za_12 {j : Nat} (hj : j < 2147483648) : zA zE 12 104 (nI j) = (j < 20) := zA_of zk_12 (by decide) hj
theorem zr_0_0 {hp sp tp : Nat} : zR hp sp tp 0 0 = some 1 := (zR_ne (by decide) (by decide)).trans (zrr 0 (by decide +kernel))
theorem zr_0_3 {hp sp tp : Nat} : zR hp sp tp 0 3 = some 2 := (zR_ne (by decide) (by decide)).trans (zrr 1 (by decide +kernel))
theorem zr_0_4 {hp sp tp : Nat} : zR hp sp tp 0 4 = some 11 := (zR_ne (by decide) (by decide)).trans (zrr 2 (by decide +kernel))
theorem zr_0_5 {hp sp tp : Nat} : zR hp sp tp 0 5 = some 201 := (zR_ne (by decide) (by decide)).trans (zrr 3 (by decide +kernel))
theorem zr_0_6 {hp sp tp : Nat} : zR hp sp tp 0 6 = some 204 := (zR_ne (by decide) (by decide)).trans (zrr 4 (by decide +kernel))
theorem zr_0_7 {hp sp tp : Nat} : zR hp sp tp 0 7 = some 205 := (zR_ne (by decide) (by decide)).trans (zrr 5 (by decide +kernel))
theorem zr_0_8 {hp sp tp : Nat} : zR hp sp tp 0 8 = some 206 := (zR_ne (by decide) (by decide)).trans (zrr 6 (by decide +kernel))
theorem zr_0_9 {hp sp tp : Nat} : zR hp sp tp 0 9 = some 207 := (zR_ne (by decide) (by decide)).trans (zrr 7 (by decide +kernel))
theorem zr_0_10 {hp sp tp : Nat} : zR hp sp tp 0 10 = some 217 := (zR_ne (by decide) (by decide)).trans (zrr 8 (by decide +kernel))
theorem zr_0_11 {hp sp tp : Nat} : zR hp sp tp 0 11 = some 223 := (zR_ne (by decide) (by decide)).trans (zrr 9 (by decide +kernel))
theorem zr_0_12 {hp sp tp : Nat} : zR hp sp tp 0 12 = some 235 := (zR_ne (by decide) (by decide)).trans (zrr 10 (by decide +kernel))
theorem zr_0_13 {hp sp tp : Nat} : zR hp sp tp 0 13 = some 238 := (zR_ne (by decide) (by decide)).trans (zrr 11 (by decide +kernel))
theorem zr_0_15 {hp sp tp : Nat} : zR hp sp tp 0 15 = some 239 := (zR_ne (by decide) (by decide)).trans (zrr 12 (by decide +kernel))
theorem zr_2_0 {hp sp tp : Nat} : zR hp sp tp 2 0 = some 3 := (zR_ne (by decide) (by decide)).trans (zrr 13 (by decide +kernel))
theorem zr_2_1 {hp sp tp : Nat} : zR hp sp tp 2 1 = some 5 := (zR_ne (by decide) (by decide)).trans (zrr 14 (by decide +kernel))
theorem zr_2_5 {hp sp tp : Nat} : zR hp sp tp 2 5 = some 6 := (zR_ne (by decide) (by decide)).trans (zrr 15 (by decide +kernel))
theorem zr_2_6 {hp sp tp : Nat} : zR hp sp tp 2 6 = some 7 := (zR_ne (by decide) (by decide)).trans (zrr 16 (by decide +kernel))
theorem zr_2_7 {hp sp tp : Nat} : zR hp sp tp 2 7 = some 8 := (zR_ne (by decide) (by decide)).trans (zrr 17 (by decide +kernel))
theorem zr_2_8 {hp sp tp : Nat} : zR hp sp tp 2 8 = some 9 := (zR_ne (by decide) (by decide)).trans (zrr 18 (by decide +kernel))
theorem zr_2_9 {hp sp tp : Nat} : zR hp sp tp 2 9 = some 10 := (zR_ne (by decide) (by decide)).trans (zrr 19 (by decide +kernel))
theorem zr_11_0 {hp sp tp : Nat} : zR hp sp tp 11 0 = some 12 := (zR_ne (by decide) (by decide)).trans (zrr 21 (by decide +kernel))
theorem zr_11_1 {hp sp tp : Nat} : zR hp sp tp 11 1 = some 13 := (zR_ne (by decide) (by decide)).trans (zrr 22 (by decide +kernel))
theorem zr_11_2 {hp sp tp : Nat} : zR hp sp tp 11 2 = some 16 := (zR_ne (by decide) (by decide)).trans (zrr 23 (by decide +kernel))
theorem zr_11_4 {hp sp tp : Nat} : zR hp sp tp 11 4 = some 17 := (zR_ne (by decide) (by decide)).trans (zrr 24 (by decide +kernel))
theorem zr_11_5 {hp sp tp : Nat} : zR hp sp tp 11 5 = some 20 := (zR_ne (by decide) (by decide)).trans (zrr 25 (by decide +kernel))
theorem zr_13_0 {hp sp tp : Nat} : zR hp sp tp 13 0 = some 14 := (zR_ne (by decide) (by decide)).trans (zrr 46 (by decide +kernel))
theorem zr_13_1 {hp sp tp : Nat} : zR hp sp tp 13 1 = some 15 := (zR_ne (by decide) (by decide)).trans (zrr 47 (by decide +kernel))
theorem zr_17_0 {hp sp tp : Nat} : zR hp sp tp 17 0 = some 18 := (zR_ne (by decide) (by decide)).trans (zrr 48 (by decide +kernel))
theorem zr_17_1 {hp sp tp : Nat} : zR hp sp tp 17 1 = some 19 := (zR_ne (by decide) (by decide)).trans (zrr 49 (by decide +kernel))
theorem zr_201_0 {hp sp tp : Nat} : zR hp sp tp 201 0 = some 202 := (zR_ne (by decide) (by decide)).trans (zrr 210 (by decide +kernel))
theorem zr_201_1 {hp sp tp : Nat} : zR hp sp tp 201 1 = some 203 := (zR_ne (by decide) (by decide)).trans (zrr 211 (by decide +kernel))
theorem zr_207_5 {hp sp tp : Nat} : zR hp sp tp 207 5 = some 210 := (zR_207 (by decide) (by decide)).trans (zrr 214 (by decide +kernel))
theorem zr_207_7 {hp sp tp : Nat} : zR hp sp tp 207 7 = some 211 := (zR_207 (by decide) (by decide)).trans (zrr 215 (by decide +kernel))
theorem zr_207_9 {hp sp tp : Nat} : zR hp sp tp 207 9 = some 212 := (zR_207 (by decide) (by decide)).trans (zrr 216 (by decide +kernel))
theorem zr_207_10 {hp sp tp : Nat} : zR hp sp tp 207 10 = some 213 := (zR_207 (by decide) (by decide)).trans (zrr 217 (by decide +kernel))
theorem zr_207_11 {hp sp tp : Nat} : zR hp sp tp 207 11 = some 214 := (zR_207 (by decide) (by decide)).trans (zrr 218 (by decide +kernel))
theorem zr_207_12 {hp sp tp : Nat} : zR hp sp tp 207 12 = some 215 := (zR_207 (by decide) (by decide)).trans (zrr 219 (by decide +kernel))
theorem zr_207_13 {hp sp tp : Nat} : zR hp sp tp 207 13 = some 216 := (zR_207 (by decide) (by decide)).trans (zrr 220 (by decide +kernel))
theorem zr_217_2 {hp sp tp : Nat} : zR hp sp tp 217 2 = some 218 := (zR_ne (by decide) (by decide)).trans (zrr 221 (by decide +kernel))
theorem zr_217_3 {hp sp tp : Nat} : zR hp sp tp 217 3 = some 219 := (zR_ne (by decide) (by decide)).trans (zrr 222 (by decide +kernel))
theorem zr_217_4 {hp sp tp : Nat} : zR hp sp tp 217 4 = some 220 := (zR_ne (by decide) (by decide)).trans (zrr 223 (by decide +kernel))
theorem zr_217_5 {hp sp tp : Nat} : zR hp sp tp 217 5 = some 221 := (zR_ne (by decide) (by decide)).trans (zrr 224 (by decide +kernel))
theorem zr_217_6 {hp sp tp : Nat} : zR hp sp tp 217 6 = some 222 := (zR_ne (by decide) (by decide)).trans (zrr 225 (by decide +kernel))
theorem zr_223_2 {hp sp tp : Nat} : zR hp sp tp 223 2 = some 224 := (zR_ne (by decide) (by decide)).trans (zrr 226 (by decide +kernel))
theorem zr_223_3 {hp sp tp : Nat} : zR hp sp tp 223 3 = some 225 := (zR_ne (by decide) (by decide)).trans (zrr 227 (by decide +kernel))
theorem zr_223_4 {hp sp tp : Nat} : zR hp sp tp 223 4 = some 226 := (zR_ne (by decide) (by decide)).trans (zrr 228 (by decide +kernel))
theorem zr_223_5 {hp sp tp : Nat} : zR hp sp tp 223 5 = some 227 := (zR_ne (by decide) (by decide)).trans (zrr 229 (by decide +kernel))
theorem zr_223_6 {hp sp tp : Nat} : zR hp sp tp 223 6 = some 228 := (zR_ne (by decide) (by decide)).trans (zrr 230 (by decide +kernel))
theorem zr_223_7 {hp sp tp : Nat} : zR hp sp tp 223 7 = some 229 := (zR_ne (by decide) (by decide)).trans (zrr 231 (by decide +kernel))
theorem zr_223_8 {hp sp tp : Nat} : zR hp sp tp 223 8 = some 230 := (zR_ne (by decide) (by decide)).trans (zrr 232 (by decide +kernel))
theorem zr_223_9 {hp sp tp : Nat} : zR hp sp tp 223 9 = some 231 := (zR_ne (by decide) (by decide)).trans (zrr 233 (by decide +kernel))
theorem zr_223_10 {hp sp tp : Nat} : zR hp sp tp 223 10 = some 232 := (zR_ne (by decide) (by decide)).trans (zrr 234 (by decide +kernel))
theorem zr_223_12 {hp sp tp : Nat} : zR hp sp tp 223 12 = some 233 := (zR_ne (by decide) (by decide)).trans (zrr 235 (by decide +kernel))
theorem zr_223_13 {hp sp tp : Nat} : zR hp sp tp 223 13 = some 234 := (zR_ne (by decide) (by decide)).trans (zrr 236 (by decide +kernel))
theorem zr_235_0 {hp sp tp : Nat} : zR hp sp tp 235 0 = some 236 := (zR_ne (by decide) (by decide)).trans (zrr 237 (by decide +kernel))
theorem zr_235_2 {hp sp tp : Nat} : zR hp sp tp 235 2 = some 237 := (zR_ne (by decide) (by decide)).trans (zrr 238 (by decide +kernel))
theorem zr_240_0 {hp sp tp : Nat} : zR hp sp tp 240 0 = some 241 := (zR_ne (by decide) (by decide)).trans (zrr 239 (by decide +kernel))
theorem zr_240_3 {hp sp tp : Nat} : zR hp sp tp 240 3 = some 242 := (zR_ne (by decide) (by decide)).trans (zrr 240 (by decide +kernel))
theorem zr_240_4 {hp sp tp : Nat} : zR hp sp tp 240 4 = some 243 := (zR_ne (by decide) (by decide)).trans (zrr 241 (by decide +kernel))
theorem zr_240_5 {hp sp tp : Nat} : zR hp sp tp 240 5 = some 244 := (zR_ne (by decide) (by decide)).trans (zrr 242 (by decide +kernel))
theorem zr_240_9 {hp sp tp : Nat} : zR hp sp tp 240 9 = some 245 := (zR_ne (by decide) (by decide)).trans (zrr 243 (by decide +kernel))
theorem zr_240_10 {hp sp tp : Nat} : zR hp sp tp 240 10 = some 246 := (zR_ne (by decide) (by decide)).trans (zrr 244 (by decide +kernel))
theorem zr_240_12 {hp sp tp : Nat} : zR hp sp tp 240 12 = some 247 := (zR_ne (by decide) (by decide)).trans (zrr 245 (by decide +kernel))
theorem zr_240_13 {hp sp tp : Nat} : zR hp sp tp 240 13 = some 248 := (zR_ne (by decide) (by decide)).trans (zrr 246 (by decide +kernel))
theorem zr_240_14 {hp sp tp : Nat} : zR hp sp tp 240 14 = some 249 := (zR_ne (by decide) (by decide)).trans (zrr 247 (by decide +kernel))
theorem zr_240_17 {hp sp tp : Nat} : zR hp sp tp 240 17 = some 250 := (zR_ne (by decide) (by decide)).trans (zrr 248 (by decide +kernel))
theorem zr_240_18 {hp sp tp : Nat} : zR hp sp tp 240 18 = some 251 := (zR_ne (by decide) (by decide)).trans (zrr 249 (by decide +kernel))
theorem zr_240_19 {hp sp tp : Nat} : zR hp sp tp 240 19 = some 252 := (zR_ne (by decide) (by decide)).trans (zrr 250 (by decide +kernel))
theorem zr_240_20 {hp sp tp : Nat} : zR hp sp tp 240 20 = some 253 := (zR_ne (by decide) (by decide)).trans (zrr 251 (by decide +kernel))
theorem zr_240_22 {hp sp tp : Nat} : zR hp sp tp 240 22 = some 254 := (zR_ne (by decide) (by decide)).trans (zrr 252 (by decide +kernel))
theorem zr_240_23 {hp sp tp : Nat} : zR hp sp tp 240 23 = some 255 := (zR_ne (by decide) (by decide)).trans (zrr 253 (by decide +kernel))
theorem zr_240_24 {hp sp tp : Nat} : zR hp sp tp 240 24 = some 256 := (zR_ne (by decide) (by decide)).trans (zrr 254 (by decide +kernel))
theorem zr_240_25 {hp sp tp : Nat} : zR hp sp tp 240 25 = some 257 := (zR_ne (by decide) (by decide)).trans (zrr 255 (by decide +kernel))
theorem zr_240_26 {hp sp tp : Nat} : zR hp sp tp 240 26 = some 258 := (zR_ne (by decide) (by decide)).trans (zrr 256 (by decide +kernel))
theorem zr_240_30 {hp sp tp : Nat} : zR hp sp tp 240 30 = some 259 := (zR_ne (by decide) (by decide)).trans (zrr 257 (by decide +kernel))
theorem zr_240_31 {hp sp tp : Nat} : zR hp sp tp 240 31 = some 260 := (zR_ne (by decide) (by decide)).trans (zrr 258 (by decide +kernel))
theorem zr_240_32 {hp sp tp : Nat} : zR hp sp tp 240 32 = some 261 := (zR_ne (by decide) (by decide)).trans (zrr 259 (by decide +kernel))
theorem zr_240_33 {hp sp tp : Nat} : zR hp sp tp 240 33 = some 262 := (zR_ne (by decide) (by decide)).trans (zrr 260 (by decide +kernel))
theorem zr_240_34 {hp sp tp : Nat} : zR hp sp tp 240 34 = some 263 := (zR_ne (by decide) (by decide)).trans (zrr 261 (by decide +kernel))
theorem zr_240_35 {hp sp tp : Nat} : zR hp sp tp 240 35 = some 264 := (zR_ne (by decide) (by decide)).trans (zrr 262 (by decide +kernel))
theorem zr_240_36 {hp sp tp : Nat} : zR hp sp tp 240 36 = some 265 := (zR_ne (by decide) (by decide)).trans (zrr 263 (by decide +kernel))
theorem zr_240_37 {hp sp tp : Nat} : zR hp sp tp 240 37 = some 266 := (zR_ne (by decide) (by decide)).trans (zrr 264 (by decide +kernel))
theorem zr_240_38 {hp sp tp : Nat} : zR hp sp tp 240 38 = some 267 := (zR_ne (by decide) (by decide)).trans (zrr 265 (by decide +kernel))
theorem zr_240_41 {hp sp tp : Nat} : zR hp sp tp 240 41 = some 268 := (zR_ne (by decide) (by decide)).trans (zrr 266 (by decide +kernel))
theorem zr_240_42 {hp sp tp : Nat} : zR hp sp tp 240 42 = some 269 := (zR_ne (by decide) (by decide)).trans (zrr 267 (by decide +kernel))
theorem zr_240_46 {hp sp tp : Nat} : zR hp sp tp 240 46 = some 270 := (zR_ne (by decide) (by decide)).trans (zrr 268 (by decide +kernel))
theorem zr_240_48 {hp sp tp : Nat} : zR hp sp tp 240 48 = some 271 := (zR_ne (by decide) (by decide)).trans (zrr 269 (by decide +kernel))
theorem zr_240_49 {hp sp tp : Nat} : zR hp sp tp 240 49 = some 272 := (zR_ne (by decide) (by decide)).trans (zrr 270 (by decide +kernel))
theorem zr_240_50 {hp sp tp : Nat} : zR hp sp tp 240 50 = some 273 := (zR_ne (by decide) (by decide)).trans (zrr 271 (by decide +kernel))
theorem zr_240_51 {hp sp tp : Nat} : zR hp sp tp 240 51 = some 274 := (zR_ne (by decide) (by decide)).trans (zrr 272 (by decide +kernel))
theorem zr_240_53 {hp sp tp : Nat} : zR hp sp tp 240 53 = some 275 := (zR_ne (by decide) (by decide)).trans (zrr 273 (by decide +kernel))
theorem zr_240_54 {hp sp tp : Nat} : zR hp sp tp 240 54 = some 276 := (zR_ne (by decide) (by decide)).trans (zrr 274 (by decide +kernel))
theorem zr_240_55 {hp sp tp : Nat} : zR hp sp tp 240 55 = some 277 := (zR_ne (by decide) (by decide)).trans (zrr 275 (by decide +kernel))
theorem zr_240_56 {hp sp tp : Nat} : zR hp sp tp 240 56 = some 278 := (zR_ne (by decide) (by decide)).trans (zrr 276 (by decide +kernel))
theorem zr_240_57 {hp sp tp : Nat} : zR hp sp tp 240 57 = some 279 := (zR_ne (by decide) (by decide)).trans (zrr 277 (by decide +kernel))
theorem zr_240_61 {hp sp tp : Nat} : zR hp sp tp 240 61 = some 280 := (zR_ne (by decide) (by decide)).trans (zrr 278 (by decide +kernel))
theorem zr_240_62 {hp sp tp : Nat} : zR hp sp tp 240 62 = some 281 := (zR_ne (by decide) (by decide)).trans (zrr 279 (by decide +kernel))
theorem zr_240_63 {hp sp tp : Nat} : zR hp sp tp 240 63 = some 282 := (zR_ne (by decide) (by decide)).trans (zrr 280 (by decide +kernel))
theorem zr_240_64 {hp sp tp : Nat} : zR hp sp tp 240 64 = some 283 := (zR_ne (by decide) (by decide)).trans (zrr 281 (by decide +kernel))
theorem zr_240_66 {hp sp tp : Nat} : zR hp sp tp 240 66 = some 284 := (zR_ne (by decide) (by decide)).trans (zrr 282 (by decide +kernel))
theorem zr_240_68 {hp sp tp : Nat} : zR hp sp tp 240 68 = some 285 := (zR_ne (by decide) (by decide)).trans (zrr 283 (by decide +kernel))
theorem zr_240_70 {hp sp tp : Nat} : zR hp sp tp 240 70 = some 286 := (zR_ne (by decide) (by decide)).trans (zrr 284 (by decide +kernel))
theorem zr_240_72 {hp sp tp : Nat} : zR hp sp tp 240 72 = some 287 := (zR_ne (by decide) (by decide)).trans (zrr 285 (by decide +kernel))
def zfam : List (Nat × Nat × Nat) := [(21, 4, 5), (22, 6, 3), (23, 100, 40), (24, 100, 40), (25, 6, 3), (26, 100, 40), (27, 100, 40), (28, 100, 40), (29, 100, 40)]
theorem zfam_ok : ∀ q ∈ zfam, ∀ r, r < 20 → zKL[q.1 + 9 * r]? = some (q.2.1, q.2.2) := by decide +kernel
theorem zff_21 {r k : Nat} (hr : r < 20) (hk : k < 5) : zF zE (21 + 9 * r) 4 k = True := zF_of (zkk _ (zfam_ok (21, 4, 5) (by decide) r hr)) (by omega) hk
theorem zfc_21 {r : Nat} (hr : r < 20) : zC zE (21 + 9 * r) 4 = True := zC_of (zkk _ (zfam_ok (21, 4, 5) (by decide) r hr)) (by omega)
theorem zff_22 {r k : Nat} (hr : r < 20) (hk : k < 3) : zF zE (22 + 9 * r) 6 k = True := zF_of (zkk _ (zfam_ok (22, 6, 3) (by decide) r hr)) (by omega) hk
theorem zfc_22 {r : Nat} (hr : r < 20) : zC zE (22 + 9 * r) 6 = True := zC_of (zkk _ (zfam_ok (22, 6, 3) (by decide) r hr)) (by omega)
theorem zff_25 {r k : Nat} (hr : r < 20) (hk : k < 3) : zF zE (25 + 9 * r) 6 k = True := zF_of (zkk _ (zfam_ok (25, 6, 3) (by decide) r hr)) (by omega) hk
theorem zfc_25 {r : Nat} (hr : r < 20) : zC zE (25 + 9 * r) 6 = True := zC_of (zkk _ (zfam_ok (25, 6, 3) (by decide) r hr)) (by omega)
theorem zfa_23 {r j : Nat} (hr : r < 20) (hj : j < 2147483648) : zA zE (23 + 9 * r) 100 (nI j) = (j < 40) := zA_of (zkk _ (zfam_ok (23, 100, 40) (by decide) r hr)) (by omega) hj
theorem zfa_24 {r j : Nat} (hr : r < 20) (hj : j < 2147483648) : zA zE (24 + 9 * r) 100 (nI j) = (j < 40) := zA_of (zkk _ (zfam_ok (24, 100, 40) (by decide) r hr)) (by omega) hj
theorem zfa_26 {r j : Nat} (hr : r < 20) (hj : j < 2147483648) : zA zE (26 + 9 * r) 100 (nI j) = (j < 40) := zA_of (zkk _ (zfam_ok (26, 100, 40) (by decide) r hr)) (by omega) hj
theorem zfa_27 {r j : Nat} (hr : r < 20) (hj : j < 2147483648) : zA zE (27 + 9 * r) 100 (nI j) = (j < 40) := zA_of (zkk _ (zfam_ok (27, 100, 40) (by decide) r hr)) (by omega) hj
theorem zfa_28 {r j : Nat} (hr : r < 20) (hj : j < 2147483648) : zA zE (28 + 9 * r) 100 (nI j) = (j < 40) := zA_of (zkk _ (zfam_ok (28, 100, 40) (by decide) r hr)) (by omega) hj
theorem zfa_29 {r j : Nat} (hr : r < 20) (hj : j < 2147483648) : zA zE (29 + 9 * r) 100 (nI j) = (j < 40) := zA_of (zkk _ (zfam_ok (29, 100, 40) (by decide) r hr)) (by omega) hj
def zrfam : List (Nat × Nat × Nat) := [(21, 0, 22), (21, 1, 25), (21, 2, 28), (21, 3, 29), (22, 0, 23), (22, 1, 24), (25, 0, 26), (25, 1, 27)]
theorem zrfam_ok : ∀ q ∈ zrfam, ∀ r, r < 20 → (q.1 + 9 * r, q.2.1, q.2.2 + 9 * r) ∈ zRL := by decide +kernel
theorem zrules_ok : ∀ r, r < 20 → (12, r, 21 + 9 * r) ∈ zRL := by decide +kernel
theorem zr_12 {hp sp tp r : Nat} (hr : r < 20) : zR hp sp tp 12 r = some (21 + 9 * r) := (zR_ne (by decide) (by decide)).trans (zchk_ok.2.2.1 _ (zrules_ok r hr))
theorem zfr_21_0 {hp sp tp r : Nat} (hr : r < 20) : zR hp sp tp (21 + 9 * r) 0 = some (22 + 9 * r) := (zR_ne (by omega) (by omega)).trans (zchk_ok.2.2.1 _ (zrfam_ok (21, 0, 22) (by decide) r hr))
theorem zfr_21_1 {hp sp tp r : Nat} (hr : r < 20) : zR hp sp tp (21 + 9 * r) 1 = some (25 + 9 * r) := (zR_ne (by omega) (by omega)).trans (zchk_ok.2.2.1 _ (zrfam_ok (21, 1, 25) (by decide) r hr))
theorem zfr_21_2 {hp sp tp r : Nat} (hr : r < 20) : zR hp sp tp (21 + 9 * r) 2 = some (28 + 9 * r) := (zR_ne (by omega) (by omega)).trans (zchk_ok.2.2.1 _ (zrfam_ok (21, 2, 28) (by decide) r hr))
theorem zfr_21_3 {hp sp tp r : Nat} (hr : r < 20) : zR hp sp tp (21 + 9 * r) 3 = some (29 + 9 * r) := (zR_ne (by omega) (by omega)).trans (zchk_ok.2.2.1 _ (zrfam_ok (21, 3, 29) (by decide) r hr))
theorem zfr_22_0 {hp sp tp r : Nat} (hr : r < 20) : zR hp sp tp (22 + 9 * r) 0 = some (23 + 9 * r) := (zR_ne (by omega) (by omega)).trans (zchk_ok.2.2.1 _ (zrfam_ok (22, 0, 23) (by decide) r hr))
theorem zfr_22_1 {hp sp tp r : Nat} (hr : r < 20) : zR hp sp tp (22 + 9 * r) 1 = some (24 + 9 * r) := (zR_ne (by omega) (by omega)).trans (zchk_ok.2.2.1 _ (zrfam_ok (22, 1, 24) (by decide) r hr))
theorem zfr_25_0 {hp sp tp r : Nat} (hr : r < 20) : zR hp sp tp (25 + 9 * r) 0 = some (26 + 9 * r) := (zR_ne (by omega) (by omega)).trans (zchk_ok.2.2.1 _ (zrfam_ok (25, 0, 26) (by decide) r hr))
theorem zfr_25_1 {hp sp tp r : Nat} (hr : r < 20) : zR hp sp tp (25 + 9 * r) 1 = some (27 + 9 * r) := (zR_ne (by omega) (by omega)).trans (zchk_ok.2.2.1 _ (zrfam_ok (25, 1, 27) (by decide) r hr))
