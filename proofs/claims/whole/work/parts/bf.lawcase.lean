/-! PRINTED by wip/gen/gen4.py: the law's cases -/
def YL : YT := (⟨"SinkingChoirLaw", "law", "([I)Z"⟩, code, 4, ret)
def lcl (i : Nat) : List (Option Value) := [some (.ref (LIM + 4)), some (.ref 0), some (.ref 49), some (.int (nI i))]
theorem vp_j {i j L : Nat} (h : i + j < L) (hL : L ≤ 3072) : vp_in (nI i + nI j) L := by rw [nI_add]; exact vp_in_nI h (by omega)
theorem aw_sldA {CK : CKT} {l : Launch} {Y : YT} {d nE sE pc : Nat} {loc : List (Option Value)} {st : List Value} {μ : MM} {L : Nat} {xs : Nat → Int32} (h : Scr CK L xs) (n : Nat) {a : Nat} {i : Int32} (hd : decode Y.2.1 pc = .ok (.iaload, 1)) (hn : pc + 1 = n) (hin : vp_in i L) (ha : a = LIM + 4) (k : AW CK l Y d nE sE n loc (.int (xs i.toNatClampNeg) :: st) μ) : AW CK l Y d nE sE pc loc (.int i :: .ref a :: st) μ := by
  subst ha
  exact aw_sld h n hd hn hin k
section
variable {CK : CKT} {l : Launch} {L : Nat} {xs : Nat → Int32} {nE sE : Nat}
theorem w_note (hS : Scr CK L xs) {i : Nat} (hi : i + 6 ≤ L) (hL : L ≤ 3072) {M : Nat} {μ : MM} (hJ : J M μ) (hM : M < 1000000) (K : ∀ μ2, J (M + 1) μ2 → AW CK l YL 140 nE sE 1205 (lcl i) [] μ2) : AW CK l YL 140 nE sE 176 (lcl i) [] μ := by
  obtain ⟨r, μ1, μ2, e1, e2, j⟩ := c_note hJ (xs (nI i + nI 1).toNatClampNeg) (xs (nI i + nI 2).toNatClampNeg) (xs (nI i + nI 3).toNatClampNeg) (xs (nI i + nI 4).toNatClampNeg) (xs (nI i + nI 5).toNatClampNeg)
  refine aw_aload_n 177 d_law_176 rfl rfl ?_
  refine aw_aload_n 178 d_law_177 rfl rfl ?_
  refine aw_iload_n 179 d_law_178 rfl rfl ?_
  refine aw_iconst (v := nI 1) 180 d_law_179 rfl (by decide) ?_
  refine aw_iadd 181 d_law_180 rfl ?_
  refine aw_sldA hS 182 d_law_181 rfl (vp_j (j := 1) (by omega) hL) rfl ?_
  refine aw_aload_n 183 d_law_182 rfl rfl ?_
  refine aw_iload_n 184 d_law_183 rfl rfl ?_
  refine aw_iconst (v := nI 2) 185 d_law_184 rfl (by decide) ?_
  refine aw_iadd 186 d_law_185 rfl ?_
  refine aw_sldA hS 187 d_law_186 rfl (vp_j (j := 2) (by omega) hL) rfl ?_
  refine aw_aload_n 188 d_law_187 rfl rfl ?_
  refine aw_iload_n 189 d_law_188 rfl rfl ?_
  refine aw_iconst (v := nI 3) 190 d_law_189 rfl (by decide) ?_
  refine aw_iadd 191 d_law_190 rfl ?_
  refine aw_sldA hS 192 d_law_191 rfl (vp_j (j := 3) (by omega) hL) rfl ?_
  refine aw_aload_n 193 d_law_192 rfl rfl ?_
  refine aw_iload_n 194 d_law_193 rfl rfl ?_
  refine aw_iconst (v := nI 4) 195 d_law_194 rfl (by decide) ?_
  refine aw_iadd 196 d_law_195 rfl ?_
  refine aw_sldA hS 197 d_law_196 rfl (vp_j (j := 4) (by omega) hL) rfl ?_
  refine aw_aload_n 198 d_law_197 rfl rfl ?_
  refine aw_iload_n 199 d_law_198 rfl rfl ?_
  refine aw_iconst (v := nI 5) 200 d_law_199 rfl (by decide) ?_
  refine aw_iadd 201 d_law_200 rfl ?_
  refine aw_sldA hS 202 d_law_201 rfl (vp_j (j := 5) (by omega) hL) rfl ?_
  refine aw_invV (rest := []) (st' := [.int r]) (As := [.int (xs (nI i + nI 1).toNatClampNeg), .int (xs (nI i + nI 2).toNatClampNeg), .int (xs (nI i + nI 3).toNatClampNeg), .int (xs (nI i + nI 4).toNatClampNeg), .int (xs (nI i + nI 5).toNatClampNeg)]) 205 d_law_202 rfl lv_Law_13 (m_X_note e1) (by decide) (k_X_note e1) rfl rfl rfl (Nat.le_of_ble_eq_true rfl) rfl ?_
  refine aw_aload_n 206 d_law_205 rfl rfl ?_
  refine aw_aload_n 207 d_law_206 rfl rfl ?_
  refine aw_iload_n 208 d_law_207 rfl rfl ?_
  refine aw_iconst (v := nI 1) 209 d_law_208 rfl (by decide) ?_
  refine aw_iadd 210 d_law_209 rfl ?_
  refine aw_sldA hS 211 d_law_210 rfl (vp_j (j := 1) (by omega) hL) rfl ?_
  refine aw_aload_n 212 d_law_211 rfl rfl ?_
  refine aw_iload_n 213 d_law_212 rfl rfl ?_
  refine aw_iconst (v := nI 2) 214 d_law_213 rfl (by decide) ?_
  refine aw_iadd 215 d_law_214 rfl ?_
  refine aw_sldA hS 216 d_law_215 rfl (vp_j (j := 2) (by omega) hL) rfl ?_
  refine aw_aload_n 217 d_law_216 rfl rfl ?_
  refine aw_iload_n 218 d_law_217 rfl rfl ?_
  refine aw_iconst (v := nI 3) 219 d_law_218 rfl (by decide) ?_
  refine aw_iadd 220 d_law_219 rfl ?_
  refine aw_sldA hS 221 d_law_220 rfl (vp_j (j := 3) (by omega) hL) rfl ?_
  refine aw_aload_n 222 d_law_221 rfl rfl ?_
  refine aw_iload_n 223 d_law_222 rfl rfl ?_
  refine aw_iconst (v := nI 4) 224 d_law_223 rfl (by decide) ?_
  refine aw_iadd 225 d_law_224 rfl ?_
  refine aw_sldA hS 226 d_law_225 rfl (vp_j (j := 4) (by omega) hL) rfl ?_
  refine aw_aload_n 227 d_law_226 rfl rfl ?_
  refine aw_iload_n 228 d_law_227 rfl rfl ?_
  refine aw_iconst (v := nI 5) 229 d_law_228 rfl (by decide) ?_
  refine aw_iadd 230 d_law_229 rfl ?_
  refine aw_sldA hS 231 d_law_230 rfl (vp_j (j := 5) (by omega) hL) rfl ?_
  refine aw_invV (rest := [.int r]) (st' := [.int r, .int r]) (As := [.int (xs (nI i + nI 1).toNatClampNeg), .int (xs (nI i + nI 2).toNatClampNeg), .int (xs (nI i + nI 3).toNatClampNeg), .int (xs (nI i + nI 4).toNatClampNeg), .int (xs (nI i + nI 5).toNatClampNeg)]) 234 d_law_231 rfl lv_Law_17 (m_M_note e2) (by decide) (k_M_note e2) rfl rfl rfl (Nat.le_of_ble_eq_true rfl) rfl ?_
  exact aw_icmp_eq 1205 237 d_law_234 (by decide) rfl (fun _ => K μ2 j) (fun h => absurd rfl h)
theorem w_silent (hS : Scr CK L xs) {i : Nat} (hi : i + 6 ≤ L) (hL : L ≤ 3072) {M : Nat} {μ : MM} (hJ : J M μ) (hM : M < 1000000) (K : ∀ μ2, J (M + 1) μ2 → AW CK l YL 140 nE sE 1205 (lcl i) [] μ2) : AW CK l YL 140 nE sE 239 (lcl i) [] μ := by
  obtain ⟨r, μ1, μ2, e1, e2, j⟩ := c_silent hJ (xs (nI i + nI 1).toNatClampNeg) (xs (nI i + nI 2).toNatClampNeg)
  refine aw_aload_n 240 d_law_239 rfl rfl ?_
  refine aw_aload_n 241 d_law_240 rfl rfl ?_
  refine aw_iload_n 242 d_law_241 rfl rfl ?_
  refine aw_iconst (v := nI 1) 243 d_law_242 rfl (by decide) ?_
  refine aw_iadd 244 d_law_243 rfl ?_
  refine aw_sldA hS 245 d_law_244 rfl (vp_j (j := 1) (by omega) hL) rfl ?_
  refine aw_aload_n 246 d_law_245 rfl rfl ?_
  refine aw_iload_n 247 d_law_246 rfl rfl ?_
  refine aw_iconst (v := nI 2) 248 d_law_247 rfl (by decide) ?_
  refine aw_iadd 249 d_law_248 rfl ?_
  refine aw_sldA hS 250 d_law_249 rfl (vp_j (j := 2) (by omega) hL) rfl ?_
  refine aw_invV (rest := []) (st' := [.int r]) (As := [.int (xs (nI i + nI 1).toNatClampNeg), .int (xs (nI i + nI 2).toNatClampNeg)]) 253 d_law_250 rfl lv_Law_18 (m_X_silent e1) (by decide) (k_X_silent e1) rfl rfl rfl (Nat.le_of_ble_eq_true rfl) rfl ?_
  refine aw_aload_n 254 d_law_253 rfl rfl ?_
  refine aw_aload_n 255 d_law_254 rfl rfl ?_
  refine aw_iload_n 256 d_law_255 rfl rfl ?_
  refine aw_iconst (v := nI 1) 257 d_law_256 rfl (by decide) ?_
  refine aw_iadd 258 d_law_257 rfl ?_
  refine aw_sldA hS 259 d_law_258 rfl (vp_j (j := 1) (by omega) hL) rfl ?_
  refine aw_aload_n 260 d_law_259 rfl rfl ?_
  refine aw_iload_n 261 d_law_260 rfl rfl ?_
  refine aw_iconst (v := nI 2) 262 d_law_261 rfl (by decide) ?_
  refine aw_iadd 263 d_law_262 rfl ?_
  refine aw_sldA hS 264 d_law_263 rfl (vp_j (j := 2) (by omega) hL) rfl ?_
  refine aw_invV (rest := [.int r]) (st' := [.int r, .int r]) (As := [.int (xs (nI i + nI 1).toNatClampNeg), .int (xs (nI i + nI 2).toNatClampNeg)]) 267 d_law_264 rfl lv_Law_22 (m_M_silent e2) (by decide) (k_M_silent e2) rfl rfl rfl (Nat.le_of_ble_eq_true rfl) rfl ?_
  exact aw_icmp_eq 1205 270 d_law_267 (by decide) rfl (fun _ => K μ2 j) (fun h => absurd rfl h)
theorem w_breath (hS : Scr CK L xs) {i : Nat} (hi : i + 6 ≤ L) (hL : L ≤ 3072) {M : Nat} {μ : MM} (hJ : J M μ) (hM : M < 1000000) (K : ∀ μ2, J (M + 1) μ2 → AW CK l YL 140 nE sE 1205 (lcl i) [] μ2) : AW CK l YL 140 nE sE 272 (lcl i) [] μ := by
  obtain ⟨r, μ1, μ2, e1, e2, j⟩ := c_breath hJ (xs (nI i + nI 1).toNatClampNeg) (xs (nI i + nI 2).toNatClampNeg) (decide (¬ (xs (nI i + nI 3).toNatClampNeg) = 0))
  refine aw_aload_n 273 d_law_272 rfl rfl ?_
  refine aw_aload_n 274 d_law_273 rfl rfl ?_
  refine aw_iload_n 275 d_law_274 rfl rfl ?_
  refine aw_iconst (v := nI 1) 276 d_law_275 rfl (by decide) ?_
  refine aw_iadd 277 d_law_276 rfl ?_
  refine aw_sldA hS 278 d_law_277 rfl (vp_j (j := 1) (by omega) hL) rfl ?_
  refine aw_aload_n 279 d_law_278 rfl rfl ?_
  refine aw_iload_n 280 d_law_279 rfl rfl ?_
  refine aw_iconst (v := nI 2) 281 d_law_280 rfl (by decide) ?_
  refine aw_iadd 282 d_law_281 rfl ?_
  refine aw_sldA hS 283 d_law_282 rfl (vp_j (j := 2) (by omega) hL) rfl ?_
  refine aw_aload_n 284 d_law_283 rfl rfl ?_
  refine aw_iload_n 285 d_law_284 rfl rfl ?_
  refine aw_iconst (v := nI 3) 286 d_law_285 rfl (by decide) ?_
  refine aw_iadd 287 d_law_286 rfl ?_
  refine aw_sldA hS 288 d_law_287 rfl (vp_j (j := 3) (by omega) hL) rfl ?_
  have hbX : AW CK l YL 140 nE sE 296 (lcl i) (.int (bi (decide (¬ (xs (nI i + nI 3).toNatClampNeg) = 0))) :: .int (xs (nI i + nI 2).toNatClampNeg) :: .int (xs (nI i + nI 1).toNatClampNeg) :: .ref 0 :: []) μ → AW CK l YL 140 nE sE 288 (lcl i) (.int (xs (nI i + nI 3).toNatClampNeg) :: .int (xs (nI i + nI 2).toNatClampNeg) :: .int (xs (nI i + nI 1).toNatClampNeg) :: .ref 0 :: []) μ := fun k => by
    by_cases c : (xs (nI i + nI 3).toNatClampNeg) = 0
    · rw [decide_eq_false (fun h => h c)] at k
      exact aw_if_eq 295 291 d_law_288 (by decide) rfl (fun _ => aw_iconst (v := 0) 296 d_law_295 rfl (by decide) k) (fun h => absurd c h)
    · rw [decide_eq_true c] at k
      exact aw_if_eq 295 291 d_law_288 (by decide) rfl (fun h => absurd h c) (fun _ => aw_iconst (v := 1) 292 d_law_291 rfl (by decide) (aw_goto 296 d_law_292 (by decide) k))
  refine hbX ?_
  refine aw_invV (rest := []) (st' := [.int r]) (As := [.int (xs (nI i + nI 1).toNatClampNeg), .int (xs (nI i + nI 2).toNatClampNeg), .int (bi (decide (¬ (xs (nI i + nI 3).toNatClampNeg) = 0)))]) 299 d_law_296 rfl lv_Law_23 (m_X_breath e1) (by decide) (k_X_breath e1) rfl rfl rfl (Nat.le_of_ble_eq_true rfl) rfl ?_
  refine aw_aload_n 300 d_law_299 rfl rfl ?_
  refine aw_aload_n 301 d_law_300 rfl rfl ?_
  refine aw_iload_n 302 d_law_301 rfl rfl ?_
  refine aw_iconst (v := nI 1) 303 d_law_302 rfl (by decide) ?_
  refine aw_iadd 304 d_law_303 rfl ?_
  refine aw_sldA hS 305 d_law_304 rfl (vp_j (j := 1) (by omega) hL) rfl ?_
  refine aw_aload_n 306 d_law_305 rfl rfl ?_
  refine aw_iload_n 307 d_law_306 rfl rfl ?_
  refine aw_iconst (v := nI 2) 308 d_law_307 rfl (by decide) ?_
  refine aw_iadd 309 d_law_308 rfl ?_
  refine aw_sldA hS 310 d_law_309 rfl (vp_j (j := 2) (by omega) hL) rfl ?_
  refine aw_aload_n 311 d_law_310 rfl rfl ?_
  refine aw_iload_n 312 d_law_311 rfl rfl ?_
  refine aw_iconst (v := nI 3) 313 d_law_312 rfl (by decide) ?_
  refine aw_iadd 314 d_law_313 rfl ?_
  refine aw_sldA hS 315 d_law_314 rfl (vp_j (j := 3) (by omega) hL) rfl ?_
  have hbM : AW CK l YL 140 nE sE 323 (lcl i) (.int (bi (decide (¬ (xs (nI i + nI 3).toNatClampNeg) = 0))) :: .int (xs (nI i + nI 2).toNatClampNeg) :: .int (xs (nI i + nI 1).toNatClampNeg) :: .ref 49 :: [.int r]) μ1 → AW CK l YL 140 nE sE 315 (lcl i) (.int (xs (nI i + nI 3).toNatClampNeg) :: .int (xs (nI i + nI 2).toNatClampNeg) :: .int (xs (nI i + nI 1).toNatClampNeg) :: .ref 49 :: [.int r]) μ1 := fun k => by
    by_cases c : (xs (nI i + nI 3).toNatClampNeg) = 0
    · rw [decide_eq_false (fun h => h c)] at k
      exact aw_if_eq 322 318 d_law_315 (by decide) rfl (fun _ => aw_iconst (v := 0) 323 d_law_322 rfl (by decide) k) (fun h => absurd c h)
    · rw [decide_eq_true c] at k
      exact aw_if_eq 322 318 d_law_315 (by decide) rfl (fun h => absurd h c) (fun _ => aw_iconst (v := 1) 319 d_law_318 rfl (by decide) (aw_goto 323 d_law_319 (by decide) k))
  refine hbM ?_
  refine aw_invV (rest := [.int r]) (st' := [.int r, .int r]) (As := [.int (xs (nI i + nI 1).toNatClampNeg), .int (xs (nI i + nI 2).toNatClampNeg), .int (bi (decide (¬ (xs (nI i + nI 3).toNatClampNeg) = 0)))]) 326 d_law_323 rfl lv_Law_27 (m_M_breath e2) (by decide) (k_M_breath e2) rfl rfl rfl (Nat.le_of_ble_eq_true rfl) rfl ?_
  exact aw_icmp_eq 1205 329 d_law_326 (by decide) rfl (fun _ => K μ2 j) (fun h => absurd rfl h)
theorem w_size (hS : Scr CK L xs) {i : Nat} (hi : i + 6 ≤ L) (hL : L ≤ 3072) {M : Nat} {μ : MM} (hJ : J M μ) (hM : M < 1000000) (K : ∀ μ2, J (M + 1) μ2 → AW CK l YL 140 nE sE 1205 (lcl i) [] μ2) : AW CK l YL 140 nE sE 331 (lcl i) [] μ := by
  obtain ⟨r, e1, e2⟩ := c_size hJ (xs (nI i + nI 1).toNatClampNeg) (xs (nI i + nI 2).toNatClampNeg)
  have j := hJ.up
  refine aw_aload_n 332 d_law_331 rfl rfl ?_
  refine aw_aload_n 333 d_law_332 rfl rfl ?_
  refine aw_iload_n 334 d_law_333 rfl rfl ?_
  refine aw_iconst (v := nI 1) 335 d_law_334 rfl (by decide) ?_
  refine aw_iadd 336 d_law_335 rfl ?_
  refine aw_sldA hS 337 d_law_336 rfl (vp_j (j := 1) (by omega) hL) rfl ?_
  refine aw_aload_n 338 d_law_337 rfl rfl ?_
  refine aw_iload_n 339 d_law_338 rfl rfl ?_
  refine aw_iconst (v := nI 2) 340 d_law_339 rfl (by decide) ?_
  refine aw_iadd 341 d_law_340 rfl ?_
  refine aw_sldA hS 342 d_law_341 rfl (vp_j (j := 2) (by omega) hL) rfl ?_
  refine aw_invV (rest := []) (st' := [.int r]) (As := [.int (xs (nI i + nI 1).toNatClampNeg), .int (xs (nI i + nI 2).toNatClampNeg)]) 345 d_law_342 rfl lv_Law_28 (m_X_size e1) (by decide) (k_X_size e1) rfl rfl rfl (Nat.le_of_ble_eq_true rfl) rfl ?_
  refine aw_aload_n 346 d_law_345 rfl rfl ?_
  refine aw_aload_n 347 d_law_346 rfl rfl ?_
  refine aw_iload_n 348 d_law_347 rfl rfl ?_
  refine aw_iconst (v := nI 1) 349 d_law_348 rfl (by decide) ?_
  refine aw_iadd 350 d_law_349 rfl ?_
  refine aw_sldA hS 351 d_law_350 rfl (vp_j (j := 1) (by omega) hL) rfl ?_
  refine aw_aload_n 352 d_law_351 rfl rfl ?_
  refine aw_iload_n 353 d_law_352 rfl rfl ?_
  refine aw_iconst (v := nI 2) 354 d_law_353 rfl (by decide) ?_
  refine aw_iadd 355 d_law_354 rfl ?_
  refine aw_sldA hS 356 d_law_355 rfl (vp_j (j := 2) (by omega) hL) rfl ?_
  refine aw_invV (rest := [.int r]) (st' := [.int r, .int r]) (As := [.int (xs (nI i + nI 1).toNatClampNeg), .int (xs (nI i + nI 2).toNatClampNeg)]) 359 d_law_356 rfl lv_Law_32 (m_M_size e2) (by decide) (k_M_size e2) rfl rfl rfl (Nat.le_of_ble_eq_true rfl) rfl ?_
  exact aw_icmp_eq 1205 362 d_law_359 (by decide) rfl (fun _ => K μ j) (fun h => absurd rfl h)
theorem w_link (hS : Scr CK L xs) {i : Nat} (hi : i + 6 ≤ L) (hL : L ≤ 3072) {M : Nat} {μ : MM} (hJ : J M μ) (hM : M < 1000000) (K : ∀ μ2, J (M + 1) μ2 → AW CK l YL 140 nE sE 1205 (lcl i) [] μ2) : AW CK l YL 140 nE sE 364 (lcl i) [] μ := by
  obtain ⟨r, μ1, μ2, e1, e2, j⟩ := c_link hJ (xs (nI i + nI 1).toNatClampNeg) (xs (nI i + nI 2).toNatClampNeg)
  refine aw_aload_n 365 d_law_364 rfl rfl ?_
  refine aw_aload_n 366 d_law_365 rfl rfl ?_
  refine aw_iload_n 367 d_law_366 rfl rfl ?_
  refine aw_iconst (v := nI 1) 368 d_law_367 rfl (by decide) ?_
  refine aw_iadd 369 d_law_368 rfl ?_
  refine aw_sldA hS 370 d_law_369 rfl (vp_j (j := 1) (by omega) hL) rfl ?_
  refine aw_aload_n 371 d_law_370 rfl rfl ?_
  refine aw_iload_n 372 d_law_371 rfl rfl ?_
  refine aw_iconst (v := nI 2) 373 d_law_372 rfl (by decide) ?_
  refine aw_iadd 374 d_law_373 rfl ?_
  refine aw_sldA hS 375 d_law_374 rfl (vp_j (j := 2) (by omega) hL) rfl ?_
  refine aw_invV (rest := []) (st' := [.int r]) (As := [.int (xs (nI i + nI 1).toNatClampNeg), .int (xs (nI i + nI 2).toNatClampNeg)]) 378 d_law_375 rfl lv_Law_33 (m_X_link e1) (by decide) (k_X_link e1) rfl rfl rfl (Nat.le_of_ble_eq_true rfl) rfl ?_
  refine aw_aload_n 379 d_law_378 rfl rfl ?_
  refine aw_aload_n 380 d_law_379 rfl rfl ?_
  refine aw_iload_n 381 d_law_380 rfl rfl ?_
  refine aw_iconst (v := nI 1) 382 d_law_381 rfl (by decide) ?_
  refine aw_iadd 383 d_law_382 rfl ?_
  refine aw_sldA hS 384 d_law_383 rfl (vp_j (j := 1) (by omega) hL) rfl ?_
  refine aw_aload_n 385 d_law_384 rfl rfl ?_
  refine aw_iload_n 386 d_law_385 rfl rfl ?_
  refine aw_iconst (v := nI 2) 387 d_law_386 rfl (by decide) ?_
  refine aw_iadd 388 d_law_387 rfl ?_
  refine aw_sldA hS 389 d_law_388 rfl (vp_j (j := 2) (by omega) hL) rfl ?_
  refine aw_invV (rest := [.int r]) (st' := [.int r, .int r]) (As := [.int (xs (nI i + nI 1).toNatClampNeg), .int (xs (nI i + nI 2).toNatClampNeg)]) 392 d_law_389 rfl lv_Law_36 (m_M_link e2) (by decide) (k_M_link e2) rfl rfl rfl (Nat.le_of_ble_eq_true rfl) rfl ?_
  exact aw_icmp_eq 1205 395 d_law_392 (by decide) rfl (fun _ => K μ2 j) (fun h => absurd rfl h)
theorem w_keynote (hS : Scr CK L xs) {i : Nat} (hi : i + 6 ≤ L) (hL : L ≤ 3072) {M : Nat} {μ : MM} (hJ : J M μ) (hM : M < 1000000) (K : ∀ μ2, J (M + 1) μ2 → AW CK l YL 140 nE sE 1205 (lcl i) [] μ2) : AW CK l YL 140 nE sE 397 (lcl i) [] μ := by
  obtain ⟨r, μ2, e1, e2, j⟩ := c_keynote hJ (xs (nI i + nI 1).toNatClampNeg) (xs (nI i + nI 2).toNatClampNeg)
  refine aw_aload_n 398 d_law_397 rfl rfl ?_
  refine aw_aload_n 399 d_law_398 rfl rfl ?_
  refine aw_iload_n 400 d_law_399 rfl rfl ?_
  refine aw_iconst (v := nI 1) 401 d_law_400 rfl (by decide) ?_
  refine aw_iadd 402 d_law_401 rfl ?_
  refine aw_sldA hS 403 d_law_402 rfl (vp_j (j := 1) (by omega) hL) rfl ?_
  refine aw_aload_n 404 d_law_403 rfl rfl ?_
  refine aw_iload_n 405 d_law_404 rfl rfl ?_
  refine aw_iconst (v := nI 2) 406 d_law_405 rfl (by decide) ?_
  refine aw_iadd 407 d_law_406 rfl ?_
  refine aw_sldA hS 408 d_law_407 rfl (vp_j (j := 2) (by omega) hL) rfl ?_
  refine aw_invV (rest := []) (st' := [.int r]) (As := [.int (xs (nI i + nI 1).toNatClampNeg), .int (xs (nI i + nI 2).toNatClampNeg)]) 411 d_law_408 rfl lv_Law_37 (m_X_keynote e1) (by decide) (k_X_keynote e1) rfl rfl rfl (Nat.le_of_ble_eq_true rfl) rfl ?_
  refine aw_aload_n 412 d_law_411 rfl rfl ?_
  refine aw_aload_n 413 d_law_412 rfl rfl ?_
  refine aw_iload_n 414 d_law_413 rfl rfl ?_
  refine aw_iconst (v := nI 1) 415 d_law_414 rfl (by decide) ?_
  refine aw_iadd 416 d_law_415 rfl ?_
  refine aw_sldA hS 417 d_law_416 rfl (vp_j (j := 1) (by omega) hL) rfl ?_
  refine aw_aload_n 418 d_law_417 rfl rfl ?_
  refine aw_iload_n 419 d_law_418 rfl rfl ?_
  refine aw_iconst (v := nI 2) 420 d_law_419 rfl (by decide) ?_
  refine aw_iadd 421 d_law_420 rfl ?_
  refine aw_sldA hS 422 d_law_421 rfl (vp_j (j := 2) (by omega) hL) rfl ?_
  refine aw_invV (rest := [.int r]) (st' := [.int r, .int r]) (As := [.int (xs (nI i + nI 1).toNatClampNeg), .int (xs (nI i + nI 2).toNatClampNeg)]) 425 d_law_422 rfl lv_Law_40 (m_M_keynote e2) (by decide) (k_M_keynote e2) rfl rfl rfl (Nat.le_of_ble_eq_true rfl) rfl ?_
  exact aw_icmp_eq 1205 428 d_law_425 (by decide) rfl (fun _ => K μ2 j) (fun h => absurd rfl h)
theorem w_torn (hS : Scr CK L xs) {i : Nat} (hi : i + 6 ≤ L) (hL : L ≤ 3072) {M : Nat} {μ : MM} (hJ : J M μ) (hM : M < 1000000) (K : ∀ μ2, J (M + 1) μ2 → AW CK l YL 140 nE sE 1205 (lcl i) [] μ2) : AW CK l YL 140 nE sE 430 (lcl i) [] μ := by
  obtain ⟨r, e1, e2⟩ := c_torn hJ (xs (nI i + nI 1).toNatClampNeg) (xs (nI i + nI 2).toNatClampNeg)
  have j := hJ.up
  refine aw_aload_n 431 d_law_430 rfl rfl ?_
  refine aw_aload_n 432 d_law_431 rfl rfl ?_
  refine aw_iload_n 433 d_law_432 rfl rfl ?_
  refine aw_iconst (v := nI 1) 434 d_law_433 rfl (by decide) ?_
  refine aw_iadd 435 d_law_434 rfl ?_
  refine aw_sldA hS 436 d_law_435 rfl (vp_j (j := 1) (by omega) hL) rfl ?_
  refine aw_aload_n 437 d_law_436 rfl rfl ?_
  refine aw_iload_n 438 d_law_437 rfl rfl ?_
  refine aw_iconst (v := nI 2) 439 d_law_438 rfl (by decide) ?_
  refine aw_iadd 440 d_law_439 rfl ?_
  refine aw_sldA hS 441 d_law_440 rfl (vp_j (j := 2) (by omega) hL) rfl ?_
  refine aw_invV (rest := []) (st' := [.int r]) (As := [.int (xs (nI i + nI 1).toNatClampNeg), .int (xs (nI i + nI 2).toNatClampNeg)]) 444 d_law_441 rfl lv_Law_41 (m_X_torn e1) (by decide) (k_X_torn e1) rfl rfl rfl (Nat.le_of_ble_eq_true rfl) rfl ?_
  refine aw_aload_n 445 d_law_444 rfl rfl ?_
  refine aw_aload_n 446 d_law_445 rfl rfl ?_
  refine aw_iload_n 447 d_law_446 rfl rfl ?_
  refine aw_iconst (v := nI 1) 448 d_law_447 rfl (by decide) ?_
  refine aw_iadd 449 d_law_448 rfl ?_
  refine aw_sldA hS 450 d_law_449 rfl (vp_j (j := 1) (by omega) hL) rfl ?_
  refine aw_aload_n 451 d_law_450 rfl rfl ?_
  refine aw_iload_n 452 d_law_451 rfl rfl ?_
  refine aw_iconst (v := nI 2) 453 d_law_452 rfl (by decide) ?_
  refine aw_iadd 454 d_law_453 rfl ?_
  refine aw_sldA hS 455 d_law_454 rfl (vp_j (j := 2) (by omega) hL) rfl ?_
  refine aw_invV (rest := [.int r]) (st' := [.int r, .int r]) (As := [.int (xs (nI i + nI 1).toNatClampNeg), .int (xs (nI i + nI 2).toNatClampNeg)]) 458 d_law_455 rfl lv_Law_44 (m_M_torn e2) (by decide) (k_M_torn e2) rfl rfl rfl (Nat.le_of_ble_eq_true rfl) rfl ?_
  exact aw_icmp_eq 1205 461 d_law_458 (by decide) rfl (fun _ => K μ j) (fun h => absurd rfl h)
theorem w_sink (hS : Scr CK L xs) {i : Nat} (hi : i + 6 ≤ L) (hL : L ≤ 3072) {M : Nat} {μ : MM} (hJ : J M μ) (hM : M < 1000000) (K : ∀ μ2, J (M + 1) μ2 → AW CK l YL 140 nE sE 1205 (lcl i) [] μ2) : AW CK l YL 140 nE sE 463 (lcl i) [] μ := by
  obtain ⟨r, μ2, e1, e2, j⟩ := c_sink hJ (xs (nI i + nI 1).toNatClampNeg)
  refine aw_aload_n 464 d_law_463 rfl rfl ?_
  refine aw_aload_n 465 d_law_464 rfl rfl ?_
  refine aw_iload_n 466 d_law_465 rfl rfl ?_
  refine aw_iconst (v := nI 1) 467 d_law_466 rfl (by decide) ?_
  refine aw_iadd 468 d_law_467 rfl ?_
  refine aw_sldA hS 469 d_law_468 rfl (vp_j (j := 1) (by omega) hL) rfl ?_
  refine aw_invV (rest := []) (st' := [.int r]) (As := [.int (xs (nI i + nI 1).toNatClampNeg)]) 472 d_law_469 rfl lv_Law_45 (m_X_sink e1) (by decide) (k_X_sink e1) rfl rfl rfl (Nat.le_of_ble_eq_true rfl) rfl ?_
  refine aw_aload_n 473 d_law_472 rfl rfl ?_
  refine aw_aload_n 474 d_law_473 rfl rfl ?_
  refine aw_iload_n 475 d_law_474 rfl rfl ?_
  refine aw_iconst (v := nI 1) 476 d_law_475 rfl (by decide) ?_
  refine aw_iadd 477 d_law_476 rfl ?_
  refine aw_sldA hS 478 d_law_477 rfl (vp_j (j := 1) (by omega) hL) rfl ?_
  refine aw_invV (rest := [.int r]) (st' := [.int r, .int r]) (As := [.int (xs (nI i + nI 1).toNatClampNeg)]) 481 d_law_478 rfl lv_Law_49 (m_M_sink e2) (by decide) (k_M_sink e2) rfl rfl rfl (Nat.le_of_ble_eq_true rfl) rfl ?_
  exact aw_icmp_eq 1205 484 d_law_481 (by decide) rfl (fun _ => K μ2 j) (fun h => absurd rfl h)
theorem w_way (hS : Scr CK L xs) {i : Nat} (hi : i + 6 ≤ L) (hL : L ≤ 3072) {M : Nat} {μ : MM} (hJ : J M μ) (hM : M < 1000000) (K : ∀ μ2, J (M + 1) μ2 → AW CK l YL 140 nE sE 1205 (lcl i) [] μ2) : AW CK l YL 140 nE sE 486 (lcl i) [] μ := by
  obtain ⟨r, μ1, μ2, e1, e2, j⟩ := c_way hJ (xs (nI i + nI 1).toNatClampNeg)
  refine aw_aload_n 487 d_law_486 rfl rfl ?_
  refine aw_aload_n 488 d_law_487 rfl rfl ?_
  refine aw_iload_n 489 d_law_488 rfl rfl ?_
  refine aw_iconst (v := nI 1) 490 d_law_489 rfl (by decide) ?_
  refine aw_iadd 491 d_law_490 rfl ?_
  refine aw_sldA hS 492 d_law_491 rfl (vp_j (j := 1) (by omega) hL) rfl ?_
  refine aw_invV (rest := []) (st' := [.int r]) (As := [.int (xs (nI i + nI 1).toNatClampNeg)]) 495 d_law_492 rfl lv_Law_50 (m_X_way e1) (by decide) (k_X_way e1) rfl rfl rfl (Nat.le_of_ble_eq_true rfl) rfl ?_
  refine aw_aload_n 496 d_law_495 rfl rfl ?_
  refine aw_aload_n 497 d_law_496 rfl rfl ?_
  refine aw_iload_n 498 d_law_497 rfl rfl ?_
  refine aw_iconst (v := nI 1) 499 d_law_498 rfl (by decide) ?_
  refine aw_iadd 500 d_law_499 rfl ?_
  refine aw_sldA hS 501 d_law_500 rfl (vp_j (j := 1) (by omega) hL) rfl ?_
  refine aw_invV (rest := [.int r]) (st' := [.int r, .int r]) (As := [.int (xs (nI i + nI 1).toNatClampNeg)]) 504 d_law_501 rfl lv_Law_53 (m_M_way e2) (by decide) (k_M_way e2) rfl rfl rfl (Nat.le_of_ble_eq_true rfl) rfl ?_
  exact aw_icmp_eq 1205 507 d_law_504 (by decide) rfl (fun _ => K μ2 j) (fun h => absurd rfl h)
theorem w_change (hS : Scr CK L xs) {i : Nat} (hi : i + 6 ≤ L) (hL : L ≤ 3072) {M : Nat} {μ : MM} (hJ : J M μ) (hM : M < 1000000) (K : ∀ μ2, J (M + 1) μ2 → AW CK l YL 140 nE sE 1205 (lcl i) [] μ2) : AW CK l YL 140 nE sE 509 (lcl i) [] μ := by
  obtain ⟨r, μ1, μ2, e1, e2, j⟩ := c_change hJ (xs (nI i + nI 1).toNatClampNeg)
  refine aw_aload_n 510 d_law_509 rfl rfl ?_
  refine aw_aload_n 511 d_law_510 rfl rfl ?_
  refine aw_iload_n 512 d_law_511 rfl rfl ?_
  refine aw_iconst (v := nI 1) 513 d_law_512 rfl (by decide) ?_
  refine aw_iadd 514 d_law_513 rfl ?_
  refine aw_sldA hS 515 d_law_514 rfl (vp_j (j := 1) (by omega) hL) rfl ?_
  refine aw_invV (rest := []) (st' := [.int r]) (As := [.int (xs (nI i + nI 1).toNatClampNeg)]) 518 d_law_515 rfl lv_Law_54 (m_X_change e1) (by decide) (k_X_change e1) rfl rfl rfl (Nat.le_of_ble_eq_true rfl) rfl ?_
  refine aw_aload_n 519 d_law_518 rfl rfl ?_
  refine aw_aload_n 520 d_law_519 rfl rfl ?_
  refine aw_iload_n 521 d_law_520 rfl rfl ?_
  refine aw_iconst (v := nI 1) 522 d_law_521 rfl (by decide) ?_
  refine aw_iadd 523 d_law_522 rfl ?_
  refine aw_sldA hS 524 d_law_523 rfl (vp_j (j := 1) (by omega) hL) rfl ?_
  refine aw_invV (rest := [.int r]) (st' := [.int r, .int r]) (As := [.int (xs (nI i + nI 1).toNatClampNeg)]) 527 d_law_524 rfl lv_Law_57 (m_M_change e2) (by decide) (k_M_change e2) rfl rfl rfl (Nat.le_of_ble_eq_true rfl) rfl ?_
  exact aw_icmp_eq 1205 530 d_law_527 (by decide) rfl (fun _ => K μ2 j) (fun h => absurd rfl h)
theorem w_bounded (hS : Scr CK L xs) {i : Nat} (hi : i + 6 ≤ L) (hL : L ≤ 3072) {M : Nat} {μ : MM} (hJ : J M μ) (hM : M < 1000000) (K : ∀ μ2, J (M + 1) μ2 → AW CK l YL 140 nE sE 1205 (lcl i) [] μ2) : AW CK l YL 140 nE sE 532 (lcl i) [] μ := by
  obtain ⟨r, μ1, μ2, e1, e2, j⟩ := c_bounded hJ (xs (nI i + nI 1).toNatClampNeg)
  refine aw_aload_n 533 d_law_532 rfl rfl ?_
  refine aw_aload_n 534 d_law_533 rfl rfl ?_
  refine aw_iload_n 535 d_law_534 rfl rfl ?_
  refine aw_iconst (v := nI 1) 536 d_law_535 rfl (by decide) ?_
  refine aw_iadd 537 d_law_536 rfl ?_
  refine aw_sldA hS 538 d_law_537 rfl (vp_j (j := 1) (by omega) hL) rfl ?_
  refine aw_invV (rest := []) (st' := [.int r]) (As := [.int (xs (nI i + nI 1).toNatClampNeg)]) 541 d_law_538 rfl lv_Law_58 (m_X_bounded e1) (by decide) (k_X_bounded e1) rfl rfl rfl (Nat.le_of_ble_eq_true rfl) rfl ?_
  refine aw_aload_n 542 d_law_541 rfl rfl ?_
  refine aw_aload_n 543 d_law_542 rfl rfl ?_
  refine aw_iload_n 544 d_law_543 rfl rfl ?_
  refine aw_iconst (v := nI 1) 545 d_law_544 rfl (by decide) ?_
  refine aw_iadd 546 d_law_545 rfl ?_
  refine aw_sldA hS 547 d_law_546 rfl (vp_j (j := 1) (by omega) hL) rfl ?_
  refine aw_invV (rest := [.int r]) (st' := [.int r, .int r]) (As := [.int (xs (nI i + nI 1).toNatClampNeg)]) 550 d_law_547 rfl lv_Law_61 (m_M_bounded e2) (by decide) (k_M_bounded e2) rfl rfl rfl (Nat.le_of_ble_eq_true rfl) rfl ?_
  exact aw_icmp_eq 1205 553 d_law_550 (by decide) rfl (fun _ => K μ2 j) (fun h => absurd rfl h)
theorem w_singer (hS : Scr CK L xs) {i : Nat} (hi : i + 6 ≤ L) (hL : L ≤ 3072) {M : Nat} {μ : MM} (hJ : J M μ) (hM : M < 1000000) (K : ∀ μ2, J (M + 1) μ2 → AW CK l YL 140 nE sE 1205 (lcl i) [] μ2) : AW CK l YL 140 nE sE 555 (lcl i) [] μ := by
  obtain ⟨r, μ1, μ2, e1, e2, j⟩ := c_singer hJ (xs (nI i + nI 1).toNatClampNeg) (xs (nI i + nI 2).toNatClampNeg) (xs (nI i + nI 3).toNatClampNeg) (xs (nI i + nI 4).toNatClampNeg)
  refine aw_aload_n 556 d_law_555 rfl rfl ?_
  refine aw_aload_n 557 d_law_556 rfl rfl ?_
  refine aw_iload_n 558 d_law_557 rfl rfl ?_
  refine aw_iconst (v := nI 1) 559 d_law_558 rfl (by decide) ?_
  refine aw_iadd 560 d_law_559 rfl ?_
  refine aw_sldA hS 561 d_law_560 rfl (vp_j (j := 1) (by omega) hL) rfl ?_
  refine aw_aload_n 562 d_law_561 rfl rfl ?_
  refine aw_iload_n 563 d_law_562 rfl rfl ?_
  refine aw_iconst (v := nI 2) 564 d_law_563 rfl (by decide) ?_
  refine aw_iadd 565 d_law_564 rfl ?_
  refine aw_sldA hS 566 d_law_565 rfl (vp_j (j := 2) (by omega) hL) rfl ?_
  refine aw_aload_n 567 d_law_566 rfl rfl ?_
  refine aw_iload_n 568 d_law_567 rfl rfl ?_
  refine aw_iconst (v := nI 3) 569 d_law_568 rfl (by decide) ?_
  refine aw_iadd 570 d_law_569 rfl ?_
  refine aw_sldA hS 571 d_law_570 rfl (vp_j (j := 3) (by omega) hL) rfl ?_
  refine aw_aload_n 572 d_law_571 rfl rfl ?_
  refine aw_iload_n 573 d_law_572 rfl rfl ?_
  refine aw_iconst (v := nI 4) 574 d_law_573 rfl (by decide) ?_
  refine aw_iadd 575 d_law_574 rfl ?_
  refine aw_sldA hS 576 d_law_575 rfl (vp_j (j := 4) (by omega) hL) rfl ?_
  refine aw_invV (rest := []) (st' := [.int r]) (As := [.int (xs (nI i + nI 1).toNatClampNeg), .int (xs (nI i + nI 2).toNatClampNeg), .int (xs (nI i + nI 3).toNatClampNeg), .int (xs (nI i + nI 4).toNatClampNeg)]) 579 d_law_576 rfl lv_Law_62 (m_X_singer e1) (by decide) (k_X_singer e1) rfl rfl rfl (Nat.le_of_ble_eq_true rfl) rfl ?_
  refine aw_aload_n 580 d_law_579 rfl rfl ?_
  refine aw_aload_n 581 d_law_580 rfl rfl ?_
  refine aw_iload_n 582 d_law_581 rfl rfl ?_
  refine aw_iconst (v := nI 1) 583 d_law_582 rfl (by decide) ?_
  refine aw_iadd 584 d_law_583 rfl ?_
  refine aw_sldA hS 585 d_law_584 rfl (vp_j (j := 1) (by omega) hL) rfl ?_
  refine aw_aload_n 586 d_law_585 rfl rfl ?_
  refine aw_iload_n 587 d_law_586 rfl rfl ?_
  refine aw_iconst (v := nI 2) 588 d_law_587 rfl (by decide) ?_
  refine aw_iadd 589 d_law_588 rfl ?_
  refine aw_sldA hS 590 d_law_589 rfl (vp_j (j := 2) (by omega) hL) rfl ?_
  refine aw_aload_n 591 d_law_590 rfl rfl ?_
  refine aw_iload_n 592 d_law_591 rfl rfl ?_
  refine aw_iconst (v := nI 3) 593 d_law_592 rfl (by decide) ?_
  refine aw_iadd 594 d_law_593 rfl ?_
  refine aw_sldA hS 595 d_law_594 rfl (vp_j (j := 3) (by omega) hL) rfl ?_
  refine aw_aload_n 596 d_law_595 rfl rfl ?_
  refine aw_iload_n 597 d_law_596 rfl rfl ?_
  refine aw_iconst (v := nI 4) 598 d_law_597 rfl (by decide) ?_
  refine aw_iadd 599 d_law_598 rfl ?_
  refine aw_sldA hS 600 d_law_599 rfl (vp_j (j := 4) (by omega) hL) rfl ?_
  refine aw_invV (rest := [.int r]) (st' := [.int r, .int r]) (As := [.int (xs (nI i + nI 1).toNatClampNeg), .int (xs (nI i + nI 2).toNatClampNeg), .int (xs (nI i + nI 3).toNatClampNeg), .int (xs (nI i + nI 4).toNatClampNeg)]) 603 d_law_600 rfl lv_Law_66 (m_M_singer e2) (by decide) (k_M_singer e2) rfl rfl rfl (Nat.le_of_ble_eq_true rfl) rfl ?_
  exact aw_icmp_eq 1205 606 d_law_603 (by decide) rfl (fun _ => K μ2 j) (fun h => absurd rfl h)
theorem w_place (hS : Scr CK L xs) {i : Nat} (hi : i + 6 ≤ L) (hL : L ≤ 3072) {M : Nat} {μ : MM} (hJ : J M μ) (hM : M < 1000000) (K : ∀ μ2, J (M + 1) μ2 → AW CK l YL 140 nE sE 1205 (lcl i) [] μ2) : AW CK l YL 140 nE sE 608 (lcl i) [] μ := by
  obtain ⟨r, μ1, μ2, e1, e2, j⟩ := c_place hJ (xs (nI i + nI 1).toNatClampNeg) (xs (nI i + nI 2).toNatClampNeg)
  refine aw_aload_n 609 d_law_608 rfl rfl ?_
  refine aw_aload_n 610 d_law_609 rfl rfl ?_
  refine aw_iload_n 611 d_law_610 rfl rfl ?_
  refine aw_iconst (v := nI 1) 612 d_law_611 rfl (by decide) ?_
  refine aw_iadd 613 d_law_612 rfl ?_
  refine aw_sldA hS 614 d_law_613 rfl (vp_j (j := 1) (by omega) hL) rfl ?_
  refine aw_aload_n 615 d_law_614 rfl rfl ?_
  refine aw_iload_n 616 d_law_615 rfl rfl ?_
  refine aw_iconst (v := nI 2) 617 d_law_616 rfl (by decide) ?_
  refine aw_iadd 618 d_law_617 rfl ?_
  refine aw_sldA hS 619 d_law_618 rfl (vp_j (j := 2) (by omega) hL) rfl ?_
  refine aw_invV (rest := []) (st' := [.int r]) (As := [.int (xs (nI i + nI 1).toNatClampNeg), .int (xs (nI i + nI 2).toNatClampNeg)]) 622 d_law_619 rfl lv_Law_67 (m_X_place e1) (by decide) (k_X_place e1) rfl rfl rfl (Nat.le_of_ble_eq_true rfl) rfl ?_
  refine aw_aload_n 623 d_law_622 rfl rfl ?_
  refine aw_aload_n 624 d_law_623 rfl rfl ?_
  refine aw_iload_n 625 d_law_624 rfl rfl ?_
  refine aw_iconst (v := nI 1) 626 d_law_625 rfl (by decide) ?_
  refine aw_iadd 627 d_law_626 rfl ?_
  refine aw_sldA hS 628 d_law_627 rfl (vp_j (j := 1) (by omega) hL) rfl ?_
  refine aw_aload_n 629 d_law_628 rfl rfl ?_
  refine aw_iload_n 630 d_law_629 rfl rfl ?_
  refine aw_iconst (v := nI 2) 631 d_law_630 rfl (by decide) ?_
  refine aw_iadd 632 d_law_631 rfl ?_
  refine aw_sldA hS 633 d_law_632 rfl (vp_j (j := 2) (by omega) hL) rfl ?_
  refine aw_invV (rest := [.int r]) (st' := [.int r, .int r]) (As := [.int (xs (nI i + nI 1).toNatClampNeg), .int (xs (nI i + nI 2).toNatClampNeg)]) 636 d_law_633 rfl lv_Law_70 (m_M_place e2) (by decide) (k_M_place e2) rfl rfl rfl (Nat.le_of_ble_eq_true rfl) rfl ?_
  exact aw_icmp_eq 1205 639 d_law_636 (by decide) rfl (fun _ => K μ2 j) (fun h => absurd rfl h)
theorem w_table (hS : Scr CK L xs) {i : Nat} (hi : i + 6 ≤ L) (hL : L ≤ 3072) {M : Nat} {μ : MM} (hJ : J M μ) (hM : M < 1000000) (K : ∀ μ2, J (M + 1) μ2 → AW CK l YL 140 nE sE 1205 (lcl i) [] μ2) : AW CK l YL 140 nE sE 641 (lcl i) [] μ := by
  obtain ⟨r, μ1, μ2, e1, e2, j⟩ := c_table hJ (xs (nI i + nI 1).toNatClampNeg) (xs (nI i + nI 2).toNatClampNeg)
  refine aw_aload_n 642 d_law_641 rfl rfl ?_
  refine aw_aload_n 643 d_law_642 rfl rfl ?_
  refine aw_iload_n 644 d_law_643 rfl rfl ?_
  refine aw_iconst (v := nI 1) 645 d_law_644 rfl (by decide) ?_
  refine aw_iadd 646 d_law_645 rfl ?_
  refine aw_sldA hS 647 d_law_646 rfl (vp_j (j := 1) (by omega) hL) rfl ?_
  refine aw_aload_n 648 d_law_647 rfl rfl ?_
  refine aw_iload_n 649 d_law_648 rfl rfl ?_
  refine aw_iconst (v := nI 2) 650 d_law_649 rfl (by decide) ?_
  refine aw_iadd 651 d_law_650 rfl ?_
  refine aw_sldA hS 652 d_law_651 rfl (vp_j (j := 2) (by omega) hL) rfl ?_
  refine aw_invV (rest := []) (st' := [.int r]) (As := [.int (xs (nI i + nI 1).toNatClampNeg), .int (xs (nI i + nI 2).toNatClampNeg)]) 655 d_law_652 rfl lv_Law_71 (m_X_table e1) (by decide) (k_X_table e1) rfl rfl rfl (Nat.le_of_ble_eq_true rfl) rfl ?_
  refine aw_aload_n 656 d_law_655 rfl rfl ?_
  refine aw_aload_n 657 d_law_656 rfl rfl ?_
  refine aw_iload_n 658 d_law_657 rfl rfl ?_
  refine aw_iconst (v := nI 1) 659 d_law_658 rfl (by decide) ?_
  refine aw_iadd 660 d_law_659 rfl ?_
  refine aw_sldA hS 661 d_law_660 rfl (vp_j (j := 1) (by omega) hL) rfl ?_
  refine aw_aload_n 662 d_law_661 rfl rfl ?_
  refine aw_iload_n 663 d_law_662 rfl rfl ?_
  refine aw_iconst (v := nI 2) 664 d_law_663 rfl (by decide) ?_
  refine aw_iadd 665 d_law_664 rfl ?_
  refine aw_sldA hS 666 d_law_665 rfl (vp_j (j := 2) (by omega) hL) rfl ?_
  refine aw_invV (rest := [.int r]) (st' := [.int r, .int r]) (As := [.int (xs (nI i + nI 1).toNatClampNeg), .int (xs (nI i + nI 2).toNatClampNeg)]) 669 d_law_666 rfl lv_Law_74 (m_M_table e2) (by decide) (k_M_table e2) rfl rfl rfl (Nat.le_of_ble_eq_true rfl) rfl ?_
  exact aw_icmp_eq 1205 672 d_law_669 (by decide) rfl (fun _ => K μ2 j) (fun h => absurd rfl h)
theorem w_seed (hS : Scr CK L xs) {i : Nat} (hi : i + 6 ≤ L) (hL : L ≤ 3072) {M : Nat} {μ : MM} (hJ : J M μ) (hM : M < 1000000) (K : ∀ μ2, J (M + 1) μ2 → AW CK l YL 140 nE sE 1205 (lcl i) [] μ2) : AW CK l YL 140 nE sE 674 (lcl i) [] μ := by
  obtain ⟨r, μ1, μ2, e1, e2, j⟩ := c_seed hJ (xs (nI i + nI 1).toNatClampNeg)
  refine aw_aload_n 675 d_law_674 rfl rfl ?_
  refine aw_aload_n 676 d_law_675 rfl rfl ?_
  refine aw_iload_n 677 d_law_676 rfl rfl ?_
  refine aw_iconst (v := nI 1) 678 d_law_677 rfl (by decide) ?_
  refine aw_iadd 679 d_law_678 rfl ?_
  refine aw_sldA hS 680 d_law_679 rfl (vp_j (j := 1) (by omega) hL) rfl ?_
  refine aw_invV (rest := []) (st' := [.int r]) (As := [.int (xs (nI i + nI 1).toNatClampNeg)]) 683 d_law_680 rfl lv_Law_75 (m_X_seed e1) (by decide) (k_X_seed e1) rfl rfl rfl (Nat.le_of_ble_eq_true rfl) rfl ?_
  refine aw_aload_n 684 d_law_683 rfl rfl ?_
  refine aw_aload_n 685 d_law_684 rfl rfl ?_
  refine aw_iload_n 686 d_law_685 rfl rfl ?_
  refine aw_iconst (v := nI 1) 687 d_law_686 rfl (by decide) ?_
  refine aw_iadd 688 d_law_687 rfl ?_
  refine aw_sldA hS 689 d_law_688 rfl (vp_j (j := 1) (by omega) hL) rfl ?_
  refine aw_invV (rest := [.int r]) (st' := [.int r, .int r]) (As := [.int (xs (nI i + nI 1).toNatClampNeg)]) 692 d_law_689 rfl lv_Law_79 (m_M_seed e2) (by decide) (k_M_seed e2) rfl rfl rfl (Nat.le_of_ble_eq_true rfl) rfl ?_
  exact aw_icmp_eq 1205 695 d_law_692 (by decide) rfl (fun _ => K μ2 j) (fun h => absurd rfl h)
theorem w_blown (hS : Scr CK L xs) {i : Nat} (hi : i + 6 ≤ L) (hL : L ≤ 3072) {M : Nat} {μ : MM} (hJ : J M μ) (hM : M < 1000000) (K : ∀ μ2, J (M + 1) μ2 → AW CK l YL 140 nE sE 1205 (lcl i) [] μ2) : AW CK l YL 140 nE sE 697 (lcl i) [] μ := by
  obtain ⟨r, μ1, μ2, e1, e2, j⟩ := c_blown hJ (xs (nI i + nI 1).toNatClampNeg)
  refine aw_aload_n 698 d_law_697 rfl rfl ?_
  refine aw_aload_n 699 d_law_698 rfl rfl ?_
  refine aw_iload_n 700 d_law_699 rfl rfl ?_
  refine aw_iconst (v := nI 1) 701 d_law_700 rfl (by decide) ?_
  refine aw_iadd 702 d_law_701 rfl ?_
  refine aw_sldA hS 703 d_law_702 rfl (vp_j (j := 1) (by omega) hL) rfl ?_
  refine aw_invV (rest := []) (st' := [.int r]) (As := [.int (xs (nI i + nI 1).toNatClampNeg)]) 706 d_law_703 rfl lv_Law_80 (m_X_blown e1) (by decide) (k_X_blown e1) rfl rfl rfl (Nat.le_of_ble_eq_true rfl) rfl ?_
  refine aw_aload_n 707 d_law_706 rfl rfl ?_
  refine aw_aload_n 708 d_law_707 rfl rfl ?_
  refine aw_iload_n 709 d_law_708 rfl rfl ?_
  refine aw_iconst (v := nI 1) 710 d_law_709 rfl (by decide) ?_
  refine aw_iadd 711 d_law_710 rfl ?_
  refine aw_sldA hS 712 d_law_711 rfl (vp_j (j := 1) (by omega) hL) rfl ?_
  refine aw_invV (rest := [.int r]) (st' := [.int r, .int r]) (As := [.int (xs (nI i + nI 1).toNatClampNeg)]) 715 d_law_712 rfl lv_Law_83 (m_M_blown e2) (by decide) (k_M_blown e2) rfl rfl rfl (Nat.le_of_ble_eq_true rfl) rfl ?_
  exact aw_icmp_eq 1205 718 d_law_715 (by decide) rfl (fun _ => K μ2 j) (fun h => absurd rfl h)
theorem w_given (hS : Scr CK L xs) {i : Nat} (hi : i + 6 ≤ L) (hL : L ≤ 3072) {M : Nat} {μ : MM} (hJ : J M μ) (hM : M < 1000000) (K : ∀ μ2, J (M + 1) μ2 → AW CK l YL 140 nE sE 1205 (lcl i) [] μ2) : AW CK l YL 140 nE sE 720 (lcl i) [] μ := by
  obtain ⟨r, μ1, μ2, e1, e2, j⟩ := c_given hJ (xs (nI i + nI 1).toNatClampNeg)
  refine aw_aload_n 721 d_law_720 rfl rfl ?_
  refine aw_aload_n 722 d_law_721 rfl rfl ?_
  refine aw_iload_n 723 d_law_722 rfl rfl ?_
  refine aw_iconst (v := nI 1) 724 d_law_723 rfl (by decide) ?_
  refine aw_iadd 725 d_law_724 rfl ?_
  refine aw_sldA hS 726 d_law_725 rfl (vp_j (j := 1) (by omega) hL) rfl ?_
  refine aw_invV (rest := []) (st' := [.int r]) (As := [.int (xs (nI i + nI 1).toNatClampNeg)]) 729 d_law_726 rfl lv_Law_84 (m_X_given e1) (by decide) (k_X_given e1) rfl rfl rfl (Nat.le_of_ble_eq_true rfl) rfl ?_
  refine aw_aload_n 730 d_law_729 rfl rfl ?_
  refine aw_aload_n 731 d_law_730 rfl rfl ?_
  refine aw_iload_n 732 d_law_731 rfl rfl ?_
  refine aw_iconst (v := nI 1) 733 d_law_732 rfl (by decide) ?_
  refine aw_iadd 734 d_law_733 rfl ?_
  refine aw_sldA hS 735 d_law_734 rfl (vp_j (j := 1) (by omega) hL) rfl ?_
  refine aw_invV (rest := [.int r]) (st' := [.int r, .int r]) (As := [.int (xs (nI i + nI 1).toNatClampNeg)]) 738 d_law_735 rfl lv_Law_87 (m_M_given e2) (by decide) (k_M_given e2) rfl rfl rfl (Nat.le_of_ble_eq_true rfl) rfl ?_
  exact aw_icmp_eq 1205 741 d_law_738 (by decide) rfl (fun _ => K μ2 j) (fun h => absurd rfl h)
theorem w_feed (hS : Scr CK L xs) {i : Nat} (hi : i + 6 ≤ L) (hL : L ≤ 3072) {M : Nat} {μ : MM} (hJ : J M μ) (hM : M < 1000000) (K : ∀ μ2, J (M + 1) μ2 → AW CK l YL 140 nE sE 1205 (lcl i) [] μ2) : AW CK l YL 140 nE sE 743 (lcl i) [] μ := by
  obtain ⟨r, μ1, μ2, e1, e2, j⟩ := c_feed hJ (xs (nI i + nI 1).toNatClampNeg) (xs (nI i + nI 2).toNatClampNeg) (xs (nI i + nI 3).toNatClampNeg) (xs (nI i + nI 4).toNatClampNeg) (xs (nI i + nI 5).toNatClampNeg)
  refine aw_aload_n 744 d_law_743 rfl rfl ?_
  refine aw_aload_n 745 d_law_744 rfl rfl ?_
  refine aw_iload_n 746 d_law_745 rfl rfl ?_
  refine aw_iconst (v := nI 1) 747 d_law_746 rfl (by decide) ?_
  refine aw_iadd 748 d_law_747 rfl ?_
  refine aw_sldA hS 749 d_law_748 rfl (vp_j (j := 1) (by omega) hL) rfl ?_
  refine aw_aload_n 750 d_law_749 rfl rfl ?_
  refine aw_iload_n 751 d_law_750 rfl rfl ?_
  refine aw_iconst (v := nI 2) 752 d_law_751 rfl (by decide) ?_
  refine aw_iadd 753 d_law_752 rfl ?_
  refine aw_sldA hS 754 d_law_753 rfl (vp_j (j := 2) (by omega) hL) rfl ?_
  refine aw_aload_n 755 d_law_754 rfl rfl ?_
  refine aw_iload_n 756 d_law_755 rfl rfl ?_
  refine aw_iconst (v := nI 3) 757 d_law_756 rfl (by decide) ?_
  refine aw_iadd 758 d_law_757 rfl ?_
  refine aw_sldA hS 759 d_law_758 rfl (vp_j (j := 3) (by omega) hL) rfl ?_
  refine aw_aload_n 760 d_law_759 rfl rfl ?_
  refine aw_iload_n 761 d_law_760 rfl rfl ?_
  refine aw_iconst (v := nI 4) 762 d_law_761 rfl (by decide) ?_
  refine aw_iadd 763 d_law_762 rfl ?_
  refine aw_sldA hS 764 d_law_763 rfl (vp_j (j := 4) (by omega) hL) rfl ?_
  refine aw_aload_n 765 d_law_764 rfl rfl ?_
  refine aw_iload_n 766 d_law_765 rfl rfl ?_
  refine aw_iconst (v := nI 5) 767 d_law_766 rfl (by decide) ?_
  refine aw_iadd 768 d_law_767 rfl ?_
  refine aw_sldA hS 769 d_law_768 rfl (vp_j (j := 5) (by omega) hL) rfl ?_
  refine aw_invV (rest := []) (st' := [.int r]) (As := [.int (xs (nI i + nI 1).toNatClampNeg), .int (xs (nI i + nI 2).toNatClampNeg), .int (xs (nI i + nI 3).toNatClampNeg), .int (xs (nI i + nI 4).toNatClampNeg), .int (xs (nI i + nI 5).toNatClampNeg)]) 772 d_law_769 rfl lv_Law_88 (m_X_feed e1) (by decide) (k_X_feed e1) rfl rfl rfl (Nat.le_of_ble_eq_true rfl) rfl ?_
  refine aw_aload_n 773 d_law_772 rfl rfl ?_
  refine aw_aload_n 774 d_law_773 rfl rfl ?_
  refine aw_iload_n 775 d_law_774 rfl rfl ?_
  refine aw_iconst (v := nI 1) 776 d_law_775 rfl (by decide) ?_
  refine aw_iadd 777 d_law_776 rfl ?_
  refine aw_sldA hS 778 d_law_777 rfl (vp_j (j := 1) (by omega) hL) rfl ?_
  refine aw_aload_n 779 d_law_778 rfl rfl ?_
  refine aw_iload_n 780 d_law_779 rfl rfl ?_
  refine aw_iconst (v := nI 2) 781 d_law_780 rfl (by decide) ?_
  refine aw_iadd 782 d_law_781 rfl ?_
  refine aw_sldA hS 783 d_law_782 rfl (vp_j (j := 2) (by omega) hL) rfl ?_
  refine aw_aload_n 784 d_law_783 rfl rfl ?_
  refine aw_iload_n 785 d_law_784 rfl rfl ?_
  refine aw_iconst (v := nI 3) 786 d_law_785 rfl (by decide) ?_
  refine aw_iadd 787 d_law_786 rfl ?_
  refine aw_sldA hS 788 d_law_787 rfl (vp_j (j := 3) (by omega) hL) rfl ?_
  refine aw_aload_n 789 d_law_788 rfl rfl ?_
  refine aw_iload_n 790 d_law_789 rfl rfl ?_
  refine aw_iconst (v := nI 4) 791 d_law_790 rfl (by decide) ?_
  refine aw_iadd 792 d_law_791 rfl ?_
  refine aw_sldA hS 793 d_law_792 rfl (vp_j (j := 4) (by omega) hL) rfl ?_
  refine aw_aload_n 794 d_law_793 rfl rfl ?_
  refine aw_iload_n 795 d_law_794 rfl rfl ?_
  refine aw_iconst (v := nI 5) 796 d_law_795 rfl (by decide) ?_
  refine aw_iadd 797 d_law_796 rfl ?_
  refine aw_sldA hS 798 d_law_797 rfl (vp_j (j := 5) (by omega) hL) rfl ?_
  refine aw_invV (rest := [.int r]) (st' := [.int r, .int r]) (As := [.int (xs (nI i + nI 1).toNatClampNeg), .int (xs (nI i + nI 2).toNatClampNeg), .int (xs (nI i + nI 3).toNatClampNeg), .int (xs (nI i + nI 4).toNatClampNeg), .int (xs (nI i + nI 5).toNatClampNeg)]) 801 d_law_798 rfl lv_Law_92 (m_M_feed e2) (by decide) (k_M_feed e2) rfl rfl rfl (Nat.le_of_ble_eq_true rfl) rfl ?_
  exact aw_icmp_eq 1205 804 d_law_801 (by decide) rfl (fun _ => K μ2 j) (fun h => absurd rfl h)
theorem w_text (hS : Scr CK L xs) {i : Nat} (hi : i + 6 ≤ L) (hL : L ≤ 3072) {M : Nat} {μ : MM} (hJ : J M μ) (hM : M < 1000000) (K : ∀ μ2, J (M + 1) μ2 → AW CK l YL 140 nE sE 1205 (lcl i) [] μ2) : AW CK l YL 140 nE sE 806 (lcl i) [] μ := by
  obtain ⟨r, μ1, μ2, e1, e2, j⟩ := c_text hJ (xs (nI i + nI 1).toNatClampNeg)
  refine aw_aload_n 807 d_law_806 rfl rfl ?_
  refine aw_aload_n 808 d_law_807 rfl rfl ?_
  refine aw_iload_n 809 d_law_808 rfl rfl ?_
  refine aw_iconst (v := nI 1) 810 d_law_809 rfl (by decide) ?_
  refine aw_iadd 811 d_law_810 rfl ?_
  refine aw_sldA hS 812 d_law_811 rfl (vp_j (j := 1) (by omega) hL) rfl ?_
  refine aw_invV (rest := []) (st' := [.int r]) (As := [.int (xs (nI i + nI 1).toNatClampNeg)]) 815 d_law_812 rfl lv_Law_93 (m_X_text e1) (by decide) (k_X_text e1) rfl rfl rfl (Nat.le_of_ble_eq_true rfl) rfl ?_
  refine aw_aload_n 816 d_law_815 rfl rfl ?_
  refine aw_aload_n 817 d_law_816 rfl rfl ?_
  refine aw_iload_n 818 d_law_817 rfl rfl ?_
  refine aw_iconst (v := nI 1) 819 d_law_818 rfl (by decide) ?_
  refine aw_iadd 820 d_law_819 rfl ?_
  refine aw_sldA hS 821 d_law_820 rfl (vp_j (j := 1) (by omega) hL) rfl ?_
  refine aw_invV (rest := [.int r]) (st' := [.int r, .int r]) (As := [.int (xs (nI i + nI 1).toNatClampNeg)]) 824 d_law_821 rfl lv_Law_96 (m_M_text e2) (by decide) (k_M_text e2) rfl rfl rfl (Nat.le_of_ble_eq_true rfl) rfl ?_
  exact aw_icmp_eq 1205 827 d_law_824 (by decide) rfl (fun _ => K μ2 j) (fun h => absurd rfl h)
theorem w_pitch (hS : Scr CK L xs) {i : Nat} (hi : i + 6 ≤ L) (hL : L ≤ 3072) {M : Nat} {μ : MM} (hJ : J M μ) (hM : M < 1000000) (K : ∀ μ2, J (M + 1) μ2 → AW CK l YL 140 nE sE 1205 (lcl i) [] μ2) : AW CK l YL 140 nE sE 829 (lcl i) [] μ := by
  obtain ⟨r, μ1, μ2, e1, e2, j⟩ := c_pitch hJ (xs (nI i + nI 1).toNatClampNeg) (xs (nI i + nI 2).toNatClampNeg)
  refine aw_aload_n 830 d_law_829 rfl rfl ?_
  refine aw_aload_n 831 d_law_830 rfl rfl ?_
  refine aw_iload_n 832 d_law_831 rfl rfl ?_
  refine aw_iconst (v := nI 1) 833 d_law_832 rfl (by decide) ?_
  refine aw_iadd 834 d_law_833 rfl ?_
  refine aw_sldA hS 835 d_law_834 rfl (vp_j (j := 1) (by omega) hL) rfl ?_
  refine aw_aload_n 836 d_law_835 rfl rfl ?_
  refine aw_iload_n 837 d_law_836 rfl rfl ?_
  refine aw_iconst (v := nI 2) 838 d_law_837 rfl (by decide) ?_
  refine aw_iadd 839 d_law_838 rfl ?_
  refine aw_sldA hS 840 d_law_839 rfl (vp_j (j := 2) (by omega) hL) rfl ?_
  refine aw_invV (rest := []) (st' := [.int r]) (As := [.int (xs (nI i + nI 1).toNatClampNeg), .int (xs (nI i + nI 2).toNatClampNeg)]) 843 d_law_840 rfl lv_Law_97 (m_X_pitch e1) (by decide) (k_X_pitch e1) rfl rfl rfl (Nat.le_of_ble_eq_true rfl) rfl ?_
  refine aw_aload_n 844 d_law_843 rfl rfl ?_
  refine aw_aload_n 845 d_law_844 rfl rfl ?_
  refine aw_iload_n 846 d_law_845 rfl rfl ?_
  refine aw_iconst (v := nI 1) 847 d_law_846 rfl (by decide) ?_
  refine aw_iadd 848 d_law_847 rfl ?_
  refine aw_sldA hS 849 d_law_848 rfl (vp_j (j := 1) (by omega) hL) rfl ?_
  refine aw_aload_n 850 d_law_849 rfl rfl ?_
  refine aw_iload_n 851 d_law_850 rfl rfl ?_
  refine aw_iconst (v := nI 2) 852 d_law_851 rfl (by decide) ?_
  refine aw_iadd 853 d_law_852 rfl ?_
  refine aw_sldA hS 854 d_law_853 rfl (vp_j (j := 2) (by omega) hL) rfl ?_
  refine aw_invV (rest := [.int r]) (st' := [.int r, .int r]) (As := [.int (xs (nI i + nI 1).toNatClampNeg), .int (xs (nI i + nI 2).toNatClampNeg)]) 857 d_law_854 rfl lv_Law_100 (m_M_pitch e2) (by decide) (k_M_pitch e2) rfl rfl rfl (Nat.le_of_ble_eq_true rfl) rfl ?_
  exact aw_icmp_eq 1205 860 d_law_857 (by decide) rfl (fun _ => K μ2 j) (fun h => absurd rfl h)
theorem w_beat (hS : Scr CK L xs) {i : Nat} (hi : i + 6 ≤ L) (hL : L ≤ 3072) {M : Nat} {μ : MM} (hJ : J M μ) (hM : M < 1000000) (K : ∀ μ2, J (M + 1) μ2 → AW CK l YL 140 nE sE 1205 (lcl i) [] μ2) : AW CK l YL 140 nE sE 862 (lcl i) [] μ := by
  obtain ⟨r, μ1, μ2, e1, e2, j⟩ := c_beat hJ (xs (nI i + nI 1).toNatClampNeg) (xs (nI i + nI 2).toNatClampNeg)
  refine aw_aload_n 863 d_law_862 rfl rfl ?_
  refine aw_aload_n 864 d_law_863 rfl rfl ?_
  refine aw_iload_n 865 d_law_864 rfl rfl ?_
  refine aw_iconst (v := nI 1) 866 d_law_865 rfl (by decide) ?_
  refine aw_iadd 867 d_law_866 rfl ?_
  refine aw_sldA hS 868 d_law_867 rfl (vp_j (j := 1) (by omega) hL) rfl ?_
  refine aw_aload_n 869 d_law_868 rfl rfl ?_
  refine aw_iload_n 870 d_law_869 rfl rfl ?_
  refine aw_iconst (v := nI 2) 871 d_law_870 rfl (by decide) ?_
  refine aw_iadd 872 d_law_871 rfl ?_
  refine aw_sldA hS 873 d_law_872 rfl (vp_j (j := 2) (by omega) hL) rfl ?_
  refine aw_invV (rest := []) (st' := [.long r]) (As := [.int (xs (nI i + nI 1).toNatClampNeg), .int (xs (nI i + nI 2).toNatClampNeg)]) 876 d_law_873 rfl lv_Law_101 (m_X_beat e1) (by decide) (k_X_beat e1) rfl rfl rfl (Nat.le_of_ble_eq_true rfl) rfl ?_
  refine aw_aload_n 877 d_law_876 rfl rfl ?_
  refine aw_aload_n 878 d_law_877 rfl rfl ?_
  refine aw_iload_n 879 d_law_878 rfl rfl ?_
  refine aw_iconst (v := nI 1) 880 d_law_879 rfl (by decide) ?_
  refine aw_iadd 881 d_law_880 rfl ?_
  refine aw_sldA hS 882 d_law_881 rfl (vp_j (j := 1) (by omega) hL) rfl ?_
  refine aw_aload_n 883 d_law_882 rfl rfl ?_
  refine aw_iload_n 884 d_law_883 rfl rfl ?_
  refine aw_iconst (v := nI 2) 885 d_law_884 rfl (by decide) ?_
  refine aw_iadd 886 d_law_885 rfl ?_
  refine aw_sldA hS 887 d_law_886 rfl (vp_j (j := 2) (by omega) hL) rfl ?_
  refine aw_invV (rest := [.long r]) (st' := [.long r, .long r]) (As := [.int (xs (nI i + nI 1).toNatClampNeg), .int (xs (nI i + nI 2).toNatClampNeg)]) 890 d_law_887 rfl lv_Law_105 (m_M_beat e2) (by decide) (k_M_beat e2) rfl rfl rfl (Nat.le_of_ble_eq_true rfl) rfl ?_
  refine aw_lcmp 891 d_law_890 rfl ?_
  exact aw_if_eq 1205 894 d_law_891 (by decide) rfl (fun _ => K μ2 j) (fun h => absurd ((lgc_eq r r).mpr rfl) h)
theorem w_sunk (hS : Scr CK L xs) {i : Nat} (hi : i + 6 ≤ L) (hL : L ≤ 3072) {M : Nat} {μ : MM} (hJ : J M μ) (hM : M < 1000000) (K : ∀ μ2, J (M + 1) μ2 → AW CK l YL 140 nE sE 1205 (lcl i) [] μ2) : AW CK l YL 140 nE sE 896 (lcl i) [] μ := by
  obtain ⟨r, μ1, μ2, e1, e2, j⟩ := c_sunk hJ (xs (nI i + nI 1).toNatClampNeg)
  refine aw_aload_n 897 d_law_896 rfl rfl ?_
  refine aw_aload_n 898 d_law_897 rfl rfl ?_
  refine aw_iload_n 899 d_law_898 rfl rfl ?_
  refine aw_iconst (v := nI 1) 900 d_law_899 rfl (by decide) ?_
  refine aw_iadd 901 d_law_900 rfl ?_
  refine aw_sldA hS 902 d_law_901 rfl (vp_j (j := 1) (by omega) hL) rfl ?_
  refine aw_invV (rest := []) (st' := [.long r]) (As := [.int (xs (nI i + nI 1).toNatClampNeg)]) 905 d_law_902 rfl lv_Law_106 (m_X_sunk e1) (by decide) (k_X_sunk e1) rfl rfl rfl (Nat.le_of_ble_eq_true rfl) rfl ?_
  refine aw_aload_n 906 d_law_905 rfl rfl ?_
  refine aw_aload_n 907 d_law_906 rfl rfl ?_
  refine aw_iload_n 908 d_law_907 rfl rfl ?_
  refine aw_iconst (v := nI 1) 909 d_law_908 rfl (by decide) ?_
  refine aw_iadd 910 d_law_909 rfl ?_
  refine aw_sldA hS 911 d_law_910 rfl (vp_j (j := 1) (by omega) hL) rfl ?_
  refine aw_invV (rest := [.long r]) (st' := [.long r, .long r]) (As := [.int (xs (nI i + nI 1).toNatClampNeg)]) 914 d_law_911 rfl lv_Law_110 (m_M_sunk e2) (by decide) (k_M_sunk e2) rfl rfl rfl (Nat.le_of_ble_eq_true rfl) rfl ?_
  refine aw_lcmp 915 d_law_914 rfl ?_
  exact aw_if_eq 1205 918 d_law_915 (by decide) rfl (fun _ => K μ2 j) (fun h => absurd ((lgc_eq r r).mpr rfl) h)
theorem w_hears (hS : Scr CK L xs) {i : Nat} (hi : i + 6 ≤ L) (hL : L ≤ 3072) {M : Nat} {μ : MM} (hJ : J M μ) (hM : M < 1000000) (K : ∀ μ2, J (M + 1) μ2 → AW CK l YL 140 nE sE 1205 (lcl i) [] μ2) : AW CK l YL 140 nE sE 920 (lcl i) [] μ := by
  obtain ⟨r, μ2, e1, e2, j⟩ := c_hears hJ (xs (nI i + nI 1).toNatClampNeg) (xs (nI i + nI 2).toNatClampNeg)
  refine aw_aload_n 921 d_law_920 rfl rfl ?_
  refine aw_aload_n 922 d_law_921 rfl rfl ?_
  refine aw_iload_n 923 d_law_922 rfl rfl ?_
  refine aw_iconst (v := nI 1) 924 d_law_923 rfl (by decide) ?_
  refine aw_iadd 925 d_law_924 rfl ?_
  refine aw_sldA hS 926 d_law_925 rfl (vp_j (j := 1) (by omega) hL) rfl ?_
  refine aw_aload_n 927 d_law_926 rfl rfl ?_
  refine aw_iload_n 928 d_law_927 rfl rfl ?_
  refine aw_iconst (v := nI 2) 929 d_law_928 rfl (by decide) ?_
  refine aw_iadd 930 d_law_929 rfl ?_
  refine aw_sldA hS 931 d_law_930 rfl (vp_j (j := 2) (by omega) hL) rfl ?_
  refine aw_invV (rest := []) (st' := [.int r]) (As := [.int (xs (nI i + nI 1).toNatClampNeg), .int (xs (nI i + nI 2).toNatClampNeg)]) 934 d_law_931 rfl lv_Law_111 (m_X_hears e1) (by decide) (k_X_hears e1) rfl rfl rfl (Nat.le_of_ble_eq_true rfl) rfl ?_
  refine aw_aload_n 935 d_law_934 rfl rfl ?_
  refine aw_aload_n 936 d_law_935 rfl rfl ?_
  refine aw_iload_n 937 d_law_936 rfl rfl ?_
  refine aw_iconst (v := nI 1) 938 d_law_937 rfl (by decide) ?_
  refine aw_iadd 939 d_law_938 rfl ?_
  refine aw_sldA hS 940 d_law_939 rfl (vp_j (j := 1) (by omega) hL) rfl ?_
  refine aw_aload_n 941 d_law_940 rfl rfl ?_
  refine aw_iload_n 942 d_law_941 rfl rfl ?_
  refine aw_iconst (v := nI 2) 943 d_law_942 rfl (by decide) ?_
  refine aw_iadd 944 d_law_943 rfl ?_
  refine aw_sldA hS 945 d_law_944 rfl (vp_j (j := 2) (by omega) hL) rfl ?_
  refine aw_invV (rest := [.int r]) (st' := [.int r, .int r]) (As := [.int (xs (nI i + nI 1).toNatClampNeg), .int (xs (nI i + nI 2).toNatClampNeg)]) 948 d_law_945 rfl lv_Law_114 (m_M_hears e2) (by decide) (k_M_hears e2) rfl rfl rfl (Nat.le_of_ble_eq_true rfl) rfl ?_
  exact aw_icmp_eq 1205 951 d_law_948 (by decide) rfl (fun _ => K μ2 j) (fun h => absurd rfl h)
theorem w_standing (hS : Scr CK L xs) {i : Nat} (hi : i + 6 ≤ L) (hL : L ≤ 3072) {M : Nat} {μ : MM} (hJ : J M μ) (hM : M < 1000000) (K : ∀ μ2, J (M + 1) μ2 → AW CK l YL 140 nE sE 1205 (lcl i) [] μ2) : AW CK l YL 140 nE sE 953 (lcl i) [] μ := by
  obtain ⟨r, μ1, μ2, e1, e2, j⟩ := c_standing hJ hM (xs (nI i + nI 1).toNatClampNeg)
  refine aw_aload_n 954 d_law_953 rfl rfl ?_
  refine aw_aload_n 955 d_law_954 rfl rfl ?_
  refine aw_iload_n 956 d_law_955 rfl rfl ?_
  refine aw_iconst (v := nI 1) 957 d_law_956 rfl (by decide) ?_
  refine aw_iadd 958 d_law_957 rfl ?_
  refine aw_sldA hS 959 d_law_958 rfl (vp_j (j := 1) (by omega) hL) rfl ?_
  refine aw_invV (rest := []) (st' := [.long r]) (As := [.int (xs (nI i + nI 1).toNatClampNeg)]) 962 d_law_959 rfl lv_Law_115 (m_X_standing e1) (by decide) (k_X_standing e1) rfl rfl rfl (Nat.le_of_ble_eq_true rfl) rfl ?_
  refine aw_aload_n 963 d_law_962 rfl rfl ?_
  refine aw_aload_n 964 d_law_963 rfl rfl ?_
  refine aw_iload_n 965 d_law_964 rfl rfl ?_
  refine aw_iconst (v := nI 1) 966 d_law_965 rfl (by decide) ?_
  refine aw_iadd 967 d_law_966 rfl ?_
  refine aw_sldA hS 968 d_law_967 rfl (vp_j (j := 1) (by omega) hL) rfl ?_
  refine aw_invV (rest := [.long r]) (st' := [.long r, .long r]) (As := [.int (xs (nI i + nI 1).toNatClampNeg)]) 971 d_law_968 rfl lv_Law_118 (m_M_standing e2) (by decide) (k_M_standing e2) rfl rfl rfl (Nat.le_of_ble_eq_true rfl) rfl ?_
  refine aw_lcmp 972 d_law_971 rfl ?_
  exact aw_if_eq 1205 975 d_law_972 (by decide) rfl (fun _ => K μ2 j) (fun h => absurd ((lgc_eq r r).mpr rfl) h)
theorem w_leader (hS : Scr CK L xs) {i : Nat} (hi : i + 6 ≤ L) (hL : L ≤ 3072) {M : Nat} {μ : MM} (hJ : J M μ) (hM : M < 1000000) (K : ∀ μ2, J (M + 1) μ2 → AW CK l YL 140 nE sE 1205 (lcl i) [] μ2) : AW CK l YL 140 nE sE 977 (lcl i) [] μ := by
  obtain ⟨r, μ1, μ2, e1, e2, j⟩ := c_leader hJ (xs (nI i + nI 1).toNatClampNeg) (xs (nI i + nI 2).toNatClampNeg)
  refine aw_aload_n 978 d_law_977 rfl rfl ?_
  refine aw_aload_n 979 d_law_978 rfl rfl ?_
  refine aw_iload_n 980 d_law_979 rfl rfl ?_
  refine aw_iconst (v := nI 1) 981 d_law_980 rfl (by decide) ?_
  refine aw_iadd 982 d_law_981 rfl ?_
  refine aw_sldA hS 983 d_law_982 rfl (vp_j (j := 1) (by omega) hL) rfl ?_
  refine aw_aload_n 984 d_law_983 rfl rfl ?_
  refine aw_iload_n 985 d_law_984 rfl rfl ?_
  refine aw_iconst (v := nI 2) 986 d_law_985 rfl (by decide) ?_
  refine aw_iadd 987 d_law_986 rfl ?_
  refine aw_sldA hS 988 d_law_987 rfl (vp_j (j := 2) (by omega) hL) rfl ?_
  refine aw_invV (rest := []) (st' := [.long r]) (As := [.int (xs (nI i + nI 1).toNatClampNeg), .int (xs (nI i + nI 2).toNatClampNeg)]) 991 d_law_988 rfl lv_Law_119 (m_X_leader e1) (by decide) (k_X_leader e1) rfl rfl rfl (Nat.le_of_ble_eq_true rfl) rfl ?_
  refine aw_aload_n 992 d_law_991 rfl rfl ?_
  refine aw_aload_n 993 d_law_992 rfl rfl ?_
  refine aw_iload_n 994 d_law_993 rfl rfl ?_
  refine aw_iconst (v := nI 1) 995 d_law_994 rfl (by decide) ?_
  refine aw_iadd 996 d_law_995 rfl ?_
  refine aw_sldA hS 997 d_law_996 rfl (vp_j (j := 1) (by omega) hL) rfl ?_
  refine aw_aload_n 998 d_law_997 rfl rfl ?_
  refine aw_iload_n 999 d_law_998 rfl rfl ?_
  refine aw_iconst (v := nI 2) 1000 d_law_999 rfl (by decide) ?_
  refine aw_iadd 1001 d_law_1000 rfl ?_
  refine aw_sldA hS 1002 d_law_1001 rfl (vp_j (j := 2) (by omega) hL) rfl ?_
  refine aw_invV (rest := [.long r]) (st' := [.long r, .long r]) (As := [.int (xs (nI i + nI 1).toNatClampNeg), .int (xs (nI i + nI 2).toNatClampNeg)]) 1005 d_law_1002 rfl lv_Law_122 (m_M_leader e2) (by decide) (k_M_leader e2) rfl rfl rfl (Nat.le_of_ble_eq_true rfl) rfl ?_
  refine aw_lcmp 1006 d_law_1005 rfl ?_
  exact aw_if_eq 1205 1009 d_law_1006 (by decide) rfl (fun _ => K μ2 j) (fun h => absurd ((lgc_eq r r).mpr rfl) h)
theorem w_worst (hS : Scr CK L xs) {i : Nat} (hi : i + 6 ≤ L) (hL : L ≤ 3072) {M : Nat} {μ : MM} (hJ : J M μ) (hM : M < 1000000) (K : ∀ μ2, J (M + 1) μ2 → AW CK l YL 140 nE sE 1205 (lcl i) [] μ2) : AW CK l YL 140 nE sE 1011 (lcl i) [] μ := by
  obtain ⟨r, μ2, e1, e2, j⟩ := c_worst hJ
  refine aw_aload_n 1012 d_law_1011 rfl rfl ?_
  refine aw_invV (rest := []) (st' := [.int r]) (As := []) 1015 d_law_1012 rfl lv_Law_123 (m_X_worst e1) (by decide) (k_X_worst e1) rfl rfl rfl (Nat.le_of_ble_eq_true rfl) rfl ?_
  refine aw_aload_n 1016 d_law_1015 rfl rfl ?_
  refine aw_invV (rest := [.int r]) (st' := [.int r, .int r]) (As := []) 1019 d_law_1016 rfl lv_Law_127 (m_M_worst e2) (by decide) (k_M_worst e2) rfl rfl rfl (Nat.le_of_ble_eq_true rfl) rfl ?_
  exact aw_icmp_eq 1205 1022 d_law_1019 (by decide) rfl (fun _ => K μ2 j) (fun h => absurd rfl h)
theorem w_knows (hS : Scr CK L xs) {i : Nat} (hi : i + 6 ≤ L) (hL : L ≤ 3072) {M : Nat} {μ : MM} (hJ : J M μ) (hM : M < 1000000) (K : ∀ μ2, J (M + 1) μ2 → AW CK l YL 140 nE sE 1205 (lcl i) [] μ2) : AW CK l YL 140 nE sE 1024 (lcl i) [] μ := by
  obtain ⟨r, μ1, μ2, e1, e2, j⟩ := c_knows hJ
  refine aw_aload_n 1025 d_law_1024 rfl rfl ?_
  refine aw_invV (rest := []) (st' := [.long r]) (As := []) 1028 d_law_1025 rfl lv_Law_128 (m_X_knows e1) (by decide) (k_X_knows e1) rfl rfl rfl (Nat.le_of_ble_eq_true rfl) rfl ?_
  refine aw_aload_n 1029 d_law_1028 rfl rfl ?_
  refine aw_invV (rest := [.long r]) (st' := [.long r, .long r]) (As := []) 1032 d_law_1029 rfl lv_Law_132 (m_M_knows e2) (by decide) (k_M_knows e2) rfl rfl rfl (Nat.le_of_ble_eq_true rfl) rfl ?_
  refine aw_lcmp 1033 d_law_1032 rfl ?_
  exact aw_if_eq 1205 1036 d_law_1033 (by decide) rfl (fun _ => K μ2 j) (fun h => absurd ((lgc_eq r r).mpr rfl) h)
theorem w_tape (hS : Scr CK L xs) {i : Nat} (hi : i + 6 ≤ L) (hL : L ≤ 3072) {M : Nat} {μ : MM} (hJ : J M μ) (hM : M < 1000000) (K : ∀ μ2, J (M + 1) μ2 → AW CK l YL 140 nE sE 1205 (lcl i) [] μ2) : AW CK l YL 140 nE sE 1038 (lcl i) [] μ := by
  obtain ⟨r, μ1, μ2, e1, e2, j⟩ := c_tape hJ (xs (nI i + nI 1).toNatClampNeg) (xs (nI i + nI 2).toNatClampNeg) (xs (nI i + nI 3).toNatClampNeg)
  refine aw_aload_n 1039 d_law_1038 rfl rfl ?_
  refine aw_aload_n 1040 d_law_1039 rfl rfl ?_
  refine aw_iload_n 1041 d_law_1040 rfl rfl ?_
  refine aw_iconst (v := nI 1) 1042 d_law_1041 rfl (by decide) ?_
  refine aw_iadd 1043 d_law_1042 rfl ?_
  refine aw_sldA hS 1044 d_law_1043 rfl (vp_j (j := 1) (by omega) hL) rfl ?_
  refine aw_aload_n 1045 d_law_1044 rfl rfl ?_
  refine aw_iload_n 1046 d_law_1045 rfl rfl ?_
  refine aw_iconst (v := nI 2) 1047 d_law_1046 rfl (by decide) ?_
  refine aw_iadd 1048 d_law_1047 rfl ?_
  refine aw_sldA hS 1049 d_law_1048 rfl (vp_j (j := 2) (by omega) hL) rfl ?_
  refine aw_aload_n 1050 d_law_1049 rfl rfl ?_
  refine aw_iload_n 1051 d_law_1050 rfl rfl ?_
  refine aw_iconst (v := nI 3) 1052 d_law_1051 rfl (by decide) ?_
  refine aw_iadd 1053 d_law_1052 rfl ?_
  refine aw_sldA hS 1054 d_law_1053 rfl (vp_j (j := 3) (by omega) hL) rfl ?_
  refine aw_invV (rest := []) (st' := [.int r]) (As := [.int (xs (nI i + nI 1).toNatClampNeg), .int (xs (nI i + nI 2).toNatClampNeg), .int (xs (nI i + nI 3).toNatClampNeg)]) 1057 d_law_1054 rfl lv_Law_133 (m_X_tape e1) (by decide) (k_X_tape e1) rfl rfl rfl (Nat.le_of_ble_eq_true rfl) rfl ?_
  refine aw_aload_n 1058 d_law_1057 rfl rfl ?_
  refine aw_aload_n 1059 d_law_1058 rfl rfl ?_
  refine aw_iload_n 1060 d_law_1059 rfl rfl ?_
  refine aw_iconst (v := nI 1) 1061 d_law_1060 rfl (by decide) ?_
  refine aw_iadd 1062 d_law_1061 rfl ?_
  refine aw_sldA hS 1063 d_law_1062 rfl (vp_j (j := 1) (by omega) hL) rfl ?_
  refine aw_aload_n 1064 d_law_1063 rfl rfl ?_
  refine aw_iload_n 1065 d_law_1064 rfl rfl ?_
  refine aw_iconst (v := nI 2) 1066 d_law_1065 rfl (by decide) ?_
  refine aw_iadd 1067 d_law_1066 rfl ?_
  refine aw_sldA hS 1068 d_law_1067 rfl (vp_j (j := 2) (by omega) hL) rfl ?_
  refine aw_aload_n 1069 d_law_1068 rfl rfl ?_
  refine aw_iload_n 1070 d_law_1069 rfl rfl ?_
  refine aw_iconst (v := nI 3) 1071 d_law_1070 rfl (by decide) ?_
  refine aw_iadd 1072 d_law_1071 rfl ?_
  refine aw_sldA hS 1073 d_law_1072 rfl (vp_j (j := 3) (by omega) hL) rfl ?_
  refine aw_invV (rest := [.int r]) (st' := [.int r, .int r]) (As := [.int (xs (nI i + nI 1).toNatClampNeg), .int (xs (nI i + nI 2).toNatClampNeg), .int (xs (nI i + nI 3).toNatClampNeg)]) 1076 d_law_1073 rfl lv_Law_137 (m_M_tape e2) (by decide) (k_M_tape e2) rfl rfl rfl (Nat.le_of_ble_eq_true rfl) rfl ?_
  exact aw_icmp_eq 1205 1079 d_law_1076 (by decide) rfl (fun _ => K μ2 j) (fun h => absurd rfl h)
theorem w_fit (hS : Scr CK L xs) {i : Nat} (hi : i + 6 ≤ L) (hL : L ≤ 3072) {M : Nat} {μ : MM} (hJ : J M μ) (hM : M < 1000000) (K : ∀ μ2, J (M + 1) μ2 → AW CK l YL 140 nE sE 1205 (lcl i) [] μ2) : AW CK l YL 140 nE sE 1081 (lcl i) [] μ := by
  obtain ⟨r, μ1, μ2, e1, e2, j⟩ := c_fit hJ (xs (nI i + nI 1).toNatClampNeg) (xs (nI i + nI 2).toNatClampNeg)
  refine aw_aload_n 1082 d_law_1081 rfl rfl ?_
  refine aw_aload_n 1083 d_law_1082 rfl rfl ?_
  refine aw_iload_n 1084 d_law_1083 rfl rfl ?_
  refine aw_iconst (v := nI 1) 1085 d_law_1084 rfl (by decide) ?_
  refine aw_iadd 1086 d_law_1085 rfl ?_
  refine aw_sldA hS 1087 d_law_1086 rfl (vp_j (j := 1) (by omega) hL) rfl ?_
  refine aw_aload_n 1088 d_law_1087 rfl rfl ?_
  refine aw_iload_n 1089 d_law_1088 rfl rfl ?_
  refine aw_iconst (v := nI 2) 1090 d_law_1089 rfl (by decide) ?_
  refine aw_iadd 1091 d_law_1090 rfl ?_
  refine aw_sldA hS 1092 d_law_1091 rfl (vp_j (j := 2) (by omega) hL) rfl ?_
  refine aw_invV (rest := []) (st' := [.long r]) (As := [.int (xs (nI i + nI 1).toNatClampNeg), .int (xs (nI i + nI 2).toNatClampNeg)]) 1095 d_law_1092 rfl lv_Law_138 (m_X_fit e1) (by decide) (k_X_fit e1) rfl rfl rfl (Nat.le_of_ble_eq_true rfl) rfl ?_
  refine aw_aload_n 1096 d_law_1095 rfl rfl ?_
  refine aw_aload_n 1097 d_law_1096 rfl rfl ?_
  refine aw_iload_n 1098 d_law_1097 rfl rfl ?_
  refine aw_iconst (v := nI 1) 1099 d_law_1098 rfl (by decide) ?_
  refine aw_iadd 1100 d_law_1099 rfl ?_
  refine aw_sldA hS 1101 d_law_1100 rfl (vp_j (j := 1) (by omega) hL) rfl ?_
  refine aw_aload_n 1102 d_law_1101 rfl rfl ?_
  refine aw_iload_n 1103 d_law_1102 rfl rfl ?_
  refine aw_iconst (v := nI 2) 1104 d_law_1103 rfl (by decide) ?_
  refine aw_iadd 1105 d_law_1104 rfl ?_
  refine aw_sldA hS 1106 d_law_1105 rfl (vp_j (j := 2) (by omega) hL) rfl ?_
  refine aw_invV (rest := [.long r]) (st' := [.long r, .long r]) (As := [.int (xs (nI i + nI 1).toNatClampNeg), .int (xs (nI i + nI 2).toNatClampNeg)]) 1109 d_law_1106 rfl lv_Law_141 (m_M_fit e2) (by decide) (k_M_fit e2) rfl rfl rfl (Nat.le_of_ble_eq_true rfl) rfl ?_
  refine aw_lcmp 1110 d_law_1109 rfl ?_
  exact aw_if_eq 1205 1113 d_law_1110 (by decide) rfl (fun _ => K μ2 j) (fun h => absurd ((lgc_eq r r).mpr rfl) h)
theorem w_mind (hS : Scr CK L xs) {i : Nat} (hi : i + 6 ≤ L) (hL : L ≤ 3072) {M : Nat} {μ : MM} (hJ : J M μ) (hM : M < 1000000) (K : ∀ μ2, J (M + 1) μ2 → AW CK l YL 140 nE sE 1205 (lcl i) [] μ2) : AW CK l YL 140 nE sE 1115 (lcl i) [] μ := by
  obtain ⟨r, μ1, μ2, e1, e2, j⟩ := c_mind hJ (xs (nI i + nI 1).toNatClampNeg) (xs (nI i + nI 2).toNatClampNeg) (xs (nI i + nI 3).toNatClampNeg)
  refine aw_aload_n 1116 d_law_1115 rfl rfl ?_
  refine aw_aload_n 1117 d_law_1116 rfl rfl ?_
  refine aw_iload_n 1118 d_law_1117 rfl rfl ?_
  refine aw_iconst (v := nI 1) 1119 d_law_1118 rfl (by decide) ?_
  refine aw_iadd 1120 d_law_1119 rfl ?_
  refine aw_sldA hS 1121 d_law_1120 rfl (vp_j (j := 1) (by omega) hL) rfl ?_
  refine aw_aload_n 1122 d_law_1121 rfl rfl ?_
  refine aw_iload_n 1123 d_law_1122 rfl rfl ?_
  refine aw_iconst (v := nI 2) 1124 d_law_1123 rfl (by decide) ?_
  refine aw_iadd 1125 d_law_1124 rfl ?_
  refine aw_sldA hS 1126 d_law_1125 rfl (vp_j (j := 2) (by omega) hL) rfl ?_
  refine aw_aload_n 1127 d_law_1126 rfl rfl ?_
  refine aw_iload_n 1128 d_law_1127 rfl rfl ?_
  refine aw_iconst (v := nI 3) 1129 d_law_1128 rfl (by decide) ?_
  refine aw_iadd 1130 d_law_1129 rfl ?_
  refine aw_sldA hS 1131 d_law_1130 rfl (vp_j (j := 3) (by omega) hL) rfl ?_
  refine aw_invV (rest := []) (st' := [.long r]) (As := [.int (xs (nI i + nI 1).toNatClampNeg), .int (xs (nI i + nI 2).toNatClampNeg), .int (xs (nI i + nI 3).toNatClampNeg)]) 1134 d_law_1131 rfl lv_Law_142 (m_X_mind e1) (by decide) (k_X_mind e1) rfl rfl rfl (Nat.le_of_ble_eq_true rfl) rfl ?_
  refine aw_aload_n 1135 d_law_1134 rfl rfl ?_
  refine aw_aload_n 1136 d_law_1135 rfl rfl ?_
  refine aw_iload_n 1137 d_law_1136 rfl rfl ?_
  refine aw_iconst (v := nI 1) 1138 d_law_1137 rfl (by decide) ?_
  refine aw_iadd 1139 d_law_1138 rfl ?_
  refine aw_sldA hS 1140 d_law_1139 rfl (vp_j (j := 1) (by omega) hL) rfl ?_
  refine aw_aload_n 1141 d_law_1140 rfl rfl ?_
  refine aw_iload_n 1142 d_law_1141 rfl rfl ?_
  refine aw_iconst (v := nI 2) 1143 d_law_1142 rfl (by decide) ?_
  refine aw_iadd 1144 d_law_1143 rfl ?_
  refine aw_sldA hS 1145 d_law_1144 rfl (vp_j (j := 2) (by omega) hL) rfl ?_
  refine aw_aload_n 1146 d_law_1145 rfl rfl ?_
  refine aw_iload_n 1147 d_law_1146 rfl rfl ?_
  refine aw_iconst (v := nI 3) 1148 d_law_1147 rfl (by decide) ?_
  refine aw_iadd 1149 d_law_1148 rfl ?_
  refine aw_sldA hS 1150 d_law_1149 rfl (vp_j (j := 3) (by omega) hL) rfl ?_
  refine aw_invV (rest := [.long r]) (st' := [.long r, .long r]) (As := [.int (xs (nI i + nI 1).toNatClampNeg), .int (xs (nI i + nI 2).toNatClampNeg), .int (xs (nI i + nI 3).toNatClampNeg)]) 1153 d_law_1150 rfl lv_Law_146 (m_M_mind e2) (by decide) (k_M_mind e2) rfl rfl rfl (Nat.le_of_ble_eq_true rfl) rfl ?_
  refine aw_lcmp 1154 d_law_1153 rfl ?_
  exact aw_if_eq 1205 1157 d_law_1154 (by decide) rfl (fun _ => K μ2 j) (fun h => absurd ((lgc_eq r r).mpr rfl) h)
theorem w_check (hS : Scr CK L xs) {i : Nat} (hi : i + 6 ≤ L) (hL : L ≤ 3072) {M : Nat} {μ : MM} (hJ : J M μ) (hM : M < 1000000) (K : ∀ μ2, J (M + 1) μ2 → AW CK l YL 140 nE sE 1205 (lcl i) [] μ2) : AW CK l YL 140 nE sE 1159 (lcl i) [] μ := by
  obtain ⟨r, μ1, μ2, e1, e2, j⟩ := c_check hJ (xs (nI i + nI 1).toNatClampNeg)
  refine aw_aload_n 1160 d_law_1159 rfl rfl ?_
  refine aw_aload_n 1161 d_law_1160 rfl rfl ?_
  refine aw_iload_n 1162 d_law_1161 rfl rfl ?_
  refine aw_iconst (v := nI 1) 1163 d_law_1162 rfl (by decide) ?_
  refine aw_iadd 1164 d_law_1163 rfl ?_
  refine aw_sldA hS 1165 d_law_1164 rfl (vp_j (j := 1) (by omega) hL) rfl ?_
  refine aw_invV (rest := []) (st' := [.int r]) (As := [.int (xs (nI i + nI 1).toNatClampNeg)]) 1168 d_law_1165 rfl lv_Law_147 (m_X_check e1) (by decide) (k_X_check e1) rfl rfl rfl (Nat.le_of_ble_eq_true rfl) rfl ?_
  refine aw_aload_n 1169 d_law_1168 rfl rfl ?_
  refine aw_aload_n 1170 d_law_1169 rfl rfl ?_
  refine aw_iload_n 1171 d_law_1170 rfl rfl ?_
  refine aw_iconst (v := nI 1) 1172 d_law_1171 rfl (by decide) ?_
  refine aw_iadd 1173 d_law_1172 rfl ?_
  refine aw_sldA hS 1174 d_law_1173 rfl (vp_j (j := 1) (by omega) hL) rfl ?_
  refine aw_invV (rest := [.int r]) (st' := [.int r, .int r]) (As := [.int (xs (nI i + nI 1).toNatClampNeg)]) 1177 d_law_1174 rfl lv_Law_150 (m_M_check e2) (by decide) (k_M_check e2) rfl rfl rfl (Nat.le_of_ble_eq_true rfl) rfl ?_
  exact aw_icmp_eq 1205 1180 d_law_1177 (by decide) rfl (fun _ => K μ2 j) (fun h => absurd rfl h)
theorem w_count (hS : Scr CK L xs) {i : Nat} (hi : i + 6 ≤ L) (hL : L ≤ 3072) {M : Nat} {μ : MM} (hJ : J M μ) (hM : M < 1000000) (K : ∀ μ2, J (M + 1) μ2 → AW CK l YL 140 nE sE 1205 (lcl i) [] μ2) : AW CK l YL 140 nE sE 1182 (lcl i) [] μ := by
  obtain ⟨r, e1, e2⟩ := c_count hJ (xs (nI i + nI 1).toNatClampNeg)
  have j := hJ.up
  refine aw_aload_n 1183 d_law_1182 rfl rfl ?_
  refine aw_aload_n 1184 d_law_1183 rfl rfl ?_
  refine aw_iload_n 1185 d_law_1184 rfl rfl ?_
  refine aw_iconst (v := nI 1) 1186 d_law_1185 rfl (by decide) ?_
  refine aw_iadd 1187 d_law_1186 rfl ?_
  refine aw_sldA hS 1188 d_law_1187 rfl (vp_j (j := 1) (by omega) hL) rfl ?_
  refine aw_invV (rest := []) (st' := [.int r]) (As := [.int (xs (nI i + nI 1).toNatClampNeg)]) 1191 d_law_1188 rfl lv_Law_151 (m_X_count e1) (by decide) (k_X_count e1) rfl rfl rfl (Nat.le_of_ble_eq_true rfl) rfl ?_
  refine aw_aload_n 1192 d_law_1191 rfl rfl ?_
  refine aw_aload_n 1193 d_law_1192 rfl rfl ?_
  refine aw_iload_n 1194 d_law_1193 rfl rfl ?_
  refine aw_iconst (v := nI 1) 1195 d_law_1194 rfl (by decide) ?_
  refine aw_iadd 1196 d_law_1195 rfl ?_
  refine aw_sldA hS 1197 d_law_1196 rfl (vp_j (j := 1) (by omega) hL) rfl ?_
  refine aw_invV (rest := [.int r]) (st' := [.int r, .int r]) (As := [.int (xs (nI i + nI 1).toNatClampNeg)]) 1200 d_law_1197 rfl lv_Law_154 (m_M_count e2) (by decide) (k_M_count e2) rfl rfl rfl (Nat.le_of_ble_eq_true rfl) rfl ?_
  exact aw_icmp_eq 1205 1203 d_law_1200 (by decide) rfl (fun _ => K μ j) (fun h => absurd rfl h)
end
