/-! PRINTED by wip/gen/gen1.py: the bytecode does what the functions say -/
theorem j_M_valueOf_279 {l : Launch} {μ0 : MM} {q : Int32} {a0 : Nat} {μ : MM} (h : f_M_valueOf_J279 a0 μ = some q) : AWm l Y_M_valueOf 6 μ0 (some (.int q)) μ 279 [some (.ref a0), none, none] [] μ := by
  unfold f_M_valueOf_J279 at h
  refine aw_aload_n 280 d_M_valueOf_279 rfl rfl ?_
  obtain ⟨y280, h280, h⟩ := bnd h
  refine aw_getI 283 d_M_valueOf_280 rfl fg_M_450 (Or.inl rfl) h280 ?_
  refine aw_bipush (v := (100 : Int32)) 285 d_M_valueOf_283 rfl (by decide) ?_
  refine aw_irem 286 d_M_valueOf_285 rfl (by decide) ?_
  cases h
  exact aw_ireturn d_M_valueOf_286 rfl rfl
theorem m_M_valueOf {l : Launch} {q : Int32} {a0 : Nat} {x1 : Int32} {μ : MM} (h : f_M_valueOf a0 x1 μ = some q) : AMet l 6 Y_M_valueOf [.ref a0, .int x1] μ (some (.int q)) μ := by
  refine AMet.of (loc := [some (.ref a0), some (.int x1), none]) pn_M_valueOf (Nat.le_of_ble_eq_true rfl) rfl ?_
  unfold f_M_valueOf at h
  obtain ⟨_, hk, h⟩ := bnd h
  refine aw_aload_n 1 d_M_valueOf_0 rfl rfl ?_
  obtain ⟨y1, h1, h⟩ := bnd h
  refine aw_getR 4 d_M_valueOf_1 rfl fg_M_56 rfl h1 ?_
  refine aw_aload_n 5 d_M_valueOf_4 rfl rfl ?_
  obtain ⟨y5, h5, h⟩ := bnd h
  refine aw_getI 8 d_M_valueOf_5 rfl fg_M_426 (Or.inl rfl) h5 ?_
  obtain ⟨y8, h8, h⟩ := bnd h
  refine aw_iald 9 d_M_valueOf_8 rfl h8 ?_
  refine aw_istore_n (loc' := [some (.ref a0), some (.int x1), some (.int y8)]) 10 d_M_valueOf_9 rfl (by decide) rfl ?_
  refine aw_iload_n 11 d_M_valueOf_10 rfl rfl ?_
  by_cases c11_0 : x1 = (98 : Int32)
  · have h := (if_pos c11_0).symm.trans h
    refine aw_tableIn 108 d_M_valueOf_11 (by rw [c11_0]; decide) (by rw [c11_0]; decide) (by rw [c11_0]; rfl) (by decide) ?_
    refine aw_aload_n 109 d_M_valueOf_108 rfl rfl ?_
    obtain ⟨y109, h109, h⟩ := bnd h
    refine aw_getI 112 d_M_valueOf_109 rfl fg_M_429 (Or.inl rfl) h109 ?_
    cases h
    exact aw_ireturn d_M_valueOf_112 rfl rfl
  · have h := (if_neg c11_0).symm.trans h
    by_cases c11_1 : x1 = (99 : Int32)
    · have h := (if_pos c11_1).symm.trans h
      refine aw_tableIn 279 d_M_valueOf_11 (by rw [c11_1]; decide) (by rw [c11_1]; decide) (by rw [c11_1]; rfl) (by decide) ?_
      exact AW.wk [true, false, false] rfl (j_M_valueOf_279 h)
    · have h := (if_neg c11_1).symm.trans h
      by_cases c11_2 : x1 = (100 : Int32)
      · have h := (if_pos c11_2).symm.trans h
        refine aw_tableIn 279 d_M_valueOf_11 (by rw [c11_2]; decide) (by rw [c11_2]; decide) (by rw [c11_2]; rfl) (by decide) ?_
        exact AW.wk [true, false, false] rfl (j_M_valueOf_279 h)
      · have h := (if_neg c11_2).symm.trans h
        by_cases c11_3 : x1 = (101 : Int32)
        · have h := (if_pos c11_3).symm.trans h
          refine aw_tableIn 279 d_M_valueOf_11 (by rw [c11_3]; decide) (by rw [c11_3]; decide) (by rw [c11_3]; rfl) (by decide) ?_
          exact AW.wk [true, false, false] rfl (j_M_valueOf_279 h)
        · have h := (if_neg c11_3).symm.trans h
          by_cases c11_4 : x1 = (102 : Int32)
          · have h := (if_pos c11_4).symm.trans h
            refine aw_tableIn 130 d_M_valueOf_11 (by rw [c11_4]; decide) (by rw [c11_4]; decide) (by rw [c11_4]; rfl) (by decide) ?_
            refine aw_aload_n 131 d_M_valueOf_130 rfl rfl ?_
            obtain ⟨y131, h131, h⟩ := bnd h
            refine aw_getR 134 d_M_valueOf_131 rfl fg_M_62 rfl h131 ?_
            refine aw_aload_n 135 d_M_valueOf_134 rfl rfl ?_
            obtain ⟨y135, h135, h⟩ := bnd h
            refine aw_getI 138 d_M_valueOf_135 rfl fg_M_426 (Or.inl rfl) h135 ?_
            obtain ⟨y138, h138, h⟩ := bnd h
            refine aw_iald 139 d_M_valueOf_138 rfl h138 ?_
            cases h
            exact aw_ireturn d_M_valueOf_139 rfl rfl
          · have h := (if_neg c11_4).symm.trans h
            by_cases c11_5 : x1 = (103 : Int32)
            · have h := (if_pos c11_5).symm.trans h
              refine aw_tableIn 279 d_M_valueOf_11 (by rw [c11_5]; decide) (by rw [c11_5]; decide) (by rw [c11_5]; rfl) (by decide) ?_
              exact AW.wk [true, false, false] rfl (j_M_valueOf_279 h)
            · have h := (if_neg c11_5).symm.trans h
              by_cases c11_6 : x1 = (104 : Int32)
              · have h := (if_pos c11_6).symm.trans h
                refine aw_tableIn 140 d_M_valueOf_11 (by rw [c11_6]; decide) (by rw [c11_6]; decide) (by rw [c11_6]; rfl) (by decide) ?_
                refine aw_aload_n 141 d_M_valueOf_140 rfl rfl ?_
                refine aw_iload_n 142 d_M_valueOf_141 rfl rfl ?_
                refine aw_aload_n 143 d_M_valueOf_142 rfl rfl ?_
                obtain ⟨y143, h143, h⟩ := bnd h
                refine aw_getI 146 d_M_valueOf_143 rfl fg_M_429 (Or.inl rfl) h143 ?_
                obtain ⟨y146, h146, h⟩ := bnd h
                refine aw_invV (rest := []) (st' := [.int y146]) (As := [.int y8, .int y143]) 149 d_M_valueOf_146 rfl lv_M_193 (m_M_isHeld h146) (by decide) (k_M_isHeld h146) rfl rfl rfl (Nat.le_of_ble_eq_true rfl) rfl ?_
                refine aw_if_eq 156 152 d_M_valueOf_149 (by decide) rfl (fun c149 => ?_) (fun c149 => ?_)
                · have h := (if_pos c149).symm.trans h
                  refine aw_iconst (v := (0 : Int32)) 157 d_M_valueOf_156 rfl (by decide) ?_
                  cases h
                  exact aw_ireturn d_M_valueOf_157 rfl rfl
                · have h := (if_neg c149).symm.trans h
                  refine aw_iconst (v := (1 : Int32)) 153 d_M_valueOf_152 rfl (by decide) ?_
                  refine aw_goto 157 d_M_valueOf_153 (by decide) ?_
                  cases h
                  exact aw_ireturn d_M_valueOf_157 rfl rfl
              · have h := (if_neg c11_6).symm.trans h
                by_cases c11_7 : x1 = (105 : Int32)
                · have h := (if_pos c11_7).symm.trans h
                  refine aw_tableIn 115 d_M_valueOf_11 (by rw [c11_7]; decide) (by rw [c11_7]; decide) (by rw [c11_7]; rfl) (by decide) ?_
                  refine aw_aload_n 116 d_M_valueOf_115 rfl rfl ?_
                  obtain ⟨y116, h116, h⟩ := bnd h
                  refine aw_getI 119 d_M_valueOf_116 rfl fg_M_426 (Or.inl rfl) h116 ?_
                  cases h
                  exact aw_ireturn d_M_valueOf_119 rfl rfl
                · have h := (if_neg c11_7).symm.trans h
                  by_cases c11_8 : x1 = (106 : Int32)
                  · have h := (if_pos c11_8).symm.trans h
                    refine aw_tableIn 158 d_M_valueOf_11 (by rw [c11_8]; decide) (by rw [c11_8]; decide) (by rw [c11_8]; rfl) (by decide) ?_
                    refine aw_aload_n 159 d_M_valueOf_158 rfl rfl ?_
                    obtain ⟨y159, h159, h⟩ := bnd h
                    refine aw_invV (rest := []) (st' := [.int y159]) (As := []) 162 d_M_valueOf_159 rfl lv_M_435 (m_M_leapOf h159) (by decide) (k_M_leapOf h159) rfl rfl rfl (Nat.le_of_ble_eq_true rfl) rfl ?_
                    refine aw_if_ge 173 165 d_M_valueOf_162 (by decide) rfl (fun c162 => ?_) (fun c162 => ?_)
                    · have h := (if_pos c162).symm.trans h
                      refine aw_aload_n 174 d_M_valueOf_173 rfl rfl ?_
                      obtain ⟨y174, h174, h⟩ := bnd h
                      refine aw_invV (rest := []) (st' := [.int y174]) (As := []) 177 d_M_valueOf_174 rfl lv_M_435 (m_M_leapOf h174) (by decide) (k_M_leapOf h174) rfl rfl rfl (Nat.le_of_ble_eq_true rfl) rfl ?_
                      cases h
                      exact aw_ireturn d_M_valueOf_177 rfl rfl
                    · have h := (if_neg c162).symm.trans h
                      refine aw_aload_n 166 d_M_valueOf_165 rfl rfl ?_
                      obtain ⟨y166, h166, h⟩ := bnd h
                      refine aw_invV (rest := []) (st' := [.int y166]) (As := []) 169 d_M_valueOf_166 rfl lv_M_435 (m_M_leapOf h166) (by decide) (k_M_leapOf h166) rfl rfl rfl (Nat.le_of_ble_eq_true rfl) rfl ?_
                      refine aw_ineg 170 d_M_valueOf_169 rfl ?_
                      refine aw_goto 177 d_M_valueOf_170 (by decide) ?_
                      cases h
                      exact aw_ireturn d_M_valueOf_177 rfl rfl
                  · have h := (if_neg c11_8).symm.trans h
                    by_cases c11_9 : x1 = (107 : Int32)
                    · have h := (if_pos c11_9).symm.trans h
                      refine aw_tableIn 120 d_M_valueOf_11 (by rw [c11_9]; decide) (by rw [c11_9]; decide) (by rw [c11_9]; rfl) (by decide) ?_
                      refine aw_aload_n 121 d_M_valueOf_120 rfl rfl ?_
                      obtain ⟨y121, h121, h⟩ := bnd h
                      refine aw_getR 124 d_M_valueOf_121 rfl fg_M_113 rfl h121 ?_
                      refine aw_aload_n 125 d_M_valueOf_124 rfl rfl ?_
                      obtain ⟨y125, h125, h⟩ := bnd h
                      refine aw_getI 128 d_M_valueOf_125 rfl fg_M_426 (Or.inl rfl) h125 ?_
                      obtain ⟨y128, h128, h⟩ := bnd h
                      refine aw_iald 129 d_M_valueOf_128 rfl h128 ?_
                      cases h
                      exact aw_ireturn d_M_valueOf_129 rfl rfl
                    · have h := (if_neg c11_9).symm.trans h
                      by_cases c11_10 : x1 = (108 : Int32)
                      · have h := (if_pos c11_10).symm.trans h
                        refine aw_tableIn 279 d_M_valueOf_11 (by rw [c11_10]; decide) (by rw [c11_10]; decide) (by rw [c11_10]; rfl) (by decide) ?_
                        exact AW.wk [true, false, false] rfl (j_M_valueOf_279 h)
                      · have h := (if_neg c11_10).symm.trans h
                        by_cases c11_11 : x1 = (109 : Int32)
                        · have h := (if_pos c11_11).symm.trans h
                          refine aw_tableIn 279 d_M_valueOf_11 (by rw [c11_11]; decide) (by rw [c11_11]; decide) (by rw [c11_11]; rfl) (by decide) ?_
                          exact AW.wk [true, false, false] rfl (j_M_valueOf_279 h)
                        · have h := (if_neg c11_11).symm.trans h
                          by_cases c11_12 : x1 = (110 : Int32)
                          · have h := (if_pos c11_12).symm.trans h
                            refine aw_tableIn 213 d_M_valueOf_11 (by rw [c11_12]; decide) (by rw [c11_12]; decide) (by rw [c11_12]; rfl) (by decide) ?_
                            refine aw_aload_n 214 d_M_valueOf_213 rfl rfl ?_
                            refine aw_aload_n 215 d_M_valueOf_214 rfl rfl ?_
                            obtain ⟨y215, h215, h⟩ := bnd h
                            refine aw_getI 218 d_M_valueOf_215 rfl fg_M_429 (Or.inl rfl) h215 ?_
                            obtain ⟨y218, h218, h⟩ := bnd h
                            refine aw_invV (rest := []) (st' := [.int y218]) (As := [.int y215]) 221 d_M_valueOf_218 rfl lv_M_438 (m_M_singing h218) (by decide) (k_M_singing h218) rfl rfl rfl (Nat.le_of_ble_eq_true rfl) rfl ?_
                            cases h
                            exact aw_ireturn d_M_valueOf_221 rfl rfl
                          · have h := (if_neg c11_12).symm.trans h
                            by_cases c11_13 : x1 = (111 : Int32)
                            · have h := (if_pos c11_13).symm.trans h
                              refine aw_tableIn 222 d_M_valueOf_11 (by rw [c11_13]; decide) (by rw [c11_13]; decide) (by rw [c11_13]; rfl) (by decide) ?_
                              refine aw_aload_n 223 d_M_valueOf_222 rfl rfl ?_
                              obtain ⟨y223, h223, h⟩ := bnd h
                              refine aw_getR 226 d_M_valueOf_223 rfl fg_M_122 rfl h223 ?_
                              refine aw_aload_n 227 d_M_valueOf_226 rfl rfl ?_
                              obtain ⟨y227, h227, h⟩ := bnd h
                              refine aw_getI 230 d_M_valueOf_227 rfl fg_M_426 (Or.inl rfl) h227 ?_
                              obtain ⟨y230, h230, h⟩ := bnd h
                              refine aw_iald 231 d_M_valueOf_230 rfl h230 ?_
                              refine aw_iconst (v := (-1 : Int32)) 232 d_M_valueOf_231 rfl (by decide) ?_
                              refine aw_icmp_ne 239 235 d_M_valueOf_232 (by decide) rfl (fun c232 => ?_) (fun c232 => ?_)
                              · have h := (if_neg c232).symm.trans h
                                refine aw_aload_n 240 d_M_valueOf_239 rfl rfl ?_
                                refine aw_aload_n 241 d_M_valueOf_240 rfl rfl ?_
                                refine aw_aload_n 242 d_M_valueOf_241 rfl rfl ?_
                                obtain ⟨y242, h242, h⟩ := bnd h
                                refine aw_getI 245 d_M_valueOf_242 rfl fg_M_426 (Or.inl rfl) h242 ?_
                                refine aw_aload_n 246 d_M_valueOf_245 rfl rfl ?_
                                obtain ⟨y246, h246, h⟩ := bnd h
                                refine aw_getR 249 d_M_valueOf_246 rfl fg_M_122 rfl h246 ?_
                                refine aw_aload_n 250 d_M_valueOf_249 rfl rfl ?_
                                obtain ⟨y250, h250, h⟩ := bnd h
                                refine aw_getI 253 d_M_valueOf_250 rfl fg_M_426 (Or.inl rfl) h250 ?_
                                obtain ⟨y253, h253, h⟩ := bnd h
                                refine aw_iald 254 d_M_valueOf_253 rfl h253 ?_
                                obtain ⟨y254, h254, h⟩ := bnd h
                                refine aw_invV (rest := [.ref a0]) (st' := [.int y254, .ref a0]) (As := [.int y242, .int y253]) 257 d_M_valueOf_254 rfl lv_M_432 (m_M_keyOf h254) (by decide) (k_M_keyOf h254) rfl rfl rfl (Nat.le_of_ble_eq_true rfl) rfl ?_
                                obtain ⟨y257, h257, h⟩ := bnd h
                                refine aw_invV (rest := []) (st' := [.int y257]) (As := [.int y254]) 260 d_M_valueOf_257 rfl lv_M_441 (m_M_tableOf h257) (by decide) (k_M_tableOf h257) rfl rfl rfl (Nat.le_of_ble_eq_true rfl) rfl ?_
                                refine aw_aload_n 261 d_M_valueOf_260 rfl rfl ?_
                                obtain ⟨y261, h261, h⟩ := bnd h
                                refine aw_getR 264 d_M_valueOf_261 rfl fg_M_119 rfl h261 ?_
                                refine aw_aload_n 265 d_M_valueOf_264 rfl rfl ?_
                                obtain ⟨y265, h265, h⟩ := bnd h
                                refine aw_getI 268 d_M_valueOf_265 rfl fg_M_426 (Or.inl rfl) h265 ?_
                                obtain ⟨y268, h268, h⟩ := bnd h
                                refine aw_iald 269 d_M_valueOf_268 rfl h268 ?_
                                refine aw_isub 270 d_M_valueOf_269 rfl ?_
                                refine aw_i2l 271 d_M_valueOf_270 rfl ?_
                                refine aw_ldc2 (v := (1000 : Int64)) 274 d_M_valueOf_271 rfl c_M_444 ?_
                                obtain ⟨y274, h274, h⟩ := bnd h
                                refine aw_invS (rest := []) (st' := [.long y274]) (As := [.long ((y257 - y268).toInt64), .long (1000 : Int64)]) 277 d_M_valueOf_274 rfl ls_M_446 (m_M_floor h274) (by decide) rfl rfl (Nat.le_of_ble_eq_true rfl) rfl ?_
                                refine aw_l2i 278 d_M_valueOf_277 rfl ?_
                                cases h
                                exact aw_ireturn d_M_valueOf_278 rfl rfl
                              · have h := (if_pos c232).symm.trans h
                                refine aw_iconst (v := (0 : Int32)) 236 d_M_valueOf_235 rfl (by decide) ?_
                                refine aw_goto 278 d_M_valueOf_236 (by decide) ?_
                                cases h
                                exact aw_ireturn d_M_valueOf_278 rfl rfl
                            · have h := (if_neg c11_13).symm.trans h
                              by_cases c11_14 : x1 = (112 : Int32)
                              · have h := (if_pos c11_14).symm.trans h
                                refine aw_tableIn 279 d_M_valueOf_11 (by rw [c11_14]; decide) (by rw [c11_14]; decide) (by rw [c11_14]; rfl) (by decide) ?_
                                exact AW.wk [true, false, false] rfl (j_M_valueOf_279 h)
                              · have h := (if_neg c11_14).symm.trans h
                                by_cases c11_15 : x1 = (113 : Int32)
                                · have h := (if_pos c11_15).symm.trans h
                                  refine aw_tableIn 279 d_M_valueOf_11 (by rw [c11_15]; decide) (by rw [c11_15]; decide) (by rw [c11_15]; rfl) (by decide) ?_
                                  exact AW.wk [true, false, false] rfl (j_M_valueOf_279 h)
                                · have h := (if_neg c11_15).symm.trans h
                                  by_cases c11_16 : x1 = (114 : Int32)
                                  · have h := (if_pos c11_16).symm.trans h
                                    refine aw_tableIn 191 d_M_valueOf_11 (by rw [c11_16]; decide) (by rw [c11_16]; decide) (by rw [c11_16]; rfl) (by decide) ?_
                                    refine aw_aload_n 192 d_M_valueOf_191 rfl rfl ?_
                                    obtain ⟨y192, h192, h⟩ := bnd h
                                    refine aw_getR 195 d_M_valueOf_192 rfl fg_M_26 rfl h192 ?_
                                    refine aw_iload_n 196 d_M_valueOf_195 rfl rfl ?_
                                    refine aw_aload_n 197 d_M_valueOf_196 rfl rfl ?_
                                    obtain ⟨y197, h197, h⟩ := bnd h
                                    refine aw_getI 200 d_M_valueOf_197 rfl fg_M_429 (Or.inl rfl) h197 ?_
                                    obtain ⟨y200, h200, h⟩ := bnd h
                                    refine aw_invS (rest := [.ref y192]) (st' := [.int y200, .ref y192]) (As := [.int y8, .int y197]) 203 d_M_valueOf_200 rfl ls_M_158 (m_M_cellOf h200) (by decide) rfl rfl (Nat.le_of_ble_eq_true rfl) rfl ?_
                                    obtain ⟨y203, h203, h⟩ := bnd h
                                    refine aw_bald 204 d_M_valueOf_203 rfl h203 ?_
                                    refine aw_if_eq 211 207 d_M_valueOf_204 (by decide) rfl (fun c204 => ?_) (fun c204 => ?_)
                                    · have h := (if_pos c204).symm.trans h
                                      refine aw_iconst (v := (0 : Int32)) 212 d_M_valueOf_211 rfl (by decide) ?_
                                      cases h
                                      exact aw_ireturn d_M_valueOf_212 rfl rfl
                                    · have h := (if_neg c204).symm.trans h
                                      refine aw_iconst (v := (1 : Int32)) 208 d_M_valueOf_207 rfl (by decide) ?_
                                      refine aw_goto 212 d_M_valueOf_208 (by decide) ?_
                                      cases h
                                      exact aw_ireturn d_M_valueOf_212 rfl rfl
                                  · have h := (if_neg c11_16).symm.trans h
                                    by_cases c11_17 : x1 = (115 : Int32)
                                    · have h := (if_pos c11_17).symm.trans h
                                      refine aw_tableIn 279 d_M_valueOf_11 (by rw [c11_17]; decide) (by rw [c11_17]; decide) (by rw [c11_17]; rfl) (by decide) ?_
                                      exact AW.wk [true, false, false] rfl (j_M_valueOf_279 h)
                                    · have h := (if_neg c11_17).symm.trans h
                                      by_cases c11_18 : x1 = (116 : Int32)
                                      · have h := (if_pos c11_18).symm.trans h
                                        refine aw_tableIn 279 d_M_valueOf_11 (by rw [c11_18]; decide) (by rw [c11_18]; decide) (by rw [c11_18]; rfl) (by decide) ?_
                                        exact AW.wk [true, false, false] rfl (j_M_valueOf_279 h)
                                      · have h := (if_neg c11_18).symm.trans h
                                        by_cases c11_19 : x1 = (117 : Int32)
                                        · have h := (if_pos c11_19).symm.trans h
                                          refine aw_tableIn 178 d_M_valueOf_11 (by rw [c11_19]; decide) (by rw [c11_19]; decide) (by rw [c11_19]; rfl) (by decide) ?_
                                          refine aw_aload_n 179 d_M_valueOf_178 rfl rfl ?_
                                          obtain ⟨y179, h179, h⟩ := bnd h
                                          refine aw_invV (rest := []) (st' := [.int y179]) (As := []) 182 d_M_valueOf_179 rfl lv_M_435 (m_M_leapOf h179) (by decide) (k_M_leapOf h179) rfl rfl rfl (Nat.le_of_ble_eq_true rfl) rfl ?_
                                          refine aw_if_le 189 185 d_M_valueOf_182 (by decide) rfl (fun c182 => ?_) (fun c182 => ?_)
                                          · have h := (if_pos c182).symm.trans h
                                            refine aw_iconst (v := (0 : Int32)) 190 d_M_valueOf_189 rfl (by decide) ?_
                                            cases h
                                            exact aw_ireturn d_M_valueOf_190 rfl rfl
                                          · have h := (if_neg c182).symm.trans h
                                            refine aw_iconst (v := (1 : Int32)) 186 d_M_valueOf_185 rfl (by decide) ?_
                                            refine aw_goto 190 d_M_valueOf_186 (by decide) ?_
                                            cases h
                                            exact aw_ireturn d_M_valueOf_190 rfl rfl
                                        · have h := (if_neg c11_19).symm.trans h
                                          by_cases c11_20 : x1 = (118 : Int32)
                                          · have h := (if_pos c11_20).symm.trans h
                                            refine aw_tableIn 113 d_M_valueOf_11 (by rw [c11_20]; decide) (by rw [c11_20]; decide) (by rw [c11_20]; rfl) (by decide) ?_
                                            refine aw_iload_n 114 d_M_valueOf_113 rfl rfl ?_
                                            cases h
                                            exact aw_ireturn d_M_valueOf_114 rfl rfl
                                          · have h := (if_neg c11_20).symm.trans h
                                            have e11 : (x1).toInt < 98 ∨ 118 < (x1).toInt := by
                                              have z0 := lv_neT (a := 98) c11_0 (by decide)
                                              have z1 := lv_neT (a := 99) c11_1 (by decide)
                                              have z2 := lv_neT (a := 100) c11_2 (by decide)
                                              have z3 := lv_neT (a := 101) c11_3 (by decide)
                                              have z4 := lv_neT (a := 102) c11_4 (by decide)
                                              have z5 := lv_neT (a := 103) c11_5 (by decide)
                                              have z6 := lv_neT (a := 104) c11_6 (by decide)
                                              have z7 := lv_neT (a := 105) c11_7 (by decide)
                                              have z8 := lv_neT (a := 106) c11_8 (by decide)
                                              have z9 := lv_neT (a := 107) c11_9 (by decide)
                                              have z10 := lv_neT (a := 108) c11_10 (by decide)
                                              have z11 := lv_neT (a := 109) c11_11 (by decide)
                                              have z12 := lv_neT (a := 110) c11_12 (by decide)
                                              have z13 := lv_neT (a := 111) c11_13 (by decide)
                                              have z14 := lv_neT (a := 112) c11_14 (by decide)
                                              have z15 := lv_neT (a := 113) c11_15 (by decide)
                                              have z16 := lv_neT (a := 114) c11_16 (by decide)
                                              have z17 := lv_neT (a := 115) c11_17 (by decide)
                                              have z18 := lv_neT (a := 116) c11_18 (by decide)
                                              have z19 := lv_neT (a := 117) c11_19 (by decide)
                                              have z20 := lv_neT (a := 118) c11_20 (by decide)
                                              omega
                                            refine aw_tableOut 279 d_M_valueOf_11 e11 (by decide) ?_
                                            exact AW.wk [true, false, false] rfl (j_M_valueOf_279 h)
theorem k_M_valueOf {q : Int32} {a0 : Nat} {x1 : Int32} {μ : MM} (h : f_M_valueOf a0 x1 μ = some q) : μ.1[a0]? = some (0, 1) := by
  unfold f_M_valueOf at h
  obtain ⟨_, h1, _⟩ := bnd h
  exact kO_some h1
theorem j_M_works_117 {l : Launch} {μ0 : MM} {q : MM} {a0 : Nat} {x2 : Int32} {x3 : Int32} {x4 : Int32} {s0 : Nat} {s1 : Int32} {s2 : Int32} {μ : MM} {k5 : Int32 → Int32 → MM → Option (MM)} (hk5 : ∀ (x3 : Int32) (x4 : Int32) (μ : MM), k5 x3 x4 μ = some q → AWm l Y_M_works 7 μ0 none q 5 [some (.ref a0), none, some (.int x2), some (.int x3), some (.int x4)] [] μ) (h : f_M_works_J117 k5 a0 x2 x3 x4 s0 s1 s2 μ = some q) : AWm l Y_M_works 7 μ0 none q 117 [some (.ref a0), none, some (.int x2), some (.int x3), some (.int x4)] [.int s2, .int s1, .ref s0] μ := by
  unfold f_M_works_J117 at h
  obtain ⟨μ117, h117, h⟩ := bnd h
  refine aw_iast 118 d_M_works_117 rfl h117 ?_
  refine aw_iinc (v := (x3 + (1 : Int32))) (loc' := [some (.ref a0), none, some (.int x2), some (.int (x3 + (1 : Int32))), some (.int x4)]) 121 d_M_works_118 rfl (by decide) rfl rfl rfl ?_
  refine aw_iinc (v := (x4 + (1 : Int32))) (loc' := [some (.ref a0), none, some (.int x2), some (.int (x3 + (1 : Int32))), some (.int (x4 + (1 : Int32)))]) 124 d_M_works_121 rfl (by decide) rfl rfl rfl ?_
  refine aw_goto 5 d_M_works_124 (by decide) ?_
  exact (hk5 (x3 + (1 : Int32)) (x4 + (1 : Int32)) μ117 h)
theorem l_M_works_5 {l : Launch} {μ0 : MM} {q : MM} {a0 : Nat} {x2 : Int32} : ∀ (n : Nat) (x3 : Int32) (x4 : Int32) (μ : MM), f_M_works_L5 a0 x2 n x3 x4 μ = some q → AWm l Y_M_works 7 μ0 none q 5 [some (.ref a0), none, some (.int x2), some (.int x3), some (.int x4)] [] μ := by
  intro n
  induction n with
  | zero =>
    intro x3 x4 μ h
    have h : (none : Option (MM)) = some q := h
    cases h
  | succ n ih =>
    intro x3 x4 μ h
    rw [f_M_works_L5] at h
    refine aw_iload 7 d_M_works_5 rfl rfl ?_
    refine aw_iload_n 8 d_M_works_7 rfl rfl ?_
    refine aw_icmp_ge 127 11 d_M_works_8 (by decide) rfl (fun c8 => ?_) (fun c8 => ?_)
    · have h := (if_pos c8).symm.trans h
      cases h
      exact aw_return d_M_works_127 rfl
    · have h := (if_neg c8).symm.trans h
      refine aw_aload_n 12 d_M_works_11 rfl rfl ?_
      obtain ⟨y12, h12, h⟩ := bnd h
      refine aw_getR 15 d_M_works_12 rfl fg_M_83 rfl h12 ?_
      refine aw_iload 17 d_M_works_15 rfl rfl ?_
      obtain ⟨y17, h17, h⟩ := bnd h
      refine aw_iald 18 d_M_works_17 rfl h17 ?_
      refine aw_iconst (v := (2 : Int32)) 19 d_M_works_18 rfl (by decide) ?_
      refine aw_icmp_le 42 22 d_M_works_19 (by decide) rfl (fun c19 => ?_) (fun c19 => ?_)
      · have h := (if_pos c19).symm.trans h
        refine aw_aload_n 43 d_M_works_42 rfl rfl ?_
        obtain ⟨y43, h43, h⟩ := bnd h
        refine aw_getR 46 d_M_works_43 rfl fg_M_83 rfl h43 ?_
        refine aw_iload 48 d_M_works_46 rfl rfl ?_
        obtain ⟨y48, h48, h⟩ := bnd h
        refine aw_iald 49 d_M_works_48 rfl h48 ?_
        refine aw_iconst (v := (2 : Int32)) 50 d_M_works_49 rfl (by decide) ?_
        refine aw_icmp_ne 74 53 d_M_works_50 (by decide) rfl (fun c50 => ?_) (fun c50 => ?_)
        · have h := (if_neg c50).symm.trans h
          refine aw_aload_n 75 d_M_works_74 rfl rfl ?_
          obtain ⟨y75, h75, h⟩ := bnd h
          refine aw_getR 78 d_M_works_75 rfl fg_M_131 rfl h75 ?_
          refine aw_iload_n 79 d_M_works_78 rfl rfl ?_
          refine aw_iconst (v := (0 : Int32)) 80 d_M_works_79 rfl (by decide) ?_
          obtain ⟨μ80, h80, h⟩ := bnd h
          refine aw_bast 81 d_M_works_80 rfl h80 ?_
          refine aw_aload_n 82 d_M_works_81 rfl rfl ?_
          obtain ⟨y82, h82, h⟩ := bnd h
          refine aw_getR 85 d_M_works_82 rfl fg_M_128 rfl h82 ?_
          refine aw_iload_n 86 d_M_works_85 rfl rfl ?_
          refine aw_aload_n 87 d_M_works_86 rfl rfl ?_
          obtain ⟨y87, h87, h⟩ := bnd h
          refine aw_getR 90 d_M_works_87 rfl fg_M_83 rfl h87 ?_
          refine aw_iload 92 d_M_works_90 rfl rfl ?_
          obtain ⟨y92, h92, h⟩ := bnd h
          refine aw_iald 93 d_M_works_92 rfl h92 ?_
          refine aw_if_ne 106 96 d_M_works_93 (by decide) rfl (fun c93 => ?_) (fun c93 => ?_)
          · have h := (if_neg c93).symm.trans h
            refine aw_aload_n 107 d_M_works_106 rfl rfl ?_
            refine aw_aload_n 108 d_M_works_107 rfl rfl ?_
            obtain ⟨y108, h108, h⟩ := bnd h
            refine aw_getR 111 d_M_works_108 rfl fg_M_86 rfl h108 ?_
            refine aw_iload 113 d_M_works_111 rfl rfl ?_
            obtain ⟨y113, h113, h⟩ := bnd h
            refine aw_iald 114 d_M_works_113 rfl h113 ?_
            obtain ⟨y114, h114, h⟩ := bnd h
            refine aw_invV (rest := [.int x3, .ref y82]) (st' := [.int y114, .int x3, .ref y82]) (As := [.int y113]) 117 d_M_works_114 rfl lv_M_459 (m_M_valueOf h114) (by decide) (k_M_valueOf h114) rfl rfl rfl (Nat.le_of_ble_eq_true rfl) rfl ?_
            exact (j_M_works_117 ih h)
          · have h := (if_pos c93).symm.trans h
            refine aw_aload_n 97 d_M_works_96 rfl rfl ?_
            obtain ⟨y97, h97, h⟩ := bnd h
            refine aw_getR 100 d_M_works_97 rfl fg_M_86 rfl h97 ?_
            refine aw_iload 102 d_M_works_100 rfl rfl ?_
            obtain ⟨y102, h102, h⟩ := bnd h
            refine aw_iald 103 d_M_works_102 rfl h102 ?_
            refine aw_goto 117 d_M_works_103 (by decide) ?_
            exact (j_M_works_117 ih h)
        · have h := (if_pos c50).symm.trans h
          refine aw_aload_n 54 d_M_works_53 rfl rfl ?_
          obtain ⟨y54, h54, h⟩ := bnd h
          refine aw_getR 57 d_M_works_54 rfl fg_M_128 rfl h54 ?_
          refine aw_iload_n 58 d_M_works_57 rfl rfl ?_
          refine aw_iconst (v := (1 : Int32)) 59 d_M_works_58 rfl (by decide) ?_
          refine aw_isub 60 d_M_works_59 rfl ?_
          refine aw_iconst (v := (1 : Int32)) 61 d_M_works_60 rfl (by decide) ?_
          refine aw_aload_n 62 d_M_works_61 rfl rfl ?_
          obtain ⟨y62, h62, h⟩ := bnd h
          refine aw_getR 65 d_M_works_62 rfl fg_M_128 rfl h62 ?_
          refine aw_iload_n 66 d_M_works_65 rfl rfl ?_
          refine aw_iconst (v := (1 : Int32)) 67 d_M_works_66 rfl (by decide) ?_
          refine aw_isub 68 d_M_works_67 rfl ?_
          obtain ⟨y68, h68, h⟩ := bnd h
          refine aw_iald 69 d_M_works_68 rfl h68 ?_
          refine aw_isub 70 d_M_works_69 rfl ?_
          obtain ⟨μ70, h70, h⟩ := bnd h
          refine aw_iast 71 d_M_works_70 rfl h70 ?_
          refine aw_goto 121 d_M_works_71 (by decide) ?_
          refine aw_iinc (v := (x4 + (1 : Int32))) (loc' := [some (.ref a0), none, some (.int x2), some (.int x3), some (.int (x4 + (1 : Int32)))]) 124 d_M_works_121 rfl (by decide) rfl rfl rfl ?_
          refine aw_goto 5 d_M_works_124 (by decide) ?_
          exact (ih x3 (x4 + (1 : Int32)) μ70 h)
      · have h := (if_neg c19).symm.trans h
        refine aw_iinc (v := (x3 + (-1 : Int32))) (loc' := [some (.ref a0), none, some (.int x2), some (.int (x3 + (-1 : Int32))), some (.int x4)]) 25 d_M_works_22 rfl (by decide) rfl rfl rfl ?_
        refine aw_aload_n 26 d_M_works_25 rfl rfl ?_
        refine aw_aload_n 27 d_M_works_26 rfl rfl ?_
        obtain ⟨y27, h27, h⟩ := bnd h
        refine aw_getR 30 d_M_works_27 rfl fg_M_83 rfl h27 ?_
        refine aw_iload 32 d_M_works_30 rfl rfl ?_
        obtain ⟨y32, h32, h⟩ := bnd h
        refine aw_iald 33 d_M_works_32 rfl h32 ?_
        refine aw_iload_n 34 d_M_works_33 rfl rfl ?_
        refine aw_iconst (v := (1 : Int32)) 35 d_M_works_34 rfl (by decide) ?_
        refine aw_isub 36 d_M_works_35 rfl ?_
        obtain ⟨μ36, h36, h⟩ := bnd h
        refine aw_invV (rest := []) (st' := []) (As := [.int y32, .int ((x3 + (-1 : Int32)) - (1 : Int32))]) 39 d_M_works_36 rfl lv_M_456 (m_M_does h36) (by decide) (k_M_does h36) rfl rfl rfl (Nat.le_of_ble_eq_true rfl) rfl ?_
        refine aw_goto 121 d_M_works_39 (by decide) ?_
        refine aw_iinc (v := (x4 + (1 : Int32))) (loc' := [some (.ref a0), none, some (.int x2), some (.int (x3 + (-1 : Int32))), some (.int (x4 + (1 : Int32)))]) 124 d_M_works_121 rfl (by decide) rfl rfl rfl ?_
        refine aw_goto 5 d_M_works_124 (by decide) ?_
        exact (ih (x3 + (-1 : Int32)) (x4 + (1 : Int32)) μ36 h)
theorem m_M_works {l : Launch} {q : MM} {a0 : Nat} {x1 : Int32} {x2 : Int32} {μ : MM} (h : f_M_works a0 x1 x2 μ = some q) : AMet l 7 Y_M_works [.ref a0, .int x1, .int x2] μ none q := by
  refine AMet.of (loc := [some (.ref a0), some (.int x1), some (.int x2), none, none]) pn_M_works (Nat.le_of_ble_eq_true rfl) rfl ?_
  unfold f_M_works at h
  obtain ⟨_, hk, h⟩ := bnd h
  refine aw_iconst (v := (0 : Int32)) 1 d_M_works_0 rfl (by decide) ?_
  refine aw_istore_n (loc' := [some (.ref a0), some (.int x1), some (.int x2), some (.int (0 : Int32)), none]) 2 d_M_works_1 rfl (by decide) rfl ?_
  refine aw_iload_n 3 d_M_works_2 rfl rfl ?_
  refine aw_istore (loc' := [some (.ref a0), some (.int x1), some (.int x2), some (.int (0 : Int32)), some (.int x1)]) 5 d_M_works_3 rfl (by decide) rfl ?_
  exact AW.wk [true, false, true, true, true] rfl (l_M_works_5 FU _ _ _ h)
theorem k_M_works {q : MM} {a0 : Nat} {x1 : Int32} {x2 : Int32} {μ : MM} (h : f_M_works a0 x1 x2 μ = some q) : μ.1[a0]? = some (0, 1) := by
  unfold f_M_works at h
  obtain ⟨_, h1, _⟩ := bnd h
  exact kO_some h1
theorem j_M_tells_103 {l : Launch} {μ0 : MM} {q : Int32 × MM} {x2 : Int32} {x3 : Int32} {s0 : Int32} {μ : MM} (h : f_M_tells_J103 x2 x3 s0 μ = some q) : AWm l Y_M_tells 8 μ0 (some (.int q.1)) q.2 103 [none, none, some (.int x2), some (.int x3), none, none] [.int s0] μ := by
  unfold f_M_tells_J103 at h
  refine aw_istore (loc' := [none, none, some (.int x2), some (.int x3), none, some (.int s0)]) 105 d_M_tells_103 rfl (by decide) rfl ?_
  refine aw_iload 107 d_M_tells_105 rfl rfl ?_
  refine aw_iload_n 108 d_M_tells_107 rfl rfl ?_
  refine aw_icmp_ge 115 111 d_M_tells_108 (by decide) rfl (fun c108 => ?_) (fun c108 => ?_)
  · have h := (if_pos c108).symm.trans h
    refine aw_iload 117 d_M_tells_115 rfl rfl ?_
    refine aw_iload_n 118 d_M_tells_117 rfl rfl ?_
    refine aw_icmp_le 125 121 d_M_tells_118 (by decide) rfl (fun c118 => ?_) (fun c118 => ?_)
    · have h := (if_pos c118).symm.trans h
      refine aw_iload 127 d_M_tells_125 rfl rfl ?_
      cases h
      exact aw_ireturn d_M_tells_127 rfl rfl
    · have h := (if_neg c118).symm.trans h
      refine aw_iload_n 122 d_M_tells_121 rfl rfl ?_
      refine aw_goto 127 d_M_tells_122 (by decide) ?_
      cases h
      exact aw_ireturn d_M_tells_127 rfl rfl
  · have h := (if_neg c108).symm.trans h
    refine aw_iload_n 112 d_M_tells_111 rfl rfl ?_
    refine aw_goto 127 d_M_tells_112 (by decide) ?_
    cases h
    exact aw_ireturn d_M_tells_127 rfl rfl
theorem l_M_tells_3 {l : Launch} {μ0 : MM} {q : Int32 × MM} {a0 : Nat} {x1 : Int32} {x2 : Int32} {x3 : Int32} : ∀ (n : Nat) (x4 : Int32) (μ : MM), f_M_tells_L3 a0 x1 x2 x3 n x4 μ = some q → AWm l Y_M_tells 8 μ0 (some (.int q.1)) q.2 3 [some (.ref a0), some (.int x1), some (.int x2), some (.int x3), some (.int x4), none] [] μ := by
  intro n
  induction n with
  | zero =>
    intro x4 μ h
    have h : (none : Option (Int32 × MM)) = some q := h
    cases h
  | succ n ih =>
    intro x4 μ h
    rw [f_M_tells_L3] at h
    refine aw_iload 5 d_M_tells_3 rfl rfl ?_
    refine aw_aload_n 6 d_M_tells_5 rfl rfl ?_
    obtain ⟨y6, h6, h⟩ := bnd h
    refine aw_getI 9 d_M_tells_6 rfl fg_M_416 (Or.inl rfl) h6 ?_
    refine aw_icmp_ge 134 12 d_M_tells_9 (by decide) rfl (fun c9 => ?_) (fun c9 => ?_)
    · have h := (if_pos c9).symm.trans h
      refine aw_iconst (v := (0 : Int32)) 135 d_M_tells_134 rfl (by decide) ?_
      cases h
      exact aw_ireturn d_M_tells_135 rfl rfl
    · have h := (if_neg c9).symm.trans h
      refine aw_aload_n 13 d_M_tells_12 rfl rfl ?_
      obtain ⟨y13, h13, h⟩ := bnd h
      refine aw_getR 16 d_M_tells_13 rfl fg_M_71 rfl h13 ?_
      refine aw_iload 18 d_M_tells_16 rfl rfl ?_
      obtain ⟨y18, h18, h⟩ := bnd h
      refine aw_iald 19 d_M_tells_18 rfl h18 ?_
      refine aw_iload_n 20 d_M_tells_19 rfl rfl ?_
      refine aw_icmp_eq 26 23 d_M_tells_20 (by decide) rfl (fun c20 => ?_) (fun c20 => ?_)
      · have h := (if_pos c20).symm.trans h
        refine aw_aload_n 27 d_M_tells_26 rfl rfl ?_
        refine aw_aload_n 28 d_M_tells_27 rfl rfl ?_
        obtain ⟨y28, h28, h⟩ := bnd h
        refine aw_getR 31 d_M_tells_28 rfl fg_M_77 rfl h28 ?_
        refine aw_iload 33 d_M_tells_31 rfl rfl ?_
        obtain ⟨y33, h33, h⟩ := bnd h
        refine aw_iald 34 d_M_tells_33 rfl h33 ?_
        refine aw_aload_n 35 d_M_tells_34 rfl rfl ?_
        obtain ⟨y35, h35, h⟩ := bnd h
        refine aw_getR 38 d_M_tells_35 rfl fg_M_80 rfl h35 ?_
        refine aw_iload 40 d_M_tells_38 rfl rfl ?_
        obtain ⟨y40, h40, h⟩ := bnd h
        refine aw_iald 41 d_M_tells_40 rfl h40 ?_
        obtain ⟨μ41, h41, h⟩ := bnd h
        refine aw_invV (rest := []) (st' := []) (As := [.int y33, .int y40]) 44 d_M_tells_41 rfl lv_M_462 (m_M_works h41) (by decide) (k_M_works h41) rfl rfl rfl (Nat.le_of_ble_eq_true rfl) rfl ?_
        refine aw_aload_n 45 d_M_tells_44 rfl rfl ?_
        obtain ⟨y45, h45, h⟩ := bnd h
        refine aw_getR 48 d_M_tells_45 rfl fg_M_131 rfl h45 ?_
        refine aw_iconst (v := (0 : Int32)) 49 d_M_tells_48 rfl (by decide) ?_
        obtain ⟨y49, h49, h⟩ := bnd h
        refine aw_bald 50 d_M_tells_49 rfl h49 ?_
        refine aw_if_ne 128 53 d_M_tells_50 (by decide) rfl (fun c50 => ?_) (fun c50 => ?_)
        · have h := (if_neg c50).symm.trans h
          refine aw_iinc (v := (x4 + (1 : Int32))) (loc' := [some (.ref a0), some (.int x1), some (.int x2), some (.int x3), some (.int (x4 + (1 : Int32))), none]) 131 d_M_tells_128 rfl (by decide) rfl rfl rfl ?_
          refine aw_goto 3 d_M_tells_131 (by decide) ?_
          exact (ih (x4 + (1 : Int32)) μ41 h)
        · have h := (if_pos c50).symm.trans h
          refine aw_aload_n 54 d_M_tells_53 rfl rfl ?_
          obtain ⟨y54, h54, h⟩ := bnd h
          refine aw_getR 57 d_M_tells_54 rfl fg_M_128 rfl h54 ?_
          refine aw_iconst (v := (0 : Int32)) 58 d_M_tells_57 rfl (by decide) ?_
          obtain ⟨y58, h58, h⟩ := bnd h
          refine aw_iald 59 d_M_tells_58 rfl h58 ?_
          refine aw_iconst (v := (1 : Int32)) 60 d_M_tells_59 rfl (by decide) ?_
          refine aw_icmp_eq 66 63 d_M_tells_60 (by decide) rfl (fun c60 => ?_) (fun c60 => ?_)
          · have h := (if_pos c60).symm.trans h
            refine aw_aload_n 67 d_M_tells_66 rfl rfl ?_
            refine aw_aload_n 68 d_M_tells_67 rfl rfl ?_
            obtain ⟨y68, h68, h⟩ := bnd h
            refine aw_getR 71 d_M_tells_68 rfl fg_M_74 rfl h68 ?_
            refine aw_iload 73 d_M_tells_71 rfl rfl ?_
            obtain ⟨y73, h73, h⟩ := bnd h
            refine aw_iald 74 d_M_tells_73 rfl h73 ?_
            refine aw_aload_n 75 d_M_tells_74 rfl rfl ?_
            obtain ⟨y75, h75, h⟩ := bnd h
            refine aw_getR 78 d_M_tells_75 rfl fg_M_77 rfl h75 ?_
            refine aw_iload 80 d_M_tells_78 rfl rfl ?_
            obtain ⟨y80, h80, h⟩ := bnd h
            refine aw_iald 81 d_M_tells_80 rfl h80 ?_
            obtain ⟨μ81, h81, h⟩ := bnd h
            refine aw_invV (rest := []) (st' := []) (As := [.int y73, .int y80]) 84 d_M_tells_81 rfl lv_M_462 (m_M_works h81) (by decide) (k_M_works h81) rfl rfl rfl (Nat.le_of_ble_eq_true rfl) rfl ?_
            refine aw_aload_n 85 d_M_tells_84 rfl rfl ?_
            obtain ⟨y85, h85, h⟩ := bnd h
            refine aw_getR 88 d_M_tells_85 rfl fg_M_131 rfl h85 ?_
            refine aw_iconst (v := (0 : Int32)) 89 d_M_tells_88 rfl (by decide) ?_
            obtain ⟨y89, h89, h⟩ := bnd h
            refine aw_bald 90 d_M_tells_89 rfl h89 ?_
            refine aw_if_eq 97 93 d_M_tells_90 (by decide) rfl (fun c90 => ?_) (fun c90 => ?_)
            · have h := (if_pos c90).symm.trans h
              refine aw_aload_n 98 d_M_tells_97 rfl rfl ?_
              obtain ⟨y98, h98, h⟩ := bnd h
              refine aw_getR 101 d_M_tells_98 rfl fg_M_128 rfl h98 ?_
              refine aw_iconst (v := (0 : Int32)) 102 d_M_tells_101 rfl (by decide) ?_
              obtain ⟨y102, h102, h⟩ := bnd h
              refine aw_iald 103 d_M_tells_102 rfl h102 ?_
              exact AW.wk [false, false, true, true, false, true] rfl (j_M_tells_103 h)
            · have h := (if_neg c90).symm.trans h
              refine aw_iconst (v := (0 : Int32)) 94 d_M_tells_93 rfl (by decide) ?_
              refine aw_goto 103 d_M_tells_94 (by decide) ?_
              exact AW.wk [false, false, true, true, false, true] rfl (j_M_tells_103 h)
          · have h := (if_neg c60).symm.trans h
            refine aw_goto 128 d_M_tells_63 (by decide) ?_
            refine aw_iinc (v := (x4 + (1 : Int32))) (loc' := [some (.ref a0), some (.int x1), some (.int x2), some (.int x3), some (.int (x4 + (1 : Int32))), none]) 131 d_M_tells_128 rfl (by decide) rfl rfl rfl ?_
            refine aw_goto 3 d_M_tells_131 (by decide) ?_
            exact (ih (x4 + (1 : Int32)) μ41 h)
      · have h := (if_neg c20).symm.trans h
        refine aw_goto 128 d_M_tells_23 (by decide) ?_
        refine aw_iinc (v := (x4 + (1 : Int32))) (loc' := [some (.ref a0), some (.int x1), some (.int x2), some (.int x3), some (.int (x4 + (1 : Int32))), none]) 131 d_M_tells_128 rfl (by decide) rfl rfl rfl ?_
        refine aw_goto 3 d_M_tells_131 (by decide) ?_
        exact (ih (x4 + (1 : Int32)) μ h)
theorem m_M_tells {l : Launch} {q : Int32 × MM} {a0 : Nat} {x1 : Int32} {x2 : Int32} {x3 : Int32} {μ : MM} (h : f_M_tells a0 x1 x2 x3 μ = some q) : AMet l 8 Y_M_tells [.ref a0, .int x1, .int x2, .int x3] μ (some (.int q.1)) q.2 := by
  refine AMet.of (loc := [some (.ref a0), some (.int x1), some (.int x2), some (.int x3), none, none]) pn_M_tells (Nat.le_of_ble_eq_true rfl) rfl ?_
  unfold f_M_tells at h
  obtain ⟨_, hk, h⟩ := bnd h
  refine aw_iconst (v := (0 : Int32)) 1 d_M_tells_0 rfl (by decide) ?_
  refine aw_istore (loc' := [some (.ref a0), some (.int x1), some (.int x2), some (.int x3), some (.int (0 : Int32)), none]) 3 d_M_tells_1 rfl (by decide) rfl ?_
  exact (l_M_tells_3 FU _ _ h)
theorem k_M_tells {q : Int32 × MM} {a0 : Nat} {x1 : Int32} {x2 : Int32} {x3 : Int32} {μ : MM} (h : f_M_tells a0 x1 x2 x3 μ = some q) : μ.1[a0]? = some (0, 1) := by
  unfold f_M_tells at h
  obtain ⟨_, h1, _⟩ := bnd h
  exact kO_some h1
theorem j_M_aimOf_27 {l : Launch} {μ0 : MM} {q : Int64} {a0 : Nat} {x1 : Int32} {x2 : Int32} {x7 : Int64} {x9 : Int64} {x11 : Int64} {s0 : Int64} {μ : MM} (h : f_M_aimOf_J27 a0 x1 x2 x7 x9 x11 s0 μ = some q) : AWm l Y_M_aimOf 3 μ0 (some (.long q)) μ 27 [some (.ref a0), some (.int x1), some (.int x2), none, none, none, none, some (.long x7), none, some (.long x9), none, some (.long x11), none, none, none, none, none, none, none, none, none] [.long s0] μ := by
  unfold f_M_aimOf_J27 at h
  refine aw_lstore (loc' := [some (.ref a0), some (.int x1), some (.int x2), none, none, none, none, some (.long x7), none, some (.long x9), none, some (.long x11), none, some (.long s0), none, none, none, none, none, none, none]) 29 d_M_aimOf_27 rfl (by decide) rfl ?_
  refine aw_aload_n 30 d_M_aimOf_29 rfl rfl ?_
  refine aw_aload_n 31 d_M_aimOf_30 rfl rfl ?_
  refine aw_iload_n 32 d_M_aimOf_31 rfl rfl ?_
  refine aw_iload_n 33 d_M_aimOf_32 rfl rfl ?_
  obtain ⟨y33, h33, h⟩ := bnd h
  refine aw_invV (rest := [.ref a0]) (st' := [.int y33, .ref a0]) (As := [.int x1, .int x2]) 36 d_M_aimOf_33 rfl lv_M_432 (m_M_keyOf h33) (by decide) (k_M_keyOf h33) rfl rfl rfl (Nat.le_of_ble_eq_true rfl) rfl ?_
  obtain ⟨y36, h36, h⟩ := bnd h
  refine aw_invV (rest := []) (st' := [.int y36]) (As := [.int y33]) 39 d_M_aimOf_36 rfl lv_M_441 (m_M_tableOf h36) (by decide) (k_M_tableOf h36) rfl rfl rfl (Nat.le_of_ble_eq_true rfl) rfl ?_
  refine aw_i2l 40 d_M_aimOf_39 rfl ?_
  refine aw_lstore (loc' := [some (.ref a0), some (.int x1), some (.int x2), none, none, none, none, some (.long x7), none, some (.long x9), none, some (.long x11), none, some (.long s0), none, some (.long y36.toInt64), none, none, none, none, none]) 42 d_M_aimOf_40 rfl (by decide) rfl ?_
  refine aw_lload 44 d_M_aimOf_42 rfl rfl ?_
  refine aw_aload_n 45 d_M_aimOf_44 rfl rfl ?_
  obtain ⟨y45, h45, h⟩ := bnd h
  refine aw_getR 48 d_M_aimOf_45 rfl fg_M_125 rfl h45 ?_
  refine aw_iload_n 49 d_M_aimOf_48 rfl rfl ?_
  obtain ⟨y49, h49, h⟩ := bnd h
  refine aw_iald 50 d_M_aimOf_49 rfl h49 ?_
  refine aw_i2l 51 d_M_aimOf_50 rfl ?_
  refine aw_ladd 52 d_M_aimOf_51 rfl ?_
  refine aw_lstore (loc' := [some (.ref a0), some (.int x1), some (.int x2), none, none, none, none, some (.long x7), none, some (.long x9), none, some (.long x11), none, some (.long s0), none, some (.long y36.toInt64), none, some (.long (y36.toInt64 + y49.toInt64)), none, none, none]) 54 d_M_aimOf_52 rfl (by decide) rfl ?_
  refine aw_lload 56 d_M_aimOf_54 rfl rfl ?_
  refine aw_lload 58 d_M_aimOf_56 rfl rfl ?_
  refine aw_ladd 59 d_M_aimOf_58 rfl ?_
  refine aw_lload 61 d_M_aimOf_59 rfl rfl ?_
  refine aw_ladd 62 d_M_aimOf_61 rfl ?_
  refine aw_lload 64 d_M_aimOf_62 rfl rfl ?_
  refine aw_ladd 65 d_M_aimOf_64 rfl ?_
  refine aw_lstore (loc' := [some (.ref a0), some (.int x1), some (.int x2), none, none, none, none, some (.long x7), none, some (.long x9), none, some (.long x11), none, some (.long s0), none, some (.long y36.toInt64), none, some (.long (y36.toInt64 + y49.toInt64)), none, some (.long (((x11 + s0) + x7) + x9)), none]) 67 d_M_aimOf_65 rfl (by decide) rfl ?_
  refine aw_lload 69 d_M_aimOf_67 rfl rfl ?_
  refine aw_lconst (v := (0 : Int64)) 70 d_M_aimOf_69 rfl (by decide) ?_
  refine aw_lcmp 71 d_M_aimOf_70 rfl ?_
  refine aw_if_ne 79 74 d_M_aimOf_71 (by decide) rfl (fun c71 => ?_) (fun c71 => ?_)
  · have h := (if_neg c71).symm.trans h
    refine aw_lload 81 d_M_aimOf_79 rfl rfl ?_
    refine aw_aload_n 82 d_M_aimOf_81 rfl rfl ?_
    obtain ⟨y82, h82, h⟩ := bnd h
    refine aw_getL 85 d_M_aimOf_82 rfl fg_M_474 rfl h82 ?_
    refine aw_lmul 86 d_M_aimOf_85 rfl ?_
    refine aw_lload 88 d_M_aimOf_86 rfl rfl ?_
    refine aw_aload_n 89 d_M_aimOf_88 rfl rfl ?_
    obtain ⟨y89, h89, h⟩ := bnd h
    refine aw_getL 92 d_M_aimOf_89 rfl fg_M_480 rfl h89 ?_
    refine aw_lmul 93 d_M_aimOf_92 rfl ?_
    refine aw_ladd 94 d_M_aimOf_93 rfl ?_
    refine aw_lload 96 d_M_aimOf_94 rfl rfl ?_
    refine aw_lload 98 d_M_aimOf_96 rfl rfl ?_
    refine aw_lmul 99 d_M_aimOf_98 rfl ?_
    refine aw_ladd 100 d_M_aimOf_99 rfl ?_
    refine aw_lload 102 d_M_aimOf_100 rfl rfl ?_
    refine aw_lload 104 d_M_aimOf_102 rfl rfl ?_
    refine aw_lmul 105 d_M_aimOf_104 rfl ?_
    refine aw_ladd 106 d_M_aimOf_105 rfl ?_
    refine aw_lload 108 d_M_aimOf_106 rfl rfl ?_
    obtain ⟨y108, h108, h⟩ := bnd h
    refine aw_invS (rest := []) (st' := [.long y108]) (As := [.long ((((x11 * y82) + (s0 * y89)) + (x7 * (y36.toInt64 + y49.toInt64))) + (x9 * y36.toInt64)), .long (((x11 + s0) + x7) + x9)]) 111 d_M_aimOf_108 rfl ls_M_446 (m_M_floor h108) (by decide) rfl rfl (Nat.le_of_ble_eq_true rfl) rfl ?_
    cases h
    exact aw_lreturn d_M_aimOf_111 rfl
  · have h := (if_pos c71).symm.trans h
    refine aw_lload 76 d_M_aimOf_74 rfl rfl ?_
    refine aw_goto 111 d_M_aimOf_76 (by decide) ?_
    cases h
    exact aw_lreturn d_M_aimOf_111 rfl
theorem j_M_aimOf_12 {l : Launch} {μ0 : MM} {q : Int64} {a0 : Nat} {x1 : Int32} {x2 : Int32} {x5 : Int64} {x7 : Int64} {x9 : Int64} {s0 : Int64} {μ : MM} (h : f_M_aimOf_J12 a0 x1 x2 x5 x7 x9 s0 μ = some q) : AWm l Y_M_aimOf 3 μ0 (some (.long q)) μ 12 [some (.ref a0), some (.int x1), some (.int x2), none, none, some (.long x5), none, some (.long x7), none, some (.long x9), none, none, none, none, none, none, none, none, none, none, none] [.long s0] μ := by
  unfold f_M_aimOf_J12 at h
  refine aw_lstore (loc' := [some (.ref a0), some (.int x1), some (.int x2), none, none, some (.long x5), none, some (.long x7), none, some (.long x9), none, some (.long s0), none, none, none, none, none, none, none, none, none]) 14 d_M_aimOf_12 rfl (by decide) rfl ?_
  refine aw_aload_n 15 d_M_aimOf_14 rfl rfl ?_
  obtain ⟨y15, h15, h⟩ := bnd h
  refine aw_getI 18 d_M_aimOf_15 rfl fg_M_477 (Or.inr rfl) h15 ?_
  refine aw_if_eq 26 21 d_M_aimOf_18 (by decide) rfl (fun c18 => ?_) (fun c18 => ?_)
  · have h := (if_pos c18).symm.trans h
    refine aw_lconst (v := (0 : Int64)) 27 d_M_aimOf_26 rfl (by decide) ?_
    exact AW.wk [true, true, true, true, true, false, true, true, true, true, true, true, true, true, true, true, true, true, true, true, true] rfl (j_M_aimOf_27 h)
  · have h := (if_neg c18).symm.trans h
    refine aw_lload 23 d_M_aimOf_21 rfl rfl ?_
    refine aw_goto 27 d_M_aimOf_23 (by decide) ?_
    exact AW.wk [true, true, true, true, true, false, true, true, true, true, true, true, true, true, true, true, true, true, true, true, true] rfl (j_M_aimOf_27 h)
theorem m_M_aimOf {l : Launch} {q : Int64} {a0 : Nat} {x1 : Int32} {x2 : Int32} {x3 : Int64} {x5 : Int64} {x7 : Int64} {x9 : Int64} {μ : MM} (h : f_M_aimOf a0 x1 x2 x3 x5 x7 x9 μ = some q) : AMet l 3 Y_M_aimOf [.ref a0, .int x1, .int x2, .long x3, .long x5, .long x7, .long x9] μ (some (.long q)) μ := by
  refine AMet.of (loc := [some (.ref a0), some (.int x1), some (.int x2), some (.long x3), none, some (.long x5), none, some (.long x7), none, some (.long x9), none, none, none, none, none, none, none, none, none, none, none]) pn_M_aimOf (Nat.le_of_ble_eq_true rfl) rfl ?_
  unfold f_M_aimOf at h
  obtain ⟨_, hk, h⟩ := bnd h
  refine aw_aload_n 1 d_M_aimOf_0 rfl rfl ?_
  obtain ⟨y1, h1, h⟩ := bnd h
  refine aw_getI 4 d_M_aimOf_1 rfl fg_M_471 (Or.inr rfl) h1 ?_
  refine aw_if_eq 11 7 d_M_aimOf_4 (by decide) rfl (fun c4 => ?_) (fun c4 => ?_)
  · have h := (if_pos c4).symm.trans h
    refine aw_lconst (v := (0 : Int64)) 12 d_M_aimOf_11 rfl (by decide) ?_
    exact AW.wk [true, true, true, false, true, true, true, true, true, true, true, true, true, true, true, true, true, true, true, true, true] rfl (j_M_aimOf_12 h)
  · have h := (if_neg c4).symm.trans h
    refine aw_lload_n 8 d_M_aimOf_7 rfl rfl ?_
    refine aw_goto 12 d_M_aimOf_8 (by decide) ?_
    exact AW.wk [true, true, true, false, true, true, true, true, true, true, true, true, true, true, true, true, true, true, true, true, true] rfl (j_M_aimOf_12 h)
theorem k_M_aimOf {q : Int64} {a0 : Nat} {x1 : Int32} {x2 : Int32} {x3 : Int64} {x5 : Int64} {x7 : Int64} {x9 : Int64} {μ : MM} (h : f_M_aimOf a0 x1 x2 x3 x5 x7 x9 μ = some q) : μ.1[a0]? = some (0, 1) := by
  unfold f_M_aimOf at h
  obtain ⟨_, h1, _⟩ := bnd h
  exact kO_some h1
theorem j_M_singsNote_218 {l : Launch} {μ0 : MM} {q : MM} {a0 : Nat} {x1 : Int32} {x2 : Int32} {x8 : Int32} {s0 : Nat} {s1 : Int32} {s2 : Int32} {s3 : Int64} {s4 : Int64} {s5 : Int64} {s6 : Int64} {μ : MM} (h : f_M_singsNote_J218 a0 x1 x2 x8 s0 s1 s2 s3 s4 s5 s6 μ = some q) : AWm l Y_M_singsNote 9 μ0 none q 218 [some (.ref a0), some (.int x1), some (.int x2), none, none, none, none, none, some (.int x8), none] [.long s6, .long s5, .long s4, .long s3, .int s2, .int s1, .ref s0] μ := by
  unfold f_M_singsNote_J218 at h
  obtain ⟨y218, h218, h⟩ := bnd h
  refine aw_invV (rest := []) (st' := [.long y218]) (As := [.int s1, .int s2, .long s3, .long s4, .long s5, .long s6]) 221 d_M_singsNote_218 rfl lv_M_493 (m_M_aimOf h218) (by decide) (k_M_aimOf h218) rfl rfl rfl (Nat.le_of_ble_eq_true rfl) rfl ?_
  refine aw_iload 223 d_M_singsNote_221 rfl rfl ?_
  refine aw_i2l 224 d_M_singsNote_223 rfl ?_
  refine aw_ladd 225 d_M_singsNote_224 rfl ?_
  refine aw_l2i 226 d_M_singsNote_225 rfl ?_
  refine aw_istore (loc' := [some (.ref a0), some (.int x1), some (.int x2), none, none, none, none, none, some (.int x8), some (.int ((y218 + x8.toInt64).toInt32))]) 228 d_M_singsNote_226 rfl (by decide) rfl ?_
  refine aw_aload_n 229 d_M_singsNote_228 rfl rfl ?_
  obtain ⟨y229, h229, h⟩ := bnd h
  refine aw_getR 232 d_M_singsNote_229 rfl fg_M_116 rfl h229 ?_
  refine aw_bipush (v := (24 : Int32)) 234 d_M_singsNote_232 rfl (by decide) ?_
  refine aw_iload_n 235 d_M_singsNote_234 rfl rfl ?_
  refine aw_imul 236 d_M_singsNote_235 rfl ?_
  refine aw_iload_n 237 d_M_singsNote_236 rfl rfl ?_
  refine aw_iadd 238 d_M_singsNote_237 rfl ?_
  refine aw_iload 240 d_M_singsNote_238 rfl rfl ?_
  obtain ⟨μ240, h240, h⟩ := bnd h
  refine aw_iast 241 d_M_singsNote_240 rfl h240 ?_
  refine aw_aload_n 242 d_M_singsNote_241 rfl rfl ?_
  obtain ⟨y242, h242, h⟩ := bnd h
  refine aw_getR 245 d_M_singsNote_242 rfl fg_M_119 rfl h242 ?_
  refine aw_iload_n 246 d_M_singsNote_245 rfl rfl ?_
  refine aw_iload 248 d_M_singsNote_246 rfl rfl ?_
  obtain ⟨μ248, h248, h⟩ := bnd h
  refine aw_iast 249 d_M_singsNote_248 rfl h248 ?_
  refine aw_aload_n 250 d_M_singsNote_249 rfl rfl ?_
  obtain ⟨y250, h250, h⟩ := bnd h
  refine aw_getR 253 d_M_singsNote_250 rfl fg_M_122 rfl h250 ?_
  refine aw_iload_n 254 d_M_singsNote_253 rfl rfl ?_
  refine aw_iload_n 255 d_M_singsNote_254 rfl rfl ?_
  obtain ⟨μ255, h255, h⟩ := bnd h
  refine aw_iast 256 d_M_singsNote_255 rfl h255 ?_
  cases h
  exact aw_return d_M_singsNote_256 rfl
theorem j_M_singsNote_116 {l : Launch} {μ0 : MM} {q : MM} {a0 : Nat} {x1 : Int32} {x2 : Int32} {s0 : Nat} {s1 : Int64} {μ : MM} (h : f_M_singsNote_J116 a0 x1 x2 s0 s1 μ = some q) : AWm l Y_M_singsNote 9 μ0 none q 116 [some (.ref a0), some (.int x1), some (.int x2), none, none, none, none, none, none, none] [.long s1, .ref s0] μ := by
  unfold f_M_singsNote_J116 at h
  obtain ⟨μ116, h116, h⟩ := bnd h
  refine aw_putL 119 false d_M_singsNote_116 rfl fp_M_480 (fun z => nomatch z) rfl h116 ?_
  refine aw_aload_n 120 d_M_singsNote_119 rfl rfl ?_
  refine aw_bipush (v := (112 : Int32)) 122 d_M_singsNote_120 rfl (by decide) ?_
  refine aw_iconst (v := (0 : Int32)) 123 d_M_singsNote_122 rfl (by decide) ?_
  refine aw_bipush (v := (100 : Int32)) 125 d_M_singsNote_123 rfl (by decide) ?_
  obtain ⟨q125, h125, h⟩ := bnd h
  refine aw_invV (rest := []) (st' := [.int q125.1]) (As := [.int (112 : Int32), .int (0 : Int32), .int (100 : Int32)]) 128 d_M_singsNote_125 rfl lv_M_487 (m_M_tells h125) (by decide) (k_M_tells h125) rfl rfl rfl (Nat.le_of_ble_eq_true rfl) rfl ?_
  refine aw_istore (loc' := [some (.ref a0), some (.int x1), some (.int x2), none, some (.int q125.1), none, none, none, none, none]) 130 d_M_singsNote_128 rfl (by decide) rfl ?_
  refine aw_aload_n 131 d_M_singsNote_130 rfl rfl ?_
  refine aw_bipush (v := (115 : Int32)) 133 d_M_singsNote_131 rfl (by decide) ?_
  refine aw_iconst (v := (0 : Int32)) 134 d_M_singsNote_133 rfl (by decide) ?_
  refine aw_bipush (v := (100 : Int32)) 136 d_M_singsNote_134 rfl (by decide) ?_
  obtain ⟨q136, h136, h⟩ := bnd h
  refine aw_invV (rest := []) (st' := [.int q136.1]) (As := [.int (115 : Int32), .int (0 : Int32), .int (100 : Int32)]) 139 d_M_singsNote_136 rfl lv_M_487 (m_M_tells h136) (by decide) (k_M_tells h136) rfl rfl rfl (Nat.le_of_ble_eq_true rfl) rfl ?_
  refine aw_istore (loc' := [some (.ref a0), some (.int x1), some (.int x2), none, some (.int q125.1), some (.int q136.1), none, none, none, none]) 141 d_M_singsNote_139 rfl (by decide) rfl ?_
  refine aw_aload_n 142 d_M_singsNote_141 rfl rfl ?_
  refine aw_bipush (v := (116 : Int32)) 144 d_M_singsNote_142 rfl (by decide) ?_
  refine aw_iconst (v := (0 : Int32)) 145 d_M_singsNote_144 rfl (by decide) ?_
  refine aw_bipush (v := (100 : Int32)) 147 d_M_singsNote_145 rfl (by decide) ?_
  obtain ⟨q147, h147, h⟩ := bnd h
  refine aw_invV (rest := []) (st' := [.int q147.1]) (As := [.int (116 : Int32), .int (0 : Int32), .int (100 : Int32)]) 150 d_M_singsNote_147 rfl lv_M_487 (m_M_tells h147) (by decide) (k_M_tells h147) rfl rfl rfl (Nat.le_of_ble_eq_true rfl) rfl ?_
  refine aw_istore (loc' := [some (.ref a0), some (.int x1), some (.int x2), none, some (.int q125.1), some (.int q136.1), some (.int q147.1), none, none, none]) 152 d_M_singsNote_150 rfl (by decide) rfl ?_
  refine aw_aload_n 153 d_M_singsNote_152 rfl rfl ?_
  refine aw_bipush (v := (107 : Int32)) 155 d_M_singsNote_153 rfl (by decide) ?_
  refine aw_iconst (v := (0 : Int32)) 156 d_M_singsNote_155 rfl (by decide) ?_
  refine aw_bipush (v := (100 : Int32)) 158 d_M_singsNote_156 rfl (by decide) ?_
  obtain ⟨q158, h158, h⟩ := bnd h
  refine aw_invV (rest := []) (st' := [.int q158.1]) (As := [.int (107 : Int32), .int (0 : Int32), .int (100 : Int32)]) 161 d_M_singsNote_158 rfl lv_M_487 (m_M_tells h158) (by decide) (k_M_tells h158) rfl rfl rfl (Nat.le_of_ble_eq_true rfl) rfl ?_
  refine aw_istore (loc' := [some (.ref a0), some (.int x1), some (.int x2), none, some (.int q125.1), some (.int q136.1), some (.int q147.1), some (.int q158.1), none, none]) 163 d_M_singsNote_161 rfl (by decide) rfl ?_
  refine aw_aload_n 164 d_M_singsNote_163 rfl rfl ?_
  refine aw_bipush (v := (100 : Int32)) 166 d_M_singsNote_164 rfl (by decide) ?_
  refine aw_sipush (v := (-20000 : Int32)) 169 d_M_singsNote_166 rfl (by decide) ?_
  refine aw_sipush (v := (20000 : Int32)) 172 d_M_singsNote_169 rfl (by decide) ?_
  obtain ⟨q172, h172, h⟩ := bnd h
  refine aw_invV (rest := []) (st' := [.int q172.1]) (As := [.int (100 : Int32), .int (-20000 : Int32), .int (20000 : Int32)]) 175 d_M_singsNote_172 rfl lv_M_487 (m_M_tells h172) (by decide) (k_M_tells h172) rfl rfl rfl (Nat.le_of_ble_eq_true rfl) rfl ?_
  refine aw_istore (loc' := [some (.ref a0), some (.int x1), some (.int x2), none, some (.int q125.1), some (.int q136.1), some (.int q147.1), some (.int q158.1), some (.int q172.1), none]) 177 d_M_singsNote_175 rfl (by decide) rfl ?_
  refine aw_aload_n 178 d_M_singsNote_177 rfl rfl ?_
  refine aw_dup 179 d_M_singsNote_178 rfl rfl ?_
  obtain ⟨y179, h179, h⟩ := bnd h
  refine aw_getL 182 d_M_singsNote_179 rfl fg_M_490 rfl h179 ?_
  refine aw_iload 184 d_M_singsNote_182 rfl rfl ?_
  refine aw_i2l 185 d_M_singsNote_184 rfl ?_
  refine aw_ladd 186 d_M_singsNote_185 rfl ?_
  obtain ⟨μ186, h186, h⟩ := bnd h
  refine aw_putL 189 false d_M_singsNote_186 rfl fp_M_490 (fun z => nomatch z) rfl h186 ?_
  refine aw_aload_n 190 d_M_singsNote_189 rfl rfl ?_
  refine aw_iload_n 191 d_M_singsNote_190 rfl rfl ?_
  refine aw_iload_n 192 d_M_singsNote_191 rfl rfl ?_
  refine aw_iload 194 d_M_singsNote_192 rfl rfl ?_
  refine aw_i2l 195 d_M_singsNote_194 rfl ?_
  refine aw_iload 197 d_M_singsNote_195 rfl rfl ?_
  refine aw_i2l 198 d_M_singsNote_197 rfl ?_
  refine aw_iload 200 d_M_singsNote_198 rfl rfl ?_
  refine aw_i2l 201 d_M_singsNote_200 rfl ?_
  refine aw_aload_n 202 d_M_singsNote_201 rfl rfl ?_
  obtain ⟨y202, h202, h⟩ := bnd h
  refine aw_getR 205 d_M_singsNote_202 rfl fg_M_113 rfl h202 ?_
  refine aw_iload_n 206 d_M_singsNote_205 rfl rfl ?_
  obtain ⟨y206, h206, h⟩ := bnd h
  refine aw_iald 207 d_M_singsNote_206 rfl h206 ?_
  refine aw_iconst (v := (1 : Int32)) 208 d_M_singsNote_207 rfl (by decide) ?_
  refine aw_icmp_ne 217 211 d_M_singsNote_208 (by decide) rfl (fun c208 => ?_) (fun c208 => ?_)
  · have h := (if_neg c208).symm.trans h
    refine aw_lconst (v := (0 : Int64)) 218 d_M_singsNote_217 rfl (by decide) ?_
    exact AW.wk [true, true, true, true, false, false, false, false, true, true] rfl (j_M_singsNote_218 h)
  · have h := (if_pos c208).symm.trans h
    refine aw_iload 213 d_M_singsNote_211 rfl rfl ?_
    refine aw_i2l 214 d_M_singsNote_213 rfl ?_
    refine aw_goto 218 d_M_singsNote_214 (by decide) ?_
    exact AW.wk [true, true, true, true, false, false, false, false, true, true] rfl (j_M_singsNote_218 h)
theorem j_M_singsNote_54 {l : Launch} {μ0 : MM} {q : MM} {a0 : Nat} {x1 : Int32} {x2 : Int32} {x3 : Int32} {s0 : Nat} {s1 : Int32} {μ : MM} (h : f_M_singsNote_J54 a0 x1 x2 x3 s0 s1 μ = some q) : AWm l Y_M_singsNote 9 μ0 none q 54 [some (.ref a0), some (.int x1), some (.int x2), some (.int x3), none, none, none, none, none, none] [.int s1, .ref s0] μ := by
  unfold f_M_singsNote_J54 at h
  obtain ⟨μ54, h54, h⟩ := bnd h
  refine aw_putZ 57 false d_M_singsNote_54 rfl fp_M_477 (fun z => nomatch z) rfl h54 ?_
  refine aw_aload_n 58 d_M_singsNote_57 rfl rfl ?_
  refine aw_aload_n 59 d_M_singsNote_58 rfl rfl ?_
  obtain ⟨y59, h59, h⟩ := bnd h
  refine aw_getI 62 d_M_singsNote_59 rfl fg_M_477 (Or.inr rfl) h59 ?_
  refine aw_if_ne 69 65 d_M_singsNote_62 (by decide) rfl (fun c62 => ?_) (fun c62 => ?_)
  · have h := (if_neg c62).symm.trans h
    refine aw_aload_n 70 d_M_singsNote_69 rfl rfl ?_
    refine aw_aload_n 71 d_M_singsNote_70 rfl rfl ?_
    obtain ⟨y71, h71, h⟩ := bnd h
    refine aw_getR 74 d_M_singsNote_71 rfl fg_M_56 rfl h71 ?_
    refine aw_iload_n 75 d_M_singsNote_74 rfl rfl ?_
    obtain ⟨y75, h75, h⟩ := bnd h
    refine aw_iald 76 d_M_singsNote_75 rfl h75 ?_
    refine aw_iload_n 77 d_M_singsNote_76 rfl rfl ?_
    obtain ⟨y77, h77, h⟩ := bnd h
    refine aw_invV (rest := [.ref a0]) (st' := [.int y77, .ref a0]) (As := [.int y75, .int x2]) 80 d_M_singsNote_77 rfl lv_M_193 (m_M_isHeld h77) (by decide) (k_M_isHeld h77) rfl rfl rfl (Nat.le_of_ble_eq_true rfl) rfl ?_
    refine aw_if_eq 93 83 d_M_singsNote_80 (by decide) rfl (fun c80 => ?_) (fun c80 => ?_)
    · have h := (if_pos c80).symm.trans h
      refine aw_aload_n 94 d_M_singsNote_93 rfl rfl ?_
      obtain ⟨y94, h94, h⟩ := bnd h
      refine aw_getR 97 d_M_singsNote_94 rfl fg_M_119 rfl h94 ?_
      refine aw_iload_n 98 d_M_singsNote_97 rfl rfl ?_
      obtain ⟨y98, h98, h⟩ := bnd h
      refine aw_iald 99 d_M_singsNote_98 rfl h98 ?_
      refine aw_i2l 100 d_M_singsNote_99 rfl ?_
      refine aw_aload_n 101 d_M_singsNote_100 rfl rfl ?_
      refine aw_iload_n 102 d_M_singsNote_101 rfl rfl ?_
      refine aw_iload_n 103 d_M_singsNote_102 rfl rfl ?_
      obtain ⟨y103, h103, h⟩ := bnd h
      refine aw_invV (rest := [.long y98.toInt64, .ref a0]) (st' := [.int y103, .long y98.toInt64, .ref a0]) (As := [.int x1, .int x2]) 106 d_M_singsNote_103 rfl lv_M_468 (m_M_sizeFor h103) (by decide) (k_M_sizeFor h103) rfl rfl rfl (Nat.le_of_ble_eq_true rfl) rfl ?_
      refine aw_i2l 107 d_M_singsNote_106 rfl ?_
      refine aw_ladd 108 d_M_singsNote_107 rfl ?_
      refine aw_aload_n 109 d_M_singsNote_108 rfl rfl ?_
      refine aw_iload_n 110 d_M_singsNote_109 rfl rfl ?_
      refine aw_iload_n 111 d_M_singsNote_110 rfl rfl ?_
      obtain ⟨y111, h111, h⟩ := bnd h
      refine aw_invV (rest := [.long (y98.toInt64 + y103.toInt64), .ref a0]) (st' := [.int y111, .long (y98.toInt64 + y103.toInt64), .ref a0]) (As := [.int x1, .int x3]) 114 d_M_singsNote_111 rfl lv_M_468 (m_M_sizeFor h111) (by decide) (k_M_sizeFor h111) rfl rfl rfl (Nat.le_of_ble_eq_true rfl) rfl ?_
      refine aw_i2l 115 d_M_singsNote_114 rfl ?_
      refine aw_lsub 116 d_M_singsNote_115 rfl ?_
      exact AW.wk [true, true, true, false, true, true, true, true, true, true] rfl (j_M_singsNote_116 h)
    · have h := (if_neg c80).symm.trans h
      refine aw_aload_n 84 d_M_singsNote_83 rfl rfl ?_
      obtain ⟨y84, h84, h⟩ := bnd h
      refine aw_getR 87 d_M_singsNote_84 rfl fg_M_119 rfl h84 ?_
      refine aw_iload_n 88 d_M_singsNote_87 rfl rfl ?_
      obtain ⟨y88, h88, h⟩ := bnd h
      refine aw_iald 89 d_M_singsNote_88 rfl h88 ?_
      refine aw_i2l 90 d_M_singsNote_89 rfl ?_
      refine aw_goto 116 d_M_singsNote_90 (by decide) ?_
      exact AW.wk [true, true, true, false, true, true, true, true, true, true] rfl (j_M_singsNote_116 h)
  · have h := (if_pos c62).symm.trans h
    refine aw_lconst (v := (0 : Int64)) 66 d_M_singsNote_65 rfl (by decide) ?_
    refine aw_goto 116 d_M_singsNote_66 (by decide) ?_
    exact AW.wk [true, true, true, false, true, true, true, true, true, true] rfl (j_M_singsNote_116 h)
theorem m_M_singsNote {l : Launch} {q : MM} {a0 : Nat} {x1 : Int32} {x2 : Int32} {μ : MM} (h : f_M_singsNote a0 x1 x2 μ = some q) : AMet l 9 Y_M_singsNote [.ref a0, .int x1, .int x2] μ none q := by
  refine AMet.of (loc := [some (.ref a0), some (.int x1), some (.int x2), none, none, none, none, none, none, none]) pn_M_singsNote (Nat.le_of_ble_eq_true rfl) rfl ?_
  unfold f_M_singsNote at h
  obtain ⟨_, hk, h⟩ := bnd h
  refine aw_aload_n 1 d_M_singsNote_0 rfl rfl ?_
  refine aw_sipush (v := (25173 : Int32)) 4 d_M_singsNote_1 rfl (by decide) ?_
  refine aw_aload_n 5 d_M_singsNote_4 rfl rfl ?_
  obtain ⟨y5, h5, h⟩ := bnd h
  refine aw_getI 8 d_M_singsNote_5 rfl fg_M_450 (Or.inl rfl) h5 ?_
  refine aw_imul 9 d_M_singsNote_8 rfl ?_
  refine aw_sipush (v := (13849 : Int32)) 12 d_M_singsNote_9 rfl (by decide) ?_
  refine aw_iadd 13 d_M_singsNote_12 rfl ?_
  refine aw_ldc_w (v := (65536 : Int32)) 16 d_M_singsNote_13 rfl c_M_483 ?_
  refine aw_irem 17 d_M_singsNote_16 rfl (by decide) ?_
  obtain ⟨μ17, h17, h⟩ := bnd h
  refine aw_putI 20 false d_M_singsNote_17 rfl fp_M_450 (fun z => nomatch z) rfl h17 ?_
  refine aw_aload_n 21 d_M_singsNote_20 rfl rfl ?_
  refine aw_iload_n 22 d_M_singsNote_21 rfl rfl ?_
  obtain ⟨μ22, h22, h⟩ := bnd h
  refine aw_putI 25 false d_M_singsNote_22 rfl fp_M_426 (fun z => nomatch z) rfl h22 ?_
  refine aw_aload_n 26 d_M_singsNote_25 rfl rfl ?_
  refine aw_iload_n 27 d_M_singsNote_26 rfl rfl ?_
  obtain ⟨μ27, h27, h⟩ := bnd h
  refine aw_putI 30 false d_M_singsNote_27 rfl fp_M_429 (fun z => nomatch z) rfl h27 ?_
  refine aw_aload_n 31 d_M_singsNote_30 rfl rfl ?_
  refine aw_iload_n 32 d_M_singsNote_31 rfl rfl ?_
  refine aw_iload_n 33 d_M_singsNote_32 rfl rfl ?_
  obtain ⟨μ33, h33, h⟩ := bnd h
  refine aw_invV (rest := []) (st' := []) (As := [.int x1, .int x2]) 36 d_M_singsNote_33 rfl lv_M_484 (m_M_listens h33) (by decide) (k_M_listens h33) rfl rfl rfl (Nat.le_of_ble_eq_true rfl) rfl ?_
  refine aw_aload_n 37 d_M_singsNote_36 rfl rfl ?_
  obtain ⟨y37, h37, h⟩ := bnd h
  refine aw_getR 40 d_M_singsNote_37 rfl fg_M_122 rfl h37 ?_
  refine aw_iload_n 41 d_M_singsNote_40 rfl rfl ?_
  obtain ⟨y41, h41, h⟩ := bnd h
  refine aw_iald 42 d_M_singsNote_41 rfl h41 ?_
  refine aw_istore_n (loc' := [some (.ref a0), some (.int x1), some (.int x2), some (.int y41), none, none, none, none, none, none]) 43 d_M_singsNote_42 rfl (by decide) rfl ?_
  refine aw_aload_n 44 d_M_singsNote_43 rfl rfl ?_
  refine aw_iload_n 45 d_M_singsNote_44 rfl rfl ?_
  refine aw_iconst (v := (-1 : Int32)) 46 d_M_singsNote_45 rfl (by decide) ?_
  refine aw_icmp_eq 53 49 d_M_singsNote_46 (by decide) rfl (fun c46 => ?_) (fun c46 => ?_)
  · have h := (if_pos c46).symm.trans h
    refine aw_iconst (v := (0 : Int32)) 54 d_M_singsNote_53 rfl (by decide) ?_
    exact (j_M_singsNote_54 h)
  · have h := (if_neg c46).symm.trans h
    refine aw_iconst (v := (1 : Int32)) 50 d_M_singsNote_49 rfl (by decide) ?_
    refine aw_goto 54 d_M_singsNote_50 (by decide) ?_
    exact (j_M_singsNote_54 h)
theorem k_M_singsNote {q : MM} {a0 : Nat} {x1 : Int32} {x2 : Int32} {μ : MM} (h : f_M_singsNote a0 x1 x2 μ = some q) : μ.1[a0]? = some (0, 1) := by
  unfold f_M_singsNote at h
  obtain ⟨_, h1, _⟩ := bnd h
  exact kO_some h1
theorem l_M_isSung_118 {l : Launch} {μ0 : MM} {q : MM} {a0 : Nat} {x1 : Int32} {x2 : Int32} {k43 : Int32 → Int32 → MM → Option (MM)} (hk43 : ∀ (x1 : Int32) (x2 : Int32) (μ : MM), k43 x1 x2 μ = some q → AWm l Y_M_isSung 10 μ0 none q 43 [some (.ref a0), some (.int x1), some (.int x2), none] [] μ) : ∀ (n : Nat) (x3 : Int32) (μ : MM), f_M_isSung_L118 k43 a0 x1 x2 n x3 μ = some q → AWm l Y_M_isSung 10 μ0 none q 118 [some (.ref a0), some (.int x1), some (.int x2), some (.int x3)] [] μ := by
  intro n
  induction n with
  | zero =>
    intro x3 μ h
    have h : (none : Option (MM)) = some q := h
    cases h
  | succ n ih =>
    intro x3 μ h
    rw [f_M_isSung_L118] at h
    refine aw_iload_n 119 d_M_isSung_118 rfl rfl ?_
    refine aw_aload_n 120 d_M_isSung_119 rfl rfl ?_
    obtain ⟨y120, h120, h⟩ := bnd h
    refine aw_getI 123 d_M_isSung_120 rfl fg_M_275 (Or.inl rfl) h120 ?_
    refine aw_icmp_ge 147 126 d_M_isSung_123 (by decide) rfl (fun c123 => ?_) (fun c123 => ?_)
    · have h := (if_pos c123).symm.trans h
      refine aw_iinc (v := (x2 + (1 : Int32))) (loc' := [some (.ref a0), some (.int x1), some (.int (x2 + (1 : Int32))), some (.int x3)]) 150 d_M_isSung_147 rfl (by decide) rfl rfl rfl ?_
      refine aw_goto 43 d_M_isSung_150 (by decide) ?_
      exact AW.wk [true, true, true, false] rfl (hk43 x1 (x2 + (1 : Int32)) μ h)
    · have h := (if_neg c123).symm.trans h
      refine aw_aload_n 127 d_M_isSung_126 rfl rfl ?_
      refine aw_iload_n 128 d_M_isSung_127 rfl rfl ?_
      refine aw_iload_n 129 d_M_isSung_128 rfl rfl ?_
      obtain ⟨y129, h129, h⟩ := bnd h
      refine aw_invV (rest := []) (st' := [.int y129]) (As := [.int x3, .int x2]) 132 d_M_isSung_129 rfl lv_M_423 (m_M_sings h129) (by decide) (k_M_sings h129) rfl rfl rfl (Nat.le_of_ble_eq_true rfl) rfl ?_
      refine aw_if_eq 141 135 d_M_isSung_132 (by decide) rfl (fun c132 => ?_) (fun c132 => ?_)
      · have h := (if_pos c132).symm.trans h
        refine aw_iinc (v := (x3 + (1 : Int32))) (loc' := [some (.ref a0), some (.int x1), some (.int x2), some (.int (x3 + (1 : Int32)))]) 144 d_M_isSung_141 rfl (by decide) rfl rfl rfl ?_
        refine aw_goto 118 d_M_isSung_144 (by decide) ?_
        exact (ih (x3 + (1 : Int32)) μ h)
      · have h := (if_neg c132).symm.trans h
        refine aw_aload_n 136 d_M_isSung_135 rfl rfl ?_
        refine aw_iload_n 137 d_M_isSung_136 rfl rfl ?_
        refine aw_iload_n 138 d_M_isSung_137 rfl rfl ?_
        obtain ⟨μ138, h138, h⟩ := bnd h
        refine aw_invV (rest := []) (st' := []) (As := [.int x3, .int x2]) 141 d_M_isSung_138 rfl lv_M_503 (m_M_singsNote h138) (by decide) (k_M_singsNote h138) rfl rfl rfl (Nat.le_of_ble_eq_true rfl) rfl ?_
        refine aw_iinc (v := (x3 + (1 : Int32))) (loc' := [some (.ref a0), some (.int x1), some (.int x2), some (.int (x3 + (1 : Int32)))]) 144 d_M_isSung_141 rfl (by decide) rfl rfl rfl ?_
        refine aw_goto 118 d_M_isSung_144 (by decide) ?_
        exact (ih (x3 + (1 : Int32)) μ138 h)
theorem j_M_isSung_109 {l : Launch} {μ0 : MM} {q : MM} {a0 : Nat} {x1 : Int32} {x2 : Int32} {μ : MM} {k43 : Int32 → Int32 → MM → Option (MM)} (hk43 : ∀ (x1 : Int32) (x2 : Int32) (μ : MM), k43 x1 x2 μ = some q → AWm l Y_M_isSung 10 μ0 none q 43 [some (.ref a0), some (.int x1), some (.int x2), none] [] μ) (h : f_M_isSung_J109 k43 a0 x1 x2 μ = some q) : AWm l Y_M_isSung 10 μ0 none q 109 [some (.ref a0), some (.int x1), some (.int x2), none] [] μ := by
  unfold f_M_isSung_J109 at h
  refine aw_aload_n 110 d_M_isSung_109 rfl rfl ?_
  obtain ⟨y110, h110, h⟩ := bnd h
  refine aw_getR 113 d_M_isSung_110 rfl fg_M_125 rfl h110 ?_
  refine aw_iload_n 114 d_M_isSung_113 rfl rfl ?_
  refine aw_iload_n 115 d_M_isSung_114 rfl rfl ?_
  obtain ⟨μ115, h115, h⟩ := bnd h
  refine aw_iast 116 d_M_isSung_115 rfl h115 ?_
  refine aw_iconst (v := (0 : Int32)) 117 d_M_isSung_116 rfl (by decide) ?_
  refine aw_istore_n (loc' := [some (.ref a0), some (.int x1), some (.int x2), some (.int (0 : Int32))]) 118 d_M_isSung_117 rfl (by decide) rfl ?_
  exact (l_M_isSung_118 hk43 FU _ _ h)
theorem l_M_isSung_64 {l : Launch} {μ0 : MM} {q : MM} {a0 : Nat} {x1 : Int32} {x2 : Int32} {k43 : Int32 → Int32 → MM → Option (MM)} (hk43 : ∀ (x1 : Int32) (x2 : Int32) (μ : MM), k43 x1 x2 μ = some q → AWm l Y_M_isSung 10 μ0 none q 43 [some (.ref a0), some (.int x1), some (.int x2), none] [] μ) : ∀ (n : Nat) (x3 : Int32) (μ : MM), f_M_isSung_L64 k43 a0 x1 x2 n x3 μ = some q → AWm l Y_M_isSung 10 μ0 none q 64 [some (.ref a0), some (.int x1), some (.int x2), some (.int x3)] [] μ := by
  intro n
  induction n with
  | zero =>
    intro x3 μ h
    have h : (none : Option (MM)) = some q := h
    cases h
  | succ n ih =>
    intro x3 μ h
    rw [f_M_isSung_L64] at h
    refine aw_iload_n 65 d_M_isSung_64 rfl rfl ?_
    refine aw_aload_n 66 d_M_isSung_65 rfl rfl ?_
    obtain ⟨y66, h66, h⟩ := bnd h
    refine aw_getI 69 d_M_isSung_66 rfl fg_M_275 (Or.inl rfl) h66 ?_
    refine aw_icmp_ge 109 72 d_M_isSung_69 (by decide) rfl (fun c69 => ?_) (fun c69 => ?_)
    · have h := (if_pos c69).symm.trans h
      exact AW.wk [true, true, true, false] rfl (j_M_isSung_109 hk43 h)
    · have h := (if_neg c69).symm.trans h
      refine aw_aload_n 73 d_M_isSung_72 rfl rfl ?_
      obtain ⟨y73, h73, h⟩ := bnd h
      refine aw_getR 76 d_M_isSung_73 rfl fg_M_122 rfl h73 ?_
      refine aw_iload_n 77 d_M_isSung_76 rfl rfl ?_
      obtain ⟨y77, h77, h⟩ := bnd h
      refine aw_iald 78 d_M_isSung_77 rfl h77 ?_
      refine aw_iconst (v := (-1 : Int32)) 79 d_M_isSung_78 rfl (by decide) ?_
      refine aw_icmp_eq 103 82 d_M_isSung_79 (by decide) rfl (fun c79 => ?_) (fun c79 => ?_)
      · have h := (if_pos c79).symm.trans h
        refine aw_iinc (v := (x3 + (1 : Int32))) (loc' := [some (.ref a0), some (.int x1), some (.int x2), some (.int (x3 + (1 : Int32)))]) 106 d_M_isSung_103 rfl (by decide) rfl rfl rfl ?_
        refine aw_goto 64 d_M_isSung_106 (by decide) ?_
        exact (ih (x3 + (1 : Int32)) μ h)
      · have h := (if_neg c79).symm.trans h
        refine aw_aload_n 83 d_M_isSung_82 rfl rfl ?_
        obtain ⟨y83, h83, h⟩ := bnd h
        refine aw_getR 86 d_M_isSung_83 rfl fg_M_119 rfl h83 ?_
        refine aw_iload_n 87 d_M_isSung_86 rfl rfl ?_
        refine aw_aload_n 88 d_M_isSung_87 rfl rfl ?_
        refine aw_aload_n 89 d_M_isSung_88 rfl rfl ?_
        refine aw_iload_n 90 d_M_isSung_89 rfl rfl ?_
        refine aw_aload_n 91 d_M_isSung_90 rfl rfl ?_
        obtain ⟨y91, h91, h⟩ := bnd h
        refine aw_getR 94 d_M_isSung_91 rfl fg_M_122 rfl h91 ?_
        refine aw_iload_n 95 d_M_isSung_94 rfl rfl ?_
        obtain ⟨y95, h95, h⟩ := bnd h
        refine aw_iald 96 d_M_isSung_95 rfl h95 ?_
        obtain ⟨y96, h96, h⟩ := bnd h
        refine aw_invV (rest := [.ref a0, .int x3, .ref y83]) (st' := [.int y96, .ref a0, .int x3, .ref y83]) (As := [.int x3, .int y95]) 99 d_M_isSung_96 rfl lv_M_432 (m_M_keyOf h96) (by decide) (k_M_keyOf h96) rfl rfl rfl (Nat.le_of_ble_eq_true rfl) rfl ?_
        obtain ⟨y99, h99, h⟩ := bnd h
        refine aw_invV (rest := [.int x3, .ref y83]) (st' := [.int y99, .int x3, .ref y83]) (As := [.int y96]) 102 d_M_isSung_99 rfl lv_M_441 (m_M_tableOf h99) (by decide) (k_M_tableOf h99) rfl rfl rfl (Nat.le_of_ble_eq_true rfl) rfl ?_
        obtain ⟨μ102, h102, h⟩ := bnd h
        refine aw_iast 103 d_M_isSung_102 rfl h102 ?_
        refine aw_iinc (v := (x3 + (1 : Int32))) (loc' := [some (.ref a0), some (.int x1), some (.int x2), some (.int (x3 + (1 : Int32)))]) 106 d_M_isSung_103 rfl (by decide) rfl rfl rfl ?_
        refine aw_goto 64 d_M_isSung_106 (by decide) ?_
        exact (ih (x3 + (1 : Int32)) μ102 h)
theorem l_M_isSung_43 {l : Launch} {μ0 : MM} {q : MM} {a0 : Nat} : ∀ (n : Nat) (x1 : Int32) (x2 : Int32) (μ : MM), f_M_isSung_L43 a0 n x1 x2 μ = some q → AWm l Y_M_isSung 10 μ0 none q 43 [some (.ref a0), some (.int x1), some (.int x2), none] [] μ := by
  intro n
  induction n with
  | zero =>
    intro x1 x2 μ h
    have h : (none : Option (MM)) = some q := h
    cases h
  | succ n ih =>
    intro x1 x2 μ h
    rw [f_M_isSung_L43] at h
    refine aw_iload_n 44 d_M_isSung_43 rfl rfl ?_
    refine aw_bipush (v := (24 : Int32)) 46 d_M_isSung_44 rfl (by decide) ?_
    refine aw_icmp_ge 153 49 d_M_isSung_46 (by decide) rfl (fun c46 => ?_) (fun c46 => ?_)
    · have h := (if_pos c46).symm.trans h
      cases h
      exact aw_return d_M_isSung_153 rfl
    · have h := (if_neg c46).symm.trans h
      refine aw_aload_n 50 d_M_isSung_49 rfl rfl ?_
      obtain ⟨y50, h50, h⟩ := bnd h
      refine aw_getI 53 d_M_isSung_50 rfl fg_M_497 (Or.inl rfl) h50 ?_
      refine aw_iload_n 54 d_M_isSung_53 rfl rfl ?_
      obtain ⟨y54, h54, h⟩ := bnd h
      refine aw_invS (rest := []) (st' := [.int y54]) (As := [.int y50, .int x2]) 57 d_M_isSung_54 rfl ls_M_500 (m_M_has h54) (by decide) rfl rfl (Nat.le_of_ble_eq_true rfl) rfl ?_
      refine aw_if_eq 109 60 d_M_isSung_57 (by decide) rfl (fun c57 => ?_) (fun c57 => ?_)
      · have h := (if_pos c57).symm.trans h
        exact (j_M_isSung_109 ih h)
      · have h := (if_neg c57).symm.trans h
        refine aw_iconst (v := (0 : Int32)) 61 d_M_isSung_60 rfl (by decide) ?_
        refine aw_istore_n (loc' := [some (.ref a0), some (.int (0 : Int32)), some (.int x2), none]) 62 d_M_isSung_61 rfl (by decide) rfl ?_
        refine aw_iconst (v := (0 : Int32)) 63 d_M_isSung_62 rfl (by decide) ?_
        refine aw_istore_n (loc' := [some (.ref a0), some (.int (0 : Int32)), some (.int x2), some (.int (0 : Int32))]) 64 d_M_isSung_63 rfl (by decide) rfl ?_
        exact (l_M_isSung_64 ih FU _ _ h)
theorem l_M_isSung_20 {l : Launch} {μ0 : MM} {q : MM} {a0 : Nat} {x1 : Int32} : ∀ (n : Nat) (x2 : Int32) (μ : MM), f_M_isSung_L20 a0 x1 n x2 μ = some q → AWm l Y_M_isSung 10 μ0 none q 20 [some (.ref a0), some (.int x1), some (.int x2), none] [] μ := by
  intro n
  induction n with
  | zero =>
    intro x2 μ h
    have h : (none : Option (MM)) = some q := h
    cases h
  | succ n ih =>
    intro x2 μ h
    rw [f_M_isSung_L20] at h
    refine aw_iload_n 21 d_M_isSung_20 rfl rfl ?_
    refine aw_aload_n 22 d_M_isSung_21 rfl rfl ?_
    obtain ⟨y22, h22, h⟩ := bnd h
    refine aw_getI 25 d_M_isSung_22 rfl fg_M_275 (Or.inl rfl) h22 ?_
    refine aw_icmp_ge 41 28 d_M_isSung_25 (by decide) rfl (fun c25 => ?_) (fun c25 => ?_)
    · have h := (if_pos c25).symm.trans h
      refine aw_iconst (v := (0 : Int32)) 42 d_M_isSung_41 rfl (by decide) ?_
      refine aw_istore_n (loc' := [some (.ref a0), some (.int x1), some (.int (0 : Int32)), none]) 43 d_M_isSung_42 rfl (by decide) rfl ?_
      exact (l_M_isSung_43 FU _ _ _ h)
    · have h := (if_neg c25).symm.trans h
      refine aw_aload_n 29 d_M_isSung_28 rfl rfl ?_
      obtain ⟨y29, h29, h⟩ := bnd h
      refine aw_getR 32 d_M_isSung_29 rfl fg_M_122 rfl h29 ?_
      refine aw_iload_n 33 d_M_isSung_32 rfl rfl ?_
      refine aw_iconst (v := (-1 : Int32)) 34 d_M_isSung_33 rfl (by decide) ?_
      obtain ⟨μ34, h34, h⟩ := bnd h
      refine aw_iast 35 d_M_isSung_34 rfl h34 ?_
      refine aw_iinc (v := (x2 + (1 : Int32))) (loc' := [some (.ref a0), some (.int x1), some (.int (x2 + (1 : Int32))), none]) 38 d_M_isSung_35 rfl (by decide) rfl rfl rfl ?_
      refine aw_goto 20 d_M_isSung_38 (by decide) ?_
      exact (ih (x2 + (1 : Int32)) μ34 h)
theorem m_M_isSung {l : Launch} {q : MM} {a0 : Nat} {μ : MM} (h : f_M_isSung a0 μ = some q) : AMet l 10 Y_M_isSung [.ref a0] μ none q := by
  refine AMet.of (loc := [some (.ref a0), none, none, none]) pn_M_isSung (Nat.le_of_ble_eq_true rfl) rfl ?_
  unfold f_M_isSung at h
  obtain ⟨_, hk, h⟩ := bnd h
  refine aw_aload_n 1 d_M_isSung_0 rfl rfl ?_
  refine aw_aload_n 2 d_M_isSung_1 rfl rfl ?_
  obtain ⟨y2, h2, h⟩ := bnd h
  refine aw_getI 5 d_M_isSung_2 rfl fg_M_52 (Or.inl rfl) h2 ?_
  obtain ⟨μ5, h5, h⟩ := bnd h
  refine aw_putI 8 false d_M_isSung_5 rfl fp_M_450 (fun z => nomatch z) rfl h5 ?_
  refine aw_aload_n 9 d_M_isSung_8 rfl rfl ?_
  refine aw_lconst (v := (0 : Int64)) 10 d_M_isSung_9 rfl (by decide) ?_
  obtain ⟨μ10, h10, h⟩ := bnd h
  refine aw_putL 13 false d_M_isSung_10 rfl fp_M_490 (fun z => nomatch z) rfl h10 ?_
  refine aw_aload_n 14 d_M_isSung_13 rfl rfl ?_
  obtain ⟨y14, h14, h⟩ := bnd h
  refine aw_getI 17 d_M_isSung_14 rfl fg_M_297 (Or.inl rfl) h14 ?_
  refine aw_istore_n (loc' := [some (.ref a0), some (.int y14), none, none]) 18 d_M_isSung_17 rfl (by decide) rfl ?_
  refine aw_iconst (v := (0 : Int32)) 19 d_M_isSung_18 rfl (by decide) ?_
  refine aw_istore_n (loc' := [some (.ref a0), some (.int y14), some (.int (0 : Int32)), none]) 20 d_M_isSung_19 rfl (by decide) rfl ?_
  exact (l_M_isSung_20 FU _ _ h)
theorem k_M_isSung {q : MM} {a0 : Nat} {μ : MM} (h : f_M_isSung a0 μ = some q) : μ.1[a0]? = some (0, 1) := by
  unfold f_M_isSung at h
  obtain ⟨_, h1, _⟩ := bnd h
  exact kO_some h1
theorem m_M_plainly {l : Launch} {q : MM} {a0 : Nat} {μ : MM} (h : f_M_plainly a0 μ = some q) : AMet l 11 Y_M_plainly [.ref a0] μ none q := by
  refine AMet.of (loc := [some (.ref a0)]) pn_M_plainly (Nat.le_of_ble_eq_true rfl) rfl ?_
  unfold f_M_plainly at h
  obtain ⟨_, hk, h⟩ := bnd h
  refine aw_aload_n 1 d_M_plainly_0 rfl rfl ?_
  obtain ⟨μ1, h1, h⟩ := bnd h
  refine aw_invV (rest := []) (st' := []) (As := []) 4 d_M_plainly_1 rfl lv_M_506 (m_M_readies h1) (by decide) (k_M_readies h1) rfl rfl rfl (Nat.le_of_ble_eq_true rfl) rfl ?_
  refine aw_aload_n 5 d_M_plainly_4 rfl rfl ?_
  obtain ⟨μ5, h5, h⟩ := bnd h
  refine aw_invV (rest := []) (st' := []) (As := []) 8 d_M_plainly_5 rfl lv_M_509 (m_M_isSung h5) (by decide) (k_M_isSung h5) rfl rfl rfl (Nat.le_of_ble_eq_true rfl) rfl ?_
  cases h
  exact aw_return d_M_plainly_8 rfl
theorem k_M_plainly {q : MM} {a0 : Nat} {μ : MM} (h : f_M_plainly a0 μ = some q) : μ.1[a0]? = some (0, 1) := by
  unfold f_M_plainly at h
  obtain ⟨_, h1, _⟩ := bnd h
  exact kO_some h1
theorem m_M_pitch {l : Launch} {q : Int32 × MM} {a0 : Nat} {x1 : Int32} {x2 : Int32} {μ : MM} (h : f_M_pitch a0 x1 x2 μ = some q) : AMet l 12 Y_M_pitch [.ref a0, .int x1, .int x2] μ (some (.int q.1)) q.2 := by
  refine AMet.of (loc := [some (.ref a0), some (.int x1), some (.int x2)]) pn_M_pitch (Nat.le_of_ble_eq_true rfl) rfl ?_
  unfold f_M_pitch at h
  obtain ⟨_, hk, h⟩ := bnd h
  refine aw_aload_n 1 d_M_pitch_0 rfl rfl ?_
  refine aw_iload_n 2 d_M_pitch_1 rfl rfl ?_
  obtain ⟨y2, h2, h⟩ := bnd h
  refine aw_invV (rest := []) (st' := [.int y2]) (As := [.int x1]) 5 d_M_pitch_2 rfl lv_M_282 (m_M_isSinger h2) (by decide) (k_M_isSinger h2) rfl rfl rfl (Nat.le_of_ble_eq_true rfl) rfl ?_
  refine aw_if_eq 24 8 d_M_pitch_5 (by decide) rfl (fun c5 => ?_) (fun c5 => ?_)
  · have h := (if_pos c5).symm.trans h
    refine aw_ldc (v := (-1000000000 : Int32)) 26 d_M_pitch_24 rfl c_M_192 ?_
    cases h
    exact aw_ireturn d_M_pitch_26 rfl rfl
  · have h := (if_neg c5).symm.trans h
    refine aw_iload_n 9 d_M_pitch_8 rfl rfl ?_
    obtain ⟨y9, h9, h⟩ := bnd h
    refine aw_invS (rest := []) (st' := [.int y9]) (As := [.int x2]) 12 d_M_pitch_9 rfl ls_M_155 (m_M_isBeat h9) (by decide) rfl rfl (Nat.le_of_ble_eq_true rfl) rfl ?_
    refine aw_if_eq 24 15 d_M_pitch_12 (by decide) rfl (fun c12 => ?_) (fun c12 => ?_)
    · have h := (if_pos c12).symm.trans h
      refine aw_ldc (v := (-1000000000 : Int32)) 26 d_M_pitch_24 rfl c_M_192 ?_
      cases h
      exact aw_ireturn d_M_pitch_26 rfl rfl
    · have h := (if_neg c12).symm.trans h
      refine aw_aload_n 16 d_M_pitch_15 rfl rfl ?_
      refine aw_iload_n 17 d_M_pitch_16 rfl rfl ?_
      refine aw_iload_n 18 d_M_pitch_17 rfl rfl ?_
      obtain ⟨y18, h18, h⟩ := bnd h
      refine aw_invV (rest := []) (st' := [.int y18]) (As := [.int x1, .int x2]) 21 d_M_pitch_18 rfl lv_M_423 (m_M_sings h18) (by decide) (k_M_sings h18) rfl rfl rfl (Nat.le_of_ble_eq_true rfl) rfl ?_
      refine aw_if_ne 27 24 d_M_pitch_21 (by decide) rfl (fun c21 => ?_) (fun c21 => ?_)
      · have h := (if_neg c21).symm.trans h
        refine aw_aload_n 28 d_M_pitch_27 rfl rfl ?_
        obtain ⟨μ28, h28, h⟩ := bnd h
        refine aw_invV (rest := []) (st' := []) (As := []) 31 d_M_pitch_28 rfl lv_M_525 (m_M_plainly h28) (by decide) (k_M_plainly h28) rfl rfl rfl (Nat.le_of_ble_eq_true rfl) rfl ?_
        refine aw_aload_n 32 d_M_pitch_31 rfl rfl ?_
        obtain ⟨y32, h32, h⟩ := bnd h
        refine aw_getR 35 d_M_pitch_32 rfl fg_M_116 rfl h32 ?_
        refine aw_bipush (v := (24 : Int32)) 37 d_M_pitch_35 rfl (by decide) ?_
        refine aw_iload_n 38 d_M_pitch_37 rfl rfl ?_
        refine aw_imul 39 d_M_pitch_38 rfl ?_
        refine aw_iload_n 40 d_M_pitch_39 rfl rfl ?_
        refine aw_iadd 41 d_M_pitch_40 rfl ?_
        obtain ⟨y41, h41, h⟩ := bnd h
        refine aw_iald 42 d_M_pitch_41 rfl h41 ?_
        cases h
        exact aw_ireturn d_M_pitch_42 rfl rfl
      · have h := (if_pos c21).symm.trans h
        refine aw_ldc (v := (-1000000000 : Int32)) 26 d_M_pitch_24 rfl c_M_192 ?_
        cases h
        exact aw_ireturn d_M_pitch_26 rfl rfl
theorem k_M_pitch {q : Int32 × MM} {a0 : Nat} {x1 : Int32} {x2 : Int32} {μ : MM} (h : f_M_pitch a0 x1 x2 μ = some q) : μ.1[a0]? = some (0, 1) := by
  unfold f_M_pitch at h
  obtain ⟨_, h1, _⟩ := bnd h
  exact kO_some h1
theorem l_Si_off_8 {l : Launch} {μ0 : MM} {q : Int64} {a0 : Nat} {x1 : Int32} {μ : MM} : ∀ (n : Nat) (x2 : Int64) (x4 : Int64) (x6 : Int32), f_Si_off_L8 a0 x1 μ n x2 x4 x6 = some q → AWm l Y_Si_off 4 μ0 (some (.long q)) μ 8 [some (.ref a0), some (.int x1), some (.long x2), none, some (.long x4), none, some (.int x6)] [] μ := by
  intro n
  induction n with
  | zero =>
    intro x2 x4 x6 h
    have h : (none : Option (Int64)) = some q := h
    cases h
  | succ n ih =>
    intro x2 x4 x6 h
    rw [f_Si_off_L8] at h
    refine aw_iload 10 d_Si_off_8 rfl rfl ?_
    refine aw_aload_n 11 d_Si_off_10 rfl rfl ?_
    obtain ⟨y11, h11, h⟩ := bnd h
    refine aw_getR 14 d_Si_off_11 rfl fg_Si_46 rfl h11 ?_
    obtain ⟨y14, h14, h⟩ := bnd h
    refine aw_getI 17 d_Si_off_14 rfl fg_Si_91 (Or.inl rfl) h14 ?_
    refine aw_icmp_ge 63 20 d_Si_off_17 (by decide) rfl (fun c17 => ?_) (fun c17 => ?_)
    · have h := (if_pos c17).symm.trans h
      refine aw_lload 65 d_Si_off_63 rfl rfl ?_
      refine aw_lconst (v := (0 : Int64)) 66 d_Si_off_65 rfl (by decide) ?_
      refine aw_lcmp 67 d_Si_off_66 rfl ?_
      refine aw_if_le 79 70 d_Si_off_67 (by decide) rfl (fun c67 => ?_) (fun c67 => ?_)
      · have h := (if_pos c67).symm.trans h
        refine aw_lconst (v := (0 : Int64)) 80 d_Si_off_79 rfl (by decide) ?_
        cases h
        exact aw_lreturn d_Si_off_80 rfl
      · have h := (if_neg c67).symm.trans h
        refine aw_lload_n 71 d_Si_off_70 rfl rfl ?_
        refine aw_lload 73 d_Si_off_71 rfl rfl ?_
        obtain ⟨y73, h73, h⟩ := bnd h
        refine aw_invS (rest := []) (st' := [.long y73]) (As := [.long x2, .long x4]) 76 d_Si_off_73 rfl ls_Si_164 (m_Mt_floorDiv h73) (by decide) rfl rfl (Nat.le_of_ble_eq_true rfl) rfl ?_
        refine aw_goto 80 d_Si_off_76 (by decide) ?_
        cases h
        exact aw_lreturn d_Si_off_80 rfl
    · have h := (if_neg c17).symm.trans h
      refine aw_aload_n 21 d_Si_off_20 rfl rfl ?_
      obtain ⟨y21, h21, h⟩ := bnd h
      refine aw_getR 24 d_Si_off_21 rfl fg_Si_46 rfl h21 ?_
      refine aw_iload 26 d_Si_off_24 rfl rfl ?_
      refine aw_iload_n 27 d_Si_off_26 rfl rfl ?_
      obtain ⟨y27, h27, h⟩ := bnd h
      refine aw_invV (rest := []) (st' := [.int y27]) (As := [.int x6, .int x1]) 30 d_Si_off_27 rfl lv_Si_94 (m_Ch_sings h27) (by decide) (k_Ch_sings h27) rfl rfl rfl (Nat.le_of_ble_eq_true rfl) rfl ?_
      refine aw_if_eq 57 33 d_Si_off_30 (by decide) rfl (fun c30 => ?_) (fun c30 => ?_)
      · have h := (if_pos c30).symm.trans h
        refine aw_iinc (v := (x6 + (1 : Int32))) (loc' := [some (.ref a0), some (.int x1), some (.long x2), none, some (.long x4), none, some (.int (x6 + (1 : Int32)))]) 60 d_Si_off_57 rfl (by decide) rfl rfl rfl ?_
        refine aw_goto 8 d_Si_off_60 (by decide) ?_
        exact (ih x2 x4 (x6 + (1 : Int32)) h)
      · have h := (if_neg c30).symm.trans h
        refine aw_lload_n 34 d_Si_off_33 rfl rfl ?_
        refine aw_aload_n 35 d_Si_off_34 rfl rfl ?_
        refine aw_iload 37 d_Si_off_35 rfl rfl ?_
        refine aw_iload_n 38 d_Si_off_37 rfl rfl ?_
        obtain ⟨y38, h38, h⟩ := bnd h
        refine aw_invV (rest := [.long x2]) (st' := [.long y38, .long x2]) (As := [.int x6, .int x1]) 41 d_Si_off_38 rfl lv_Si_189 (m_Si_sung h38) (by decide) (k_Si_sung h38) rfl rfl rfl (Nat.le_of_ble_eq_true rfl) rfl ?_
        refine aw_aload_n 42 d_Si_off_41 rfl rfl ?_
        refine aw_iload 44 d_Si_off_42 rfl rfl ?_
        refine aw_iload_n 45 d_Si_off_44 rfl rfl ?_
        obtain ⟨y45, h45, h⟩ := bnd h
        refine aw_invV (rest := [.long y38, .long x2]) (st' := [.long y45, .long y38, .long x2]) (As := [.int x6, .int x1]) 48 d_Si_off_45 rfl lv_Si_106 (m_Si_tableOf h45) (by decide) (k_Si_tableOf h45) rfl rfl rfl (Nat.le_of_ble_eq_true rfl) rfl ?_
        refine aw_lsub 49 d_Si_off_48 rfl ?_
        refine aw_ladd 50 d_Si_off_49 rfl ?_
        refine aw_lstore_n (loc' := [some (.ref a0), some (.int x1), some (.long (x2 + (y38 - y45))), none, some (.long x4), none, some (.int x6)]) 51 d_Si_off_50 rfl (by decide) rfl ?_
        refine aw_lload 53 d_Si_off_51 rfl rfl ?_
        refine aw_lconst (v := (1 : Int64)) 54 d_Si_off_53 rfl (by decide) ?_
        refine aw_ladd 55 d_Si_off_54 rfl ?_
        refine aw_lstore (loc' := [some (.ref a0), some (.int x1), some (.long (x2 + (y38 - y45))), none, some (.long (x4 + (1 : Int64))), none, some (.int x6)]) 57 d_Si_off_55 rfl (by decide) rfl ?_
        refine aw_iinc (v := (x6 + (1 : Int32))) (loc' := [some (.ref a0), some (.int x1), some (.long (x2 + (y38 - y45))), none, some (.long (x4 + (1 : Int64))), none, some (.int (x6 + (1 : Int32)))]) 60 d_Si_off_57 rfl (by decide) rfl rfl rfl ?_
        refine aw_goto 8 d_Si_off_60 (by decide) ?_
        exact (ih (x2 + (y38 - y45)) (x4 + (1 : Int64)) (x6 + (1 : Int32)) h)
theorem m_Si_off {l : Launch} {q : Int64} {a0 : Nat} {x1 : Int32} {μ : MM} (h : f_Si_off a0 x1 μ = some q) : AMet l 4 Y_Si_off [.ref a0, .int x1] μ (some (.long q)) μ := by
  refine AMet.of (loc := [some (.ref a0), some (.int x1), none, none, none, none, none]) pn_Si_off (Nat.le_of_ble_eq_true rfl) rfl ?_
  unfold f_Si_off at h
  obtain ⟨_, hk, h⟩ := bnd h
  refine aw_lconst (v := (0 : Int64)) 1 d_Si_off_0 rfl (by decide) ?_
  refine aw_lstore_n (loc' := [some (.ref a0), some (.int x1), some (.long (0 : Int64)), none, none, none, none]) 2 d_Si_off_1 rfl (by decide) rfl ?_
  refine aw_lconst (v := (0 : Int64)) 3 d_Si_off_2 rfl (by decide) ?_
  refine aw_lstore (loc' := [some (.ref a0), some (.int x1), some (.long (0 : Int64)), none, some (.long (0 : Int64)), none, none]) 5 d_Si_off_3 rfl (by decide) rfl ?_
  refine aw_iconst (v := (0 : Int32)) 6 d_Si_off_5 rfl (by decide) ?_
  refine aw_istore (loc' := [some (.ref a0), some (.int x1), some (.long (0 : Int64)), none, some (.long (0 : Int64)), none, some (.int (0 : Int32))]) 8 d_Si_off_6 rfl (by decide) rfl ?_
  exact (l_Si_off_8 FU _ _ _ h)
theorem k_Si_off {q : Int64} {a0 : Nat} {x1 : Int32} {μ : MM} (h : f_Si_off a0 x1 μ = some q) : μ.1[a0]? = some (0, 9) := by
  unfold f_Si_off at h
  obtain ⟨_, h1, _⟩ := bnd h
  exact kO_some h1
theorem m_Mt_abs_J {l : Launch} {q : Int64} {x0 : Int64} {μ : MM} (h : f_Mt_abs_J x0 = some q) : AMet l 1 Y_Mt_abs_J [.long x0] μ (some (.long q)) μ := by
  refine AMet.of (loc := [some (.long x0), none]) pn_Mt_abs_J (Nat.le_of_ble_eq_true rfl) rfl ?_
  unfold f_Mt_abs_J at h
  refine aw_lload_n 1 d_Mt_abs_J_0 rfl rfl ?_
  refine aw_lconst (v := (0 : Int64)) 2 d_Mt_abs_J_1 rfl (by decide) ?_
  refine aw_lcmp 3 d_Mt_abs_J_2 rfl ?_
  refine aw_if_ge 11 6 d_Mt_abs_J_3 (by decide) rfl (fun c3 => ?_) (fun c3 => ?_)
  · have h := (if_pos c3).symm.trans h
    refine aw_lload_n 12 d_Mt_abs_J_11 rfl rfl ?_
    cases h
    exact aw_lreturn d_Mt_abs_J_12 rfl
  · have h := (if_neg c3).symm.trans h
    refine aw_lload_n 7 d_Mt_abs_J_6 rfl rfl ?_
    refine aw_lneg 8 d_Mt_abs_J_7 rfl ?_
    refine aw_goto 12 d_Mt_abs_J_8 (by decide) ?_
    cases h
    exact aw_lreturn d_Mt_abs_J_12 rfl
theorem l_Si_foul_20 {l : Launch} {μ0 : MM} {q : Int64} {a0 : Nat} {x1 : Int32} {x4 : Int32} {μ : MM} {k5 : Int64 → Int32 → Option (Int64)} (hk5 : ∀ (x2 : Int64) (x4 : Int32), k5 x2 x4 = some q → AWm l Y_Si_foul 4 μ0 (some (.long q)) μ 5 [some (.ref a0), some (.int x1), some (.long x2), none, some (.int x4), none, none, none] [] μ) : ∀ (n : Nat) (x2 : Int64) (x5 : Int32), f_Si_foul_L20 k5 a0 x1 x4 μ n x2 x5 = some q → AWm l Y_Si_foul 4 μ0 (some (.long q)) μ 20 [some (.ref a0), some (.int x1), some (.long x2), none, some (.int x4), some (.int x5), none, none] [] μ := by
  intro n
  induction n with
  | zero =>
    intro x2 x5 h
    have h : (none : Option (Int64)) = some q := h
    cases h
  | succ n ih =>
    intro x2 x5 h
    rw [f_Si_foul_L20] at h
    refine aw_iload 22 d_Si_foul_20 rfl rfl ?_
    refine aw_iload 24 d_Si_foul_22 rfl rfl ?_
    refine aw_icmp_ge 100 27 d_Si_foul_24 (by decide) rfl (fun c24 => ?_) (fun c24 => ?_)
    · have h := (if_pos c24).symm.trans h
      refine aw_iinc (v := (x4 + (1 : Int32))) (loc' := [some (.ref a0), some (.int x1), some (.long x2), none, some (.int (x4 + (1 : Int32))), some (.int x5), none, none]) 103 d_Si_foul_100 rfl (by decide) rfl rfl rfl ?_
      refine aw_goto 5 d_Si_foul_103 (by decide) ?_
      exact AW.wk [true, true, true, true, true, false, true, true] rfl (hk5 x2 (x4 + (1 : Int32)) h)
    · have h := (if_neg c24).symm.trans h
      refine aw_aload_n 28 d_Si_foul_27 rfl rfl ?_
      obtain ⟨y28, h28, h⟩ := bnd h
      refine aw_getR 31 d_Si_foul_28 rfl fg_Si_46 rfl h28 ?_
      refine aw_iload 33 d_Si_foul_31 rfl rfl ?_
      refine aw_iload_n 34 d_Si_foul_33 rfl rfl ?_
      obtain ⟨y34, h34, h⟩ := bnd h
      refine aw_invV (rest := []) (st' := [.int y34]) (As := [.int x4, .int x1]) 37 d_Si_foul_34 rfl lv_Si_94 (m_Ch_sings h34) (by decide) (k_Ch_sings h34) rfl rfl rfl (Nat.le_of_ble_eq_true rfl) rfl ?_
      refine aw_if_eq 94 40 d_Si_foul_37 (by decide) rfl (fun c37 => ?_) (fun c37 => ?_)
      · have h := (if_pos c37).symm.trans h
        refine aw_iinc (v := (x5 + (1 : Int32))) (loc' := [some (.ref a0), some (.int x1), some (.long x2), none, some (.int x4), some (.int (x5 + (1 : Int32))), none, none]) 97 d_Si_foul_94 rfl (by decide) rfl rfl rfl ?_
        refine aw_goto 20 d_Si_foul_97 (by decide) ?_
        exact (ih x2 (x5 + (1 : Int32)) h)
      · have h := (if_neg c37).symm.trans h
        refine aw_aload_n 41 d_Si_foul_40 rfl rfl ?_
        obtain ⟨y41, h41, h⟩ := bnd h
        refine aw_getR 44 d_Si_foul_41 rfl fg_Si_46 rfl h41 ?_
        refine aw_iload 46 d_Si_foul_44 rfl rfl ?_
        refine aw_iload_n 47 d_Si_foul_46 rfl rfl ?_
        obtain ⟨y47, h47, h⟩ := bnd h
        refine aw_invV (rest := []) (st' := [.int y47]) (As := [.int x5, .int x1]) 50 d_Si_foul_47 rfl lv_Si_94 (m_Ch_sings h47) (by decide) (k_Ch_sings h47) rfl rfl rfl (Nat.le_of_ble_eq_true rfl) rfl ?_
        refine aw_if_eq 94 53 d_Si_foul_50 (by decide) rfl (fun c50 => ?_) (fun c50 => ?_)
        · have h := (if_pos c50).symm.trans h
          refine aw_iinc (v := (x5 + (1 : Int32))) (loc' := [some (.ref a0), some (.int x1), some (.long x2), none, some (.int x4), some (.int (x5 + (1 : Int32))), none, none]) 97 d_Si_foul_94 rfl (by decide) rfl rfl rfl ?_
          refine aw_goto 20 d_Si_foul_97 (by decide) ?_
          exact (ih x2 (x5 + (1 : Int32)) h)
        · have h := (if_neg c50).symm.trans h
          refine aw_aload_n 54 d_Si_foul_53 rfl rfl ?_
          refine aw_iload 56 d_Si_foul_54 rfl rfl ?_
          refine aw_iload_n 57 d_Si_foul_56 rfl rfl ?_
          obtain ⟨y57, h57, h⟩ := bnd h
          refine aw_invV (rest := []) (st' := [.long y57]) (As := [.int x4, .int x1]) 60 d_Si_foul_57 rfl lv_Si_189 (m_Si_sung h57) (by decide) (k_Si_sung h57) rfl rfl rfl (Nat.le_of_ble_eq_true rfl) rfl ?_
          refine aw_aload_n 61 d_Si_foul_60 rfl rfl ?_
          refine aw_iload 63 d_Si_foul_61 rfl rfl ?_
          refine aw_iload_n 64 d_Si_foul_63 rfl rfl ?_
          obtain ⟨y64, h64, h⟩ := bnd h
          refine aw_invV (rest := [.long y57]) (st' := [.long y64, .long y57]) (As := [.int x5, .int x1]) 67 d_Si_foul_64 rfl lv_Si_189 (m_Si_sung h64) (by decide) (k_Si_sung h64) rfl rfl rfl (Nat.le_of_ble_eq_true rfl) rfl ?_
          refine aw_lsub 68 d_Si_foul_67 rfl ?_
          refine aw_lstore (loc' := [some (.ref a0), some (.int x1), some (.long x2), none, some (.int x4), some (.int x5), some (.long (y57 - y64)), none]) 70 d_Si_foul_68 rfl (by decide) rfl ?_
          refine aw_lload_n 71 d_Si_foul_70 rfl rfl ?_
          refine aw_lload 73 d_Si_foul_71 rfl rfl ?_
          refine aw_aload_n 74 d_Si_foul_73 rfl rfl ?_
          refine aw_iload 76 d_Si_foul_74 rfl rfl ?_
          refine aw_iload_n 77 d_Si_foul_76 rfl rfl ?_
          obtain ⟨y77, h77, h⟩ := bnd h
          refine aw_invV (rest := [.long (y57 - y64), .long x2]) (st' := [.long y77, .long (y57 - y64), .long x2]) (As := [.int x4, .int x1]) 80 d_Si_foul_77 rfl lv_Si_183 (m_Si_millsOf h77) (by decide) (k_Si_millsOf h77) rfl rfl rfl (Nat.le_of_ble_eq_true rfl) rfl ?_
          refine aw_aload_n 81 d_Si_foul_80 rfl rfl ?_
          refine aw_iload 83 d_Si_foul_81 rfl rfl ?_
          refine aw_iload_n 84 d_Si_foul_83 rfl rfl ?_
          obtain ⟨y84, h84, h⟩ := bnd h
          refine aw_invV (rest := [.long y77, .long (y57 - y64), .long x2]) (st' := [.long y84, .long y77, .long (y57 - y64), .long x2]) (As := [.int x5, .int x1]) 87 d_Si_foul_84 rfl lv_Si_183 (m_Si_millsOf h84) (by decide) (k_Si_millsOf h84) rfl rfl rfl (Nat.le_of_ble_eq_true rfl) rfl ?_
          refine aw_lsub 88 d_Si_foul_87 rfl ?_
          refine aw_lsub 89 d_Si_foul_88 rfl ?_
          obtain ⟨y89, h89, h⟩ := bnd h
          refine aw_invS (rest := [.long x2]) (st' := [.long y89, .long x2]) (As := [.long ((y57 - y64) - (y77 - y84))]) 92 d_Si_foul_89 rfl ls_Si_192 (m_Mt_abs_J h89) (by decide) rfl rfl (Nat.le_of_ble_eq_true rfl) rfl ?_
          refine aw_ladd 93 d_Si_foul_92 rfl ?_
          refine aw_lstore_n (loc' := [some (.ref a0), some (.int x1), some (.long (x2 + y89)), none, some (.int x4), some (.int x5), some (.long (y57 - y64)), none]) 94 d_Si_foul_93 rfl (by decide) rfl ?_
          refine aw_iinc (v := (x5 + (1 : Int32))) (loc' := [some (.ref a0), some (.int x1), some (.long (x2 + y89)), none, some (.int x4), some (.int (x5 + (1 : Int32))), some (.long (y57 - y64)), none]) 97 d_Si_foul_94 rfl (by decide) rfl rfl rfl ?_
          refine aw_goto 20 d_Si_foul_97 (by decide) ?_
          exact AW.wk [true, true, true, true, true, true, false, true] rfl (ih (x2 + y89) (x5 + (1 : Int32)) h)
theorem l_Si_foul_5 {l : Launch} {μ0 : MM} {q : Int64} {a0 : Nat} {x1 : Int32} {μ : MM} : ∀ (n : Nat) (x2 : Int64) (x4 : Int32), f_Si_foul_L5 a0 x1 μ n x2 x4 = some q → AWm l Y_Si_foul 4 μ0 (some (.long q)) μ 5 [some (.ref a0), some (.int x1), some (.long x2), none, some (.int x4), none, none, none] [] μ := by
  intro n
  induction n with
  | zero =>
    intro x2 x4 h
    have h : (none : Option (Int64)) = some q := h
    cases h
  | succ n ih =>
    intro x2 x4 h
    rw [f_Si_foul_L5] at h
    refine aw_iload 7 d_Si_foul_5 rfl rfl ?_
    refine aw_aload_n 8 d_Si_foul_7 rfl rfl ?_
    obtain ⟨y8, h8, h⟩ := bnd h
    refine aw_getR 11 d_Si_foul_8 rfl fg_Si_46 rfl h8 ?_
    obtain ⟨y11, h11, h⟩ := bnd h
    refine aw_getI 14 d_Si_foul_11 rfl fg_Si_91 (Or.inl rfl) h11 ?_
    refine aw_icmp_ge 106 17 d_Si_foul_14 (by decide) rfl (fun c14 => ?_) (fun c14 => ?_)
    · have h := (if_pos c14).symm.trans h
      refine aw_lload_n 107 d_Si_foul_106 rfl rfl ?_
      cases h
      exact aw_lreturn d_Si_foul_107 rfl
    · have h := (if_neg c14).symm.trans h
      refine aw_iconst (v := (0 : Int32)) 18 d_Si_foul_17 rfl (by decide) ?_
      refine aw_istore (loc' := [some (.ref a0), some (.int x1), some (.long x2), none, some (.int x4), some (.int (0 : Int32)), none, none]) 20 d_Si_foul_18 rfl (by decide) rfl ?_
      exact (l_Si_foul_20 ih FU _ _ h)
theorem m_Si_foul {l : Launch} {q : Int64} {a0 : Nat} {x1 : Int32} {μ : MM} (h : f_Si_foul a0 x1 μ = some q) : AMet l 4 Y_Si_foul [.ref a0, .int x1] μ (some (.long q)) μ := by
  refine AMet.of (loc := [some (.ref a0), some (.int x1), none, none, none, none, none, none]) pn_Si_foul (Nat.le_of_ble_eq_true rfl) rfl ?_
  unfold f_Si_foul at h
  obtain ⟨_, hk, h⟩ := bnd h
  refine aw_lconst (v := (0 : Int64)) 1 d_Si_foul_0 rfl (by decide) ?_
  refine aw_lstore_n (loc' := [some (.ref a0), some (.int x1), some (.long (0 : Int64)), none, none, none, none, none]) 2 d_Si_foul_1 rfl (by decide) rfl ?_
  refine aw_iconst (v := (0 : Int32)) 3 d_Si_foul_2 rfl (by decide) ?_
  refine aw_istore (loc' := [some (.ref a0), some (.int x1), some (.long (0 : Int64)), none, some (.int (0 : Int32)), none, none, none]) 5 d_Si_foul_3 rfl (by decide) rfl ?_
  exact (l_Si_foul_5 FU _ _ h)
theorem k_Si_foul {q : Int64} {a0 : Nat} {x1 : Int32} {μ : MM} (h : f_Si_foul a0 x1 μ = some q) : μ.1[a0]? = some (0, 9) := by
  unfold f_Si_foul at h
  obtain ⟨_, h1, _⟩ := bnd h
  exact kO_some h1
theorem m_Ch_above {l : Launch} {q : Int32} {a0 : Nat} {x1 : Int32} {x2 : Int32} {μ : MM} (h : f_Ch_above a0 x1 x2 μ = some q) : AMet l 3 Y_Ch_above [.ref a0, .int x1, .int x2] μ (some (.int q)) μ := by
  refine AMet.of (loc := [some (.ref a0), some (.int x1), some (.int x2), none]) pn_Ch_above (Nat.le_of_ble_eq_true rfl) rfl ?_
  unfold f_Ch_above at h
  obtain ⟨_, hk, h⟩ := bnd h
  refine aw_iload_n 1 d_Ch_above_0 rfl rfl ?_
  refine aw_iload_n 2 d_Ch_above_1 rfl rfl ?_
  obtain ⟨y2, h2, h⟩ := bnd h
  refine aw_invS (rest := []) (st' := [.int y2]) (As := [.int x1, .int x2]) 5 d_Ch_above_2 rfl ls_Ch_84 (m_Sc_cell h2) (by decide) rfl rfl (Nat.le_of_ble_eq_true rfl) rfl ?_
  refine aw_istore_n (loc' := [some (.ref a0), some (.int x1), some (.int x2), some (.int y2)]) 6 d_Ch_above_5 rfl (by decide) rfl ?_
  refine aw_aload_n 7 d_Ch_above_6 rfl rfl ?_
  refine aw_aload_n 8 d_Ch_above_7 rfl rfl ?_
  obtain ⟨y8, h8, h⟩ := bnd h
  refine aw_getR 11 d_Ch_above_8 rfl fg_Ch_33 rfl h8 ?_
  obtain ⟨y11, h11, h⟩ := bnd h
  refine aw_getR 14 d_Ch_above_11 rfl fg_Ch_87 rfl h11 ?_
  refine aw_iload_n 15 d_Ch_above_14 rfl rfl ?_
  obtain ⟨y15, h15, h⟩ := bnd h
  refine aw_iald 16 d_Ch_above_15 rfl h15 ?_
  refine aw_iconst (v := (0 : Int32)) 17 d_Ch_above_16 rfl (by decide) ?_
  obtain ⟨y17, h17, h⟩ := bnd h
  refine aw_invV (rest := []) (st' := [.int y17]) (As := [.int y15, .int (0 : Int32)]) 20 d_Ch_above_17 rfl lv_Ch_90 (m_Ch_tableOf h17) (by decide) (k_Ch_tableOf h17) rfl rfl rfl (Nat.le_of_ble_eq_true rfl) rfl ?_
  refine aw_aload_n 21 d_Ch_above_20 rfl rfl ?_
  obtain ⟨y21, h21, h⟩ := bnd h
  refine aw_getR 24 d_Ch_above_21 rfl fg_Ch_33 rfl h21 ?_
  obtain ⟨y24, h24, h⟩ := bnd h
  refine aw_getR 27 d_Ch_above_24 rfl fg_Ch_93 rfl h24 ?_
  refine aw_iload_n 28 d_Ch_above_27 rfl rfl ?_
  obtain ⟨y28, h28, h⟩ := bnd h
  refine aw_iald 29 d_Ch_above_28 rfl h28 ?_
  refine aw_isub 30 d_Ch_above_29 rfl ?_
  cases h
  exact aw_ireturn d_Ch_above_30 rfl rfl
theorem k_Ch_above {q : Int32} {a0 : Nat} {x1 : Int32} {x2 : Int32} {μ : MM} (h : f_Ch_above a0 x1 x2 μ = some q) : μ.1[a0]? = some (0, 2) := by
  unfold f_Ch_above at h
  obtain ⟨_, h1, _⟩ := bnd h
  exact kO_some h1
theorem l_Ch_tableFoul_15 {l : Launch} {μ0 : MM} {q : Int64} {a0 : Nat} {x1 : Int32} {x4 : Int32} {μ : MM} {k5 : Int64 → Int32 → Option (Int64)} (hk5 : ∀ (x2 : Int64) (x4 : Int32), k5 x2 x4 = some q → AWm l Y_Ch_tableFoul 4 μ0 (some (.long q)) μ 5 [some (.ref a0), some (.int x1), some (.long x2), none, some (.int x4), none] [] μ) : ∀ (n : Nat) (x2 : Int64) (x5 : Int32), f_Ch_tableFoul_L15 k5 a0 x1 x4 μ n x2 x5 = some q → AWm l Y_Ch_tableFoul 4 μ0 (some (.long q)) μ 15 [some (.ref a0), some (.int x1), some (.long x2), none, some (.int x4), some (.int x5)] [] μ := by
  intro n
  induction n with
  | zero =>
    intro x2 x5 h
    have h : (none : Option (Int64)) = some q := h
    cases h
  | succ n ih =>
    intro x2 x5 h
    rw [f_Ch_tableFoul_L15] at h
    refine aw_iload 17 d_Ch_tableFoul_15 rfl rfl ?_
    refine aw_iload 19 d_Ch_tableFoul_17 rfl rfl ?_
    refine aw_icmp_ge 76 22 d_Ch_tableFoul_19 (by decide) rfl (fun c19 => ?_) (fun c19 => ?_)
    · have h := (if_pos c19).symm.trans h
      refine aw_iinc (v := (x4 + (1 : Int32))) (loc' := [some (.ref a0), some (.int x1), some (.long x2), none, some (.int (x4 + (1 : Int32))), some (.int x5)]) 79 d_Ch_tableFoul_76 rfl (by decide) rfl rfl rfl ?_
      refine aw_goto 5 d_Ch_tableFoul_79 (by decide) ?_
      exact AW.wk [true, true, true, true, true, false] rfl (hk5 x2 (x4 + (1 : Int32)) h)
    · have h := (if_neg c19).symm.trans h
      refine aw_aload_n 23 d_Ch_tableFoul_22 rfl rfl ?_
      obtain ⟨y23, h23, h⟩ := bnd h
      refine aw_getR 26 d_Ch_tableFoul_23 rfl fg_Ch_33 rfl h23 ?_
      refine aw_iload 28 d_Ch_tableFoul_26 rfl rfl ?_
      refine aw_iload_n 29 d_Ch_tableFoul_28 rfl rfl ?_
      obtain ⟨y29, h29, h⟩ := bnd h
      refine aw_invV (rest := []) (st' := [.int y29]) (As := [.int x4, .int x1]) 32 d_Ch_tableFoul_29 rfl lv_Ch_55 (m_Sc_sounds h29) (by decide) (k_Sc_sounds h29) rfl rfl rfl (Nat.le_of_ble_eq_true rfl) rfl ?_
      refine aw_if_eq 70 35 d_Ch_tableFoul_32 (by decide) rfl (fun c32 => ?_) (fun c32 => ?_)
      · have h := (if_pos c32).symm.trans h
        refine aw_iinc (v := (x5 + (1 : Int32))) (loc' := [some (.ref a0), some (.int x1), some (.long x2), none, some (.int x4), some (.int (x5 + (1 : Int32)))]) 73 d_Ch_tableFoul_70 rfl (by decide) rfl rfl rfl ?_
        refine aw_goto 15 d_Ch_tableFoul_73 (by decide) ?_
        exact (ih x2 (x5 + (1 : Int32)) h)
      · have h := (if_neg c32).symm.trans h
        refine aw_aload_n 36 d_Ch_tableFoul_35 rfl rfl ?_
        obtain ⟨y36, h36, h⟩ := bnd h
        refine aw_getR 39 d_Ch_tableFoul_36 rfl fg_Ch_33 rfl h36 ?_
        refine aw_iload 41 d_Ch_tableFoul_39 rfl rfl ?_
        refine aw_iload_n 42 d_Ch_tableFoul_41 rfl rfl ?_
        obtain ⟨y42, h42, h⟩ := bnd h
        refine aw_invV (rest := []) (st' := [.int y42]) (As := [.int x5, .int x1]) 45 d_Ch_tableFoul_42 rfl lv_Ch_55 (m_Sc_sounds h42) (by decide) (k_Sc_sounds h42) rfl rfl rfl (Nat.le_of_ble_eq_true rfl) rfl ?_
        refine aw_if_eq 70 48 d_Ch_tableFoul_45 (by decide) rfl (fun c45 => ?_) (fun c45 => ?_)
        · have h := (if_pos c45).symm.trans h
          refine aw_iinc (v := (x5 + (1 : Int32))) (loc' := [some (.ref a0), some (.int x1), some (.long x2), none, some (.int x4), some (.int (x5 + (1 : Int32)))]) 73 d_Ch_tableFoul_70 rfl (by decide) rfl rfl rfl ?_
          refine aw_goto 15 d_Ch_tableFoul_73 (by decide) ?_
          exact (ih x2 (x5 + (1 : Int32)) h)
        · have h := (if_neg c45).symm.trans h
          refine aw_lload_n 49 d_Ch_tableFoul_48 rfl rfl ?_
          refine aw_aload_n 50 d_Ch_tableFoul_49 rfl rfl ?_
          refine aw_iload 52 d_Ch_tableFoul_50 rfl rfl ?_
          refine aw_iload_n 53 d_Ch_tableFoul_52 rfl rfl ?_
          obtain ⟨y53, h53, h⟩ := bnd h
          refine aw_invV (rest := [.long x2]) (st' := [.int y53, .long x2]) (As := [.int x4, .int x1]) 56 d_Ch_tableFoul_53 rfl lv_Ch_81 (m_Ch_above h53) (by decide) (k_Ch_above h53) rfl rfl rfl (Nat.le_of_ble_eq_true rfl) rfl ?_
          refine aw_aload_n 57 d_Ch_tableFoul_56 rfl rfl ?_
          refine aw_iload 59 d_Ch_tableFoul_57 rfl rfl ?_
          refine aw_iload_n 60 d_Ch_tableFoul_59 rfl rfl ?_
          obtain ⟨y60, h60, h⟩ := bnd h
          refine aw_invV (rest := [.int y53, .long x2]) (st' := [.int y60, .int y53, .long x2]) (As := [.int x5, .int x1]) 63 d_Ch_tableFoul_60 rfl lv_Ch_81 (m_Ch_above h60) (by decide) (k_Ch_above h60) rfl rfl rfl (Nat.le_of_ble_eq_true rfl) rfl ?_
          refine aw_isub 64 d_Ch_tableFoul_63 rfl ?_
          obtain ⟨y64, h64, h⟩ := bnd h
          refine aw_invS (rest := [.long x2]) (st' := [.int y64, .long x2]) (As := [.int (y53 - y60)]) 67 d_Ch_tableFoul_64 rfl ls_Ch_72 (m_Mt_abs_I h64) (by decide) rfl rfl (Nat.le_of_ble_eq_true rfl) rfl ?_
          refine aw_i2l 68 d_Ch_tableFoul_67 rfl ?_
          refine aw_ladd 69 d_Ch_tableFoul_68 rfl ?_
          refine aw_lstore_n (loc' := [some (.ref a0), some (.int x1), some (.long (x2 + y64.toInt64)), none, some (.int x4), some (.int x5)]) 70 d_Ch_tableFoul_69 rfl (by decide) rfl ?_
          refine aw_iinc (v := (x5 + (1 : Int32))) (loc' := [some (.ref a0), some (.int x1), some (.long (x2 + y64.toInt64)), none, some (.int x4), some (.int (x5 + (1 : Int32)))]) 73 d_Ch_tableFoul_70 rfl (by decide) rfl rfl rfl ?_
          refine aw_goto 15 d_Ch_tableFoul_73 (by decide) ?_
          exact (ih (x2 + y64.toInt64) (x5 + (1 : Int32)) h)
theorem l_Ch_tableFoul_5 {l : Launch} {μ0 : MM} {q : Int64} {a0 : Nat} {x1 : Int32} {μ : MM} : ∀ (n : Nat) (x2 : Int64) (x4 : Int32), f_Ch_tableFoul_L5 a0 x1 μ n x2 x4 = some q → AWm l Y_Ch_tableFoul 4 μ0 (some (.long q)) μ 5 [some (.ref a0), some (.int x1), some (.long x2), none, some (.int x4), none] [] μ := by
  intro n
  induction n with
  | zero =>
    intro x2 x4 h
    have h : (none : Option (Int64)) = some q := h
    cases h
  | succ n ih =>
    intro x2 x4 h
    rw [f_Ch_tableFoul_L5] at h
    refine aw_iload 7 d_Ch_tableFoul_5 rfl rfl ?_
    refine aw_bipush (v := (6 : Int32)) 9 d_Ch_tableFoul_7 rfl (by decide) ?_
    refine aw_icmp_ge 82 12 d_Ch_tableFoul_9 (by decide) rfl (fun c9 => ?_) (fun c9 => ?_)
    · have h := (if_pos c9).symm.trans h
      refine aw_lload_n 83 d_Ch_tableFoul_82 rfl rfl ?_
      cases h
      exact aw_lreturn d_Ch_tableFoul_83 rfl
    · have h := (if_neg c9).symm.trans h
      refine aw_iconst (v := (0 : Int32)) 13 d_Ch_tableFoul_12 rfl (by decide) ?_
      refine aw_istore (loc' := [some (.ref a0), some (.int x1), some (.long x2), none, some (.int x4), some (.int (0 : Int32))]) 15 d_Ch_tableFoul_13 rfl (by decide) rfl ?_
      exact (l_Ch_tableFoul_15 ih FU _ _ h)
theorem m_Ch_tableFoul {l : Launch} {q : Int64} {a0 : Nat} {x1 : Int32} {μ : MM} (h : f_Ch_tableFoul a0 x1 μ = some q) : AMet l 4 Y_Ch_tableFoul [.ref a0, .int x1] μ (some (.long q)) μ := by
  refine AMet.of (loc := [some (.ref a0), some (.int x1), none, none, none, none]) pn_Ch_tableFoul (Nat.le_of_ble_eq_true rfl) rfl ?_
  unfold f_Ch_tableFoul at h
  obtain ⟨_, hk, h⟩ := bnd h
  refine aw_lconst (v := (0 : Int64)) 1 d_Ch_tableFoul_0 rfl (by decide) ?_
  refine aw_lstore_n (loc' := [some (.ref a0), some (.int x1), some (.long (0 : Int64)), none, none, none]) 2 d_Ch_tableFoul_1 rfl (by decide) rfl ?_
  refine aw_iconst (v := (0 : Int32)) 3 d_Ch_tableFoul_2 rfl (by decide) ?_
  refine aw_istore (loc' := [some (.ref a0), some (.int x1), some (.long (0 : Int64)), none, some (.int (0 : Int32)), none]) 5 d_Ch_tableFoul_3 rfl (by decide) rfl ?_
  exact (l_Ch_tableFoul_5 FU _ _ h)
theorem k_Ch_tableFoul {q : Int64} {a0 : Nat} {x1 : Int32} {μ : MM} (h : f_Ch_tableFoul a0 x1 μ = some q) : μ.1[a0]? = some (0, 2) := by
  unfold f_Ch_tableFoul at h
  obtain ⟨_, h1, _⟩ := bnd h
  exact kO_some h1
theorem j_X_beat_10 {l : Launch} {μ0 : MM} {q : Int64 × MM} {μ : MM} (h : f_X_beat_J10 μ = some q) : AWm l Y_X_beat 8 μ0 (some (.long q.1)) q.2 10 [none, none, none] [] μ := by
  unfold f_X_beat_J10 at h
  refine aw_ldc2 (v := (-1000000000 : Int64)) 13 d_X_beat_10 rfl c_X_239 ?_
  cases h
  exact aw_lreturn d_X_beat_13 rfl
theorem m_X_beat {l : Launch} {q : Int64 × MM} {a0 : Nat} {x1 : Int32} {x2 : Int32} {μ : MM} (h : f_X_beat a0 x1 x2 μ = some q) : AMet l 8 Y_X_beat [.ref a0, .int x1, .int x2] μ (some (.long q.1)) q.2 := by
  refine AMet.of (loc := [some (.ref a0), some (.int x1), some (.int x2)]) pn_X_beat (Nat.le_of_ble_eq_true rfl) rfl ?_
  unfold f_X_beat at h
  obtain ⟨_, hk, h⟩ := bnd h
  refine aw_iload_n 1 d_X_beat_0 rfl rfl ?_
  refine aw_if_lt 10 4 d_X_beat_1 (by decide) rfl (fun c1 => ?_) (fun c1 => ?_)
  · have h := (if_pos c1).symm.trans h
    exact AW.wk [false, false, false] rfl (j_X_beat_10 h)
  · have h := (if_neg c1).symm.trans h
    refine aw_iload_n 5 d_X_beat_4 rfl rfl ?_
    refine aw_bipush (v := (24 : Int32)) 7 d_X_beat_5 rfl (by decide) ?_
    refine aw_icmp_lt 14 10 d_X_beat_7 (by decide) rfl (fun c7 => ?_) (fun c7 => ?_)
    · have h := (if_pos c7).symm.trans h
      refine aw_iload_n 15 d_X_beat_14 rfl rfl ?_
      by_cases c15_0 : x2 = (0 : Int32)
      · have h := (if_pos c15_0).symm.trans h
        refine aw_tableIn 44 d_X_beat_15 (by rw [c15_0]; decide) (by rw [c15_0]; decide) (by rw [c15_0]; rfl) (by decide) ?_
        refine aw_aload_n 45 d_X_beat_44 rfl rfl ?_
        obtain ⟨y45, h45, h⟩ := bnd h
        refine aw_getR 48 d_X_beat_45 rfl fg_X_30 rfl h45 ?_
        obtain ⟨μ48, h48, h⟩ := bnd h
        refine aw_invV (rest := []) (st' := []) (As := []) 51 d_X_beat_48 rfl lv_X_232 (m_Si_asTold h48) (by decide) (k_Si_asTold h48) rfl rfl rfl (Nat.le_of_ble_eq_true rfl) rfl ?_
        refine aw_aload_n 52 d_X_beat_51 rfl rfl ?_
        obtain ⟨y52, h52, h⟩ := bnd h
        refine aw_getR 55 d_X_beat_52 rfl fg_X_21 rfl h52 ?_
        refine aw_iload_n 56 d_X_beat_55 rfl rfl ?_
        obtain ⟨y56, h56, h⟩ := bnd h
        refine aw_invV (rest := []) (st' := [.int y56]) (As := [.int x1]) 59 d_X_beat_56 rfl lv_X_241 (m_Ch_howMany h56) (by decide) (k_Ch_howMany h56) rfl rfl rfl (Nat.le_of_ble_eq_true rfl) rfl ?_
        refine aw_if_ne 68 62 d_X_beat_59 (by decide) rfl (fun c59 => ?_) (fun c59 => ?_)
        · have h := (if_neg c59).symm.trans h
          refine aw_aload_n 69 d_X_beat_68 rfl rfl ?_
          obtain ⟨y69, h69, h⟩ := bnd h
          refine aw_getR 72 d_X_beat_69 rfl fg_X_30 rfl h69 ?_
          refine aw_iload_n 73 d_X_beat_72 rfl rfl ?_
          obtain ⟨y73, h73, h⟩ := bnd h
          refine aw_invV (rest := []) (st' := [.long y73]) (As := [.int x1]) 76 d_X_beat_73 rfl lv_X_244 (m_Si_off h73) (by decide) (k_Si_off h73) rfl rfl rfl (Nat.le_of_ble_eq_true rfl) rfl ?_
          cases h
          exact aw_lreturn d_X_beat_76 rfl
        · have h := (if_pos c59).symm.trans h
          refine aw_ldc2 (v := (-1000000000 : Int64)) 65 d_X_beat_62 rfl c_X_239 ?_
          refine aw_goto 76 d_X_beat_65 (by decide) ?_
          cases h
          exact aw_lreturn d_X_beat_76 rfl
      · have h := (if_neg c15_0).symm.trans h
        by_cases c15_1 : x2 = (1 : Int32)
        · have h := (if_pos c15_1).symm.trans h
          refine aw_tableIn 77 d_X_beat_15 (by rw [c15_1]; decide) (by rw [c15_1]; decide) (by rw [c15_1]; rfl) (by decide) ?_
          refine aw_aload_n 78 d_X_beat_77 rfl rfl ?_
          obtain ⟨y78, h78, h⟩ := bnd h
          refine aw_getR 81 d_X_beat_78 rfl fg_X_30 rfl h78 ?_
          obtain ⟨μ81, h81, h⟩ := bnd h
          refine aw_invV (rest := []) (st' := []) (As := []) 84 d_X_beat_81 rfl lv_X_232 (m_Si_asTold h81) (by decide) (k_Si_asTold h81) rfl rfl rfl (Nat.le_of_ble_eq_true rfl) rfl ?_
          refine aw_aload_n 85 d_X_beat_84 rfl rfl ?_
          obtain ⟨y85, h85, h⟩ := bnd h
          refine aw_getR 88 d_X_beat_85 rfl fg_X_30 rfl h85 ?_
          refine aw_iload_n 89 d_X_beat_88 rfl rfl ?_
          obtain ⟨y89, h89, h⟩ := bnd h
          refine aw_invV (rest := []) (st' := [.long y89]) (As := [.int x1]) 92 d_X_beat_89 rfl lv_X_248 (m_Si_foul h89) (by decide) (k_Si_foul h89) rfl rfl rfl (Nat.le_of_ble_eq_true rfl) rfl ?_
          cases h
          exact aw_lreturn d_X_beat_92 rfl
        · have h := (if_neg c15_1).symm.trans h
          by_cases c15_2 : x2 = (2 : Int32)
          · have h := (if_pos c15_2).symm.trans h
            refine aw_tableIn 93 d_X_beat_15 (by rw [c15_2]; decide) (by rw [c15_2]; decide) (by rw [c15_2]; rfl) (by decide) ?_
            refine aw_aload_n 94 d_X_beat_93 rfl rfl ?_
            obtain ⟨y94, h94, h⟩ := bnd h
            refine aw_getR 97 d_X_beat_94 rfl fg_X_21 rfl h94 ?_
            refine aw_iload_n 98 d_X_beat_97 rfl rfl ?_
            obtain ⟨y98, h98, h⟩ := bnd h
            refine aw_invV (rest := []) (st' := [.int y98]) (As := [.int x1]) 101 d_X_beat_98 rfl lv_X_241 (m_Ch_howMany h98) (by decide) (k_Ch_howMany h98) rfl rfl rfl (Nat.le_of_ble_eq_true rfl) rfl ?_
            refine aw_i2l 102 d_X_beat_101 rfl ?_
            cases h
            exact aw_lreturn d_X_beat_102 rfl
          · have h := (if_neg c15_2).symm.trans h
            by_cases c15_3 : x2 = (3 : Int32)
            · have h := (if_pos c15_3).symm.trans h
              refine aw_tableIn 103 d_X_beat_15 (by rw [c15_3]; decide) (by rw [c15_3]; decide) (by rw [c15_3]; rfl) (by decide) ?_
              refine aw_aload_n 104 d_X_beat_103 rfl rfl ?_
              obtain ⟨y104, h104, h⟩ := bnd h
              refine aw_getR 107 d_X_beat_104 rfl fg_X_21 rfl h104 ?_
              refine aw_iload_n 108 d_X_beat_107 rfl rfl ?_
              obtain ⟨y108, h108, h⟩ := bnd h
              refine aw_invV (rest := []) (st' := [.long y108]) (As := [.int x1]) 111 d_X_beat_108 rfl lv_X_251 (m_Ch_tableFoul h108) (by decide) (k_Ch_tableFoul h108) rfl rfl rfl (Nat.le_of_ble_eq_true rfl) rfl ?_
              cases h
              exact aw_lreturn d_X_beat_111 rfl
            · have h := (if_neg c15_3).symm.trans h
              have e15 : (x2).toInt < 0 ∨ 3 < (x2).toInt := by
                have z0 := lv_neT (a := 0) c15_0 (by decide)
                have z1 := lv_neT (a := 1) c15_1 (by decide)
                have z2 := lv_neT (a := 2) c15_2 (by decide)
                have z3 := lv_neT (a := 3) c15_3 (by decide)
                omega
              refine aw_tableOut 112 d_X_beat_15 e15 (by decide) ?_
              refine aw_ldc2 (v := (-1000000000 : Int64)) 115 d_X_beat_112 rfl c_X_239 ?_
              cases h
              exact aw_lreturn d_X_beat_115 rfl
    · have h := (if_neg c7).symm.trans h
      exact AW.wk [false, false, false] rfl (j_X_beat_10 h)
theorem k_X_beat {q : Int64 × MM} {a0 : Nat} {x1 : Int32} {x2 : Int32} {μ : MM} (h : f_X_beat a0 x1 x2 μ = some q) : μ.1[a0]? = some (0, 0) := by
  unfold f_X_beat at h
  obtain ⟨_, h1, _⟩ := bnd h
  exact kO_some h1
theorem j_M_offOf_54 {l : Launch} {μ0 : MM} {q : Int64} {a0 : Nat} {x1 : Int32} {x4 : Int32} {s0 : Int64} {s1 : Int64} {μ : MM} {k5 : Int64 → Int32 → Option (Int64)} (hk5 : ∀ (x2 : Int64) (x4 : Int32), k5 x2 x4 = some q → AWm l Y_M_offOf 6 μ0 (some (.long q)) μ 5 [some (.ref a0), some (.int x1), some (.long x2), none, some (.int x4)] [] μ) (h : f_M_offOf_J54 k5 a0 x1 x4 s0 s1 μ = some q) : AWm l Y_M_offOf 6 μ0 (some (.long q)) μ 54 [some (.ref a0), some (.int x1), none, none, some (.int x4)] [.long s1, .long s0] μ := by
  unfold f_M_offOf_J54 at h
  refine aw_ladd 55 d_M_offOf_54 rfl ?_
  refine aw_lstore_n (loc' := [some (.ref a0), some (.int x1), some (.long (s0 + s1)), none, some (.int x4)]) 56 d_M_offOf_55 rfl (by decide) rfl ?_
  refine aw_iinc (v := (x4 + (1 : Int32))) (loc' := [some (.ref a0), some (.int x1), some (.long (s0 + s1)), none, some (.int (x4 + (1 : Int32)))]) 59 d_M_offOf_56 rfl (by decide) rfl rfl rfl ?_
  refine aw_goto 5 d_M_offOf_59 (by decide) ?_
  exact (hk5 (s0 + s1) (x4 + (1 : Int32)) h)
theorem l_M_offOf_5 {l : Launch} {μ0 : MM} {q : Int64} {a0 : Nat} {x1 : Int32} {μ : MM} : ∀ (n : Nat) (x2 : Int64) (x4 : Int32), f_M_offOf_L5 a0 x1 μ n x2 x4 = some q → AWm l Y_M_offOf 6 μ0 (some (.long q)) μ 5 [some (.ref a0), some (.int x1), some (.long x2), none, some (.int x4)] [] μ := by
  intro n
  induction n with
  | zero =>
    intro x2 x4 h
    have h : (none : Option (Int64)) = some q := h
    cases h
  | succ n ih =>
    intro x2 x4 h
    rw [f_M_offOf_L5] at h
    refine aw_iload 7 d_M_offOf_5 rfl rfl ?_
    refine aw_aload_n 8 d_M_offOf_7 rfl rfl ?_
    obtain ⟨y8, h8, h⟩ := bnd h
    refine aw_getI 11 d_M_offOf_8 rfl fg_M_275 (Or.inl rfl) h8 ?_
    refine aw_icmp_ge 62 14 d_M_offOf_11 (by decide) rfl (fun c11 => ?_) (fun c11 => ?_)
    · have h := (if_pos c11).symm.trans h
      refine aw_lload_n 63 d_M_offOf_62 rfl rfl ?_
      refine aw_aload_n 64 d_M_offOf_63 rfl rfl ?_
      refine aw_iload_n 65 d_M_offOf_64 rfl rfl ?_
      obtain ⟨y65, h65, h⟩ := bnd h
      refine aw_invV (rest := [.long x2]) (st' := [.int y65, .long x2]) (As := [.int x1]) 68 d_M_offOf_65 rfl lv_M_438 (m_M_singing h65) (by decide) (k_M_singing h65) rfl rfl rfl (Nat.le_of_ble_eq_true rfl) rfl ?_
      refine aw_i2l 69 d_M_offOf_68 rfl ?_
      obtain ⟨y69, h69, h⟩ := bnd h
      refine aw_invS (rest := []) (st' := [.long y69]) (As := [.long x2, .long y65.toInt64]) 72 d_M_offOf_69 rfl ls_M_446 (m_M_floor h69) (by decide) rfl rfl (Nat.le_of_ble_eq_true rfl) rfl ?_
      cases h
      exact aw_lreturn d_M_offOf_72 rfl
    · have h := (if_neg c11).symm.trans h
      refine aw_lload_n 15 d_M_offOf_14 rfl rfl ?_
      refine aw_aload_n 16 d_M_offOf_15 rfl rfl ?_
      refine aw_iload 18 d_M_offOf_16 rfl rfl ?_
      refine aw_iload_n 19 d_M_offOf_18 rfl rfl ?_
      obtain ⟨y19, h19, h⟩ := bnd h
      refine aw_invV (rest := [.long x2]) (st' := [.int y19, .long x2]) (As := [.int x4, .int x1]) 22 d_M_offOf_19 rfl lv_M_423 (m_M_sings h19) (by decide) (k_M_sings h19) rfl rfl rfl (Nat.le_of_ble_eq_true rfl) rfl ?_
      refine aw_if_eq 53 25 d_M_offOf_22 (by decide) rfl (fun c22 => ?_) (fun c22 => ?_)
      · have h := (if_pos c22).symm.trans h
        refine aw_lconst (v := (0 : Int64)) 54 d_M_offOf_53 rfl (by decide) ?_
        exact AW.wk [true, true, false, true, true] rfl (j_M_offOf_54 ih h)
      · have h := (if_neg c22).symm.trans h
        refine aw_aload_n 26 d_M_offOf_25 rfl rfl ?_
        obtain ⟨y26, h26, h⟩ := bnd h
        refine aw_getR 29 d_M_offOf_26 rfl fg_M_116 rfl h26 ?_
        refine aw_bipush (v := (24 : Int32)) 31 d_M_offOf_29 rfl (by decide) ?_
        refine aw_iload 33 d_M_offOf_31 rfl rfl ?_
        refine aw_imul 34 d_M_offOf_33 rfl ?_
        refine aw_iload_n 35 d_M_offOf_34 rfl rfl ?_
        refine aw_iadd 36 d_M_offOf_35 rfl ?_
        obtain ⟨y36, h36, h⟩ := bnd h
        refine aw_iald 37 d_M_offOf_36 rfl h36 ?_
        refine aw_aload_n 38 d_M_offOf_37 rfl rfl ?_
        refine aw_aload_n 39 d_M_offOf_38 rfl rfl ?_
        refine aw_iload 41 d_M_offOf_39 rfl rfl ?_
        refine aw_iload_n 42 d_M_offOf_41 rfl rfl ?_
        obtain ⟨y42, h42, h⟩ := bnd h
        refine aw_invV (rest := [.ref a0, .int y36, .long x2]) (st' := [.int y42, .ref a0, .int y36, .long x2]) (As := [.int x4, .int x1]) 45 d_M_offOf_42 rfl lv_M_432 (m_M_keyOf h42) (by decide) (k_M_keyOf h42) rfl rfl rfl (Nat.le_of_ble_eq_true rfl) rfl ?_
        obtain ⟨y45, h45, h⟩ := bnd h
        refine aw_invV (rest := [.int y36, .long x2]) (st' := [.int y45, .int y36, .long x2]) (As := [.int y42]) 48 d_M_offOf_45 rfl lv_M_441 (m_M_tableOf h45) (by decide) (k_M_tableOf h45) rfl rfl rfl (Nat.le_of_ble_eq_true rfl) rfl ?_
        refine aw_isub 49 d_M_offOf_48 rfl ?_
        refine aw_i2l 50 d_M_offOf_49 rfl ?_
        refine aw_goto 54 d_M_offOf_50 (by decide) ?_
        exact AW.wk [true, true, false, true, true] rfl (j_M_offOf_54 ih h)
theorem m_M_offOf {l : Launch} {q : Int64} {a0 : Nat} {x1 : Int32} {μ : MM} (h : f_M_offOf a0 x1 μ = some q) : AMet l 6 Y_M_offOf [.ref a0, .int x1] μ (some (.long q)) μ := by
  refine AMet.of (loc := [some (.ref a0), some (.int x1), none, none, none]) pn_M_offOf (Nat.le_of_ble_eq_true rfl) rfl ?_
  unfold f_M_offOf at h
  obtain ⟨_, hk, h⟩ := bnd h
  refine aw_lconst (v := (0 : Int64)) 1 d_M_offOf_0 rfl (by decide) ?_
  refine aw_lstore_n (loc' := [some (.ref a0), some (.int x1), some (.long (0 : Int64)), none, none]) 2 d_M_offOf_1 rfl (by decide) rfl ?_
  refine aw_iconst (v := (0 : Int32)) 3 d_M_offOf_2 rfl (by decide) ?_
  refine aw_istore (loc' := [some (.ref a0), some (.int x1), some (.long (0 : Int64)), none, some (.int (0 : Int32))]) 5 d_M_offOf_3 rfl (by decide) rfl ?_
  exact (l_M_offOf_5 FU _ _ h)
theorem k_M_offOf {q : Int64} {a0 : Nat} {x1 : Int32} {μ : MM} (h : f_M_offOf a0 x1 μ = some q) : μ.1[a0]? = some (0, 1) := by
  unfold f_M_offOf at h
  obtain ⟨_, h1, _⟩ := bnd h
  exact kO_some h1
theorem l_M_foulOf_17 {l : Launch} {μ0 : MM} {q : Int64} {a0 : Nat} {x1 : Int32} {x4 : Int32} {μ : MM} {k5 : Int64 → Int32 → Option (Int64)} (hk5 : ∀ (x2 : Int64) (x4 : Int32), k5 x2 x4 = some q → AWm l Y_M_foulOf 5 μ0 (some (.long q)) μ 5 [some (.ref a0), some (.int x1), some (.long x2), none, some (.int x4), none] [] μ) : ∀ (n : Nat) (x2 : Int64) (x5 : Int32), f_M_foulOf_L17 k5 a0 x1 x4 μ n x2 x5 = some q → AWm l Y_M_foulOf 5 μ0 (some (.long q)) μ 17 [some (.ref a0), some (.int x1), some (.long x2), none, some (.int x4), some (.int x5)] [] μ := by
  intro n
  induction n with
  | zero =>
    intro x2 x5 h
    have h : (none : Option (Int64)) = some q := h
    cases h
  | succ n ih =>
    intro x2 x5 h
    rw [f_M_foulOf_L17] at h
    refine aw_iload 19 d_M_foulOf_17 rfl rfl ?_
    refine aw_iload 21 d_M_foulOf_19 rfl rfl ?_
    refine aw_icmp_ge 103 24 d_M_foulOf_21 (by decide) rfl (fun c21 => ?_) (fun c21 => ?_)
    · have h := (if_pos c21).symm.trans h
      refine aw_iinc (v := (x4 + (1 : Int32))) (loc' := [some (.ref a0), some (.int x1), some (.long x2), none, some (.int (x4 + (1 : Int32))), some (.int x5)]) 106 d_M_foulOf_103 rfl (by decide) rfl rfl rfl ?_
      refine aw_goto 5 d_M_foulOf_106 (by decide) ?_
      exact AW.wk [true, true, true, true, true, false] rfl (hk5 x2 (x4 + (1 : Int32)) h)
    · have h := (if_neg c21).symm.trans h
      refine aw_aload_n 25 d_M_foulOf_24 rfl rfl ?_
      refine aw_iload 27 d_M_foulOf_25 rfl rfl ?_
      refine aw_iload_n 28 d_M_foulOf_27 rfl rfl ?_
      obtain ⟨y28, h28, h⟩ := bnd h
      refine aw_invV (rest := []) (st' := [.int y28]) (As := [.int x4, .int x1]) 31 d_M_foulOf_28 rfl lv_M_423 (m_M_sings h28) (by decide) (k_M_sings h28) rfl rfl rfl (Nat.le_of_ble_eq_true rfl) rfl ?_
      refine aw_if_eq 97 34 d_M_foulOf_31 (by decide) rfl (fun c31 => ?_) (fun c31 => ?_)
      · have h := (if_pos c31).symm.trans h
        refine aw_iinc (v := (x5 + (1 : Int32))) (loc' := [some (.ref a0), some (.int x1), some (.long x2), none, some (.int x4), some (.int (x5 + (1 : Int32)))]) 100 d_M_foulOf_97 rfl (by decide) rfl rfl rfl ?_
        refine aw_goto 17 d_M_foulOf_100 (by decide) ?_
        exact (ih x2 (x5 + (1 : Int32)) h)
      · have h := (if_neg c31).symm.trans h
        refine aw_aload_n 35 d_M_foulOf_34 rfl rfl ?_
        refine aw_iload 37 d_M_foulOf_35 rfl rfl ?_
        refine aw_iload_n 38 d_M_foulOf_37 rfl rfl ?_
        obtain ⟨y38, h38, h⟩ := bnd h
        refine aw_invV (rest := []) (st' := [.int y38]) (As := [.int x5, .int x1]) 41 d_M_foulOf_38 rfl lv_M_423 (m_M_sings h38) (by decide) (k_M_sings h38) rfl rfl rfl (Nat.le_of_ble_eq_true rfl) rfl ?_
        refine aw_if_ne 47 44 d_M_foulOf_41 (by decide) rfl (fun c41 => ?_) (fun c41 => ?_)
        · have h := (if_neg c41).symm.trans h
          refine aw_lload_n 48 d_M_foulOf_47 rfl rfl ?_
          refine aw_aload_n 49 d_M_foulOf_48 rfl rfl ?_
          obtain ⟨y49, h49, h⟩ := bnd h
          refine aw_getR 52 d_M_foulOf_49 rfl fg_M_116 rfl h49 ?_
          refine aw_bipush (v := (24 : Int32)) 54 d_M_foulOf_52 rfl (by decide) ?_
          refine aw_iload 56 d_M_foulOf_54 rfl rfl ?_
          refine aw_imul 57 d_M_foulOf_56 rfl ?_
          refine aw_iload_n 58 d_M_foulOf_57 rfl rfl ?_
          refine aw_iadd 59 d_M_foulOf_58 rfl ?_
          obtain ⟨y59, h59, h⟩ := bnd h
          refine aw_iald 60 d_M_foulOf_59 rfl h59 ?_
          refine aw_i2l 61 d_M_foulOf_60 rfl ?_
          refine aw_aload_n 62 d_M_foulOf_61 rfl rfl ?_
          obtain ⟨y62, h62, h⟩ := bnd h
          refine aw_getR 65 d_M_foulOf_62 rfl fg_M_116 rfl h62 ?_
          refine aw_bipush (v := (24 : Int32)) 67 d_M_foulOf_65 rfl (by decide) ?_
          refine aw_iload 69 d_M_foulOf_67 rfl rfl ?_
          refine aw_imul 70 d_M_foulOf_69 rfl ?_
          refine aw_iload_n 71 d_M_foulOf_70 rfl rfl ?_
          refine aw_iadd 72 d_M_foulOf_71 rfl ?_
          obtain ⟨y72, h72, h⟩ := bnd h
          refine aw_iald 73 d_M_foulOf_72 rfl h72 ?_
          refine aw_i2l 74 d_M_foulOf_73 rfl ?_
          refine aw_lsub 75 d_M_foulOf_74 rfl ?_
          refine aw_aload_n 76 d_M_foulOf_75 rfl rfl ?_
          refine aw_iload 78 d_M_foulOf_76 rfl rfl ?_
          refine aw_iload_n 79 d_M_foulOf_78 rfl rfl ?_
          obtain ⟨y79, h79, h⟩ := bnd h
          refine aw_invV (rest := [.long (y59.toInt64 - y72.toInt64), .long x2]) (st' := [.int y79, .long (y59.toInt64 - y72.toInt64), .long x2]) (As := [.int x4, .int x1]) 82 d_M_foulOf_79 rfl lv_M_468 (m_M_sizeFor h79) (by decide) (k_M_sizeFor h79) rfl rfl rfl (Nat.le_of_ble_eq_true rfl) rfl ?_
          refine aw_aload_n 83 d_M_foulOf_82 rfl rfl ?_
          refine aw_iload 85 d_M_foulOf_83 rfl rfl ?_
          refine aw_iload_n 86 d_M_foulOf_85 rfl rfl ?_
          obtain ⟨y86, h86, h⟩ := bnd h
          refine aw_invV (rest := [.int y79, .long (y59.toInt64 - y72.toInt64), .long x2]) (st' := [.int y86, .int y79, .long (y59.toInt64 - y72.toInt64), .long x2]) (As := [.int x5, .int x1]) 89 d_M_foulOf_86 rfl lv_M_468 (m_M_sizeFor h86) (by decide) (k_M_sizeFor h86) rfl rfl rfl (Nat.le_of_ble_eq_true rfl) rfl ?_
          refine aw_isub 90 d_M_foulOf_89 rfl ?_
          refine aw_i2l 91 d_M_foulOf_90 rfl ?_
          refine aw_lsub 92 d_M_foulOf_91 rfl ?_
          obtain ⟨y92, h92, h⟩ := bnd h
          refine aw_invS (rest := [.long x2]) (st' := [.long y92, .long x2]) (As := [.long ((y59.toInt64 - y72.toInt64) - (y79 - y86).toInt64)]) 95 d_M_foulOf_92 rfl ls_M_225 (m_M_plain h92) (by decide) rfl rfl (Nat.le_of_ble_eq_true rfl) rfl ?_
          refine aw_ladd 96 d_M_foulOf_95 rfl ?_
          refine aw_lstore_n (loc' := [some (.ref a0), some (.int x1), some (.long (x2 + y92)), none, some (.int x4), some (.int x5)]) 97 d_M_foulOf_96 rfl (by decide) rfl ?_
          refine aw_iinc (v := (x5 + (1 : Int32))) (loc' := [some (.ref a0), some (.int x1), some (.long (x2 + y92)), none, some (.int x4), some (.int (x5 + (1 : Int32)))]) 100 d_M_foulOf_97 rfl (by decide) rfl rfl rfl ?_
          refine aw_goto 17 d_M_foulOf_100 (by decide) ?_
          exact (ih (x2 + y92) (x5 + (1 : Int32)) h)
        · have h := (if_pos c41).symm.trans h
          refine aw_goto 97 d_M_foulOf_44 (by decide) ?_
          refine aw_iinc (v := (x5 + (1 : Int32))) (loc' := [some (.ref a0), some (.int x1), some (.long x2), none, some (.int x4), some (.int (x5 + (1 : Int32)))]) 100 d_M_foulOf_97 rfl (by decide) rfl rfl rfl ?_
          refine aw_goto 17 d_M_foulOf_100 (by decide) ?_
          exact (ih x2 (x5 + (1 : Int32)) h)
theorem l_M_foulOf_5 {l : Launch} {μ0 : MM} {q : Int64} {a0 : Nat} {x1 : Int32} {μ : MM} : ∀ (n : Nat) (x2 : Int64) (x4 : Int32), f_M_foulOf_L5 a0 x1 μ n x2 x4 = some q → AWm l Y_M_foulOf 5 μ0 (some (.long q)) μ 5 [some (.ref a0), some (.int x1), some (.long x2), none, some (.int x4), none] [] μ := by
  intro n
  induction n with
  | zero =>
    intro x2 x4 h
    have h : (none : Option (Int64)) = some q := h
    cases h
  | succ n ih =>
    intro x2 x4 h
    rw [f_M_foulOf_L5] at h
    refine aw_iload 7 d_M_foulOf_5 rfl rfl ?_
    refine aw_aload_n 8 d_M_foulOf_7 rfl rfl ?_
    obtain ⟨y8, h8, h⟩ := bnd h
    refine aw_getI 11 d_M_foulOf_8 rfl fg_M_275 (Or.inl rfl) h8 ?_
    refine aw_icmp_ge 109 14 d_M_foulOf_11 (by decide) rfl (fun c11 => ?_) (fun c11 => ?_)
    · have h := (if_pos c11).symm.trans h
      refine aw_lload_n 110 d_M_foulOf_109 rfl rfl ?_
      cases h
      exact aw_lreturn d_M_foulOf_110 rfl
    · have h := (if_neg c11).symm.trans h
      refine aw_iconst (v := (0 : Int32)) 15 d_M_foulOf_14 rfl (by decide) ?_
      refine aw_istore (loc' := [some (.ref a0), some (.int x1), some (.long x2), none, some (.int x4), some (.int (0 : Int32))]) 17 d_M_foulOf_15 rfl (by decide) rfl ?_
      exact (l_M_foulOf_17 ih FU _ _ h)
theorem m_M_foulOf {l : Launch} {q : Int64} {a0 : Nat} {x1 : Int32} {μ : MM} (h : f_M_foulOf a0 x1 μ = some q) : AMet l 5 Y_M_foulOf [.ref a0, .int x1] μ (some (.long q)) μ := by
  refine AMet.of (loc := [some (.ref a0), some (.int x1), none, none, none, none]) pn_M_foulOf (Nat.le_of_ble_eq_true rfl) rfl ?_
  unfold f_M_foulOf at h
  obtain ⟨_, hk, h⟩ := bnd h
  refine aw_lconst (v := (0 : Int64)) 1 d_M_foulOf_0 rfl (by decide) ?_
  refine aw_lstore_n (loc' := [some (.ref a0), some (.int x1), some (.long (0 : Int64)), none, none, none]) 2 d_M_foulOf_1 rfl (by decide) rfl ?_
  refine aw_iconst (v := (0 : Int32)) 3 d_M_foulOf_2 rfl (by decide) ?_
  refine aw_istore (loc' := [some (.ref a0), some (.int x1), some (.long (0 : Int64)), none, some (.int (0 : Int32)), none]) 5 d_M_foulOf_3 rfl (by decide) rfl ?_
  exact (l_M_foulOf_5 FU _ _ h)
theorem k_M_foulOf {q : Int64} {a0 : Nat} {x1 : Int32} {μ : MM} (h : f_M_foulOf a0 x1 μ = some q) : μ.1[a0]? = some (0, 1) := by
  unfold f_M_foulOf at h
  obtain ⟨_, h1, _⟩ := bnd h
  exact kO_some h1
theorem l_M_tableFoul_15 {l : Launch} {μ0 : MM} {q : Int64} {a0 : Nat} {x1 : Int32} {x4 : Int32} {μ : MM} {k5 : Int64 → Int32 → Option (Int64)} (hk5 : ∀ (x2 : Int64) (x4 : Int32), k5 x2 x4 = some q → AWm l Y_M_tableFoul 4 μ0 (some (.long q)) μ 5 [some (.ref a0), some (.int x1), some (.long x2), none, some (.int x4), none] [] μ) : ∀ (n : Nat) (x2 : Int64) (x5 : Int32), f_M_tableFoul_L15 k5 a0 x1 x4 μ n x2 x5 = some q → AWm l Y_M_tableFoul 4 μ0 (some (.long q)) μ 15 [some (.ref a0), some (.int x1), some (.long x2), none, some (.int x4), some (.int x5)] [] μ := by
  intro n
  induction n with
  | zero =>
    intro x2 x5 h
    have h : (none : Option (Int64)) = some q := h
    cases h
  | succ n ih =>
    intro x2 x5 h
    rw [f_M_tableFoul_L15] at h
    refine aw_iload 17 d_M_tableFoul_15 rfl rfl ?_
    refine aw_iload 19 d_M_tableFoul_17 rfl rfl ?_
    refine aw_icmp_ge 107 22 d_M_tableFoul_19 (by decide) rfl (fun c19 => ?_) (fun c19 => ?_)
    · have h := (if_pos c19).symm.trans h
      refine aw_iinc (v := (x4 + (1 : Int32))) (loc' := [some (.ref a0), some (.int x1), some (.long x2), none, some (.int (x4 + (1 : Int32))), some (.int x5)]) 110 d_M_tableFoul_107 rfl (by decide) rfl rfl rfl ?_
      refine aw_goto 5 d_M_tableFoul_110 (by decide) ?_
      exact AW.wk [true, true, true, true, true, false] rfl (hk5 x2 (x4 + (1 : Int32)) h)
    · have h := (if_neg c19).symm.trans h
      refine aw_aload_n 23 d_M_tableFoul_22 rfl rfl ?_
      refine aw_iload 25 d_M_tableFoul_23 rfl rfl ?_
      refine aw_iload_n 26 d_M_tableFoul_25 rfl rfl ?_
      obtain ⟨y26, h26, h⟩ := bnd h
      refine aw_invV (rest := []) (st' := [.int y26]) (As := [.int x4, .int x1]) 29 d_M_tableFoul_26 rfl lv_M_162 (m_M_isNote h26) (by decide) (k_M_isNote h26) rfl rfl rfl (Nat.le_of_ble_eq_true rfl) rfl ?_
      refine aw_if_eq 101 32 d_M_tableFoul_29 (by decide) rfl (fun c29 => ?_) (fun c29 => ?_)
      · have h := (if_pos c29).symm.trans h
        refine aw_iinc (v := (x5 + (1 : Int32))) (loc' := [some (.ref a0), some (.int x1), some (.long x2), none, some (.int x4), some (.int (x5 + (1 : Int32)))]) 104 d_M_tableFoul_101 rfl (by decide) rfl rfl rfl ?_
        refine aw_goto 15 d_M_tableFoul_104 (by decide) ?_
        exact (ih x2 (x5 + (1 : Int32)) h)
      · have h := (if_neg c29).symm.trans h
        refine aw_aload_n 33 d_M_tableFoul_32 rfl rfl ?_
        refine aw_iload 35 d_M_tableFoul_33 rfl rfl ?_
        refine aw_iload_n 36 d_M_tableFoul_35 rfl rfl ?_
        obtain ⟨y36, h36, h⟩ := bnd h
        refine aw_invV (rest := []) (st' := [.int y36]) (As := [.int x5, .int x1]) 39 d_M_tableFoul_36 rfl lv_M_162 (m_M_isNote h36) (by decide) (k_M_isNote h36) rfl rfl rfl (Nat.le_of_ble_eq_true rfl) rfl ?_
        refine aw_if_ne 45 42 d_M_tableFoul_39 (by decide) rfl (fun c39 => ?_) (fun c39 => ?_)
        · have h := (if_neg c39).symm.trans h
          refine aw_lload_n 46 d_M_tableFoul_45 rfl rfl ?_
          refine aw_aload_n 47 d_M_tableFoul_46 rfl rfl ?_
          refine aw_aload_n 48 d_M_tableFoul_47 rfl rfl ?_
          obtain ⟨y48, h48, h⟩ := bnd h
          refine aw_getR 51 d_M_tableFoul_48 rfl fg_M_13 rfl h48 ?_
          refine aw_iload 53 d_M_tableFoul_51 rfl rfl ?_
          refine aw_iload_n 54 d_M_tableFoul_53 rfl rfl ?_
          obtain ⟨y54, h54, h⟩ := bnd h
          refine aw_invS (rest := [.ref y48, .ref a0, .long x2]) (st' := [.int y54, .ref y48, .ref a0, .long x2]) (As := [.int x4, .int x1]) 57 d_M_tableFoul_54 rfl ls_M_158 (m_M_cellOf h54) (by decide) rfl rfl (Nat.le_of_ble_eq_true rfl) rfl ?_
          obtain ⟨y57, h57, h⟩ := bnd h
          refine aw_iald 58 d_M_tableFoul_57 rfl h57 ?_
          obtain ⟨y58, h58, h⟩ := bnd h
          refine aw_invV (rest := [.long x2]) (st' := [.int y58, .long x2]) (As := [.int y57]) 61 d_M_tableFoul_58 rfl lv_M_441 (m_M_tableOf h58) (by decide) (k_M_tableOf h58) rfl rfl rfl (Nat.le_of_ble_eq_true rfl) rfl ?_
          refine aw_i2l 62 d_M_tableFoul_61 rfl ?_
          refine aw_aload_n 63 d_M_tableFoul_62 rfl rfl ?_
          refine aw_aload_n 64 d_M_tableFoul_63 rfl rfl ?_
          obtain ⟨y64, h64, h⟩ := bnd h
          refine aw_getR 67 d_M_tableFoul_64 rfl fg_M_13 rfl h64 ?_
          refine aw_iload 69 d_M_tableFoul_67 rfl rfl ?_
          refine aw_iload_n 70 d_M_tableFoul_69 rfl rfl ?_
          obtain ⟨y70, h70, h⟩ := bnd h
          refine aw_invS (rest := [.ref y64, .ref a0, .long y58.toInt64, .long x2]) (st' := [.int y70, .ref y64, .ref a0, .long y58.toInt64, .long x2]) (As := [.int x5, .int x1]) 73 d_M_tableFoul_70 rfl ls_M_158 (m_M_cellOf h70) (by decide) rfl rfl (Nat.le_of_ble_eq_true rfl) rfl ?_
          obtain ⟨y73, h73, h⟩ := bnd h
          refine aw_iald 74 d_M_tableFoul_73 rfl h73 ?_
          obtain ⟨y74, h74, h⟩ := bnd h
          refine aw_invV (rest := [.long y58.toInt64, .long x2]) (st' := [.int y74, .long y58.toInt64, .long x2]) (As := [.int y73]) 77 d_M_tableFoul_74 rfl lv_M_441 (m_M_tableOf h74) (by decide) (k_M_tableOf h74) rfl rfl rfl (Nat.le_of_ble_eq_true rfl) rfl ?_
          refine aw_i2l 78 d_M_tableFoul_77 rfl ?_
          refine aw_lsub 79 d_M_tableFoul_78 rfl ?_
          refine aw_aload_n 80 d_M_tableFoul_79 rfl rfl ?_
          refine aw_iload 82 d_M_tableFoul_80 rfl rfl ?_
          refine aw_iload_n 83 d_M_tableFoul_82 rfl rfl ?_
          obtain ⟨y83, h83, h⟩ := bnd h
          refine aw_invV (rest := [.long (y58.toInt64 - y74.toInt64), .long x2]) (st' := [.int y83, .long (y58.toInt64 - y74.toInt64), .long x2]) (As := [.int x4, .int x1]) 86 d_M_tableFoul_83 rfl lv_M_219 (m_M_sizeAt h83) (by decide) (k_M_sizeAt h83) rfl rfl rfl (Nat.le_of_ble_eq_true rfl) rfl ?_
          refine aw_aload_n 87 d_M_tableFoul_86 rfl rfl ?_
          refine aw_iload 89 d_M_tableFoul_87 rfl rfl ?_
          refine aw_iload_n 90 d_M_tableFoul_89 rfl rfl ?_
          obtain ⟨y90, h90, h⟩ := bnd h
          refine aw_invV (rest := [.int y83, .long (y58.toInt64 - y74.toInt64), .long x2]) (st' := [.int y90, .int y83, .long (y58.toInt64 - y74.toInt64), .long x2]) (As := [.int x5, .int x1]) 93 d_M_tableFoul_90 rfl lv_M_219 (m_M_sizeAt h90) (by decide) (k_M_sizeAt h90) rfl rfl rfl (Nat.le_of_ble_eq_true rfl) rfl ?_
          refine aw_isub 94 d_M_tableFoul_93 rfl ?_
          refine aw_i2l 95 d_M_tableFoul_94 rfl ?_
          refine aw_lsub 96 d_M_tableFoul_95 rfl ?_
          obtain ⟨y96, h96, h⟩ := bnd h
          refine aw_invS (rest := [.long x2]) (st' := [.long y96, .long x2]) (As := [.long ((y58.toInt64 - y74.toInt64) - (y83 - y90).toInt64)]) 99 d_M_tableFoul_96 rfl ls_M_225 (m_M_plain h96) (by decide) rfl rfl (Nat.le_of_ble_eq_true rfl) rfl ?_
          refine aw_ladd 100 d_M_tableFoul_99 rfl ?_
          refine aw_lstore_n (loc' := [some (.ref a0), some (.int x1), some (.long (x2 + y96)), none, some (.int x4), some (.int x5)]) 101 d_M_tableFoul_100 rfl (by decide) rfl ?_
          refine aw_iinc (v := (x5 + (1 : Int32))) (loc' := [some (.ref a0), some (.int x1), some (.long (x2 + y96)), none, some (.int x4), some (.int (x5 + (1 : Int32)))]) 104 d_M_tableFoul_101 rfl (by decide) rfl rfl rfl ?_
          refine aw_goto 15 d_M_tableFoul_104 (by decide) ?_
          exact (ih (x2 + y96) (x5 + (1 : Int32)) h)
        · have h := (if_pos c39).symm.trans h
          refine aw_goto 101 d_M_tableFoul_42 (by decide) ?_
          refine aw_iinc (v := (x5 + (1 : Int32))) (loc' := [some (.ref a0), some (.int x1), some (.long x2), none, some (.int x4), some (.int (x5 + (1 : Int32)))]) 104 d_M_tableFoul_101 rfl (by decide) rfl rfl rfl ?_
          refine aw_goto 15 d_M_tableFoul_104 (by decide) ?_
          exact (ih x2 (x5 + (1 : Int32)) h)
theorem l_M_tableFoul_5 {l : Launch} {μ0 : MM} {q : Int64} {a0 : Nat} {x1 : Int32} {μ : MM} : ∀ (n : Nat) (x2 : Int64) (x4 : Int32), f_M_tableFoul_L5 a0 x1 μ n x2 x4 = some q → AWm l Y_M_tableFoul 4 μ0 (some (.long q)) μ 5 [some (.ref a0), some (.int x1), some (.long x2), none, some (.int x4), none] [] μ := by
  intro n
  induction n with
  | zero =>
    intro x2 x4 h
    have h : (none : Option (Int64)) = some q := h
    cases h
  | succ n ih =>
    intro x2 x4 h
    rw [f_M_tableFoul_L5] at h
    refine aw_iload 7 d_M_tableFoul_5 rfl rfl ?_
    refine aw_bipush (v := (6 : Int32)) 9 d_M_tableFoul_7 rfl (by decide) ?_
    refine aw_icmp_ge 113 12 d_M_tableFoul_9 (by decide) rfl (fun c9 => ?_) (fun c9 => ?_)
    · have h := (if_pos c9).symm.trans h
      refine aw_lload_n 114 d_M_tableFoul_113 rfl rfl ?_
      cases h
      exact aw_lreturn d_M_tableFoul_114 rfl
    · have h := (if_neg c9).symm.trans h
      refine aw_iconst (v := (0 : Int32)) 13 d_M_tableFoul_12 rfl (by decide) ?_
      refine aw_istore (loc' := [some (.ref a0), some (.int x1), some (.long x2), none, some (.int x4), some (.int (0 : Int32))]) 15 d_M_tableFoul_13 rfl (by decide) rfl ?_
      exact (l_M_tableFoul_15 ih FU _ _ h)
theorem m_M_tableFoul {l : Launch} {q : Int64} {a0 : Nat} {x1 : Int32} {μ : MM} (h : f_M_tableFoul a0 x1 μ = some q) : AMet l 4 Y_M_tableFoul [.ref a0, .int x1] μ (some (.long q)) μ := by
  refine AMet.of (loc := [some (.ref a0), some (.int x1), none, none, none, none]) pn_M_tableFoul (Nat.le_of_ble_eq_true rfl) rfl ?_
  unfold f_M_tableFoul at h
  obtain ⟨_, hk, h⟩ := bnd h
  refine aw_lconst (v := (0 : Int64)) 1 d_M_tableFoul_0 rfl (by decide) ?_
  refine aw_lstore_n (loc' := [some (.ref a0), some (.int x1), some (.long (0 : Int64)), none, none, none]) 2 d_M_tableFoul_1 rfl (by decide) rfl ?_
  refine aw_iconst (v := (0 : Int32)) 3 d_M_tableFoul_2 rfl (by decide) ?_
  refine aw_istore (loc' := [some (.ref a0), some (.int x1), some (.long (0 : Int64)), none, some (.int (0 : Int32)), none]) 5 d_M_tableFoul_3 rfl (by decide) rfl ?_
  exact (l_M_tableFoul_5 FU _ _ h)
theorem k_M_tableFoul {q : Int64} {a0 : Nat} {x1 : Int32} {μ : MM} (h : f_M_tableFoul a0 x1 μ = some q) : μ.1[a0]? = some (0, 1) := by
  unfold f_M_tableFoul at h
  obtain ⟨_, h1, _⟩ := bnd h
  exact kO_some h1
theorem j_M_beat_31 {l : Launch} {μ0 : MM} {q : Int64 × MM} {μ : MM} (h : f_M_beat_J31 μ = some q) : AWm l Y_M_beat 12 μ0 (some (.long q.1)) q.2 31 [none, none, none] [] μ := by
  unfold f_M_beat_J31 at h
  refine aw_ldc2 (v := (-1000000000 : Int64)) 34 d_M_beat_31 rfl c_M_530 ?_
  cases h
  exact aw_lreturn d_M_beat_34 rfl
theorem j_M_beat_35 {l : Launch} {μ0 : MM} {q : Int64 × MM} {a0 : Nat} {x1 : Int32} {x2 : Int32} {μ : MM} (h : f_M_beat_J35 a0 x1 x2 μ = some q) : AWm l Y_M_beat 12 μ0 (some (.long q.1)) q.2 35 [some (.ref a0), some (.int x1), some (.int x2)] [] μ := by
  unfold f_M_beat_J35 at h
  refine aw_aload_n 36 d_M_beat_35 rfl rfl ?_
  obtain ⟨μ36, h36, h⟩ := bnd h
  refine aw_invV (rest := []) (st' := []) (As := []) 39 d_M_beat_36 rfl lv_M_525 (m_M_plainly h36) (by decide) (k_M_plainly h36) rfl rfl rfl (Nat.le_of_ble_eq_true rfl) rfl ?_
  refine aw_iload_n 40 d_M_beat_39 rfl rfl ?_
  refine aw_if_ne 51 43 d_M_beat_40 (by decide) rfl (fun c40 => ?_) (fun c40 => ?_)
  · have h := (if_neg c40).symm.trans h
    refine aw_iload_n 52 d_M_beat_51 rfl rfl ?_
    refine aw_iconst (v := (1 : Int32)) 53 d_M_beat_52 rfl (by decide) ?_
    refine aw_icmp_ne 64 56 d_M_beat_53 (by decide) rfl (fun c53 => ?_) (fun c53 => ?_)
    · have h := (if_neg c53).symm.trans h
      refine aw_iload_n 65 d_M_beat_64 rfl rfl ?_
      refine aw_iconst (v := (2 : Int32)) 66 d_M_beat_65 rfl (by decide) ?_
      refine aw_icmp_ne 78 69 d_M_beat_66 (by decide) rfl (fun c66 => ?_) (fun c66 => ?_)
      · have h := (if_neg c66).symm.trans h
        refine aw_aload_n 79 d_M_beat_78 rfl rfl ?_
        refine aw_iload_n 80 d_M_beat_79 rfl rfl ?_
        obtain ⟨y80, h80, h⟩ := bnd h
        refine aw_invV (rest := []) (st' := [.long y80]) (As := [.int x1]) 83 d_M_beat_80 rfl lv_M_532 (m_M_tableFoul h80) (by decide) (k_M_tableFoul h80) rfl rfl rfl (Nat.le_of_ble_eq_true rfl) rfl ?_
        cases h
        exact aw_lreturn d_M_beat_83 rfl
      · have h := (if_pos c66).symm.trans h
        refine aw_aload_n 70 d_M_beat_69 rfl rfl ?_
        refine aw_iload_n 71 d_M_beat_70 rfl rfl ?_
        obtain ⟨y71, h71, h⟩ := bnd h
        refine aw_invV (rest := []) (st' := [.int y71]) (As := [.int x1]) 74 d_M_beat_71 rfl lv_M_438 (m_M_singing h71) (by decide) (k_M_singing h71) rfl rfl rfl (Nat.le_of_ble_eq_true rfl) rfl ?_
        refine aw_i2l 75 d_M_beat_74 rfl ?_
        refine aw_goto 83 d_M_beat_75 (by decide) ?_
        cases h
        exact aw_lreturn d_M_beat_83 rfl
    · have h := (if_pos c53).symm.trans h
      refine aw_aload_n 57 d_M_beat_56 rfl rfl ?_
      refine aw_iload_n 58 d_M_beat_57 rfl rfl ?_
      obtain ⟨y58, h58, h⟩ := bnd h
      refine aw_invV (rest := []) (st' := [.long y58]) (As := [.int x1]) 61 d_M_beat_58 rfl lv_M_512 (m_M_foulOf h58) (by decide) (k_M_foulOf h58) rfl rfl rfl (Nat.le_of_ble_eq_true rfl) rfl ?_
      refine aw_goto 83 d_M_beat_61 (by decide) ?_
      cases h
      exact aw_lreturn d_M_beat_83 rfl
  · have h := (if_pos c40).symm.trans h
    refine aw_aload_n 44 d_M_beat_43 rfl rfl ?_
    refine aw_iload_n 45 d_M_beat_44 rfl rfl ?_
    obtain ⟨y45, h45, h⟩ := bnd h
    refine aw_invV (rest := []) (st' := [.long y45]) (As := [.int x1]) 48 d_M_beat_45 rfl lv_M_519 (m_M_offOf h45) (by decide) (k_M_offOf h45) rfl rfl rfl (Nat.le_of_ble_eq_true rfl) rfl ?_
    refine aw_goto 83 d_M_beat_48 (by decide) ?_
    cases h
    exact aw_lreturn d_M_beat_83 rfl
theorem m_M_beat {l : Launch} {q : Int64 × MM} {a0 : Nat} {x1 : Int32} {x2 : Int32} {μ : MM} (h : f_M_beat a0 x1 x2 μ = some q) : AMet l 12 Y_M_beat [.ref a0, .int x1, .int x2] μ (some (.long q.1)) q.2 := by
  refine AMet.of (loc := [some (.ref a0), some (.int x1), some (.int x2)]) pn_M_beat (Nat.le_of_ble_eq_true rfl) rfl ?_
  unfold f_M_beat at h
  obtain ⟨_, hk, h⟩ := bnd h
  refine aw_iload_n 1 d_M_beat_0 rfl rfl ?_
  obtain ⟨y1, h1, h⟩ := bnd h
  refine aw_invS (rest := []) (st' := [.int y1]) (As := [.int x1]) 4 d_M_beat_1 rfl ls_M_155 (m_M_isBeat h1) (by decide) rfl rfl (Nat.le_of_ble_eq_true rfl) rfl ?_
  refine aw_if_eq 31 7 d_M_beat_4 (by decide) rfl (fun c4 => ?_) (fun c4 => ?_)
  · have h := (if_pos c4).symm.trans h
    exact AW.wk [false, false, false] rfl (j_M_beat_31 h)
  · have h := (if_neg c4).symm.trans h
    refine aw_iload_n 8 d_M_beat_7 rfl rfl ?_
    refine aw_i2l 9 d_M_beat_8 rfl ?_
    refine aw_lconst (v := (0 : Int64)) 10 d_M_beat_9 rfl (by decide) ?_
    refine aw_ldc2 (v := (3 : Int64)) 13 d_M_beat_10 rfl c_M_528 ?_
    obtain ⟨y13, h13, h⟩ := bnd h
    refine aw_invS (rest := []) (st' := [.int y13]) (As := [.long x2.toInt64, .long (0 : Int64), .long (3 : Int64)]) 16 d_M_beat_13 rfl ls_M_145 (m_M_lies h13) (by decide) rfl rfl (Nat.le_of_ble_eq_true rfl) rfl ?_
    refine aw_if_eq 31 19 d_M_beat_16 (by decide) rfl (fun c16 => ?_) (fun c16 => ?_)
    · have h := (if_pos c16).symm.trans h
      exact AW.wk [false, false, false] rfl (j_M_beat_31 h)
    · have h := (if_neg c16).symm.trans h
      refine aw_iload_n 20 d_M_beat_19 rfl rfl ?_
      refine aw_if_ne 35 23 d_M_beat_20 (by decide) rfl (fun c20 => ?_) (fun c20 => ?_)
      · have h := (if_neg c20).symm.trans h
        exact (j_M_beat_35 h)
      · have h := (if_pos c20).symm.trans h
        refine aw_aload_n 24 d_M_beat_23 rfl rfl ?_
        refine aw_iload_n 25 d_M_beat_24 rfl rfl ?_
        obtain ⟨y25, h25, h⟩ := bnd h
        refine aw_invV (rest := []) (st' := [.int y25]) (As := [.int x1]) 28 d_M_beat_25 rfl lv_M_438 (m_M_singing h25) (by decide) (k_M_singing h25) rfl rfl rfl (Nat.le_of_ble_eq_true rfl) rfl ?_
        refine aw_if_ne 35 31 d_M_beat_28 (by decide) rfl (fun c28 => ?_) (fun c28 => ?_)
        · have h := (if_neg c28).symm.trans h
          exact (j_M_beat_35 h)
        · have h := (if_pos c28).symm.trans h
          exact AW.wk [false, false, false] rfl (j_M_beat_31 h)
theorem k_M_beat {q : Int64 × MM} {a0 : Nat} {x1 : Int32} {x2 : Int32} {μ : MM} (h : f_M_beat a0 x1 x2 μ = some q) : μ.1[a0]? = some (0, 1) := by
  unfold f_M_beat at h
  obtain ⟨_, h1, _⟩ := bnd h
  exact kO_some h1
theorem l_Ch_firstBeat_2 {l : Launch} {μ0 : MM} {q : Int32} {a0 : Nat} {μ : MM} : ∀ (n : Nat) (x1 : Int32), f_Ch_firstBeat_L2 a0 μ n x1 = some q → AWm l Y_Ch_firstBeat 4 μ0 (some (.int q)) μ 2 [some (.ref a0), some (.int x1)] [] μ := by
  intro n
  induction n with
  | zero =>
    intro x1 h
    have h : (none : Option (Int32)) = some q := h
    cases h
  | succ n ih =>
    intro x1 h
    rw [f_Ch_firstBeat_L2] at h
    refine aw_iload_n 3 d_Ch_firstBeat_2 rfl rfl ?_
    refine aw_bipush (v := (24 : Int32)) 5 d_Ch_firstBeat_3 rfl (by decide) ?_
    refine aw_icmp_ge 24 8 d_Ch_firstBeat_5 (by decide) rfl (fun c5 => ?_) (fun c5 => ?_)
    · have h := (if_pos c5).symm.trans h
      refine aw_iconst (v := (-1 : Int32)) 25 d_Ch_firstBeat_24 rfl (by decide) ?_
      cases h
      exact aw_ireturn d_Ch_firstBeat_25 rfl rfl
    · have h := (if_neg c5).symm.trans h
      refine aw_aload_n 9 d_Ch_firstBeat_8 rfl rfl ?_
      refine aw_iload_n 10 d_Ch_firstBeat_9 rfl rfl ?_
      obtain ⟨y10, h10, h⟩ := bnd h
      refine aw_invV (rest := []) (st' := [.int y10]) (As := [.int x1]) 13 d_Ch_firstBeat_10 rfl lv_Ch_68 (m_Ch_howMany h10) (by decide) (k_Ch_howMany h10) rfl rfl rfl (Nat.le_of_ble_eq_true rfl) rfl ?_
      refine aw_if_le 18 16 d_Ch_firstBeat_13 (by decide) rfl (fun c13 => ?_) (fun c13 => ?_)
      · have h := (if_pos c13).symm.trans h
        refine aw_iinc (v := (x1 + (1 : Int32))) (loc' := [some (.ref a0), some (.int (x1 + (1 : Int32)))]) 21 d_Ch_firstBeat_18 rfl (by decide) rfl rfl rfl ?_
        refine aw_goto 2 d_Ch_firstBeat_21 (by decide) ?_
        exact (ih (x1 + (1 : Int32)) h)
      · have h := (if_neg c13).symm.trans h
        refine aw_iload_n 17 d_Ch_firstBeat_16 rfl rfl ?_
        cases h
        exact aw_ireturn d_Ch_firstBeat_17 rfl rfl
theorem m_Ch_firstBeat {l : Launch} {q : Int32} {a0 : Nat} {μ : MM} (h : f_Ch_firstBeat a0 μ = some q) : AMet l 4 Y_Ch_firstBeat [.ref a0] μ (some (.int q)) μ := by
  refine AMet.of (loc := [some (.ref a0), none]) pn_Ch_firstBeat (Nat.le_of_ble_eq_true rfl) rfl ?_
  unfold f_Ch_firstBeat at h
  obtain ⟨_, hk, h⟩ := bnd h
  refine aw_iconst (v := (0 : Int32)) 1 d_Ch_firstBeat_0 rfl (by decide) ?_
  refine aw_istore_n (loc' := [some (.ref a0), some (.int (0 : Int32))]) 2 d_Ch_firstBeat_1 rfl (by decide) rfl ?_
  exact (l_Ch_firstBeat_2 FU _ h)
theorem k_Ch_firstBeat {q : Int32} {a0 : Nat} {μ : MM} (h : f_Ch_firstBeat a0 μ = some q) : μ.1[a0]? = some (0, 2) := by
  unfold f_Ch_firstBeat at h
  obtain ⟨_, h1, _⟩ := bnd h
  exact kO_some h1
theorem l_Ch_lastBeat_3 {l : Launch} {μ0 : MM} {q : Int32} {a0 : Nat} {μ : MM} : ∀ (n : Nat) (x1 : Int32), f_Ch_lastBeat_L3 a0 μ n x1 = some q → AWm l Y_Ch_lastBeat 4 μ0 (some (.int q)) μ 3 [some (.ref a0), some (.int x1)] [] μ := by
  intro n
  induction n with
  | zero =>
    intro x1 h
    have h : (none : Option (Int32)) = some q := h
    cases h
  | succ n ih =>
    intro x1 h
    rw [f_Ch_lastBeat_L3] at h
    refine aw_iload_n 4 d_Ch_lastBeat_3 rfl rfl ?_
    refine aw_if_lt 23 7 d_Ch_lastBeat_4 (by decide) rfl (fun c4 => ?_) (fun c4 => ?_)
    · have h := (if_pos c4).symm.trans h
      refine aw_iconst (v := (-1 : Int32)) 24 d_Ch_lastBeat_23 rfl (by decide) ?_
      cases h
      exact aw_ireturn d_Ch_lastBeat_24 rfl rfl
    · have h := (if_neg c4).symm.trans h
      refine aw_aload_n 8 d_Ch_lastBeat_7 rfl rfl ?_
      refine aw_iload_n 9 d_Ch_lastBeat_8 rfl rfl ?_
      obtain ⟨y9, h9, h⟩ := bnd h
      refine aw_invV (rest := []) (st' := [.int y9]) (As := [.int x1]) 12 d_Ch_lastBeat_9 rfl lv_Ch_68 (m_Ch_howMany h9) (by decide) (k_Ch_howMany h9) rfl rfl rfl (Nat.le_of_ble_eq_true rfl) rfl ?_
      refine aw_if_le 17 15 d_Ch_lastBeat_12 (by decide) rfl (fun c12 => ?_) (fun c12 => ?_)
      · have h := (if_pos c12).symm.trans h
        refine aw_iinc (v := (x1 + (-1 : Int32))) (loc' := [some (.ref a0), some (.int (x1 + (-1 : Int32)))]) 20 d_Ch_lastBeat_17 rfl (by decide) rfl rfl rfl ?_
        refine aw_goto 3 d_Ch_lastBeat_20 (by decide) ?_
        exact (ih (x1 + (-1 : Int32)) h)
      · have h := (if_neg c12).symm.trans h
        refine aw_iload_n 16 d_Ch_lastBeat_15 rfl rfl ?_
        cases h
        exact aw_ireturn d_Ch_lastBeat_16 rfl rfl
theorem m_Ch_lastBeat {l : Launch} {q : Int32} {a0 : Nat} {μ : MM} (h : f_Ch_lastBeat a0 μ = some q) : AMet l 4 Y_Ch_lastBeat [.ref a0] μ (some (.int q)) μ := by
  refine AMet.of (loc := [some (.ref a0), none]) pn_Ch_lastBeat (Nat.le_of_ble_eq_true rfl) rfl ?_
  unfold f_Ch_lastBeat at h
  obtain ⟨_, hk, h⟩ := bnd h
  refine aw_bipush (v := (23 : Int32)) 2 d_Ch_lastBeat_0 rfl (by decide) ?_
  refine aw_istore_n (loc' := [some (.ref a0), some (.int (23 : Int32))]) 3 d_Ch_lastBeat_2 rfl (by decide) rfl ?_
  exact (l_Ch_lastBeat_3 FU _ h)
theorem k_Ch_lastBeat {q : Int32} {a0 : Nat} {μ : MM} (h : f_Ch_lastBeat a0 μ = some q) : μ.1[a0]? = some (0, 2) := by
  unfold f_Ch_lastBeat at h
  obtain ⟨_, h1, _⟩ := bnd h
  exact kO_some h1
theorem m_Si_sinking {l : Launch} {q : Int64} {a0 : Nat} {μ : MM} (h : f_Si_sinking a0 μ = some q) : AMet l 5 Y_Si_sinking [.ref a0] μ (some (.long q)) μ := by
  refine AMet.of (loc := [some (.ref a0)]) pn_Si_sinking (Nat.le_of_ble_eq_true rfl) rfl ?_
  unfold f_Si_sinking at h
  obtain ⟨_, hk, h⟩ := bnd h
  refine aw_aload_n 1 d_Si_sinking_0 rfl rfl ?_
  refine aw_aload_n 2 d_Si_sinking_1 rfl rfl ?_
  obtain ⟨y2, h2, h⟩ := bnd h
  refine aw_getR 5 d_Si_sinking_2 rfl fg_Si_46 rfl h2 ?_
  obtain ⟨y5, h5, h⟩ := bnd h
  refine aw_invV (rest := [.ref a0]) (st' := [.int y5, .ref a0]) (As := []) 8 d_Si_sinking_5 rfl lv_Si_199 (m_Ch_lastBeat h5) (by decide) (k_Ch_lastBeat h5) rfl rfl rfl (Nat.le_of_ble_eq_true rfl) rfl ?_
  obtain ⟨y8, h8, h⟩ := bnd h
  refine aw_invV (rest := []) (st' := [.long y8]) (As := [.int y5]) 11 d_Si_sinking_8 rfl lv_Si_202 (m_Si_off h8) (by decide) (k_Si_off h8) rfl rfl rfl (Nat.le_of_ble_eq_true rfl) rfl ?_
  refine aw_aload_n 12 d_Si_sinking_11 rfl rfl ?_
  refine aw_aload_n 13 d_Si_sinking_12 rfl rfl ?_
  obtain ⟨y13, h13, h⟩ := bnd h
  refine aw_getR 16 d_Si_sinking_13 rfl fg_Si_46 rfl h13 ?_
  obtain ⟨y16, h16, h⟩ := bnd h
  refine aw_invV (rest := [.ref a0, .long y8]) (st' := [.int y16, .ref a0, .long y8]) (As := []) 19 d_Si_sinking_16 rfl lv_Si_205 (m_Ch_firstBeat h16) (by decide) (k_Ch_firstBeat h16) rfl rfl rfl (Nat.le_of_ble_eq_true rfl) rfl ?_
  obtain ⟨y19, h19, h⟩ := bnd h
  refine aw_invV (rest := [.long y8]) (st' := [.long y19, .long y8]) (As := [.int y16]) 22 d_Si_sinking_19 rfl lv_Si_202 (m_Si_off h19) (by decide) (k_Si_off h19) rfl rfl rfl (Nat.le_of_ble_eq_true rfl) rfl ?_
  refine aw_lsub 23 d_Si_sinking_22 rfl ?_
  cases h
  exact aw_lreturn d_Si_sinking_23 rfl
theorem k_Si_sinking {q : Int64} {a0 : Nat} {μ : MM} (h : f_Si_sinking a0 μ = some q) : μ.1[a0]? = some (0, 9) := by
  unfold f_Si_sinking at h
  obtain ⟨_, h1, _⟩ := bnd h
  exact kO_some h1
theorem l_Ch_howManySing_4 {l : Launch} {μ0 : MM} {q : Int32} {a0 : Nat} {μ : MM} : ∀ (n : Nat) (x1 : Int32) (x2 : Int32), f_Ch_howManySing_L4 a0 μ n x1 x2 = some q → AWm l Y_Ch_howManySing 4 μ0 (some (.int q)) μ 4 [some (.ref a0), some (.int x1), some (.int x2)] [] μ := by
  intro n
  induction n with
  | zero =>
    intro x1 x2 h
    have h : (none : Option (Int32)) = some q := h
    cases h
  | succ n ih =>
    intro x1 x2 h
    rw [f_Ch_howManySing_L4] at h
    refine aw_iload_n 5 d_Ch_howManySing_4 rfl rfl ?_
    refine aw_aload_n 6 d_Ch_howManySing_5 rfl rfl ?_
    obtain ⟨y6, h6, h⟩ := bnd h
    refine aw_getI 9 d_Ch_howManySing_6 rfl fg_Ch_48 (Or.inl rfl) h6 ?_
    refine aw_icmp_ge 37 12 d_Ch_howManySing_9 (by decide) rfl (fun c9 => ?_) (fun c9 => ?_)
    · have h := (if_pos c9).symm.trans h
      refine aw_iload_n 38 d_Ch_howManySing_37 rfl rfl ?_
      cases h
      exact aw_ireturn d_Ch_howManySing_38 rfl rfl
    · have h := (if_neg c9).symm.trans h
      refine aw_iload_n 13 d_Ch_howManySing_12 rfl rfl ?_
      refine aw_aload_n 14 d_Ch_howManySing_13 rfl rfl ?_
      refine aw_iload_n 15 d_Ch_howManySing_14 rfl rfl ?_
      refine aw_bipush (v := (24 : Int32)) 17 d_Ch_howManySing_15 rfl (by decide) ?_
      obtain ⟨y17, h17, h⟩ := bnd h
      refine aw_invV (rest := [.int x1]) (st' := [.int y17, .int x1]) (As := [.int x2, .int (24 : Int32)]) 20 d_Ch_howManySing_17 rfl lv_Ch_64 (m_Ch_lastNote h17) (by decide) (k_Ch_lastNote h17) rfl rfl rfl (Nat.le_of_ble_eq_true rfl) rfl ?_
      refine aw_iconst (v := (-1 : Int32)) 21 d_Ch_howManySing_20 rfl (by decide) ?_
      refine aw_icmp_ne 28 24 d_Ch_howManySing_21 (by decide) rfl (fun c21 => ?_) (fun c21 => ?_)
      · have h := (if_neg c21).symm.trans h
        refine aw_iconst (v := (1 : Int32)) 29 d_Ch_howManySing_28 rfl (by decide) ?_
        refine aw_iadd 30 d_Ch_howManySing_29 rfl ?_
        refine aw_istore_n (loc' := [some (.ref a0), some (.int (x1 + (1 : Int32))), some (.int x2)]) 31 d_Ch_howManySing_30 rfl (by decide) rfl ?_
        refine aw_iinc (v := (x2 + (1 : Int32))) (loc' := [some (.ref a0), some (.int (x1 + (1 : Int32))), some (.int (x2 + (1 : Int32)))]) 34 d_Ch_howManySing_31 rfl (by decide) rfl rfl rfl ?_
        refine aw_goto 4 d_Ch_howManySing_34 (by decide) ?_
        exact (ih (x1 + (1 : Int32)) (x2 + (1 : Int32)) h)
      · have h := (if_pos c21).symm.trans h
        refine aw_iconst (v := (0 : Int32)) 25 d_Ch_howManySing_24 rfl (by decide) ?_
        refine aw_goto 29 d_Ch_howManySing_25 (by decide) ?_
        refine aw_iadd 30 d_Ch_howManySing_29 rfl ?_
        refine aw_istore_n (loc' := [some (.ref a0), some (.int (x1 + (0 : Int32))), some (.int x2)]) 31 d_Ch_howManySing_30 rfl (by decide) rfl ?_
        refine aw_iinc (v := (x2 + (1 : Int32))) (loc' := [some (.ref a0), some (.int (x1 + (0 : Int32))), some (.int (x2 + (1 : Int32)))]) 34 d_Ch_howManySing_31 rfl (by decide) rfl rfl rfl ?_
        refine aw_goto 4 d_Ch_howManySing_34 (by decide) ?_
        exact (ih (x1 + (0 : Int32)) (x2 + (1 : Int32)) h)
theorem m_Ch_howManySing {l : Launch} {q : Int32} {a0 : Nat} {μ : MM} (h : f_Ch_howManySing a0 μ = some q) : AMet l 4 Y_Ch_howManySing [.ref a0] μ (some (.int q)) μ := by
  refine AMet.of (loc := [some (.ref a0), none, none]) pn_Ch_howManySing (Nat.le_of_ble_eq_true rfl) rfl ?_
  unfold f_Ch_howManySing at h
  obtain ⟨_, hk, h⟩ := bnd h
  refine aw_iconst (v := (0 : Int32)) 1 d_Ch_howManySing_0 rfl (by decide) ?_
  refine aw_istore_n (loc' := [some (.ref a0), some (.int (0 : Int32)), none]) 2 d_Ch_howManySing_1 rfl (by decide) rfl ?_
  refine aw_iconst (v := (0 : Int32)) 3 d_Ch_howManySing_2 rfl (by decide) ?_
  refine aw_istore_n (loc' := [some (.ref a0), some (.int (0 : Int32)), some (.int (0 : Int32))]) 4 d_Ch_howManySing_3 rfl (by decide) rfl ?_
  exact (l_Ch_howManySing_4 FU _ _ h)
theorem k_Ch_howManySing {q : Int32} {a0 : Nat} {μ : MM} (h : f_Ch_howManySing a0 μ = some q) : μ.1[a0]? = some (0, 2) := by
  unfold f_Ch_howManySing at h
  obtain ⟨_, h1, _⟩ := bnd h
  exact kO_some h1
theorem m_Si_drifting {l : Launch} {q : Int64} {a0 : Nat} {μ : MM} (h : f_Si_drifting a0 μ = some q) : AMet l 5 Y_Si_drifting [.ref a0] μ (some (.long q)) μ := by
  refine AMet.of (loc := [some (.ref a0), none, none]) pn_Si_drifting (Nat.le_of_ble_eq_true rfl) rfl ?_
  unfold f_Si_drifting at h
  obtain ⟨_, hk, h⟩ := bnd h
  refine aw_aload_n 1 d_Si_drifting_0 rfl rfl ?_
  obtain ⟨y1, h1, h⟩ := bnd h
  refine aw_getR 4 d_Si_drifting_1 rfl fg_Si_46 rfl h1 ?_
  obtain ⟨y4, h4, h⟩ := bnd h
  refine aw_invV (rest := []) (st' := [.int y4]) (As := []) 7 d_Si_drifting_4 rfl lv_Si_208 (m_Ch_howManySing h4) (by decide) (k_Ch_howManySing h4) rfl rfl rfl (Nat.le_of_ble_eq_true rfl) rfl ?_
  refine aw_i2l 8 d_Si_drifting_7 rfl ?_
  refine aw_lstore_n (loc' := [some (.ref a0), some (.long y4.toInt64), none]) 9 d_Si_drifting_8 rfl (by decide) rfl ?_
  refine aw_lload_n 10 d_Si_drifting_9 rfl rfl ?_
  refine aw_lconst (v := (0 : Int64)) 11 d_Si_drifting_10 rfl (by decide) ?_
  refine aw_lcmp 12 d_Si_drifting_11 rfl ?_
  refine aw_if_le 26 15 d_Si_drifting_12 (by decide) rfl (fun c12 => ?_) (fun c12 => ?_)
  · have h := (if_pos c12).symm.trans h
    refine aw_lconst (v := (0 : Int64)) 27 d_Si_drifting_26 rfl (by decide) ?_
    cases h
    exact aw_lreturn d_Si_drifting_27 rfl
  · have h := (if_neg c12).symm.trans h
    refine aw_aload_n 16 d_Si_drifting_15 rfl rfl ?_
    obtain ⟨y16, h16, h⟩ := bnd h
    refine aw_getL 19 d_Si_drifting_16 rfl fg_Si_76 rfl h16 ?_
    refine aw_lload_n 20 d_Si_drifting_19 rfl rfl ?_
    obtain ⟨y20, h20, h⟩ := bnd h
    refine aw_invS (rest := []) (st' := [.long y20]) (As := [.long y16, .long y4.toInt64]) 23 d_Si_drifting_20 rfl ls_Si_164 (m_Mt_floorDiv h20) (by decide) rfl rfl (Nat.le_of_ble_eq_true rfl) rfl ?_
    refine aw_goto 27 d_Si_drifting_23 (by decide) ?_
    cases h
    exact aw_lreturn d_Si_drifting_27 rfl
theorem k_Si_drifting {q : Int64} {a0 : Nat} {μ : MM} (h : f_Si_drifting a0 μ = some q) : μ.1[a0]? = some (0, 9) := by
  unfold f_Si_drifting at h
  obtain ⟨_, h1, _⟩ := bnd h
  exact kO_some h1
theorem l_Si_foulTogether_4 {l : Launch} {μ0 : MM} {q : Int64} {a0 : Nat} {μ : MM} : ∀ (n : Nat) (x1 : Int64) (x3 : Int32), f_Si_foulTogether_L4 a0 μ n x1 x3 = some q → AWm l Y_Si_foulTogether 5 μ0 (some (.long q)) μ 4 [some (.ref a0), some (.long x1), none, some (.int x3)] [] μ := by
  intro n
  induction n with
  | zero =>
    intro x1 x3 h
    have h : (none : Option (Int64)) = some q := h
    cases h
  | succ n ih =>
    intro x1 x3 h
    rw [f_Si_foulTogether_L4] at h
    refine aw_iload_n 5 d_Si_foulTogether_4 rfl rfl ?_
    refine aw_bipush (v := (24 : Int32)) 7 d_Si_foulTogether_5 rfl (by decide) ?_
    refine aw_icmp_ge 24 10 d_Si_foulTogether_7 (by decide) rfl (fun c7 => ?_) (fun c7 => ?_)
    · have h := (if_pos c7).symm.trans h
      refine aw_lload_n 25 d_Si_foulTogether_24 rfl rfl ?_
      cases h
      exact aw_lreturn d_Si_foulTogether_25 rfl
    · have h := (if_neg c7).symm.trans h
      refine aw_lload_n 11 d_Si_foulTogether_10 rfl rfl ?_
      refine aw_aload_n 12 d_Si_foulTogether_11 rfl rfl ?_
      refine aw_iload_n 13 d_Si_foulTogether_12 rfl rfl ?_
      obtain ⟨y13, h13, h⟩ := bnd h
      refine aw_invV (rest := [.long x1]) (st' := [.long y13, .long x1]) (As := [.int x3]) 16 d_Si_foulTogether_13 rfl lv_Si_195 (m_Si_foul h13) (by decide) (k_Si_foul h13) rfl rfl rfl (Nat.le_of_ble_eq_true rfl) rfl ?_
      refine aw_ladd 17 d_Si_foulTogether_16 rfl ?_
      refine aw_lstore_n (loc' := [some (.ref a0), some (.long (x1 + y13)), none, some (.int x3)]) 18 d_Si_foulTogether_17 rfl (by decide) rfl ?_
      refine aw_iinc (v := (x3 + (1 : Int32))) (loc' := [some (.ref a0), some (.long (x1 + y13)), none, some (.int (x3 + (1 : Int32)))]) 21 d_Si_foulTogether_18 rfl (by decide) rfl rfl rfl ?_
      refine aw_goto 4 d_Si_foulTogether_21 (by decide) ?_
      exact (ih (x1 + y13) (x3 + (1 : Int32)) h)
theorem m_Si_foulTogether {l : Launch} {q : Int64} {a0 : Nat} {μ : MM} (h : f_Si_foulTogether a0 μ = some q) : AMet l 5 Y_Si_foulTogether [.ref a0] μ (some (.long q)) μ := by
  refine AMet.of (loc := [some (.ref a0), none, none, none]) pn_Si_foulTogether (Nat.le_of_ble_eq_true rfl) rfl ?_
  unfold f_Si_foulTogether at h
  obtain ⟨_, hk, h⟩ := bnd h
  refine aw_lconst (v := (0 : Int64)) 1 d_Si_foulTogether_0 rfl (by decide) ?_
  refine aw_lstore_n (loc' := [some (.ref a0), some (.long (0 : Int64)), none, none]) 2 d_Si_foulTogether_1 rfl (by decide) rfl ?_
  refine aw_iconst (v := (0 : Int32)) 3 d_Si_foulTogether_2 rfl (by decide) ?_
  refine aw_istore_n (loc' := [some (.ref a0), some (.long (0 : Int64)), none, some (.int (0 : Int32))]) 4 d_Si_foulTogether_3 rfl (by decide) rfl ?_
  exact (l_Si_foulTogether_4 FU _ _ h)
theorem k_Si_foulTogether {q : Int64} {a0 : Nat} {μ : MM} (h : f_Si_foulTogether a0 μ = some q) : μ.1[a0]? = some (0, 9) := by
  unfold f_Si_foulTogether at h
  obtain ⟨_, h1, _⟩ := bnd h
  exact kO_some h1
theorem j_X_sunk_20 {l : Launch} {μ0 : MM} {q : Int64 × MM} {μ : MM} (h : f_X_sunk_J20 μ = some q) : AWm l Y_X_sunk 8 μ0 (some (.long q.1)) q.2 20 [none, none, none, none] [] μ := by
  unfold f_X_sunk_J20 at h
  refine aw_ldc2 (v := (-1000000000 : Int64)) 23 d_X_sunk_20 rfl c_X_239 ?_
  cases h
  exact aw_lreturn d_X_sunk_23 rfl
theorem m_X_sunk {l : Launch} {q : Int64 × MM} {a0 : Nat} {x1 : Int32} {μ : MM} (h : f_X_sunk a0 x1 μ = some q) : AMet l 8 Y_X_sunk [.ref a0, .int x1] μ (some (.long q.1)) q.2 := by
  refine AMet.of (loc := [some (.ref a0), some (.int x1), none, none]) pn_X_sunk (Nat.le_of_ble_eq_true rfl) rfl ?_
  unfold f_X_sunk at h
  obtain ⟨_, hk, h⟩ := bnd h
  refine aw_iload_n 1 d_X_sunk_0 rfl rfl ?_
  refine aw_if_lt 20 4 d_X_sunk_1 (by decide) rfl (fun c1 => ?_) (fun c1 => ?_)
  · have h := (if_pos c1).symm.trans h
    exact AW.wk [false, false, true, true] rfl (j_X_sunk_20 h)
  · have h := (if_neg c1).symm.trans h
    refine aw_iload_n 5 d_X_sunk_4 rfl rfl ?_
    refine aw_iconst (v := (4 : Int32)) 6 d_X_sunk_5 rfl (by decide) ?_
    refine aw_icmp_gt 20 9 d_X_sunk_6 (by decide) rfl (fun c6 => ?_) (fun c6 => ?_)
    · have h := (if_pos c6).symm.trans h
      exact AW.wk [false, false, true, true] rfl (j_X_sunk_20 h)
    · have h := (if_neg c6).symm.trans h
      refine aw_aload_n 10 d_X_sunk_9 rfl rfl ?_
      obtain ⟨y10, h10, h⟩ := bnd h
      refine aw_getR 13 d_X_sunk_10 rfl fg_X_21 rfl h10 ?_
      obtain ⟨y13, h13, h⟩ := bnd h
      refine aw_invV (rest := []) (st' := [.int y13]) (As := []) 16 d_X_sunk_13 rfl lv_X_254 (m_Ch_firstBeat h13) (by decide) (k_Ch_firstBeat h13) rfl rfl rfl (Nat.le_of_ble_eq_true rfl) rfl ?_
      refine aw_iconst (v := (-1 : Int32)) 17 d_X_sunk_16 rfl (by decide) ?_
      refine aw_icmp_ne 24 20 d_X_sunk_17 (by decide) rfl (fun c17 => ?_) (fun c17 => ?_)
      · have h := (if_neg c17).symm.trans h
        refine aw_aload_n 25 d_X_sunk_24 rfl rfl ?_
        obtain ⟨y25, h25, h⟩ := bnd h
        refine aw_getR 28 d_X_sunk_25 rfl fg_X_30 rfl h25 ?_
        obtain ⟨μ28, h28, h⟩ := bnd h
        refine aw_invV (rest := []) (st' := []) (As := []) 31 d_X_sunk_28 rfl lv_X_232 (m_Si_asTold h28) (by decide) (k_Si_asTold h28) rfl rfl rfl (Nat.le_of_ble_eq_true rfl) rfl ?_
        refine aw_aload_n 32 d_X_sunk_31 rfl rfl ?_
        obtain ⟨y32, h32, h⟩ := bnd h
        refine aw_getR 35 d_X_sunk_32 rfl fg_X_10 rfl h32 ?_
        obtain ⟨y35, h35, h⟩ := bnd h
        refine aw_getR 38 d_X_sunk_35 rfl fg_X_114 rfl h35 ?_
        refine aw_aload_n 39 d_X_sunk_38 rfl rfl ?_
        obtain ⟨y39, h39, h⟩ := bnd h
        refine aw_getR 42 d_X_sunk_39 rfl fg_X_21 rfl h39 ?_
        obtain ⟨y42, h42, h⟩ := bnd h
        refine aw_invV (rest := [.ref y35]) (st' := [.int y42, .ref y35]) (As := []) 45 d_X_sunk_42 rfl lv_X_257 (m_Ch_lastBeat h42) (by decide) (k_Ch_lastBeat h42) rfl rfl rfl (Nat.le_of_ble_eq_true rfl) rfl ?_
        obtain ⟨y45, h45, h⟩ := bnd h
        refine aw_iald 46 d_X_sunk_45 rfl h45 ?_
        refine aw_aload_n 47 d_X_sunk_46 rfl rfl ?_
        obtain ⟨y47, h47, h⟩ := bnd h
        refine aw_getR 50 d_X_sunk_47 rfl fg_X_10 rfl h47 ?_
        obtain ⟨y50, h50, h⟩ := bnd h
        refine aw_getR 53 d_X_sunk_50 rfl fg_X_114 rfl h50 ?_
        refine aw_aload_n 54 d_X_sunk_53 rfl rfl ?_
        obtain ⟨y54, h54, h⟩ := bnd h
        refine aw_getR 57 d_X_sunk_54 rfl fg_X_21 rfl h54 ?_
        obtain ⟨y57, h57, h⟩ := bnd h
        refine aw_invV (rest := [.ref y50, .int y45]) (st' := [.int y57, .ref y50, .int y45]) (As := []) 60 d_X_sunk_57 rfl lv_X_254 (m_Ch_firstBeat h57) (by decide) (k_Ch_firstBeat h57) rfl rfl rfl (Nat.le_of_ble_eq_true rfl) rfl ?_
        obtain ⟨y60, h60, h⟩ := bnd h
        refine aw_iald 61 d_X_sunk_60 rfl h60 ?_
        refine aw_isub 62 d_X_sunk_61 rfl ?_
        refine aw_i2l 63 d_X_sunk_62 rfl ?_
        refine aw_lstore_n (loc' := [some (.ref a0), some (.int x1), some (.long ((y45 - y60).toInt64)), none]) 64 d_X_sunk_63 rfl (by decide) rfl ?_
        refine aw_iload_n 65 d_X_sunk_64 rfl rfl ?_
        by_cases c65_0 : x1 = (0 : Int32)
        · have h := (if_pos c65_0).symm.trans h
          refine aw_tableIn 96 d_X_sunk_65 (by rw [c65_0]; decide) (by rw [c65_0]; decide) (by rw [c65_0]; rfl) (by decide) ?_
          refine aw_aload_n 97 d_X_sunk_96 rfl rfl ?_
          obtain ⟨y97, h97, h⟩ := bnd h
          refine aw_getR 100 d_X_sunk_97 rfl fg_X_30 rfl h97 ?_
          obtain ⟨y100, h100, h⟩ := bnd h
          refine aw_invV (rest := []) (st' := [.long y100]) (As := []) 103 d_X_sunk_100 rfl lv_X_258 (m_Si_sinking h100) (by decide) (k_Si_sinking h100) rfl rfl rfl (Nat.le_of_ble_eq_true rfl) rfl ?_
          cases h
          exact aw_lreturn d_X_sunk_103 rfl
        · have h := (if_neg c65_0).symm.trans h
          by_cases c65_1 : x1 = (1 : Int32)
          · have h := (if_pos c65_1).symm.trans h
            refine aw_tableIn 104 d_X_sunk_65 (by rw [c65_1]; decide) (by rw [c65_1]; decide) (by rw [c65_1]; rfl) (by decide) ?_
            refine aw_lload_n 105 d_X_sunk_104 rfl rfl ?_
            cases h
            exact aw_lreturn d_X_sunk_105 rfl
          · have h := (if_neg c65_1).symm.trans h
            by_cases c65_2 : x1 = (2 : Int32)
            · have h := (if_pos c65_2).symm.trans h
              refine aw_tableIn 106 d_X_sunk_65 (by rw [c65_2]; decide) (by rw [c65_2]; decide) (by rw [c65_2]; rfl) (by decide) ?_
              refine aw_aload_n 107 d_X_sunk_106 rfl rfl ?_
              obtain ⟨y107, h107, h⟩ := bnd h
              refine aw_getR 110 d_X_sunk_107 rfl fg_X_30 rfl h107 ?_
              obtain ⟨y110, h110, h⟩ := bnd h
              refine aw_invV (rest := []) (st' := [.long y110]) (As := []) 113 d_X_sunk_110 rfl lv_X_262 (m_Si_drifting h110) (by decide) (k_Si_drifting h110) rfl rfl rfl (Nat.le_of_ble_eq_true rfl) rfl ?_
              cases h
              exact aw_lreturn d_X_sunk_113 rfl
            · have h := (if_neg c65_2).symm.trans h
              by_cases c65_3 : x1 = (3 : Int32)
              · have h := (if_pos c65_3).symm.trans h
                refine aw_tableIn 114 d_X_sunk_65 (by rw [c65_3]; decide) (by rw [c65_3]; decide) (by rw [c65_3]; rfl) (by decide) ?_
                refine aw_aload_n 115 d_X_sunk_114 rfl rfl ?_
                obtain ⟨y115, h115, h⟩ := bnd h
                refine aw_getR 118 d_X_sunk_115 rfl fg_X_30 rfl h115 ?_
                obtain ⟨y118, h118, h⟩ := bnd h
                refine aw_invV (rest := []) (st' := [.long y118]) (As := []) 121 d_X_sunk_118 rfl lv_X_258 (m_Si_sinking h118) (by decide) (k_Si_sinking h118) rfl rfl rfl (Nat.le_of_ble_eq_true rfl) rfl ?_
                refine aw_lload_n 122 d_X_sunk_121 rfl rfl ?_
                refine aw_lsub 123 d_X_sunk_122 rfl ?_
                refine aw_aload_n 124 d_X_sunk_123 rfl rfl ?_
                obtain ⟨y124, h124, h⟩ := bnd h
                refine aw_getR 127 d_X_sunk_124 rfl fg_X_30 rfl h124 ?_
                obtain ⟨y127, h127, h⟩ := bnd h
                refine aw_invV (rest := [.long (y118 - (y45 - y60).toInt64)]) (st' := [.long y127, .long (y118 - (y45 - y60).toInt64)]) (As := []) 130 d_X_sunk_127 rfl lv_X_262 (m_Si_drifting h127) (by decide) (k_Si_drifting h127) rfl rfl rfl (Nat.le_of_ble_eq_true rfl) rfl ?_
                refine aw_lsub 131 d_X_sunk_130 rfl ?_
                cases h
                exact aw_lreturn d_X_sunk_131 rfl
              · have h := (if_neg c65_3).symm.trans h
                have e65 : (x1).toInt < 0 ∨ 3 < (x1).toInt := by
                  have z0 := lv_neT (a := 0) c65_0 (by decide)
                  have z1 := lv_neT (a := 1) c65_1 (by decide)
                  have z2 := lv_neT (a := 2) c65_2 (by decide)
                  have z3 := lv_neT (a := 3) c65_3 (by decide)
                  omega
                refine aw_tableOut 132 d_X_sunk_65 e65 (by decide) ?_
                refine aw_aload_n 133 d_X_sunk_132 rfl rfl ?_
                obtain ⟨y133, h133, h⟩ := bnd h
                refine aw_getR 136 d_X_sunk_133 rfl fg_X_30 rfl h133 ?_
                obtain ⟨y136, h136, h⟩ := bnd h
                refine aw_invV (rest := []) (st' := [.long y136]) (As := []) 139 d_X_sunk_136 rfl lv_X_265 (m_Si_foulTogether h136) (by decide) (k_Si_foulTogether h136) rfl rfl rfl (Nat.le_of_ble_eq_true rfl) rfl ?_
                cases h
                exact aw_lreturn d_X_sunk_139 rfl
      · have h := (if_pos c17).symm.trans h
        exact AW.wk [false, false, true, true] rfl (j_X_sunk_20 h)
theorem k_X_sunk {q : Int64 × MM} {a0 : Nat} {x1 : Int32} {μ : MM} (h : f_X_sunk a0 x1 μ = some q) : μ.1[a0]? = some (0, 0) := by
  unfold f_X_sunk at h
  obtain ⟨_, h1, _⟩ := bnd h
  exact kO_some h1
theorem l_M_firstSung_2 {l : Launch} {μ0 : MM} {q : Int32} {a0 : Nat} {μ : MM} : ∀ (n : Nat) (x1 : Int32), f_M_firstSung_L2 a0 μ n x1 = some q → AWm l Y_M_firstSung 6 μ0 (some (.int q)) μ 2 [some (.ref a0), some (.int x1)] [] μ := by
  intro n
  induction n with
  | zero =>
    intro x1 h
    have h : (none : Option (Int32)) = some q := h
    cases h
  | succ n ih =>
    intro x1 h
    rw [f_M_firstSung_L2] at h
    refine aw_iload_n 3 d_M_firstSung_2 rfl rfl ?_
    refine aw_bipush (v := (24 : Int32)) 5 d_M_firstSung_3 rfl (by decide) ?_
    refine aw_icmp_ge 24 8 d_M_firstSung_5 (by decide) rfl (fun c5 => ?_) (fun c5 => ?_)
    · have h := (if_pos c5).symm.trans h
      refine aw_iconst (v := (-1 : Int32)) 25 d_M_firstSung_24 rfl (by decide) ?_
      cases h
      exact aw_ireturn d_M_firstSung_25 rfl rfl
    · have h := (if_neg c5).symm.trans h
      refine aw_aload_n 9 d_M_firstSung_8 rfl rfl ?_
      refine aw_iload_n 10 d_M_firstSung_9 rfl rfl ?_
      obtain ⟨y10, h10, h⟩ := bnd h
      refine aw_invV (rest := []) (st' := [.int y10]) (As := [.int x1]) 13 d_M_firstSung_10 rfl lv_M_438 (m_M_singing h10) (by decide) (k_M_singing h10) rfl rfl rfl (Nat.le_of_ble_eq_true rfl) rfl ?_
      refine aw_if_le 18 16 d_M_firstSung_13 (by decide) rfl (fun c13 => ?_) (fun c13 => ?_)
      · have h := (if_pos c13).symm.trans h
        refine aw_iinc (v := (x1 + (1 : Int32))) (loc' := [some (.ref a0), some (.int (x1 + (1 : Int32)))]) 21 d_M_firstSung_18 rfl (by decide) rfl rfl rfl ?_
        refine aw_goto 2 d_M_firstSung_21 (by decide) ?_
        exact (ih (x1 + (1 : Int32)) h)
      · have h := (if_neg c13).symm.trans h
        refine aw_iload_n 17 d_M_firstSung_16 rfl rfl ?_
        cases h
        exact aw_ireturn d_M_firstSung_17 rfl rfl
theorem m_M_firstSung {l : Launch} {q : Int32} {a0 : Nat} {μ : MM} (h : f_M_firstSung a0 μ = some q) : AMet l 6 Y_M_firstSung [.ref a0] μ (some (.int q)) μ := by
  refine AMet.of (loc := [some (.ref a0), none]) pn_M_firstSung (Nat.le_of_ble_eq_true rfl) rfl ?_
  unfold f_M_firstSung at h
  obtain ⟨_, hk, h⟩ := bnd h
  refine aw_iconst (v := (0 : Int32)) 1 d_M_firstSung_0 rfl (by decide) ?_
  refine aw_istore_n (loc' := [some (.ref a0), some (.int (0 : Int32))]) 2 d_M_firstSung_1 rfl (by decide) rfl ?_
  exact (l_M_firstSung_2 FU _ h)
theorem k_M_firstSung {q : Int32} {a0 : Nat} {μ : MM} (h : f_M_firstSung a0 μ = some q) : μ.1[a0]? = some (0, 1) := by
  unfold f_M_firstSung at h
  obtain ⟨_, h1, _⟩ := bnd h
  exact kO_some h1
theorem l_M_lastSung_3 {l : Launch} {μ0 : MM} {q : Int32} {a0 : Nat} {μ : MM} : ∀ (n : Nat) (x1 : Int32), f_M_lastSung_L3 a0 μ n x1 = some q → AWm l Y_M_lastSung 6 μ0 (some (.int q)) μ 3 [some (.ref a0), some (.int x1)] [] μ := by
  intro n
  induction n with
  | zero =>
    intro x1 h
    have h : (none : Option (Int32)) = some q := h
    cases h
  | succ n ih =>
    intro x1 h
    rw [f_M_lastSung_L3] at h
    refine aw_iload_n 4 d_M_lastSung_3 rfl rfl ?_
    refine aw_if_lt 23 7 d_M_lastSung_4 (by decide) rfl (fun c4 => ?_) (fun c4 => ?_)
    · have h := (if_pos c4).symm.trans h
      refine aw_iconst (v := (-1 : Int32)) 24 d_M_lastSung_23 rfl (by decide) ?_
      cases h
      exact aw_ireturn d_M_lastSung_24 rfl rfl
    · have h := (if_neg c4).symm.trans h
      refine aw_aload_n 8 d_M_lastSung_7 rfl rfl ?_
      refine aw_iload_n 9 d_M_lastSung_8 rfl rfl ?_
      obtain ⟨y9, h9, h⟩ := bnd h
      refine aw_invV (rest := []) (st' := [.int y9]) (As := [.int x1]) 12 d_M_lastSung_9 rfl lv_M_438 (m_M_singing h9) (by decide) (k_M_singing h9) rfl rfl rfl (Nat.le_of_ble_eq_true rfl) rfl ?_
      refine aw_if_le 17 15 d_M_lastSung_12 (by decide) rfl (fun c12 => ?_) (fun c12 => ?_)
      · have h := (if_pos c12).symm.trans h
        refine aw_iinc (v := (x1 + (-1 : Int32))) (loc' := [some (.ref a0), some (.int (x1 + (-1 : Int32)))]) 20 d_M_lastSung_17 rfl (by decide) rfl rfl rfl ?_
        refine aw_goto 3 d_M_lastSung_20 (by decide) ?_
        exact (ih (x1 + (-1 : Int32)) h)
      · have h := (if_neg c12).symm.trans h
        refine aw_iload_n 16 d_M_lastSung_15 rfl rfl ?_
        cases h
        exact aw_ireturn d_M_lastSung_16 rfl rfl
theorem m_M_lastSung {l : Launch} {q : Int32} {a0 : Nat} {μ : MM} (h : f_M_lastSung a0 μ = some q) : AMet l 6 Y_M_lastSung [.ref a0] μ (some (.int q)) μ := by
  refine AMet.of (loc := [some (.ref a0), none]) pn_M_lastSung (Nat.le_of_ble_eq_true rfl) rfl ?_
  unfold f_M_lastSung at h
  obtain ⟨_, hk, h⟩ := bnd h
  refine aw_bipush (v := (23 : Int32)) 2 d_M_lastSung_0 rfl (by decide) ?_
  refine aw_istore_n (loc' := [some (.ref a0), some (.int (23 : Int32))]) 3 d_M_lastSung_2 rfl (by decide) rfl ?_
  exact (l_M_lastSung_3 FU _ h)
theorem k_M_lastSung {q : Int32} {a0 : Nat} {μ : MM} (h : f_M_lastSung a0 μ = some q) : μ.1[a0]? = some (0, 1) := by
  unfold f_M_lastSung at h
  obtain ⟨_, h1, _⟩ := bnd h
  exact kO_some h1
theorem m_M_sunkNow {l : Launch} {q : Int64} {a0 : Nat} {μ : MM} (h : f_M_sunkNow a0 μ = some q) : AMet l 7 Y_M_sunkNow [.ref a0] μ (some (.long q)) μ := by
  refine AMet.of (loc := [some (.ref a0)]) pn_M_sunkNow (Nat.le_of_ble_eq_true rfl) rfl ?_
  unfold f_M_sunkNow at h
  obtain ⟨_, hk, h⟩ := bnd h
  refine aw_aload_n 1 d_M_sunkNow_0 rfl rfl ?_
  refine aw_aload_n 2 d_M_sunkNow_1 rfl rfl ?_
  obtain ⟨y2, h2, h⟩ := bnd h
  refine aw_invV (rest := [.ref a0]) (st' := [.int y2, .ref a0]) (As := []) 5 d_M_sunkNow_2 rfl lv_M_516 (m_M_lastSung h2) (by decide) (k_M_lastSung h2) rfl rfl rfl (Nat.le_of_ble_eq_true rfl) rfl ?_
  obtain ⟨y5, h5, h⟩ := bnd h
  refine aw_invV (rest := []) (st' := [.long y5]) (As := [.int y2]) 8 d_M_sunkNow_5 rfl lv_M_519 (m_M_offOf h5) (by decide) (k_M_offOf h5) rfl rfl rfl (Nat.le_of_ble_eq_true rfl) rfl ?_
  refine aw_aload_n 9 d_M_sunkNow_8 rfl rfl ?_
  refine aw_aload_n 10 d_M_sunkNow_9 rfl rfl ?_
  obtain ⟨y10, h10, h⟩ := bnd h
  refine aw_invV (rest := [.ref a0, .long y5]) (st' := [.int y10, .ref a0, .long y5]) (As := []) 13 d_M_sunkNow_10 rfl lv_M_522 (m_M_firstSung h10) (by decide) (k_M_firstSung h10) rfl rfl rfl (Nat.le_of_ble_eq_true rfl) rfl ?_
  obtain ⟨y13, h13, h⟩ := bnd h
  refine aw_invV (rest := [.long y5]) (st' := [.long y13, .long y5]) (As := [.int y10]) 16 d_M_sunkNow_13 rfl lv_M_519 (m_M_offOf h13) (by decide) (k_M_offOf h13) rfl rfl rfl (Nat.le_of_ble_eq_true rfl) rfl ?_
  refine aw_lsub 17 d_M_sunkNow_16 rfl ?_
  cases h
  exact aw_lreturn d_M_sunkNow_17 rfl
theorem k_M_sunkNow {q : Int64} {a0 : Nat} {μ : MM} (h : f_M_sunkNow a0 μ = some q) : μ.1[a0]? = some (0, 1) := by
  unfold f_M_sunkNow at h
  obtain ⟨_, h1, _⟩ := bnd h
  exact kO_some h1
theorem l_M_sungMany_17 {l : Launch} {μ0 : MM} {q : Int32} {a0 : Nat} {x1 : Int32} {x2 : Int32} {μ : MM} {k4 : Int32 → Int32 → Option (Int32)} (hk4 : ∀ (x1 : Int32) (x2 : Int32), k4 x1 x2 = some q → AWm l Y_M_sungMany 5 μ0 (some (.int q)) μ 4 [some (.ref a0), some (.int x1), some (.int x2), none, none] [] μ) : ∀ (n : Nat) (x3 : Int32) (x4 : Int32), f_M_sungMany_L17 k4 a0 x1 x2 μ n x3 x4 = some q → AWm l Y_M_sungMany 5 μ0 (some (.int q)) μ 17 [some (.ref a0), some (.int x1), some (.int x2), some (.int x3), some (.int x4)] [] μ := by
  intro n
  induction n with
  | zero =>
    intro x3 x4 h
    have h : (none : Option (Int32)) = some q := h
    cases h
  | succ n ih =>
    intro x3 x4 h
    rw [f_M_sungMany_L17] at h
    refine aw_iload 19 d_M_sungMany_17 rfl rfl ?_
    refine aw_bipush (v := (24 : Int32)) 21 d_M_sungMany_19 rfl (by decide) ?_
    refine aw_icmp_ge 50 24 d_M_sungMany_21 (by decide) rfl (fun c21 => ?_) (fun c21 => ?_)
    · have h := (if_pos c21).symm.trans h
      refine aw_iload_n 51 d_M_sungMany_50 rfl rfl ?_
      refine aw_iload_n 52 d_M_sungMany_51 rfl rfl ?_
      refine aw_if_eq 59 55 d_M_sungMany_52 (by decide) rfl (fun c52 => ?_) (fun c52 => ?_)
      · have h := (if_pos c52).symm.trans h
        refine aw_iconst (v := (0 : Int32)) 60 d_M_sungMany_59 rfl (by decide) ?_
        refine aw_iadd 61 d_M_sungMany_60 rfl ?_
        refine aw_istore_n (loc' := [some (.ref a0), some (.int (x1 + (0 : Int32))), some (.int x2), some (.int x3), some (.int x4)]) 62 d_M_sungMany_61 rfl (by decide) rfl ?_
        refine aw_iinc (v := (x2 + (1 : Int32))) (loc' := [some (.ref a0), some (.int (x1 + (0 : Int32))), some (.int (x2 + (1 : Int32))), some (.int x3), some (.int x4)]) 65 d_M_sungMany_62 rfl (by decide) rfl rfl rfl ?_
        refine aw_goto 4 d_M_sungMany_65 (by decide) ?_
        exact AW.wk [true, true, true, false, false] rfl (hk4 (x1 + (0 : Int32)) (x2 + (1 : Int32)) h)
      · have h := (if_neg c52).symm.trans h
        refine aw_iconst (v := (1 : Int32)) 56 d_M_sungMany_55 rfl (by decide) ?_
        refine aw_goto 60 d_M_sungMany_56 (by decide) ?_
        refine aw_iadd 61 d_M_sungMany_60 rfl ?_
        refine aw_istore_n (loc' := [some (.ref a0), some (.int (x1 + (1 : Int32))), some (.int x2), some (.int x3), some (.int x4)]) 62 d_M_sungMany_61 rfl (by decide) rfl ?_
        refine aw_iinc (v := (x2 + (1 : Int32))) (loc' := [some (.ref a0), some (.int (x1 + (1 : Int32))), some (.int (x2 + (1 : Int32))), some (.int x3), some (.int x4)]) 65 d_M_sungMany_62 rfl (by decide) rfl rfl rfl ?_
        refine aw_goto 4 d_M_sungMany_65 (by decide) ?_
        exact AW.wk [true, true, true, false, false] rfl (hk4 (x1 + (1 : Int32)) (x2 + (1 : Int32)) h)
    · have h := (if_neg c21).symm.trans h
      refine aw_iload_n 25 d_M_sungMany_24 rfl rfl ?_
      refine aw_if_ne 38 28 d_M_sungMany_25 (by decide) rfl (fun c25 => ?_) (fun c25 => ?_)
      · have h := (if_neg c25).symm.trans h
        refine aw_iconst (v := (1 : Int32)) 39 d_M_sungMany_38 rfl (by decide) ?_
        refine aw_goto 43 d_M_sungMany_39 (by decide) ?_
        refine aw_istore_n (loc' := [some (.ref a0), some (.int x1), some (.int x2), some (.int (1 : Int32)), some (.int x4)]) 44 d_M_sungMany_43 rfl (by decide) rfl ?_
        refine aw_iinc (v := (x4 + (1 : Int32))) (loc' := [some (.ref a0), some (.int x1), some (.int x2), some (.int (1 : Int32)), some (.int (x4 + (1 : Int32)))]) 47 d_M_sungMany_44 rfl (by decide) rfl rfl rfl ?_
        refine aw_goto 17 d_M_sungMany_47 (by decide) ?_
        exact (ih (1 : Int32) (x4 + (1 : Int32)) h)
      · have h := (if_pos c25).symm.trans h
        refine aw_aload_n 29 d_M_sungMany_28 rfl rfl ?_
        refine aw_iload_n 30 d_M_sungMany_29 rfl rfl ?_
        refine aw_iload 32 d_M_sungMany_30 rfl rfl ?_
        obtain ⟨y32, h32, h⟩ := bnd h
        refine aw_invV (rest := []) (st' := [.int y32]) (As := [.int x2, .int x4]) 35 d_M_sungMany_32 rfl lv_M_423 (m_M_sings h32) (by decide) (k_M_sings h32) rfl rfl rfl (Nat.le_of_ble_eq_true rfl) rfl ?_
        refine aw_if_eq 42 38 d_M_sungMany_35 (by decide) rfl (fun c35 => ?_) (fun c35 => ?_)
        · have h := (if_pos c35).symm.trans h
          refine aw_iconst (v := (0 : Int32)) 43 d_M_sungMany_42 rfl (by decide) ?_
          refine aw_istore_n (loc' := [some (.ref a0), some (.int x1), some (.int x2), some (.int (0 : Int32)), some (.int x4)]) 44 d_M_sungMany_43 rfl (by decide) rfl ?_
          refine aw_iinc (v := (x4 + (1 : Int32))) (loc' := [some (.ref a0), some (.int x1), some (.int x2), some (.int (0 : Int32)), some (.int (x4 + (1 : Int32)))]) 47 d_M_sungMany_44 rfl (by decide) rfl rfl rfl ?_
          refine aw_goto 17 d_M_sungMany_47 (by decide) ?_
          exact (ih (0 : Int32) (x4 + (1 : Int32)) h)
        · have h := (if_neg c35).symm.trans h
          refine aw_iconst (v := (1 : Int32)) 39 d_M_sungMany_38 rfl (by decide) ?_
          refine aw_goto 43 d_M_sungMany_39 (by decide) ?_
          refine aw_istore_n (loc' := [some (.ref a0), some (.int x1), some (.int x2), some (.int (1 : Int32)), some (.int x4)]) 44 d_M_sungMany_43 rfl (by decide) rfl ?_
          refine aw_iinc (v := (x4 + (1 : Int32))) (loc' := [some (.ref a0), some (.int x1), some (.int x2), some (.int (1 : Int32)), some (.int (x4 + (1 : Int32)))]) 47 d_M_sungMany_44 rfl (by decide) rfl rfl rfl ?_
          refine aw_goto 17 d_M_sungMany_47 (by decide) ?_
          exact (ih (1 : Int32) (x4 + (1 : Int32)) h)
theorem l_M_sungMany_4 {l : Launch} {μ0 : MM} {q : Int32} {a0 : Nat} {μ : MM} : ∀ (n : Nat) (x1 : Int32) (x2 : Int32), f_M_sungMany_L4 a0 μ n x1 x2 = some q → AWm l Y_M_sungMany 5 μ0 (some (.int q)) μ 4 [some (.ref a0), some (.int x1), some (.int x2), none, none] [] μ := by
  intro n
  induction n with
  | zero =>
    intro x1 x2 h
    have h : (none : Option (Int32)) = some q := h
    cases h
  | succ n ih =>
    intro x1 x2 h
    rw [f_M_sungMany_L4] at h
    refine aw_iload_n 5 d_M_sungMany_4 rfl rfl ?_
    refine aw_aload_n 6 d_M_sungMany_5 rfl rfl ?_
    obtain ⟨y6, h6, h⟩ := bnd h
    refine aw_getI 9 d_M_sungMany_6 rfl fg_M_275 (Or.inl rfl) h6 ?_
    refine aw_icmp_ge 68 12 d_M_sungMany_9 (by decide) rfl (fun c9 => ?_) (fun c9 => ?_)
    · have h := (if_pos c9).symm.trans h
      refine aw_iload_n 69 d_M_sungMany_68 rfl rfl ?_
      cases h
      exact aw_ireturn d_M_sungMany_69 rfl rfl
    · have h := (if_neg c9).symm.trans h
      refine aw_iconst (v := (0 : Int32)) 13 d_M_sungMany_12 rfl (by decide) ?_
      refine aw_istore_n (loc' := [some (.ref a0), some (.int x1), some (.int x2), some (.int (0 : Int32)), none]) 14 d_M_sungMany_13 rfl (by decide) rfl ?_
      refine aw_iconst (v := (0 : Int32)) 15 d_M_sungMany_14 rfl (by decide) ?_
      refine aw_istore (loc' := [some (.ref a0), some (.int x1), some (.int x2), some (.int (0 : Int32)), some (.int (0 : Int32))]) 17 d_M_sungMany_15 rfl (by decide) rfl ?_
      exact (l_M_sungMany_17 ih FU _ _ h)
theorem m_M_sungMany {l : Launch} {q : Int32} {a0 : Nat} {μ : MM} (h : f_M_sungMany a0 μ = some q) : AMet l 5 Y_M_sungMany [.ref a0] μ (some (.int q)) μ := by
  refine AMet.of (loc := [some (.ref a0), none, none, none, none]) pn_M_sungMany (Nat.le_of_ble_eq_true rfl) rfl ?_
  unfold f_M_sungMany at h
  obtain ⟨_, hk, h⟩ := bnd h
  refine aw_iconst (v := (0 : Int32)) 1 d_M_sungMany_0 rfl (by decide) ?_
  refine aw_istore_n (loc' := [some (.ref a0), some (.int (0 : Int32)), none, none, none]) 2 d_M_sungMany_1 rfl (by decide) rfl ?_
  refine aw_iconst (v := (0 : Int32)) 3 d_M_sungMany_2 rfl (by decide) ?_
  refine aw_istore_n (loc' := [some (.ref a0), some (.int (0 : Int32)), some (.int (0 : Int32)), none, none]) 4 d_M_sungMany_3 rfl (by decide) rfl ?_
  exact (l_M_sungMany_4 FU _ _ h)
theorem k_M_sungMany {q : Int32} {a0 : Nat} {μ : MM} (h : f_M_sungMany a0 μ = some q) : μ.1[a0]? = some (0, 1) := by
  unfold f_M_sungMany at h
  obtain ⟨_, h1, _⟩ := bnd h
  exact kO_some h1
theorem l_M_allFoul_4 {l : Launch} {μ0 : MM} {q : Int64} {a0 : Nat} {μ : MM} : ∀ (n : Nat) (x1 : Int64) (x3 : Int32), f_M_allFoul_L4 a0 μ n x1 x3 = some q → AWm l Y_M_allFoul 6 μ0 (some (.long q)) μ 4 [some (.ref a0), some (.long x1), none, some (.int x3)] [] μ := by
  intro n
  induction n with
  | zero =>
    intro x1 x3 h
    have h : (none : Option (Int64)) = some q := h
    cases h
  | succ n ih =>
    intro x1 x3 h
    rw [f_M_allFoul_L4] at h
    refine aw_iload_n 5 d_M_allFoul_4 rfl rfl ?_
    refine aw_bipush (v := (24 : Int32)) 7 d_M_allFoul_5 rfl (by decide) ?_
    refine aw_icmp_ge 24 10 d_M_allFoul_7 (by decide) rfl (fun c7 => ?_) (fun c7 => ?_)
    · have h := (if_pos c7).symm.trans h
      refine aw_lload_n 25 d_M_allFoul_24 rfl rfl ?_
      cases h
      exact aw_lreturn d_M_allFoul_25 rfl
    · have h := (if_neg c7).symm.trans h
      refine aw_lload_n 11 d_M_allFoul_10 rfl rfl ?_
      refine aw_aload_n 12 d_M_allFoul_11 rfl rfl ?_
      refine aw_iload_n 13 d_M_allFoul_12 rfl rfl ?_
      obtain ⟨y13, h13, h⟩ := bnd h
      refine aw_invV (rest := [.long x1]) (st' := [.long y13, .long x1]) (As := [.int x3]) 16 d_M_allFoul_13 rfl lv_M_512 (m_M_foulOf h13) (by decide) (k_M_foulOf h13) rfl rfl rfl (Nat.le_of_ble_eq_true rfl) rfl ?_
      refine aw_ladd 17 d_M_allFoul_16 rfl ?_
      refine aw_lstore_n (loc' := [some (.ref a0), some (.long (x1 + y13)), none, some (.int x3)]) 18 d_M_allFoul_17 rfl (by decide) rfl ?_
      refine aw_iinc (v := (x3 + (1 : Int32))) (loc' := [some (.ref a0), some (.long (x1 + y13)), none, some (.int (x3 + (1 : Int32)))]) 21 d_M_allFoul_18 rfl (by decide) rfl rfl rfl ?_
      refine aw_goto 4 d_M_allFoul_21 (by decide) ?_
      exact (ih (x1 + y13) (x3 + (1 : Int32)) h)
theorem m_M_allFoul {l : Launch} {q : Int64} {a0 : Nat} {μ : MM} (h : f_M_allFoul a0 μ = some q) : AMet l 6 Y_M_allFoul [.ref a0] μ (some (.long q)) μ := by
  refine AMet.of (loc := [some (.ref a0), none, none, none]) pn_M_allFoul (Nat.le_of_ble_eq_true rfl) rfl ?_
  unfold f_M_allFoul at h
  obtain ⟨_, hk, h⟩ := bnd h
  refine aw_lconst (v := (0 : Int64)) 1 d_M_allFoul_0 rfl (by decide) ?_
  refine aw_lstore_n (loc' := [some (.ref a0), some (.long (0 : Int64)), none, none]) 2 d_M_allFoul_1 rfl (by decide) rfl ?_
  refine aw_iconst (v := (0 : Int32)) 3 d_M_allFoul_2 rfl (by decide) ?_
  refine aw_istore_n (loc' := [some (.ref a0), some (.long (0 : Int64)), none, some (.int (0 : Int32))]) 4 d_M_allFoul_3 rfl (by decide) rfl ?_
  exact (l_M_allFoul_4 FU _ _ h)
theorem k_M_allFoul {q : Int64} {a0 : Nat} {μ : MM} (h : f_M_allFoul a0 μ = some q) : μ.1[a0]? = some (0, 1) := by
  unfold f_M_allFoul at h
  obtain ⟨_, h1, _⟩ := bnd h
  exact kO_some h1
theorem j_M_sunk_20 {l : Launch} {μ0 : MM} {q : Int64 × MM} {μ : MM} (h : f_M_sunk_J20 μ = some q) : AWm l Y_M_sunk 12 μ0 (some (.long q.1)) q.2 20 [none, none, none, none, none, none, none, none] [] μ := by
  unfold f_M_sunk_J20 at h
  refine aw_ldc2 (v := (-1000000000 : Int64)) 23 d_M_sunk_20 rfl c_M_530 ?_
  cases h
  exact aw_lreturn d_M_sunk_23 rfl
theorem m_M_sunk {l : Launch} {q : Int64 × MM} {a0 : Nat} {x1 : Int32} {μ : MM} (h : f_M_sunk a0 x1 μ = some q) : AMet l 12 Y_M_sunk [.ref a0, .int x1] μ (some (.long q.1)) q.2 := by
  refine AMet.of (loc := [some (.ref a0), some (.int x1), none, none, none, none, none, none]) pn_M_sunk (Nat.le_of_ble_eq_true rfl) rfl ?_
  unfold f_M_sunk at h
  obtain ⟨_, hk, h⟩ := bnd h
  refine aw_aload_n 1 d_M_sunk_0 rfl rfl ?_
  obtain ⟨y1, h1, h⟩ := bnd h
  refine aw_invV (rest := []) (st' := [.int y1]) (As := []) 4 d_M_sunk_1 rfl lv_M_522 (m_M_firstSung h1) (by decide) (k_M_firstSung h1) rfl rfl rfl (Nat.le_of_ble_eq_true rfl) rfl ?_
  refine aw_iconst (v := (-1 : Int32)) 5 d_M_sunk_4 rfl (by decide) ?_
  refine aw_icmp_eq 20 8 d_M_sunk_5 (by decide) rfl (fun c5 => ?_) (fun c5 => ?_)
  · have h := (if_pos c5).symm.trans h
    exact AW.wk [false, false, true, true, true, true, true, true] rfl (j_M_sunk_20 h)
  · have h := (if_neg c5).symm.trans h
    refine aw_iload_n 9 d_M_sunk_8 rfl rfl ?_
    refine aw_i2l 10 d_M_sunk_9 rfl ?_
    refine aw_lconst (v := (0 : Int64)) 11 d_M_sunk_10 rfl (by decide) ?_
    refine aw_ldc2 (v := (4 : Int64)) 14 d_M_sunk_11 rfl c_M_535 ?_
    obtain ⟨y14, h14, h⟩ := bnd h
    refine aw_invS (rest := []) (st' := [.int y14]) (As := [.long x1.toInt64, .long (0 : Int64), .long (4 : Int64)]) 17 d_M_sunk_14 rfl ls_M_145 (m_M_lies h14) (by decide) rfl rfl (Nat.le_of_ble_eq_true rfl) rfl ?_
    refine aw_if_ne 24 20 d_M_sunk_17 (by decide) rfl (fun c17 => ?_) (fun c17 => ?_)
    · have h := (if_neg c17).symm.trans h
      refine aw_aload_n 25 d_M_sunk_24 rfl rfl ?_
      obtain ⟨μ25, h25, h⟩ := bnd h
      refine aw_invV (rest := []) (st' := []) (As := []) 28 d_M_sunk_25 rfl lv_M_525 (m_M_plainly h25) (by decide) (k_M_plainly h25) rfl rfl rfl (Nat.le_of_ble_eq_true rfl) rfl ?_
      refine aw_aload_n 29 d_M_sunk_28 rfl rfl ?_
      obtain ⟨y29, h29, h⟩ := bnd h
      refine aw_invV (rest := []) (st' := [.long y29]) (As := []) 32 d_M_sunk_29 rfl lv_M_537 (m_M_sunkNow h29) (by decide) (k_M_sunkNow h29) rfl rfl rfl (Nat.le_of_ble_eq_true rfl) rfl ?_
      refine aw_lstore_n (loc' := [some (.ref a0), some (.int x1), some (.long y29), none, none, none, none, none]) 33 d_M_sunk_32 rfl (by decide) rfl ?_
      refine aw_aload_n 34 d_M_sunk_33 rfl rfl ?_
      refine aw_aload_n 35 d_M_sunk_34 rfl rfl ?_
      obtain ⟨y35, h35, h⟩ := bnd h
      refine aw_invV (rest := [.ref a0]) (st' := [.int y35, .ref a0]) (As := []) 38 d_M_sunk_35 rfl lv_M_516 (m_M_lastSung h35) (by decide) (k_M_lastSung h35) rfl rfl rfl (Nat.le_of_ble_eq_true rfl) rfl ?_
      obtain ⟨q38, h38, h⟩ := bnd h
      refine aw_invV (rest := []) (st' := [.int q38.1]) (As := [.int y35]) 41 d_M_sunk_38 rfl lv_M_231 (m_M_keynoteOf h38) (by decide) (k_M_keynoteOf h38) rfl rfl rfl (Nat.le_of_ble_eq_true rfl) rfl ?_
      refine aw_aload_n 42 d_M_sunk_41 rfl rfl ?_
      refine aw_aload_n 43 d_M_sunk_42 rfl rfl ?_
      obtain ⟨y43, h43, h⟩ := bnd h
      refine aw_invV (rest := [.ref a0, .int q38.1]) (st' := [.int y43, .ref a0, .int q38.1]) (As := []) 46 d_M_sunk_43 rfl lv_M_522 (m_M_firstSung h43) (by decide) (k_M_firstSung h43) rfl rfl rfl (Nat.le_of_ble_eq_true rfl) rfl ?_
      obtain ⟨q46, h46, h⟩ := bnd h
      refine aw_invV (rest := [.int q38.1]) (st' := [.int q46.1, .int q38.1]) (As := [.int y43]) 49 d_M_sunk_46 rfl lv_M_231 (m_M_keynoteOf h46) (by decide) (k_M_keynoteOf h46) rfl rfl rfl (Nat.le_of_ble_eq_true rfl) rfl ?_
      refine aw_isub 50 d_M_sunk_49 rfl ?_
      refine aw_i2l 51 d_M_sunk_50 rfl ?_
      refine aw_lstore (loc' := [some (.ref a0), some (.int x1), some (.long y29), none, some (.long ((q38.1 - q46.1).toInt64)), none, none, none]) 53 d_M_sunk_51 rfl (by decide) rfl ?_
      refine aw_aload_n 54 d_M_sunk_53 rfl rfl ?_
      obtain ⟨y54, h54, h⟩ := bnd h
      refine aw_getL 57 d_M_sunk_54 rfl fg_M_490 rfl h54 ?_
      refine aw_aload_n 58 d_M_sunk_57 rfl rfl ?_
      obtain ⟨y58, h58, h⟩ := bnd h
      refine aw_invV (rest := [.long y54]) (st' := [.int y58, .long y54]) (As := []) 61 d_M_sunk_58 rfl lv_M_541 (m_M_sungMany h58) (by decide) (k_M_sungMany h58) rfl rfl rfl (Nat.le_of_ble_eq_true rfl) rfl ?_
      refine aw_i2l 62 d_M_sunk_61 rfl ?_
      obtain ⟨y62, h62, h⟩ := bnd h
      refine aw_invS (rest := []) (st' := [.long y62]) (As := [.long y54, .long y58.toInt64]) 65 d_M_sunk_62 rfl ls_M_446 (m_M_floor h62) (by decide) rfl rfl (Nat.le_of_ble_eq_true rfl) rfl ?_
      refine aw_lstore (loc' := [some (.ref a0), some (.int x1), some (.long y29), none, some (.long ((q38.1 - q46.1).toInt64)), none, some (.long y62), none]) 67 d_M_sunk_65 rfl (by decide) rfl ?_
      refine aw_iload_n 68 d_M_sunk_67 rfl rfl ?_
      refine aw_if_ne 75 71 d_M_sunk_68 (by decide) rfl (fun c68 => ?_) (fun c68 => ?_)
      · have h := (if_neg c68).symm.trans h
        refine aw_iload_n 76 d_M_sunk_75 rfl rfl ?_
        refine aw_iconst (v := (1 : Int32)) 77 d_M_sunk_76 rfl (by decide) ?_
        refine aw_icmp_ne 85 80 d_M_sunk_77 (by decide) rfl (fun c77 => ?_) (fun c77 => ?_)
        · have h := (if_neg c77).symm.trans h
          refine aw_iload_n 86 d_M_sunk_85 rfl rfl ?_
          refine aw_iconst (v := (2 : Int32)) 87 d_M_sunk_86 rfl (by decide) ?_
          refine aw_icmp_ne 95 90 d_M_sunk_87 (by decide) rfl (fun c87 => ?_) (fun c87 => ?_)
          · have h := (if_neg c87).symm.trans h
            refine aw_iload_n 96 d_M_sunk_95 rfl rfl ?_
            refine aw_iconst (v := (3 : Int32)) 97 d_M_sunk_96 rfl (by decide) ?_
            refine aw_icmp_ne 110 100 d_M_sunk_97 (by decide) rfl (fun c97 => ?_) (fun c97 => ?_)
            · have h := (if_neg c97).symm.trans h
              refine aw_aload_n 111 d_M_sunk_110 rfl rfl ?_
              obtain ⟨y111, h111, h⟩ := bnd h
              refine aw_invV (rest := []) (st' := [.long y111]) (As := []) 114 d_M_sunk_111 rfl lv_M_544 (m_M_allFoul h111) (by decide) (k_M_allFoul h111) rfl rfl rfl (Nat.le_of_ble_eq_true rfl) rfl ?_
              cases h
              exact aw_lreturn d_M_sunk_114 rfl
            · have h := (if_pos c97).symm.trans h
              refine aw_lload_n 101 d_M_sunk_100 rfl rfl ?_
              refine aw_lload 103 d_M_sunk_101 rfl rfl ?_
              refine aw_lsub 104 d_M_sunk_103 rfl ?_
              refine aw_lload 106 d_M_sunk_104 rfl rfl ?_
              refine aw_lsub 107 d_M_sunk_106 rfl ?_
              refine aw_goto 114 d_M_sunk_107 (by decide) ?_
              cases h
              exact aw_lreturn d_M_sunk_114 rfl
          · have h := (if_pos c87).symm.trans h
            refine aw_lload 92 d_M_sunk_90 rfl rfl ?_
            refine aw_goto 114 d_M_sunk_92 (by decide) ?_
            cases h
            exact aw_lreturn d_M_sunk_114 rfl
        · have h := (if_pos c77).symm.trans h
          refine aw_lload 82 d_M_sunk_80 rfl rfl ?_
          refine aw_goto 114 d_M_sunk_82 (by decide) ?_
          cases h
          exact aw_lreturn d_M_sunk_114 rfl
      · have h := (if_pos c68).symm.trans h
        refine aw_lload_n 72 d_M_sunk_71 rfl rfl ?_
        refine aw_goto 114 d_M_sunk_72 (by decide) ?_
        cases h
        exact aw_lreturn d_M_sunk_114 rfl
    · have h := (if_pos c17).symm.trans h
      exact AW.wk [false, false, true, true, true, true, true, true] rfl (j_M_sunk_20 h)
theorem k_M_sunk {q : Int64 × MM} {a0 : Nat} {x1 : Int32} {μ : MM} (h : f_M_sunk a0 x1 μ = some q) : μ.1[a0]? = some (0, 1) := by
  unfold f_M_sunk at h
  obtain ⟨_, h1, _⟩ := bnd h
  exact kO_some h1
theorem m_X_hears {l : Launch} {q : Int32} {a0 : Nat} {x1 : Int32} {x2 : Int32} {μ : MM} (h : f_X_hears a0 x1 x2 μ = some q) : AMet l 3 Y_X_hears [.ref a0, .int x1, .int x2] μ (some (.int q)) μ := by
  refine AMet.of (loc := [some (.ref a0), some (.int x1), some (.int x2)]) pn_X_hears (Nat.le_of_ble_eq_true rfl) rfl ?_
  unfold f_X_hears at h
  obtain ⟨_, hk, h⟩ := bnd h
  refine aw_aload_n 1 d_X_hears_0 rfl rfl ?_
  obtain ⟨y1, h1, h⟩ := bnd h
  refine aw_getR 4 d_X_hears_1 rfl fg_X_21 rfl h1 ?_
  refine aw_iload_n 5 d_X_hears_4 rfl rfl ?_
  obtain ⟨y5, h5, h⟩ := bnd h
  refine aw_invV (rest := []) (st' := [.int y5]) (As := [.int x1]) 8 d_X_hears_5 rfl lv_X_179 (m_Ch_has h5) (by decide) (k_Ch_has h5) rfl rfl rfl (Nat.le_of_ble_eq_true rfl) rfl ?_
  refine aw_if_eq 60 11 d_X_hears_8 (by decide) rfl (fun c8 => ?_) (fun c8 => ?_)
  · have h := (if_pos c8).symm.trans h
    refine aw_iconst (v := (-1 : Int32)) 61 d_X_hears_60 rfl (by decide) ?_
    cases h
    exact aw_ireturn d_X_hears_61 rfl rfl
  · have h := (if_neg c8).symm.trans h
    refine aw_aload_n 12 d_X_hears_11 rfl rfl ?_
    obtain ⟨y12, h12, h⟩ := bnd h
    refine aw_getR 15 d_X_hears_12 rfl fg_X_21 rfl h12 ?_
    refine aw_iload_n 16 d_X_hears_15 rfl rfl ?_
    obtain ⟨y16, h16, h⟩ := bnd h
    refine aw_invV (rest := []) (st' := [.int y16]) (As := [.int x2]) 19 d_X_hears_16 rfl lv_X_179 (m_Ch_has h16) (by decide) (k_Ch_has h16) rfl rfl rfl (Nat.le_of_ble_eq_true rfl) rfl ?_
    refine aw_if_eq 60 22 d_X_hears_19 (by decide) rfl (fun c19 => ?_) (fun c19 => ?_)
    · have h := (if_pos c19).symm.trans h
      refine aw_iconst (v := (-1 : Int32)) 61 d_X_hears_60 rfl (by decide) ?_
      cases h
      exact aw_ireturn d_X_hears_61 rfl rfl
    · have h := (if_neg c19).symm.trans h
      refine aw_iload_n 23 d_X_hears_22 rfl rfl ?_
      refine aw_iload_n 24 d_X_hears_23 rfl rfl ?_
      refine aw_icmp_eq 60 27 d_X_hears_24 (by decide) rfl (fun c24 => ?_) (fun c24 => ?_)
      · have h := (if_pos c24).symm.trans h
        refine aw_iconst (v := (-1 : Int32)) 61 d_X_hears_60 rfl (by decide) ?_
        cases h
        exact aw_ireturn d_X_hears_61 rfl rfl
      · have h := (if_neg c24).symm.trans h
        refine aw_aload_n 28 d_X_hears_27 rfl rfl ?_
        obtain ⟨y28, h28, h⟩ := bnd h
        refine aw_getR 31 d_X_hears_28 rfl fg_X_21 rfl h28 ?_
        obtain ⟨y31, h31, h⟩ := bnd h
        refine aw_getR 34 d_X_hears_31 rfl fg_X_173 rfl h31 ?_
        refine aw_iload_n 35 d_X_hears_34 rfl rfl ?_
        obtain ⟨y35, h35, h⟩ := bnd h
        refine aw_iald 36 d_X_hears_35 rfl h35 ?_
        refine aw_aload_n 37 d_X_hears_36 rfl rfl ?_
        obtain ⟨y37, h37, h⟩ := bnd h
        refine aw_getR 40 d_X_hears_37 rfl fg_X_21 rfl h37 ?_
        obtain ⟨y40, h40, h⟩ := bnd h
        refine aw_getR 43 d_X_hears_40 rfl fg_X_170 rfl h40 ?_
        refine aw_iload_n 44 d_X_hears_43 rfl rfl ?_
        obtain ⟨y44, h44, h⟩ := bnd h
        refine aw_iald 45 d_X_hears_44 rfl h44 ?_
        refine aw_aload_n 46 d_X_hears_45 rfl rfl ?_
        obtain ⟨y46, h46, h⟩ := bnd h
        refine aw_getR 49 d_X_hears_46 rfl fg_X_21 rfl h46 ?_
        obtain ⟨y49, h49, h⟩ := bnd h
        refine aw_getR 52 d_X_hears_49 rfl fg_X_170 rfl h49 ?_
        refine aw_iload_n 53 d_X_hears_52 rfl rfl ?_
        obtain ⟨y53, h53, h⟩ := bnd h
        refine aw_iald 54 d_X_hears_53 rfl h53 ?_
        obtain ⟨y54, h54, h⟩ := bnd h
        refine aw_invS (rest := []) (st' := [.int y54]) (As := [.int y35, .int y44, .int y53]) 57 d_X_hears_54 rfl ls_X_268 (m_Ch_heard h54) (by decide) rfl rfl (Nat.le_of_ble_eq_true rfl) rfl ?_
        refine aw_goto 61 d_X_hears_57 (by decide) ?_
        cases h
        exact aw_ireturn d_X_hears_61 rfl rfl
theorem k_X_hears {q : Int32} {a0 : Nat} {x1 : Int32} {x2 : Int32} {μ : MM} (h : f_X_hears a0 x1 x2 μ = some q) : μ.1[a0]? = some (0, 0) := by
  unfold f_X_hears at h
  obtain ⟨_, h1, _⟩ := bnd h
  exact kO_some h1
theorem m_M_hears {l : Launch} {q : Int32 × MM} {a0 : Nat} {x1 : Int32} {x2 : Int32} {μ : MM} (h : f_M_hears a0 x1 x2 μ = some q) : AMet l 3 Y_M_hears [.ref a0, .int x1, .int x2] μ (some (.int q.1)) q.2 := by
  refine AMet.of (loc := [some (.ref a0), some (.int x1), some (.int x2)]) pn_M_hears (Nat.le_of_ble_eq_true rfl) rfl ?_
  unfold f_M_hears at h
  obtain ⟨_, hk, h⟩ := bnd h
  refine aw_aload_n 1 d_M_hears_0 rfl rfl ?_
  refine aw_iload_n 2 d_M_hears_1 rfl rfl ?_
  obtain ⟨y2, h2, h⟩ := bnd h
  refine aw_invV (rest := []) (st' := [.int y2]) (As := [.int x1]) 5 d_M_hears_2 rfl lv_M_282 (m_M_isSinger h2) (by decide) (k_M_isSinger h2) rfl rfl rfl (Nat.le_of_ble_eq_true rfl) rfl ?_
  refine aw_if_eq 21 8 d_M_hears_5 (by decide) rfl (fun c5 => ?_) (fun c5 => ?_)
  · have h := (if_pos c5).symm.trans h
    refine aw_iconst (v := (-1 : Int32)) 22 d_M_hears_21 rfl (by decide) ?_
    cases h
    exact aw_ireturn d_M_hears_22 rfl rfl
  · have h := (if_neg c5).symm.trans h
    refine aw_aload_n 9 d_M_hears_8 rfl rfl ?_
    refine aw_iload_n 10 d_M_hears_9 rfl rfl ?_
    obtain ⟨y10, h10, h⟩ := bnd h
    refine aw_invV (rest := []) (st' := [.int y10]) (As := [.int x2]) 13 d_M_hears_10 rfl lv_M_282 (m_M_isSinger h10) (by decide) (k_M_isSinger h10) rfl rfl rfl (Nat.le_of_ble_eq_true rfl) rfl ?_
    refine aw_if_eq 21 16 d_M_hears_13 (by decide) rfl (fun c13 => ?_) (fun c13 => ?_)
    · have h := (if_pos c13).symm.trans h
      refine aw_iconst (v := (-1 : Int32)) 22 d_M_hears_21 rfl (by decide) ?_
      cases h
      exact aw_ireturn d_M_hears_22 rfl rfl
    · have h := (if_neg c13).symm.trans h
      refine aw_iload_n 17 d_M_hears_16 rfl rfl ?_
      refine aw_iload_n 18 d_M_hears_17 rfl rfl ?_
      refine aw_icmp_ne 23 21 d_M_hears_18 (by decide) rfl (fun c18 => ?_) (fun c18 => ?_)
      · have h := (if_neg c18).symm.trans h
        refine aw_aload_n 24 d_M_hears_23 rfl rfl ?_
        obtain ⟨μ24, h24, h⟩ := bnd h
        refine aw_invV (rest := []) (st' := []) (As := []) 27 d_M_hears_24 rfl lv_M_506 (m_M_readies h24) (by decide) (k_M_readies h24) rfl rfl rfl (Nat.le_of_ble_eq_true rfl) rfl ?_
        refine aw_aload_n 28 d_M_hears_27 rfl rfl ?_
        refine aw_iload_n 29 d_M_hears_28 rfl rfl ?_
        refine aw_iload_n 30 d_M_hears_29 rfl rfl ?_
        obtain ⟨y30, h30, h⟩ := bnd h
        refine aw_invV (rest := []) (st' := [.int y30]) (As := [.int x1, .int x2]) 33 d_M_hears_30 rfl lv_M_465 (m_M_hearsOf h30) (by decide) (k_M_hearsOf h30) rfl rfl rfl (Nat.le_of_ble_eq_true rfl) rfl ?_
        cases h
        exact aw_ireturn d_M_hears_33 rfl rfl
      · have h := (if_pos c18).symm.trans h
        refine aw_iconst (v := (-1 : Int32)) 22 d_M_hears_21 rfl (by decide) ?_
        cases h
        exact aw_ireturn d_M_hears_22 rfl rfl
theorem k_M_hears {q : Int32 × MM} {a0 : Nat} {x1 : Int32} {x2 : Int32} {μ : MM} (h : f_M_hears a0 x1 x2 μ = some q) : μ.1[a0]? = some (0, 1) := by
  unfold f_M_hears at h
  obtain ⟨_, h1, _⟩ := bnd h
  exact kO_some h1
theorem m_St_swap {l : Launch} {q : MM} {a0 : Nat} {x1 : Int32} {x2 : Int32} {μ : MM} (h : f_St_swap a0 x1 x2 μ = some q) : AMet l 1 Y_St_swap [.ref a0, .int x1, .int x2] μ none q := by
  refine AMet.of (loc := [some (.ref a0), some (.int x1), some (.int x2), none]) pn_St_swap (Nat.le_of_ble_eq_true rfl) rfl ?_
  unfold f_St_swap at h
  obtain ⟨_, hk, h⟩ := bnd h
  refine aw_aload_n 1 d_St_swap_0 rfl rfl ?_
  obtain ⟨y1, h1, h⟩ := bnd h
  refine aw_getR 4 d_St_swap_1 rfl fg_St_9 rfl h1 ?_
  refine aw_iload_n 5 d_St_swap_4 rfl rfl ?_
  obtain ⟨y5, h5, h⟩ := bnd h
  refine aw_iald 6 d_St_swap_5 rfl h5 ?_
  refine aw_istore_n (loc' := [some (.ref a0), some (.int x1), some (.int x2), some (.int y5)]) 7 d_St_swap_6 rfl (by decide) rfl ?_
  refine aw_aload_n 8 d_St_swap_7 rfl rfl ?_
  obtain ⟨y8, h8, h⟩ := bnd h
  refine aw_getR 11 d_St_swap_8 rfl fg_St_9 rfl h8 ?_
  refine aw_iload_n 12 d_St_swap_11 rfl rfl ?_
  refine aw_aload_n 13 d_St_swap_12 rfl rfl ?_
  obtain ⟨y13, h13, h⟩ := bnd h
  refine aw_getR 16 d_St_swap_13 rfl fg_St_9 rfl h13 ?_
  refine aw_iload_n 17 d_St_swap_16 rfl rfl ?_
  obtain ⟨y17, h17, h⟩ := bnd h
  refine aw_iald 18 d_St_swap_17 rfl h17 ?_
  obtain ⟨μ18, h18, h⟩ := bnd h
  refine aw_iast 19 d_St_swap_18 rfl h18 ?_
  refine aw_aload_n 20 d_St_swap_19 rfl rfl ?_
  obtain ⟨y20, h20, h⟩ := bnd h
  refine aw_getR 23 d_St_swap_20 rfl fg_St_9 rfl h20 ?_
  refine aw_iload_n 24 d_St_swap_23 rfl rfl ?_
  refine aw_iload_n 25 d_St_swap_24 rfl rfl ?_
  obtain ⟨μ25, h25, h⟩ := bnd h
  refine aw_iast 26 d_St_swap_25 rfl h25 ?_
  cases h
  exact aw_return d_St_swap_26 rfl
theorem k_St_swap {q : MM} {a0 : Nat} {x1 : Int32} {x2 : Int32} {μ : MM} (h : f_St_swap a0 x1 x2 μ = some q) : μ.1[a0]? = some (0, 10) := by
  unfold f_St_swap at h
  obtain ⟨_, h1, _⟩ := bnd h
  exact kO_some h1
theorem l_St_sort_15 {l : Launch} {μ0 : MM} {q : MM} {a0 : Nat} {x1 : Int32} {x2 : Int32} {k2 : Int32 → MM → Option (MM)} (hk2 : ∀ (x2 : Int32) (μ : MM), k2 x2 μ = some q → AWm l Y_St_sort 2 μ0 none q 2 [some (.ref a0), some (.int x1), some (.int x2), none] [] μ) : ∀ (n : Nat) (x3 : Int32) (μ : MM), f_St_sort_L15 k2 a0 x1 x2 n x3 μ = some q → AWm l Y_St_sort 2 μ0 none q 15 [some (.ref a0), some (.int x1), some (.int x2), some (.int x3)] [] μ := by
  intro n
  induction n with
  | zero =>
    intro x3 μ h
    have h : (none : Option (MM)) = some q := h
    cases h
  | succ n ih =>
    intro x3 μ h
    rw [f_St_sort_L15] at h
    refine aw_iload_n 16 d_St_sort_15 rfl rfl ?_
    refine aw_iload_n 17 d_St_sort_16 rfl rfl ?_
    refine aw_icmp_le 51 20 d_St_sort_17 (by decide) rfl (fun c17 => ?_) (fun c17 => ?_)
    · have h := (if_pos c17).symm.trans h
      refine aw_iinc (v := (x2 + (1 : Int32))) (loc' := [some (.ref a0), some (.int x1), some (.int (x2 + (1 : Int32))), some (.int x3)]) 54 d_St_sort_51 rfl (by decide) rfl rfl rfl ?_
      refine aw_goto 2 d_St_sort_54 (by decide) ?_
      exact AW.wk [true, true, true, false] rfl (hk2 (x2 + (1 : Int32)) μ h)
    · have h := (if_neg c17).symm.trans h
      refine aw_aload_n 21 d_St_sort_20 rfl rfl ?_
      obtain ⟨y21, h21, h⟩ := bnd h
      refine aw_getR 24 d_St_sort_21 rfl fg_St_9 rfl h21 ?_
      refine aw_iload_n 25 d_St_sort_24 rfl rfl ?_
      obtain ⟨y25, h25, h⟩ := bnd h
      refine aw_iald 26 d_St_sort_25 rfl h25 ?_
      refine aw_aload_n 27 d_St_sort_26 rfl rfl ?_
      obtain ⟨y27, h27, h⟩ := bnd h
      refine aw_getR 30 d_St_sort_27 rfl fg_St_9 rfl h27 ?_
      refine aw_iload_n 31 d_St_sort_30 rfl rfl ?_
      refine aw_iconst (v := (1 : Int32)) 32 d_St_sort_31 rfl (by decide) ?_
      refine aw_isub 33 d_St_sort_32 rfl ?_
      obtain ⟨y33, h33, h⟩ := bnd h
      refine aw_iald 34 d_St_sort_33 rfl h33 ?_
      refine aw_icmp_ge 51 37 d_St_sort_34 (by decide) rfl (fun c34 => ?_) (fun c34 => ?_)
      · have h := (if_pos c34).symm.trans h
        refine aw_iinc (v := (x2 + (1 : Int32))) (loc' := [some (.ref a0), some (.int x1), some (.int (x2 + (1 : Int32))), some (.int x3)]) 54 d_St_sort_51 rfl (by decide) rfl rfl rfl ?_
        refine aw_goto 2 d_St_sort_54 (by decide) ?_
        exact AW.wk [true, true, true, false] rfl (hk2 (x2 + (1 : Int32)) μ h)
      · have h := (if_neg c34).symm.trans h
        refine aw_aload_n 38 d_St_sort_37 rfl rfl ?_
        refine aw_iload_n 39 d_St_sort_38 rfl rfl ?_
        refine aw_iload_n 40 d_St_sort_39 rfl rfl ?_
        refine aw_iconst (v := (1 : Int32)) 41 d_St_sort_40 rfl (by decide) ?_
        refine aw_isub 42 d_St_sort_41 rfl ?_
        obtain ⟨μ42, h42, h⟩ := bnd h
        refine aw_invV (rest := []) (st' := []) (As := [.int x3, .int (x3 - (1 : Int32))]) 45 d_St_sort_42 rfl lv_St_78 (m_St_swap h42) (by decide) (k_St_swap h42) rfl rfl rfl (Nat.le_of_ble_eq_true rfl) rfl ?_
        refine aw_iinc (v := (x3 + (-1 : Int32))) (loc' := [some (.ref a0), some (.int x1), some (.int x2), some (.int (x3 + (-1 : Int32)))]) 48 d_St_sort_45 rfl (by decide) rfl rfl rfl ?_
        refine aw_goto 15 d_St_sort_48 (by decide) ?_
        exact (ih (x3 + (-1 : Int32)) μ42 h)
theorem l_St_sort_2 {l : Launch} {μ0 : MM} {q : MM} {a0 : Nat} {x1 : Int32} : ∀ (n : Nat) (x2 : Int32) (μ : MM), f_St_sort_L2 a0 x1 n x2 μ = some q → AWm l Y_St_sort 2 μ0 none q 2 [some (.ref a0), some (.int x1), some (.int x2), none] [] μ := by
  intro n
  induction n with
  | zero =>
    intro x2 μ h
    have h : (none : Option (MM)) = some q := h
    cases h
  | succ n ih =>
    intro x2 μ h
    rw [f_St_sort_L2] at h
    refine aw_iload_n 3 d_St_sort_2 rfl rfl ?_
    refine aw_aload_n 4 d_St_sort_3 rfl rfl ?_
    obtain ⟨y4, h4, h⟩ := bnd h
    refine aw_getR 7 d_St_sort_4 rfl fg_St_18 rfl h4 ?_
    obtain ⟨y7, h7, h⟩ := bnd h
    refine aw_getI 10 d_St_sort_7 rfl fg_St_75 (Or.inl rfl) h7 ?_
    refine aw_icmp_ge 57 13 d_St_sort_10 (by decide) rfl (fun c10 => ?_) (fun c10 => ?_)
    · have h := (if_pos c10).symm.trans h
      cases h
      exact aw_return d_St_sort_57 rfl
    · have h := (if_neg c10).symm.trans h
      refine aw_iload_n 14 d_St_sort_13 rfl rfl ?_
      refine aw_istore_n (loc' := [some (.ref a0), some (.int x1), some (.int x2), some (.int x2)]) 15 d_St_sort_14 rfl (by decide) rfl ?_
      exact (l_St_sort_15 ih FU _ _ h)
theorem m_St_sort {l : Launch} {q : MM} {a0 : Nat} {x1 : Int32} {μ : MM} (h : f_St_sort a0 x1 μ = some q) : AMet l 2 Y_St_sort [.ref a0, .int x1] μ none q := by
  refine AMet.of (loc := [some (.ref a0), some (.int x1), none, none]) pn_St_sort (Nat.le_of_ble_eq_true rfl) rfl ?_
  unfold f_St_sort at h
  obtain ⟨_, hk, h⟩ := bnd h
  refine aw_iload_n 1 d_St_sort_0 rfl rfl ?_
  refine aw_istore_n (loc' := [some (.ref a0), some (.int x1), some (.int x1), none]) 2 d_St_sort_1 rfl (by decide) rfl ?_
  exact (l_St_sort_2 FU _ _ h)
theorem k_St_sort {q : MM} {a0 : Nat} {x1 : Int32} {μ : MM} (h : f_St_sort a0 x1 μ = some q) : μ.1[a0]? = some (0, 10) := by
  unfold f_St_sort at h
  obtain ⟨_, h1, _⟩ := bnd h
  exact kO_some h1
theorem j_St_next_81 {l : Launch} {μ0 : MM} {q : Int32 × MM} {a0 : Nat} {x1 : Int32} {x2 : Int32} {μ : MM} (h : f_St_next_J81 a0 x1 x2 μ = some q) : AWm l Y_St_next 3 μ0 (some (.int q.1)) q.2 81 [some (.ref a0), some (.int x1), some (.int x2)] [] μ := by
  unfold f_St_next_J81 at h
  refine aw_aload_n 82 d_St_next_81 rfl rfl ?_
  refine aw_iload_n 83 d_St_next_82 rfl rfl ?_
  refine aw_iload_n 84 d_St_next_83 rfl rfl ?_
  obtain ⟨μ84, h84, h⟩ := bnd h
  refine aw_invV (rest := []) (st' := []) (As := [.int x1, .int x2]) 87 d_St_next_84 rfl lv_St_78 (m_St_swap h84) (by decide) (k_St_swap h84) rfl rfl rfl (Nat.le_of_ble_eq_true rfl) rfl ?_
  refine aw_aload_n 88 d_St_next_87 rfl rfl ?_
  refine aw_iload_n 89 d_St_next_88 rfl rfl ?_
  refine aw_iconst (v := (1 : Int32)) 90 d_St_next_89 rfl (by decide) ?_
  refine aw_iadd 91 d_St_next_90 rfl ?_
  obtain ⟨μ91, h91, h⟩ := bnd h
  refine aw_invV (rest := []) (st' := []) (As := [.int (x1 + (1 : Int32))]) 94 d_St_next_91 rfl lv_St_39 (m_St_sort h91) (by decide) (k_St_sort h91) rfl rfl rfl (Nat.le_of_ble_eq_true rfl) rfl ?_
  refine aw_iconst (v := (1 : Int32)) 95 d_St_next_94 rfl (by decide) ?_
  cases h
  exact aw_ireturn d_St_next_95 rfl nar1
theorem l_St_next_53 {l : Launch} {μ0 : MM} {q : Int32 × MM} {a0 : Nat} {x1 : Int32} {μ : MM} : ∀ (n : Nat) (x2 : Int32), f_St_next_L53 a0 x1 μ n x2 = some q → AWm l Y_St_next 3 μ0 (some (.int q.1)) q.2 53 [some (.ref a0), some (.int x1), some (.int x2)] [] μ := by
  intro n
  induction n with
  | zero =>
    intro x2 h
    have h : (none : Option (Int32 × MM)) = some q := h
    cases h
  | succ n ih =>
    intro x2 h
    rw [f_St_next_L53] at h
    refine aw_iload_n 54 d_St_next_53 rfl rfl ?_
    refine aw_iload_n 55 d_St_next_54 rfl rfl ?_
    refine aw_iconst (v := (1 : Int32)) 56 d_St_next_55 rfl (by decide) ?_
    refine aw_iadd 57 d_St_next_56 rfl ?_
    refine aw_icmp_le 81 60 d_St_next_57 (by decide) rfl (fun c57 => ?_) (fun c57 => ?_)
    · have h := (if_pos c57).symm.trans h
      exact (j_St_next_81 h)
    · have h := (if_neg c57).symm.trans h
      refine aw_aload_n 61 d_St_next_60 rfl rfl ?_
      obtain ⟨y61, h61, h⟩ := bnd h
      refine aw_getR 64 d_St_next_61 rfl fg_St_9 rfl h61 ?_
      refine aw_iload_n 65 d_St_next_64 rfl rfl ?_
      obtain ⟨y65, h65, h⟩ := bnd h
      refine aw_iald 66 d_St_next_65 rfl h65 ?_
      refine aw_aload_n 67 d_St_next_66 rfl rfl ?_
      obtain ⟨y67, h67, h⟩ := bnd h
      refine aw_getR 70 d_St_next_67 rfl fg_St_9 rfl h67 ?_
      refine aw_iload_n 71 d_St_next_70 rfl rfl ?_
      obtain ⟨y71, h71, h⟩ := bnd h
      refine aw_iald 72 d_St_next_71 rfl h71 ?_
      refine aw_icmp_gt 81 75 d_St_next_72 (by decide) rfl (fun c72 => ?_) (fun c72 => ?_)
      · have h := (if_pos c72).symm.trans h
        exact (j_St_next_81 h)
      · have h := (if_neg c72).symm.trans h
        refine aw_iinc (v := (x2 + (-1 : Int32))) (loc' := [some (.ref a0), some (.int x1), some (.int (x2 + (-1 : Int32)))]) 78 d_St_next_75 rfl (by decide) rfl rfl rfl ?_
        refine aw_goto 53 d_St_next_78 (by decide) ?_
        exact (ih (x2 + (-1 : Int32)) h)
theorem j_St_next_37 {l : Launch} {μ0 : MM} {q : Int32 × MM} {a0 : Nat} {x1 : Int32} {μ : MM} (h : f_St_next_J37 a0 x1 μ = some q) : AWm l Y_St_next 3 μ0 (some (.int q.1)) q.2 37 [some (.ref a0), some (.int x1), none] [] μ := by
  unfold f_St_next_J37 at h
  refine aw_iload_n 38 d_St_next_37 rfl rfl ?_
  refine aw_if_ge 43 41 d_St_next_38 (by decide) rfl (fun c38 => ?_) (fun c38 => ?_)
  · have h := (if_pos c38).symm.trans h
    refine aw_aload_n 44 d_St_next_43 rfl rfl ?_
    obtain ⟨y44, h44, h⟩ := bnd h
    refine aw_getR 47 d_St_next_44 rfl fg_St_18 rfl h44 ?_
    obtain ⟨y47, h47, h⟩ := bnd h
    refine aw_getI 50 d_St_next_47 rfl fg_St_75 (Or.inl rfl) h47 ?_
    refine aw_iconst (v := (1 : Int32)) 51 d_St_next_50 rfl (by decide) ?_
    refine aw_isub 52 d_St_next_51 rfl ?_
    refine aw_istore_n (loc' := [some (.ref a0), some (.int x1), some (.int (y47 - (1 : Int32)))]) 53 d_St_next_52 rfl (by decide) rfl ?_
    exact (l_St_next_53 FU _ h)
  · have h := (if_neg c38).symm.trans h
    refine aw_iconst (v := (0 : Int32)) 42 d_St_next_41 rfl (by decide) ?_
    cases h
    exact aw_ireturn d_St_next_42 rfl nar0
theorem l_St_next_10 {l : Launch} {μ0 : MM} {q : Int32 × MM} {a0 : Nat} {μ : MM} : ∀ (n : Nat) (x1 : Int32), f_St_next_L10 a0 μ n x1 = some q → AWm l Y_St_next 3 μ0 (some (.int q.1)) q.2 10 [some (.ref a0), some (.int x1), none] [] μ := by
  intro n
  induction n with
  | zero =>
    intro x1 h
    have h : (none : Option (Int32 × MM)) = some q := h
    cases h
  | succ n ih =>
    intro x1 h
    rw [f_St_next_L10] at h
    refine aw_iload_n 11 d_St_next_10 rfl rfl ?_
    refine aw_if_lt 37 14 d_St_next_11 (by decide) rfl (fun c11 => ?_) (fun c11 => ?_)
    · have h := (if_pos c11).symm.trans h
      exact (j_St_next_37 h)
    · have h := (if_neg c11).symm.trans h
      refine aw_aload_n 15 d_St_next_14 rfl rfl ?_
      obtain ⟨y15, h15, h⟩ := bnd h
      refine aw_getR 18 d_St_next_15 rfl fg_St_9 rfl h15 ?_
      refine aw_iload_n 19 d_St_next_18 rfl rfl ?_
      obtain ⟨y19, h19, h⟩ := bnd h
      refine aw_iald 20 d_St_next_19 rfl h19 ?_
      refine aw_aload_n 21 d_St_next_20 rfl rfl ?_
      obtain ⟨y21, h21, h⟩ := bnd h
      refine aw_getR 24 d_St_next_21 rfl fg_St_9 rfl h21 ?_
      refine aw_iload_n 25 d_St_next_24 rfl rfl ?_
      refine aw_iconst (v := (1 : Int32)) 26 d_St_next_25 rfl (by decide) ?_
      refine aw_iadd 27 d_St_next_26 rfl ?_
      obtain ⟨y27, h27, h⟩ := bnd h
      refine aw_iald 28 d_St_next_27 rfl h27 ?_
      refine aw_icmp_lt 37 31 d_St_next_28 (by decide) rfl (fun c28 => ?_) (fun c28 => ?_)
      · have h := (if_pos c28).symm.trans h
        exact (j_St_next_37 h)
      · have h := (if_neg c28).symm.trans h
        refine aw_iinc (v := (x1 + (-1 : Int32))) (loc' := [some (.ref a0), some (.int (x1 + (-1 : Int32))), none]) 34 d_St_next_31 rfl (by decide) rfl rfl rfl ?_
        refine aw_goto 10 d_St_next_34 (by decide) ?_
        exact (ih (x1 + (-1 : Int32)) h)
theorem m_St_next {l : Launch} {q : Int32 × MM} {a0 : Nat} {μ : MM} (h : f_St_next a0 μ = some q) : AMet l 3 Y_St_next [.ref a0] μ (some (.int q.1)) q.2 := by
  refine AMet.of (loc := [some (.ref a0), none, none]) pn_St_next (Nat.le_of_ble_eq_true rfl) rfl ?_
  unfold f_St_next at h
  obtain ⟨_, hk, h⟩ := bnd h
  refine aw_aload_n 1 d_St_next_0 rfl rfl ?_
  obtain ⟨y1, h1, h⟩ := bnd h
  refine aw_getR 4 d_St_next_1 rfl fg_St_18 rfl h1 ?_
  obtain ⟨y4, h4, h⟩ := bnd h
  refine aw_getI 7 d_St_next_4 rfl fg_St_75 (Or.inl rfl) h4 ?_
  refine aw_iconst (v := (2 : Int32)) 8 d_St_next_7 rfl (by decide) ?_
  refine aw_isub 9 d_St_next_8 rfl ?_
  refine aw_istore_n (loc' := [some (.ref a0), some (.int (y4 - (2 : Int32))), none]) 10 d_St_next_9 rfl (by decide) rfl ?_
  exact (l_St_next_10 FU _ h)
theorem k_St_next {q : Int32 × MM} {a0 : Nat} {μ : MM} (h : f_St_next a0 μ = some q) : μ.1[a0]? = some (0, 10) := by
  unfold f_St_next at h
  obtain ⟨_, h1, _⟩ := bnd h
  exact kO_some h1
theorem j_St_find_161 {l : Launch} {μ0 : MM} {q : MM} {a0 : Nat} {x3 : Int32} {μ : MM} {k41 : Int32 → Int32 → MM → Option (MM)} (hk41 : ∀ (x2 : Int32) (x3 : Int32) (μ : MM), k41 x2 x3 μ = some q → AWm l Y_St_find 7 μ0 none q 41 [some (.ref a0), none, some (.int x2), some (.int x3), none, none, none, none] [] μ) (h : f_St_find_J161 k41 a0 x3 μ = some q) : AWm l Y_St_find 7 μ0 none q 161 [some (.ref a0), none, none, some (.int x3), none, none, none, none] [] μ := by
  unfold f_St_find_J161 at h
  refine aw_aload_n 162 d_St_find_161 rfl rfl ?_
  obtain ⟨q162, h162, h⟩ := bnd h
  refine aw_invV (rest := []) (st' := [.int q162.1]) (As := []) 165 d_St_find_162 rfl lv_St_71 (m_St_next h162) (by decide) (k_St_next h162) rfl rfl rfl (Nat.le_of_ble_eq_true rfl) rfl ?_
  refine aw_istore_n (loc' := [some (.ref a0), none, some (.int q162.1), some (.int x3), none, none, none, none]) 166 d_St_find_165 rfl (by decide) rfl ?_
  refine aw_iinc (v := (x3 + (1 : Int32))) (loc' := [some (.ref a0), none, some (.int q162.1), some (.int (x3 + (1 : Int32))), none, none, none, none]) 169 d_St_find_166 rfl (by decide) rfl rfl rfl ?_
  refine aw_goto 41 d_St_find_169 (by decide) ?_
  exact (hk41 q162.1 (x3 + (1 : Int32)) q162.2 h)
theorem j_St_find_129 {l : Launch} {μ0 : MM} {q : MM} {a0 : Nat} {x3 : Int32} {x4 : Int64} {μ : MM} {k41 : Int32 → Int32 → MM → Option (MM)} (hk41 : ∀ (x2 : Int32) (x3 : Int32) (μ : MM), k41 x2 x3 μ = some q → AWm l Y_St_find 7 μ0 none q 41 [some (.ref a0), none, some (.int x2), some (.int x3), none, none, none, none] [] μ) (h : f_St_find_J129 k41 a0 x3 x4 μ = some q) : AWm l Y_St_find 7 μ0 none q 129 [some (.ref a0), none, none, some (.int x3), some (.long x4), none, none, none] [] μ := by
  unfold f_St_find_J129 at h
  refine aw_aload_n 130 d_St_find_129 rfl rfl ?_
  refine aw_lload 132 d_St_find_130 rfl rfl ?_
  obtain ⟨μ132, h132, h⟩ := bnd h
  refine aw_putL 135 false d_St_find_132 rfl fp_St_62 (fun z => nomatch z) rfl h132 ?_
  refine aw_aload_n 136 d_St_find_135 rfl rfl ?_
  refine aw_aload_n 137 d_St_find_136 rfl rfl ?_
  obtain ⟨y137, h137, h⟩ := bnd h
  refine aw_getR 140 d_St_find_137 rfl fg_St_22 rfl h137 ?_
  obtain ⟨y140, h140, h⟩ := bnd h
  refine aw_invV (rest := [.ref a0]) (st' := [.long y140, .ref a0]) (As := []) 143 d_St_find_140 rfl lv_St_65 (m_Si_foulTogether h140) (by decide) (k_Si_foulTogether h140) rfl rfl rfl (Nat.le_of_ble_eq_true rfl) rfl ?_
  obtain ⟨μ143, h143, h⟩ := bnd h
  refine aw_putL 146 false d_St_find_143 rfl fp_St_68 (fun z => nomatch z) rfl h143 ?_
  refine aw_aload_n 147 d_St_find_146 rfl rfl ?_
  obtain ⟨y147, h147, h⟩ := bnd h
  refine aw_getR 150 d_St_find_147 rfl fg_St_9 rfl h147 ?_
  refine aw_iconst (v := (0 : Int32)) 151 d_St_find_150 rfl (by decide) ?_
  refine aw_aload_n 152 d_St_find_151 rfl rfl ?_
  obtain ⟨y152, h152, h⟩ := bnd h
  refine aw_getR 155 d_St_find_152 rfl fg_St_15 rfl h152 ?_
  refine aw_iconst (v := (0 : Int32)) 156 d_St_find_155 rfl (by decide) ?_
  refine aw_bipush (v := (8 : Int32)) 158 d_St_find_156 rfl (by decide) ?_
  obtain ⟨μ158, h158, h⟩ := bnd h
  refine aw_copy 161 d_St_find_158 rfl cp_St_33 (Nat.le_of_ble_eq_true rfl) (Nat.le_of_ble_eq_true rfl) h158 ?_
  exact AW.wk [true, true, true, true, false, true, true, true] rfl (j_St_find_161 hk41 h)
theorem l_St_find_41 {l : Launch} {μ0 : MM} {q : MM} {a0 : Nat} : ∀ (n : Nat) (x2 : Int32) (x3 : Int32) (μ : MM), f_St_find_L41 a0 n x2 x3 μ = some q → AWm l Y_St_find 7 μ0 none q 41 [some (.ref a0), none, some (.int x2), some (.int x3), none, none, none, none] [] μ := by
  intro n
  induction n with
  | zero =>
    intro x2 x3 μ h
    have h : (none : Option (MM)) = some q := h
    cases h
  | succ n ih =>
    intro x2 x3 μ h
    rw [f_St_find_L41] at h
    refine aw_iload_n 42 d_St_find_41 rfl rfl ?_
    refine aw_sipush (v := (720 : Int32)) 45 d_St_find_42 rfl (by decide) ?_
    refine aw_icmp_ge 172 48 d_St_find_45 (by decide) rfl (fun c45 => ?_) (fun c45 => ?_)
    · have h := (if_pos c45).symm.trans h
      cases h
      exact aw_return d_St_find_172 rfl
    · have h := (if_neg c45).symm.trans h
      refine aw_iload_n 49 d_St_find_48 rfl rfl ?_
      refine aw_if_eq 172 52 d_St_find_49 (by decide) rfl (fun c49 => ?_) (fun c49 => ?_)
      · have h := (if_pos c49).symm.trans h
        cases h
        exact aw_return d_St_find_172 rfl
      · have h := (if_neg c49).symm.trans h
        refine aw_aload_n 53 d_St_find_52 rfl rfl ?_
        obtain ⟨y53, h53, h⟩ := bnd h
        refine aw_getR 56 d_St_find_53 rfl fg_St_22 rfl h53 ?_
        refine aw_aload_n 57 d_St_find_56 rfl rfl ?_
        obtain ⟨y57, h57, h⟩ := bnd h
        refine aw_getR 60 d_St_find_57 rfl fg_St_9 rfl h57 ?_
        refine aw_aload_n 61 d_St_find_60 rfl rfl ?_
        obtain ⟨y61, h61, h⟩ := bnd h
        refine aw_getR 64 d_St_find_61 rfl fg_St_18 rfl h61 ?_
        obtain ⟨y64, h64, h⟩ := bnd h
        refine aw_getI 67 d_St_find_64 rfl fg_St_43 (Or.inl rfl) h64 ?_
        refine aw_iconst (v := (0 : Int32)) 68 d_St_find_67 rfl (by decide) ?_
        refine aw_iconst (v := (0 : Int32)) 69 d_St_find_68 rfl (by decide) ?_
        obtain ⟨μ69, h69, h⟩ := bnd h
        refine aw_invV (rest := []) (st' := []) (As := [.ref y57, .int y64, .int (0 : Int32), .int (0 : Int32)]) 72 d_St_find_69 rfl lv_St_46 (m_Si_sing h69) (by decide) (k_Si_sing h69) rfl rfl rfl (Nat.le_of_ble_eq_true rfl) rfl ?_
        refine aw_aload_n 73 d_St_find_72 rfl rfl ?_
        obtain ⟨y73, h73, h⟩ := bnd h
        refine aw_getR 76 d_St_find_73 rfl fg_St_22 rfl h73 ?_
        obtain ⟨y76, h76, h⟩ := bnd h
        refine aw_invV (rest := []) (st' := [.long y76]) (As := []) 79 d_St_find_76 rfl lv_St_52 (m_Si_sinking h76) (by decide) (k_Si_sinking h76) rfl rfl rfl (Nat.le_of_ble_eq_true rfl) rfl ?_
        refine aw_lstore (loc' := [some (.ref a0), none, some (.int x2), some (.int x3), some (.long y76), none, none, none]) 81 d_St_find_79 rfl (by decide) rfl ?_
        refine aw_lload 83 d_St_find_81 rfl rfl ?_
        obtain ⟨y83, h83, h⟩ := bnd h
        refine aw_invS (rest := []) (st' := [.long y83]) (As := [.long y76]) 86 d_St_find_83 rfl ls_St_56 (m_Mt_abs_J h83) (by decide) rfl rfl (Nat.le_of_ble_eq_true rfl) rfl ?_
        refine aw_aload_n 87 d_St_find_86 rfl rfl ?_
        obtain ⟨y87, h87, h⟩ := bnd h
        refine aw_getL 90 d_St_find_87 rfl fg_St_62 rfl h87 ?_
        obtain ⟨y90, h90, h⟩ := bnd h
        refine aw_invS (rest := [.long y83]) (st' := [.long y90, .long y83]) (As := [.long y87]) 93 d_St_find_90 rfl ls_St_56 (m_Mt_abs_J h90) (by decide) rfl rfl (Nat.le_of_ble_eq_true rfl) rfl ?_
        refine aw_lsub 94 d_St_find_93 rfl ?_
        refine aw_lstore (loc' := [some (.ref a0), none, some (.int x2), some (.int x3), some (.long y76), none, some (.long (y83 - y90)), none]) 96 d_St_find_94 rfl (by decide) rfl ?_
        refine aw_iload_n 97 d_St_find_96 rfl rfl ?_
        refine aw_if_eq 129 100 d_St_find_97 (by decide) rfl (fun c97 => ?_) (fun c97 => ?_)
        · have h := (if_pos c97).symm.trans h
          exact AW.wk [true, true, false, true, true, true, false, true] rfl (j_St_find_129 ih h)
        · have h := (if_neg c97).symm.trans h
          refine aw_lload 102 d_St_find_100 rfl rfl ?_
          refine aw_lconst (v := (0 : Int64)) 103 d_St_find_102 rfl (by decide) ?_
          refine aw_lcmp 104 d_St_find_103 rfl ?_
          refine aw_if_lt 129 107 d_St_find_104 (by decide) rfl (fun c104 => ?_) (fun c104 => ?_)
          · have h := (if_pos c104).symm.trans h
            exact AW.wk [true, true, false, true, true, true, false, true] rfl (j_St_find_129 ih h)
          · have h := (if_neg c104).symm.trans h
            refine aw_lload 109 d_St_find_107 rfl rfl ?_
            refine aw_lconst (v := (0 : Int64)) 110 d_St_find_109 rfl (by decide) ?_
            refine aw_lcmp 111 d_St_find_110 rfl ?_
            refine aw_if_ne 161 114 d_St_find_111 (by decide) rfl (fun c111 => ?_) (fun c111 => ?_)
            · have h := (if_neg c111).symm.trans h
              exact AW.wk [true, true, false, true, false, true, false, true] rfl (j_St_find_161 ih h)
            · have h := (if_pos c111).symm.trans h
              refine aw_aload_n 115 d_St_find_114 rfl rfl ?_
              obtain ⟨y115, h115, h⟩ := bnd h
              refine aw_getR 118 d_St_find_115 rfl fg_St_22 rfl h115 ?_
              obtain ⟨y118, h118, h⟩ := bnd h
              refine aw_invV (rest := []) (st' := [.long y118]) (As := []) 121 d_St_find_118 rfl lv_St_65 (m_Si_foulTogether h118) (by decide) (k_Si_foulTogether h118) rfl rfl rfl (Nat.le_of_ble_eq_true rfl) rfl ?_
              refine aw_aload_n 122 d_St_find_121 rfl rfl ?_
              obtain ⟨y122, h122, h⟩ := bnd h
              refine aw_getL 125 d_St_find_122 rfl fg_St_68 rfl h122 ?_
              refine aw_lcmp 126 d_St_find_125 rfl ?_
              refine aw_if_ge 161 129 d_St_find_126 (by decide) rfl (fun c126 => ?_) (fun c126 => ?_)
              · have h := (if_pos c126).symm.trans h
                exact AW.wk [true, true, false, true, false, true, false, true] rfl (j_St_find_161 ih h)
              · have h := (if_neg c126).symm.trans h
                exact AW.wk [true, true, false, true, true, true, false, true] rfl (j_St_find_129 ih h)
theorem m_St_find {l : Launch} {q : MM} {a0 : Nat} {x1 : Int32} {μ : MM} (h : f_St_find a0 x1 μ = some q) : AMet l 7 Y_St_find [.ref a0, .int x1] μ none q := by
  refine AMet.of (loc := [some (.ref a0), some (.int x1), none, none, none, none, none, none]) pn_St_find (Nat.le_of_ble_eq_true rfl) rfl ?_
  unfold f_St_find at h
  obtain ⟨_, hk, h⟩ := bnd h
  refine aw_aload_n 1 d_St_find_0 rfl rfl ?_
  obtain ⟨y1, h1, h⟩ := bnd h
  refine aw_getI 4 d_St_find_1 rfl fg_St_26 (Or.inl rfl) h1 ?_
  refine aw_iload_n 5 d_St_find_4 rfl rfl ?_
  refine aw_icmp_ne 9 8 d_St_find_5 (by decide) rfl (fun c5 => ?_) (fun c5 => ?_)
  · have h := (if_neg c5).symm.trans h
    refine aw_aload_n 10 d_St_find_9 rfl rfl ?_
    refine aw_iload_n 11 d_St_find_10 rfl rfl ?_
    obtain ⟨μ11, h11, h⟩ := bnd h
    refine aw_putI 14 false d_St_find_11 rfl fp_St_26 (fun z => nomatch z) rfl h11 ?_
    refine aw_aload_n 15 d_St_find_14 rfl rfl ?_
    obtain ⟨y15, h15, h⟩ := bnd h
    refine aw_getR 18 d_St_find_15 rfl fg_St_18 rfl h15 ?_
    obtain ⟨y18, h18, h⟩ := bnd h
    refine aw_getR 21 d_St_find_18 rfl fg_St_30 rfl h18 ?_
    refine aw_iconst (v := (0 : Int32)) 22 d_St_find_21 rfl (by decide) ?_
    refine aw_aload_n 23 d_St_find_22 rfl rfl ?_
    obtain ⟨y23, h23, h⟩ := bnd h
    refine aw_getR 26 d_St_find_23 rfl fg_St_9 rfl h23 ?_
    refine aw_iconst (v := (0 : Int32)) 27 d_St_find_26 rfl (by decide) ?_
    refine aw_bipush (v := (8 : Int32)) 29 d_St_find_27 rfl (by decide) ?_
    obtain ⟨μ29, h29, h⟩ := bnd h
    refine aw_copy 32 d_St_find_29 rfl cp_St_33 (Nat.le_of_ble_eq_true rfl) (Nat.le_of_ble_eq_true rfl) h29 ?_
    refine aw_aload_n 33 d_St_find_32 rfl rfl ?_
    refine aw_iconst (v := (0 : Int32)) 34 d_St_find_33 rfl (by decide) ?_
    obtain ⟨μ34, h34, h⟩ := bnd h
    refine aw_invV (rest := []) (st' := []) (As := [.int (0 : Int32)]) 37 d_St_find_34 rfl lv_St_39 (m_St_sort h34) (by decide) (k_St_sort h34) rfl rfl rfl (Nat.le_of_ble_eq_true rfl) rfl ?_
    refine aw_iconst (v := (1 : Int32)) 38 d_St_find_37 rfl (by decide) ?_
    refine aw_istore_n (loc' := [some (.ref a0), some (.int x1), some (.int (1 : Int32)), none, none, none, none, none]) 39 d_St_find_38 rfl (by decide) rfl ?_
    refine aw_iconst (v := (0 : Int32)) 40 d_St_find_39 rfl (by decide) ?_
    refine aw_istore_n (loc' := [some (.ref a0), some (.int x1), some (.int (1 : Int32)), some (.int (0 : Int32)), none, none, none, none]) 41 d_St_find_40 rfl (by decide) rfl ?_
    exact AW.wk [true, false, true, true, true, true, true, true] rfl (l_St_find_41 FU _ _ _ h)
  · have h := (if_pos c5).symm.trans h
    cases h
    exact aw_return d_St_find_8 rfl
theorem k_St_find {q : MM} {a0 : Nat} {x1 : Int32} {μ : MM} (h : f_St_find a0 x1 μ = some q) : μ.1[a0]? = some (0, 10) := by
  unfold f_St_find at h
  obtain ⟨_, h1, _⟩ := bnd h
  exact kO_some h1
theorem j_X_standing_43 {l : Launch} {μ0 : MM} {q : Int64 × MM} {μ : MM} (h : f_X_standing_J43 μ = some q) : AWm l Y_X_standing 8 μ0 (some (.long q.1)) q.2 43 [none, none, none] [] μ := by
  unfold f_X_standing_J43 at h
  refine aw_ldc2 (v := (-1000000000 : Int64)) 46 d_X_standing_43 rfl c_X_239 ?_
  cases h
  exact aw_lreturn d_X_standing_46 rfl
theorem j_X_standing_27 {l : Launch} {μ0 : MM} {q : Int64 × MM} {a0 : Nat} {x1 : Int32} {s0 : Int32} {μ : MM} (h : f_X_standing_J27 a0 x1 s0 μ = some q) : AWm l Y_X_standing 8 μ0 (some (.long q.1)) q.2 27 [some (.ref a0), some (.int x1), none] [.int s0] μ := by
  unfold f_X_standing_J27 at h
  refine aw_istore_n (loc' := [some (.ref a0), some (.int x1), some (.int s0)]) 28 d_X_standing_27 rfl (by decide) rfl ?_
  refine aw_iload_n 29 d_X_standing_28 rfl rfl ?_
  refine aw_if_eq 43 32 d_X_standing_29 (by decide) rfl (fun c29 => ?_) (fun c29 => ?_)
  · have h := (if_pos c29).symm.trans h
    exact AW.wk [false, false, false] rfl (j_X_standing_43 h)
  · have h := (if_neg c29).symm.trans h
    refine aw_aload_n 33 d_X_standing_32 rfl rfl ?_
    obtain ⟨y33, h33, h⟩ := bnd h
    refine aw_getR 36 d_X_standing_33 rfl fg_X_21 rfl h33 ?_
    obtain ⟨y36, h36, h⟩ := bnd h
    refine aw_invV (rest := []) (st' := [.int y36]) (As := []) 39 d_X_standing_36 rfl lv_X_254 (m_Ch_firstBeat h36) (by decide) (k_Ch_firstBeat h36) rfl rfl rfl (Nat.le_of_ble_eq_true rfl) rfl ?_
    refine aw_iconst (v := (-1 : Int32)) 40 d_X_standing_39 rfl (by decide) ?_
    refine aw_icmp_ne 47 43 d_X_standing_40 (by decide) rfl (fun c40 => ?_) (fun c40 => ?_)
    · have h := (if_neg c40).symm.trans h
      refine aw_aload_n 48 d_X_standing_47 rfl rfl ?_
      obtain ⟨y48, h48, h⟩ := bnd h
      refine aw_getR 51 d_X_standing_48 rfl fg_X_21 rfl h48 ?_
      obtain ⟨y51, h51, h⟩ := bnd h
      refine aw_getI 54 d_X_standing_51 rfl fg_X_163 (Or.inl rfl) h51 ?_
      refine aw_bipush (v := (6 : Int32)) 56 d_X_standing_54 rfl (by decide) ?_
      refine aw_icmp_le 63 59 d_X_standing_56 (by decide) rfl (fun c56 => ?_) (fun c56 => ?_)
      · have h := (if_pos c56).symm.trans h
        refine aw_aload_n 64 d_X_standing_63 rfl rfl ?_
        obtain ⟨y64, h64, h⟩ := bnd h
        refine aw_getR 67 d_X_standing_64 rfl fg_X_39 rfl h64 ?_
        refine aw_aload_n 68 d_X_standing_67 rfl rfl ?_
        obtain ⟨y68, h68, h⟩ := bnd h
        refine aw_getI 71 d_X_standing_68 rfl fg_X_274 (Or.inl rfl) h68 ?_
        obtain ⟨μ71, h71, h⟩ := bnd h
        refine aw_invV (rest := []) (st' := []) (As := [.int y68]) 74 d_X_standing_71 rfl lv_X_277 (m_St_find h71) (by decide) (k_St_find h71) rfl rfl rfl (Nat.le_of_ble_eq_true rfl) rfl ?_
        refine aw_iload_n 75 d_X_standing_74 rfl rfl ?_
        refine aw_iconst (v := (-1 : Int32)) 76 d_X_standing_75 rfl (by decide) ?_
        refine aw_icmp_ne 89 79 d_X_standing_76 (by decide) rfl (fun c76 => ?_) (fun c76 => ?_)
        · have h := (if_neg c76).symm.trans h
          refine aw_iload_n 90 d_X_standing_89 rfl rfl ?_
          refine aw_bipush (v := (8 : Int32)) 92 d_X_standing_90 rfl (by decide) ?_
          refine aw_icmp_ne 105 95 d_X_standing_92 (by decide) rfl (fun c92 => ?_) (fun c92 => ?_)
          · have h := (if_neg c92).symm.trans h
            refine aw_aload_n 106 d_X_standing_105 rfl rfl ?_
            obtain ⟨y106, h106, h⟩ := bnd h
            refine aw_getR 109 d_X_standing_106 rfl fg_X_39 rfl h106 ?_
            obtain ⟨y109, h109, h⟩ := bnd h
            refine aw_getR 112 d_X_standing_109 rfl fg_X_285 rfl h109 ?_
            refine aw_iload_n 113 d_X_standing_112 rfl rfl ?_
            obtain ⟨y113, h113, h⟩ := bnd h
            refine aw_iald 114 d_X_standing_113 rfl h113 ?_
            refine aw_i2l 115 d_X_standing_114 rfl ?_
            cases h
            exact aw_lreturn d_X_standing_115 rfl
          · have h := (if_pos c92).symm.trans h
            refine aw_aload_n 96 d_X_standing_95 rfl rfl ?_
            obtain ⟨y96, h96, h⟩ := bnd h
            refine aw_getR 99 d_X_standing_96 rfl fg_X_39 rfl h96 ?_
            obtain ⟨y99, h99, h⟩ := bnd h
            refine aw_getL 102 d_X_standing_99 rfl fg_X_283 rfl h99 ?_
            refine aw_goto 115 d_X_standing_102 (by decide) ?_
            cases h
            exact aw_lreturn d_X_standing_115 rfl
        · have h := (if_pos c76).symm.trans h
          refine aw_aload_n 80 d_X_standing_79 rfl rfl ?_
          obtain ⟨y80, h80, h⟩ := bnd h
          refine aw_getR 83 d_X_standing_80 rfl fg_X_39 rfl h80 ?_
          obtain ⟨y83, h83, h⟩ := bnd h
          refine aw_getL 86 d_X_standing_83 rfl fg_X_280 rfl h83 ?_
          refine aw_goto 115 d_X_standing_86 (by decide) ?_
          cases h
          exact aw_lreturn d_X_standing_115 rfl
      · have h := (if_neg c56).symm.trans h
        refine aw_ldc2 (v := (-2000000000 : Int64)) 62 d_X_standing_59 rfl c_X_272 ?_
        cases h
        exact aw_lreturn d_X_standing_62 rfl
    · have h := (if_pos c40).symm.trans h
      exact AW.wk [false, false, false] rfl (j_X_standing_43 h)
theorem j_X_standing_22 {l : Launch} {μ0 : MM} {q : Int64 × MM} {a0 : Nat} {x1 : Int32} {μ : MM} (h : f_X_standing_J22 a0 x1 μ = some q) : AWm l Y_X_standing 8 μ0 (some (.long q.1)) q.2 22 [some (.ref a0), some (.int x1), none] [] μ := by
  unfold f_X_standing_J22 at h
  refine aw_iconst (v := (1 : Int32)) 23 d_X_standing_22 rfl (by decide) ?_
  refine aw_goto 27 d_X_standing_23 (by decide) ?_
  exact (j_X_standing_27 h)
theorem m_X_standing {l : Launch} {q : Int64 × MM} {a0 : Nat} {x1 : Int32} {μ : MM} (h : f_X_standing a0 x1 μ = some q) : AMet l 8 Y_X_standing [.ref a0, .int x1] μ (some (.long q.1)) q.2 := by
  refine AMet.of (loc := [some (.ref a0), some (.int x1), none]) pn_X_standing (Nat.le_of_ble_eq_true rfl) rfl ?_
  unfold f_X_standing at h
  obtain ⟨_, hk, h⟩ := bnd h
  refine aw_iload_n 1 d_X_standing_0 rfl rfl ?_
  refine aw_iconst (v := (-1 : Int32)) 2 d_X_standing_1 rfl (by decide) ?_
  refine aw_icmp_eq 22 5 d_X_standing_2 (by decide) rfl (fun c2 => ?_) (fun c2 => ?_)
  · have h := (if_pos c2).symm.trans h
    exact (j_X_standing_22 h)
  · have h := (if_neg c2).symm.trans h
    refine aw_iload_n 6 d_X_standing_5 rfl rfl ?_
    refine aw_bipush (v := (8 : Int32)) 8 d_X_standing_6 rfl (by decide) ?_
    refine aw_icmp_eq 22 11 d_X_standing_8 (by decide) rfl (fun c8 => ?_) (fun c8 => ?_)
    · have h := (if_pos c8).symm.trans h
      exact (j_X_standing_22 h)
    · have h := (if_neg c8).symm.trans h
      refine aw_aload_n 12 d_X_standing_11 rfl rfl ?_
      obtain ⟨y12, h12, h⟩ := bnd h
      refine aw_getR 15 d_X_standing_12 rfl fg_X_21 rfl h12 ?_
      refine aw_iload_n 16 d_X_standing_15 rfl rfl ?_
      obtain ⟨y16, h16, h⟩ := bnd h
      refine aw_invV (rest := []) (st' := [.int y16]) (As := [.int x1]) 19 d_X_standing_16 rfl lv_X_179 (m_Ch_has h16) (by decide) (k_Ch_has h16) rfl rfl rfl (Nat.le_of_ble_eq_true rfl) rfl ?_
      refine aw_if_eq 26 22 d_X_standing_19 (by decide) rfl (fun c19 => ?_) (fun c19 => ?_)
      · have h := (if_pos c19).symm.trans h
        refine aw_iconst (v := (0 : Int32)) 27 d_X_standing_26 rfl (by decide) ?_
        exact (j_X_standing_27 h)
      · have h := (if_neg c19).symm.trans h
        exact (j_X_standing_22 h)
theorem k_X_standing {q : Int64 × MM} {a0 : Nat} {x1 : Int32} {μ : MM} (h : f_X_standing a0 x1 μ = some q) : μ.1[a0]? = some (0, 0) := by
  unfold f_X_standing at h
  obtain ⟨_, h1, _⟩ := bnd h
  exact kO_some h1
theorem m_M_swaps {l : Launch} {q : MM} {a0 : Nat} {x1 : Int32} {x2 : Int32} {μ : MM} (h : f_M_swaps a0 x1 x2 μ = some q) : AMet l 1 Y_M_swaps [.ref a0, .int x1, .int x2] μ none q := by
  refine AMet.of (loc := [some (.ref a0), some (.int x1), some (.int x2), none]) pn_M_swaps (Nat.le_of_ble_eq_true rfl) rfl ?_
  unfold f_M_swaps at h
  obtain ⟨_, hk, h⟩ := bnd h
  refine aw_aload_n 1 d_M_swaps_0 rfl rfl ?_
  obtain ⟨y1, h1, h⟩ := bnd h
  refine aw_getR 4 d_M_swaps_1 rfl fg_M_110 rfl h1 ?_
  refine aw_iload_n 5 d_M_swaps_4 rfl rfl ?_
  obtain ⟨y5, h5, h⟩ := bnd h
  refine aw_iald 6 d_M_swaps_5 rfl h5 ?_
  refine aw_istore_n (loc' := [some (.ref a0), some (.int x1), some (.int x2), some (.int y5)]) 7 d_M_swaps_6 rfl (by decide) rfl ?_
  refine aw_aload_n 8 d_M_swaps_7 rfl rfl ?_
  obtain ⟨y8, h8, h⟩ := bnd h
  refine aw_getR 11 d_M_swaps_8 rfl fg_M_110 rfl h8 ?_
  refine aw_iload_n 12 d_M_swaps_11 rfl rfl ?_
  refine aw_aload_n 13 d_M_swaps_12 rfl rfl ?_
  obtain ⟨y13, h13, h⟩ := bnd h
  refine aw_getR 16 d_M_swaps_13 rfl fg_M_110 rfl h13 ?_
  refine aw_iload_n 17 d_M_swaps_16 rfl rfl ?_
  obtain ⟨y17, h17, h⟩ := bnd h
  refine aw_iald 18 d_M_swaps_17 rfl h17 ?_
  obtain ⟨μ18, h18, h⟩ := bnd h
  refine aw_iast 19 d_M_swaps_18 rfl h18 ?_
  refine aw_aload_n 20 d_M_swaps_19 rfl rfl ?_
  obtain ⟨y20, h20, h⟩ := bnd h
  refine aw_getR 23 d_M_swaps_20 rfl fg_M_110 rfl h20 ?_
  refine aw_iload_n 24 d_M_swaps_23 rfl rfl ?_
  refine aw_iload_n 25 d_M_swaps_24 rfl rfl ?_
  obtain ⟨μ25, h25, h⟩ := bnd h
  refine aw_iast 26 d_M_swaps_25 rfl h25 ?_
  cases h
  exact aw_return d_M_swaps_26 rfl
theorem k_M_swaps {q : MM} {a0 : Nat} {x1 : Int32} {x2 : Int32} {μ : MM} (h : f_M_swaps a0 x1 x2 μ = some q) : μ.1[a0]? = some (0, 1) := by
  unfold f_M_swaps at h
  obtain ⟨_, h1, _⟩ := bnd h
  exact kO_some h1
theorem l_M_stepsOn_86 {l : Launch} {μ0 : MM} {q : Int32 × MM} {a0 : Nat} : ∀ (n : Nat) (x3 : Int32) (x4 : Int32) (μ : MM), f_M_stepsOn_L86 a0 n x3 x4 μ = some q → AWm l Y_M_stepsOn 2 μ0 (some (.int q.1)) q.2 86 [some (.ref a0), none, none, some (.int x3), some (.int x4)] [] μ := by
  intro n
  induction n with
  | zero =>
    intro x3 x4 μ h
    have h : (none : Option (Int32 × MM)) = some q := h
    cases h
  | succ n ih =>
    intro x3 x4 μ h
    rw [f_M_stepsOn_L86] at h
    refine aw_iload_n 87 d_M_stepsOn_86 rfl rfl ?_
    refine aw_iload 89 d_M_stepsOn_87 rfl rfl ?_
    refine aw_icmp_ge 108 92 d_M_stepsOn_89 (by decide) rfl (fun c89 => ?_) (fun c89 => ?_)
    · have h := (if_pos c89).symm.trans h
      refine aw_iconst (v := (1 : Int32)) 109 d_M_stepsOn_108 rfl (by decide) ?_
      cases h
      exact aw_ireturn d_M_stepsOn_109 rfl nar1
    · have h := (if_neg c89).symm.trans h
      refine aw_aload_n 93 d_M_stepsOn_92 rfl rfl ?_
      refine aw_iload_n 94 d_M_stepsOn_93 rfl rfl ?_
      refine aw_iload 96 d_M_stepsOn_94 rfl rfl ?_
      obtain ⟨μ96, h96, h⟩ := bnd h
      refine aw_invV (rest := []) (st' := []) (As := [.int x3, .int x4]) 99 d_M_stepsOn_96 rfl lv_M_547 (m_M_swaps h96) (by decide) (k_M_swaps h96) rfl rfl rfl (Nat.le_of_ble_eq_true rfl) rfl ?_
      refine aw_iinc (v := (x3 + (1 : Int32))) (loc' := [some (.ref a0), none, none, some (.int (x3 + (1 : Int32))), some (.int x4)]) 102 d_M_stepsOn_99 rfl (by decide) rfl rfl rfl ?_
      refine aw_iinc (v := (x4 + (-1 : Int32))) (loc' := [some (.ref a0), none, none, some (.int (x3 + (1 : Int32))), some (.int (x4 + (-1 : Int32)))]) 105 d_M_stepsOn_102 rfl (by decide) rfl rfl rfl ?_
      refine aw_goto 86 d_M_stepsOn_105 (by decide) ?_
      exact (ih (x3 + (1 : Int32)) (x4 + (-1 : Int32)) μ96 h)
theorem l_M_stepsOn_47 {l : Launch} {μ0 : MM} {q : Int32 × MM} {a0 : Nat} {x1 : Int32} {μ : MM} : ∀ (n : Nat) (x2 : Int32), f_M_stepsOn_L47 a0 x1 μ n x2 = some q → AWm l Y_M_stepsOn 2 μ0 (some (.int q.1)) q.2 47 [some (.ref a0), some (.int x1), some (.int x2), none, none] [] μ := by
  intro n
  induction n with
  | zero =>
    intro x2 h
    have h : (none : Option (Int32 × MM)) = some q := h
    cases h
  | succ n ih =>
    intro x2 h
    rw [f_M_stepsOn_L47] at h
    refine aw_aload_n 48 d_M_stepsOn_47 rfl rfl ?_
    obtain ⟨y48, h48, h⟩ := bnd h
    refine aw_getR 51 d_M_stepsOn_48 rfl fg_M_110 rfl h48 ?_
    refine aw_iload_n 52 d_M_stepsOn_51 rfl rfl ?_
    obtain ⟨y52, h52, h⟩ := bnd h
    refine aw_iald 53 d_M_stepsOn_52 rfl h52 ?_
    refine aw_aload_n 54 d_M_stepsOn_53 rfl rfl ?_
    obtain ⟨y54, h54, h⟩ := bnd h
    refine aw_getR 57 d_M_stepsOn_54 rfl fg_M_110 rfl h54 ?_
    refine aw_iload_n 58 d_M_stepsOn_57 rfl rfl ?_
    obtain ⟨y58, h58, h⟩ := bnd h
    refine aw_iald 59 d_M_stepsOn_58 rfl h58 ?_
    refine aw_icmp_gt 68 62 d_M_stepsOn_59 (by decide) rfl (fun c59 => ?_) (fun c59 => ?_)
    · have h := (if_pos c59).symm.trans h
      refine aw_aload_n 69 d_M_stepsOn_68 rfl rfl ?_
      refine aw_iload_n 70 d_M_stepsOn_69 rfl rfl ?_
      refine aw_iload_n 71 d_M_stepsOn_70 rfl rfl ?_
      obtain ⟨μ71, h71, h⟩ := bnd h
      refine aw_invV (rest := []) (st' := []) (As := [.int x1, .int x2]) 74 d_M_stepsOn_71 rfl lv_M_547 (m_M_swaps h71) (by decide) (k_M_swaps h71) rfl rfl rfl (Nat.le_of_ble_eq_true rfl) rfl ?_
      refine aw_iload_n 75 d_M_stepsOn_74 rfl rfl ?_
      refine aw_iconst (v := (1 : Int32)) 76 d_M_stepsOn_75 rfl (by decide) ?_
      refine aw_iadd 77 d_M_stepsOn_76 rfl ?_
      refine aw_istore_n (loc' := [some (.ref a0), some (.int x1), some (.int x2), some (.int (x1 + (1 : Int32))), none]) 78 d_M_stepsOn_77 rfl (by decide) rfl ?_
      refine aw_aload_n 79 d_M_stepsOn_78 rfl rfl ?_
      obtain ⟨y79, h79, h⟩ := bnd h
      refine aw_getI 82 d_M_stepsOn_79 rfl fg_M_275 (Or.inl rfl) h79 ?_
      refine aw_iconst (v := (1 : Int32)) 83 d_M_stepsOn_82 rfl (by decide) ?_
      refine aw_isub 84 d_M_stepsOn_83 rfl ?_
      refine aw_istore (loc' := [some (.ref a0), some (.int x1), some (.int x2), some (.int (x1 + (1 : Int32))), some (.int (y79 - (1 : Int32)))]) 86 d_M_stepsOn_84 rfl (by decide) rfl ?_
      exact AW.wk [true, false, false, true, true] rfl (l_M_stepsOn_86 FU _ _ _ h)
    · have h := (if_neg c59).symm.trans h
      refine aw_iinc (v := (x2 + (-1 : Int32))) (loc' := [some (.ref a0), some (.int x1), some (.int (x2 + (-1 : Int32))), none, none]) 65 d_M_stepsOn_62 rfl (by decide) rfl rfl rfl ?_
      refine aw_goto 47 d_M_stepsOn_65 (by decide) ?_
      exact (ih (x2 + (-1 : Int32)) h)
theorem j_M_stepsOn_34 {l : Launch} {μ0 : MM} {q : Int32 × MM} {a0 : Nat} {x1 : Int32} {μ : MM} (h : f_M_stepsOn_J34 a0 x1 μ = some q) : AWm l Y_M_stepsOn 2 μ0 (some (.int q.1)) q.2 34 [some (.ref a0), some (.int x1), none, none, none] [] μ := by
  unfold f_M_stepsOn_J34 at h
  refine aw_iload_n 35 d_M_stepsOn_34 rfl rfl ?_
  refine aw_if_ge 40 38 d_M_stepsOn_35 (by decide) rfl (fun c35 => ?_) (fun c35 => ?_)
  · have h := (if_pos c35).symm.trans h
    refine aw_aload_n 41 d_M_stepsOn_40 rfl rfl ?_
    obtain ⟨y41, h41, h⟩ := bnd h
    refine aw_getI 44 d_M_stepsOn_41 rfl fg_M_275 (Or.inl rfl) h41 ?_
    refine aw_iconst (v := (1 : Int32)) 45 d_M_stepsOn_44 rfl (by decide) ?_
    refine aw_isub 46 d_M_stepsOn_45 rfl ?_
    refine aw_istore_n (loc' := [some (.ref a0), some (.int x1), some (.int (y41 - (1 : Int32))), none, none]) 47 d_M_stepsOn_46 rfl (by decide) rfl ?_
    exact (l_M_stepsOn_47 FU _ h)
  · have h := (if_neg c35).symm.trans h
    refine aw_iconst (v := (0 : Int32)) 39 d_M_stepsOn_38 rfl (by decide) ?_
    cases h
    exact aw_ireturn d_M_stepsOn_39 rfl nar0
theorem l_M_stepsOn_7 {l : Launch} {μ0 : MM} {q : Int32 × MM} {a0 : Nat} {μ : MM} : ∀ (n : Nat) (x1 : Int32), f_M_stepsOn_L7 a0 μ n x1 = some q → AWm l Y_M_stepsOn 2 μ0 (some (.int q.1)) q.2 7 [some (.ref a0), some (.int x1), none, none, none] [] μ := by
  intro n
  induction n with
  | zero =>
    intro x1 h
    have h : (none : Option (Int32 × MM)) = some q := h
    cases h
  | succ n ih =>
    intro x1 h
    rw [f_M_stepsOn_L7] at h
    refine aw_iload_n 8 d_M_stepsOn_7 rfl rfl ?_
    refine aw_if_lt 34 11 d_M_stepsOn_8 (by decide) rfl (fun c8 => ?_) (fun c8 => ?_)
    · have h := (if_pos c8).symm.trans h
      exact (j_M_stepsOn_34 h)
    · have h := (if_neg c8).symm.trans h
      refine aw_aload_n 12 d_M_stepsOn_11 rfl rfl ?_
      obtain ⟨y12, h12, h⟩ := bnd h
      refine aw_getR 15 d_M_stepsOn_12 rfl fg_M_110 rfl h12 ?_
      refine aw_iload_n 16 d_M_stepsOn_15 rfl rfl ?_
      obtain ⟨y16, h16, h⟩ := bnd h
      refine aw_iald 17 d_M_stepsOn_16 rfl h16 ?_
      refine aw_aload_n 18 d_M_stepsOn_17 rfl rfl ?_
      obtain ⟨y18, h18, h⟩ := bnd h
      refine aw_getR 21 d_M_stepsOn_18 rfl fg_M_110 rfl h18 ?_
      refine aw_iload_n 22 d_M_stepsOn_21 rfl rfl ?_
      refine aw_iconst (v := (1 : Int32)) 23 d_M_stepsOn_22 rfl (by decide) ?_
      refine aw_iadd 24 d_M_stepsOn_23 rfl ?_
      obtain ⟨y24, h24, h⟩ := bnd h
      refine aw_iald 25 d_M_stepsOn_24 rfl h24 ?_
      refine aw_icmp_lt 34 28 d_M_stepsOn_25 (by decide) rfl (fun c25 => ?_) (fun c25 => ?_)
      · have h := (if_pos c25).symm.trans h
        exact (j_M_stepsOn_34 h)
      · have h := (if_neg c25).symm.trans h
        refine aw_iinc (v := (x1 + (-1 : Int32))) (loc' := [some (.ref a0), some (.int (x1 + (-1 : Int32))), none, none, none]) 31 d_M_stepsOn_28 rfl (by decide) rfl rfl rfl ?_
        refine aw_goto 7 d_M_stepsOn_31 (by decide) ?_
        exact (ih (x1 + (-1 : Int32)) h)
theorem m_M_stepsOn {l : Launch} {q : Int32 × MM} {a0 : Nat} {μ : MM} (h : f_M_stepsOn a0 μ = some q) : AMet l 2 Y_M_stepsOn [.ref a0] μ (some (.int q.1)) q.2 := by
  refine AMet.of (loc := [some (.ref a0), none, none, none, none]) pn_M_stepsOn (Nat.le_of_ble_eq_true rfl) rfl ?_
  unfold f_M_stepsOn at h
  obtain ⟨_, hk, h⟩ := bnd h
  refine aw_aload_n 1 d_M_stepsOn_0 rfl rfl ?_
  obtain ⟨y1, h1, h⟩ := bnd h
  refine aw_getI 4 d_M_stepsOn_1 rfl fg_M_275 (Or.inl rfl) h1 ?_
  refine aw_iconst (v := (2 : Int32)) 5 d_M_stepsOn_4 rfl (by decide) ?_
  refine aw_isub 6 d_M_stepsOn_5 rfl ?_
  refine aw_istore_n (loc' := [some (.ref a0), some (.int (y1 - (2 : Int32))), none, none, none]) 7 d_M_stepsOn_6 rfl (by decide) rfl ?_
  exact (l_M_stepsOn_7 FU _ h)
theorem k_M_stepsOn {q : Int32 × MM} {a0 : Nat} {μ : MM} (h : f_M_stepsOn a0 μ = some q) : μ.1[a0]? = some (0, 1) := by
  unfold f_M_stepsOn at h
  obtain ⟨_, h1, _⟩ := bnd h
  exact kO_some h1
