/-! PRINTED by wip/gen/gen1.py: the bytecode does what the functions say -/
theorem j_M_standing_215 {l : Launch} {μ0 : MM} {q : Int64 × MM} {a0 : Nat} {x1 : Int32} {x2 : Int32} {x3 : Int64} {x5 : Int64} {μ : MM} {k115 : Int32 → Int64 → Int64 → Int32 → MM → Option (Int64 × MM)} (hk115 : ∀ (x2 : Int32) (x3 : Int64) (x5 : Int64) (x7 : Int32) (μ : MM), k115 x2 x3 x5 x7 μ = some q → AWm l Y_M_standing 11 μ0 (some (.long q.1)) q.2 115 [some (.ref a0), some (.int x1), some (.int x2), some (.long x3), none, some (.long x5), none, some (.int x7), none, none, none, none, none] [] μ) (h : f_M_standing_J215 k115 a0 x1 x2 x3 x5 μ = some q) : AWm l Y_M_standing 11 μ0 (some (.long q.1)) q.2 215 [some (.ref a0), some (.int x1), some (.int x2), some (.long x3), none, some (.long x5), none, none, none, none, none, none, none] [] μ := by
  unfold f_M_standing_J215 at h
  refine aw_aload_n 216 d_M_standing_215 rfl rfl ?_
  obtain ⟨q216, h216, h⟩ := bnd h
  refine aw_invV (rest := []) (st' := [.int q216.1]) (As := []) 219 d_M_standing_216 rfl lv_M_552 (m_M_stepsOn h216) (by decide) (k_M_stepsOn h216) rfl rfl rfl (Nat.le_of_ble_eq_true rfl) rfl ?_
  refine aw_istore (loc' := [some (.ref a0), some (.int x1), some (.int x2), some (.long x3), none, some (.long x5), none, some (.int q216.1), none, none, none, none, none]) 221 d_M_standing_219 rfl (by decide) rfl ?_
  refine aw_goto 115 d_M_standing_221 (by decide) ?_
  exact (hk115 x2 x3 x5 q216.1 q216.2 h)
theorem l_M_standing_186 {l : Launch} {μ0 : MM} {q : Int64 × MM} {a0 : Nat} {x1 : Int32} {x2 : Int32} {x3 : Int64} {x5 : Int64} {k115 : Int32 → Int64 → Int64 → Int32 → MM → Option (Int64 × MM)} (hk115 : ∀ (x2 : Int32) (x3 : Int64) (x5 : Int64) (x7 : Int32) (μ : MM), k115 x2 x3 x5 x7 μ = some q → AWm l Y_M_standing 11 μ0 (some (.long q.1)) q.2 115 [some (.ref a0), some (.int x1), some (.int x2), some (.long x3), none, some (.long x5), none, some (.int x7), none, none, none, none, none] [] μ) : ∀ (n : Nat) (x12 : Int32) (μ : MM), f_M_standing_L186 k115 a0 x1 x2 x3 x5 n x12 μ = some q → AWm l Y_M_standing 11 μ0 (some (.long q.1)) q.2 186 [some (.ref a0), some (.int x1), some (.int x2), some (.long x3), none, some (.long x5), none, none, none, none, none, none, some (.int x12)] [] μ := by
  intro n
  induction n with
  | zero =>
    intro x12 μ h
    have h : (none : Option (Int64 × MM)) = some q := h
    cases h
  | succ n ih =>
    intro x12 μ h
    rw [f_M_standing_L186] at h
    refine aw_iload 188 d_M_standing_186 rfl rfl ?_
    refine aw_aload_n 189 d_M_standing_188 rfl rfl ?_
    obtain ⟨y189, h189, h⟩ := bnd h
    refine aw_getI 192 d_M_standing_189 rfl fg_M_275 (Or.inl rfl) h189 ?_
    refine aw_icmp_ge 215 195 d_M_standing_192 (by decide) rfl (fun c192 => ?_) (fun c192 => ?_)
    · have h := (if_pos c192).symm.trans h
      exact AW.wk [true, true, true, true, true, true, true, true, true, true, true, true, false] rfl (j_M_standing_215 hk115 h)
    · have h := (if_neg c192).symm.trans h
      refine aw_aload_n 196 d_M_standing_195 rfl rfl ?_
      obtain ⟨y196, h196, h⟩ := bnd h
      refine aw_getR 199 d_M_standing_196 rfl fg_M_134 rfl h196 ?_
      refine aw_iload 201 d_M_standing_199 rfl rfl ?_
      refine aw_aload_n 202 d_M_standing_201 rfl rfl ?_
      obtain ⟨y202, h202, h⟩ := bnd h
      refine aw_getR 205 d_M_standing_202 rfl fg_M_110 rfl h202 ?_
      refine aw_iload 207 d_M_standing_205 rfl rfl ?_
      obtain ⟨y207, h207, h⟩ := bnd h
      refine aw_iald 208 d_M_standing_207 rfl h207 ?_
      obtain ⟨μ208, h208, h⟩ := bnd h
      refine aw_iast 209 d_M_standing_208 rfl h208 ?_
      refine aw_iinc (v := (x12 + (1 : Int32))) (loc' := [some (.ref a0), some (.int x1), some (.int x2), some (.long x3), none, some (.long x5), none, none, none, none, none, none, some (.int (x12 + (1 : Int32)))]) 212 d_M_standing_209 rfl (by decide) rfl rfl rfl ?_
      refine aw_goto 186 d_M_standing_212 (by decide) ?_
      exact (ih (x12 + (1 : Int32)) μ208 h)
theorem j_M_standing_174 {l : Launch} {μ0 : MM} {q : Int64 × MM} {a0 : Nat} {x1 : Int32} {x8 : Int64} {x10 : Int64} {μ : MM} {k115 : Int32 → Int64 → Int64 → Int32 → MM → Option (Int64 × MM)} (hk115 : ∀ (x2 : Int32) (x3 : Int64) (x5 : Int64) (x7 : Int32) (μ : MM), k115 x2 x3 x5 x7 μ = some q → AWm l Y_M_standing 11 μ0 (some (.long q.1)) q.2 115 [some (.ref a0), some (.int x1), some (.int x2), some (.long x3), none, some (.long x5), none, some (.int x7), none, none, none, none, none] [] μ) (h : f_M_standing_J174 k115 a0 x1 x8 x10 μ = some q) : AWm l Y_M_standing 11 μ0 (some (.long q.1)) q.2 174 [some (.ref a0), some (.int x1), none, none, none, none, none, none, some (.long x8), none, some (.long x10), none, none] [] μ := by
  unfold f_M_standing_J174 at h
  refine aw_iconst (v := (1 : Int32)) 175 d_M_standing_174 rfl (by decide) ?_
  refine aw_istore_n (loc' := [some (.ref a0), some (.int x1), some (.int (1 : Int32)), none, none, none, none, none, some (.long x8), none, some (.long x10), none, none]) 176 d_M_standing_175 rfl (by decide) rfl ?_
  refine aw_lload 178 d_M_standing_176 rfl rfl ?_
  refine aw_lstore_n (loc' := [some (.ref a0), some (.int x1), some (.int (1 : Int32)), some (.long x8), none, none, none, none, some (.long x8), none, some (.long x10), none, none]) 179 d_M_standing_178 rfl (by decide) rfl ?_
  refine aw_lload 181 d_M_standing_179 rfl rfl ?_
  refine aw_lstore (loc' := [some (.ref a0), some (.int x1), some (.int (1 : Int32)), some (.long x8), none, some (.long x10), none, none, some (.long x8), none, some (.long x10), none, none]) 183 d_M_standing_181 rfl (by decide) rfl ?_
  refine aw_iconst (v := (0 : Int32)) 184 d_M_standing_183 rfl (by decide) ?_
  refine aw_istore (loc' := [some (.ref a0), some (.int x1), some (.int (1 : Int32)), some (.long x8), none, some (.long x10), none, none, some (.long x8), none, some (.long x10), none, some (.int (0 : Int32))]) 186 d_M_standing_184 rfl (by decide) rfl ?_
  exact AW.wk [true, true, true, true, true, true, true, true, false, true, false, true, true] rfl (l_M_standing_186 hk115 FU _ _ h)
theorem l_M_standing_115 {l : Launch} {μ0 : MM} {q : Int64 × MM} {a0 : Nat} {x1 : Int32} : ∀ (n : Nat) (x2 : Int32) (x3 : Int64) (x5 : Int64) (x7 : Int32) (μ : MM), f_M_standing_L115 a0 x1 n x2 x3 x5 x7 μ = some q → AWm l Y_M_standing 11 μ0 (some (.long q.1)) q.2 115 [some (.ref a0), some (.int x1), some (.int x2), some (.long x3), none, some (.long x5), none, some (.int x7), none, none, none, none, none] [] μ := by
  intro n
  induction n with
  | zero =>
    intro x2 x3 x5 x7 μ h
    have h : (none : Option (Int64 × MM)) = some q := h
    cases h
  | succ n ih =>
    intro x2 x3 x5 x7 μ h
    rw [f_M_standing_L115] at h
    refine aw_iload 117 d_M_standing_115 rfl rfl ?_
    refine aw_if_eq 224 120 d_M_standing_117 (by decide) rfl (fun c117 => ?_) (fun c117 => ?_)
    · have h := (if_pos c117).symm.trans h
      refine aw_iload_n 225 d_M_standing_224 rfl rfl ?_
      refine aw_iconst (v := (-1 : Int32)) 226 d_M_standing_225 rfl (by decide) ?_
      refine aw_icmp_ne 233 229 d_M_standing_226 (by decide) rfl (fun c226 => ?_) (fun c226 => ?_)
      · have h := (if_neg c226).symm.trans h
        refine aw_iload_n 234 d_M_standing_233 rfl rfl ?_
        refine aw_bipush (v := (8 : Int32)) 236 d_M_standing_234 rfl (by decide) ?_
        refine aw_icmp_ne 244 239 d_M_standing_236 (by decide) rfl (fun c236 => ?_) (fun c236 => ?_)
        · have h := (if_neg c236).symm.trans h
          refine aw_aload_n 245 d_M_standing_244 rfl rfl ?_
          obtain ⟨y245, h245, h⟩ := bnd h
          refine aw_getR 248 d_M_standing_245 rfl fg_M_134 rfl h245 ?_
          refine aw_iload_n 249 d_M_standing_248 rfl rfl ?_
          obtain ⟨y249, h249, h⟩ := bnd h
          refine aw_iald 250 d_M_standing_249 rfl h249 ?_
          refine aw_i2l 251 d_M_standing_250 rfl ?_
          cases h
          exact aw_lreturn d_M_standing_251 rfl
        · have h := (if_pos c236).symm.trans h
          refine aw_lload 241 d_M_standing_239 rfl rfl ?_
          refine aw_goto 251 d_M_standing_241 (by decide) ?_
          cases h
          exact aw_lreturn d_M_standing_251 rfl
      · have h := (if_pos c226).symm.trans h
        refine aw_lload_n 230 d_M_standing_229 rfl rfl ?_
        refine aw_goto 251 d_M_standing_230 (by decide) ?_
        cases h
        exact aw_lreturn d_M_standing_251 rfl
    · have h := (if_neg c117).symm.trans h
      refine aw_aload_n 121 d_M_standing_120 rfl rfl ?_
      obtain ⟨μ121, h121, h⟩ := bnd h
      refine aw_invV (rest := []) (st' := []) (As := []) 124 d_M_standing_121 rfl lv_M_509 (m_M_isSung h121) (by decide) (k_M_isSung h121) rfl rfl rfl (Nat.le_of_ble_eq_true rfl) rfl ?_
      refine aw_aload_n 125 d_M_standing_124 rfl rfl ?_
      obtain ⟨y125, h125, h⟩ := bnd h
      refine aw_invV (rest := []) (st' := [.long y125]) (As := []) 128 d_M_standing_125 rfl lv_M_537 (m_M_sunkNow h125) (by decide) (k_M_sunkNow h125) rfl rfl rfl (Nat.le_of_ble_eq_true rfl) rfl ?_
      refine aw_lstore (loc' := [some (.ref a0), some (.int x1), some (.int x2), some (.long x3), none, some (.long x5), none, some (.int x7), some (.long y125), none, none, none, none]) 130 d_M_standing_128 rfl (by decide) rfl ?_
      refine aw_aload_n 131 d_M_standing_130 rfl rfl ?_
      obtain ⟨y131, h131, h⟩ := bnd h
      refine aw_invV (rest := []) (st' := [.long y131]) (As := []) 134 d_M_standing_131 rfl lv_M_544 (m_M_allFoul h131) (by decide) (k_M_allFoul h131) rfl rfl rfl (Nat.le_of_ble_eq_true rfl) rfl ?_
      refine aw_lstore (loc' := [some (.ref a0), some (.int x1), some (.int x2), some (.long x3), none, some (.long x5), none, some (.int x7), some (.long y125), none, some (.long y131), none, none]) 136 d_M_standing_134 rfl (by decide) rfl ?_
      refine aw_iload_n 137 d_M_standing_136 rfl rfl ?_
      refine aw_if_eq 174 140 d_M_standing_137 (by decide) rfl (fun c137 => ?_) (fun c137 => ?_)
      · have h := (if_pos c137).symm.trans h
        exact AW.wk [true, true, false, false, true, false, true, false, true, true, true, true, true] rfl (j_M_standing_174 ih h)
      · have h := (if_neg c137).symm.trans h
        refine aw_lload 142 d_M_standing_140 rfl rfl ?_
        obtain ⟨y142, h142, h⟩ := bnd h
        refine aw_invS (rest := []) (st' := [.long y142]) (As := [.long y125]) 145 d_M_standing_142 rfl ls_M_225 (m_M_plain h142) (by decide) rfl rfl (Nat.le_of_ble_eq_true rfl) rfl ?_
        refine aw_lload_n 146 d_M_standing_145 rfl rfl ?_
        obtain ⟨y146, h146, h⟩ := bnd h
        refine aw_invS (rest := [.long y142]) (st' := [.long y146, .long y142]) (As := [.long x3]) 149 d_M_standing_146 rfl ls_M_225 (m_M_plain h146) (by decide) rfl rfl (Nat.le_of_ble_eq_true rfl) rfl ?_
        refine aw_lcmp 150 d_M_standing_149 rfl ?_
        refine aw_if_lt 174 153 d_M_standing_150 (by decide) rfl (fun c150 => ?_) (fun c150 => ?_)
        · have h := (if_pos c150).symm.trans h
          exact AW.wk [true, true, false, false, true, false, true, false, true, true, true, true, true] rfl (j_M_standing_174 ih h)
        · have h := (if_neg c150).symm.trans h
          refine aw_lload 155 d_M_standing_153 rfl rfl ?_
          obtain ⟨y155, h155, h⟩ := bnd h
          refine aw_invS (rest := []) (st' := [.long y155]) (As := [.long y125]) 158 d_M_standing_155 rfl ls_M_225 (m_M_plain h155) (by decide) rfl rfl (Nat.le_of_ble_eq_true rfl) rfl ?_
          refine aw_lload_n 159 d_M_standing_158 rfl rfl ?_
          obtain ⟨y159, h159, h⟩ := bnd h
          refine aw_invS (rest := [.long y155]) (st' := [.long y159, .long y155]) (As := [.long x3]) 162 d_M_standing_159 rfl ls_M_225 (m_M_plain h159) (by decide) rfl rfl (Nat.le_of_ble_eq_true rfl) rfl ?_
          refine aw_lcmp 163 d_M_standing_162 rfl ?_
          refine aw_if_ne 215 166 d_M_standing_163 (by decide) rfl (fun c163 => ?_) (fun c163 => ?_)
          · have h := (if_neg c163).symm.trans h
            exact AW.wk [true, true, true, true, true, true, true, false, false, true, false, true, true] rfl (j_M_standing_215 ih h)
          · have h := (if_pos c163).symm.trans h
            refine aw_lload 168 d_M_standing_166 rfl rfl ?_
            refine aw_lload 170 d_M_standing_168 rfl rfl ?_
            refine aw_lcmp 171 d_M_standing_170 rfl ?_
            refine aw_if_ge 215 174 d_M_standing_171 (by decide) rfl (fun c171 => ?_) (fun c171 => ?_)
            · have h := (if_pos c171).symm.trans h
              exact AW.wk [true, true, true, true, true, true, true, false, false, true, false, true, true] rfl (j_M_standing_215 ih h)
            · have h := (if_neg c171).symm.trans h
              exact AW.wk [true, true, false, false, true, false, true, false, true, true, true, true, true] rfl (j_M_standing_174 ih h)
theorem l_M_standing_64 {l : Launch} {μ0 : MM} {q : Int64 × MM} {a0 : Nat} {x1 : Int32} {x2 : Int32} {k54 : Int32 → MM → Option (Int64 × MM)} (hk54 : ∀ (x2 : Int32) (μ : MM), k54 x2 μ = some q → AWm l Y_M_standing 11 μ0 (some (.long q.1)) q.2 54 [some (.ref a0), some (.int x1), some (.int x2), none, none, none, none, none, none, none, none, none, none] [] μ) : ∀ (n : Nat) (x3 : Int32) (μ : MM), f_M_standing_L64 k54 a0 x1 x2 n x3 μ = some q → AWm l Y_M_standing 11 μ0 (some (.long q.1)) q.2 64 [some (.ref a0), some (.int x1), some (.int x2), some (.int x3), none, none, none, none, none, none, none, none, none] [] μ := by
  intro n
  induction n with
  | zero =>
    intro x3 μ h
    have h : (none : Option (Int64 × MM)) = some q := h
    cases h
  | succ n ih =>
    intro x3 μ h
    rw [f_M_standing_L64] at h
    refine aw_iload_n 65 d_M_standing_64 rfl rfl ?_
    refine aw_if_le 99 68 d_M_standing_65 (by decide) rfl (fun c65 => ?_) (fun c65 => ?_)
    · have h := (if_pos c65).symm.trans h
      refine aw_iinc (v := (x2 + (1 : Int32))) (loc' := [some (.ref a0), some (.int x1), some (.int (x2 + (1 : Int32))), some (.int x3), none, none, none, none, none, none, none, none, none]) 102 d_M_standing_99 rfl (by decide) rfl rfl rfl ?_
      refine aw_goto 54 d_M_standing_102 (by decide) ?_
      exact AW.wk [true, true, true, false, true, true, true, true, true, true, true, true, true] rfl (hk54 (x2 + (1 : Int32)) μ h)
    · have h := (if_neg c65).symm.trans h
      refine aw_aload_n 69 d_M_standing_68 rfl rfl ?_
      obtain ⟨y69, h69, h⟩ := bnd h
      refine aw_getR 72 d_M_standing_69 rfl fg_M_110 rfl h69 ?_
      refine aw_iload_n 73 d_M_standing_72 rfl rfl ?_
      refine aw_iconst (v := (1 : Int32)) 74 d_M_standing_73 rfl (by decide) ?_
      refine aw_isub 75 d_M_standing_74 rfl ?_
      obtain ⟨y75, h75, h⟩ := bnd h
      refine aw_iald 76 d_M_standing_75 rfl h75 ?_
      refine aw_aload_n 77 d_M_standing_76 rfl rfl ?_
      obtain ⟨y77, h77, h⟩ := bnd h
      refine aw_getR 80 d_M_standing_77 rfl fg_M_110 rfl h77 ?_
      refine aw_iload_n 81 d_M_standing_80 rfl rfl ?_
      obtain ⟨y81, h81, h⟩ := bnd h
      refine aw_iald 82 d_M_standing_81 rfl h81 ?_
      refine aw_icmp_le 99 85 d_M_standing_82 (by decide) rfl (fun c82 => ?_) (fun c82 => ?_)
      · have h := (if_pos c82).symm.trans h
        refine aw_iinc (v := (x2 + (1 : Int32))) (loc' := [some (.ref a0), some (.int x1), some (.int (x2 + (1 : Int32))), some (.int x3), none, none, none, none, none, none, none, none, none]) 102 d_M_standing_99 rfl (by decide) rfl rfl rfl ?_
        refine aw_goto 54 d_M_standing_102 (by decide) ?_
        exact AW.wk [true, true, true, false, true, true, true, true, true, true, true, true, true] rfl (hk54 (x2 + (1 : Int32)) μ h)
      · have h := (if_neg c82).symm.trans h
        refine aw_aload_n 86 d_M_standing_85 rfl rfl ?_
        refine aw_iload_n 87 d_M_standing_86 rfl rfl ?_
        refine aw_iconst (v := (1 : Int32)) 88 d_M_standing_87 rfl (by decide) ?_
        refine aw_isub 89 d_M_standing_88 rfl ?_
        refine aw_iload_n 90 d_M_standing_89 rfl rfl ?_
        obtain ⟨μ90, h90, h⟩ := bnd h
        refine aw_invV (rest := []) (st' := []) (As := [.int (x3 - (1 : Int32)), .int x3]) 93 d_M_standing_90 rfl lv_M_547 (m_M_swaps h90) (by decide) (k_M_swaps h90) rfl rfl rfl (Nat.le_of_ble_eq_true rfl) rfl ?_
        refine aw_iinc (v := (x3 + (-1 : Int32))) (loc' := [some (.ref a0), some (.int x1), some (.int x2), some (.int (x3 + (-1 : Int32))), none, none, none, none, none, none, none, none, none]) 96 d_M_standing_93 rfl (by decide) rfl rfl rfl ?_
        refine aw_goto 64 d_M_standing_96 (by decide) ?_
        exact (ih (x3 + (-1 : Int32)) μ90 h)
theorem l_M_standing_54 {l : Launch} {μ0 : MM} {q : Int64 × MM} {a0 : Nat} {x1 : Int32} : ∀ (n : Nat) (x2 : Int32) (μ : MM), f_M_standing_L54 a0 x1 n x2 μ = some q → AWm l Y_M_standing 11 μ0 (some (.long q.1)) q.2 54 [some (.ref a0), some (.int x1), some (.int x2), none, none, none, none, none, none, none, none, none, none] [] μ := by
  intro n
  induction n with
  | zero =>
    intro x2 μ h
    have h : (none : Option (Int64 × MM)) = some q := h
    cases h
  | succ n ih =>
    intro x2 μ h
    rw [f_M_standing_L54] at h
    refine aw_iload_n 55 d_M_standing_54 rfl rfl ?_
    refine aw_aload_n 56 d_M_standing_55 rfl rfl ?_
    obtain ⟨y56, h56, h⟩ := bnd h
    refine aw_getI 59 d_M_standing_56 rfl fg_M_275 (Or.inl rfl) h56 ?_
    refine aw_icmp_ge 105 62 d_M_standing_59 (by decide) rfl (fun c59 => ?_) (fun c59 => ?_)
    · have h := (if_pos c59).symm.trans h
      refine aw_iconst (v := (0 : Int32)) 106 d_M_standing_105 rfl (by decide) ?_
      refine aw_istore_n (loc' := [some (.ref a0), some (.int x1), some (.int (0 : Int32)), none, none, none, none, none, none, none, none, none, none]) 107 d_M_standing_106 rfl (by decide) rfl ?_
      refine aw_lconst (v := (0 : Int64)) 108 d_M_standing_107 rfl (by decide) ?_
      refine aw_lstore_n (loc' := [some (.ref a0), some (.int x1), some (.int (0 : Int32)), some (.long (0 : Int64)), none, none, none, none, none, none, none, none, none]) 109 d_M_standing_108 rfl (by decide) rfl ?_
      refine aw_lconst (v := (0 : Int64)) 110 d_M_standing_109 rfl (by decide) ?_
      refine aw_lstore (loc' := [some (.ref a0), some (.int x1), some (.int (0 : Int32)), some (.long (0 : Int64)), none, some (.long (0 : Int64)), none, none, none, none, none, none, none]) 112 d_M_standing_110 rfl (by decide) rfl ?_
      refine aw_iconst (v := (1 : Int32)) 113 d_M_standing_112 rfl (by decide) ?_
      refine aw_istore (loc' := [some (.ref a0), some (.int x1), some (.int (0 : Int32)), some (.long (0 : Int64)), none, some (.long (0 : Int64)), none, some (.int (1 : Int32)), none, none, none, none, none]) 115 d_M_standing_113 rfl (by decide) rfl ?_
      exact (l_M_standing_115 FU _ _ _ _ _ h)
    · have h := (if_neg c59).symm.trans h
      refine aw_iload_n 63 d_M_standing_62 rfl rfl ?_
      refine aw_istore_n (loc' := [some (.ref a0), some (.int x1), some (.int x2), some (.int x2), none, none, none, none, none, none, none, none, none]) 64 d_M_standing_63 rfl (by decide) rfl ?_
      exact (l_M_standing_64 ih FU _ _ h)
theorem j_M_standing_23 {l : Launch} {μ0 : MM} {q : Int64 × MM} {a0 : Nat} {x1 : Int32} {μ : MM} (h : f_M_standing_J23 a0 x1 μ = some q) : AWm l Y_M_standing 11 μ0 (some (.long q.1)) q.2 23 [some (.ref a0), some (.int x1), none, none, none, none, none, none, none, none, none, none, none] [] μ := by
  unfold f_M_standing_J23 at h
  refine aw_aload_n 24 d_M_standing_23 rfl rfl ?_
  obtain ⟨y24, h24, h⟩ := bnd h
  refine aw_invV (rest := []) (st' := [.int y24]) (As := []) 27 d_M_standing_24 rfl lv_M_522 (m_M_firstSung h24) (by decide) (k_M_firstSung h24) rfl rfl rfl (Nat.le_of_ble_eq_true rfl) rfl ?_
  refine aw_iconst (v := (-1 : Int32)) 28 d_M_standing_27 rfl (by decide) ?_
  refine aw_icmp_ne 35 31 d_M_standing_28 (by decide) rfl (fun c28 => ?_) (fun c28 => ?_)
  · have h := (if_neg c28).symm.trans h
    refine aw_aload_n 36 d_M_standing_35 rfl rfl ?_
    obtain ⟨y36, h36, h⟩ := bnd h
    refine aw_getI 39 d_M_standing_36 rfl fg_M_275 (Or.inl rfl) h36 ?_
    refine aw_bipush (v := (6 : Int32)) 41 d_M_standing_39 rfl (by decide) ?_
    refine aw_icmp_le 48 44 d_M_standing_41 (by decide) rfl (fun c41 => ?_) (fun c41 => ?_)
    · have h := (if_pos c41).symm.trans h
      refine aw_aload_n 49 d_M_standing_48 rfl rfl ?_
      obtain ⟨μ49, h49, h⟩ := bnd h
      refine aw_invV (rest := []) (st' := []) (As := []) 52 d_M_standing_49 rfl lv_M_506 (m_M_readies h49) (by decide) (k_M_readies h49) rfl rfl rfl (Nat.le_of_ble_eq_true rfl) rfl ?_
      refine aw_iconst (v := (1 : Int32)) 53 d_M_standing_52 rfl (by decide) ?_
      refine aw_istore_n (loc' := [some (.ref a0), some (.int x1), some (.int (1 : Int32)), none, none, none, none, none, none, none, none, none, none]) 54 d_M_standing_53 rfl (by decide) rfl ?_
      exact (l_M_standing_54 FU _ _ h)
    · have h := (if_neg c41).symm.trans h
      refine aw_ldc2 (v := (-2000000000 : Int64)) 47 d_M_standing_44 rfl c_M_550 ?_
      cases h
      exact aw_lreturn d_M_standing_47 rfl
  · have h := (if_pos c28).symm.trans h
    refine aw_ldc2 (v := (-1000000000 : Int64)) 34 d_M_standing_31 rfl c_M_530 ?_
    cases h
    exact aw_lreturn d_M_standing_34 rfl
theorem m_M_standing {l : Launch} {q : Int64 × MM} {a0 : Nat} {x1 : Int32} {μ : MM} (h : f_M_standing a0 x1 μ = some q) : AMet l 11 Y_M_standing [.ref a0, .int x1] μ (some (.long q.1)) q.2 := by
  refine AMet.of (loc := [some (.ref a0), some (.int x1), none, none, none, none, none, none, none, none, none, none, none]) pn_M_standing (Nat.le_of_ble_eq_true rfl) rfl ?_
  unfold f_M_standing at h
  obtain ⟨_, hk, h⟩ := bnd h
  refine aw_iload_n 1 d_M_standing_0 rfl rfl ?_
  refine aw_iconst (v := (-1 : Int32)) 2 d_M_standing_1 rfl (by decide) ?_
  refine aw_icmp_eq 23 5 d_M_standing_2 (by decide) rfl (fun c2 => ?_) (fun c2 => ?_)
  · have h := (if_pos c2).symm.trans h
    exact (j_M_standing_23 h)
  · have h := (if_neg c2).symm.trans h
    refine aw_iload_n 6 d_M_standing_5 rfl rfl ?_
    refine aw_bipush (v := (8 : Int32)) 8 d_M_standing_6 rfl (by decide) ?_
    refine aw_icmp_eq 23 11 d_M_standing_8 (by decide) rfl (fun c8 => ?_) (fun c8 => ?_)
    · have h := (if_pos c8).symm.trans h
      exact (j_M_standing_23 h)
    · have h := (if_neg c8).symm.trans h
      refine aw_aload_n 12 d_M_standing_11 rfl rfl ?_
      refine aw_iload_n 13 d_M_standing_12 rfl rfl ?_
      obtain ⟨y13, h13, h⟩ := bnd h
      refine aw_invV (rest := []) (st' := [.int y13]) (As := [.int x1]) 16 d_M_standing_13 rfl lv_M_282 (m_M_isSinger h13) (by decide) (k_M_isSinger h13) rfl rfl rfl (Nat.le_of_ble_eq_true rfl) rfl ?_
      refine aw_if_ne 23 19 d_M_standing_16 (by decide) rfl (fun c16 => ?_) (fun c16 => ?_)
      · have h := (if_neg c16).symm.trans h
        exact (j_M_standing_23 h)
      · have h := (if_pos c16).symm.trans h
        refine aw_ldc2 (v := (-1000000000 : Int64)) 22 d_M_standing_19 rfl c_M_530 ?_
        cases h
        exact aw_lreturn d_M_standing_22 rfl
theorem k_M_standing {q : Int64 × MM} {a0 : Nat} {x1 : Int32} {μ : MM} (h : f_M_standing a0 x1 μ = some q) : μ.1[a0]? = some (0, 1) := by
  unfold f_M_standing at h
  obtain ⟨_, h1, _⟩ := bnd h
  exact kO_some h1
theorem m_Mt_max_JJ {l : Launch} {q : Int64} {x0 : Int64} {x2 : Int64} {μ : MM} (h : f_Mt_max_JJ x0 x2 = some q) : AMet l 1 Y_Mt_max_JJ [.long x0, .long x2] μ (some (.long q)) μ := by
  refine AMet.of (loc := [some (.long x0), none, some (.long x2), none]) pn_Mt_max_JJ (Nat.le_of_ble_eq_true rfl) rfl ?_
  unfold f_Mt_max_JJ at h
  refine aw_lload_n 1 d_Mt_max_JJ_0 rfl rfl ?_
  refine aw_lload_n 2 d_Mt_max_JJ_1 rfl rfl ?_
  refine aw_lcmp 3 d_Mt_max_JJ_2 rfl ?_
  refine aw_if_lt 10 6 d_Mt_max_JJ_3 (by decide) rfl (fun c3 => ?_) (fun c3 => ?_)
  · have h := (if_pos c3).symm.trans h
    refine aw_lload_n 11 d_Mt_max_JJ_10 rfl rfl ?_
    cases h
    exact aw_lreturn d_Mt_max_JJ_11 rfl
  · have h := (if_neg c3).symm.trans h
    refine aw_lload_n 7 d_Mt_max_JJ_6 rfl rfl ?_
    refine aw_goto 11 d_Mt_max_JJ_7 (by decide) ?_
    cases h
    exact aw_lreturn d_Mt_max_JJ_11 rfl
theorem l_Le_chart_5 {l : Launch} {μ0 : MM} {q : MM} {a0 : Nat} {x1 : Int32} {x2 : Int32} : ∀ (n : Nat) (x3 : Int64) (x5 : Int32) (μ : MM), f_Le_chart_L5 a0 x1 x2 n x3 x5 μ = some q → AWm l Y_Le_chart 5 μ0 none q 5 [some (.ref a0), some (.int x1), some (.int x2), some (.long x3), none, some (.int x5)] [] μ := by
  intro n
  induction n with
  | zero =>
    intro x3 x5 μ h
    have h : (none : Option (MM)) = some q := h
    cases h
  | succ n ih =>
    intro x3 x5 μ h
    rw [f_Le_chart_L5] at h
    refine aw_iload 7 d_Le_chart_5 rfl rfl ?_
    refine aw_iload_n 8 d_Le_chart_7 rfl rfl ?_
    refine aw_icmp_gt 47 11 d_Le_chart_8 (by decide) rfl (fun c8 => ?_) (fun c8 => ?_)
    · have h := (if_pos c8).symm.trans h
      cases h
      exact aw_return d_Le_chart_47 rfl
    · have h := (if_neg c8).symm.trans h
      refine aw_lload_n 12 d_Le_chart_11 rfl rfl ?_
      refine aw_aload_n 13 d_Le_chart_12 rfl rfl ?_
      obtain ⟨y13, h13, h⟩ := bnd h
      refine aw_getR 16 d_Le_chart_13 rfl fg_Le_19 rfl h13 ?_
      refine aw_iload 18 d_Le_chart_16 rfl rfl ?_
      obtain ⟨y18, h18, h⟩ := bnd h
      refine aw_invV (rest := [.long x3]) (st' := [.long y18, .long x3]) (As := [.int x5]) 21 d_Le_chart_18 rfl lv_Le_72 (m_Si_off h18) (by decide) (k_Si_off h18) rfl rfl rfl (Nat.le_of_ble_eq_true rfl) rfl ?_
      obtain ⟨y21, h21, h⟩ := bnd h
      refine aw_invS (rest := [.long x3]) (st' := [.long y21, .long x3]) (As := [.long y18]) 24 d_Le_chart_21 rfl ls_Le_76 (m_Mt_abs_J h21) (by decide) rfl rfl (Nat.le_of_ble_eq_true rfl) rfl ?_
      obtain ⟨y24, h24, h⟩ := bnd h
      refine aw_invS (rest := []) (st' := [.long y24]) (As := [.long x3, .long y21]) 27 d_Le_chart_24 rfl ls_Le_62 (m_Mt_max_JJ h24) (by decide) rfl rfl (Nat.le_of_ble_eq_true rfl) rfl ?_
      refine aw_lstore_n (loc' := [some (.ref a0), some (.int x1), some (.int x2), some (.long y24), none, some (.int x5)]) 28 d_Le_chart_27 rfl (by decide) rfl ?_
      refine aw_aload_n 29 d_Le_chart_28 rfl rfl ?_
      obtain ⟨y29, h29, h⟩ := bnd h
      refine aw_getR 32 d_Le_chart_29 rfl fg_Le_9 rfl h29 ?_
      refine aw_iload_n 33 d_Le_chart_32 rfl rfl ?_
      refine aw_bipush (v := (24 : Int32)) 35 d_Le_chart_33 rfl (by decide) ?_
      refine aw_imul 36 d_Le_chart_35 rfl ?_
      refine aw_iload 38 d_Le_chart_36 rfl rfl ?_
      refine aw_iadd 39 d_Le_chart_38 rfl ?_
      refine aw_lload_n 40 d_Le_chart_39 rfl rfl ?_
      obtain ⟨μ40, h40, h⟩ := bnd h
      refine aw_last 41 d_Le_chart_40 rfl h40 ?_
      refine aw_iinc (v := (x5 + (1 : Int32))) (loc' := [some (.ref a0), some (.int x1), some (.int x2), some (.long y24), none, some (.int (x5 + (1 : Int32)))]) 44 d_Le_chart_41 rfl (by decide) rfl rfl rfl ?_
      refine aw_goto 5 d_Le_chart_44 (by decide) ?_
      exact (ih y24 (x5 + (1 : Int32)) μ40 h)
theorem m_Le_chart {l : Launch} {q : MM} {a0 : Nat} {x1 : Int32} {x2 : Int32} {μ : MM} (h : f_Le_chart a0 x1 x2 μ = some q) : AMet l 5 Y_Le_chart [.ref a0, .int x1, .int x2] μ none q := by
  refine AMet.of (loc := [some (.ref a0), some (.int x1), some (.int x2), none, none, none]) pn_Le_chart (Nat.le_of_ble_eq_true rfl) rfl ?_
  unfold f_Le_chart at h
  obtain ⟨_, hk, h⟩ := bnd h
  refine aw_lconst (v := (0 : Int64)) 1 d_Le_chart_0 rfl (by decide) ?_
  refine aw_lstore_n (loc' := [some (.ref a0), some (.int x1), some (.int x2), some (.long (0 : Int64)), none, none]) 2 d_Le_chart_1 rfl (by decide) rfl ?_
  refine aw_iload_n 3 d_Le_chart_2 rfl rfl ?_
  refine aw_istore (loc' := [some (.ref a0), some (.int x1), some (.int x2), some (.long (0 : Int64)), none, some (.int x1)]) 5 d_Le_chart_3 rfl (by decide) rfl ?_
  exact (l_Le_chart_5 FU _ _ _ h)
theorem k_Le_chart {q : MM} {a0 : Nat} {x1 : Int32} {x2 : Int32} {μ : MM} (h : f_Le_chart a0 x1 x2 μ = some q) : μ.1[a0]? = some (0, 4) := by
  unfold f_Le_chart at h
  obtain ⟨_, h1, _⟩ := bnd h
  exact kO_some h1
theorem m_Le_farthest {l : Launch} {q : Int64} {a0 : Nat} {x1 : Int32} {x2 : Int32} {μ : MM} (h : f_Le_farthest a0 x1 x2 μ = some q) : AMet l 1 Y_Le_farthest [.ref a0, .int x1, .int x2] μ (some (.long q)) μ := by
  refine AMet.of (loc := [some (.ref a0), some (.int x1), some (.int x2)]) pn_Le_farthest (Nat.le_of_ble_eq_true rfl) rfl ?_
  unfold f_Le_farthest at h
  obtain ⟨_, hk, h⟩ := bnd h
  refine aw_iload_n 1 d_Le_farthest_0 rfl rfl ?_
  refine aw_iload_n 2 d_Le_farthest_1 rfl rfl ?_
  refine aw_icmp_ge 9 5 d_Le_farthest_2 (by decide) rfl (fun c2 => ?_) (fun c2 => ?_)
  · have h := (if_pos c2).symm.trans h
    refine aw_aload_n 10 d_Le_farthest_9 rfl rfl ?_
    obtain ⟨y10, h10, h⟩ := bnd h
    refine aw_getR 13 d_Le_farthest_10 rfl fg_Le_9 rfl h10 ?_
    refine aw_iload_n 14 d_Le_farthest_13 rfl rfl ?_
    refine aw_bipush (v := (24 : Int32)) 16 d_Le_farthest_14 rfl (by decide) ?_
    refine aw_imul 17 d_Le_farthest_16 rfl ?_
    refine aw_iload_n 18 d_Le_farthest_17 rfl rfl ?_
    refine aw_iadd 19 d_Le_farthest_18 rfl ?_
    obtain ⟨y19, h19, h⟩ := bnd h
    refine aw_lald 20 d_Le_farthest_19 rfl h19 ?_
    cases h
    exact aw_lreturn d_Le_farthest_20 rfl
  · have h := (if_neg c2).symm.trans h
    refine aw_lconst (v := (0 : Int64)) 6 d_Le_farthest_5 rfl (by decide) ?_
    refine aw_goto 20 d_Le_farthest_6 (by decide) ?_
    cases h
    exact aw_lreturn d_Le_farthest_20 rfl
theorem k_Le_farthest {q : Int64} {a0 : Nat} {x1 : Int32} {x2 : Int32} {μ : MM} (h : f_Le_farthest a0 x1 x2 μ = some q) : μ.1[a0]? = some (0, 4) := by
  unfold f_Le_farthest at h
  obtain ⟨_, h1, _⟩ := bnd h
  exact kO_some h1
theorem m_Le_consider {l : Launch} {q : MM} {a0 : Nat} {x1 : Int32} {x2 : Int64} {μ : MM} (h : f_Le_consider a0 x1 x2 μ = some q) : AMet l 1 Y_Le_consider [.ref a0, .int x1, .long x2] μ none q := by
  refine AMet.of (loc := [some (.ref a0), some (.int x1), some (.long x2), none]) pn_Le_consider (Nat.le_of_ble_eq_true rfl) rfl ?_
  unfold f_Le_consider at h
  obtain ⟨_, hk, h⟩ := bnd h
  refine aw_lload_n 1 d_Le_consider_0 rfl rfl ?_
  refine aw_aload_n 2 d_Le_consider_1 rfl rfl ?_
  obtain ⟨y2, h2, h⟩ := bnd h
  refine aw_getL 5 d_Le_consider_2 rfl fg_Le_54 rfl h2 ?_
  refine aw_lcmp 6 d_Le_consider_5 rfl ?_
  refine aw_if_ge 19 9 d_Le_consider_6 (by decide) rfl (fun c6 => ?_) (fun c6 => ?_)
  · have h := (if_pos c6).symm.trans h
    cases h
    exact aw_return d_Le_consider_19 rfl
  · have h := (if_neg c6).symm.trans h
    refine aw_aload_n 10 d_Le_consider_9 rfl rfl ?_
    refine aw_iload_n 11 d_Le_consider_10 rfl rfl ?_
    obtain ⟨μ11, h11, h⟩ := bnd h
    refine aw_putI 14 false d_Le_consider_11 rfl fp_Le_46 (fun z => nomatch z) rfl h11 ?_
    refine aw_aload_n 15 d_Le_consider_14 rfl rfl ?_
    refine aw_lload_n 16 d_Le_consider_15 rfl rfl ?_
    obtain ⟨μ16, h16, h⟩ := bnd h
    refine aw_putL 19 false d_Le_consider_16 rfl fp_Le_54 (fun z => nomatch z) rfl h16 ?_
    cases h
    exact aw_return d_Le_consider_19 rfl
theorem k_Le_consider {q : MM} {a0 : Nat} {x1 : Int32} {x2 : Int64} {μ : MM} (h : f_Le_consider a0 x1 x2 μ = some q) : μ.1[a0]? = some (0, 4) := by
  unfold f_Le_consider at h
  obtain ⟨_, h1, _⟩ := bnd h
  exact kO_some h1
theorem l_Le_find_175 {l : Launch} {μ0 : MM} {q : MM} {a0 : Nat} {x1 : Int32} {x2 : Int32} {x3 : Int32} {x4 : Int32} {x5 : Int32} {x6 : Int32} {x7 : Int32} {k100 : Int32 → MM → Option (MM)} (hk100 : ∀ (x4 : Int32) (μ : MM), k100 x4 μ = some q → AWm l Y_Le_find 7 μ0 none q 100 [some (.ref a0), some (.int x1), some (.int x2), some (.int x3), some (.int x4), none, none, none, none, none, none, none, none] [] μ) {k137 : Int32 → MM → Option (MM)} (hk137 : ∀ (x6 : Int32) (μ : MM), k137 x6 μ = some q → AWm l Y_Le_find 7 μ0 none q 137 [some (.ref a0), some (.int x1), some (.int x2), some (.int x3), some (.int x4), some (.int x5), some (.int x6), none, none, none, none, none, none] [] μ) : ∀ (n : Nat) (x8 : Int32) (μ : MM), f_Le_find_L175 k100 k137 a0 x1 x2 x3 x4 x5 x6 x7 n x8 μ = some q → AWm l Y_Le_find 7 μ0 none q 175 [some (.ref a0), some (.int x1), some (.int x2), some (.int x3), some (.int x4), some (.int x5), some (.int x6), some (.int x7), some (.int x8), none, none, none, none] [] μ := by
  intro n
  induction n with
  | zero =>
    intro x8 μ h
    have h : (none : Option (MM)) = some q := h
    cases h
  | succ n ih =>
    intro x8 μ h
    rw [f_Le_find_L175] at h
    refine aw_iload 177 d_Le_find_175 rfl rfl ?_
    refine aw_iload 179 d_Le_find_177 rfl rfl ?_
    refine aw_icmp_gt 259 182 d_Le_find_179 (by decide) rfl (fun c179 => ?_) (fun c179 => ?_)
    · have h := (if_pos c179).symm.trans h
      refine aw_iinc (v := (x6 + (1 : Int32))) (loc' := [some (.ref a0), some (.int x1), some (.int x2), some (.int x3), some (.int x4), some (.int x5), some (.int (x6 + (1 : Int32))), some (.int x7), some (.int x8), none, none, none, none]) 262 d_Le_find_259 rfl (by decide) rfl rfl rfl ?_
      refine aw_goto 137 d_Le_find_262 (by decide) ?_
      exact AW.wk [true, true, true, true, true, true, true, false, false, true, true, true, true] rfl (hk137 (x6 + (1 : Int32)) μ h)
    · have h := (if_neg c179).symm.trans h
      refine aw_aload_n 183 d_Le_find_182 rfl rfl ?_
      refine aw_iconst (v := (0 : Int32)) 184 d_Le_find_183 rfl (by decide) ?_
      refine aw_iload 186 d_Le_find_184 rfl rfl ?_
      refine aw_iconst (v := (1 : Int32)) 187 d_Le_find_186 rfl (by decide) ?_
      refine aw_isub 188 d_Le_find_187 rfl ?_
      obtain ⟨y188, h188, h⟩ := bnd h
      refine aw_invV (rest := []) (st' := [.long y188]) (As := [.int (0 : Int32), .int (x8 - (1 : Int32))]) 191 d_Le_find_188 rfl lv_Le_58 (m_Le_farthest h188) (by decide) (k_Le_farthest h188) rfl rfl rfl (Nat.le_of_ble_eq_true rfl) rfl ?_
      refine aw_aload_n 192 d_Le_find_191 rfl rfl ?_
      refine aw_iload 194 d_Le_find_192 rfl rfl ?_
      refine aw_iload 196 d_Le_find_194 rfl rfl ?_
      refine aw_iconst (v := (1 : Int32)) 197 d_Le_find_196 rfl (by decide) ?_
      refine aw_isub 198 d_Le_find_197 rfl ?_
      obtain ⟨y198, h198, h⟩ := bnd h
      refine aw_invV (rest := [.long y188]) (st' := [.long y198, .long y188]) (As := [.int x8, .int (x6 - (1 : Int32))]) 201 d_Le_find_198 rfl lv_Le_58 (m_Le_farthest h198) (by decide) (k_Le_farthest h198) rfl rfl rfl (Nat.le_of_ble_eq_true rfl) rfl ?_
      obtain ⟨y201, h201, h⟩ := bnd h
      refine aw_invS (rest := []) (st' := [.long y201]) (As := [.long y188, .long y198]) 204 d_Le_find_201 rfl ls_Le_62 (m_Mt_max_JJ h201) (by decide) rfl rfl (Nat.le_of_ble_eq_true rfl) rfl ?_
      refine aw_lstore (loc' := [some (.ref a0), some (.int x1), some (.int x2), some (.int x3), some (.int x4), some (.int x5), some (.int x6), some (.int x7), some (.int x8), some (.long y201), none, none, none]) 206 d_Le_find_204 rfl (by decide) rfl ?_
      refine aw_aload_n 207 d_Le_find_206 rfl rfl ?_
      refine aw_iload 209 d_Le_find_207 rfl rfl ?_
      refine aw_iload 211 d_Le_find_209 rfl rfl ?_
      refine aw_iconst (v := (1 : Int32)) 212 d_Le_find_211 rfl (by decide) ?_
      refine aw_isub 213 d_Le_find_212 rfl ?_
      obtain ⟨y213, h213, h⟩ := bnd h
      refine aw_invV (rest := []) (st' := [.long y213]) (As := [.int x6, .int (x4 - (1 : Int32))]) 216 d_Le_find_213 rfl lv_Le_58 (m_Le_farthest h213) (by decide) (k_Le_farthest h213) rfl rfl rfl (Nat.le_of_ble_eq_true rfl) rfl ?_
      refine aw_aload_n 217 d_Le_find_216 rfl rfl ?_
      refine aw_iload 219 d_Le_find_217 rfl rfl ?_
      refine aw_iload_n 220 d_Le_find_219 rfl rfl ?_
      obtain ⟨y220, h220, h⟩ := bnd h
      refine aw_invV (rest := [.long y213]) (st' := [.long y220, .long y213]) (As := [.int x4, .int x3]) 223 d_Le_find_220 rfl lv_Le_58 (m_Le_farthest h220) (by decide) (k_Le_farthest h220) rfl rfl rfl (Nat.le_of_ble_eq_true rfl) rfl ?_
      obtain ⟨y223, h223, h⟩ := bnd h
      refine aw_invS (rest := []) (st' := [.long y223]) (As := [.long y213, .long y220]) 226 d_Le_find_223 rfl ls_Le_62 (m_Mt_max_JJ h223) (by decide) rfl rfl (Nat.le_of_ble_eq_true rfl) rfl ?_
      refine aw_lstore (loc' := [some (.ref a0), some (.int x1), some (.int x2), some (.int x3), some (.int x4), some (.int x5), some (.int x6), some (.int x7), some (.int x8), some (.long y201), none, some (.long y223), none]) 228 d_Le_find_226 rfl (by decide) rfl ?_
      refine aw_aload_n 229 d_Le_find_228 rfl rfl ?_
      refine aw_iconst (v := (1 : Int32)) 230 d_Le_find_229 rfl (by decide) ?_
      refine aw_iload 232 d_Le_find_230 rfl rfl ?_
      refine aw_ishl 233 d_Le_find_232 rfl ?_
      refine aw_iconst (v := (1 : Int32)) 234 d_Le_find_233 rfl (by decide) ?_
      refine aw_iload 236 d_Le_find_234 rfl rfl ?_
      refine aw_ishl 237 d_Le_find_236 rfl ?_
      refine aw_ior 238 d_Le_find_237 rfl ?_
      refine aw_iconst (v := (1 : Int32)) 239 d_Le_find_238 rfl (by decide) ?_
      refine aw_iload 241 d_Le_find_239 rfl rfl ?_
      refine aw_ishl 242 d_Le_find_241 rfl ?_
      refine aw_ior 243 d_Le_find_242 rfl ?_
      refine aw_lload 245 d_Le_find_243 rfl rfl ?_
      refine aw_lload 247 d_Le_find_245 rfl rfl ?_
      obtain ⟨y247, h247, h⟩ := bnd h
      refine aw_invS (rest := [.int (((ishl (1 : Int32) x8) ||| (ishl (1 : Int32) x6)) ||| (ishl (1 : Int32) x4)), .ref a0]) (st' := [.long y247, .int (((ishl (1 : Int32) x8) ||| (ishl (1 : Int32) x6)) ||| (ishl (1 : Int32) x4)), .ref a0]) (As := [.long y201, .long y223]) 250 d_Le_find_247 rfl ls_Le_62 (m_Mt_max_JJ h247) (by decide) rfl rfl (Nat.le_of_ble_eq_true rfl) rfl ?_
      obtain ⟨μ250, h250, h⟩ := bnd h
      refine aw_invV (rest := []) (st' := []) (As := [.int (((ishl (1 : Int32) x8) ||| (ishl (1 : Int32) x6)) ||| (ishl (1 : Int32) x4)), .long y247]) 253 d_Le_find_250 rfl lv_Le_68 (m_Le_consider h250) (by decide) (k_Le_consider h250) rfl rfl rfl (Nat.le_of_ble_eq_true rfl) rfl ?_
      refine aw_iinc (v := (x8 + (1 : Int32))) (loc' := [some (.ref a0), some (.int x1), some (.int x2), some (.int x3), some (.int x4), some (.int x5), some (.int x6), some (.int x7), some (.int (x8 + (1 : Int32))), some (.long y201), none, some (.long y223), none]) 256 d_Le_find_253 rfl (by decide) rfl rfl rfl ?_
      refine aw_goto 175 d_Le_find_256 (by decide) ?_
      exact AW.wk [true, true, true, true, true, true, true, true, true, false, true, false, true] rfl (ih (x8 + (1 : Int32)) μ250 h)
theorem j_Le_find_173 {l : Launch} {μ0 : MM} {q : MM} {a0 : Nat} {x1 : Int32} {x2 : Int32} {x3 : Int32} {x4 : Int32} {x5 : Int32} {x6 : Int32} {x7 : Int32} {s0 : Int32} {μ : MM} {k100 : Int32 → MM → Option (MM)} (hk100 : ∀ (x4 : Int32) (μ : MM), k100 x4 μ = some q → AWm l Y_Le_find 7 μ0 none q 100 [some (.ref a0), some (.int x1), some (.int x2), some (.int x3), some (.int x4), none, none, none, none, none, none, none, none] [] μ) {k137 : Int32 → MM → Option (MM)} (hk137 : ∀ (x6 : Int32) (μ : MM), k137 x6 μ = some q → AWm l Y_Le_find 7 μ0 none q 137 [some (.ref a0), some (.int x1), some (.int x2), some (.int x3), some (.int x4), some (.int x5), some (.int x6), none, none, none, none, none, none] [] μ) (h : f_Le_find_J173 k100 k137 a0 x1 x2 x3 x4 x5 x6 x7 s0 μ = some q) : AWm l Y_Le_find 7 μ0 none q 173 [some (.ref a0), some (.int x1), some (.int x2), some (.int x3), some (.int x4), some (.int x5), some (.int x6), some (.int x7), none, none, none, none, none] [.int s0] μ := by
  unfold f_Le_find_J173 at h
  refine aw_istore (loc' := [some (.ref a0), some (.int x1), some (.int x2), some (.int x3), some (.int x4), some (.int x5), some (.int x6), some (.int x7), some (.int s0), none, none, none, none]) 175 d_Le_find_173 rfl (by decide) rfl ?_
  exact (l_Le_find_175 hk100 hk137 FU _ _ h)
theorem j_Le_find_158 {l : Launch} {μ0 : MM} {q : MM} {a0 : Nat} {x1 : Int32} {x2 : Int32} {x3 : Int32} {x4 : Int32} {x5 : Int32} {x6 : Int32} {s0 : Int32} {μ : MM} {k100 : Int32 → MM → Option (MM)} (hk100 : ∀ (x4 : Int32) (μ : MM), k100 x4 μ = some q → AWm l Y_Le_find 7 μ0 none q 100 [some (.ref a0), some (.int x1), some (.int x2), some (.int x3), some (.int x4), none, none, none, none, none, none, none, none] [] μ) {k137 : Int32 → MM → Option (MM)} (hk137 : ∀ (x6 : Int32) (μ : MM), k137 x6 μ = some q → AWm l Y_Le_find 7 μ0 none q 137 [some (.ref a0), some (.int x1), some (.int x2), some (.int x3), some (.int x4), some (.int x5), some (.int x6), none, none, none, none, none, none] [] μ) (h : f_Le_find_J158 k100 k137 a0 x1 x2 x3 x4 x5 x6 s0 μ = some q) : AWm l Y_Le_find 7 μ0 none q 158 [some (.ref a0), some (.int x1), some (.int x2), some (.int x3), some (.int x4), some (.int x5), some (.int x6), none, none, none, none, none, none] [.int s0] μ := by
  unfold f_Le_find_J158 at h
  refine aw_istore (loc' := [some (.ref a0), some (.int x1), some (.int x2), some (.int x3), some (.int x4), some (.int x5), some (.int x6), some (.int s0), none, none, none, none, none]) 160 d_Le_find_158 rfl (by decide) rfl ?_
  refine aw_iload_n 161 d_Le_find_160 rfl rfl ?_
  refine aw_iconst (v := (2 : Int32)) 162 d_Le_find_161 rfl (by decide) ?_
  refine aw_icmp_le 171 165 d_Le_find_162 (by decide) rfl (fun c162 => ?_) (fun c162 => ?_)
  · have h := (if_pos c162).symm.trans h
    refine aw_iload 173 d_Le_find_171 rfl rfl ?_
    exact (j_Le_find_173 hk100 hk137 h)
  · have h := (if_neg c162).symm.trans h
    refine aw_iload_n 166 d_Le_find_165 rfl rfl ?_
    refine aw_iconst (v := (1 : Int32)) 167 d_Le_find_166 rfl (by decide) ?_
    refine aw_iadd 168 d_Le_find_167 rfl ?_
    refine aw_goto 173 d_Le_find_168 (by decide) ?_
    exact (j_Le_find_173 hk100 hk137 h)
theorem l_Le_find_137 {l : Launch} {μ0 : MM} {q : MM} {a0 : Nat} {x1 : Int32} {x2 : Int32} {x3 : Int32} {x4 : Int32} {x5 : Int32} {k100 : Int32 → MM → Option (MM)} (hk100 : ∀ (x4 : Int32) (μ : MM), k100 x4 μ = some q → AWm l Y_Le_find 7 μ0 none q 100 [some (.ref a0), some (.int x1), some (.int x2), some (.int x3), some (.int x4), none, none, none, none, none, none, none, none] [] μ) : ∀ (n : Nat) (x6 : Int32) (μ : MM), f_Le_find_L137 k100 a0 x1 x2 x3 x4 x5 n x6 μ = some q → AWm l Y_Le_find 7 μ0 none q 137 [some (.ref a0), some (.int x1), some (.int x2), some (.int x3), some (.int x4), some (.int x5), some (.int x6), none, none, none, none, none, none] [] μ := by
  intro n
  induction n with
  | zero =>
    intro x6 μ h
    have h : (none : Option (MM)) = some q := h
    cases h
  | succ n ih =>
    intro x6 μ h
    rw [f_Le_find_L137] at h
    refine aw_iload 139 d_Le_find_137 rfl rfl ?_
    refine aw_iload 141 d_Le_find_139 rfl rfl ?_
    refine aw_icmp_gt 265 144 d_Le_find_141 (by decide) rfl (fun c141 => ?_) (fun c141 => ?_)
    · have h := (if_pos c141).symm.trans h
      refine aw_iinc (v := (x4 + (1 : Int32))) (loc' := [some (.ref a0), some (.int x1), some (.int x2), some (.int x3), some (.int (x4 + (1 : Int32))), some (.int x5), some (.int x6), none, none, none, none, none, none]) 268 d_Le_find_265 rfl (by decide) rfl rfl rfl ?_
      refine aw_goto 100 d_Le_find_268 (by decide) ?_
      exact AW.wk [true, true, true, true, true, false, false, true, true, true, true, true, true] rfl (hk100 (x4 + (1 : Int32)) μ h)
    · have h := (if_neg c141).symm.trans h
      refine aw_iload_n 145 d_Le_find_144 rfl rfl ?_
      refine aw_iconst (v := (2 : Int32)) 146 d_Le_find_145 rfl (by decide) ?_
      refine aw_icmp_le 156 149 d_Le_find_146 (by decide) rfl (fun c146 => ?_) (fun c146 => ?_)
      · have h := (if_pos c146).symm.trans h
        refine aw_iload 158 d_Le_find_156 rfl rfl ?_
        exact (j_Le_find_158 hk100 ih h)
      · have h := (if_neg c146).symm.trans h
        refine aw_iload 151 d_Le_find_149 rfl rfl ?_
        refine aw_iconst (v := (1 : Int32)) 152 d_Le_find_151 rfl (by decide) ?_
        refine aw_isub 153 d_Le_find_152 rfl ?_
        refine aw_goto 158 d_Le_find_153 (by decide) ?_
        exact (j_Le_find_158 hk100 ih h)
theorem j_Le_find_135 {l : Launch} {μ0 : MM} {q : MM} {a0 : Nat} {x1 : Int32} {x2 : Int32} {x3 : Int32} {x4 : Int32} {x5 : Int32} {s0 : Int32} {μ : MM} {k100 : Int32 → MM → Option (MM)} (hk100 : ∀ (x4 : Int32) (μ : MM), k100 x4 μ = some q → AWm l Y_Le_find 7 μ0 none q 100 [some (.ref a0), some (.int x1), some (.int x2), some (.int x3), some (.int x4), none, none, none, none, none, none, none, none] [] μ) (h : f_Le_find_J135 k100 a0 x1 x2 x3 x4 x5 s0 μ = some q) : AWm l Y_Le_find 7 μ0 none q 135 [some (.ref a0), some (.int x1), some (.int x2), some (.int x3), some (.int x4), some (.int x5), none, none, none, none, none, none, none] [.int s0] μ := by
  unfold f_Le_find_J135 at h
  refine aw_istore (loc' := [some (.ref a0), some (.int x1), some (.int x2), some (.int x3), some (.int x4), some (.int x5), some (.int s0), none, none, none, none, none, none]) 137 d_Le_find_135 rfl (by decide) rfl ?_
  exact (l_Le_find_137 hk100 FU _ _ h)
theorem j_Le_find_120 {l : Launch} {μ0 : MM} {q : MM} {a0 : Nat} {x1 : Int32} {x2 : Int32} {x3 : Int32} {x4 : Int32} {s0 : Int32} {μ : MM} {k100 : Int32 → MM → Option (MM)} (hk100 : ∀ (x4 : Int32) (μ : MM), k100 x4 μ = some q → AWm l Y_Le_find 7 μ0 none q 100 [some (.ref a0), some (.int x1), some (.int x2), some (.int x3), some (.int x4), none, none, none, none, none, none, none, none] [] μ) (h : f_Le_find_J120 k100 a0 x1 x2 x3 x4 s0 μ = some q) : AWm l Y_Le_find 7 μ0 none q 120 [some (.ref a0), some (.int x1), some (.int x2), some (.int x3), some (.int x4), none, none, none, none, none, none, none, none] [.int s0] μ := by
  unfold f_Le_find_J120 at h
  refine aw_istore (loc' := [some (.ref a0), some (.int x1), some (.int x2), some (.int x3), some (.int x4), some (.int s0), none, none, none, none, none, none, none]) 122 d_Le_find_120 rfl (by decide) rfl ?_
  refine aw_iload_n 123 d_Le_find_122 rfl rfl ?_
  refine aw_iconst (v := (1 : Int32)) 124 d_Le_find_123 rfl (by decide) ?_
  refine aw_icmp_le 133 127 d_Le_find_124 (by decide) rfl (fun c124 => ?_) (fun c124 => ?_)
  · have h := (if_pos c124).symm.trans h
    refine aw_iload 135 d_Le_find_133 rfl rfl ?_
    exact (j_Le_find_135 hk100 h)
  · have h := (if_neg c124).symm.trans h
    refine aw_iload_n 128 d_Le_find_127 rfl rfl ?_
    refine aw_iconst (v := (1 : Int32)) 129 d_Le_find_128 rfl (by decide) ?_
    refine aw_iadd 130 d_Le_find_129 rfl ?_
    refine aw_goto 135 d_Le_find_130 (by decide) ?_
    exact (j_Le_find_135 hk100 h)
theorem l_Le_find_100 {l : Launch} {μ0 : MM} {q : MM} {a0 : Nat} {x1 : Int32} {x2 : Int32} {x3 : Int32} : ∀ (n : Nat) (x4 : Int32) (μ : MM), f_Le_find_L100 a0 x1 x2 x3 n x4 μ = some q → AWm l Y_Le_find 7 μ0 none q 100 [some (.ref a0), some (.int x1), some (.int x2), some (.int x3), some (.int x4), none, none, none, none, none, none, none, none] [] μ := by
  intro n
  induction n with
  | zero =>
    intro x4 μ h
    have h : (none : Option (MM)) = some q := h
    cases h
  | succ n ih =>
    intro x4 μ h
    rw [f_Le_find_L100] at h
    refine aw_iload 102 d_Le_find_100 rfl rfl ?_
    refine aw_iload_n 103 d_Le_find_102 rfl rfl ?_
    refine aw_icmp_gt 271 106 d_Le_find_103 (by decide) rfl (fun c103 => ?_) (fun c103 => ?_)
    · have h := (if_pos c103).symm.trans h
      cases h
      exact aw_return d_Le_find_271 rfl
    · have h := (if_neg c103).symm.trans h
      refine aw_iload_n 107 d_Le_find_106 rfl rfl ?_
      refine aw_iconst (v := (1 : Int32)) 108 d_Le_find_107 rfl (by decide) ?_
      refine aw_icmp_le 118 111 d_Le_find_108 (by decide) rfl (fun c108 => ?_) (fun c108 => ?_)
      · have h := (if_pos c108).symm.trans h
        refine aw_iload 120 d_Le_find_118 rfl rfl ?_
        exact (j_Le_find_120 ih h)
      · have h := (if_neg c108).symm.trans h
        refine aw_iload 113 d_Le_find_111 rfl rfl ?_
        refine aw_iconst (v := (1 : Int32)) 114 d_Le_find_113 rfl (by decide) ?_
        refine aw_isub 115 d_Le_find_114 rfl ?_
        refine aw_goto 120 d_Le_find_115 (by decide) ?_
        exact (j_Le_find_120 ih h)
theorem l_Le_find_44 {l : Launch} {μ0 : MM} {q : MM} {a0 : Nat} {x1 : Int32} {x2 : Int32} {x3 : Int32} : ∀ (n : Nat) (x4 : Int32) (μ : MM), f_Le_find_L44 a0 x1 x2 x3 n x4 μ = some q → AWm l Y_Le_find 7 μ0 none q 44 [some (.ref a0), some (.int x1), some (.int x2), some (.int x3), some (.int x4), none, none, none, none, none, none, none, none] [] μ := by
  intro n
  induction n with
  | zero =>
    intro x4 μ h
    have h : (none : Option (MM)) = some q := h
    cases h
  | succ n ih =>
    intro x4 μ h
    rw [f_Le_find_L44] at h
    refine aw_iload 46 d_Le_find_44 rfl rfl ?_
    refine aw_iload_n 47 d_Le_find_46 rfl rfl ?_
    refine aw_icmp_gt 83 50 d_Le_find_47 (by decide) rfl (fun c47 => ?_) (fun c47 => ?_)
    · have h := (if_pos c47).symm.trans h
      refine aw_aload_n 84 d_Le_find_83 rfl rfl ?_
      refine aw_iconst (v := (0 : Int32)) 85 d_Le_find_84 rfl (by decide) ?_
      obtain ⟨μ85, h85, h⟩ := bnd h
      refine aw_putI 88 false d_Le_find_85 rfl fp_Le_46 (fun z => nomatch z) rfl h85 ?_
      refine aw_aload_n 89 d_Le_find_88 rfl rfl ?_
      refine aw_ldc2 (v := (9223372036854775807 : Int64)) 92 d_Le_find_89 rfl c_Le_52 ?_
      obtain ⟨μ92, h92, h⟩ := bnd h
      refine aw_putL 95 false d_Le_find_92 rfl fp_Le_54 (fun z => nomatch z) rfl h92 ?_
      refine aw_iload_n 96 d_Le_find_95 rfl rfl ?_
      refine aw_iconst (v := (1 : Int32)) 97 d_Le_find_96 rfl (by decide) ?_
      refine aw_iadd 98 d_Le_find_97 rfl ?_
      refine aw_istore (loc' := [some (.ref a0), some (.int x1), some (.int x2), some (.int x3), some (.int (x2 + (1 : Int32))), none, none, none, none, none, none, none, none]) 100 d_Le_find_98 rfl (by decide) rfl ?_
      exact (l_Le_find_100 FU _ _ h)
    · have h := (if_neg c47).symm.trans h
      refine aw_aload_n 51 d_Le_find_50 rfl rfl ?_
      obtain ⟨y51, h51, h⟩ := bnd h
      refine aw_getR 54 d_Le_find_51 rfl fg_Le_19 rfl h51 ?_
      refine aw_aload_n 55 d_Le_find_54 rfl rfl ?_
      obtain ⟨y55, h55, h⟩ := bnd h
      refine aw_getR 58 d_Le_find_55 rfl fg_Le_15 rfl h55 ?_
      obtain ⟨y58, h58, h⟩ := bnd h
      refine aw_getR 61 d_Le_find_58 rfl fg_Le_32 rfl h58 ?_
      refine aw_iconst (v := (1 : Int32)) 62 d_Le_find_61 rfl (by decide) ?_
      refine aw_iload 64 d_Le_find_62 rfl rfl ?_
      refine aw_ishl 65 d_Le_find_64 rfl ?_
      refine aw_iconst (v := (0 : Int32)) 66 d_Le_find_65 rfl (by decide) ?_
      refine aw_iconst (v := (0 : Int32)) 67 d_Le_find_66 rfl (by decide) ?_
      obtain ⟨μ67, h67, h⟩ := bnd h
      refine aw_invV (rest := []) (st' := []) (As := [.ref y58, .int (ishl (1 : Int32) x4), .int (0 : Int32), .int (0 : Int32)]) 70 d_Le_find_67 rfl lv_Le_36 (m_Si_sing h67) (by decide) (k_Si_sing h67) rfl rfl rfl (Nat.le_of_ble_eq_true rfl) rfl ?_
      refine aw_aload_n 71 d_Le_find_70 rfl rfl ?_
      refine aw_iload 73 d_Le_find_71 rfl rfl ?_
      refine aw_iload_n 74 d_Le_find_73 rfl rfl ?_
      obtain ⟨μ74, h74, h⟩ := bnd h
      refine aw_invV (rest := []) (st' := []) (As := [.int x4, .int x3]) 77 d_Le_find_74 rfl lv_Le_42 (m_Le_chart h74) (by decide) (k_Le_chart h74) rfl rfl rfl (Nat.le_of_ble_eq_true rfl) rfl ?_
      refine aw_iinc (v := (x4 + (1 : Int32))) (loc' := [some (.ref a0), some (.int x1), some (.int x2), some (.int x3), some (.int (x4 + (1 : Int32))), none, none, none, none, none, none, none, none]) 80 d_Le_find_77 rfl (by decide) rfl rfl rfl ?_
      refine aw_goto 44 d_Le_find_80 (by decide) ?_
      exact (ih (x4 + (1 : Int32)) μ74 h)
theorem m_Le_find {l : Launch} {q : MM} {a0 : Nat} {x1 : Int32} {μ : MM} (h : f_Le_find a0 x1 μ = some q) : AMet l 7 Y_Le_find [.ref a0, .int x1] μ none q := by
  refine AMet.of (loc := [some (.ref a0), some (.int x1), none, none, none, none, none, none, none, none, none, none, none]) pn_Le_find (Nat.le_of_ble_eq_true rfl) rfl ?_
  unfold f_Le_find at h
  obtain ⟨_, hk, h⟩ := bnd h
  refine aw_aload_n 1 d_Le_find_0 rfl rfl ?_
  obtain ⟨y1, h1, h⟩ := bnd h
  refine aw_getR 4 d_Le_find_1 rfl fg_Le_15 rfl h1 ?_
  obtain ⟨y4, h4, h⟩ := bnd h
  refine aw_invV (rest := []) (st' := [.int y4]) (As := []) 7 d_Le_find_4 rfl lv_Le_23 (m_Ch_firstBeat h4) (by decide) (k_Ch_firstBeat h4) rfl rfl rfl (Nat.le_of_ble_eq_true rfl) rfl ?_
  refine aw_istore_n (loc' := [some (.ref a0), some (.int x1), some (.int y4), none, none, none, none, none, none, none, none, none, none]) 8 d_Le_find_7 rfl (by decide) rfl ?_
  refine aw_aload_n 9 d_Le_find_8 rfl rfl ?_
  obtain ⟨y9, h9, h⟩ := bnd h
  refine aw_getR 12 d_Le_find_9 rfl fg_Le_15 rfl h9 ?_
  obtain ⟨y12, h12, h⟩ := bnd h
  refine aw_invV (rest := []) (st' := [.int y12]) (As := []) 15 d_Le_find_12 rfl lv_Le_29 (m_Ch_lastBeat h12) (by decide) (k_Ch_lastBeat h12) rfl rfl rfl (Nat.le_of_ble_eq_true rfl) rfl ?_
  refine aw_istore_n (loc' := [some (.ref a0), some (.int x1), some (.int y4), some (.int y12), none, none, none, none, none, none, none, none, none]) 16 d_Le_find_15 rfl (by decide) rfl ?_
  refine aw_aload_n 17 d_Le_find_16 rfl rfl ?_
  obtain ⟨y17, h17, h⟩ := bnd h
  refine aw_getR 20 d_Le_find_17 rfl fg_Le_19 rfl h17 ?_
  refine aw_aload_n 21 d_Le_find_20 rfl rfl ?_
  obtain ⟨y21, h21, h⟩ := bnd h
  refine aw_getR 24 d_Le_find_21 rfl fg_Le_15 rfl h21 ?_
  obtain ⟨y24, h24, h⟩ := bnd h
  refine aw_getR 27 d_Le_find_24 rfl fg_Le_32 rfl h24 ?_
  refine aw_iconst (v := (0 : Int32)) 28 d_Le_find_27 rfl (by decide) ?_
  refine aw_iconst (v := (0 : Int32)) 29 d_Le_find_28 rfl (by decide) ?_
  refine aw_iconst (v := (0 : Int32)) 30 d_Le_find_29 rfl (by decide) ?_
  obtain ⟨μ30, h30, h⟩ := bnd h
  refine aw_invV (rest := []) (st' := []) (As := [.ref y24, .int (0 : Int32), .int (0 : Int32), .int (0 : Int32)]) 33 d_Le_find_30 rfl lv_Le_36 (m_Si_sing h30) (by decide) (k_Si_sing h30) rfl rfl rfl (Nat.le_of_ble_eq_true rfl) rfl ?_
  refine aw_aload_n 34 d_Le_find_33 rfl rfl ?_
  refine aw_iconst (v := (0 : Int32)) 35 d_Le_find_34 rfl (by decide) ?_
  refine aw_iload_n 36 d_Le_find_35 rfl rfl ?_
  obtain ⟨μ36, h36, h⟩ := bnd h
  refine aw_invV (rest := []) (st' := []) (As := [.int (0 : Int32), .int y12]) 39 d_Le_find_36 rfl lv_Le_42 (m_Le_chart h36) (by decide) (k_Le_chart h36) rfl rfl rfl (Nat.le_of_ble_eq_true rfl) rfl ?_
  refine aw_iload_n 40 d_Le_find_39 rfl rfl ?_
  refine aw_iconst (v := (1 : Int32)) 41 d_Le_find_40 rfl (by decide) ?_
  refine aw_iadd 42 d_Le_find_41 rfl ?_
  refine aw_istore (loc' := [some (.ref a0), some (.int x1), some (.int y4), some (.int y12), some (.int (y4 + (1 : Int32))), none, none, none, none, none, none, none, none]) 44 d_Le_find_42 rfl (by decide) rfl ?_
  exact (l_Le_find_44 FU _ _ h)
theorem k_Le_find {q : MM} {a0 : Nat} {x1 : Int32} {μ : MM} (h : f_Le_find a0 x1 μ = some q) : μ.1[a0]? = some (0, 4) := by
  unfold f_Le_find at h
  obtain ⟨_, h1, _⟩ := bnd h
  exact kO_some h1
theorem j_X_leader_30 {l : Launch} {μ0 : MM} {q : Int64 × MM} {μ : MM} (h : f_X_leader_J30 μ = some q) : AWm l Y_X_leader 8 μ0 (some (.long q.1)) q.2 30 [none, none, none] [] μ := by
  unfold f_X_leader_J30 at h
  refine aw_ldc2 (v := (-1 : Int64)) 33 d_X_leader_30 rfl c_X_286 ?_
  cases h
  exact aw_lreturn d_X_leader_33 rfl
theorem m_X_leader {l : Launch} {q : Int64 × MM} {a0 : Nat} {x1 : Int32} {x2 : Int32} {μ : MM} (h : f_X_leader a0 x1 x2 μ = some q) : AMet l 8 Y_X_leader [.ref a0, .int x1, .int x2] μ (some (.long q.1)) q.2 := by
  refine AMet.of (loc := [some (.ref a0), some (.int x1), some (.int x2)]) pn_X_leader (Nat.le_of_ble_eq_true rfl) rfl ?_
  unfold f_X_leader at h
  obtain ⟨_, hk, h⟩ := bnd h
  refine aw_iload_n 1 d_X_leader_0 rfl rfl ?_
  refine aw_iconst (v := (1 : Int32)) 2 d_X_leader_1 rfl (by decide) ?_
  refine aw_icmp_lt 30 5 d_X_leader_2 (by decide) rfl (fun c2 => ?_) (fun c2 => ?_)
  · have h := (if_pos c2).symm.trans h
    exact AW.wk [false, false, false] rfl (j_X_leader_30 h)
  · have h := (if_neg c2).symm.trans h
    refine aw_iload_n 6 d_X_leader_5 rfl rfl ?_
    refine aw_iconst (v := (3 : Int32)) 7 d_X_leader_6 rfl (by decide) ?_
    refine aw_icmp_gt 30 10 d_X_leader_7 (by decide) rfl (fun c7 => ?_) (fun c7 => ?_)
    · have h := (if_pos c7).symm.trans h
      exact AW.wk [false, false, false] rfl (j_X_leader_30 h)
    · have h := (if_neg c7).symm.trans h
      refine aw_iload_n 11 d_X_leader_10 rfl rfl ?_
      refine aw_if_lt 30 14 d_X_leader_11 (by decide) rfl (fun c11 => ?_) (fun c11 => ?_)
      · have h := (if_pos c11).symm.trans h
        exact AW.wk [false, false, false] rfl (j_X_leader_30 h)
      · have h := (if_neg c11).symm.trans h
        refine aw_iload_n 15 d_X_leader_14 rfl rfl ?_
        refine aw_iconst (v := (1 : Int32)) 16 d_X_leader_15 rfl (by decide) ?_
        refine aw_icmp_gt 30 19 d_X_leader_16 (by decide) rfl (fun c16 => ?_) (fun c16 => ?_)
        · have h := (if_pos c16).symm.trans h
          exact AW.wk [false, false, false] rfl (j_X_leader_30 h)
        · have h := (if_neg c16).symm.trans h
          refine aw_aload_n 20 d_X_leader_19 rfl rfl ?_
          obtain ⟨y20, h20, h⟩ := bnd h
          refine aw_getR 23 d_X_leader_20 rfl fg_X_21 rfl h20 ?_
          obtain ⟨y23, h23, h⟩ := bnd h
          refine aw_invV (rest := []) (st' := [.int y23]) (As := []) 26 d_X_leader_23 rfl lv_X_254 (m_Ch_firstBeat h23) (by decide) (k_Ch_firstBeat h23) rfl rfl rfl (Nat.le_of_ble_eq_true rfl) rfl ?_
          refine aw_iconst (v := (-1 : Int32)) 27 d_X_leader_26 rfl (by decide) ?_
          refine aw_icmp_ne 34 30 d_X_leader_27 (by decide) rfl (fun c27 => ?_) (fun c27 => ?_)
          · have h := (if_neg c27).symm.trans h
            refine aw_aload_n 35 d_X_leader_34 rfl rfl ?_
            obtain ⟨y35, h35, h⟩ := bnd h
            refine aw_getR 38 d_X_leader_35 rfl fg_X_21 rfl h35 ?_
            obtain ⟨y38, h38, h⟩ := bnd h
            refine aw_invV (rest := []) (st' := [.int y38]) (As := []) 41 d_X_leader_38 rfl lv_X_257 (m_Ch_lastBeat h38) (by decide) (k_Ch_lastBeat h38) rfl rfl rfl (Nat.le_of_ble_eq_true rfl) rfl ?_
            refine aw_aload_n 42 d_X_leader_41 rfl rfl ?_
            obtain ⟨y42, h42, h⟩ := bnd h
            refine aw_getR 45 d_X_leader_42 rfl fg_X_21 rfl h42 ?_
            obtain ⟨y45, h45, h⟩ := bnd h
            refine aw_invV (rest := [.int y38]) (st' := [.int y45, .int y38]) (As := []) 48 d_X_leader_45 rfl lv_X_254 (m_Ch_firstBeat h45) (by decide) (k_Ch_firstBeat h45) rfl rfl rfl (Nat.le_of_ble_eq_true rfl) rfl ?_
            refine aw_isub 49 d_X_leader_48 rfl ?_
            refine aw_iload_n 50 d_X_leader_49 rfl rfl ?_
            refine aw_icmp_ge 57 53 d_X_leader_50 (by decide) rfl (fun c50 => ?_) (fun c50 => ?_)
            · have h := (if_pos c50).symm.trans h
              refine aw_aload_n 58 d_X_leader_57 rfl rfl ?_
              obtain ⟨y58, h58, h⟩ := bnd h
              refine aw_getR 61 d_X_leader_58 rfl fg_X_46 rfl h58 ?_
              refine aw_iload_n 62 d_X_leader_61 rfl rfl ?_
              obtain ⟨μ62, h62, h⟩ := bnd h
              refine aw_invV (rest := []) (st' := []) (As := [.int x1]) 65 d_X_leader_62 rfl lv_X_290 (m_Le_find h62) (by decide) (k_Le_find h62) rfl rfl rfl (Nat.le_of_ble_eq_true rfl) rfl ?_
              refine aw_iload_n 66 d_X_leader_65 rfl rfl ?_
              refine aw_if_ne 80 69 d_X_leader_66 (by decide) rfl (fun c66 => ?_) (fun c66 => ?_)
              · have h := (if_neg c66).symm.trans h
                refine aw_aload_n 81 d_X_leader_80 rfl rfl ?_
                obtain ⟨y81, h81, h⟩ := bnd h
                refine aw_getR 84 d_X_leader_81 rfl fg_X_46 rfl h81 ?_
                obtain ⟨y84, h84, h⟩ := bnd h
                refine aw_getL 87 d_X_leader_84 rfl fg_X_294 rfl h84 ?_
                cases h
                exact aw_lreturn d_X_leader_87 rfl
              · have h := (if_pos c66).symm.trans h
                refine aw_aload_n 70 d_X_leader_69 rfl rfl ?_
                obtain ⟨y70, h70, h⟩ := bnd h
                refine aw_getR 73 d_X_leader_70 rfl fg_X_46 rfl h70 ?_
                obtain ⟨y73, h73, h⟩ := bnd h
                refine aw_getI 76 d_X_leader_73 rfl fg_X_291 (Or.inl rfl) h73 ?_
                refine aw_i2l 77 d_X_leader_76 rfl ?_
                refine aw_goto 87 d_X_leader_77 (by decide) ?_
                cases h
                exact aw_lreturn d_X_leader_87 rfl
            · have h := (if_neg c50).symm.trans h
              refine aw_ldc2 (v := (-2 : Int64)) 56 d_X_leader_53 rfl c_X_288 ?_
              cases h
              exact aw_lreturn d_X_leader_56 rfl
          · have h := (if_pos c27).symm.trans h
            exact AW.wk [false, false, false] rfl (j_X_leader_30 h)
theorem k_X_leader {q : Int64 × MM} {a0 : Nat} {x1 : Int32} {x2 : Int32} {μ : MM} (h : f_X_leader a0 x1 x2 μ = some q) : μ.1[a0]? = some (0, 0) := by
  unfold f_X_leader at h
  obtain ⟨_, h1, _⟩ := bnd h
  exact kO_some h1
theorem l_M_farthest_4 {l : Launch} {μ0 : MM} {q : Int64} {a0 : Nat} {μ : MM} : ∀ (n : Nat) (x1 : Int64) (x3 : Int32), f_M_farthest_L4 a0 μ n x1 x3 = some q → AWm l Y_M_farthest 7 μ0 (some (.long q)) μ 4 [some (.ref a0), some (.long x1), none, some (.int x3), none, none] [] μ := by
  intro n
  induction n with
  | zero =>
    intro x1 x3 h
    have h : (none : Option (Int64)) = some q := h
    cases h
  | succ n ih =>
    intro x1 x3 h
    rw [f_M_farthest_L4] at h
    refine aw_iload_n 5 d_M_farthest_4 rfl rfl ?_
    refine aw_bipush (v := (24 : Int32)) 7 d_M_farthest_5 rfl (by decide) ?_
    refine aw_icmp_ge 51 10 d_M_farthest_7 (by decide) rfl (fun c7 => ?_) (fun c7 => ?_)
    · have h := (if_pos c7).symm.trans h
      refine aw_lload_n 52 d_M_farthest_51 rfl rfl ?_
      cases h
      exact aw_lreturn d_M_farthest_52 rfl
    · have h := (if_neg c7).symm.trans h
      refine aw_aload_n 11 d_M_farthest_10 rfl rfl ?_
      refine aw_iload_n 12 d_M_farthest_11 rfl rfl ?_
      obtain ⟨y12, h12, h⟩ := bnd h
      refine aw_invV (rest := []) (st' := [.int y12]) (As := [.int x3]) 15 d_M_farthest_12 rfl lv_M_438 (m_M_singing h12) (by decide) (k_M_singing h12) rfl rfl rfl (Nat.le_of_ble_eq_true rfl) rfl ?_
      refine aw_if_ne 21 18 d_M_farthest_15 (by decide) rfl (fun c15 => ?_) (fun c15 => ?_)
      · have h := (if_neg c15).symm.trans h
        refine aw_aload_n 22 d_M_farthest_21 rfl rfl ?_
        refine aw_iload_n 23 d_M_farthest_22 rfl rfl ?_
        obtain ⟨y23, h23, h⟩ := bnd h
        refine aw_invV (rest := []) (st' := [.long y23]) (As := [.int x3]) 26 d_M_farthest_23 rfl lv_M_519 (m_M_offOf h23) (by decide) (k_M_offOf h23) rfl rfl rfl (Nat.le_of_ble_eq_true rfl) rfl ?_
        obtain ⟨y26, h26, h⟩ := bnd h
        refine aw_invS (rest := []) (st' := [.long y26]) (As := [.long y23]) 29 d_M_farthest_26 rfl ls_M_225 (m_M_plain h26) (by decide) rfl rfl (Nat.le_of_ble_eq_true rfl) rfl ?_
        refine aw_lstore (loc' := [some (.ref a0), some (.long x1), none, some (.int x3), some (.long y26), none]) 31 d_M_farthest_29 rfl (by decide) rfl ?_
        refine aw_lload 33 d_M_farthest_31 rfl rfl ?_
        refine aw_lload_n 34 d_M_farthest_33 rfl rfl ?_
        refine aw_lcmp 35 d_M_farthest_34 rfl ?_
        refine aw_if_le 43 38 d_M_farthest_35 (by decide) rfl (fun c35 => ?_) (fun c35 => ?_)
        · have h := (if_pos c35).symm.trans h
          refine aw_lload_n 44 d_M_farthest_43 rfl rfl ?_
          refine aw_lstore_n (loc' := [some (.ref a0), some (.long x1), none, some (.int x3), some (.long y26), none]) 45 d_M_farthest_44 rfl (by decide) rfl ?_
          refine aw_iinc (v := (x3 + (1 : Int32))) (loc' := [some (.ref a0), some (.long x1), none, some (.int (x3 + (1 : Int32))), some (.long y26), none]) 48 d_M_farthest_45 rfl (by decide) rfl rfl rfl ?_
          refine aw_goto 4 d_M_farthest_48 (by decide) ?_
          exact AW.wk [true, true, true, true, false, true] rfl (ih x1 (x3 + (1 : Int32)) h)
        · have h := (if_neg c35).symm.trans h
          refine aw_lload 40 d_M_farthest_38 rfl rfl ?_
          refine aw_goto 44 d_M_farthest_40 (by decide) ?_
          refine aw_lstore_n (loc' := [some (.ref a0), some (.long y26), none, some (.int x3), some (.long y26), none]) 45 d_M_farthest_44 rfl (by decide) rfl ?_
          refine aw_iinc (v := (x3 + (1 : Int32))) (loc' := [some (.ref a0), some (.long y26), none, some (.int (x3 + (1 : Int32))), some (.long y26), none]) 48 d_M_farthest_45 rfl (by decide) rfl rfl rfl ?_
          refine aw_goto 4 d_M_farthest_48 (by decide) ?_
          exact AW.wk [true, true, true, true, false, true] rfl (ih y26 (x3 + (1 : Int32)) h)
      · have h := (if_pos c15).symm.trans h
        refine aw_goto 45 d_M_farthest_18 (by decide) ?_
        refine aw_iinc (v := (x3 + (1 : Int32))) (loc' := [some (.ref a0), some (.long x1), none, some (.int (x3 + (1 : Int32))), none, none]) 48 d_M_farthest_45 rfl (by decide) rfl rfl rfl ?_
        refine aw_goto 4 d_M_farthest_48 (by decide) ?_
        exact (ih x1 (x3 + (1 : Int32)) h)
theorem m_M_farthest {l : Launch} {q : Int64} {a0 : Nat} {μ : MM} (h : f_M_farthest a0 μ = some q) : AMet l 7 Y_M_farthest [.ref a0] μ (some (.long q)) μ := by
  refine AMet.of (loc := [some (.ref a0), none, none, none, none, none]) pn_M_farthest (Nat.le_of_ble_eq_true rfl) rfl ?_
  unfold f_M_farthest at h
  obtain ⟨_, hk, h⟩ := bnd h
  refine aw_lconst (v := (0 : Int64)) 1 d_M_farthest_0 rfl (by decide) ?_
  refine aw_lstore_n (loc' := [some (.ref a0), some (.long (0 : Int64)), none, none, none, none]) 2 d_M_farthest_1 rfl (by decide) rfl ?_
  refine aw_iconst (v := (0 : Int32)) 3 d_M_farthest_2 rfl (by decide) ?_
  refine aw_istore_n (loc' := [some (.ref a0), some (.long (0 : Int64)), none, some (.int (0 : Int32)), none, none]) 4 d_M_farthest_3 rfl (by decide) rfl ?_
  exact (l_M_farthest_4 FU _ _ h)
theorem k_M_farthest {q : Int64} {a0 : Nat} {μ : MM} (h : f_M_farthest a0 μ = some q) : μ.1[a0]? = some (0, 1) := by
  unfold f_M_farthest at h
  obtain ⟨_, h1, _⟩ := bnd h
  exact kO_some h1
theorem j_M_leader_30 {l : Launch} {μ0 : MM} {q : Int64 × MM} {μ : MM} (h : f_M_leader_J30 μ = some q) : AWm l Y_M_leader 11 μ0 (some (.long q.1)) q.2 30 [none, none, none, none, none, none, none, none, none, none, none, none, none] [] μ := by
  unfold f_M_leader_J30 at h
  refine aw_ldc2 (v := (-1 : Int64)) 33 d_M_leader_30 rfl c_M_555 ?_
  cases h
  exact aw_lreturn d_M_leader_33 rfl
theorem j_M_leader_199 {l : Launch} {μ0 : MM} {q : Int64 × MM} {a0 : Nat} {x1 : Int32} {x2 : Int32} {x3 : Int32} {x4 : Int32} {x5 : Int32} {x6 : Int64} {x8 : Int32} {x9 : Int32} {x10 : Int32} {s0 : Nat} {s1 : Int32} {s2 : Int32} {μ : MM} {k87 : Int32 → Int64 → Int32 → MM → Option (Int64 × MM)} (hk87 : ∀ (x5 : Int32) (x6 : Int64) (x8 : Int32) (μ : MM), k87 x5 x6 x8 μ = some q → AWm l Y_M_leader 11 μ0 (some (.long q.1)) q.2 87 [some (.ref a0), some (.int x1), some (.int x2), some (.int x3), some (.int x4), some (.int x5), some (.long x6), none, some (.int x8), none, none, none, none] [] μ) {k117 : Int32 → Int64 → Int32 → MM → Option (Int64 × MM)} (hk117 : ∀ (x5 : Int32) (x6 : Int64) (x9 : Int32) (μ : MM), k117 x5 x6 x9 μ = some q → AWm l Y_M_leader 11 μ0 (some (.long q.1)) q.2 117 [some (.ref a0), some (.int x1), some (.int x2), some (.int x3), some (.int x4), some (.int x5), some (.long x6), none, some (.int x8), some (.int x9), none, none, none] [] μ) {k148 : Int32 → Int64 → Int32 → MM → Option (Int64 × MM)} (hk148 : ∀ (x5 : Int32) (x6 : Int64) (x10 : Int32) (μ : MM), k148 x5 x6 x10 μ = some q → AWm l Y_M_leader 11 μ0 (some (.long q.1)) q.2 148 [some (.ref a0), some (.int x1), some (.int x2), some (.int x3), some (.int x4), some (.int x5), some (.long x6), none, some (.int x8), some (.int x9), some (.int x10), none, none] [] μ) (h : f_M_leader_J199 k87 k117 k148 a0 x1 x2 x3 x4 x5 x6 x8 x9 x10 s0 s1 s2 μ = some q) : AWm l Y_M_leader 11 μ0 (some (.long q.1)) q.2 199 [some (.ref a0), some (.int x1), some (.int x2), some (.int x3), some (.int x4), some (.int x5), some (.long x6), none, some (.int x8), some (.int x9), some (.int x10), none, none] [.int s2, .int s1, .ref s0] μ := by
  unfold f_M_leader_J199 at h
  refine aw_ior 200 d_M_leader_199 rfl ?_
  obtain ⟨μ200, h200, h⟩ := bnd h
  refine aw_putI 203 false d_M_leader_200 rfl fp_M_497 (fun z => nomatch z) rfl h200 ?_
  refine aw_aload_n 204 d_M_leader_203 rfl rfl ?_
  obtain ⟨μ204, h204, h⟩ := bnd h
  refine aw_invV (rest := []) (st' := []) (As := []) 207 d_M_leader_204 rfl lv_M_509 (m_M_isSung h204) (by decide) (k_M_isSung h204) rfl rfl rfl (Nat.le_of_ble_eq_true rfl) rfl ?_
  refine aw_aload_n 208 d_M_leader_207 rfl rfl ?_
  obtain ⟨y208, h208, h⟩ := bnd h
  refine aw_invV (rest := []) (st' := [.long y208]) (As := []) 211 d_M_leader_208 rfl lv_M_559 (m_M_farthest h208) (by decide) (k_M_farthest h208) rfl rfl rfl (Nat.le_of_ble_eq_true rfl) rfl ?_
  refine aw_lstore (loc' := [some (.ref a0), some (.int x1), some (.int x2), some (.int x3), some (.int x4), some (.int x5), some (.long x6), none, some (.int x8), some (.int x9), some (.int x10), some (.long y208), none]) 213 d_M_leader_211 rfl (by decide) rfl ?_
  refine aw_lload 215 d_M_leader_213 rfl rfl ?_
  refine aw_lload 217 d_M_leader_215 rfl rfl ?_
  refine aw_lcmp 218 d_M_leader_217 rfl ?_
  refine aw_if_lt 224 221 d_M_leader_218 (by decide) rfl (fun c218 => ?_) (fun c218 => ?_)
  · have h := (if_pos c218).symm.trans h
    refine aw_aload_n 225 d_M_leader_224 rfl rfl ?_
    obtain ⟨y225, h225, h⟩ := bnd h
    refine aw_getI 228 d_M_leader_225 rfl fg_M_497 (Or.inl rfl) h225 ?_
    refine aw_istore (loc' := [some (.ref a0), some (.int x1), some (.int x2), some (.int x3), some (.int x4), some (.int y225), some (.long x6), none, some (.int x8), some (.int x9), some (.int x10), some (.long y208), none]) 230 d_M_leader_228 rfl (by decide) rfl ?_
    refine aw_lload 232 d_M_leader_230 rfl rfl ?_
    refine aw_lstore (loc' := [some (.ref a0), some (.int x1), some (.int x2), some (.int x3), some (.int x4), some (.int y225), some (.long y208), none, some (.int x8), some (.int x9), some (.int x10), some (.long y208), none]) 234 d_M_leader_232 rfl (by decide) rfl ?_
    refine aw_iinc (v := (x10 + (1 : Int32))) (loc' := [some (.ref a0), some (.int x1), some (.int x2), some (.int x3), some (.int x4), some (.int y225), some (.long y208), none, some (.int x8), some (.int x9), some (.int (x10 + (1 : Int32))), some (.long y208), none]) 237 d_M_leader_234 rfl (by decide) rfl rfl rfl ?_
    refine aw_goto 148 d_M_leader_237 (by decide) ?_
    exact AW.wk [true, true, true, true, true, true, true, true, true, true, true, false, true] rfl (hk148 y225 y208 (x10 + (1 : Int32)) μ204 h)
  · have h := (if_neg c218).symm.trans h
    refine aw_goto 234 d_M_leader_221 (by decide) ?_
    refine aw_iinc (v := (x10 + (1 : Int32))) (loc' := [some (.ref a0), some (.int x1), some (.int x2), some (.int x3), some (.int x4), some (.int x5), some (.long x6), none, some (.int x8), some (.int x9), some (.int (x10 + (1 : Int32))), some (.long y208), none]) 237 d_M_leader_234 rfl (by decide) rfl rfl rfl ?_
    refine aw_goto 148 d_M_leader_237 (by decide) ?_
    exact AW.wk [true, true, true, true, true, true, true, true, true, true, true, false, true] rfl (hk148 x5 x6 (x10 + (1 : Int32)) μ204 h)
theorem j_M_leader_185 {l : Launch} {μ0 : MM} {q : Int64 × MM} {a0 : Nat} {x1 : Int32} {x2 : Int32} {x3 : Int32} {x4 : Int32} {x5 : Int32} {x6 : Int64} {x8 : Int32} {x9 : Int32} {x10 : Int32} {s0 : Nat} {s1 : Int32} {s2 : Int32} {μ : MM} {k87 : Int32 → Int64 → Int32 → MM → Option (Int64 × MM)} (hk87 : ∀ (x5 : Int32) (x6 : Int64) (x8 : Int32) (μ : MM), k87 x5 x6 x8 μ = some q → AWm l Y_M_leader 11 μ0 (some (.long q.1)) q.2 87 [some (.ref a0), some (.int x1), some (.int x2), some (.int x3), some (.int x4), some (.int x5), some (.long x6), none, some (.int x8), none, none, none, none] [] μ) {k117 : Int32 → Int64 → Int32 → MM → Option (Int64 × MM)} (hk117 : ∀ (x5 : Int32) (x6 : Int64) (x9 : Int32) (μ : MM), k117 x5 x6 x9 μ = some q → AWm l Y_M_leader 11 μ0 (some (.long q.1)) q.2 117 [some (.ref a0), some (.int x1), some (.int x2), some (.int x3), some (.int x4), some (.int x5), some (.long x6), none, some (.int x8), some (.int x9), none, none, none] [] μ) {k148 : Int32 → Int64 → Int32 → MM → Option (Int64 × MM)} (hk148 : ∀ (x5 : Int32) (x6 : Int64) (x10 : Int32) (μ : MM), k148 x5 x6 x10 μ = some q → AWm l Y_M_leader 11 μ0 (some (.long q.1)) q.2 148 [some (.ref a0), some (.int x1), some (.int x2), some (.int x3), some (.int x4), some (.int x5), some (.long x6), none, some (.int x8), some (.int x9), some (.int x10), none, none] [] μ) (h : f_M_leader_J185 k87 k117 k148 a0 x1 x2 x3 x4 x5 x6 x8 x9 x10 s0 s1 s2 μ = some q) : AWm l Y_M_leader 11 μ0 (some (.long q.1)) q.2 185 [some (.ref a0), some (.int x1), some (.int x2), some (.int x3), some (.int x4), some (.int x5), some (.long x6), none, some (.int x8), some (.int x9), some (.int x10), none, none] [.int s2, .int s1, .ref s0] μ := by
  unfold f_M_leader_J185 at h
  refine aw_ior 186 d_M_leader_185 rfl ?_
  refine aw_iload_n 187 d_M_leader_186 rfl rfl ?_
  refine aw_iconst (v := (2 : Int32)) 188 d_M_leader_187 rfl (by decide) ?_
  refine aw_icmp_le 198 191 d_M_leader_188 (by decide) rfl (fun c188 => ?_) (fun c188 => ?_)
  · have h := (if_pos c188).symm.trans h
    refine aw_iconst (v := (0 : Int32)) 199 d_M_leader_198 rfl (by decide) ?_
    exact (j_M_leader_199 hk87 hk117 hk148 h)
  · have h := (if_neg c188).symm.trans h
    refine aw_iconst (v := (1 : Int32)) 192 d_M_leader_191 rfl (by decide) ?_
    refine aw_iload 194 d_M_leader_192 rfl rfl ?_
    refine aw_ishl 195 d_M_leader_194 rfl ?_
    refine aw_goto 199 d_M_leader_195 (by decide) ?_
    exact (j_M_leader_199 hk87 hk117 hk148 h)
theorem j_M_leader_164 {l : Launch} {μ0 : MM} {q : Int64 × MM} {a0 : Nat} {x1 : Int32} {x2 : Int32} {x3 : Int32} {x4 : Int32} {x5 : Int32} {x6 : Int64} {x8 : Int32} {x9 : Int32} {x10 : Int32} {s0 : Int32} {s1 : Int32} {μ : MM} {k87 : Int32 → Int64 → Int32 → MM → Option (Int64 × MM)} (hk87 : ∀ (x5 : Int32) (x6 : Int64) (x8 : Int32) (μ : MM), k87 x5 x6 x8 μ = some q → AWm l Y_M_leader 11 μ0 (some (.long q.1)) q.2 87 [some (.ref a0), some (.int x1), some (.int x2), some (.int x3), some (.int x4), some (.int x5), some (.long x6), none, some (.int x8), none, none, none, none] [] μ) {k117 : Int32 → Int64 → Int32 → MM → Option (Int64 × MM)} (hk117 : ∀ (x5 : Int32) (x6 : Int64) (x9 : Int32) (μ : MM), k117 x5 x6 x9 μ = some q → AWm l Y_M_leader 11 μ0 (some (.long q.1)) q.2 117 [some (.ref a0), some (.int x1), some (.int x2), some (.int x3), some (.int x4), some (.int x5), some (.long x6), none, some (.int x8), some (.int x9), none, none, none] [] μ) {k148 : Int32 → Int64 → Int32 → MM → Option (Int64 × MM)} (hk148 : ∀ (x5 : Int32) (x6 : Int64) (x10 : Int32) (μ : MM), k148 x5 x6 x10 μ = some q → AWm l Y_M_leader 11 μ0 (some (.long q.1)) q.2 148 [some (.ref a0), some (.int x1), some (.int x2), some (.int x3), some (.int x4), some (.int x5), some (.long x6), none, some (.int x8), some (.int x9), some (.int x10), none, none] [] μ) (h : f_M_leader_J164 k87 k117 k148 a0 x1 x2 x3 x4 x5 x6 x8 x9 x10 s0 s1 μ = some q) : AWm l Y_M_leader 11 μ0 (some (.long q.1)) q.2 164 [some (.ref a0), some (.int x1), some (.int x2), some (.int x3), some (.int x4), some (.int x5), some (.long x6), none, some (.int x8), some (.int x9), some (.int x10), none, none] [.int s1, .int s0] μ := by
  unfold f_M_leader_J164 at h
  refine aw_icmp_gt 240 167 d_M_leader_164 (by decide) rfl (fun c164 => ?_) (fun c164 => ?_)
  · have h := (if_pos c164).symm.trans h
    refine aw_iinc (v := (x9 + (1 : Int32))) (loc' := [some (.ref a0), some (.int x1), some (.int x2), some (.int x3), some (.int x4), some (.int x5), some (.long x6), none, some (.int x8), some (.int (x9 + (1 : Int32))), some (.int x10), none, none]) 243 d_M_leader_240 rfl (by decide) rfl rfl rfl ?_
    refine aw_goto 117 d_M_leader_243 (by decide) ?_
    exact AW.wk [true, true, true, true, true, true, true, true, true, true, false, true, true] rfl (hk117 x5 x6 (x9 + (1 : Int32)) μ h)
  · have h := (if_neg c164).symm.trans h
    refine aw_aload_n 168 d_M_leader_167 rfl rfl ?_
    refine aw_iconst (v := (1 : Int32)) 169 d_M_leader_168 rfl (by decide) ?_
    refine aw_iload 171 d_M_leader_169 rfl rfl ?_
    refine aw_ishl 172 d_M_leader_171 rfl ?_
    refine aw_iload_n 173 d_M_leader_172 rfl rfl ?_
    refine aw_iconst (v := (1 : Int32)) 174 d_M_leader_173 rfl (by decide) ?_
    refine aw_icmp_le 184 177 d_M_leader_174 (by decide) rfl (fun c174 => ?_) (fun c174 => ?_)
    · have h := (if_pos c174).symm.trans h
      refine aw_iconst (v := (0 : Int32)) 185 d_M_leader_184 rfl (by decide) ?_
      exact (j_M_leader_185 hk87 hk117 hk148 h)
    · have h := (if_neg c174).symm.trans h
      refine aw_iconst (v := (1 : Int32)) 178 d_M_leader_177 rfl (by decide) ?_
      refine aw_iload 180 d_M_leader_178 rfl rfl ?_
      refine aw_ishl 181 d_M_leader_180 rfl ?_
      refine aw_goto 185 d_M_leader_181 (by decide) ?_
      exact (j_M_leader_185 hk87 hk117 hk148 h)
theorem l_M_leader_148 {l : Launch} {μ0 : MM} {q : Int64 × MM} {a0 : Nat} {x1 : Int32} {x2 : Int32} {x3 : Int32} {x4 : Int32} {x8 : Int32} {x9 : Int32} {k87 : Int32 → Int64 → Int32 → MM → Option (Int64 × MM)} (hk87 : ∀ (x5 : Int32) (x6 : Int64) (x8 : Int32) (μ : MM), k87 x5 x6 x8 μ = some q → AWm l Y_M_leader 11 μ0 (some (.long q.1)) q.2 87 [some (.ref a0), some (.int x1), some (.int x2), some (.int x3), some (.int x4), some (.int x5), some (.long x6), none, some (.int x8), none, none, none, none] [] μ) {k117 : Int32 → Int64 → Int32 → MM → Option (Int64 × MM)} (hk117 : ∀ (x5 : Int32) (x6 : Int64) (x9 : Int32) (μ : MM), k117 x5 x6 x9 μ = some q → AWm l Y_M_leader 11 μ0 (some (.long q.1)) q.2 117 [some (.ref a0), some (.int x1), some (.int x2), some (.int x3), some (.int x4), some (.int x5), some (.long x6), none, some (.int x8), some (.int x9), none, none, none] [] μ) : ∀ (n : Nat) (x5 : Int32) (x6 : Int64) (x10 : Int32) (μ : MM), f_M_leader_L148 k87 k117 a0 x1 x2 x3 x4 x8 x9 n x5 x6 x10 μ = some q → AWm l Y_M_leader 11 μ0 (some (.long q.1)) q.2 148 [some (.ref a0), some (.int x1), some (.int x2), some (.int x3), some (.int x4), some (.int x5), some (.long x6), none, some (.int x8), some (.int x9), some (.int x10), none, none] [] μ := by
  intro n
  induction n with
  | zero =>
    intro x5 x6 x10 μ h
    have h : (none : Option (Int64 × MM)) = some q := h
    cases h
  | succ n ih =>
    intro x5 x6 x10 μ h
    rw [f_M_leader_L148] at h
    refine aw_iload 150 d_M_leader_148 rfl rfl ?_
    refine aw_iload_n 151 d_M_leader_150 rfl rfl ?_
    refine aw_iconst (v := (1 : Int32)) 152 d_M_leader_151 rfl (by decide) ?_
    refine aw_icmp_le 162 155 d_M_leader_152 (by decide) rfl (fun c152 => ?_) (fun c152 => ?_)
    · have h := (if_pos c152).symm.trans h
      refine aw_iload 164 d_M_leader_162 rfl rfl ?_
      exact (j_M_leader_164 hk87 hk117 ih h)
    · have h := (if_neg c152).symm.trans h
      refine aw_iload 157 d_M_leader_155 rfl rfl ?_
      refine aw_iconst (v := (1 : Int32)) 158 d_M_leader_157 rfl (by decide) ?_
      refine aw_isub 159 d_M_leader_158 rfl ?_
      refine aw_goto 164 d_M_leader_159 (by decide) ?_
      exact (j_M_leader_164 hk87 hk117 ih h)
theorem j_M_leader_142 {l : Launch} {μ0 : MM} {q : Int64 × MM} {a0 : Nat} {x1 : Int32} {x2 : Int32} {x3 : Int32} {x4 : Int32} {x5 : Int32} {x6 : Int64} {x8 : Int32} {x9 : Int32} {s0 : Int32} {s1 : Int32} {μ : MM} {k87 : Int32 → Int64 → Int32 → MM → Option (Int64 × MM)} (hk87 : ∀ (x5 : Int32) (x6 : Int64) (x8 : Int32) (μ : MM), k87 x5 x6 x8 μ = some q → AWm l Y_M_leader 11 μ0 (some (.long q.1)) q.2 87 [some (.ref a0), some (.int x1), some (.int x2), some (.int x3), some (.int x4), some (.int x5), some (.long x6), none, some (.int x8), none, none, none, none] [] μ) {k117 : Int32 → Int64 → Int32 → MM → Option (Int64 × MM)} (hk117 : ∀ (x5 : Int32) (x6 : Int64) (x9 : Int32) (μ : MM), k117 x5 x6 x9 μ = some q → AWm l Y_M_leader 11 μ0 (some (.long q.1)) q.2 117 [some (.ref a0), some (.int x1), some (.int x2), some (.int x3), some (.int x4), some (.int x5), some (.long x6), none, some (.int x8), some (.int x9), none, none, none] [] μ) (h : f_M_leader_J142 k87 k117 a0 x1 x2 x3 x4 x5 x6 x8 x9 s0 s1 μ = some q) : AWm l Y_M_leader 11 μ0 (some (.long q.1)) q.2 142 [some (.ref a0), some (.int x1), some (.int x2), some (.int x3), some (.int x4), some (.int x5), some (.long x6), none, some (.int x8), some (.int x9), none, none, none] [.int s1, .int s0] μ := by
  unfold f_M_leader_J142 at h
  refine aw_icmp_gt 246 145 d_M_leader_142 (by decide) rfl (fun c142 => ?_) (fun c142 => ?_)
  · have h := (if_pos c142).symm.trans h
    refine aw_iinc (v := (x8 + (1 : Int32))) (loc' := [some (.ref a0), some (.int x1), some (.int x2), some (.int x3), some (.int x4), some (.int x5), some (.long x6), none, some (.int (x8 + (1 : Int32))), some (.int x9), none, none, none]) 249 d_M_leader_246 rfl (by decide) rfl rfl rfl ?_
    refine aw_goto 87 d_M_leader_249 (by decide) ?_
    exact AW.wk [true, true, true, true, true, true, true, true, true, false, true, true, true] rfl (hk87 x5 x6 (x8 + (1 : Int32)) μ h)
  · have h := (if_neg c142).symm.trans h
    refine aw_iload_n 146 d_M_leader_145 rfl rfl ?_
    refine aw_istore (loc' := [some (.ref a0), some (.int x1), some (.int x2), some (.int x3), some (.int x4), some (.int x5), some (.long x6), none, some (.int x8), some (.int x9), some (.int x3), none, none]) 148 d_M_leader_146 rfl (by decide) rfl ?_
    exact (l_M_leader_148 hk87 hk117 FU _ _ _ _ h)
theorem l_M_leader_117 {l : Launch} {μ0 : MM} {q : Int64 × MM} {a0 : Nat} {x1 : Int32} {x2 : Int32} {x3 : Int32} {x4 : Int32} {x8 : Int32} {k87 : Int32 → Int64 → Int32 → MM → Option (Int64 × MM)} (hk87 : ∀ (x5 : Int32) (x6 : Int64) (x8 : Int32) (μ : MM), k87 x5 x6 x8 μ = some q → AWm l Y_M_leader 11 μ0 (some (.long q.1)) q.2 87 [some (.ref a0), some (.int x1), some (.int x2), some (.int x3), some (.int x4), some (.int x5), some (.long x6), none, some (.int x8), none, none, none, none] [] μ) : ∀ (n : Nat) (x5 : Int32) (x6 : Int64) (x9 : Int32) (μ : MM), f_M_leader_L117 k87 a0 x1 x2 x3 x4 x8 n x5 x6 x9 μ = some q → AWm l Y_M_leader 11 μ0 (some (.long q.1)) q.2 117 [some (.ref a0), some (.int x1), some (.int x2), some (.int x3), some (.int x4), some (.int x5), some (.long x6), none, some (.int x8), some (.int x9), none, none, none] [] μ := by
  intro n
  induction n with
  | zero =>
    intro x5 x6 x9 μ h
    have h : (none : Option (Int64 × MM)) = some q := h
    cases h
  | succ n ih =>
    intro x5 x6 x9 μ h
    rw [f_M_leader_L117] at h
    refine aw_iload 119 d_M_leader_117 rfl rfl ?_
    refine aw_iload_n 120 d_M_leader_119 rfl rfl ?_
    refine aw_iconst (v := (2 : Int32)) 121 d_M_leader_120 rfl (by decide) ?_
    refine aw_icmp_le 131 124 d_M_leader_121 (by decide) rfl (fun c121 => ?_) (fun c121 => ?_)
    · have h := (if_pos c121).symm.trans h
      refine aw_iload_n 132 d_M_leader_131 rfl rfl ?_
      refine aw_iconst (v := (1 : Int32)) 133 d_M_leader_132 rfl (by decide) ?_
      refine aw_icmp_le 141 136 d_M_leader_133 (by decide) rfl (fun c133 => ?_) (fun c133 => ?_)
      · have h := (if_pos c133).symm.trans h
        refine aw_iconst (v := (-1 : Int32)) 142 d_M_leader_141 rfl (by decide) ?_
        exact (j_M_leader_142 hk87 ih h)
      · have h := (if_neg c133).symm.trans h
        refine aw_iload 138 d_M_leader_136 rfl rfl ?_
        refine aw_goto 142 d_M_leader_138 (by decide) ?_
        exact (j_M_leader_142 hk87 ih h)
    · have h := (if_neg c121).symm.trans h
      refine aw_iload 126 d_M_leader_124 rfl rfl ?_
      refine aw_iconst (v := (1 : Int32)) 127 d_M_leader_126 rfl (by decide) ?_
      refine aw_isub 128 d_M_leader_127 rfl ?_
      refine aw_goto 142 d_M_leader_128 (by decide) ?_
      exact (j_M_leader_142 hk87 ih h)
theorem j_M_leader_115 {l : Launch} {μ0 : MM} {q : Int64 × MM} {a0 : Nat} {x1 : Int32} {x2 : Int32} {x3 : Int32} {x4 : Int32} {x5 : Int32} {x6 : Int64} {x8 : Int32} {s0 : Int32} {μ : MM} {k87 : Int32 → Int64 → Int32 → MM → Option (Int64 × MM)} (hk87 : ∀ (x5 : Int32) (x6 : Int64) (x8 : Int32) (μ : MM), k87 x5 x6 x8 μ = some q → AWm l Y_M_leader 11 μ0 (some (.long q.1)) q.2 87 [some (.ref a0), some (.int x1), some (.int x2), some (.int x3), some (.int x4), some (.int x5), some (.long x6), none, some (.int x8), none, none, none, none] [] μ) (h : f_M_leader_J115 k87 a0 x1 x2 x3 x4 x5 x6 x8 s0 μ = some q) : AWm l Y_M_leader 11 μ0 (some (.long q.1)) q.2 115 [some (.ref a0), some (.int x1), some (.int x2), some (.int x3), some (.int x4), some (.int x5), some (.long x6), none, some (.int x8), none, none, none, none] [.int s0] μ := by
  unfold f_M_leader_J115 at h
  refine aw_istore (loc' := [some (.ref a0), some (.int x1), some (.int x2), some (.int x3), some (.int x4), some (.int x5), some (.long x6), none, some (.int x8), some (.int s0), none, none, none]) 117 d_M_leader_115 rfl (by decide) rfl ?_
  exact (l_M_leader_117 hk87 FU _ _ _ _ h)
theorem j_M_leader_100 {l : Launch} {μ0 : MM} {q : Int64 × MM} {a0 : Nat} {x1 : Int32} {x2 : Int32} {x3 : Int32} {x4 : Int32} {x5 : Int32} {x6 : Int64} {x8 : Int32} {s0 : Int32} {s1 : Int32} {μ : MM} {k87 : Int32 → Int64 → Int32 → MM → Option (Int64 × MM)} (hk87 : ∀ (x5 : Int32) (x6 : Int64) (x8 : Int32) (μ : MM), k87 x5 x6 x8 μ = some q → AWm l Y_M_leader 11 μ0 (some (.long q.1)) q.2 87 [some (.ref a0), some (.int x1), some (.int x2), some (.int x3), some (.int x4), some (.int x5), some (.long x6), none, some (.int x8), none, none, none, none] [] μ) (h : f_M_leader_J100 k87 a0 x1 x2 x3 x4 x5 x6 x8 s0 s1 μ = some q) : AWm l Y_M_leader 11 μ0 (some (.long q.1)) q.2 100 [some (.ref a0), some (.int x1), some (.int x2), some (.int x3), some (.int x4), some (.int x5), some (.long x6), none, some (.int x8), none, none, none, none] [.int s1, .int s0] μ := by
  unfold f_M_leader_J100 at h
  refine aw_icmp_gt 252 103 d_M_leader_100 (by decide) rfl (fun c100 => ?_) (fun c100 => ?_)
  · have h := (if_pos c100).symm.trans h
    refine aw_iload_n 253 d_M_leader_252 rfl rfl ?_
    refine aw_if_ne 262 256 d_M_leader_253 (by decide) rfl (fun c253 => ?_) (fun c253 => ?_)
    · have h := (if_neg c253).symm.trans h
      refine aw_lload 264 d_M_leader_262 rfl rfl ?_
      cases h
      exact aw_lreturn d_M_leader_264 rfl
    · have h := (if_pos c253).symm.trans h
      refine aw_iload 258 d_M_leader_256 rfl rfl ?_
      refine aw_i2l 259 d_M_leader_258 rfl ?_
      refine aw_goto 264 d_M_leader_259 (by decide) ?_
      cases h
      exact aw_lreturn d_M_leader_264 rfl
  · have h := (if_neg c100).symm.trans h
    refine aw_iload_n 104 d_M_leader_103 rfl rfl ?_
    refine aw_iconst (v := (1 : Int32)) 105 d_M_leader_104 rfl (by decide) ?_
    refine aw_icmp_le 114 108 d_M_leader_105 (by decide) rfl (fun c105 => ?_) (fun c105 => ?_)
    · have h := (if_pos c105).symm.trans h
      refine aw_iconst (v := (-1 : Int32)) 115 d_M_leader_114 rfl (by decide) ?_
      exact (j_M_leader_115 hk87 h)
    · have h := (if_neg c105).symm.trans h
      refine aw_iload_n 109 d_M_leader_108 rfl rfl ?_
      refine aw_iconst (v := (1 : Int32)) 110 d_M_leader_109 rfl (by decide) ?_
      refine aw_iadd 111 d_M_leader_110 rfl ?_
      refine aw_goto 115 d_M_leader_111 (by decide) ?_
      exact (j_M_leader_115 hk87 h)
theorem l_M_leader_87 {l : Launch} {μ0 : MM} {q : Int64 × MM} {a0 : Nat} {x1 : Int32} {x2 : Int32} {x3 : Int32} {x4 : Int32} : ∀ (n : Nat) (x5 : Int32) (x6 : Int64) (x8 : Int32) (μ : MM), f_M_leader_L87 a0 x1 x2 x3 x4 n x5 x6 x8 μ = some q → AWm l Y_M_leader 11 μ0 (some (.long q.1)) q.2 87 [some (.ref a0), some (.int x1), some (.int x2), some (.int x3), some (.int x4), some (.int x5), some (.long x6), none, some (.int x8), none, none, none, none] [] μ := by
  intro n
  induction n with
  | zero =>
    intro x5 x6 x8 μ h
    have h : (none : Option (Int64 × MM)) = some q := h
    cases h
  | succ n ih =>
    intro x5 x6 x8 μ h
    rw [f_M_leader_L87] at h
    refine aw_iload 89 d_M_leader_87 rfl rfl ?_
    refine aw_iload_n 90 d_M_leader_89 rfl rfl ?_
    refine aw_iconst (v := (2 : Int32)) 91 d_M_leader_90 rfl (by decide) ?_
    refine aw_icmp_le 99 94 d_M_leader_91 (by decide) rfl (fun c91 => ?_) (fun c91 => ?_)
    · have h := (if_pos c91).symm.trans h
      refine aw_iconst (v := (-1 : Int32)) 100 d_M_leader_99 rfl (by decide) ?_
      exact (j_M_leader_100 ih h)
    · have h := (if_neg c91).symm.trans h
      refine aw_iload 96 d_M_leader_94 rfl rfl ?_
      refine aw_goto 100 d_M_leader_96 (by decide) ?_
      exact (j_M_leader_100 ih h)
theorem j_M_leader_85 {l : Launch} {μ0 : MM} {q : Int64 × MM} {a0 : Nat} {x1 : Int32} {x2 : Int32} {x3 : Int32} {x4 : Int32} {x5 : Int32} {x6 : Int64} {s0 : Int32} {μ : MM} (h : f_M_leader_J85 a0 x1 x2 x3 x4 x5 x6 s0 μ = some q) : AWm l Y_M_leader 11 μ0 (some (.long q.1)) q.2 85 [some (.ref a0), some (.int x1), some (.int x2), some (.int x3), some (.int x4), some (.int x5), some (.long x6), none, none, none, none, none, none] [.int s0] μ := by
  unfold f_M_leader_J85 at h
  refine aw_istore (loc' := [some (.ref a0), some (.int x1), some (.int x2), some (.int x3), some (.int x4), some (.int x5), some (.long x6), none, some (.int s0), none, none, none, none]) 87 d_M_leader_85 rfl (by decide) rfl ?_
  exact (l_M_leader_87 FU _ _ _ _ h)
theorem m_M_leader {l : Launch} {q : Int64 × MM} {a0 : Nat} {x1 : Int32} {x2 : Int32} {μ : MM} (h : f_M_leader a0 x1 x2 μ = some q) : AMet l 11 Y_M_leader [.ref a0, .int x1, .int x2] μ (some (.long q.1)) q.2 := by
  refine AMet.of (loc := [some (.ref a0), some (.int x1), some (.int x2), none, none, none, none, none, none, none, none, none, none]) pn_M_leader (Nat.le_of_ble_eq_true rfl) rfl ?_
  unfold f_M_leader at h
  obtain ⟨_, hk, h⟩ := bnd h
  refine aw_iload_n 1 d_M_leader_0 rfl rfl ?_
  refine aw_i2l 2 d_M_leader_1 rfl ?_
  refine aw_lconst (v := (1 : Int64)) 3 d_M_leader_2 rfl (by decide) ?_
  refine aw_ldc2 (v := (3 : Int64)) 6 d_M_leader_3 rfl c_M_528 ?_
  obtain ⟨y6, h6, h⟩ := bnd h
  refine aw_invS (rest := []) (st' := [.int y6]) (As := [.long x1.toInt64, .long (1 : Int64), .long (3 : Int64)]) 9 d_M_leader_6 rfl ls_M_145 (m_M_lies h6) (by decide) rfl rfl (Nat.le_of_ble_eq_true rfl) rfl ?_
  refine aw_if_eq 30 12 d_M_leader_9 (by decide) rfl (fun c9 => ?_) (fun c9 => ?_)
  · have h := (if_pos c9).symm.trans h
    exact AW.wk [false, false, false, true, true, true, true, true, true, true, true, true, true] rfl (j_M_leader_30 h)
  · have h := (if_neg c9).symm.trans h
    refine aw_iload_n 13 d_M_leader_12 rfl rfl ?_
    refine aw_i2l 14 d_M_leader_13 rfl ?_
    refine aw_lconst (v := (0 : Int64)) 15 d_M_leader_14 rfl (by decide) ?_
    refine aw_lconst (v := (1 : Int64)) 16 d_M_leader_15 rfl (by decide) ?_
    obtain ⟨y16, h16, h⟩ := bnd h
    refine aw_invS (rest := []) (st' := [.int y16]) (As := [.long x2.toInt64, .long (0 : Int64), .long (1 : Int64)]) 19 d_M_leader_16 rfl ls_M_145 (m_M_lies h16) (by decide) rfl rfl (Nat.le_of_ble_eq_true rfl) rfl ?_
    refine aw_if_eq 30 22 d_M_leader_19 (by decide) rfl (fun c19 => ?_) (fun c19 => ?_)
    · have h := (if_pos c19).symm.trans h
      exact AW.wk [false, false, false, true, true, true, true, true, true, true, true, true, true] rfl (j_M_leader_30 h)
    · have h := (if_neg c19).symm.trans h
      refine aw_aload_n 23 d_M_leader_22 rfl rfl ?_
      obtain ⟨y23, h23, h⟩ := bnd h
      refine aw_invV (rest := []) (st' := [.int y23]) (As := []) 26 d_M_leader_23 rfl lv_M_522 (m_M_firstSung h23) (by decide) (k_M_firstSung h23) rfl rfl rfl (Nat.le_of_ble_eq_true rfl) rfl ?_
      refine aw_iconst (v := (-1 : Int32)) 27 d_M_leader_26 rfl (by decide) ?_
      refine aw_icmp_ne 34 30 d_M_leader_27 (by decide) rfl (fun c27 => ?_) (fun c27 => ?_)
      · have h := (if_neg c27).symm.trans h
        refine aw_aload_n 35 d_M_leader_34 rfl rfl ?_
        obtain ⟨y35, h35, h⟩ := bnd h
        refine aw_invV (rest := []) (st' := [.int y35]) (As := []) 38 d_M_leader_35 rfl lv_M_522 (m_M_firstSung h35) (by decide) (k_M_firstSung h35) rfl rfl rfl (Nat.le_of_ble_eq_true rfl) rfl ?_
        refine aw_iconst (v := (1 : Int32)) 39 d_M_leader_38 rfl (by decide) ?_
        refine aw_iadd 40 d_M_leader_39 rfl ?_
        refine aw_istore_n (loc' := [some (.ref a0), some (.int x1), some (.int x2), some (.int (y35 + (1 : Int32))), none, none, none, none, none, none, none, none, none]) 41 d_M_leader_40 rfl (by decide) rfl ?_
        refine aw_aload_n 42 d_M_leader_41 rfl rfl ?_
        obtain ⟨y42, h42, h⟩ := bnd h
        refine aw_invV (rest := []) (st' := [.int y42]) (As := []) 45 d_M_leader_42 rfl lv_M_516 (m_M_lastSung h42) (by decide) (k_M_lastSung h42) rfl rfl rfl (Nat.le_of_ble_eq_true rfl) rfl ?_
        refine aw_istore (loc' := [some (.ref a0), some (.int x1), some (.int x2), some (.int (y35 + (1 : Int32))), some (.int y42), none, none, none, none, none, none, none, none]) 47 d_M_leader_45 rfl (by decide) rfl ?_
        refine aw_iload 49 d_M_leader_47 rfl rfl ?_
        refine aw_iload_n 50 d_M_leader_49 rfl rfl ?_
        refine aw_isub 51 d_M_leader_50 rfl ?_
        refine aw_iconst (v := (1 : Int32)) 52 d_M_leader_51 rfl (by decide) ?_
        refine aw_iadd 53 d_M_leader_52 rfl ?_
        refine aw_iload_n 54 d_M_leader_53 rfl rfl ?_
        refine aw_icmp_ge 61 57 d_M_leader_54 (by decide) rfl (fun c54 => ?_) (fun c54 => ?_)
        · have h := (if_pos c54).symm.trans h
          refine aw_aload_n 62 d_M_leader_61 rfl rfl ?_
          obtain ⟨μ62, h62, h⟩ := bnd h
          refine aw_invV (rest := []) (st' := []) (As := []) 65 d_M_leader_62 rfl lv_M_506 (m_M_readies h62) (by decide) (k_M_readies h62) rfl rfl rfl (Nat.le_of_ble_eq_true rfl) rfl ?_
          refine aw_iconst (v := (0 : Int32)) 66 d_M_leader_65 rfl (by decide) ?_
          refine aw_istore (loc' := [some (.ref a0), some (.int x1), some (.int x2), some (.int (y35 + (1 : Int32))), some (.int y42), some (.int (0 : Int32)), none, none, none, none, none, none, none]) 68 d_M_leader_66 rfl (by decide) rfl ?_
          refine aw_ldc2 (v := (1000000000000000 : Int64)) 71 d_M_leader_68 rfl c_M_255 ?_
          refine aw_lstore (loc' := [some (.ref a0), some (.int x1), some (.int x2), some (.int (y35 + (1 : Int32))), some (.int y42), some (.int (0 : Int32)), some (.long (1000000000000000 : Int64)), none, none, none, none, none, none]) 73 d_M_leader_71 rfl (by decide) rfl ?_
          refine aw_iload_n 74 d_M_leader_73 rfl rfl ?_
          refine aw_iconst (v := (2 : Int32)) 75 d_M_leader_74 rfl (by decide) ?_
          refine aw_icmp_le 84 78 d_M_leader_75 (by decide) rfl (fun c75 => ?_) (fun c75 => ?_)
          · have h := (if_pos c75).symm.trans h
            refine aw_iconst (v := (-1 : Int32)) 85 d_M_leader_84 rfl (by decide) ?_
            exact (j_M_leader_85 h)
          · have h := (if_neg c75).symm.trans h
            refine aw_iload_n 79 d_M_leader_78 rfl rfl ?_
            refine aw_iconst (v := (2 : Int32)) 80 d_M_leader_79 rfl (by decide) ?_
            refine aw_iadd 81 d_M_leader_80 rfl ?_
            refine aw_goto 85 d_M_leader_81 (by decide) ?_
            exact (j_M_leader_85 h)
        · have h := (if_neg c54).symm.trans h
          refine aw_ldc2 (v := (-2 : Int64)) 60 d_M_leader_57 rfl c_M_557 ?_
          cases h
          exact aw_lreturn d_M_leader_60 rfl
      · have h := (if_pos c27).symm.trans h
        exact AW.wk [false, false, false, true, true, true, true, true, true, true, true, true, true] rfl (j_M_leader_30 h)
theorem k_M_leader {q : Int64 × MM} {a0 : Nat} {x1 : Int32} {x2 : Int32} {μ : MM} (h : f_M_leader a0 x1 x2 μ = some q) : μ.1[a0]? = some (0, 1) := by
  unfold f_M_leader at h
  obtain ⟨_, h1, _⟩ := bnd h
  exact kO_some h1
theorem l_X_worst_4 {l : Launch} {μ0 : MM} {q : Int32} {a0 : Nat} {μ : MM} : ∀ (n : Nat) (x1 : Int32) (x2 : Int32), f_X_worst_L4 a0 μ n x1 x2 = some q → AWm l Y_X_worst 5 μ0 (some (.int q)) μ 4 [some (.ref a0), some (.int x1), some (.int x2)] [] μ := by
  intro n
  induction n with
  | zero =>
    intro x1 x2 h
    have h : (none : Option (Int32)) = some q := h
    cases h
  | succ n ih =>
    intro x1 x2 h
    rw [f_X_worst_L4] at h
    refine aw_iload_n 5 d_X_worst_4 rfl rfl ?_
    refine aw_bipush (v := (24 : Int32)) 7 d_X_worst_5 rfl (by decide) ?_
    refine aw_icmp_ge 54 10 d_X_worst_7 (by decide) rfl (fun c7 => ?_) (fun c7 => ?_)
    · have h := (if_pos c7).symm.trans h
      refine aw_iload_n 55 d_X_worst_54 rfl rfl ?_
      cases h
      exact aw_ireturn d_X_worst_55 rfl rfl
    · have h := (if_neg c7).symm.trans h
      refine aw_aload_n 11 d_X_worst_10 rfl rfl ?_
      obtain ⟨y11, h11, h⟩ := bnd h
      refine aw_getR 14 d_X_worst_11 rfl fg_X_10 rfl h11 ?_
      refine aw_iload_n 15 d_X_worst_14 rfl rfl ?_
      obtain ⟨y15, h15, h⟩ := bnd h
      refine aw_invV (rest := []) (st' := [.int y15]) (As := [.int x2]) 18 d_X_worst_15 rfl lv_X_297 (m_Sc_soundsIn h15) (by decide) (k_Sc_soundsIn h15) rfl rfl rfl (Nat.le_of_ble_eq_true rfl) rfl ?_
      refine aw_if_eq 48 21 d_X_worst_18 (by decide) rfl (fun c18 => ?_) (fun c18 => ?_)
      · have h := (if_pos c18).symm.trans h
        refine aw_iinc (v := (x2 + (1 : Int32))) (loc' := [some (.ref a0), some (.int x1), some (.int (x2 + (1 : Int32)))]) 51 d_X_worst_48 rfl (by decide) rfl rfl rfl ?_
        refine aw_goto 4 d_X_worst_51 (by decide) ?_
        exact (ih x1 (x2 + (1 : Int32)) h)
      · have h := (if_neg c18).symm.trans h
        refine aw_iload_n 22 d_X_worst_21 rfl rfl ?_
        refine aw_iconst (v := (-1 : Int32)) 23 d_X_worst_22 rfl (by decide) ?_
        refine aw_icmp_eq 46 26 d_X_worst_23 (by decide) rfl (fun c23 => ?_) (fun c23 => ?_)
        · have h := (if_pos c23).symm.trans h
          refine aw_iload_n 47 d_X_worst_46 rfl rfl ?_
          refine aw_istore_n (loc' := [some (.ref a0), some (.int x2), some (.int x2)]) 48 d_X_worst_47 rfl (by decide) rfl ?_
          refine aw_iinc (v := (x2 + (1 : Int32))) (loc' := [some (.ref a0), some (.int x2), some (.int (x2 + (1 : Int32)))]) 51 d_X_worst_48 rfl (by decide) rfl rfl rfl ?_
          refine aw_goto 4 d_X_worst_51 (by decide) ?_
          exact (ih x2 (x2 + (1 : Int32)) h)
        · have h := (if_neg c23).symm.trans h
          refine aw_aload_n 27 d_X_worst_26 rfl rfl ?_
          obtain ⟨y27, h27, h⟩ := bnd h
          refine aw_getR 30 d_X_worst_27 rfl fg_X_21 rfl h27 ?_
          refine aw_iload_n 31 d_X_worst_30 rfl rfl ?_
          obtain ⟨y31, h31, h⟩ := bnd h
          refine aw_invV (rest := []) (st' := [.long y31]) (As := [.int x2]) 34 d_X_worst_31 rfl lv_X_251 (m_Ch_tableFoul h31) (by decide) (k_Ch_tableFoul h31) rfl rfl rfl (Nat.le_of_ble_eq_true rfl) rfl ?_
          refine aw_aload_n 35 d_X_worst_34 rfl rfl ?_
          obtain ⟨y35, h35, h⟩ := bnd h
          refine aw_getR 38 d_X_worst_35 rfl fg_X_21 rfl h35 ?_
          refine aw_iload_n 39 d_X_worst_38 rfl rfl ?_
          obtain ⟨y39, h39, h⟩ := bnd h
          refine aw_invV (rest := [.long y31]) (st' := [.long y39, .long y31]) (As := [.int x1]) 42 d_X_worst_39 rfl lv_X_251 (m_Ch_tableFoul h39) (by decide) (k_Ch_tableFoul h39) rfl rfl rfl (Nat.le_of_ble_eq_true rfl) rfl ?_
          refine aw_lcmp 43 d_X_worst_42 rfl ?_
          refine aw_if_le 48 46 d_X_worst_43 (by decide) rfl (fun c43 => ?_) (fun c43 => ?_)
          · have h := (if_pos c43).symm.trans h
            refine aw_iinc (v := (x2 + (1 : Int32))) (loc' := [some (.ref a0), some (.int x1), some (.int (x2 + (1 : Int32)))]) 51 d_X_worst_48 rfl (by decide) rfl rfl rfl ?_
            refine aw_goto 4 d_X_worst_51 (by decide) ?_
            exact (ih x1 (x2 + (1 : Int32)) h)
          · have h := (if_neg c43).symm.trans h
            refine aw_iload_n 47 d_X_worst_46 rfl rfl ?_
            refine aw_istore_n (loc' := [some (.ref a0), some (.int x2), some (.int x2)]) 48 d_X_worst_47 rfl (by decide) rfl ?_
            refine aw_iinc (v := (x2 + (1 : Int32))) (loc' := [some (.ref a0), some (.int x2), some (.int (x2 + (1 : Int32)))]) 51 d_X_worst_48 rfl (by decide) rfl rfl rfl ?_
            refine aw_goto 4 d_X_worst_51 (by decide) ?_
            exact (ih x2 (x2 + (1 : Int32)) h)
theorem m_X_worst {l : Launch} {q : Int32} {a0 : Nat} {μ : MM} (h : f_X_worst a0 μ = some q) : AMet l 5 Y_X_worst [.ref a0] μ (some (.int q)) μ := by
  refine AMet.of (loc := [some (.ref a0), none, none]) pn_X_worst (Nat.le_of_ble_eq_true rfl) rfl ?_
  unfold f_X_worst at h
  obtain ⟨_, hk, h⟩ := bnd h
  refine aw_iconst (v := (-1 : Int32)) 1 d_X_worst_0 rfl (by decide) ?_
  refine aw_istore_n (loc' := [some (.ref a0), some (.int (-1 : Int32)), none]) 2 d_X_worst_1 rfl (by decide) rfl ?_
  refine aw_iconst (v := (0 : Int32)) 3 d_X_worst_2 rfl (by decide) ?_
  refine aw_istore_n (loc' := [some (.ref a0), some (.int (-1 : Int32)), some (.int (0 : Int32))]) 4 d_X_worst_3 rfl (by decide) rfl ?_
  exact (l_X_worst_4 FU _ _ h)
theorem k_X_worst {q : Int32} {a0 : Nat} {μ : MM} (h : f_X_worst a0 μ = some q) : μ.1[a0]? = some (0, 0) := by
  unfold f_X_worst at h
  obtain ⟨_, h1, _⟩ := bnd h
  exact kO_some h1
theorem l_M_worst_19 {l : Launch} {μ0 : MM} {q : Int32 × MM} {a0 : Nat} {x1 : Int32} {x2 : Int32} {μ : MM} {k8 : Int32 → Int32 → Option (Int32 × MM)} (hk8 : ∀ (x1 : Int32) (x2 : Int32), k8 x1 x2 = some q → AWm l Y_M_worst 5 μ0 (some (.int q.1)) q.2 8 [some (.ref a0), some (.int x1), some (.int x2), none, none] [] μ) : ∀ (n : Nat) (x3 : Int32) (x4 : Int32), f_M_worst_L19 k8 a0 x1 x2 μ n x3 x4 = some q → AWm l Y_M_worst 5 μ0 (some (.int q.1)) q.2 19 [some (.ref a0), some (.int x1), some (.int x2), some (.int x3), some (.int x4)] [] μ := by
  intro n
  induction n with
  | zero =>
    intro x3 x4 h
    have h : (none : Option (Int32 × MM)) = some q := h
    cases h
  | succ n ih =>
    intro x3 x4 h
    rw [f_M_worst_L19] at h
    refine aw_iload 21 d_M_worst_19 rfl rfl ?_
    refine aw_bipush (v := (6 : Int32)) 23 d_M_worst_21 rfl (by decide) ?_
    refine aw_icmp_ge 52 26 d_M_worst_23 (by decide) rfl (fun c23 => ?_) (fun c23 => ?_)
    · have h := (if_pos c23).symm.trans h
      refine aw_iload_n 53 d_M_worst_52 rfl rfl ?_
      refine aw_if_eq 77 56 d_M_worst_53 (by decide) rfl (fun c53 => ?_) (fun c53 => ?_)
      · have h := (if_pos c53).symm.trans h
        refine aw_iinc (v := (x2 + (1 : Int32))) (loc' := [some (.ref a0), some (.int x1), some (.int (x2 + (1 : Int32))), some (.int x3), some (.int x4)]) 80 d_M_worst_77 rfl (by decide) rfl rfl rfl ?_
        refine aw_goto 8 d_M_worst_80 (by decide) ?_
        exact AW.wk [true, true, true, false, false] rfl (hk8 x1 (x2 + (1 : Int32)) h)
      · have h := (if_neg c53).symm.trans h
        refine aw_iload_n 57 d_M_worst_56 rfl rfl ?_
        refine aw_iconst (v := (-1 : Int32)) 58 d_M_worst_57 rfl (by decide) ?_
        refine aw_icmp_eq 75 61 d_M_worst_58 (by decide) rfl (fun c58 => ?_) (fun c58 => ?_)
        · have h := (if_pos c58).symm.trans h
          refine aw_iload_n 76 d_M_worst_75 rfl rfl ?_
          refine aw_istore_n (loc' := [some (.ref a0), some (.int x2), some (.int x2), some (.int x3), some (.int x4)]) 77 d_M_worst_76 rfl (by decide) rfl ?_
          refine aw_iinc (v := (x2 + (1 : Int32))) (loc' := [some (.ref a0), some (.int x2), some (.int (x2 + (1 : Int32))), some (.int x3), some (.int x4)]) 80 d_M_worst_77 rfl (by decide) rfl rfl rfl ?_
          refine aw_goto 8 d_M_worst_80 (by decide) ?_
          exact AW.wk [true, true, true, false, false] rfl (hk8 x2 (x2 + (1 : Int32)) h)
        · have h := (if_neg c58).symm.trans h
          refine aw_aload_n 62 d_M_worst_61 rfl rfl ?_
          refine aw_iload_n 63 d_M_worst_62 rfl rfl ?_
          obtain ⟨y63, h63, h⟩ := bnd h
          refine aw_invV (rest := []) (st' := [.long y63]) (As := [.int x2]) 66 d_M_worst_63 rfl lv_M_532 (m_M_tableFoul h63) (by decide) (k_M_tableFoul h63) rfl rfl rfl (Nat.le_of_ble_eq_true rfl) rfl ?_
          refine aw_aload_n 67 d_M_worst_66 rfl rfl ?_
          refine aw_iload_n 68 d_M_worst_67 rfl rfl ?_
          obtain ⟨y68, h68, h⟩ := bnd h
          refine aw_invV (rest := [.long y63]) (st' := [.long y68, .long y63]) (As := [.int x1]) 71 d_M_worst_68 rfl lv_M_532 (m_M_tableFoul h68) (by decide) (k_M_tableFoul h68) rfl rfl rfl (Nat.le_of_ble_eq_true rfl) rfl ?_
          refine aw_lcmp 72 d_M_worst_71 rfl ?_
          refine aw_if_le 77 75 d_M_worst_72 (by decide) rfl (fun c72 => ?_) (fun c72 => ?_)
          · have h := (if_pos c72).symm.trans h
            refine aw_iinc (v := (x2 + (1 : Int32))) (loc' := [some (.ref a0), some (.int x1), some (.int (x2 + (1 : Int32))), some (.int x3), some (.int x4)]) 80 d_M_worst_77 rfl (by decide) rfl rfl rfl ?_
            refine aw_goto 8 d_M_worst_80 (by decide) ?_
            exact AW.wk [true, true, true, false, false] rfl (hk8 x1 (x2 + (1 : Int32)) h)
          · have h := (if_neg c72).symm.trans h
            refine aw_iload_n 76 d_M_worst_75 rfl rfl ?_
            refine aw_istore_n (loc' := [some (.ref a0), some (.int x2), some (.int x2), some (.int x3), some (.int x4)]) 77 d_M_worst_76 rfl (by decide) rfl ?_
            refine aw_iinc (v := (x2 + (1 : Int32))) (loc' := [some (.ref a0), some (.int x2), some (.int (x2 + (1 : Int32))), some (.int x3), some (.int x4)]) 80 d_M_worst_77 rfl (by decide) rfl rfl rfl ?_
            refine aw_goto 8 d_M_worst_80 (by decide) ?_
            exact AW.wk [true, true, true, false, false] rfl (hk8 x2 (x2 + (1 : Int32)) h)
    · have h := (if_neg c23).symm.trans h
      refine aw_iload_n 27 d_M_worst_26 rfl rfl ?_
      refine aw_if_ne 40 30 d_M_worst_27 (by decide) rfl (fun c27 => ?_) (fun c27 => ?_)
      · have h := (if_neg c27).symm.trans h
        refine aw_iconst (v := (1 : Int32)) 41 d_M_worst_40 rfl (by decide) ?_
        refine aw_goto 45 d_M_worst_41 (by decide) ?_
        refine aw_istore_n (loc' := [some (.ref a0), some (.int x1), some (.int x2), some (.int (1 : Int32)), some (.int x4)]) 46 d_M_worst_45 rfl (by decide) rfl ?_
        refine aw_iinc (v := (x4 + (1 : Int32))) (loc' := [some (.ref a0), some (.int x1), some (.int x2), some (.int (1 : Int32)), some (.int (x4 + (1 : Int32)))]) 49 d_M_worst_46 rfl (by decide) rfl rfl rfl ?_
        refine aw_goto 19 d_M_worst_49 (by decide) ?_
        exact (ih (1 : Int32) (x4 + (1 : Int32)) h)
      · have h := (if_pos c27).symm.trans h
        refine aw_aload_n 31 d_M_worst_30 rfl rfl ?_
        refine aw_iload 33 d_M_worst_31 rfl rfl ?_
        refine aw_iload_n 34 d_M_worst_33 rfl rfl ?_
        obtain ⟨y34, h34, h⟩ := bnd h
        refine aw_invV (rest := []) (st' := [.int y34]) (As := [.int x4, .int x2]) 37 d_M_worst_34 rfl lv_M_162 (m_M_isNote h34) (by decide) (k_M_isNote h34) rfl rfl rfl (Nat.le_of_ble_eq_true rfl) rfl ?_
        refine aw_if_eq 44 40 d_M_worst_37 (by decide) rfl (fun c37 => ?_) (fun c37 => ?_)
        · have h := (if_pos c37).symm.trans h
          refine aw_iconst (v := (0 : Int32)) 45 d_M_worst_44 rfl (by decide) ?_
          refine aw_istore_n (loc' := [some (.ref a0), some (.int x1), some (.int x2), some (.int (0 : Int32)), some (.int x4)]) 46 d_M_worst_45 rfl (by decide) rfl ?_
          refine aw_iinc (v := (x4 + (1 : Int32))) (loc' := [some (.ref a0), some (.int x1), some (.int x2), some (.int (0 : Int32)), some (.int (x4 + (1 : Int32)))]) 49 d_M_worst_46 rfl (by decide) rfl rfl rfl ?_
          refine aw_goto 19 d_M_worst_49 (by decide) ?_
          exact (ih (0 : Int32) (x4 + (1 : Int32)) h)
        · have h := (if_neg c37).symm.trans h
          refine aw_iconst (v := (1 : Int32)) 41 d_M_worst_40 rfl (by decide) ?_
          refine aw_goto 45 d_M_worst_41 (by decide) ?_
          refine aw_istore_n (loc' := [some (.ref a0), some (.int x1), some (.int x2), some (.int (1 : Int32)), some (.int x4)]) 46 d_M_worst_45 rfl (by decide) rfl ?_
          refine aw_iinc (v := (x4 + (1 : Int32))) (loc' := [some (.ref a0), some (.int x1), some (.int x2), some (.int (1 : Int32)), some (.int (x4 + (1 : Int32)))]) 49 d_M_worst_46 rfl (by decide) rfl rfl rfl ?_
          refine aw_goto 19 d_M_worst_49 (by decide) ?_
          exact (ih (1 : Int32) (x4 + (1 : Int32)) h)
theorem l_M_worst_8 {l : Launch} {μ0 : MM} {q : Int32 × MM} {a0 : Nat} {μ : MM} : ∀ (n : Nat) (x1 : Int32) (x2 : Int32), f_M_worst_L8 a0 μ n x1 x2 = some q → AWm l Y_M_worst 5 μ0 (some (.int q.1)) q.2 8 [some (.ref a0), some (.int x1), some (.int x2), none, none] [] μ := by
  intro n
  induction n with
  | zero =>
    intro x1 x2 h
    have h : (none : Option (Int32 × MM)) = some q := h
    cases h
  | succ n ih =>
    intro x1 x2 h
    rw [f_M_worst_L8] at h
    refine aw_iload_n 9 d_M_worst_8 rfl rfl ?_
    refine aw_bipush (v := (24 : Int32)) 11 d_M_worst_9 rfl (by decide) ?_
    refine aw_icmp_ge 83 14 d_M_worst_11 (by decide) rfl (fun c11 => ?_) (fun c11 => ?_)
    · have h := (if_pos c11).symm.trans h
      refine aw_iload_n 84 d_M_worst_83 rfl rfl ?_
      cases h
      exact aw_ireturn d_M_worst_84 rfl rfl
    · have h := (if_neg c11).symm.trans h
      refine aw_iconst (v := (0 : Int32)) 15 d_M_worst_14 rfl (by decide) ?_
      refine aw_istore_n (loc' := [some (.ref a0), some (.int x1), some (.int x2), some (.int (0 : Int32)), none]) 16 d_M_worst_15 rfl (by decide) rfl ?_
      refine aw_iconst (v := (0 : Int32)) 17 d_M_worst_16 rfl (by decide) ?_
      refine aw_istore (loc' := [some (.ref a0), some (.int x1), some (.int x2), some (.int (0 : Int32)), some (.int (0 : Int32))]) 19 d_M_worst_17 rfl (by decide) rfl ?_
      exact (l_M_worst_19 ih FU _ _ h)
theorem m_M_worst {l : Launch} {q : Int32 × MM} {a0 : Nat} {μ : MM} (h : f_M_worst a0 μ = some q) : AMet l 5 Y_M_worst [.ref a0] μ (some (.int q.1)) q.2 := by
  refine AMet.of (loc := [some (.ref a0), none, none, none, none]) pn_M_worst (Nat.le_of_ble_eq_true rfl) rfl ?_
  unfold f_M_worst at h
  obtain ⟨_, hk, h⟩ := bnd h
  refine aw_aload_n 1 d_M_worst_0 rfl rfl ?_
  obtain ⟨μ1, h1, h⟩ := bnd h
  refine aw_invV (rest := []) (st' := []) (As := []) 4 d_M_worst_1 rfl lv_M_506 (m_M_readies h1) (by decide) (k_M_readies h1) rfl rfl rfl (Nat.le_of_ble_eq_true rfl) rfl ?_
  refine aw_iconst (v := (-1 : Int32)) 5 d_M_worst_4 rfl (by decide) ?_
  refine aw_istore_n (loc' := [some (.ref a0), some (.int (-1 : Int32)), none, none, none]) 6 d_M_worst_5 rfl (by decide) rfl ?_
  refine aw_iconst (v := (0 : Int32)) 7 d_M_worst_6 rfl (by decide) ?_
  refine aw_istore_n (loc' := [some (.ref a0), some (.int (-1 : Int32)), some (.int (0 : Int32)), none, none]) 8 d_M_worst_7 rfl (by decide) rfl ?_
  exact (l_M_worst_8 FU _ _ h)
theorem k_M_worst {q : Int32 × MM} {a0 : Nat} {μ : MM} (h : f_M_worst a0 μ = some q) : μ.1[a0]? = some (0, 1) := by
  unfold f_M_worst at h
  obtain ⟨_, h1, _⟩ := bnd h
  exact kO_some h1
theorem m_X_knows {l : Launch} {q : Int64 × MM} {a0 : Nat} {μ : MM} (h : f_X_knows a0 μ = some q) : AMet l 8 Y_X_knows [.ref a0] μ (some (.long q.1)) q.2 := by
  refine AMet.of (loc := [some (.ref a0), none, none]) pn_X_knows (Nat.le_of_ble_eq_true rfl) rfl ?_
  unfold f_X_knows at h
  obtain ⟨_, hk, h⟩ := bnd h
  refine aw_aload_n 1 d_X_knows_0 rfl rfl ?_
  obtain ⟨y1, h1, h⟩ := bnd h
  refine aw_getR 4 d_X_knows_1 rfl fg_X_21 rfl h1 ?_
  obtain ⟨y4, h4, h⟩ := bnd h
  refine aw_invV (rest := []) (st' := [.int y4]) (As := []) 7 d_X_knows_4 rfl lv_X_254 (m_Ch_firstBeat h4) (by decide) (k_Ch_firstBeat h4) rfl rfl rfl (Nat.le_of_ble_eq_true rfl) rfl ?_
  refine aw_iconst (v := (-1 : Int32)) 8 d_X_knows_7 rfl (by decide) ?_
  refine aw_icmp_ne 15 11 d_X_knows_8 (by decide) rfl (fun c8 => ?_) (fun c8 => ?_)
  · have h := (if_neg c8).symm.trans h
    refine aw_aload_n 16 d_X_knows_15 rfl rfl ?_
    obtain ⟨y16, h16, h⟩ := bnd h
    refine aw_getR 19 d_X_knows_16 rfl fg_X_30 rfl h16 ?_
    obtain ⟨μ19, h19, h⟩ := bnd h
    refine aw_invV (rest := []) (st' := []) (As := []) 22 d_X_knows_19 rfl lv_X_232 (m_Si_asTold h19) (by decide) (k_Si_asTold h19) rfl rfl rfl (Nat.le_of_ble_eq_true rfl) rfl ?_
    refine aw_aload_n 23 d_X_knows_22 rfl rfl ?_
    obtain ⟨y23, h23, h⟩ := bnd h
    refine aw_getR 26 d_X_knows_23 rfl fg_X_30 rfl h23 ?_
    obtain ⟨y26, h26, h⟩ := bnd h
    refine aw_invV (rest := []) (st' := [.long y26]) (As := []) 29 d_X_knows_26 rfl lv_X_258 (m_Si_sinking h26) (by decide) (k_Si_sinking h26) rfl rfl rfl (Nat.le_of_ble_eq_true rfl) rfl ?_
    refine aw_lstore_n (loc' := [some (.ref a0), some (.long y26), none]) 30 d_X_knows_29 rfl (by decide) rfl ?_
    refine aw_aload_n 31 d_X_knows_30 rfl rfl ?_
    obtain ⟨y31, h31, h⟩ := bnd h
    refine aw_getR 34 d_X_knows_31 rfl fg_X_30 rfl h31 ?_
    refine aw_aload_n 35 d_X_knows_34 rfl rfl ?_
    obtain ⟨y35, h35, h⟩ := bnd h
    refine aw_getR 38 d_X_knows_35 rfl fg_X_21 rfl h35 ?_
    obtain ⟨y38, h38, h⟩ := bnd h
    refine aw_getR 41 d_X_knows_38 rfl fg_X_170 rfl h38 ?_
    refine aw_aload_n 42 d_X_knows_41 rfl rfl ?_
    obtain ⟨y42, h42, h⟩ := bnd h
    refine aw_getR 45 d_X_knows_42 rfl fg_X_21 rfl h42 ?_
    obtain ⟨y45, h45, h⟩ := bnd h
    refine aw_getI 48 d_X_knows_45 rfl fg_X_196 (Or.inl rfl) h45 ?_
    refine aw_iconst (v := (0 : Int32)) 49 d_X_knows_48 rfl (by decide) ?_
    refine aw_iconst (v := (1 : Int32)) 50 d_X_knows_49 rfl (by decide) ?_
    obtain ⟨μ50, h50, h⟩ := bnd h
    refine aw_invV (rest := []) (st' := []) (As := [.ref y38, .int y45, .int (0 : Int32), .int (1 : Int32)]) 53 d_X_knows_50 rfl lv_X_300 (m_Si_sing h50) (by decide) (k_Si_sing h50) rfl rfl rfl (Nat.le_of_ble_eq_true rfl) rfl ?_
    refine aw_lload_n 54 d_X_knows_53 rfl rfl ?_
    refine aw_aload_n 55 d_X_knows_54 rfl rfl ?_
    obtain ⟨y55, h55, h⟩ := bnd h
    refine aw_getR 58 d_X_knows_55 rfl fg_X_30 rfl h55 ?_
    obtain ⟨y58, h58, h⟩ := bnd h
    refine aw_invV (rest := [.long y26]) (st' := [.long y58, .long y26]) (As := []) 61 d_X_knows_58 rfl lv_X_258 (m_Si_sinking h58) (by decide) (k_Si_sinking h58) rfl rfl rfl (Nat.le_of_ble_eq_true rfl) rfl ?_
    refine aw_lsub 62 d_X_knows_61 rfl ?_
    cases h
    exact aw_lreturn d_X_knows_62 rfl
  · have h := (if_pos c8).symm.trans h
    refine aw_ldc2 (v := (-1000000000 : Int64)) 14 d_X_knows_11 rfl c_X_239 ?_
    cases h
    exact aw_lreturn d_X_knows_14 rfl
theorem k_X_knows {q : Int64 × MM} {a0 : Nat} {μ : MM} (h : f_X_knows a0 μ = some q) : μ.1[a0]? = some (0, 0) := by
  unfold f_X_knows at h
  obtain ⟨_, h1, _⟩ := bnd h
  exact kO_some h1
theorem l_M_knows_23 {l : Launch} {μ0 : MM} {q : Int64 × MM} {a0 : Nat} {x1 : Int64} : ∀ (n : Nat) (x3 : Int32) (μ : MM), f_M_knows_L23 a0 x1 n x3 μ = some q → AWm l Y_M_knows 12 μ0 (some (.long q.1)) q.2 23 [some (.ref a0), some (.long x1), none, some (.int x3)] [] μ := by
  intro n
  induction n with
  | zero =>
    intro x3 μ h
    have h : (none : Option (Int64 × MM)) = some q := h
    cases h
  | succ n ih =>
    intro x3 μ h
    rw [f_M_knows_L23] at h
    refine aw_iload_n 24 d_M_knows_23 rfl rfl ?_
    refine aw_aload_n 25 d_M_knows_24 rfl rfl ?_
    obtain ⟨y25, h25, h⟩ := bnd h
    refine aw_getI 28 d_M_knows_25 rfl fg_M_275 (Or.inl rfl) h25 ?_
    refine aw_icmp_ge 44 31 d_M_knows_28 (by decide) rfl (fun c28 => ?_) (fun c28 => ?_)
    · have h := (if_pos c28).symm.trans h
      refine aw_aload_n 45 d_M_knows_44 rfl rfl ?_
      obtain ⟨μ45, h45, h⟩ := bnd h
      refine aw_invV (rest := []) (st' := []) (As := []) 48 d_M_knows_45 rfl lv_M_509 (m_M_isSung h45) (by decide) (k_M_isSung h45) rfl rfl rfl (Nat.le_of_ble_eq_true rfl) rfl ?_
      refine aw_lload_n 49 d_M_knows_48 rfl rfl ?_
      refine aw_aload_n 50 d_M_knows_49 rfl rfl ?_
      obtain ⟨y50, h50, h⟩ := bnd h
      refine aw_invV (rest := [.long x1]) (st' := [.long y50, .long x1]) (As := []) 53 d_M_knows_50 rfl lv_M_537 (m_M_sunkNow h50) (by decide) (k_M_sunkNow h50) rfl rfl rfl (Nat.le_of_ble_eq_true rfl) rfl ?_
      refine aw_lsub 54 d_M_knows_53 rfl ?_
      cases h
      exact aw_lreturn d_M_knows_54 rfl
    · have h := (if_neg c28).symm.trans h
      refine aw_aload_n 32 d_M_knows_31 rfl rfl ?_
      obtain ⟨y32, h32, h⟩ := bnd h
      refine aw_getR 35 d_M_knows_32 rfl fg_M_113 rfl h32 ?_
      refine aw_iload_n 36 d_M_knows_35 rfl rfl ?_
      refine aw_iconst (v := (0 : Int32)) 37 d_M_knows_36 rfl (by decide) ?_
      obtain ⟨μ37, h37, h⟩ := bnd h
      refine aw_iast 38 d_M_knows_37 rfl h37 ?_
      refine aw_iinc (v := (x3 + (1 : Int32))) (loc' := [some (.ref a0), some (.long x1), none, some (.int (x3 + (1 : Int32)))]) 41 d_M_knows_38 rfl (by decide) rfl rfl rfl ?_
      refine aw_goto 23 d_M_knows_41 (by decide) ?_
      exact (ih (x3 + (1 : Int32)) μ37 h)
theorem m_M_knows {l : Launch} {q : Int64 × MM} {a0 : Nat} {μ : MM} (h : f_M_knows a0 μ = some q) : AMet l 12 Y_M_knows [.ref a0] μ (some (.long q.1)) q.2 := by
  refine AMet.of (loc := [some (.ref a0), none, none, none]) pn_M_knows (Nat.le_of_ble_eq_true rfl) rfl ?_
  unfold f_M_knows at h
  obtain ⟨_, hk, h⟩ := bnd h
  refine aw_aload_n 1 d_M_knows_0 rfl rfl ?_
  obtain ⟨y1, h1, h⟩ := bnd h
  refine aw_invV (rest := []) (st' := [.int y1]) (As := []) 4 d_M_knows_1 rfl lv_M_522 (m_M_firstSung h1) (by decide) (k_M_firstSung h1) rfl rfl rfl (Nat.le_of_ble_eq_true rfl) rfl ?_
  refine aw_iconst (v := (-1 : Int32)) 5 d_M_knows_4 rfl (by decide) ?_
  refine aw_icmp_ne 12 8 d_M_knows_5 (by decide) rfl (fun c5 => ?_) (fun c5 => ?_)
  · have h := (if_neg c5).symm.trans h
    refine aw_aload_n 13 d_M_knows_12 rfl rfl ?_
    obtain ⟨μ13, h13, h⟩ := bnd h
    refine aw_invV (rest := []) (st' := []) (As := []) 16 d_M_knows_13 rfl lv_M_525 (m_M_plainly h13) (by decide) (k_M_plainly h13) rfl rfl rfl (Nat.le_of_ble_eq_true rfl) rfl ?_
    refine aw_aload_n 17 d_M_knows_16 rfl rfl ?_
    obtain ⟨y17, h17, h⟩ := bnd h
    refine aw_invV (rest := []) (st' := [.long y17]) (As := []) 20 d_M_knows_17 rfl lv_M_537 (m_M_sunkNow h17) (by decide) (k_M_sunkNow h17) rfl rfl rfl (Nat.le_of_ble_eq_true rfl) rfl ?_
    refine aw_lstore_n (loc' := [some (.ref a0), some (.long y17), none, none]) 21 d_M_knows_20 rfl (by decide) rfl ?_
    refine aw_iconst (v := (0 : Int32)) 22 d_M_knows_21 rfl (by decide) ?_
    refine aw_istore_n (loc' := [some (.ref a0), some (.long y17), none, some (.int (0 : Int32))]) 23 d_M_knows_22 rfl (by decide) rfl ?_
    exact (l_M_knows_23 FU _ _ h)
  · have h := (if_pos c5).symm.trans h
    refine aw_ldc2 (v := (-1000000000 : Int64)) 11 d_M_knows_8 rfl c_M_530 ?_
    cases h
    exact aw_lreturn d_M_knows_11 rfl
theorem k_M_knows {q : Int64 × MM} {a0 : Nat} {μ : MM} (h : f_M_knows a0 μ = some q) : μ.1[a0]? = some (0, 1) := by
  unfold f_M_knows at h
  obtain ⟨_, h1, _⟩ := bnd h
  exact kO_some h1
theorem m_Ch_putRecord {l : Launch} {q : MM} {a0 : Nat} {x1 : Int32} {x2 : Int32} {x3 : Int32} {μ : MM} (h : f_Ch_putRecord a0 x1 x2 x3 μ = some q) : AMet l 2 Y_Ch_putRecord [.ref a0, .int x1, .int x2, .int x3] μ none q := by
  refine AMet.of (loc := [some (.ref a0), some (.int x1), some (.int x2), some (.int x3)]) pn_Ch_putRecord (Nat.le_of_ble_eq_true rfl) rfl ?_
  unfold f_Ch_putRecord at h
  obtain ⟨_, hk, h⟩ := bnd h
  refine aw_aload_n 1 d_Ch_putRecord_0 rfl rfl ?_
  refine aw_iload_n 2 d_Ch_putRecord_1 rfl rfl ?_
  obtain ⟨y2, h2, h⟩ := bnd h
  refine aw_invV (rest := []) (st' := [.int y2]) (As := [.int x1]) 5 d_Ch_putRecord_2 rfl lv_Ch_51 (m_Ch_has h2) (by decide) (k_Ch_has h2) rfl rfl rfl (Nat.le_of_ble_eq_true rfl) rfl ?_
  refine aw_if_eq 42 8 d_Ch_putRecord_5 (by decide) rfl (fun c5 => ?_) (fun c5 => ?_)
  · have h := (if_pos c5).symm.trans h
    cases h
    exact aw_return d_Ch_putRecord_42 rfl
  · have h := (if_neg c5).symm.trans h
    refine aw_iload_n 9 d_Ch_putRecord_8 rfl rfl ?_
    refine aw_if_lt 42 12 d_Ch_putRecord_9 (by decide) rfl (fun c9 => ?_) (fun c9 => ?_)
    · have h := (if_pos c9).symm.trans h
      cases h
      exact aw_return d_Ch_putRecord_42 rfl
    · have h := (if_neg c9).symm.trans h
      refine aw_iload_n 13 d_Ch_putRecord_12 rfl rfl ?_
      refine aw_bipush (v := (24 : Int32)) 15 d_Ch_putRecord_13 rfl (by decide) ?_
      refine aw_icmp_ge 42 18 d_Ch_putRecord_15 (by decide) rfl (fun c15 => ?_) (fun c15 => ?_)
      · have h := (if_pos c15).symm.trans h
        cases h
        exact aw_return d_Ch_putRecord_42 rfl
      · have h := (if_neg c15).symm.trans h
        refine aw_aload_n 19 d_Ch_putRecord_18 rfl rfl ?_
        obtain ⟨y19, h19, h⟩ := bnd h
        refine aw_getR 22 d_Ch_putRecord_19 rfl fg_Ch_24 rfl h19 ?_
        refine aw_iload_n 23 d_Ch_putRecord_22 rfl rfl ?_
        refine aw_bipush (v := (24 : Int32)) 25 d_Ch_putRecord_23 rfl (by decide) ?_
        refine aw_imul 26 d_Ch_putRecord_25 rfl ?_
        refine aw_iload_n 27 d_Ch_putRecord_26 rfl rfl ?_
        refine aw_iadd 28 d_Ch_putRecord_27 rfl ?_
        refine aw_iload_n 29 d_Ch_putRecord_28 rfl rfl ?_
        obtain ⟨μ29, h29, h⟩ := bnd h
        refine aw_iast 30 d_Ch_putRecord_29 rfl h29 ?_
        refine aw_aload_n 31 d_Ch_putRecord_30 rfl rfl ?_
        obtain ⟨y31, h31, h⟩ := bnd h
        refine aw_getR 34 d_Ch_putRecord_31 rfl fg_Ch_27 rfl h31 ?_
        refine aw_iload_n 35 d_Ch_putRecord_34 rfl rfl ?_
        refine aw_dup2 36 d_Ch_putRecord_35 rfl rfl rfl ?_
        obtain ⟨y36, h36, h⟩ := bnd h
        refine aw_iald 37 d_Ch_putRecord_36 rfl h36 ?_
        refine aw_iconst (v := (1 : Int32)) 38 d_Ch_putRecord_37 rfl (by decide) ?_
        refine aw_iload_n 39 d_Ch_putRecord_38 rfl rfl ?_
        refine aw_ishl 40 d_Ch_putRecord_39 rfl ?_
        refine aw_ior 41 d_Ch_putRecord_40 rfl ?_
        obtain ⟨μ41, h41, h⟩ := bnd h
        refine aw_iast 42 d_Ch_putRecord_41 rfl h41 ?_
        cases h
        exact aw_return d_Ch_putRecord_42 rfl
theorem k_Ch_putRecord {q : MM} {a0 : Nat} {x1 : Int32} {x2 : Int32} {x3 : Int32} {μ : MM} (h : f_Ch_putRecord a0 x1 x2 x3 μ = some q) : μ.1[a0]? = some (0, 2) := by
  unfold f_Ch_putRecord at h
  obtain ⟨_, h1, _⟩ := bnd h
  exact kO_some h1
theorem m_X_tape {l : Launch} {q : Int32 × MM} {a0 : Nat} {x1 : Int32} {x2 : Int32} {x3 : Int32} {μ : MM} (h : f_X_tape a0 x1 x2 x3 μ = some q) : AMet l 3 Y_X_tape [.ref a0, .int x1, .int x2, .int x3] μ (some (.int q.1)) q.2 := by
  refine AMet.of (loc := [some (.ref a0), some (.int x1), some (.int x2), some (.int x3)]) pn_X_tape (Nat.le_of_ble_eq_true rfl) rfl ?_
  unfold f_X_tape at h
  obtain ⟨_, hk, h⟩ := bnd h
  refine aw_aload_n 1 d_X_tape_0 rfl rfl ?_
  obtain ⟨y1, h1, h⟩ := bnd h
  refine aw_getR 4 d_X_tape_1 rfl fg_X_21 rfl h1 ?_
  refine aw_iload_n 5 d_X_tape_4 rfl rfl ?_
  obtain ⟨y5, h5, h⟩ := bnd h
  refine aw_invV (rest := []) (st' := [.int y5]) (As := [.int x1]) 8 d_X_tape_5 rfl lv_X_179 (m_Ch_has h5) (by decide) (k_Ch_has h5) rfl rfl rfl (Nat.le_of_ble_eq_true rfl) rfl ?_
  refine aw_if_eq 35 11 d_X_tape_8 (by decide) rfl (fun c8 => ?_) (fun c8 => ?_)
  · have h := (if_pos c8).symm.trans h
    refine aw_iconst (v := (0 : Int32)) 36 d_X_tape_35 rfl (by decide) ?_
    cases h
    exact aw_ireturn d_X_tape_36 rfl nar0
  · have h := (if_neg c8).symm.trans h
    refine aw_iload_n 12 d_X_tape_11 rfl rfl ?_
    refine aw_if_lt 35 15 d_X_tape_12 (by decide) rfl (fun c12 => ?_) (fun c12 => ?_)
    · have h := (if_pos c12).symm.trans h
      refine aw_iconst (v := (0 : Int32)) 36 d_X_tape_35 rfl (by decide) ?_
      cases h
      exact aw_ireturn d_X_tape_36 rfl nar0
    · have h := (if_neg c12).symm.trans h
      refine aw_iload_n 16 d_X_tape_15 rfl rfl ?_
      refine aw_bipush (v := (24 : Int32)) 18 d_X_tape_16 rfl (by decide) ?_
      refine aw_icmp_ge 35 21 d_X_tape_18 (by decide) rfl (fun c18 => ?_) (fun c18 => ?_)
      · have h := (if_pos c18).symm.trans h
        refine aw_iconst (v := (0 : Int32)) 36 d_X_tape_35 rfl (by decide) ?_
        cases h
        exact aw_ireturn d_X_tape_36 rfl nar0
      · have h := (if_neg c18).symm.trans h
        refine aw_iload_n 22 d_X_tape_21 rfl rfl ?_
        refine aw_ldc_w (v := (-10000000 : Int32)) 25 d_X_tape_22 rfl c_X_304 ?_
        refine aw_icmp_lt 35 28 d_X_tape_25 (by decide) rfl (fun c25 => ?_) (fun c25 => ?_)
        · have h := (if_pos c25).symm.trans h
          refine aw_iconst (v := (0 : Int32)) 36 d_X_tape_35 rfl (by decide) ?_
          cases h
          exact aw_ireturn d_X_tape_36 rfl nar0
        · have h := (if_neg c25).symm.trans h
          refine aw_iload_n 29 d_X_tape_28 rfl rfl ?_
          refine aw_ldc_w (v := (10000000 : Int32)) 32 d_X_tape_29 rfl c_X_305 ?_
          refine aw_icmp_le 37 35 d_X_tape_32 (by decide) rfl (fun c32 => ?_) (fun c32 => ?_)
          · have h := (if_pos c32).symm.trans h
            refine aw_aload_n 38 d_X_tape_37 rfl rfl ?_
            obtain ⟨y38, h38, h⟩ := bnd h
            refine aw_getR 41 d_X_tape_38 rfl fg_X_21 rfl h38 ?_
            refine aw_iload_n 42 d_X_tape_41 rfl rfl ?_
            refine aw_iload_n 43 d_X_tape_42 rfl rfl ?_
            refine aw_iload_n 44 d_X_tape_43 rfl rfl ?_
            obtain ⟨μ44, h44, h⟩ := bnd h
            refine aw_invV (rest := []) (st' := []) (As := [.int x1, .int x2, .int x3]) 47 d_X_tape_44 rfl lv_X_306 (m_Ch_putRecord h44) (by decide) (k_Ch_putRecord h44) rfl rfl rfl (Nat.le_of_ble_eq_true rfl) rfl ?_
            refine aw_iconst (v := (1 : Int32)) 48 d_X_tape_47 rfl (by decide) ?_
            cases h
            exact aw_ireturn d_X_tape_48 rfl nar1
          · have h := (if_neg c32).symm.trans h
            refine aw_iconst (v := (0 : Int32)) 36 d_X_tape_35 rfl (by decide) ?_
            cases h
            exact aw_ireturn d_X_tape_36 rfl nar0
theorem k_X_tape {q : Int32 × MM} {a0 : Nat} {x1 : Int32} {x2 : Int32} {x3 : Int32} {μ : MM} (h : f_X_tape a0 x1 x2 x3 μ = some q) : μ.1[a0]? = some (0, 0) := by
  unfold f_X_tape at h
  obtain ⟨_, h1, _⟩ := bnd h
  exact kO_some h1
theorem m_M_tape {l : Launch} {q : Int32 × MM} {a0 : Nat} {x1 : Int32} {x2 : Int32} {x3 : Int32} {μ : MM} (h : f_M_tape a0 x1 x2 x3 μ = some q) : AMet l 3 Y_M_tape [.ref a0, .int x1, .int x2, .int x3] μ (some (.int q.1)) q.2 := by
  refine AMet.of (loc := [some (.ref a0), some (.int x1), some (.int x2), some (.int x3)]) pn_M_tape (Nat.le_of_ble_eq_true rfl) rfl ?_
  unfold f_M_tape at h
  obtain ⟨_, hk, h⟩ := bnd h
  refine aw_aload_n 1 d_M_tape_0 rfl rfl ?_
  refine aw_iload_n 2 d_M_tape_1 rfl rfl ?_
  obtain ⟨y2, h2, h⟩ := bnd h
  refine aw_invV (rest := []) (st' := [.int y2]) (As := [.int x1]) 5 d_M_tape_2 rfl lv_M_282 (m_M_isSinger h2) (by decide) (k_M_isSinger h2) rfl rfl rfl (Nat.le_of_ble_eq_true rfl) rfl ?_
  refine aw_if_eq 29 8 d_M_tape_5 (by decide) rfl (fun c5 => ?_) (fun c5 => ?_)
  · have h := (if_pos c5).symm.trans h
    refine aw_iconst (v := (0 : Int32)) 30 d_M_tape_29 rfl (by decide) ?_
    cases h
    exact aw_ireturn d_M_tape_30 rfl nar0
  · have h := (if_neg c5).symm.trans h
    refine aw_iload_n 9 d_M_tape_8 rfl rfl ?_
    obtain ⟨y9, h9, h⟩ := bnd h
    refine aw_invS (rest := []) (st' := [.int y9]) (As := [.int x2]) 12 d_M_tape_9 rfl ls_M_155 (m_M_isBeat h9) (by decide) rfl rfl (Nat.le_of_ble_eq_true rfl) rfl ?_
    refine aw_if_eq 29 15 d_M_tape_12 (by decide) rfl (fun c12 => ?_) (fun c12 => ?_)
    · have h := (if_pos c12).symm.trans h
      refine aw_iconst (v := (0 : Int32)) 30 d_M_tape_29 rfl (by decide) ?_
      cases h
      exact aw_ireturn d_M_tape_30 rfl nar0
    · have h := (if_neg c12).symm.trans h
      refine aw_iload_n 16 d_M_tape_15 rfl rfl ?_
      refine aw_i2l 17 d_M_tape_16 rfl ?_
      refine aw_ldc2 (v := (-10000000 : Int64)) 20 d_M_tape_17 rfl c_M_562 ?_
      refine aw_ldc2 (v := (10000000 : Int64)) 23 d_M_tape_20 rfl c_M_564 ?_
      obtain ⟨y23, h23, h⟩ := bnd h
      refine aw_invS (rest := []) (st' := [.int y23]) (As := [.long x3.toInt64, .long (-10000000 : Int64), .long (10000000 : Int64)]) 26 d_M_tape_23 rfl ls_M_145 (m_M_lies h23) (by decide) rfl rfl (Nat.le_of_ble_eq_true rfl) rfl ?_
      refine aw_if_ne 31 29 d_M_tape_26 (by decide) rfl (fun c26 => ?_) (fun c26 => ?_)
      · have h := (if_neg c26).symm.trans h
        refine aw_aload_n 32 d_M_tape_31 rfl rfl ?_
        obtain ⟨y32, h32, h⟩ := bnd h
        refine aw_getR 35 d_M_tape_32 rfl fg_M_137 rfl h32 ?_
        refine aw_bipush (v := (24 : Int32)) 37 d_M_tape_35 rfl (by decide) ?_
        refine aw_iload_n 38 d_M_tape_37 rfl rfl ?_
        refine aw_imul 39 d_M_tape_38 rfl ?_
        refine aw_iload_n 40 d_M_tape_39 rfl rfl ?_
        refine aw_iadd 41 d_M_tape_40 rfl ?_
        refine aw_iload_n 42 d_M_tape_41 rfl rfl ?_
        obtain ⟨μ42, h42, h⟩ := bnd h
        refine aw_iast 43 d_M_tape_42 rfl h42 ?_
        refine aw_aload_n 44 d_M_tape_43 rfl rfl ?_
        obtain ⟨y44, h44, h⟩ := bnd h
        refine aw_getR 47 d_M_tape_44 rfl fg_M_140 rfl h44 ?_
        refine aw_bipush (v := (24 : Int32)) 49 d_M_tape_47 rfl (by decide) ?_
        refine aw_iload_n 50 d_M_tape_49 rfl rfl ?_
        refine aw_imul 51 d_M_tape_50 rfl ?_
        refine aw_iload_n 52 d_M_tape_51 rfl rfl ?_
        refine aw_iadd 53 d_M_tape_52 rfl ?_
        refine aw_iconst (v := (1 : Int32)) 54 d_M_tape_53 rfl (by decide) ?_
        obtain ⟨μ54, h54, h⟩ := bnd h
        refine aw_bast 55 d_M_tape_54 rfl h54 ?_
        refine aw_iconst (v := (1 : Int32)) 56 d_M_tape_55 rfl (by decide) ?_
        cases h
        exact aw_ireturn d_M_tape_56 rfl nar1
      · have h := (if_pos c26).symm.trans h
        refine aw_iconst (v := (0 : Int32)) 30 d_M_tape_29 rfl (by decide) ?_
        cases h
        exact aw_ireturn d_M_tape_30 rfl nar0
theorem k_M_tape {q : Int32 × MM} {a0 : Nat} {x1 : Int32} {x2 : Int32} {x3 : Int32} {μ : MM} (h : f_M_tape a0 x1 x2 x3 μ = some q) : μ.1[a0]? = some (0, 1) := by
  unfold f_M_tape at h
  obtain ⟨_, h1, _⟩ := bnd h
  exact kO_some h1
theorem l_Ar_fill_BJ_6 {l : Launch} {μ0 : MM} {q : MM} {a0 : Nat} {x1 : Int64} {x4 : Int32} : ∀ (n : Nat) (x3 : Int32) (μ : MM), f_Ar_fill_BJ_L6 a0 x1 x4 n x3 μ = some q → AWm l Y_Ar_fill_BJ 1 μ0 none q 6 [some (.ref a0), some (.long x1), none, some (.int x3), some (.int x4)] [] μ := by
  intro n
  induction n with
  | zero =>
    intro x3 μ h
    have h : (none : Option (MM)) = some q := h
    cases h
  | succ n ih =>
    intro x3 μ h
    rw [f_Ar_fill_BJ_L6] at h
    refine aw_iload_n 7 d_Ar_fill_BJ_6 rfl rfl ?_
    refine aw_iload 9 d_Ar_fill_BJ_7 rfl rfl ?_
    refine aw_icmp_ge 22 12 d_Ar_fill_BJ_9 (by decide) rfl (fun c9 => ?_) (fun c9 => ?_)
    · have h := (if_pos c9).symm.trans h
      cases h
      exact aw_return d_Ar_fill_BJ_22 rfl
    · have h := (if_neg c9).symm.trans h
      refine aw_aload_n 13 d_Ar_fill_BJ_12 rfl rfl ?_
      refine aw_iload_n 14 d_Ar_fill_BJ_13 rfl rfl ?_
      refine aw_lload_n 15 d_Ar_fill_BJ_14 rfl rfl ?_
      obtain ⟨μ15, h15, h⟩ := bnd h
      refine aw_last 16 d_Ar_fill_BJ_15 rfl h15 ?_
      refine aw_iinc (v := (x3 + (1 : Int32))) (loc' := [some (.ref a0), some (.long x1), none, some (.int (x3 + (1 : Int32))), some (.int x4)]) 19 d_Ar_fill_BJ_16 rfl (by decide) rfl rfl rfl ?_
      refine aw_goto 6 d_Ar_fill_BJ_19 (by decide) ?_
      exact (ih (x3 + (1 : Int32)) μ15 h)
theorem m_Ar_fill_BJ {l : Launch} {q : MM} {a0 : Nat} {x1 : Int64} {μ : MM} (h : f_Ar_fill_BJ a0 x1 μ = some q) : AMet l 1 Y_Ar_fill_BJ [.ref a0, .long x1] μ none q := by
  refine AMet.of (loc := [some (.ref a0), some (.long x1), none, none, none]) pn_Ar_fill_BJ (Nat.le_of_ble_eq_true rfl) rfl ?_
  unfold f_Ar_fill_BJ at h
  refine aw_iconst (v := (0 : Int32)) 1 d_Ar_fill_BJ_0 rfl (by decide) ?_
  refine aw_istore_n (loc' := [some (.ref a0), some (.long x1), none, some (.int (0 : Int32)), none]) 2 d_Ar_fill_BJ_1 rfl (by decide) rfl ?_
  refine aw_aload_n 3 d_Ar_fill_BJ_2 rfl rfl ?_
  obtain ⟨y3, h3, h⟩ := bnd h
  refine aw_alen 4 d_Ar_fill_BJ_3 rfl h3 ?_
  refine aw_istore (loc' := [some (.ref a0), some (.long x1), none, some (.int (0 : Int32)), some (.int y3)]) 6 d_Ar_fill_BJ_4 rfl (by decide) rfl ?_
  exact (l_Ar_fill_BJ_6 FU _ _ h)
theorem m_Ch_isRecorded {l : Launch} {q : Int32} {a0 : Nat} {x1 : Int32} {x2 : Int32} {μ : MM} (h : f_Ch_isRecorded a0 x1 x2 μ = some q) : AMet l 3 Y_Ch_isRecorded [.ref a0, .int x1, .int x2] μ (some (.int q)) μ := by
  refine AMet.of (loc := [some (.ref a0), some (.int x1), some (.int x2)]) pn_Ch_isRecorded (Nat.le_of_ble_eq_true rfl) rfl ?_
  unfold f_Ch_isRecorded at h
  obtain ⟨_, hk, h⟩ := bnd h
  refine aw_aload_n 1 d_Ch_isRecorded_0 rfl rfl ?_
  refine aw_iload_n 2 d_Ch_isRecorded_1 rfl rfl ?_
  refine aw_iload_n 3 d_Ch_isRecorded_2 rfl rfl ?_
  obtain ⟨y3, h3, h⟩ := bnd h
  refine aw_invV (rest := []) (st' := [.int y3]) (As := [.int x1, .int x2]) 6 d_Ch_isRecorded_3 rfl lv_Ch_61 (m_Ch_sings h3) (by decide) (k_Ch_sings h3) rfl rfl rfl (Nat.le_of_ble_eq_true rfl) rfl ?_
  refine aw_if_eq 27 9 d_Ch_isRecorded_6 (by decide) rfl (fun c6 => ?_) (fun c6 => ?_)
  · have h := (if_pos c6).symm.trans h
    refine aw_iconst (v := (0 : Int32)) 28 d_Ch_isRecorded_27 rfl (by decide) ?_
    cases h
    exact aw_ireturn d_Ch_isRecorded_28 rfl nar0
  · have h := (if_neg c6).symm.trans h
    refine aw_aload_n 10 d_Ch_isRecorded_9 rfl rfl ?_
    obtain ⟨y10, h10, h⟩ := bnd h
    refine aw_getR 13 d_Ch_isRecorded_10 rfl fg_Ch_27 rfl h10 ?_
    refine aw_iload_n 14 d_Ch_isRecorded_13 rfl rfl ?_
    obtain ⟨y14, h14, h⟩ := bnd h
    refine aw_iald 15 d_Ch_isRecorded_14 rfl h14 ?_
    refine aw_iload_n 16 d_Ch_isRecorded_15 rfl rfl ?_
    refine aw_ishr 17 d_Ch_isRecorded_16 rfl ?_
    refine aw_iconst (v := (1 : Int32)) 18 d_Ch_isRecorded_17 rfl (by decide) ?_
    refine aw_iand 19 d_Ch_isRecorded_18 rfl ?_
    refine aw_iconst (v := (1 : Int32)) 20 d_Ch_isRecorded_19 rfl (by decide) ?_
    refine aw_icmp_ne 27 23 d_Ch_isRecorded_20 (by decide) rfl (fun c20 => ?_) (fun c20 => ?_)
    · have h := (if_neg c20).symm.trans h
      refine aw_iconst (v := (0 : Int32)) 28 d_Ch_isRecorded_27 rfl (by decide) ?_
      cases h
      exact aw_ireturn d_Ch_isRecorded_28 rfl nar0
    · have h := (if_pos c20).symm.trans h
      refine aw_iconst (v := (1 : Int32)) 24 d_Ch_isRecorded_23 rfl (by decide) ?_
      refine aw_goto 28 d_Ch_isRecorded_24 (by decide) ?_
      cases h
      exact aw_ireturn d_Ch_isRecorded_28 rfl nar1
theorem k_Ch_isRecorded {q : Int32} {a0 : Nat} {x1 : Int32} {x2 : Int32} {μ : MM} (h : f_Ch_isRecorded a0 x1 x2 μ = some q) : μ.1[a0]? = some (0, 2) := by
  unfold f_Ch_isRecorded at h
  obtain ⟨_, h1, _⟩ := bnd h
  exact kO_some h1
theorem l_Ch_lastRecord_4 {l : Launch} {μ0 : MM} {q : Int32} {a0 : Nat} {x1 : Int32} {μ : MM} : ∀ (n : Nat) (x3 : Int32), f_Ch_lastRecord_L4 a0 x1 μ n x3 = some q → AWm l Y_Ch_lastRecord 4 μ0 (some (.int q)) μ 4 [some (.ref a0), some (.int x1), none, some (.int x3)] [] μ := by
  intro n
  induction n with
  | zero =>
    intro x3 h
    have h : (none : Option (Int32)) = some q := h
    cases h
  | succ n ih =>
    intro x3 h
    rw [f_Ch_lastRecord_L4] at h
    refine aw_iload_n 5 d_Ch_lastRecord_4 rfl rfl ?_
    refine aw_if_lt 25 8 d_Ch_lastRecord_5 (by decide) rfl (fun c5 => ?_) (fun c5 => ?_)
    · have h := (if_pos c5).symm.trans h
      refine aw_iconst (v := (-1 : Int32)) 26 d_Ch_lastRecord_25 rfl (by decide) ?_
      cases h
      exact aw_ireturn d_Ch_lastRecord_26 rfl rfl
    · have h := (if_neg c5).symm.trans h
      refine aw_aload_n 9 d_Ch_lastRecord_8 rfl rfl ?_
      refine aw_iload_n 10 d_Ch_lastRecord_9 rfl rfl ?_
      refine aw_iload_n 11 d_Ch_lastRecord_10 rfl rfl ?_
      obtain ⟨y11, h11, h⟩ := bnd h
      refine aw_invV (rest := []) (st' := [.int y11]) (As := [.int x1, .int x3]) 14 d_Ch_lastRecord_11 rfl lv_Ch_96 (m_Ch_isRecorded h11) (by decide) (k_Ch_isRecorded h11) rfl rfl rfl (Nat.le_of_ble_eq_true rfl) rfl ?_
      refine aw_if_eq 19 17 d_Ch_lastRecord_14 (by decide) rfl (fun c14 => ?_) (fun c14 => ?_)
      · have h := (if_pos c14).symm.trans h
        refine aw_iinc (v := (x3 + (-1 : Int32))) (loc' := [some (.ref a0), some (.int x1), none, some (.int (x3 + (-1 : Int32)))]) 22 d_Ch_lastRecord_19 rfl (by decide) rfl rfl rfl ?_
        refine aw_goto 4 d_Ch_lastRecord_22 (by decide) ?_
        exact (ih (x3 + (-1 : Int32)) h)
      · have h := (if_neg c14).symm.trans h
        refine aw_iload_n 18 d_Ch_lastRecord_17 rfl rfl ?_
        cases h
        exact aw_ireturn d_Ch_lastRecord_18 rfl rfl
theorem m_Ch_lastRecord {l : Launch} {q : Int32} {a0 : Nat} {x1 : Int32} {x2 : Int32} {μ : MM} (h : f_Ch_lastRecord a0 x1 x2 μ = some q) : AMet l 4 Y_Ch_lastRecord [.ref a0, .int x1, .int x2] μ (some (.int q)) μ := by
  refine AMet.of (loc := [some (.ref a0), some (.int x1), some (.int x2), none]) pn_Ch_lastRecord (Nat.le_of_ble_eq_true rfl) rfl ?_
  unfold f_Ch_lastRecord at h
  obtain ⟨_, hk, h⟩ := bnd h
  refine aw_iload_n 1 d_Ch_lastRecord_0 rfl rfl ?_
  refine aw_iconst (v := (1 : Int32)) 2 d_Ch_lastRecord_1 rfl (by decide) ?_
  refine aw_isub 3 d_Ch_lastRecord_2 rfl ?_
  refine aw_istore_n (loc' := [some (.ref a0), some (.int x1), some (.int x2), some (.int (x2 - (1 : Int32)))]) 4 d_Ch_lastRecord_3 rfl (by decide) rfl ?_
  exact AW.wk [true, true, false, true] rfl (l_Ch_lastRecord_4 FU _ h)
theorem k_Ch_lastRecord {q : Int32} {a0 : Nat} {x1 : Int32} {x2 : Int32} {μ : MM} (h : f_Ch_lastRecord a0 x1 x2 μ = some q) : μ.1[a0]? = some (0, 2) := by
  unfold f_Ch_lastRecord at h
  obtain ⟨_, h1, _⟩ := bnd h
  exact kO_some h1
theorem m_Ch_recordOf {l : Launch} {q : Int32} {a0 : Nat} {x1 : Int32} {x2 : Int32} {μ : MM} (h : f_Ch_recordOf a0 x1 x2 μ = some q) : AMet l 4 Y_Ch_recordOf [.ref a0, .int x1, .int x2] μ (some (.int q)) μ := by
  refine AMet.of (loc := [some (.ref a0), some (.int x1), some (.int x2)]) pn_Ch_recordOf (Nat.le_of_ble_eq_true rfl) rfl ?_
  unfold f_Ch_recordOf at h
  obtain ⟨_, hk, h⟩ := bnd h
  refine aw_aload_n 1 d_Ch_recordOf_0 rfl rfl ?_
  refine aw_iload_n 2 d_Ch_recordOf_1 rfl rfl ?_
  refine aw_iload_n 3 d_Ch_recordOf_2 rfl rfl ?_
  obtain ⟨y3, h3, h⟩ := bnd h
  refine aw_invV (rest := []) (st' := [.int y3]) (As := [.int x1, .int x2]) 6 d_Ch_recordOf_3 rfl lv_Ch_96 (m_Ch_isRecorded h3) (by decide) (k_Ch_isRecorded h3) rfl rfl rfl (Nat.le_of_ble_eq_true rfl) rfl ?_
  refine aw_if_eq 23 9 d_Ch_recordOf_6 (by decide) rfl (fun c6 => ?_) (fun c6 => ?_)
  · have h := (if_pos c6).symm.trans h
    refine aw_iconst (v := (0 : Int32)) 24 d_Ch_recordOf_23 rfl (by decide) ?_
    cases h
    exact aw_ireturn d_Ch_recordOf_24 rfl rfl
  · have h := (if_neg c6).symm.trans h
    refine aw_aload_n 10 d_Ch_recordOf_9 rfl rfl ?_
    obtain ⟨y10, h10, h⟩ := bnd h
    refine aw_getR 13 d_Ch_recordOf_10 rfl fg_Ch_24 rfl h10 ?_
    refine aw_iload_n 14 d_Ch_recordOf_13 rfl rfl ?_
    refine aw_bipush (v := (24 : Int32)) 16 d_Ch_recordOf_14 rfl (by decide) ?_
    refine aw_imul 17 d_Ch_recordOf_16 rfl ?_
    refine aw_iload_n 18 d_Ch_recordOf_17 rfl rfl ?_
    refine aw_iadd 19 d_Ch_recordOf_18 rfl ?_
    obtain ⟨y19, h19, h⟩ := bnd h
    refine aw_iald 20 d_Ch_recordOf_19 rfl h19 ?_
    refine aw_goto 24 d_Ch_recordOf_20 (by decide) ?_
    cases h
    exact aw_ireturn d_Ch_recordOf_24 rfl rfl
theorem k_Ch_recordOf {q : Int32} {a0 : Nat} {x1 : Int32} {x2 : Int32} {μ : MM} (h : f_Ch_recordOf a0 x1 x2 μ = some q) : μ.1[a0]? = some (0, 2) := by
  unfold f_Ch_recordOf at h
  obtain ⟨_, h1, _⟩ := bnd h
  exact kO_some h1
theorem l_Fi_addBeat_33 {l : Launch} {μ0 : MM} {q : MM} {a0 : Nat} {x1 : Int32} {x2 : Int32} : ∀ (n : Nat) (x4 : Int32) (μ : MM), f_Fi_addBeat_L33 a0 x1 x2 n x4 μ = some q → AWm l Y_Fi_addBeat 5 μ0 none q 33 [some (.ref a0), some (.int x1), some (.int x2), none, some (.int x4), none, none] [] μ := by
  intro n
  induction n with
  | zero =>
    intro x4 μ h
    have h : (none : Option (MM)) = some q := h
    cases h
  | succ n ih =>
    intro x4 μ h
    rw [f_Fi_addBeat_L33] at h
    refine aw_iload 35 d_Fi_addBeat_33 rfl rfl ?_
    refine aw_bipush (v := (64 : Int32)) 37 d_Fi_addBeat_35 rfl (by decide) ?_
    refine aw_icmp_ge 96 40 d_Fi_addBeat_37 (by decide) rfl (fun c37 => ?_) (fun c37 => ?_)
    · have h := (if_pos c37).symm.trans h
      cases h
      exact aw_return d_Fi_addBeat_96 rfl
    · have h := (if_neg c37).symm.trans h
      refine aw_aload_n 41 d_Fi_addBeat_40 rfl rfl ?_
      obtain ⟨y41, h41, h⟩ := bnd h
      refine aw_getR 44 d_Fi_addBeat_41 rfl fg_Fi_23 rfl h41 ?_
      refine aw_iload 46 d_Fi_addBeat_44 rfl rfl ?_
      refine aw_iconst (v := (4 : Int32)) 47 d_Fi_addBeat_46 rfl (by decide) ?_
      refine aw_ishr 48 d_Fi_addBeat_47 rfl ?_
      refine aw_iload 50 d_Fi_addBeat_48 rfl rfl ?_
      refine aw_iconst (v := (2 : Int32)) 51 d_Fi_addBeat_50 rfl (by decide) ?_
      refine aw_ishr 52 d_Fi_addBeat_51 rfl ?_
      refine aw_iconst (v := (3 : Int32)) 53 d_Fi_addBeat_52 rfl (by decide) ?_
      refine aw_iand 54 d_Fi_addBeat_53 rfl ?_
      refine aw_iload 56 d_Fi_addBeat_54 rfl rfl ?_
      refine aw_iconst (v := (3 : Int32)) 57 d_Fi_addBeat_56 rfl (by decide) ?_
      refine aw_iand 58 d_Fi_addBeat_57 rfl ?_
      refine aw_iconst (v := (0 : Int32)) 59 d_Fi_addBeat_58 rfl (by decide) ?_
      obtain ⟨y59, h59, h⟩ := bnd h
      refine aw_invV (rest := []) (st' := [.long y59]) (As := [.int (ishr x4 (4 : Int32)), .int ((ishr x4 (2 : Int32)) &&& (3 : Int32)), .int (x4 &&& (3 : Int32)), .int (0 : Int32)]) 62 d_Fi_addBeat_59 rfl lv_Fi_60 (m_Si_blend h59) (by decide) (k_Si_blend h59) rfl rfl rfl (Nat.le_of_ble_eq_true rfl) rfl ?_
      refine aw_lstore (loc' := [some (.ref a0), some (.int x1), some (.int x2), none, some (.int x4), some (.long y59), none]) 64 d_Fi_addBeat_62 rfl (by decide) rfl ?_
      refine aw_aload_n 65 d_Fi_addBeat_64 rfl rfl ?_
      obtain ⟨y65, h65, h⟩ := bnd h
      refine aw_getR 68 d_Fi_addBeat_65 rfl fg_Fi_11 rfl h65 ?_
      refine aw_iload 70 d_Fi_addBeat_68 rfl rfl ?_
      refine aw_dup2 71 d_Fi_addBeat_70 rfl rfl rfl ?_
      obtain ⟨y71, h71, h⟩ := bnd h
      refine aw_lald 72 d_Fi_addBeat_71 rfl h71 ?_
      refine aw_lload 74 d_Fi_addBeat_72 rfl rfl ?_
      refine aw_aload_n 75 d_Fi_addBeat_74 rfl rfl ?_
      obtain ⟨y75, h75, h⟩ := bnd h
      refine aw_getR 78 d_Fi_addBeat_75 rfl fg_Fi_19 rfl h75 ?_
      refine aw_iload_n 79 d_Fi_addBeat_78 rfl rfl ?_
      refine aw_iload_n 80 d_Fi_addBeat_79 rfl rfl ?_
      obtain ⟨y80, h80, h⟩ := bnd h
      refine aw_invV (rest := [.long y59, .long y71, .int x4, .ref y65]) (st' := [.int y80, .long y59, .long y71, .int x4, .ref y65]) (As := [.int x1, .int x2]) 83 d_Fi_addBeat_80 rfl lv_Fi_51 (m_Ch_recordOf h80) (by decide) (k_Ch_recordOf h80) rfl rfl rfl (Nat.le_of_ble_eq_true rfl) rfl ?_
      refine aw_i2l 84 d_Fi_addBeat_83 rfl ?_
      refine aw_lsub 85 d_Fi_addBeat_84 rfl ?_
      obtain ⟨y85, h85, h⟩ := bnd h
      refine aw_invS (rest := [.long y71, .int x4, .ref y65]) (st' := [.long y85, .long y71, .int x4, .ref y65]) (As := [.long (y59 - y80.toInt64)]) 88 d_Fi_addBeat_85 rfl ls_Fi_64 (m_Mt_abs_J h85) (by decide) rfl rfl (Nat.le_of_ble_eq_true rfl) rfl ?_
      refine aw_ladd 89 d_Fi_addBeat_88 rfl ?_
      obtain ⟨μ89, h89, h⟩ := bnd h
      refine aw_last 90 d_Fi_addBeat_89 rfl h89 ?_
      refine aw_iinc (v := (x4 + (1 : Int32))) (loc' := [some (.ref a0), some (.int x1), some (.int x2), none, some (.int (x4 + (1 : Int32))), some (.long y59), none]) 93 d_Fi_addBeat_90 rfl (by decide) rfl rfl rfl ?_
      refine aw_goto 33 d_Fi_addBeat_93 (by decide) ?_
      exact AW.wk [true, true, true, true, true, false, true] rfl (ih (x4 + (1 : Int32)) μ89 h)
theorem m_Fi_addBeat {l : Launch} {q : MM} {a0 : Nat} {x1 : Int32} {x2 : Int32} {μ : MM} (h : f_Fi_addBeat a0 x1 x2 μ = some q) : AMet l 5 Y_Fi_addBeat [.ref a0, .int x1, .int x2] μ none q := by
  refine AMet.of (loc := [some (.ref a0), some (.int x1), some (.int x2), none, none, none, none]) pn_Fi_addBeat (Nat.le_of_ble_eq_true rfl) rfl ?_
  unfold f_Fi_addBeat at h
  obtain ⟨_, hk, h⟩ := bnd h
  refine aw_aload_n 1 d_Fi_addBeat_0 rfl rfl ?_
  obtain ⟨y1, h1, h⟩ := bnd h
  refine aw_getR 4 d_Fi_addBeat_1 rfl fg_Fi_19 rfl h1 ?_
  refine aw_iload_n 5 d_Fi_addBeat_4 rfl rfl ?_
  refine aw_iload_n 6 d_Fi_addBeat_5 rfl rfl ?_
  obtain ⟨y6, h6, h⟩ := bnd h
  refine aw_invV (rest := []) (st' := [.int y6]) (As := [.int x1, .int x2]) 9 d_Fi_addBeat_6 rfl lv_Fi_47 (m_Ch_lastRecord h6) (by decide) (k_Ch_lastRecord h6) rfl rfl rfl (Nat.le_of_ble_eq_true rfl) rfl ?_
  refine aw_istore_n (loc' := [some (.ref a0), some (.int x1), some (.int x2), some (.int y6), none, none, none]) 10 d_Fi_addBeat_9 rfl (by decide) rfl ?_
  refine aw_aload_n 11 d_Fi_addBeat_10 rfl rfl ?_
  obtain ⟨y11, h11, h⟩ := bnd h
  refine aw_getR 14 d_Fi_addBeat_11 rfl fg_Fi_23 rfl h11 ?_
  refine aw_iload_n 15 d_Fi_addBeat_14 rfl rfl ?_
  refine aw_iload_n 16 d_Fi_addBeat_15 rfl rfl ?_
  refine aw_iload_n 17 d_Fi_addBeat_16 rfl rfl ?_
  refine aw_aload_n 18 d_Fi_addBeat_17 rfl rfl ?_
  obtain ⟨y18, h18, h⟩ := bnd h
  refine aw_getR 21 d_Fi_addBeat_18 rfl fg_Fi_19 rfl h18 ?_
  refine aw_iload_n 22 d_Fi_addBeat_21 rfl rfl ?_
  refine aw_iload_n 23 d_Fi_addBeat_22 rfl rfl ?_
  obtain ⟨y23, h23, h⟩ := bnd h
  refine aw_invV (rest := [.int y6, .int x2, .int x1, .ref y11]) (st' := [.int y23, .int y6, .int x2, .int x1, .ref y11]) (As := [.int x1, .int y6]) 26 d_Fi_addBeat_23 rfl lv_Fi_51 (m_Ch_recordOf h23) (by decide) (k_Ch_recordOf h23) rfl rfl rfl (Nat.le_of_ble_eq_true rfl) rfl ?_
  refine aw_i2l 27 d_Fi_addBeat_26 rfl ?_
  obtain ⟨μ27, h27, h⟩ := bnd h
  refine aw_invV (rest := []) (st' := []) (As := [.int x1, .int x2, .int y6, .long y23.toInt64]) 30 d_Fi_addBeat_27 rfl lv_Fi_54 (m_Si_aim h27) (by decide) (k_Si_aim h27) rfl rfl rfl (Nat.le_of_ble_eq_true rfl) rfl ?_
  refine aw_iconst (v := (1 : Int32)) 31 d_Fi_addBeat_30 rfl (by decide) ?_
  refine aw_istore (loc' := [some (.ref a0), some (.int x1), some (.int x2), some (.int y6), some (.int (1 : Int32)), none, none]) 33 d_Fi_addBeat_31 rfl (by decide) rfl ?_
  exact AW.wk [true, true, true, false, true, true, true] rfl (l_Fi_addBeat_33 FU _ _ h)
theorem k_Fi_addBeat {q : MM} {a0 : Nat} {x1 : Int32} {x2 : Int32} {μ : MM} (h : f_Fi_addBeat a0 x1 x2 μ = some q) : μ.1[a0]? = some (0, 3) := by
  unfold f_Fi_addBeat at h
  obtain ⟨_, h1, _⟩ := bnd h
  exact kO_some h1
theorem l_Fi_find_47 {l : Launch} {μ0 : MM} {q : Int32 × MM} {a0 : Nat} {x1 : Int32} : ∀ (n : Nat) (x2 : Int32) (μ : MM), f_Fi_find_L47 a0 x1 n x2 μ = some q → AWm l Y_Fi_find 6 μ0 (some (.int q.1)) q.2 47 [some (.ref a0), some (.int x1), some (.int x2)] [] μ := by
  intro n
  induction n with
  | zero =>
    intro x2 μ h
    have h : (none : Option (Int32 × MM)) = some q := h
    cases h
  | succ n ih =>
    intro x2 μ h
    rw [f_Fi_find_L47] at h
    refine aw_iload_n 48 d_Fi_find_47 rfl rfl ?_
    refine aw_bipush (v := (64 : Int32)) 50 d_Fi_find_48 rfl (by decide) ?_
    refine aw_icmp_ge 83 53 d_Fi_find_50 (by decide) rfl (fun c50 => ?_) (fun c50 => ?_)
    · have h := (if_pos c50).symm.trans h
      refine aw_aload_n 84 d_Fi_find_83 rfl rfl ?_
      obtain ⟨y84, h84, h⟩ := bnd h
      refine aw_getR 87 d_Fi_find_84 rfl fg_Fi_19 rfl h84 ?_
      refine aw_iload_n 88 d_Fi_find_87 rfl rfl ?_
      refine aw_bipush (v := (24 : Int32)) 90 d_Fi_find_88 rfl (by decide) ?_
      obtain ⟨y90, h90, h⟩ := bnd h
      refine aw_invV (rest := []) (st' := [.int y90]) (As := [.int x1, .int (24 : Int32)]) 93 d_Fi_find_90 rfl lv_Fi_47 (m_Ch_lastRecord h90) (by decide) (k_Ch_lastRecord h90) rfl rfl rfl (Nat.le_of_ble_eq_true rfl) rfl ?_
      refine aw_iconst (v := (-1 : Int32)) 94 d_Fi_find_93 rfl (by decide) ?_
      refine aw_icmp_eq 101 97 d_Fi_find_94 (by decide) rfl (fun c94 => ?_) (fun c94 => ?_)
      · have h := (if_pos c94).symm.trans h
        refine aw_iconst (v := (0 : Int32)) 102 d_Fi_find_101 rfl (by decide) ?_
        cases h
        exact aw_ireturn d_Fi_find_102 rfl nar0
      · have h := (if_neg c94).symm.trans h
        refine aw_iconst (v := (1 : Int32)) 98 d_Fi_find_97 rfl (by decide) ?_
        refine aw_goto 102 d_Fi_find_98 (by decide) ?_
        cases h
        exact aw_ireturn d_Fi_find_102 rfl nar1
    · have h := (if_neg c50).symm.trans h
      refine aw_aload_n 54 d_Fi_find_53 rfl rfl ?_
      obtain ⟨y54, h54, h⟩ := bnd h
      refine aw_getR 57 d_Fi_find_54 rfl fg_Fi_11 rfl h54 ?_
      refine aw_iload_n 58 d_Fi_find_57 rfl rfl ?_
      obtain ⟨y58, h58, h⟩ := bnd h
      refine aw_lald 59 d_Fi_find_58 rfl h58 ?_
      refine aw_aload_n 60 d_Fi_find_59 rfl rfl ?_
      obtain ⟨y60, h60, h⟩ := bnd h
      refine aw_getR 63 d_Fi_find_60 rfl fg_Fi_11 rfl h60 ?_
      refine aw_aload_n 64 d_Fi_find_63 rfl rfl ?_
      obtain ⟨y64, h64, h⟩ := bnd h
      refine aw_getI 67 d_Fi_find_64 rfl fg_Fi_43 (Or.inl rfl) h64 ?_
      obtain ⟨y67, h67, h⟩ := bnd h
      refine aw_lald 68 d_Fi_find_67 rfl h67 ?_
      refine aw_lcmp 69 d_Fi_find_68 rfl ?_
      refine aw_if_ge 77 72 d_Fi_find_69 (by decide) rfl (fun c69 => ?_) (fun c69 => ?_)
      · have h := (if_pos c69).symm.trans h
        refine aw_iinc (v := (x2 + (1 : Int32))) (loc' := [some (.ref a0), some (.int x1), some (.int (x2 + (1 : Int32)))]) 80 d_Fi_find_77 rfl (by decide) rfl rfl rfl ?_
        refine aw_goto 47 d_Fi_find_80 (by decide) ?_
        exact (ih (x2 + (1 : Int32)) μ h)
      · have h := (if_neg c69).symm.trans h
        refine aw_aload_n 73 d_Fi_find_72 rfl rfl ?_
        refine aw_iload_n 74 d_Fi_find_73 rfl rfl ?_
        obtain ⟨μ74, h74, h⟩ := bnd h
        refine aw_putI 77 false d_Fi_find_74 rfl fp_Fi_43 (fun z => nomatch z) rfl h74 ?_
        refine aw_iinc (v := (x2 + (1 : Int32))) (loc' := [some (.ref a0), some (.int x1), some (.int (x2 + (1 : Int32)))]) 80 d_Fi_find_77 rfl (by decide) rfl rfl rfl ?_
        refine aw_goto 47 d_Fi_find_80 (by decide) ?_
        exact (ih (x2 + (1 : Int32)) μ74 h)
theorem l_Fi_find_10 {l : Launch} {μ0 : MM} {q : Int32 × MM} {a0 : Nat} {x1 : Int32} : ∀ (n : Nat) (x2 : Int32) (μ : MM), f_Fi_find_L10 a0 x1 n x2 μ = some q → AWm l Y_Fi_find 6 μ0 (some (.int q.1)) q.2 10 [some (.ref a0), some (.int x1), some (.int x2)] [] μ := by
  intro n
  induction n with
  | zero =>
    intro x2 μ h
    have h : (none : Option (Int32 × MM)) = some q := h
    cases h
  | succ n ih =>
    intro x2 μ h
    rw [f_Fi_find_L10] at h
    refine aw_iload_n 11 d_Fi_find_10 rfl rfl ?_
    refine aw_bipush (v := (24 : Int32)) 13 d_Fi_find_11 rfl (by decide) ?_
    refine aw_icmp_ge 40 16 d_Fi_find_13 (by decide) rfl (fun c13 => ?_) (fun c13 => ?_)
    · have h := (if_pos c13).symm.trans h
      refine aw_aload_n 41 d_Fi_find_40 rfl rfl ?_
      refine aw_iconst (v := (1 : Int32)) 42 d_Fi_find_41 rfl (by decide) ?_
      obtain ⟨μ42, h42, h⟩ := bnd h
      refine aw_putI 45 false d_Fi_find_42 rfl fp_Fi_43 (fun z => nomatch z) rfl h42 ?_
      refine aw_iconst (v := (2 : Int32)) 46 d_Fi_find_45 rfl (by decide) ?_
      refine aw_istore_n (loc' := [some (.ref a0), some (.int x1), some (.int (2 : Int32))]) 47 d_Fi_find_46 rfl (by decide) rfl ?_
      exact (l_Fi_find_47 FU _ _ h)
    · have h := (if_neg c13).symm.trans h
      refine aw_aload_n 17 d_Fi_find_16 rfl rfl ?_
      obtain ⟨y17, h17, h⟩ := bnd h
      refine aw_getR 20 d_Fi_find_17 rfl fg_Fi_19 rfl h17 ?_
      refine aw_iload_n 21 d_Fi_find_20 rfl rfl ?_
      refine aw_iload_n 22 d_Fi_find_21 rfl rfl ?_
      obtain ⟨y22, h22, h⟩ := bnd h
      refine aw_invV (rest := []) (st' := [.int y22]) (As := [.int x1, .int x2]) 25 d_Fi_find_22 rfl lv_Fi_33 (m_Ch_isRecorded h22) (by decide) (k_Ch_isRecorded h22) rfl rfl rfl (Nat.le_of_ble_eq_true rfl) rfl ?_
      refine aw_if_eq 34 28 d_Fi_find_25 (by decide) rfl (fun c25 => ?_) (fun c25 => ?_)
      · have h := (if_pos c25).symm.trans h
        refine aw_iinc (v := (x2 + (1 : Int32))) (loc' := [some (.ref a0), some (.int x1), some (.int (x2 + (1 : Int32)))]) 37 d_Fi_find_34 rfl (by decide) rfl rfl rfl ?_
        refine aw_goto 10 d_Fi_find_37 (by decide) ?_
        exact (ih (x2 + (1 : Int32)) μ h)
      · have h := (if_neg c25).symm.trans h
        refine aw_aload_n 29 d_Fi_find_28 rfl rfl ?_
        refine aw_iload_n 30 d_Fi_find_29 rfl rfl ?_
        refine aw_iload_n 31 d_Fi_find_30 rfl rfl ?_
        obtain ⟨μ31, h31, h⟩ := bnd h
        refine aw_invV (rest := []) (st' := []) (As := [.int x1, .int x2]) 34 d_Fi_find_31 rfl lv_Fi_39 (m_Fi_addBeat h31) (by decide) (k_Fi_addBeat h31) rfl rfl rfl (Nat.le_of_ble_eq_true rfl) rfl ?_
        refine aw_iinc (v := (x2 + (1 : Int32))) (loc' := [some (.ref a0), some (.int x1), some (.int (x2 + (1 : Int32)))]) 37 d_Fi_find_34 rfl (by decide) rfl rfl rfl ?_
        refine aw_goto 10 d_Fi_find_37 (by decide) ?_
        exact (ih (x2 + (1 : Int32)) μ31 h)
theorem m_Fi_find {l : Launch} {q : Int32 × MM} {a0 : Nat} {x1 : Int32} {μ : MM} (h : f_Fi_find a0 x1 μ = some q) : AMet l 6 Y_Fi_find [.ref a0, .int x1] μ (some (.int q.1)) q.2 := by
  refine AMet.of (loc := [some (.ref a0), some (.int x1), none]) pn_Fi_find (Nat.le_of_ble_eq_true rfl) rfl ?_
  unfold f_Fi_find at h
  obtain ⟨_, hk, h⟩ := bnd h
  refine aw_aload_n 1 d_Fi_find_0 rfl rfl ?_
  obtain ⟨y1, h1, h⟩ := bnd h
  refine aw_getR 4 d_Fi_find_1 rfl fg_Fi_11 rfl h1 ?_
  refine aw_lconst (v := (0 : Int64)) 5 d_Fi_find_4 rfl (by decide) ?_
  obtain ⟨μ5, h5, h⟩ := bnd h
  refine aw_invS (rest := []) (st' := []) (As := [.ref y1, .long (0 : Int64)]) 8 d_Fi_find_5 rfl ls_Fi_27 (m_Ar_fill_BJ h5) (by decide) rfl rfl (Nat.le_of_ble_eq_true rfl) rfl ?_
  refine aw_iconst (v := (0 : Int32)) 9 d_Fi_find_8 rfl (by decide) ?_
  refine aw_istore_n (loc' := [some (.ref a0), some (.int x1), some (.int (0 : Int32))]) 10 d_Fi_find_9 rfl (by decide) rfl ?_
  exact (l_Fi_find_10 FU _ _ h)
theorem k_Fi_find {q : Int32 × MM} {a0 : Nat} {x1 : Int32} {μ : MM} (h : f_Fi_find a0 x1 μ = some q) : μ.1[a0]? = some (0, 3) := by
  unfold f_Fi_find at h
  obtain ⟨_, h1, _⟩ := bnd h
  exact kO_some h1
theorem m_Fi_told {l : Launch} {q : Int64} {a0 : Nat} {x1 : Int32} {μ : MM} (h : f_Fi_told a0 x1 μ = some q) : AMet l 1 Y_Fi_told [.ref a0, .int x1] μ (some (.long q)) μ := by
  refine AMet.of (loc := [some (.ref a0), some (.int x1)]) pn_Fi_told (Nat.le_of_ble_eq_true rfl) rfl ?_
  unfold f_Fi_told at h
  obtain ⟨_, hk, h⟩ := bnd h
  refine aw_iload_n 1 d_Fi_told_0 rfl rfl ?_
  by_cases c1_0 : x1 = (0 : Int32)
  · have h := (if_pos c1_0).symm.trans h
    refine aw_tableIn 28 d_Fi_told_1 (by rw [c1_0]; decide) (by rw [c1_0]; decide) (by rw [c1_0]; rfl) (by decide) ?_
    refine aw_aload_n 29 d_Fi_told_28 rfl rfl ?_
    obtain ⟨y29, h29, h⟩ := bnd h
    refine aw_getI 32 d_Fi_told_29 rfl fg_Fi_43 (Or.inl rfl) h29 ?_
    refine aw_iconst (v := (4 : Int32)) 33 d_Fi_told_32 rfl (by decide) ?_
    refine aw_ishr 34 d_Fi_told_33 rfl ?_
    refine aw_i2l 35 d_Fi_told_34 rfl ?_
    cases h
    exact aw_lreturn d_Fi_told_35 rfl
  · have h := (if_neg c1_0).symm.trans h
    by_cases c1_1 : x1 = (1 : Int32)
    · have h := (if_pos c1_1).symm.trans h
      refine aw_tableIn 36 d_Fi_told_1 (by rw [c1_1]; decide) (by rw [c1_1]; decide) (by rw [c1_1]; rfl) (by decide) ?_
      refine aw_aload_n 37 d_Fi_told_36 rfl rfl ?_
      obtain ⟨y37, h37, h⟩ := bnd h
      refine aw_getI 40 d_Fi_told_37 rfl fg_Fi_43 (Or.inl rfl) h37 ?_
      refine aw_iconst (v := (2 : Int32)) 41 d_Fi_told_40 rfl (by decide) ?_
      refine aw_ishr 42 d_Fi_told_41 rfl ?_
      refine aw_iconst (v := (3 : Int32)) 43 d_Fi_told_42 rfl (by decide) ?_
      refine aw_iand 44 d_Fi_told_43 rfl ?_
      refine aw_i2l 45 d_Fi_told_44 rfl ?_
      cases h
      exact aw_lreturn d_Fi_told_45 rfl
    · have h := (if_neg c1_1).symm.trans h
      by_cases c1_2 : x1 = (2 : Int32)
      · have h := (if_pos c1_2).symm.trans h
        refine aw_tableIn 46 d_Fi_told_1 (by rw [c1_2]; decide) (by rw [c1_2]; decide) (by rw [c1_2]; rfl) (by decide) ?_
        refine aw_aload_n 47 d_Fi_told_46 rfl rfl ?_
        obtain ⟨y47, h47, h⟩ := bnd h
        refine aw_getI 50 d_Fi_told_47 rfl fg_Fi_43 (Or.inl rfl) h47 ?_
        refine aw_iconst (v := (3 : Int32)) 51 d_Fi_told_50 rfl (by decide) ?_
        refine aw_iand 52 d_Fi_told_51 rfl ?_
        refine aw_i2l 53 d_Fi_told_52 rfl ?_
        cases h
        exact aw_lreturn d_Fi_told_53 rfl
      · have h := (if_neg c1_2).symm.trans h
        have e1 : (x1).toInt < 0 ∨ 2 < (x1).toInt := by
          have z0 := lv_neT (a := 0) c1_0 (by decide)
          have z1 := lv_neT (a := 1) c1_1 (by decide)
          have z2 := lv_neT (a := 2) c1_2 (by decide)
          omega
        refine aw_tableOut 54 d_Fi_told_1 e1 (by decide) ?_
        refine aw_aload_n 55 d_Fi_told_54 rfl rfl ?_
        obtain ⟨y55, h55, h⟩ := bnd h
        refine aw_getI 58 d_Fi_told_55 rfl fg_Fi_43 (Or.inl rfl) h55 ?_
        refine aw_if_lt 82 61 d_Fi_told_58 (by decide) rfl (fun c58 => ?_) (fun c58 => ?_)
        · have h := (if_pos c58).symm.trans h
          refine aw_lconst (v := (0 : Int64)) 83 d_Fi_told_82 rfl (by decide) ?_
          cases h
          exact aw_lreturn d_Fi_told_83 rfl
        · have h := (if_neg c58).symm.trans h
          refine aw_aload_n 62 d_Fi_told_61 rfl rfl ?_
          obtain ⟨y62, h62, h⟩ := bnd h
          refine aw_getI 65 d_Fi_told_62 rfl fg_Fi_43 (Or.inl rfl) h62 ?_
          refine aw_bipush (v := (64 : Int32)) 67 d_Fi_told_65 rfl (by decide) ?_
          refine aw_icmp_ge 82 70 d_Fi_told_67 (by decide) rfl (fun c67 => ?_) (fun c67 => ?_)
          · have h := (if_pos c67).symm.trans h
            refine aw_lconst (v := (0 : Int64)) 83 d_Fi_told_82 rfl (by decide) ?_
            cases h
            exact aw_lreturn d_Fi_told_83 rfl
          · have h := (if_neg c67).symm.trans h
            refine aw_aload_n 71 d_Fi_told_70 rfl rfl ?_
            obtain ⟨y71, h71, h⟩ := bnd h
            refine aw_getR 74 d_Fi_told_71 rfl fg_Fi_11 rfl h71 ?_
            refine aw_aload_n 75 d_Fi_told_74 rfl rfl ?_
            obtain ⟨y75, h75, h⟩ := bnd h
            refine aw_getI 78 d_Fi_told_75 rfl fg_Fi_43 (Or.inl rfl) h75 ?_
            obtain ⟨y78, h78, h⟩ := bnd h
            refine aw_lald 79 d_Fi_told_78 rfl h78 ?_
            refine aw_goto 83 d_Fi_told_79 (by decide) ?_
            cases h
            exact aw_lreturn d_Fi_told_83 rfl
theorem k_Fi_told {q : Int64} {a0 : Nat} {x1 : Int32} {μ : MM} (h : f_Fi_told a0 x1 μ = some q) : μ.1[a0]? = some (0, 3) := by
  unfold f_Fi_told at h
  obtain ⟨_, h1, _⟩ := bnd h
  exact kO_some h1
theorem j_X_fit_20 {l : Launch} {μ0 : MM} {q : Int64 × MM} {μ : MM} (h : f_X_fit_J20 μ = some q) : AWm l Y_X_fit 8 μ0 (some (.long q.1)) q.2 20 [none, none, none] [] μ := by
  unfold f_X_fit_J20 at h
  refine aw_ldc2 (v := (-1 : Int64)) 23 d_X_fit_20 rfl c_X_286 ?_
  cases h
  exact aw_lreturn d_X_fit_23 rfl
theorem m_X_fit {l : Launch} {q : Int64 × MM} {a0 : Nat} {x1 : Int32} {x2 : Int32} {μ : MM} (h : f_X_fit a0 x1 x2 μ = some q) : AMet l 8 Y_X_fit [.ref a0, .int x1, .int x2] μ (some (.long q.1)) q.2 := by
  refine AMet.of (loc := [some (.ref a0), some (.int x1), some (.int x2)]) pn_X_fit (Nat.le_of_ble_eq_true rfl) rfl ?_
  unfold f_X_fit at h
  obtain ⟨_, hk, h⟩ := bnd h
  refine aw_aload_n 1 d_X_fit_0 rfl rfl ?_
  obtain ⟨y1, h1, h⟩ := bnd h
  refine aw_getR 4 d_X_fit_1 rfl fg_X_21 rfl h1 ?_
  refine aw_iload_n 5 d_X_fit_4 rfl rfl ?_
  obtain ⟨y5, h5, h⟩ := bnd h
  refine aw_invV (rest := []) (st' := [.int y5]) (As := [.int x1]) 8 d_X_fit_5 rfl lv_X_179 (m_Ch_has h5) (by decide) (k_Ch_has h5) rfl rfl rfl (Nat.le_of_ble_eq_true rfl) rfl ?_
  refine aw_if_eq 20 11 d_X_fit_8 (by decide) rfl (fun c8 => ?_) (fun c8 => ?_)
  · have h := (if_pos c8).symm.trans h
    exact AW.wk [false, false, false] rfl (j_X_fit_20 h)
  · have h := (if_neg c8).symm.trans h
    refine aw_iload_n 12 d_X_fit_11 rfl rfl ?_
    refine aw_if_lt 20 15 d_X_fit_12 (by decide) rfl (fun c12 => ?_) (fun c12 => ?_)
    · have h := (if_pos c12).symm.trans h
      exact AW.wk [false, false, false] rfl (j_X_fit_20 h)
    · have h := (if_neg c12).symm.trans h
      refine aw_iload_n 16 d_X_fit_15 rfl rfl ?_
      refine aw_iconst (v := (3 : Int32)) 17 d_X_fit_16 rfl (by decide) ?_
      refine aw_icmp_le 24 20 d_X_fit_17 (by decide) rfl (fun c17 => ?_) (fun c17 => ?_)
      · have h := (if_pos c17).symm.trans h
        refine aw_aload_n 25 d_X_fit_24 rfl rfl ?_
        obtain ⟨y25, h25, h⟩ := bnd h
        refine aw_getR 28 d_X_fit_25 rfl fg_X_30 rfl h25 ?_
        obtain ⟨μ28, h28, h⟩ := bnd h
        refine aw_invV (rest := []) (st' := []) (As := []) 31 d_X_fit_28 rfl lv_X_232 (m_Si_asTold h28) (by decide) (k_Si_asTold h28) rfl rfl rfl (Nat.le_of_ble_eq_true rfl) rfl ?_
        refine aw_aload_n 32 d_X_fit_31 rfl rfl ?_
        obtain ⟨y32, h32, h⟩ := bnd h
        refine aw_getR 35 d_X_fit_32 rfl fg_X_55 rfl h32 ?_
        refine aw_iload_n 36 d_X_fit_35 rfl rfl ?_
        obtain ⟨q36, h36, h⟩ := bnd h
        refine aw_invV (rest := []) (st' := [.int q36.1]) (As := [.int x1]) 39 d_X_fit_36 rfl lv_X_310 (m_Fi_find h36) (by decide) (k_Fi_find h36) rfl rfl rfl (Nat.le_of_ble_eq_true rfl) rfl ?_
        refine aw_if_eq 53 42 d_X_fit_39 (by decide) rfl (fun c39 => ?_) (fun c39 => ?_)
        · have h := (if_pos c39).symm.trans h
          refine aw_ldc2 (v := (-2 : Int64)) 56 d_X_fit_53 rfl c_X_288 ?_
          cases h
          exact aw_lreturn d_X_fit_56 rfl
        · have h := (if_neg c39).symm.trans h
          refine aw_aload_n 43 d_X_fit_42 rfl rfl ?_
          obtain ⟨y43, h43, h⟩ := bnd h
          refine aw_getR 46 d_X_fit_43 rfl fg_X_55 rfl h43 ?_
          refine aw_iload_n 47 d_X_fit_46 rfl rfl ?_
          obtain ⟨y47, h47, h⟩ := bnd h
          refine aw_invV (rest := []) (st' := [.long y47]) (As := [.int x2]) 50 d_X_fit_47 rfl lv_X_312 (m_Fi_told h47) (by decide) (k_Fi_told h47) rfl rfl rfl (Nat.le_of_ble_eq_true rfl) rfl ?_
          refine aw_goto 56 d_X_fit_50 (by decide) ?_
          cases h
          exact aw_lreturn d_X_fit_56 rfl
      · have h := (if_neg c17).symm.trans h
        exact AW.wk [false, false, false] rfl (j_X_fit_20 h)
theorem k_X_fit {q : Int64 × MM} {a0 : Nat} {x1 : Int32} {x2 : Int32} {μ : MM} (h : f_X_fit a0 x1 x2 μ = some q) : μ.1[a0]? = some (0, 0) := by
  unfold f_X_fit at h
  obtain ⟨_, h1, _⟩ := bnd h
  exact kO_some h1
theorem m_M_isTaped {l : Launch} {q : Int32} {a0 : Nat} {x1 : Int32} {x2 : Int32} {μ : MM} (h : f_M_isTaped a0 x1 x2 μ = some q) : AMet l 5 Y_M_isTaped [.ref a0, .int x1, .int x2] μ (some (.int q)) μ := by
  refine AMet.of (loc := [some (.ref a0), some (.int x1), some (.int x2)]) pn_M_isTaped (Nat.le_of_ble_eq_true rfl) rfl ?_
  unfold f_M_isTaped at h
  obtain ⟨_, hk, h⟩ := bnd h
  refine aw_aload_n 1 d_M_isTaped_0 rfl rfl ?_
  refine aw_iload_n 2 d_M_isTaped_1 rfl rfl ?_
  refine aw_iload_n 3 d_M_isTaped_2 rfl rfl ?_
  obtain ⟨y3, h3, h⟩ := bnd h
  refine aw_invV (rest := []) (st' := [.int y3]) (As := [.int x1, .int x2]) 6 d_M_isTaped_3 rfl lv_M_423 (m_M_sings h3) (by decide) (k_M_sings h3) rfl rfl rfl (Nat.le_of_ble_eq_true rfl) rfl ?_
  refine aw_if_eq 27 9 d_M_isTaped_6 (by decide) rfl (fun c6 => ?_) (fun c6 => ?_)
  · have h := (if_pos c6).symm.trans h
    refine aw_iconst (v := (0 : Int32)) 28 d_M_isTaped_27 rfl (by decide) ?_
    cases h
    exact aw_ireturn d_M_isTaped_28 rfl nar0
  · have h := (if_neg c6).symm.trans h
    refine aw_aload_n 10 d_M_isTaped_9 rfl rfl ?_
    obtain ⟨y10, h10, h⟩ := bnd h
    refine aw_getR 13 d_M_isTaped_10 rfl fg_M_140 rfl h10 ?_
    refine aw_bipush (v := (24 : Int32)) 15 d_M_isTaped_13 rfl (by decide) ?_
    refine aw_iload_n 16 d_M_isTaped_15 rfl rfl ?_
    refine aw_imul 17 d_M_isTaped_16 rfl ?_
    refine aw_iload_n 18 d_M_isTaped_17 rfl rfl ?_
    refine aw_iadd 19 d_M_isTaped_18 rfl ?_
    obtain ⟨y19, h19, h⟩ := bnd h
    refine aw_bald 20 d_M_isTaped_19 rfl h19 ?_
    refine aw_if_eq 27 23 d_M_isTaped_20 (by decide) rfl (fun c20 => ?_) (fun c20 => ?_)
    · have h := (if_pos c20).symm.trans h
      refine aw_iconst (v := (0 : Int32)) 28 d_M_isTaped_27 rfl (by decide) ?_
      cases h
      exact aw_ireturn d_M_isTaped_28 rfl nar0
    · have h := (if_neg c20).symm.trans h
      refine aw_iconst (v := (1 : Int32)) 24 d_M_isTaped_23 rfl (by decide) ?_
      refine aw_goto 28 d_M_isTaped_24 (by decide) ?_
      cases h
      exact aw_ireturn d_M_isTaped_28 rfl nar1
theorem k_M_isTaped {q : Int32} {a0 : Nat} {x1 : Int32} {x2 : Int32} {μ : MM} (h : f_M_isTaped a0 x1 x2 μ = some q) : μ.1[a0]? = some (0, 1) := by
  unfold f_M_isTaped at h
  obtain ⟨_, h1, _⟩ := bnd h
  exact kO_some h1
theorem j_M_differs_138 {l : Launch} {μ0 : MM} {q : Int64 × MM} {a0 : Nat} {x1 : Int32} {x2 : Int32} {x3 : Int32} {x4 : Int32} {x5 : Int64} {x8 : Int32} {s0 : Nat} {s1 : Int64} {μ : MM} {k9 : Int64 → Int32 → Int32 → MM → Option (Int64 × MM)} (hk9 : ∀ (x5 : Int64) (x7 : Int32) (x8 : Int32) (μ : MM), k9 x5 x7 x8 μ = some q → AWm l Y_M_differs 6 μ0 (some (.long q.1)) q.2 9 [some (.ref a0), some (.int x1), some (.int x2), some (.int x3), some (.int x4), some (.long x5), none, some (.int x7), some (.int x8), none] [] μ) (h : f_M_differs_J138 k9 a0 x1 x2 x3 x4 x5 x8 s0 s1 μ = some q) : AWm l Y_M_differs 6 μ0 (some (.long q.1)) q.2 138 [some (.ref a0), some (.int x1), some (.int x2), some (.int x3), some (.int x4), some (.long x5), none, none, some (.int x8), none] [.long s1, .ref s0] μ := by
  unfold f_M_differs_J138 at h
  obtain ⟨μ138, h138, h⟩ := bnd h
  refine aw_putL 141 false d_M_differs_138 rfl fp_M_480 (fun z => nomatch z) rfl h138 ?_
  refine aw_lload 143 d_M_differs_141 rfl rfl ?_
  refine aw_aload_n 144 d_M_differs_143 rfl rfl ?_
  refine aw_iload_n 145 d_M_differs_144 rfl rfl ?_
  refine aw_iload 147 d_M_differs_145 rfl rfl ?_
  refine aw_iload_n 148 d_M_differs_147 rfl rfl ?_
  refine aw_i2l 149 d_M_differs_148 rfl ?_
  refine aw_iload_n 150 d_M_differs_149 rfl rfl ?_
  refine aw_i2l 151 d_M_differs_150 rfl ?_
  refine aw_iload 153 d_M_differs_151 rfl rfl ?_
  refine aw_i2l 154 d_M_differs_153 rfl ?_
  refine aw_lconst (v := (0 : Int64)) 155 d_M_differs_154 rfl (by decide) ?_
  obtain ⟨y155, h155, h⟩ := bnd h
  refine aw_invV (rest := [.long x5]) (st' := [.long y155, .long x5]) (As := [.int x1, .int x8, .long x2.toInt64, .long x3.toInt64, .long x4.toInt64, .long (0 : Int64)]) 158 d_M_differs_155 rfl lv_M_493 (m_M_aimOf h155) (by decide) (k_M_aimOf h155) rfl rfl rfl (Nat.le_of_ble_eq_true rfl) rfl ?_
  refine aw_aload_n 159 d_M_differs_158 rfl rfl ?_
  obtain ⟨y159, h159, h⟩ := bnd h
  refine aw_getR 162 d_M_differs_159 rfl fg_M_137 rfl h159 ?_
  refine aw_bipush (v := (24 : Int32)) 164 d_M_differs_162 rfl (by decide) ?_
  refine aw_iload_n 165 d_M_differs_164 rfl rfl ?_
  refine aw_imul 166 d_M_differs_165 rfl ?_
  refine aw_iload 168 d_M_differs_166 rfl rfl ?_
  refine aw_iadd 169 d_M_differs_168 rfl ?_
  obtain ⟨y169, h169, h⟩ := bnd h
  refine aw_iald 170 d_M_differs_169 rfl h169 ?_
  refine aw_i2l 171 d_M_differs_170 rfl ?_
  refine aw_lsub 172 d_M_differs_171 rfl ?_
  obtain ⟨y172, h172, h⟩ := bnd h
  refine aw_invS (rest := [.long x5]) (st' := [.long y172, .long x5]) (As := [.long (y155 - y169.toInt64)]) 175 d_M_differs_172 rfl ls_M_225 (m_M_plain h172) (by decide) rfl rfl (Nat.le_of_ble_eq_true rfl) rfl ?_
  refine aw_ladd 176 d_M_differs_175 rfl ?_
  refine aw_lstore (loc' := [some (.ref a0), some (.int x1), some (.int x2), some (.int x3), some (.int x4), some (.long (x5 + y172)), none, none, some (.int x8), none]) 178 d_M_differs_176 rfl (by decide) rfl ?_
  refine aw_iload 180 d_M_differs_178 rfl rfl ?_
  refine aw_istore (loc' := [some (.ref a0), some (.int x1), some (.int x2), some (.int x3), some (.int x4), some (.long (x5 + y172)), none, some (.int x8), some (.int x8), none]) 182 d_M_differs_180 rfl (by decide) rfl ?_
  refine aw_iinc (v := (x8 + (1 : Int32))) (loc' := [some (.ref a0), some (.int x1), some (.int x2), some (.int x3), some (.int x4), some (.long (x5 + y172)), none, some (.int x8), some (.int (x8 + (1 : Int32))), none]) 185 d_M_differs_182 rfl (by decide) rfl rfl rfl ?_
  refine aw_goto 9 d_M_differs_185 (by decide) ?_
  exact (hk9 (x5 + y172) x8 (x8 + (1 : Int32)) μ138 h)
theorem j_M_differs_117 {l : Launch} {μ0 : MM} {q : Int64 × MM} {a0 : Nat} {x1 : Int32} {x2 : Int32} {x3 : Int32} {x4 : Int32} {x5 : Int64} {x7 : Int32} {x8 : Int32} {x9 : Int32} {s0 : Nat} {μ : MM} {k9 : Int64 → Int32 → Int32 → MM → Option (Int64 × MM)} (hk9 : ∀ (x5 : Int64) (x7 : Int32) (x8 : Int32) (μ : MM), k9 x5 x7 x8 μ = some q → AWm l Y_M_differs 6 μ0 (some (.long q.1)) q.2 9 [some (.ref a0), some (.int x1), some (.int x2), some (.int x3), some (.int x4), some (.long x5), none, some (.int x7), some (.int x8), none] [] μ) (h : f_M_differs_J117 k9 a0 x1 x2 x3 x4 x5 x7 x8 x9 s0 μ = some q) : AWm l Y_M_differs 6 μ0 (some (.long q.1)) q.2 117 [some (.ref a0), some (.int x1), some (.int x2), some (.int x3), some (.int x4), some (.long x5), none, some (.int x7), some (.int x8), some (.int x9)] [.ref s0] μ := by
  unfold f_M_differs_J117 at h
  refine aw_iload 119 d_M_differs_117 rfl rfl ?_
  refine aw_i2l 120 d_M_differs_119 rfl ?_
  refine aw_aload_n 121 d_M_differs_120 rfl rfl ?_
  refine aw_iload_n 122 d_M_differs_121 rfl rfl ?_
  refine aw_iload 124 d_M_differs_122 rfl rfl ?_
  obtain ⟨y124, h124, h⟩ := bnd h
  refine aw_invV (rest := [.long x9.toInt64, .ref s0]) (st' := [.int y124, .long x9.toInt64, .ref s0]) (As := [.int x1, .int x8]) 127 d_M_differs_124 rfl lv_M_468 (m_M_sizeFor h124) (by decide) (k_M_sizeFor h124) rfl rfl rfl (Nat.le_of_ble_eq_true rfl) rfl ?_
  refine aw_i2l 128 d_M_differs_127 rfl ?_
  refine aw_ladd 129 d_M_differs_128 rfl ?_
  refine aw_aload_n 130 d_M_differs_129 rfl rfl ?_
  refine aw_iload_n 131 d_M_differs_130 rfl rfl ?_
  refine aw_iload 133 d_M_differs_131 rfl rfl ?_
  obtain ⟨y133, h133, h⟩ := bnd h
  refine aw_invV (rest := [.long (x9.toInt64 + y124.toInt64), .ref s0]) (st' := [.int y133, .long (x9.toInt64 + y124.toInt64), .ref s0]) (As := [.int x1, .int x7]) 136 d_M_differs_133 rfl lv_M_468 (m_M_sizeFor h133) (by decide) (k_M_sizeFor h133) rfl rfl rfl (Nat.le_of_ble_eq_true rfl) rfl ?_
  refine aw_i2l 137 d_M_differs_136 rfl ?_
  refine aw_lsub 138 d_M_differs_137 rfl ?_
  exact AW.wk [true, true, true, true, true, true, true, false, true, false] rfl (j_M_differs_138 hk9 h)
theorem j_M_differs_73 {l : Launch} {μ0 : MM} {q : Int64 × MM} {a0 : Nat} {x1 : Int32} {x2 : Int32} {x3 : Int32} {x4 : Int32} {x5 : Int64} {x7 : Int32} {x8 : Int32} {s0 : Int32} {μ : MM} {k9 : Int64 → Int32 → Int32 → MM → Option (Int64 × MM)} (hk9 : ∀ (x5 : Int64) (x7 : Int32) (x8 : Int32) (μ : MM), k9 x5 x7 x8 μ = some q → AWm l Y_M_differs 6 μ0 (some (.long q.1)) q.2 9 [some (.ref a0), some (.int x1), some (.int x2), some (.int x3), some (.int x4), some (.long x5), none, some (.int x7), some (.int x8), none] [] μ) (h : f_M_differs_J73 k9 a0 x1 x2 x3 x4 x5 x7 x8 s0 μ = some q) : AWm l Y_M_differs 6 μ0 (some (.long q.1)) q.2 73 [some (.ref a0), some (.int x1), some (.int x2), some (.int x3), some (.int x4), some (.long x5), none, some (.int x7), some (.int x8), none] [.int s0] μ := by
  unfold f_M_differs_J73 at h
  refine aw_istore (loc' := [some (.ref a0), some (.int x1), some (.int x2), some (.int x3), some (.int x4), some (.long x5), none, some (.int x7), some (.int x8), some (.int s0)]) 75 d_M_differs_73 rfl (by decide) rfl ?_
  refine aw_aload_n 76 d_M_differs_75 rfl rfl ?_
  refine aw_aload_n 77 d_M_differs_76 rfl rfl ?_
  obtain ⟨y77, h77, h⟩ := bnd h
  refine aw_getI 80 d_M_differs_77 rfl fg_M_477 (Or.inr rfl) h77 ?_
  refine aw_if_ne 87 83 d_M_differs_80 (by decide) rfl (fun c80 => ?_) (fun c80 => ?_)
  · have h := (if_neg c80).symm.trans h
    refine aw_iload 89 d_M_differs_87 rfl rfl ?_
    refine aw_iload 91 d_M_differs_89 rfl rfl ?_
    refine aw_iconst (v := (1 : Int32)) 92 d_M_differs_91 rfl (by decide) ?_
    refine aw_isub 93 d_M_differs_92 rfl ?_
    refine aw_icmp_ne 117 96 d_M_differs_93 (by decide) rfl (fun c93 => ?_) (fun c93 => ?_)
    · have h := (if_neg c93).symm.trans h
      exact (j_M_differs_117 hk9 h)
    · have h := (if_pos c93).symm.trans h
      refine aw_aload_n 97 d_M_differs_96 rfl rfl ?_
      refine aw_aload_n 98 d_M_differs_97 rfl rfl ?_
      obtain ⟨y98, h98, h⟩ := bnd h
      refine aw_getR 101 d_M_differs_98 rfl fg_M_56 rfl h98 ?_
      refine aw_iload_n 102 d_M_differs_101 rfl rfl ?_
      obtain ⟨y102, h102, h⟩ := bnd h
      refine aw_iald 103 d_M_differs_102 rfl h102 ?_
      refine aw_iload 105 d_M_differs_103 rfl rfl ?_
      obtain ⟨y105, h105, h⟩ := bnd h
      refine aw_invV (rest := [.ref a0]) (st' := [.int y105, .ref a0]) (As := [.int y102, .int x8]) 108 d_M_differs_105 rfl lv_M_193 (m_M_isHeld h105) (by decide) (k_M_isHeld h105) rfl rfl rfl (Nat.le_of_ble_eq_true rfl) rfl ?_
      refine aw_if_eq 117 111 d_M_differs_108 (by decide) rfl (fun c108 => ?_) (fun c108 => ?_)
      · have h := (if_pos c108).symm.trans h
        exact (j_M_differs_117 hk9 h)
      · have h := (if_neg c108).symm.trans h
        refine aw_iload 113 d_M_differs_111 rfl rfl ?_
        refine aw_i2l 114 d_M_differs_113 rfl ?_
        refine aw_goto 138 d_M_differs_114 (by decide) ?_
        exact AW.wk [true, true, true, true, true, true, true, false, true, false] rfl (j_M_differs_138 hk9 h)
  · have h := (if_pos c80).symm.trans h
    refine aw_lconst (v := (0 : Int64)) 84 d_M_differs_83 rfl (by decide) ?_
    refine aw_goto 138 d_M_differs_84 (by decide) ?_
    exact AW.wk [true, true, true, true, true, true, true, false, true, false] rfl (j_M_differs_138 hk9 h)
theorem j_M_differs_48 {l : Launch} {μ0 : MM} {q : Int64 × MM} {a0 : Nat} {x1 : Int32} {x2 : Int32} {x3 : Int32} {x4 : Int32} {x5 : Int64} {x7 : Int32} {x8 : Int32} {s0 : Nat} {s1 : Int32} {μ : MM} {k9 : Int64 → Int32 → Int32 → MM → Option (Int64 × MM)} (hk9 : ∀ (x5 : Int64) (x7 : Int32) (x8 : Int32) (μ : MM), k9 x5 x7 x8 μ = some q → AWm l Y_M_differs 6 μ0 (some (.long q.1)) q.2 9 [some (.ref a0), some (.int x1), some (.int x2), some (.int x3), some (.int x4), some (.long x5), none, some (.int x7), some (.int x8), none] [] μ) (h : f_M_differs_J48 k9 a0 x1 x2 x3 x4 x5 x7 x8 s0 s1 μ = some q) : AWm l Y_M_differs 6 μ0 (some (.long q.1)) q.2 48 [some (.ref a0), some (.int x1), some (.int x2), some (.int x3), some (.int x4), some (.long x5), none, some (.int x7), some (.int x8), none] [.int s1, .ref s0] μ := by
  unfold f_M_differs_J48 at h
  obtain ⟨μ48, h48, h⟩ := bnd h
  refine aw_putZ 51 false d_M_differs_48 rfl fp_M_477 (fun z => nomatch z) rfl h48 ?_
  refine aw_iload 53 d_M_differs_51 rfl rfl ?_
  refine aw_iconst (v := (-1 : Int32)) 54 d_M_differs_53 rfl (by decide) ?_
  refine aw_icmp_ne 61 57 d_M_differs_54 (by decide) rfl (fun c54 => ?_) (fun c54 => ?_)
  · have h := (if_neg c54).symm.trans h
    refine aw_aload_n 62 d_M_differs_61 rfl rfl ?_
    obtain ⟨y62, h62, h⟩ := bnd h
    refine aw_getR 65 d_M_differs_62 rfl fg_M_137 rfl h62 ?_
    refine aw_bipush (v := (24 : Int32)) 67 d_M_differs_65 rfl (by decide) ?_
    refine aw_iload_n 68 d_M_differs_67 rfl rfl ?_
    refine aw_imul 69 d_M_differs_68 rfl ?_
    refine aw_iload 71 d_M_differs_69 rfl rfl ?_
    refine aw_iadd 72 d_M_differs_71 rfl ?_
    obtain ⟨y72, h72, h⟩ := bnd h
    refine aw_iald 73 d_M_differs_72 rfl h72 ?_
    exact (j_M_differs_73 hk9 h)
  · have h := (if_pos c54).symm.trans h
    refine aw_iconst (v := (0 : Int32)) 58 d_M_differs_57 rfl (by decide) ?_
    refine aw_goto 73 d_M_differs_58 (by decide) ?_
    exact (j_M_differs_73 hk9 h)
theorem l_M_differs_9 {l : Launch} {μ0 : MM} {q : Int64 × MM} {a0 : Nat} {x1 : Int32} {x2 : Int32} {x3 : Int32} {x4 : Int32} : ∀ (n : Nat) (x5 : Int64) (x7 : Int32) (x8 : Int32) (μ : MM), f_M_differs_L9 a0 x1 x2 x3 x4 n x5 x7 x8 μ = some q → AWm l Y_M_differs 6 μ0 (some (.long q.1)) q.2 9 [some (.ref a0), some (.int x1), some (.int x2), some (.int x3), some (.int x4), some (.long x5), none, some (.int x7), some (.int x8), none] [] μ := by
  intro n
  induction n with
  | zero =>
    intro x5 x7 x8 μ h
    have h : (none : Option (Int64 × MM)) = some q := h
    cases h
  | succ n ih =>
    intro x5 x7 x8 μ h
    rw [f_M_differs_L9] at h
    refine aw_iload 11 d_M_differs_9 rfl rfl ?_
    refine aw_bipush (v := (24 : Int32)) 13 d_M_differs_11 rfl (by decide) ?_
    refine aw_icmp_ge 188 16 d_M_differs_13 (by decide) rfl (fun c13 => ?_) (fun c13 => ?_)
    · have h := (if_pos c13).symm.trans h
      refine aw_lload 190 d_M_differs_188 rfl rfl ?_
      cases h
      exact aw_lreturn d_M_differs_190 rfl
    · have h := (if_neg c13).symm.trans h
      refine aw_aload_n 17 d_M_differs_16 rfl rfl ?_
      refine aw_iload_n 18 d_M_differs_17 rfl rfl ?_
      refine aw_iload 20 d_M_differs_18 rfl rfl ?_
      obtain ⟨y20, h20, h⟩ := bnd h
      refine aw_invV (rest := []) (st' := [.int y20]) (As := [.int x1, .int x8]) 23 d_M_differs_20 rfl lv_M_566 (m_M_isTaped h20) (by decide) (k_M_isTaped h20) rfl rfl rfl (Nat.le_of_ble_eq_true rfl) rfl ?_
      refine aw_if_ne 29 26 d_M_differs_23 (by decide) rfl (fun c23 => ?_) (fun c23 => ?_)
      · have h := (if_neg c23).symm.trans h
        refine aw_aload_n 30 d_M_differs_29 rfl rfl ?_
        refine aw_iload_n 31 d_M_differs_30 rfl rfl ?_
        refine aw_iload 33 d_M_differs_31 rfl rfl ?_
        obtain ⟨μ33, h33, h⟩ := bnd h
        refine aw_invV (rest := []) (st' := []) (As := [.int x1, .int x8]) 36 d_M_differs_33 rfl lv_M_484 (m_M_listens h33) (by decide) (k_M_listens h33) rfl rfl rfl (Nat.le_of_ble_eq_true rfl) rfl ?_
        refine aw_aload_n 37 d_M_differs_36 rfl rfl ?_
        refine aw_iload 39 d_M_differs_37 rfl rfl ?_
        refine aw_iconst (v := (-1 : Int32)) 40 d_M_differs_39 rfl (by decide) ?_
        refine aw_icmp_eq 47 43 d_M_differs_40 (by decide) rfl (fun c40 => ?_) (fun c40 => ?_)
        · have h := (if_pos c40).symm.trans h
          refine aw_iconst (v := (0 : Int32)) 48 d_M_differs_47 rfl (by decide) ?_
          exact (j_M_differs_48 ih h)
        · have h := (if_neg c40).symm.trans h
          refine aw_iconst (v := (1 : Int32)) 44 d_M_differs_43 rfl (by decide) ?_
          refine aw_goto 48 d_M_differs_44 (by decide) ?_
          exact (j_M_differs_48 ih h)
      · have h := (if_pos c23).symm.trans h
        refine aw_goto 182 d_M_differs_26 (by decide) ?_
        refine aw_iinc (v := (x8 + (1 : Int32))) (loc' := [some (.ref a0), some (.int x1), some (.int x2), some (.int x3), some (.int x4), some (.long x5), none, some (.int x7), some (.int (x8 + (1 : Int32))), none]) 185 d_M_differs_182 rfl (by decide) rfl rfl rfl ?_
        refine aw_goto 9 d_M_differs_185 (by decide) ?_
        exact (ih x5 x7 (x8 + (1 : Int32)) μ h)
theorem m_M_differs {l : Launch} {q : Int64 × MM} {a0 : Nat} {x1 : Int32} {x2 : Int32} {x3 : Int32} {x4 : Int32} {μ : MM} (h : f_M_differs a0 x1 x2 x3 x4 μ = some q) : AMet l 6 Y_M_differs [.ref a0, .int x1, .int x2, .int x3, .int x4] μ (some (.long q.1)) q.2 := by
  refine AMet.of (loc := [some (.ref a0), some (.int x1), some (.int x2), some (.int x3), some (.int x4), none, none, none, none, none]) pn_M_differs (Nat.le_of_ble_eq_true rfl) rfl ?_
  unfold f_M_differs at h
  obtain ⟨_, hk, h⟩ := bnd h
  refine aw_lconst (v := (0 : Int64)) 1 d_M_differs_0 rfl (by decide) ?_
  refine aw_lstore (loc' := [some (.ref a0), some (.int x1), some (.int x2), some (.int x3), some (.int x4), some (.long (0 : Int64)), none, none, none, none]) 3 d_M_differs_1 rfl (by decide) rfl ?_
  refine aw_iconst (v := (-1 : Int32)) 4 d_M_differs_3 rfl (by decide) ?_
  refine aw_istore (loc' := [some (.ref a0), some (.int x1), some (.int x2), some (.int x3), some (.int x4), some (.long (0 : Int64)), none, some (.int (-1 : Int32)), none, none]) 6 d_M_differs_4 rfl (by decide) rfl ?_
  refine aw_iconst (v := (0 : Int32)) 7 d_M_differs_6 rfl (by decide) ?_
  refine aw_istore (loc' := [some (.ref a0), some (.int x1), some (.int x2), some (.int x3), some (.int x4), some (.long (0 : Int64)), none, some (.int (-1 : Int32)), some (.int (0 : Int32)), none]) 9 d_M_differs_7 rfl (by decide) rfl ?_
  exact (l_M_differs_9 FU _ _ _ _ h)
theorem k_M_differs {q : Int64 × MM} {a0 : Nat} {x1 : Int32} {x2 : Int32} {x3 : Int32} {x4 : Int32} {μ : MM} (h : f_M_differs a0 x1 x2 x3 x4 μ = some q) : μ.1[a0]? = some (0, 1) := by
  unfold f_M_differs at h
  obtain ⟨_, h1, _⟩ := bnd h
  exact kO_some h1
theorem j_M_fit_20 {l : Launch} {μ0 : MM} {q : Int64 × MM} {μ : MM} (h : f_M_fit_J20 μ = some q) : AWm l Y_M_fit 12 μ0 (some (.long q.1)) q.2 20 [none, none, none, none, none, none, none, none, none, none] [] μ := by
  unfold f_M_fit_J20 at h
  refine aw_ldc2 (v := (-1 : Int64)) 23 d_M_fit_20 rfl c_M_555 ?_
  cases h
  exact aw_lreturn d_M_fit_23 rfl
theorem l_M_fit_85 {l : Launch} {μ0 : MM} {q : Int64 × MM} {a0 : Nat} {x1 : Int32} {x2 : Int32} : ∀ (n : Nat) (x4 : Int32) (x5 : Int64) (x7 : Int32) (μ : MM), f_M_fit_L85 a0 x1 x2 n x4 x5 x7 μ = some q → AWm l Y_M_fit 12 μ0 (some (.long q.1)) q.2 85 [some (.ref a0), some (.int x1), some (.int x2), none, some (.int x4), some (.long x5), none, some (.int x7), none, none] [] μ := by
  intro n
  induction n with
  | zero =>
    intro x4 x5 x7 μ h
    have h : (none : Option (Int64 × MM)) = some q := h
    cases h
  | succ n ih =>
    intro x4 x5 x7 μ h
    rw [f_M_fit_L85] at h
    refine aw_iload 87 d_M_fit_85 rfl rfl ?_
    refine aw_bipush (v := (64 : Int32)) 89 d_M_fit_87 rfl (by decide) ?_
    refine aw_icmp_ge 139 92 d_M_fit_89 (by decide) rfl (fun c89 => ?_) (fun c89 => ?_)
    · have h := (if_pos c89).symm.trans h
      refine aw_iload_n 140 d_M_fit_139 rfl rfl ?_
      refine aw_if_ne 152 143 d_M_fit_140 (by decide) rfl (fun c140 => ?_) (fun c140 => ?_)
      · have h := (if_neg c140).symm.trans h
        refine aw_iload_n 153 d_M_fit_152 rfl rfl ?_
        refine aw_iconst (v := (1 : Int32)) 154 d_M_fit_153 rfl (by decide) ?_
        refine aw_icmp_ne 167 157 d_M_fit_154 (by decide) rfl (fun c154 => ?_) (fun c154 => ?_)
        · have h := (if_neg c154).symm.trans h
          refine aw_iload_n 168 d_M_fit_167 rfl rfl ?_
          refine aw_iconst (v := (2 : Int32)) 169 d_M_fit_168 rfl (by decide) ?_
          refine aw_icmp_ne 180 172 d_M_fit_169 (by decide) rfl (fun c169 => ?_) (fun c169 => ?_)
          · have h := (if_neg c169).symm.trans h
            refine aw_lload 182 d_M_fit_180 rfl rfl ?_
            cases h
            exact aw_lreturn d_M_fit_182 rfl
          · have h := (if_pos c169).symm.trans h
            refine aw_iload 174 d_M_fit_172 rfl rfl ?_
            refine aw_iconst (v := (4 : Int32)) 175 d_M_fit_174 rfl (by decide) ?_
            refine aw_irem 176 d_M_fit_175 rfl (by decide) ?_
            refine aw_i2l 177 d_M_fit_176 rfl ?_
            refine aw_goto 182 d_M_fit_177 (by decide) ?_
            cases h
            exact aw_lreturn d_M_fit_182 rfl
        · have h := (if_pos c154).symm.trans h
          refine aw_iload 159 d_M_fit_157 rfl rfl ?_
          refine aw_iconst (v := (4 : Int32)) 160 d_M_fit_159 rfl (by decide) ?_
          refine aw_idiv 161 d_M_fit_160 rfl (by decide) ?_
          refine aw_iconst (v := (4 : Int32)) 162 d_M_fit_161 rfl (by decide) ?_
          refine aw_irem 163 d_M_fit_162 rfl (by decide) ?_
          refine aw_i2l 164 d_M_fit_163 rfl ?_
          refine aw_goto 182 d_M_fit_164 (by decide) ?_
          cases h
          exact aw_lreturn d_M_fit_182 rfl
      · have h := (if_pos c140).symm.trans h
        refine aw_iload 145 d_M_fit_143 rfl rfl ?_
        refine aw_bipush (v := (16 : Int32)) 147 d_M_fit_145 rfl (by decide) ?_
        refine aw_idiv 148 d_M_fit_147 rfl (by decide) ?_
        refine aw_i2l 149 d_M_fit_148 rfl ?_
        refine aw_goto 182 d_M_fit_149 (by decide) ?_
        cases h
        exact aw_lreturn d_M_fit_182 rfl
    · have h := (if_neg c89).symm.trans h
      refine aw_aload_n 93 d_M_fit_92 rfl rfl ?_
      refine aw_iload_n 94 d_M_fit_93 rfl rfl ?_
      refine aw_iload 96 d_M_fit_94 rfl rfl ?_
      refine aw_bipush (v := (16 : Int32)) 98 d_M_fit_96 rfl (by decide) ?_
      refine aw_idiv 99 d_M_fit_98 rfl (by decide) ?_
      refine aw_iload 101 d_M_fit_99 rfl rfl ?_
      refine aw_iconst (v := (4 : Int32)) 102 d_M_fit_101 rfl (by decide) ?_
      refine aw_idiv 103 d_M_fit_102 rfl (by decide) ?_
      refine aw_iconst (v := (4 : Int32)) 104 d_M_fit_103 rfl (by decide) ?_
      refine aw_irem 105 d_M_fit_104 rfl (by decide) ?_
      refine aw_iload 107 d_M_fit_105 rfl rfl ?_
      refine aw_iconst (v := (4 : Int32)) 108 d_M_fit_107 rfl (by decide) ?_
      refine aw_irem 109 d_M_fit_108 rfl (by decide) ?_
      obtain ⟨q109, h109, h⟩ := bnd h
      refine aw_invV (rest := []) (st' := [.long q109.1]) (As := [.int x1, .int (x7 / (16 : Int32)), .int (irem (x7 / (4 : Int32)) (4 : Int32)), .int (irem x7 (4 : Int32))]) 112 d_M_fit_109 rfl lv_M_569 (m_M_differs h109) (by decide) (k_M_differs h109) rfl rfl rfl (Nat.le_of_ble_eq_true rfl) rfl ?_
      refine aw_lstore (loc' := [some (.ref a0), some (.int x1), some (.int x2), none, some (.int x4), some (.long x5), none, some (.int x7), some (.long q109.1), none]) 114 d_M_fit_112 rfl (by decide) rfl ?_
      refine aw_lload 116 d_M_fit_114 rfl rfl ?_
      refine aw_lload 118 d_M_fit_116 rfl rfl ?_
      refine aw_lcmp 119 d_M_fit_118 rfl ?_
      refine aw_if_lt 125 122 d_M_fit_119 (by decide) rfl (fun c119 => ?_) (fun c119 => ?_)
      · have h := (if_pos c119).symm.trans h
        refine aw_iload 127 d_M_fit_125 rfl rfl ?_
        refine aw_istore (loc' := [some (.ref a0), some (.int x1), some (.int x2), none, some (.int x7), some (.long x5), none, some (.int x7), some (.long q109.1), none]) 129 d_M_fit_127 rfl (by decide) rfl ?_
        refine aw_lload 131 d_M_fit_129 rfl rfl ?_
        refine aw_lstore (loc' := [some (.ref a0), some (.int x1), some (.int x2), none, some (.int x7), some (.long q109.1), none, some (.int x7), some (.long q109.1), none]) 133 d_M_fit_131 rfl (by decide) rfl ?_
        refine aw_iinc (v := (x7 + (1 : Int32))) (loc' := [some (.ref a0), some (.int x1), some (.int x2), none, some (.int x7), some (.long q109.1), none, some (.int (x7 + (1 : Int32))), some (.long q109.1), none]) 136 d_M_fit_133 rfl (by decide) rfl rfl rfl ?_
        refine aw_goto 85 d_M_fit_136 (by decide) ?_
        exact AW.wk [true, true, true, true, true, true, true, true, false, true] rfl (ih x7 q109.1 (x7 + (1 : Int32)) q109.2 h)
      · have h := (if_neg c119).symm.trans h
        refine aw_goto 133 d_M_fit_122 (by decide) ?_
        refine aw_iinc (v := (x7 + (1 : Int32))) (loc' := [some (.ref a0), some (.int x1), some (.int x2), none, some (.int x4), some (.long x5), none, some (.int (x7 + (1 : Int32))), some (.long q109.1), none]) 136 d_M_fit_133 rfl (by decide) rfl rfl rfl ?_
        refine aw_goto 85 d_M_fit_136 (by decide) ?_
        exact AW.wk [true, true, true, true, true, true, true, true, false, true] rfl (ih x4 x5 (x7 + (1 : Int32)) q109.2 h)
theorem l_M_fit_29 {l : Launch} {μ0 : MM} {q : Int64 × MM} {a0 : Nat} {x1 : Int32} {x2 : Int32} {μ : MM} : ∀ (n : Nat) (x3 : Int32) (x4 : Int32), f_M_fit_L29 a0 x1 x2 μ n x3 x4 = some q → AWm l Y_M_fit 12 μ0 (some (.long q.1)) q.2 29 [some (.ref a0), some (.int x1), some (.int x2), some (.int x3), some (.int x4), none, none, none, none, none] [] μ := by
  intro n
  induction n with
  | zero =>
    intro x3 x4 h
    have h : (none : Option (Int64 × MM)) = some q := h
    cases h
  | succ n ih =>
    intro x3 x4 h
    rw [f_M_fit_L29] at h
    refine aw_iload 31 d_M_fit_29 rfl rfl ?_
    refine aw_bipush (v := (24 : Int32)) 33 d_M_fit_31 rfl (by decide) ?_
    refine aw_icmp_ge 62 36 d_M_fit_33 (by decide) rfl (fun c33 => ?_) (fun c33 => ?_)
    · have h := (if_pos c33).symm.trans h
      refine aw_iload_n 63 d_M_fit_62 rfl rfl ?_
      refine aw_if_ne 70 66 d_M_fit_63 (by decide) rfl (fun c63 => ?_) (fun c63 => ?_)
      · have h := (if_neg c63).symm.trans h
        refine aw_aload_n 71 d_M_fit_70 rfl rfl ?_
        obtain ⟨μ71, h71, h⟩ := bnd h
        refine aw_invV (rest := []) (st' := []) (As := []) 74 d_M_fit_71 rfl lv_M_525 (m_M_plainly h71) (by decide) (k_M_plainly h71) rfl rfl rfl (Nat.le_of_ble_eq_true rfl) rfl ?_
        refine aw_iconst (v := (0 : Int32)) 75 d_M_fit_74 rfl (by decide) ?_
        refine aw_istore (loc' := [some (.ref a0), some (.int x1), some (.int x2), some (.int x3), some (.int (0 : Int32)), none, none, none, none, none]) 77 d_M_fit_75 rfl (by decide) rfl ?_
        refine aw_ldc2 (v := (1000000000000000 : Int64)) 80 d_M_fit_77 rfl c_M_255 ?_
        refine aw_lstore (loc' := [some (.ref a0), some (.int x1), some (.int x2), some (.int x3), some (.int (0 : Int32)), some (.long (1000000000000000 : Int64)), none, none, none, none]) 82 d_M_fit_80 rfl (by decide) rfl ?_
        refine aw_iconst (v := (1 : Int32)) 83 d_M_fit_82 rfl (by decide) ?_
        refine aw_istore (loc' := [some (.ref a0), some (.int x1), some (.int x2), some (.int x3), some (.int (0 : Int32)), some (.long (1000000000000000 : Int64)), none, some (.int (1 : Int32)), none, none]) 85 d_M_fit_83 rfl (by decide) rfl ?_
        exact AW.wk [true, true, true, false, true, true, true, true, true, true] rfl (l_M_fit_85 FU _ _ _ _ h)
      · have h := (if_pos c63).symm.trans h
        refine aw_ldc2 (v := (-2 : Int64)) 69 d_M_fit_66 rfl c_M_557 ?_
        cases h
        exact aw_lreturn d_M_fit_69 rfl
    · have h := (if_neg c33).symm.trans h
      refine aw_iload_n 37 d_M_fit_36 rfl rfl ?_
      refine aw_if_ne 50 40 d_M_fit_37 (by decide) rfl (fun c37 => ?_) (fun c37 => ?_)
      · have h := (if_neg c37).symm.trans h
        refine aw_iconst (v := (1 : Int32)) 51 d_M_fit_50 rfl (by decide) ?_
        refine aw_goto 55 d_M_fit_51 (by decide) ?_
        refine aw_istore_n (loc' := [some (.ref a0), some (.int x1), some (.int x2), some (.int (1 : Int32)), some (.int x4), none, none, none, none, none]) 56 d_M_fit_55 rfl (by decide) rfl ?_
        refine aw_iinc (v := (x4 + (1 : Int32))) (loc' := [some (.ref a0), some (.int x1), some (.int x2), some (.int (1 : Int32)), some (.int (x4 + (1 : Int32))), none, none, none, none, none]) 59 d_M_fit_56 rfl (by decide) rfl rfl rfl ?_
        refine aw_goto 29 d_M_fit_59 (by decide) ?_
        exact (ih (1 : Int32) (x4 + (1 : Int32)) h)
      · have h := (if_pos c37).symm.trans h
        refine aw_aload_n 41 d_M_fit_40 rfl rfl ?_
        refine aw_iload_n 42 d_M_fit_41 rfl rfl ?_
        refine aw_iload 44 d_M_fit_42 rfl rfl ?_
        obtain ⟨y44, h44, h⟩ := bnd h
        refine aw_invV (rest := []) (st' := [.int y44]) (As := [.int x1, .int x4]) 47 d_M_fit_44 rfl lv_M_566 (m_M_isTaped h44) (by decide) (k_M_isTaped h44) rfl rfl rfl (Nat.le_of_ble_eq_true rfl) rfl ?_
        refine aw_if_eq 54 50 d_M_fit_47 (by decide) rfl (fun c47 => ?_) (fun c47 => ?_)
        · have h := (if_pos c47).symm.trans h
          refine aw_iconst (v := (0 : Int32)) 55 d_M_fit_54 rfl (by decide) ?_
          refine aw_istore_n (loc' := [some (.ref a0), some (.int x1), some (.int x2), some (.int (0 : Int32)), some (.int x4), none, none, none, none, none]) 56 d_M_fit_55 rfl (by decide) rfl ?_
          refine aw_iinc (v := (x4 + (1 : Int32))) (loc' := [some (.ref a0), some (.int x1), some (.int x2), some (.int (0 : Int32)), some (.int (x4 + (1 : Int32))), none, none, none, none, none]) 59 d_M_fit_56 rfl (by decide) rfl rfl rfl ?_
          refine aw_goto 29 d_M_fit_59 (by decide) ?_
          exact (ih (0 : Int32) (x4 + (1 : Int32)) h)
        · have h := (if_neg c47).symm.trans h
          refine aw_iconst (v := (1 : Int32)) 51 d_M_fit_50 rfl (by decide) ?_
          refine aw_goto 55 d_M_fit_51 (by decide) ?_
          refine aw_istore_n (loc' := [some (.ref a0), some (.int x1), some (.int x2), some (.int (1 : Int32)), some (.int x4), none, none, none, none, none]) 56 d_M_fit_55 rfl (by decide) rfl ?_
          refine aw_iinc (v := (x4 + (1 : Int32))) (loc' := [some (.ref a0), some (.int x1), some (.int x2), some (.int (1 : Int32)), some (.int (x4 + (1 : Int32))), none, none, none, none, none]) 59 d_M_fit_56 rfl (by decide) rfl rfl rfl ?_
          refine aw_goto 29 d_M_fit_59 (by decide) ?_
          exact (ih (1 : Int32) (x4 + (1 : Int32)) h)
theorem m_M_fit {l : Launch} {q : Int64 × MM} {a0 : Nat} {x1 : Int32} {x2 : Int32} {μ : MM} (h : f_M_fit a0 x1 x2 μ = some q) : AMet l 12 Y_M_fit [.ref a0, .int x1, .int x2] μ (some (.long q.1)) q.2 := by
  refine AMet.of (loc := [some (.ref a0), some (.int x1), some (.int x2), none, none, none, none, none, none, none]) pn_M_fit (Nat.le_of_ble_eq_true rfl) rfl ?_
  unfold f_M_fit at h
  obtain ⟨_, hk, h⟩ := bnd h
  refine aw_aload_n 1 d_M_fit_0 rfl rfl ?_
  refine aw_iload_n 2 d_M_fit_1 rfl rfl ?_
  obtain ⟨y2, h2, h⟩ := bnd h
  refine aw_invV (rest := []) (st' := [.int y2]) (As := [.int x1]) 5 d_M_fit_2 rfl lv_M_282 (m_M_isSinger h2) (by decide) (k_M_isSinger h2) rfl rfl rfl (Nat.le_of_ble_eq_true rfl) rfl ?_
  refine aw_if_eq 20 8 d_M_fit_5 (by decide) rfl (fun c5 => ?_) (fun c5 => ?_)
  · have h := (if_pos c5).symm.trans h
    exact AW.wk [false, false, false, true, true, true, true, true, true, true] rfl (j_M_fit_20 h)
  · have h := (if_neg c5).symm.trans h
    refine aw_iload_n 9 d_M_fit_8 rfl rfl ?_
    refine aw_i2l 10 d_M_fit_9 rfl ?_
    refine aw_lconst (v := (0 : Int64)) 11 d_M_fit_10 rfl (by decide) ?_
    refine aw_ldc2 (v := (3 : Int64)) 14 d_M_fit_11 rfl c_M_528 ?_
    obtain ⟨y14, h14, h⟩ := bnd h
    refine aw_invS (rest := []) (st' := [.int y14]) (As := [.long x2.toInt64, .long (0 : Int64), .long (3 : Int64)]) 17 d_M_fit_14 rfl ls_M_145 (m_M_lies h14) (by decide) rfl rfl (Nat.le_of_ble_eq_true rfl) rfl ?_
    refine aw_if_ne 24 20 d_M_fit_17 (by decide) rfl (fun c17 => ?_) (fun c17 => ?_)
    · have h := (if_neg c17).symm.trans h
      refine aw_iconst (v := (0 : Int32)) 25 d_M_fit_24 rfl (by decide) ?_
      refine aw_istore_n (loc' := [some (.ref a0), some (.int x1), some (.int x2), some (.int (0 : Int32)), none, none, none, none, none, none]) 26 d_M_fit_25 rfl (by decide) rfl ?_
      refine aw_iconst (v := (0 : Int32)) 27 d_M_fit_26 rfl (by decide) ?_
      refine aw_istore (loc' := [some (.ref a0), some (.int x1), some (.int x2), some (.int (0 : Int32)), some (.int (0 : Int32)), none, none, none, none, none]) 29 d_M_fit_27 rfl (by decide) rfl ?_
      exact (l_M_fit_29 FU _ _ h)
    · have h := (if_pos c17).symm.trans h
      exact AW.wk [false, false, false, true, true, true, true, true, true, true] rfl (j_M_fit_20 h)
theorem k_M_fit {q : Int64 × MM} {a0 : Nat} {x1 : Int32} {x2 : Int32} {μ : MM} (h : f_M_fit a0 x1 x2 μ = some q) : μ.1[a0]? = some (0, 1) := by
  unfold f_M_fit at h
  obtain ⟨_, h1, _⟩ := bnd h
  exact kO_some h1
theorem m_X_minded {l : Launch} {q : Int64 × MM} {a0 : Nat} {x1 : Int32} {x2 : Int32} {x3 : Int32} {μ : MM} (h : f_X_minded a0 x1 x2 x3 μ = some q) : AMet l 7 Y_X_minded [.ref a0, .int x1, .int x2, .int x3] μ (some (.long q.1)) q.2 := by
  refine AMet.of (loc := [some (.ref a0), some (.int x1), some (.int x2), some (.int x3)]) pn_X_minded (Nat.le_of_ble_eq_true rfl) rfl ?_
  unfold f_X_minded at h
  obtain ⟨_, hk, h⟩ := bnd h
  refine aw_aload_n 1 d_X_minded_0 rfl rfl ?_
  obtain ⟨y1, h1, h⟩ := bnd h
  refine aw_getR 4 d_X_minded_1 rfl fg_X_30 rfl h1 ?_
  refine aw_aload_n 5 d_X_minded_4 rfl rfl ?_
  obtain ⟨y5, h5, h⟩ := bnd h
  refine aw_getR 8 d_X_minded_5 rfl fg_X_21 rfl h5 ?_
  obtain ⟨y8, h8, h⟩ := bnd h
  refine aw_getR 11 d_X_minded_8 rfl fg_X_170 rfl h8 ?_
  refine aw_aload_n 12 d_X_minded_11 rfl rfl ?_
  obtain ⟨y12, h12, h⟩ := bnd h
  refine aw_getR 15 d_X_minded_12 rfl fg_X_21 rfl h12 ?_
  obtain ⟨y15, h15, h⟩ := bnd h
  refine aw_getI 18 d_X_minded_15 rfl fg_X_196 (Or.inl rfl) h15 ?_
  refine aw_iload_n 19 d_X_minded_18 rfl rfl ?_
  refine aw_iconst (v := (0 : Int32)) 20 d_X_minded_19 rfl (by decide) ?_
  obtain ⟨μ20, h20, h⟩ := bnd h
  refine aw_invV (rest := []) (st' := []) (As := [.ref y8, .int y15, .int x3, .int (0 : Int32)]) 23 d_X_minded_20 rfl lv_X_300 (m_Si_sing h20) (by decide) (k_Si_sing h20) rfl rfl rfl (Nat.le_of_ble_eq_true rfl) rfl ?_
  refine aw_iload_n 24 d_X_minded_23 rfl rfl ?_
  refine aw_i2l 25 d_X_minded_24 rfl ?_
  refine aw_aload_n 26 d_X_minded_25 rfl rfl ?_
  obtain ⟨y26, h26, h⟩ := bnd h
  refine aw_getR 29 d_X_minded_26 rfl fg_X_30 rfl h26 ?_
  obtain ⟨y29, h29, h⟩ := bnd h
  refine aw_invV (rest := [.long x1.toInt64]) (st' := [.long y29, .long x1.toInt64]) (As := []) 32 d_X_minded_29 rfl lv_X_258 (m_Si_sinking h29) (by decide) (k_Si_sinking h29) rfl rfl rfl (Nat.le_of_ble_eq_true rfl) rfl ?_
  obtain ⟨y32, h32, h⟩ := bnd h
  refine aw_invS (rest := [.long x1.toInt64]) (st' := [.long y32, .long x1.toInt64]) (As := [.long y29]) 35 d_X_minded_32 rfl ls_X_340 (m_Mt_abs_J h32) (by decide) rfl rfl (Nat.le_of_ble_eq_true rfl) rfl ?_
  refine aw_ldc2 (v := (1000 : Int64)) 38 d_X_minded_35 rfl c_X_346 ?_
  refine aw_ldiv 39 d_X_minded_38 rfl (by decide) ?_
  refine aw_lmul 40 d_X_minded_39 rfl ?_
  refine aw_iload_n 41 d_X_minded_40 rfl rfl ?_
  refine aw_i2l 42 d_X_minded_41 rfl ?_
  refine aw_aload_n 43 d_X_minded_42 rfl rfl ?_
  obtain ⟨y43, h43, h⟩ := bnd h
  refine aw_getR 46 d_X_minded_43 rfl fg_X_30 rfl h43 ?_
  obtain ⟨y46, h46, h⟩ := bnd h
  refine aw_invV (rest := [.long x2.toInt64, .long (x1.toInt64 * (y32 / (1000 : Int64)))]) (st' := [.long y46, .long x2.toInt64, .long (x1.toInt64 * (y32 / (1000 : Int64)))]) (As := []) 49 d_X_minded_46 rfl lv_X_265 (m_Si_foulTogether h46) (by decide) (k_Si_foulTogether h46) rfl rfl rfl (Nat.le_of_ble_eq_true rfl) rfl ?_
  refine aw_ldc2 (v := (1000 : Int64)) 52 d_X_minded_49 rfl c_X_346 ?_
  refine aw_ldiv 53 d_X_minded_52 rfl (by decide) ?_
  refine aw_lmul 54 d_X_minded_53 rfl ?_
  refine aw_ladd 55 d_X_minded_54 rfl ?_
  cases h
  exact aw_lreturn d_X_minded_55 rfl
theorem k_X_minded {q : Int64 × MM} {a0 : Nat} {x1 : Int32} {x2 : Int32} {x3 : Int32} {μ : MM} (h : f_X_minded a0 x1 x2 x3 μ = some q) : μ.1[a0]? = some (0, 0) := by
  unfold f_X_minded at h
  obtain ⟨_, h1, _⟩ := bnd h
  exact kO_some h1
theorem j_X_mind_52 {l : Launch} {μ0 : MM} {q : Int64 × MM} {μ : MM} (h : f_X_mind_J52 μ = some q) : AWm l Y_X_mind 8 μ0 (some (.long q.1)) q.2 52 [none, none, none, none, none, none, none, none, none, none, none] [] μ := by
  unfold f_X_mind_J52 at h
  refine aw_ldc2 (v := (-1 : Int64)) 55 d_X_mind_52 rfl c_X_286 ?_
  cases h
  exact aw_lreturn d_X_mind_55 rfl
theorem j_X_mind_114 {l : Launch} {μ0 : MM} {q : Int64 × MM} {x3 : Int32} {x5 : Int64} {x7 : Int32} {μ : MM} (h : f_X_mind_J114 x3 x5 x7 μ = some q) : AWm l Y_X_mind 8 μ0 (some (.long q.1)) q.2 114 [none, none, none, some (.int x3), none, some (.long x5), none, some (.int x7), none, none, none] [] μ := by
  unfold f_X_mind_J114 at h
  refine aw_iload_n 115 d_X_mind_114 rfl rfl ?_
  refine aw_iconst (v := (2 : Int32)) 116 d_X_mind_115 rfl (by decide) ?_
  refine aw_icmp_ne 125 119 d_X_mind_116 (by decide) rfl (fun c116 => ?_) (fun c116 => ?_)
  · have h := (if_neg c116).symm.trans h
    refine aw_lload 127 d_X_mind_125 rfl rfl ?_
    cases h
    exact aw_lreturn d_X_mind_127 rfl
  · have h := (if_pos c116).symm.trans h
    refine aw_iload 121 d_X_mind_119 rfl rfl ?_
    refine aw_i2l 122 d_X_mind_121 rfl ?_
    refine aw_goto 127 d_X_mind_122 (by decide) ?_
    cases h
    exact aw_lreturn d_X_mind_127 rfl
theorem l_X_mind_71 {l : Launch} {μ0 : MM} {q : Int64 × MM} {a0 : Nat} {x1 : Int32} {x2 : Int32} {x3 : Int32} : ∀ (n : Nat) (x5 : Int64) (x7 : Int32) (x8 : Int32) (μ : MM), f_X_mind_L71 a0 x1 x2 x3 n x5 x7 x8 μ = some q → AWm l Y_X_mind 8 μ0 (some (.long q.1)) q.2 71 [some (.ref a0), some (.int x1), some (.int x2), some (.int x3), none, some (.long x5), none, some (.int x7), some (.int x8), none, none] [] μ := by
  intro n
  induction n with
  | zero =>
    intro x5 x7 x8 μ h
    have h : (none : Option (Int64 × MM)) = some q := h
    cases h
  | succ n ih =>
    intro x5 x7 x8 μ h
    rw [f_X_mind_L71] at h
    refine aw_iload 73 d_X_mind_71 rfl rfl ?_
    refine aw_bipush (v := (12 : Int32)) 75 d_X_mind_73 rfl (by decide) ?_
    refine aw_icmp_ge 114 78 d_X_mind_75 (by decide) rfl (fun c75 => ?_) (fun c75 => ?_)
    · have h := (if_pos c75).symm.trans h
      exact AW.wk [false, false, false, true, true, true, true, true, false, true, true] rfl (j_X_mind_114 h)
    · have h := (if_neg c75).symm.trans h
      refine aw_iload_n 79 d_X_mind_78 rfl rfl ?_
      refine aw_if_le 114 82 d_X_mind_79 (by decide) rfl (fun c79 => ?_) (fun c79 => ?_)
      · have h := (if_pos c79).symm.trans h
        exact AW.wk [false, false, false, true, true, true, true, true, false, true, true] rfl (j_X_mind_114 h)
      · have h := (if_neg c79).symm.trans h
        refine aw_aload_n 83 d_X_mind_82 rfl rfl ?_
        refine aw_iload_n 84 d_X_mind_83 rfl rfl ?_
        refine aw_iload_n 85 d_X_mind_84 rfl rfl ?_
        refine aw_iload 87 d_X_mind_85 rfl rfl ?_
        obtain ⟨q87, h87, h⟩ := bnd h
        refine aw_invV (rest := []) (st' := [.long q87.1]) (As := [.int x1, .int x2, .int x8]) 90 d_X_mind_87 rfl lv_X_314 (m_X_minded h87) (by decide) (k_X_minded h87) rfl rfl rfl (Nat.le_of_ble_eq_true rfl) rfl ?_
        refine aw_lstore (loc' := [some (.ref a0), some (.int x1), some (.int x2), some (.int x3), none, some (.long x5), none, some (.int x7), some (.int x8), some (.long q87.1), none]) 92 d_X_mind_90 rfl (by decide) rfl ?_
        refine aw_lload 94 d_X_mind_92 rfl rfl ?_
        refine aw_lload 96 d_X_mind_94 rfl rfl ?_
        refine aw_lcmp 97 d_X_mind_96 rfl ?_
        refine aw_if_ge 108 100 d_X_mind_97 (by decide) rfl (fun c97 => ?_) (fun c97 => ?_)
        · have h := (if_pos c97).symm.trans h
          refine aw_iinc (v := (x8 + (1 : Int32))) (loc' := [some (.ref a0), some (.int x1), some (.int x2), some (.int x3), none, some (.long x5), none, some (.int x7), some (.int (x8 + (1 : Int32))), some (.long q87.1), none]) 111 d_X_mind_108 rfl (by decide) rfl rfl rfl ?_
          refine aw_goto 71 d_X_mind_111 (by decide) ?_
          exact AW.wk [true, true, true, true, true, true, true, true, true, false, true] rfl (ih x5 x7 (x8 + (1 : Int32)) q87.2 h)
        · have h := (if_neg c97).symm.trans h
          refine aw_lload 102 d_X_mind_100 rfl rfl ?_
          refine aw_lstore (loc' := [some (.ref a0), some (.int x1), some (.int x2), some (.int x3), none, some (.long q87.1), none, some (.int x7), some (.int x8), some (.long q87.1), none]) 104 d_X_mind_102 rfl (by decide) rfl ?_
          refine aw_iload 106 d_X_mind_104 rfl rfl ?_
          refine aw_istore (loc' := [some (.ref a0), some (.int x1), some (.int x2), some (.int x3), none, some (.long q87.1), none, some (.int x8), some (.int x8), some (.long q87.1), none]) 108 d_X_mind_106 rfl (by decide) rfl ?_
          refine aw_iinc (v := (x8 + (1 : Int32))) (loc' := [some (.ref a0), some (.int x1), some (.int x2), some (.int x3), none, some (.long q87.1), none, some (.int x8), some (.int (x8 + (1 : Int32))), some (.long q87.1), none]) 111 d_X_mind_108 rfl (by decide) rfl rfl rfl ?_
          refine aw_goto 71 d_X_mind_111 (by decide) ?_
          exact AW.wk [true, true, true, true, true, true, true, true, true, false, true] rfl (ih q87.1 x8 (x8 + (1 : Int32)) q87.2 h)
theorem j_X_mind_34 {l : Launch} {μ0 : MM} {q : Int64 × MM} {a0 : Nat} {x1 : Int32} {x2 : Int32} {x3 : Int32} {s0 : Int32} {μ : MM} (h : f_X_mind_J34 a0 x1 x2 x3 s0 μ = some q) : AWm l Y_X_mind 8 μ0 (some (.long q.1)) q.2 34 [some (.ref a0), some (.int x1), some (.int x2), some (.int x3), none, none, none, none, none, none, none] [.int s0] μ := by
  unfold f_X_mind_J34 at h
  refine aw_istore (loc' := [some (.ref a0), some (.int x1), some (.int x2), some (.int x3), some (.int s0), none, none, none, none, none, none]) 36 d_X_mind_34 rfl (by decide) rfl ?_
  refine aw_iload 38 d_X_mind_36 rfl rfl ?_
  refine aw_if_eq 52 41 d_X_mind_38 (by decide) rfl (fun c38 => ?_) (fun c38 => ?_)
  · have h := (if_pos c38).symm.trans h
    exact AW.wk [false, false, false, false, false, true, true, true, true, true, true] rfl (j_X_mind_52 h)
  · have h := (if_neg c38).symm.trans h
    refine aw_aload_n 42 d_X_mind_41 rfl rfl ?_
    obtain ⟨y42, h42, h⟩ := bnd h
    refine aw_getR 45 d_X_mind_42 rfl fg_X_21 rfl h42 ?_
    obtain ⟨y45, h45, h⟩ := bnd h
    refine aw_invV (rest := []) (st' := [.int y45]) (As := []) 48 d_X_mind_45 rfl lv_X_254 (m_Ch_firstBeat h45) (by decide) (k_Ch_firstBeat h45) rfl rfl rfl (Nat.le_of_ble_eq_true rfl) rfl ?_
    refine aw_iconst (v := (-1 : Int32)) 49 d_X_mind_48 rfl (by decide) ?_
    refine aw_icmp_ne 56 52 d_X_mind_49 (by decide) rfl (fun c49 => ?_) (fun c49 => ?_)
    · have h := (if_neg c49).symm.trans h
      refine aw_aload_n 57 d_X_mind_56 rfl rfl ?_
      refine aw_iload_n 58 d_X_mind_57 rfl rfl ?_
      refine aw_iload_n 59 d_X_mind_58 rfl rfl ?_
      refine aw_iconst (v := (0 : Int32)) 60 d_X_mind_59 rfl (by decide) ?_
      obtain ⟨q60, h60, h⟩ := bnd h
      refine aw_invV (rest := []) (st' := [.long q60.1]) (As := [.int x1, .int x2, .int (0 : Int32)]) 63 d_X_mind_60 rfl lv_X_314 (m_X_minded h60) (by decide) (k_X_minded h60) rfl rfl rfl (Nat.le_of_ble_eq_true rfl) rfl ?_
      refine aw_lstore (loc' := [some (.ref a0), some (.int x1), some (.int x2), some (.int x3), some (.int s0), some (.long q60.1), none, none, none, none, none]) 65 d_X_mind_63 rfl (by decide) rfl ?_
      refine aw_iconst (v := (0 : Int32)) 66 d_X_mind_65 rfl (by decide) ?_
      refine aw_istore (loc' := [some (.ref a0), some (.int x1), some (.int x2), some (.int x3), some (.int s0), some (.long q60.1), none, some (.int (0 : Int32)), none, none, none]) 68 d_X_mind_66 rfl (by decide) rfl ?_
      refine aw_iconst (v := (1 : Int32)) 69 d_X_mind_68 rfl (by decide) ?_
      refine aw_istore (loc' := [some (.ref a0), some (.int x1), some (.int x2), some (.int x3), some (.int s0), some (.long q60.1), none, some (.int (0 : Int32)), some (.int (1 : Int32)), none, none]) 71 d_X_mind_69 rfl (by decide) rfl ?_
      exact AW.wk [true, true, true, true, false, true, true, true, true, true, true] rfl (l_X_mind_71 FU _ _ _ _ h)
    · have h := (if_pos c49).symm.trans h
      exact AW.wk [false, false, false, false, false, true, true, true, true, true, true] rfl (j_X_mind_52 h)
theorem j_X_mind_33 {l : Launch} {μ0 : MM} {q : Int64 × MM} {a0 : Nat} {x1 : Int32} {x2 : Int32} {x3 : Int32} {μ : MM} (h : f_X_mind_J33 a0 x1 x2 x3 μ = some q) : AWm l Y_X_mind 8 μ0 (some (.long q.1)) q.2 33 [some (.ref a0), some (.int x1), some (.int x2), some (.int x3), none, none, none, none, none, none, none] [] μ := by
  unfold f_X_mind_J33 at h
  refine aw_iconst (v := (0 : Int32)) 34 d_X_mind_33 rfl (by decide) ?_
  exact (j_X_mind_34 h)
theorem m_X_mind {l : Launch} {q : Int64 × MM} {a0 : Nat} {x1 : Int32} {x2 : Int32} {x3 : Int32} {μ : MM} (h : f_X_mind a0 x1 x2 x3 μ = some q) : AMet l 8 Y_X_mind [.ref a0, .int x1, .int x2, .int x3] μ (some (.long q.1)) q.2 := by
  refine AMet.of (loc := [some (.ref a0), some (.int x1), some (.int x2), some (.int x3), none, none, none, none, none, none, none]) pn_X_mind (Nat.le_of_ble_eq_true rfl) rfl ?_
  unfold f_X_mind at h
  obtain ⟨_, hk, h⟩ := bnd h
  refine aw_iload_n 1 d_X_mind_0 rfl rfl ?_
  refine aw_if_lt 33 4 d_X_mind_1 (by decide) rfl (fun c1 => ?_) (fun c1 => ?_)
  · have h := (if_pos c1).symm.trans h
    exact (j_X_mind_33 h)
  · have h := (if_neg c1).symm.trans h
    refine aw_iload_n 5 d_X_mind_4 rfl rfl ?_
    refine aw_bipush (v := (100 : Int32)) 7 d_X_mind_5 rfl (by decide) ?_
    refine aw_icmp_gt 33 10 d_X_mind_7 (by decide) rfl (fun c7 => ?_) (fun c7 => ?_)
    · have h := (if_pos c7).symm.trans h
      exact (j_X_mind_33 h)
    · have h := (if_neg c7).symm.trans h
      refine aw_iload_n 11 d_X_mind_10 rfl rfl ?_
      refine aw_if_lt 33 14 d_X_mind_11 (by decide) rfl (fun c11 => ?_) (fun c11 => ?_)
      · have h := (if_pos c11).symm.trans h
        exact (j_X_mind_33 h)
      · have h := (if_neg c11).symm.trans h
        refine aw_iload_n 15 d_X_mind_14 rfl rfl ?_
        refine aw_bipush (v := (100 : Int32)) 17 d_X_mind_15 rfl (by decide) ?_
        refine aw_icmp_gt 33 20 d_X_mind_17 (by decide) rfl (fun c17 => ?_) (fun c17 => ?_)
        · have h := (if_pos c17).symm.trans h
          exact (j_X_mind_33 h)
        · have h := (if_neg c17).symm.trans h
          refine aw_iload_n 21 d_X_mind_20 rfl rfl ?_
          refine aw_if_lt 33 24 d_X_mind_21 (by decide) rfl (fun c21 => ?_) (fun c21 => ?_)
          · have h := (if_pos c21).symm.trans h
            exact (j_X_mind_33 h)
          · have h := (if_neg c21).symm.trans h
            refine aw_iload_n 25 d_X_mind_24 rfl rfl ?_
            refine aw_iconst (v := (2 : Int32)) 26 d_X_mind_25 rfl (by decide) ?_
            refine aw_icmp_gt 33 29 d_X_mind_26 (by decide) rfl (fun c26 => ?_) (fun c26 => ?_)
            · have h := (if_pos c26).symm.trans h
              exact (j_X_mind_33 h)
            · have h := (if_neg c26).symm.trans h
              refine aw_iconst (v := (1 : Int32)) 30 d_X_mind_29 rfl (by decide) ?_
              refine aw_goto 34 d_X_mind_30 (by decide) ?_
              exact (j_X_mind_34 h)
theorem k_X_mind {q : Int64 × MM} {a0 : Nat} {x1 : Int32} {x2 : Int32} {x3 : Int32} {μ : MM} (h : f_X_mind a0 x1 x2 x3 μ = some q) : μ.1[a0]? = some (0, 0) := by
  unfold f_X_mind at h
  obtain ⟨_, h1, _⟩ := bnd h
  exact kO_some h1
theorem m_M_minds {l : Launch} {q : Int64} {a0 : Nat} {x1 : Int32} {x2 : Int32} {μ : MM} (h : f_M_minds a0 x1 x2 μ = some q) : AMet l 8 Y_M_minds [.ref a0, .int x1, .int x2] μ (some (.long q)) μ := by
  refine AMet.of (loc := [some (.ref a0), some (.int x1), some (.int x2)]) pn_M_minds (Nat.le_of_ble_eq_true rfl) rfl ?_
  unfold f_M_minds at h
  obtain ⟨_, hk, h⟩ := bnd h
  refine aw_iload_n 1 d_M_minds_0 rfl rfl ?_
  refine aw_i2l 2 d_M_minds_1 rfl ?_
  refine aw_aload_n 3 d_M_minds_2 rfl rfl ?_
  obtain ⟨y3, h3, h⟩ := bnd h
  refine aw_invV (rest := [.long x1.toInt64]) (st' := [.long y3, .long x1.toInt64]) (As := []) 6 d_M_minds_3 rfl lv_M_537 (m_M_sunkNow h3) (by decide) (k_M_sunkNow h3) rfl rfl rfl (Nat.le_of_ble_eq_true rfl) rfl ?_
  obtain ⟨y6, h6, h⟩ := bnd h
  refine aw_invS (rest := [.long x1.toInt64]) (st' := [.long y6, .long x1.toInt64]) (As := [.long y3]) 9 d_M_minds_6 rfl ls_M_225 (m_M_plain h6) (by decide) rfl rfl (Nat.le_of_ble_eq_true rfl) rfl ?_
  refine aw_ldc2 (v := (1000 : Int64)) 12 d_M_minds_9 rfl c_M_444 ?_
  refine aw_ldiv 13 d_M_minds_12 rfl (by decide) ?_
  refine aw_lmul 14 d_M_minds_13 rfl ?_
  refine aw_iload_n 15 d_M_minds_14 rfl rfl ?_
  refine aw_i2l 16 d_M_minds_15 rfl ?_
  refine aw_aload_n 17 d_M_minds_16 rfl rfl ?_
  obtain ⟨y17, h17, h⟩ := bnd h
  refine aw_invV (rest := [.long x2.toInt64, .long (x1.toInt64 * (y6 / (1000 : Int64)))]) (st' := [.long y17, .long x2.toInt64, .long (x1.toInt64 * (y6 / (1000 : Int64)))]) (As := []) 20 d_M_minds_17 rfl lv_M_544 (m_M_allFoul h17) (by decide) (k_M_allFoul h17) rfl rfl rfl (Nat.le_of_ble_eq_true rfl) rfl ?_
  refine aw_ldc2 (v := (1000 : Int64)) 23 d_M_minds_20 rfl c_M_444 ?_
  refine aw_ldiv 24 d_M_minds_23 rfl (by decide) ?_
  refine aw_lmul 25 d_M_minds_24 rfl ?_
  refine aw_ladd 26 d_M_minds_25 rfl ?_
  cases h
  exact aw_lreturn d_M_minds_26 rfl
theorem k_M_minds {q : Int64} {a0 : Nat} {x1 : Int32} {x2 : Int32} {μ : MM} (h : f_M_minds a0 x1 x2 μ = some q) : μ.1[a0]? = some (0, 1) := by
  unfold f_M_minds at h
  obtain ⟨_, h1, _⟩ := bnd h
  exact kO_some h1
theorem j_M_mind_44 {l : Launch} {μ0 : MM} {q : Int64 × MM} {μ : MM} (h : f_M_mind_J44 μ = some q) : AWm l Y_M_mind 12 μ0 (some (.long q.1)) q.2 44 [none, none, none, none, none, none, none, none, none, none, none, none] [] μ := by
  unfold f_M_mind_J44 at h
  refine aw_ldc2 (v := (-1 : Int64)) 47 d_M_mind_44 rfl c_M_555 ?_
  cases h
  exact aw_lreturn d_M_mind_47 rfl
theorem l_M_mind_77 {l : Launch} {μ0 : MM} {q : Int64 × MM} {a0 : Nat} {x1 : Int32} {x2 : Int32} {x3 : Int32} : ∀ (n : Nat) (x6 : Int32) (x7 : Int64) (x9 : Int32) (μ : MM), f_M_mind_L77 a0 x1 x2 x3 n x6 x7 x9 μ = some q → AWm l Y_M_mind 12 μ0 (some (.long q.1)) q.2 77 [some (.ref a0), some (.int x1), some (.int x2), some (.int x3), none, none, some (.int x6), some (.long x7), none, some (.int x9), none, none] [] μ := by
  intro n
  induction n with
  | zero =>
    intro x6 x7 x9 μ h
    have h : (none : Option (Int64 × MM)) = some q := h
    cases h
  | succ n ih =>
    intro x6 x7 x9 μ h
    rw [f_M_mind_L77] at h
    refine aw_iload 79 d_M_mind_77 rfl rfl ?_
    refine aw_bipush (v := (12 : Int32)) 81 d_M_mind_79 rfl (by decide) ?_
    refine aw_icmp_ge 127 84 d_M_mind_81 (by decide) rfl (fun c81 => ?_) (fun c81 => ?_)
    · have h := (if_pos c81).symm.trans h
      refine aw_aload_n 128 d_M_mind_127 rfl rfl ?_
      refine aw_iconst (v := (0 : Int32)) 129 d_M_mind_128 rfl (by decide) ?_
      obtain ⟨μ129, h129, h⟩ := bnd h
      refine aw_putI 132 false d_M_mind_129 rfl fp_M_420 (fun z => nomatch z) rfl h129 ?_
      refine aw_iload_n 133 d_M_mind_132 rfl rfl ?_
      refine aw_iconst (v := (1 : Int32)) 134 d_M_mind_133 rfl (by decide) ?_
      refine aw_icmp_ne 142 137 d_M_mind_134 (by decide) rfl (fun c134 => ?_) (fun c134 => ?_)
      · have h := (if_neg c134).symm.trans h
        refine aw_iload 144 d_M_mind_142 rfl rfl ?_
        refine aw_i2l 145 d_M_mind_144 rfl ?_
        cases h
        exact aw_lreturn d_M_mind_145 rfl
      · have h := (if_pos c134).symm.trans h
        refine aw_lload 139 d_M_mind_137 rfl rfl ?_
        refine aw_goto 145 d_M_mind_139 (by decide) ?_
        cases h
        exact aw_lreturn d_M_mind_145 rfl
    · have h := (if_neg c81).symm.trans h
      refine aw_aload_n 85 d_M_mind_84 rfl rfl ?_
      refine aw_iload 87 d_M_mind_85 rfl rfl ?_
      obtain ⟨μ87, h87, h⟩ := bnd h
      refine aw_putI 90 false d_M_mind_87 rfl fp_M_420 (fun z => nomatch z) rfl h87 ?_
      refine aw_aload_n 91 d_M_mind_90 rfl rfl ?_
      obtain ⟨μ91, h91, h⟩ := bnd h
      refine aw_invV (rest := []) (st' := []) (As := []) 94 d_M_mind_91 rfl lv_M_509 (m_M_isSung h91) (by decide) (k_M_isSung h91) rfl rfl rfl (Nat.le_of_ble_eq_true rfl) rfl ?_
      refine aw_aload_n 95 d_M_mind_94 rfl rfl ?_
      refine aw_iload_n 96 d_M_mind_95 rfl rfl ?_
      refine aw_iload_n 97 d_M_mind_96 rfl rfl ?_
      obtain ⟨y97, h97, h⟩ := bnd h
      refine aw_invV (rest := []) (st' := [.long y97]) (As := [.int x1, .int x2]) 100 d_M_mind_97 rfl lv_M_577 (m_M_minds h97) (by decide) (k_M_minds h97) rfl rfl rfl (Nat.le_of_ble_eq_true rfl) rfl ?_
      refine aw_lstore (loc' := [some (.ref a0), some (.int x1), some (.int x2), some (.int x3), none, none, some (.int x6), some (.long x7), none, some (.int x9), some (.long y97), none]) 102 d_M_mind_100 rfl (by decide) rfl ?_
      refine aw_lload 104 d_M_mind_102 rfl rfl ?_
      refine aw_lload 106 d_M_mind_104 rfl rfl ?_
      refine aw_lcmp 107 d_M_mind_106 rfl ?_
      refine aw_if_lt 113 110 d_M_mind_107 (by decide) rfl (fun c107 => ?_) (fun c107 => ?_)
      · have h := (if_pos c107).symm.trans h
        refine aw_iload 115 d_M_mind_113 rfl rfl ?_
        refine aw_istore (loc' := [some (.ref a0), some (.int x1), some (.int x2), some (.int x3), none, none, some (.int x9), some (.long x7), none, some (.int x9), some (.long y97), none]) 117 d_M_mind_115 rfl (by decide) rfl ?_
        refine aw_lload 119 d_M_mind_117 rfl rfl ?_
        refine aw_lstore (loc' := [some (.ref a0), some (.int x1), some (.int x2), some (.int x3), none, none, some (.int x9), some (.long y97), none, some (.int x9), some (.long y97), none]) 121 d_M_mind_119 rfl (by decide) rfl ?_
        refine aw_iinc (v := (x9 + (1 : Int32))) (loc' := [some (.ref a0), some (.int x1), some (.int x2), some (.int x3), none, none, some (.int x9), some (.long y97), none, some (.int (x9 + (1 : Int32))), some (.long y97), none]) 124 d_M_mind_121 rfl (by decide) rfl rfl rfl ?_
        refine aw_goto 77 d_M_mind_124 (by decide) ?_
        exact AW.wk [true, true, true, true, true, true, true, true, true, true, false, true] rfl (ih x9 y97 (x9 + (1 : Int32)) μ91 h)
      · have h := (if_neg c107).symm.trans h
        refine aw_goto 121 d_M_mind_110 (by decide) ?_
        refine aw_iinc (v := (x9 + (1 : Int32))) (loc' := [some (.ref a0), some (.int x1), some (.int x2), some (.int x3), none, none, some (.int x6), some (.long x7), none, some (.int (x9 + (1 : Int32))), some (.long y97), none]) 124 d_M_mind_121 rfl (by decide) rfl rfl rfl ?_
        refine aw_goto 77 d_M_mind_124 (by decide) ?_
        exact AW.wk [true, true, true, true, true, true, true, true, true, true, false, true] rfl (ih x6 x7 (x9 + (1 : Int32)) μ91 h)
theorem m_M_mind {l : Launch} {q : Int64 × MM} {a0 : Nat} {x1 : Int32} {x2 : Int32} {x3 : Int32} {μ : MM} (h : f_M_mind a0 x1 x2 x3 μ = some q) : AMet l 12 Y_M_mind [.ref a0, .int x1, .int x2, .int x3] μ (some (.long q.1)) q.2 := by
  refine AMet.of (loc := [some (.ref a0), some (.int x1), some (.int x2), some (.int x3), none, none, none, none, none, none, none, none]) pn_M_mind (Nat.le_of_ble_eq_true rfl) rfl ?_
  unfold f_M_mind at h
  obtain ⟨_, hk, h⟩ := bnd h
  refine aw_iload_n 1 d_M_mind_0 rfl rfl ?_
  refine aw_i2l 2 d_M_mind_1 rfl ?_
  refine aw_lconst (v := (0 : Int64)) 3 d_M_mind_2 rfl (by decide) ?_
  refine aw_ldc2 (v := (100 : Int64)) 6 d_M_mind_3 rfl c_M_573 ?_
  obtain ⟨y6, h6, h⟩ := bnd h
  refine aw_invS (rest := []) (st' := [.int y6]) (As := [.long x1.toInt64, .long (0 : Int64), .long (100 : Int64)]) 9 d_M_mind_6 rfl ls_M_145 (m_M_lies h6) (by decide) rfl rfl (Nat.le_of_ble_eq_true rfl) rfl ?_
  refine aw_if_eq 44 12 d_M_mind_9 (by decide) rfl (fun c9 => ?_) (fun c9 => ?_)
  · have h := (if_pos c9).symm.trans h
    exact AW.wk [false, false, false, false, true, true, true, true, true, true, true, true] rfl (j_M_mind_44 h)
  · have h := (if_neg c9).symm.trans h
    refine aw_iload_n 13 d_M_mind_12 rfl rfl ?_
    refine aw_i2l 14 d_M_mind_13 rfl ?_
    refine aw_lconst (v := (0 : Int64)) 15 d_M_mind_14 rfl (by decide) ?_
    refine aw_ldc2 (v := (100 : Int64)) 18 d_M_mind_15 rfl c_M_573 ?_
    obtain ⟨y18, h18, h⟩ := bnd h
    refine aw_invS (rest := []) (st' := [.int y18]) (As := [.long x2.toInt64, .long (0 : Int64), .long (100 : Int64)]) 21 d_M_mind_18 rfl ls_M_145 (m_M_lies h18) (by decide) rfl rfl (Nat.le_of_ble_eq_true rfl) rfl ?_
    refine aw_if_eq 44 24 d_M_mind_21 (by decide) rfl (fun c21 => ?_) (fun c21 => ?_)
    · have h := (if_pos c21).symm.trans h
      exact AW.wk [false, false, false, false, true, true, true, true, true, true, true, true] rfl (j_M_mind_44 h)
    · have h := (if_neg c21).symm.trans h
      refine aw_iload_n 25 d_M_mind_24 rfl rfl ?_
      refine aw_i2l 26 d_M_mind_25 rfl ?_
      refine aw_lconst (v := (0 : Int64)) 27 d_M_mind_26 rfl (by decide) ?_
      refine aw_ldc2 (v := (2 : Int64)) 30 d_M_mind_27 rfl c_M_575 ?_
      obtain ⟨y30, h30, h⟩ := bnd h
      refine aw_invS (rest := []) (st' := [.int y30]) (As := [.long x3.toInt64, .long (0 : Int64), .long (2 : Int64)]) 33 d_M_mind_30 rfl ls_M_145 (m_M_lies h30) (by decide) rfl rfl (Nat.le_of_ble_eq_true rfl) rfl ?_
      refine aw_if_eq 44 36 d_M_mind_33 (by decide) rfl (fun c33 => ?_) (fun c33 => ?_)
      · have h := (if_pos c33).symm.trans h
        exact AW.wk [false, false, false, false, true, true, true, true, true, true, true, true] rfl (j_M_mind_44 h)
      · have h := (if_neg c33).symm.trans h
        refine aw_aload_n 37 d_M_mind_36 rfl rfl ?_
        obtain ⟨y37, h37, h⟩ := bnd h
        refine aw_invV (rest := []) (st' := [.int y37]) (As := []) 40 d_M_mind_37 rfl lv_M_522 (m_M_firstSung h37) (by decide) (k_M_firstSung h37) rfl rfl rfl (Nat.le_of_ble_eq_true rfl) rfl ?_
        refine aw_iconst (v := (-1 : Int32)) 41 d_M_mind_40 rfl (by decide) ?_
        refine aw_icmp_ne 48 44 d_M_mind_41 (by decide) rfl (fun c41 => ?_) (fun c41 => ?_)
        · have h := (if_neg c41).symm.trans h
          refine aw_aload_n 49 d_M_mind_48 rfl rfl ?_
          obtain ⟨μ49, h49, h⟩ := bnd h
          refine aw_invV (rest := []) (st' := []) (As := []) 52 d_M_mind_49 rfl lv_M_525 (m_M_plainly h49) (by decide) (k_M_plainly h49) rfl rfl rfl (Nat.le_of_ble_eq_true rfl) rfl ?_
          refine aw_aload_n 53 d_M_mind_52 rfl rfl ?_
          refine aw_iload_n 54 d_M_mind_53 rfl rfl ?_
          refine aw_iload_n 55 d_M_mind_54 rfl rfl ?_
          obtain ⟨y55, h55, h⟩ := bnd h
          refine aw_invV (rest := []) (st' := [.long y55]) (As := [.int x1, .int x2]) 58 d_M_mind_55 rfl lv_M_577 (m_M_minds h55) (by decide) (k_M_minds h55) rfl rfl rfl (Nat.le_of_ble_eq_true rfl) rfl ?_
          refine aw_lstore (loc' := [some (.ref a0), some (.int x1), some (.int x2), some (.int x3), some (.long y55), none, none, none, none, none, none, none]) 60 d_M_mind_58 rfl (by decide) rfl ?_
          refine aw_iload_n 61 d_M_mind_60 rfl rfl ?_
          refine aw_if_ne 67 64 d_M_mind_61 (by decide) rfl (fun c61 => ?_) (fun c61 => ?_)
          · have h := (if_neg c61).symm.trans h
            refine aw_iconst (v := (0 : Int32)) 68 d_M_mind_67 rfl (by decide) ?_
            refine aw_istore (loc' := [some (.ref a0), some (.int x1), some (.int x2), some (.int x3), some (.long y55), none, some (.int (0 : Int32)), none, none, none, none, none]) 70 d_M_mind_68 rfl (by decide) rfl ?_
            refine aw_lload 72 d_M_mind_70 rfl rfl ?_
            refine aw_lstore (loc' := [some (.ref a0), some (.int x1), some (.int x2), some (.int x3), some (.long y55), none, some (.int (0 : Int32)), some (.long y55), none, none, none, none]) 74 d_M_mind_72 rfl (by decide) rfl ?_
            refine aw_iconst (v := (1 : Int32)) 75 d_M_mind_74 rfl (by decide) ?_
            refine aw_istore (loc' := [some (.ref a0), some (.int x1), some (.int x2), some (.int x3), some (.long y55), none, some (.int (0 : Int32)), some (.long y55), none, some (.int (1 : Int32)), none, none]) 77 d_M_mind_75 rfl (by decide) rfl ?_
            exact AW.wk [true, true, true, true, false, true, true, true, true, true, true, true] rfl (l_M_mind_77 FU _ _ _ _ h)
          · have h := (if_pos c61).symm.trans h
            refine aw_lload 66 d_M_mind_64 rfl rfl ?_
            cases h
            exact aw_lreturn d_M_mind_66 rfl
        · have h := (if_pos c41).symm.trans h
          exact AW.wk [false, false, false, false, true, true, true, true, true, true, true, true] rfl (j_M_mind_44 h)
theorem k_M_mind {q : Int64 × MM} {a0 : Nat} {x1 : Int32} {x2 : Int32} {x3 : Int32} {μ : MM} (h : f_M_mind a0 x1 x2 x3 μ = some q) : μ.1[a0]? = some (0, 1) := by
  unfold f_M_mind at h
  obtain ⟨_, h1, _⟩ := bnd h
  exact kO_some h1
theorem m_Rl_number {l : Launch} {q : Int32} {a0 : Nat} {x1 : Int32} {μ : MM} (h : f_Rl_number a0 x1 μ = some q) : AMet l 1 Y_Rl_number [.ref a0, .int x1] μ (some (.int q)) μ := by
  refine AMet.of (loc := [some (.ref a0), some (.int x1)]) pn_Rl_number (Nat.le_of_ble_eq_true rfl) rfl ?_
  unfold f_Rl_number at h
  obtain ⟨_, hk, h⟩ := bnd h
  refine aw_iload_n 1 d_Rl_number_0 rfl rfl ?_
  refine aw_if_lt 14 4 d_Rl_number_1 (by decide) rfl (fun c1 => ?_) (fun c1 => ?_)
  · have h := (if_pos c1).symm.trans h
    refine aw_iconst (v := (0 : Int32)) 15 d_Rl_number_14 rfl (by decide) ?_
    cases h
    exact aw_ireturn d_Rl_number_15 rfl rfl
  · have h := (if_neg c1).symm.trans h
    refine aw_iload_n 5 d_Rl_number_4 rfl rfl ?_
    refine aw_aload_n 6 d_Rl_number_5 rfl rfl ?_
    obtain ⟨y6, h6, h⟩ := bnd h
    refine aw_getI 9 d_Rl_number_6 rfl fg_Rl_13 (Or.inl rfl) h6 ?_
    refine aw_iconst (v := (4 : Int32)) 10 d_Rl_number_9 rfl (by decide) ?_
    refine aw_idiv 11 d_Rl_number_10 rfl (by decide) ?_
    refine aw_icmp_lt 16 14 d_Rl_number_11 (by decide) rfl (fun c11 => ?_) (fun c11 => ?_)
    · have h := (if_pos c11).symm.trans h
      refine aw_aload_n 17 d_Rl_number_16 rfl rfl ?_
      obtain ⟨y17, h17, h⟩ := bnd h
      refine aw_getR 20 d_Rl_number_17 rfl fg_Rl_9 rfl h17 ?_
      refine aw_iconst (v := (4 : Int32)) 21 d_Rl_number_20 rfl (by decide) ?_
      refine aw_iload_n 22 d_Rl_number_21 rfl rfl ?_
      refine aw_imul 23 d_Rl_number_22 rfl ?_
      obtain ⟨y23, h23, h⟩ := bnd h
      refine aw_iald 24 d_Rl_number_23 rfl h23 ?_
      refine aw_bipush (v := (24 : Int32)) 26 d_Rl_number_24 rfl (by decide) ?_
      refine aw_ishl 27 d_Rl_number_26 rfl ?_
      refine aw_aload_n 28 d_Rl_number_27 rfl rfl ?_
      obtain ⟨y28, h28, h⟩ := bnd h
      refine aw_getR 31 d_Rl_number_28 rfl fg_Rl_9 rfl h28 ?_
      refine aw_iconst (v := (4 : Int32)) 32 d_Rl_number_31 rfl (by decide) ?_
      refine aw_iload_n 33 d_Rl_number_32 rfl rfl ?_
      refine aw_imul 34 d_Rl_number_33 rfl ?_
      refine aw_iconst (v := (1 : Int32)) 35 d_Rl_number_34 rfl (by decide) ?_
      refine aw_iadd 36 d_Rl_number_35 rfl ?_
      obtain ⟨y36, h36, h⟩ := bnd h
      refine aw_iald 37 d_Rl_number_36 rfl h36 ?_
      refine aw_bipush (v := (16 : Int32)) 39 d_Rl_number_37 rfl (by decide) ?_
      refine aw_ishl 40 d_Rl_number_39 rfl ?_
      refine aw_ior 41 d_Rl_number_40 rfl ?_
      refine aw_aload_n 42 d_Rl_number_41 rfl rfl ?_
      obtain ⟨y42, h42, h⟩ := bnd h
      refine aw_getR 45 d_Rl_number_42 rfl fg_Rl_9 rfl h42 ?_
      refine aw_iconst (v := (4 : Int32)) 46 d_Rl_number_45 rfl (by decide) ?_
      refine aw_iload_n 47 d_Rl_number_46 rfl rfl ?_
      refine aw_imul 48 d_Rl_number_47 rfl ?_
      refine aw_iconst (v := (2 : Int32)) 49 d_Rl_number_48 rfl (by decide) ?_
      refine aw_iadd 50 d_Rl_number_49 rfl ?_
      obtain ⟨y50, h50, h⟩ := bnd h
      refine aw_iald 51 d_Rl_number_50 rfl h50 ?_
      refine aw_bipush (v := (8 : Int32)) 53 d_Rl_number_51 rfl (by decide) ?_
      refine aw_ishl 54 d_Rl_number_53 rfl ?_
      refine aw_ior 55 d_Rl_number_54 rfl ?_
      refine aw_aload_n 56 d_Rl_number_55 rfl rfl ?_
      obtain ⟨y56, h56, h⟩ := bnd h
      refine aw_getR 59 d_Rl_number_56 rfl fg_Rl_9 rfl h56 ?_
      refine aw_iconst (v := (4 : Int32)) 60 d_Rl_number_59 rfl (by decide) ?_
      refine aw_iload_n 61 d_Rl_number_60 rfl rfl ?_
      refine aw_imul 62 d_Rl_number_61 rfl ?_
      refine aw_iconst (v := (3 : Int32)) 63 d_Rl_number_62 rfl (by decide) ?_
      refine aw_iadd 64 d_Rl_number_63 rfl ?_
      obtain ⟨y64, h64, h⟩ := bnd h
      refine aw_iald 65 d_Rl_number_64 rfl h64 ?_
      refine aw_ior 66 d_Rl_number_65 rfl ?_
      cases h
      exact aw_ireturn d_Rl_number_66 rfl rfl
    · have h := (if_neg c11).symm.trans h
      refine aw_iconst (v := (0 : Int32)) 15 d_Rl_number_14 rfl (by decide) ?_
      cases h
      exact aw_ireturn d_Rl_number_15 rfl rfl
theorem k_Rl_number {q : Int32} {a0 : Nat} {x1 : Int32} {μ : MM} (h : f_Rl_number a0 x1 μ = some q) : μ.1[a0]? = some (0, 7) := by
  unfold f_Rl_number at h
  obtain ⟨_, h1, _⟩ := bnd h
  exact kO_some h1
theorem j_X_firstWrong_60 {l : Launch} {μ0 : MM} {q : Int32} {x2 : Int32} {μ : MM} (h : f_X_firstWrong_J60 x2 μ = some q) : AWm l Y_X_firstWrong 4 μ0 (some (.int q)) μ 60 [none, none, some (.int x2), none, none] [] μ := by
  unfold f_X_firstWrong_J60 at h
  refine aw_iconst (v := (3 : Int32)) 61 d_X_firstWrong_60 rfl (by decide) ?_
  refine aw_iload_n 62 d_X_firstWrong_61 rfl rfl ?_
  refine aw_imul 63 d_X_firstWrong_62 rfl ?_
  cases h
  exact aw_ireturn d_X_firstWrong_63 rfl rfl
theorem l_X_firstWrong_18 {l : Launch} {μ0 : MM} {q : Int32} {a0 : Nat} {x1 : Int32} {x3 : Int32} {μ : MM} {k4 : Int32 → Int32 → Option (Int32)} (hk4 : ∀ (x2 : Int32) (x3 : Int32), k4 x2 x3 = some q → AWm l Y_X_firstWrong 4 μ0 (some (.int q)) μ 4 [some (.ref a0), some (.int x1), some (.int x2), some (.int x3), none] [] μ) : ∀ (n : Nat) (x2 : Int32) (x4 : Int32), f_X_firstWrong_L18 k4 a0 x1 x3 μ n x2 x4 = some q → AWm l Y_X_firstWrong 4 μ0 (some (.int q)) μ 18 [some (.ref a0), some (.int x1), some (.int x2), some (.int x3), some (.int x4)] [] μ := by
  intro n
  induction n with
  | zero =>
    intro x2 x4 h
    have h : (none : Option (Int32)) = some q := h
    cases h
  | succ n ih =>
    intro x2 x4 h
    rw [f_X_firstWrong_L18] at h
    refine aw_iload 20 d_X_firstWrong_18 rfl rfl ?_
    refine aw_bipush (v := (24 : Int32)) 22 d_X_firstWrong_20 rfl (by decide) ?_
    refine aw_icmp_ge 129 25 d_X_firstWrong_22 (by decide) rfl (fun c22 => ?_) (fun c22 => ?_)
    · have h := (if_pos c22).symm.trans h
      refine aw_iinc (v := (x3 + (1 : Int32))) (loc' := [some (.ref a0), some (.int x1), some (.int x2), some (.int (x3 + (1 : Int32))), some (.int x4)]) 132 d_X_firstWrong_129 rfl (by decide) rfl rfl rfl ?_
      refine aw_goto 4 d_X_firstWrong_132 (by decide) ?_
      exact AW.wk [true, true, true, true, false] rfl (hk4 x2 (x3 + (1 : Int32)) h)
    · have h := (if_neg c22).symm.trans h
      refine aw_aload_n 26 d_X_firstWrong_25 rfl rfl ?_
      obtain ⟨y26, h26, h⟩ := bnd h
      refine aw_getR 29 d_X_firstWrong_26 rfl fg_X_21 rfl h26 ?_
      refine aw_iload_n 30 d_X_firstWrong_29 rfl rfl ?_
      refine aw_iload 32 d_X_firstWrong_30 rfl rfl ?_
      obtain ⟨y32, h32, h⟩ := bnd h
      refine aw_invV (rest := []) (st' := [.int y32]) (As := [.int x3, .int x4]) 35 d_X_firstWrong_32 rfl lv_X_229 (m_Ch_sings h32) (by decide) (k_Ch_sings h32) rfl rfl rfl (Nat.le_of_ble_eq_true rfl) rfl ?_
      refine aw_if_ne 41 38 d_X_firstWrong_35 (by decide) rfl (fun c35 => ?_) (fun c35 => ?_)
      · have h := (if_neg c35).symm.trans h
        refine aw_iload_n 42 d_X_firstWrong_41 rfl rfl ?_
        refine aw_iload_n 43 d_X_firstWrong_42 rfl rfl ?_
        refine aw_icmp_eq 60 46 d_X_firstWrong_43 (by decide) rfl (fun c43 => ?_) (fun c43 => ?_)
        · have h := (if_pos c43).symm.trans h
          exact AW.wk [false, false, true, false, false] rfl (j_X_firstWrong_60 h)
        · have h := (if_neg c43).symm.trans h
          refine aw_aload_n 47 d_X_firstWrong_46 rfl rfl ?_
          obtain ⟨y47, h47, h⟩ := bnd h
          refine aw_getR 50 d_X_firstWrong_47 rfl fg_X_62 rfl h47 ?_
          refine aw_iconst (v := (3 : Int32)) 51 d_X_firstWrong_50 rfl (by decide) ?_
          refine aw_iload_n 52 d_X_firstWrong_51 rfl rfl ?_
          refine aw_imul 53 d_X_firstWrong_52 rfl ?_
          obtain ⟨y53, h53, h⟩ := bnd h
          refine aw_invV (rest := []) (st' := [.int y53]) (As := [.int ((3 : Int32) * x2)]) 56 d_X_firstWrong_53 rfl lv_X_348 (m_Rl_number h53) (by decide) (k_Rl_number h53) rfl rfl rfl (Nat.le_of_ble_eq_true rfl) rfl ?_
          refine aw_iload_n 57 d_X_firstWrong_56 rfl rfl ?_
          refine aw_icmp_eq 64 60 d_X_firstWrong_57 (by decide) rfl (fun c57 => ?_) (fun c57 => ?_)
          · have h := (if_pos c57).symm.trans h
            refine aw_aload_n 65 d_X_firstWrong_64 rfl rfl ?_
            obtain ⟨y65, h65, h⟩ := bnd h
            refine aw_getR 68 d_X_firstWrong_65 rfl fg_X_62 rfl h65 ?_
            refine aw_iconst (v := (3 : Int32)) 69 d_X_firstWrong_68 rfl (by decide) ?_
            refine aw_iload_n 70 d_X_firstWrong_69 rfl rfl ?_
            refine aw_imul 71 d_X_firstWrong_70 rfl ?_
            refine aw_iconst (v := (1 : Int32)) 72 d_X_firstWrong_71 rfl (by decide) ?_
            refine aw_iadd 73 d_X_firstWrong_72 rfl ?_
            obtain ⟨y73, h73, h⟩ := bnd h
            refine aw_invV (rest := []) (st' := [.int y73]) (As := [.int (((3 : Int32) * x2) + (1 : Int32))]) 76 d_X_firstWrong_73 rfl lv_X_348 (m_Rl_number h73) (by decide) (k_Rl_number h73) rfl rfl rfl (Nat.le_of_ble_eq_true rfl) rfl ?_
            refine aw_iload 78 d_X_firstWrong_76 rfl rfl ?_
            refine aw_icmp_eq 87 81 d_X_firstWrong_78 (by decide) rfl (fun c78 => ?_) (fun c78 => ?_)
            · have h := (if_pos c78).symm.trans h
              refine aw_aload_n 88 d_X_firstWrong_87 rfl rfl ?_
              obtain ⟨y88, h88, h⟩ := bnd h
              refine aw_getR 91 d_X_firstWrong_88 rfl fg_X_62 rfl h88 ?_
              refine aw_iconst (v := (3 : Int32)) 92 d_X_firstWrong_91 rfl (by decide) ?_
              refine aw_iload_n 93 d_X_firstWrong_92 rfl rfl ?_
              refine aw_imul 94 d_X_firstWrong_93 rfl ?_
              refine aw_iconst (v := (2 : Int32)) 95 d_X_firstWrong_94 rfl (by decide) ?_
              refine aw_iadd 96 d_X_firstWrong_95 rfl ?_
              obtain ⟨y96, h96, h⟩ := bnd h
              refine aw_invV (rest := []) (st' := [.int y96]) (As := [.int (((3 : Int32) * x2) + (2 : Int32))]) 99 d_X_firstWrong_96 rfl lv_X_348 (m_Rl_number h96) (by decide) (k_Rl_number h96) rfl rfl rfl (Nat.le_of_ble_eq_true rfl) rfl ?_
              refine aw_i2l 100 d_X_firstWrong_99 rfl ?_
              refine aw_aload_n 101 d_X_firstWrong_100 rfl rfl ?_
              obtain ⟨y101, h101, h⟩ := bnd h
              refine aw_getR 104 d_X_firstWrong_101 rfl fg_X_30 rfl h101 ?_
              refine aw_iload_n 105 d_X_firstWrong_104 rfl rfl ?_
              refine aw_iload 107 d_X_firstWrong_105 rfl rfl ?_
              obtain ⟨y107, h107, h⟩ := bnd h
              refine aw_invV (rest := [.long y96.toInt64]) (st' := [.long y107, .long y96.toInt64]) (As := [.int x3, .int x4]) 110 d_X_firstWrong_107 rfl lv_X_235 (m_Si_sung h107) (by decide) (k_Si_sung h107) rfl rfl rfl (Nat.le_of_ble_eq_true rfl) rfl ?_
              refine aw_lcmp 111 d_X_firstWrong_110 rfl ?_
              refine aw_if_eq 120 114 d_X_firstWrong_111 (by decide) rfl (fun c111 => ?_) (fun c111 => ?_)
              · have h := (if_pos c111).symm.trans h
                refine aw_iinc (v := (x2 + (1 : Int32))) (loc' := [some (.ref a0), some (.int x1), some (.int (x2 + (1 : Int32))), some (.int x3), some (.int x4)]) 123 d_X_firstWrong_120 rfl (by decide) rfl rfl rfl ?_
                refine aw_iinc (v := (x4 + (1 : Int32))) (loc' := [some (.ref a0), some (.int x1), some (.int (x2 + (1 : Int32))), some (.int x3), some (.int (x4 + (1 : Int32)))]) 126 d_X_firstWrong_123 rfl (by decide) rfl rfl rfl ?_
                refine aw_goto 18 d_X_firstWrong_126 (by decide) ?_
                exact (ih (x2 + (1 : Int32)) (x4 + (1 : Int32)) h)
              · have h := (if_neg c111).symm.trans h
                refine aw_iconst (v := (3 : Int32)) 115 d_X_firstWrong_114 rfl (by decide) ?_
                refine aw_iload_n 116 d_X_firstWrong_115 rfl rfl ?_
                refine aw_imul 117 d_X_firstWrong_116 rfl ?_
                refine aw_iconst (v := (2 : Int32)) 118 d_X_firstWrong_117 rfl (by decide) ?_
                refine aw_iadd 119 d_X_firstWrong_118 rfl ?_
                cases h
                exact aw_ireturn d_X_firstWrong_119 rfl rfl
            · have h := (if_neg c78).symm.trans h
              refine aw_iconst (v := (3 : Int32)) 82 d_X_firstWrong_81 rfl (by decide) ?_
              refine aw_iload_n 83 d_X_firstWrong_82 rfl rfl ?_
              refine aw_imul 84 d_X_firstWrong_83 rfl ?_
              refine aw_iconst (v := (1 : Int32)) 85 d_X_firstWrong_84 rfl (by decide) ?_
              refine aw_iadd 86 d_X_firstWrong_85 rfl ?_
              cases h
              exact aw_ireturn d_X_firstWrong_86 rfl rfl
          · have h := (if_neg c57).symm.trans h
            exact AW.wk [false, false, true, false, false] rfl (j_X_firstWrong_60 h)
      · have h := (if_pos c35).symm.trans h
        refine aw_goto 123 d_X_firstWrong_38 (by decide) ?_
        refine aw_iinc (v := (x4 + (1 : Int32))) (loc' := [some (.ref a0), some (.int x1), some (.int x2), some (.int x3), some (.int (x4 + (1 : Int32)))]) 126 d_X_firstWrong_123 rfl (by decide) rfl rfl rfl ?_
        refine aw_goto 18 d_X_firstWrong_126 (by decide) ?_
        exact (ih x2 (x4 + (1 : Int32)) h)
theorem l_X_firstWrong_4 {l : Launch} {μ0 : MM} {q : Int32} {a0 : Nat} {x1 : Int32} {μ : MM} : ∀ (n : Nat) (x2 : Int32) (x3 : Int32), f_X_firstWrong_L4 a0 x1 μ n x2 x3 = some q → AWm l Y_X_firstWrong 4 μ0 (some (.int q)) μ 4 [some (.ref a0), some (.int x1), some (.int x2), some (.int x3), none] [] μ := by
  intro n
  induction n with
  | zero =>
    intro x2 x3 h
    have h : (none : Option (Int32)) = some q := h
    cases h
  | succ n ih =>
    intro x2 x3 h
    rw [f_X_firstWrong_L4] at h
    refine aw_iload_n 5 d_X_firstWrong_4 rfl rfl ?_
    refine aw_aload_n 6 d_X_firstWrong_5 rfl rfl ?_
    obtain ⟨y6, h6, h⟩ := bnd h
    refine aw_getR 9 d_X_firstWrong_6 rfl fg_X_21 rfl h6 ?_
    obtain ⟨y9, h9, h⟩ := bnd h
    refine aw_getI 12 d_X_firstWrong_9 rfl fg_X_163 (Or.inl rfl) h9 ?_
    refine aw_icmp_ge 135 15 d_X_firstWrong_12 (by decide) rfl (fun c12 => ?_) (fun c12 => ?_)
    · have h := (if_pos c12).symm.trans h
      refine aw_iload_n 136 d_X_firstWrong_135 rfl rfl ?_
      refine aw_iload_n 137 d_X_firstWrong_136 rfl rfl ?_
      refine aw_icmp_ne 144 140 d_X_firstWrong_137 (by decide) rfl (fun c137 => ?_) (fun c137 => ?_)
      · have h := (if_neg c137).symm.trans h
        refine aw_iconst (v := (3 : Int32)) 145 d_X_firstWrong_144 rfl (by decide) ?_
        refine aw_iload_n 146 d_X_firstWrong_145 rfl rfl ?_
        refine aw_imul 147 d_X_firstWrong_146 rfl ?_
        cases h
        exact aw_ireturn d_X_firstWrong_147 rfl rfl
      · have h := (if_pos c137).symm.trans h
        refine aw_iconst (v := (-1 : Int32)) 141 d_X_firstWrong_140 rfl (by decide) ?_
        refine aw_goto 147 d_X_firstWrong_141 (by decide) ?_
        cases h
        exact aw_ireturn d_X_firstWrong_147 rfl rfl
    · have h := (if_neg c12).symm.trans h
      refine aw_iconst (v := (0 : Int32)) 16 d_X_firstWrong_15 rfl (by decide) ?_
      refine aw_istore (loc' := [some (.ref a0), some (.int x1), some (.int x2), some (.int x3), some (.int (0 : Int32))]) 18 d_X_firstWrong_16 rfl (by decide) rfl ?_
      exact (l_X_firstWrong_18 ih FU _ _ h)
theorem m_X_firstWrong {l : Launch} {q : Int32} {a0 : Nat} {x1 : Int32} {μ : MM} (h : f_X_firstWrong a0 x1 μ = some q) : AMet l 4 Y_X_firstWrong [.ref a0, .int x1] μ (some (.int q)) μ := by
  refine AMet.of (loc := [some (.ref a0), some (.int x1), none, none, none]) pn_X_firstWrong (Nat.le_of_ble_eq_true rfl) rfl ?_
  unfold f_X_firstWrong at h
  obtain ⟨_, hk, h⟩ := bnd h
  refine aw_iconst (v := (0 : Int32)) 1 d_X_firstWrong_0 rfl (by decide) ?_
  refine aw_istore_n (loc' := [some (.ref a0), some (.int x1), some (.int (0 : Int32)), none, none]) 2 d_X_firstWrong_1 rfl (by decide) rfl ?_
  refine aw_iconst (v := (0 : Int32)) 3 d_X_firstWrong_2 rfl (by decide) ?_
  refine aw_istore_n (loc' := [some (.ref a0), some (.int x1), some (.int (0 : Int32)), some (.int (0 : Int32)), none]) 4 d_X_firstWrong_3 rfl (by decide) rfl ?_
  exact (l_X_firstWrong_4 FU _ _ h)
theorem k_X_firstWrong {q : Int32} {a0 : Nat} {x1 : Int32} {μ : MM} (h : f_X_firstWrong a0 x1 μ = some q) : μ.1[a0]? = some (0, 0) := by
  unfold f_X_firstWrong at h
  obtain ⟨_, h1, _⟩ := bnd h
  exact kO_some h1
theorem m_X_check {l : Launch} {q : Int32 × MM} {a0 : Nat} {x1 : Int32} {μ : MM} (h : f_X_check a0 x1 μ = some q) : AMet l 8 Y_X_check [.ref a0, .int x1] μ (some (.int q.1)) q.2 := by
  refine AMet.of (loc := [some (.ref a0), some (.int x1), none]) pn_X_check (Nat.le_of_ble_eq_true rfl) rfl ?_
  unfold f_X_check at h
  obtain ⟨_, hk, h⟩ := bnd h
  refine aw_iload_n 1 d_X_check_0 rfl rfl ?_
  refine aw_if_lt 18 4 d_X_check_1 (by decide) rfl (fun c1 => ?_) (fun c1 => ?_)
  · have h := (if_pos c1).symm.trans h
    refine aw_bipush (v := (-2 : Int32)) 20 d_X_check_18 rfl (by decide) ?_
    cases h
    exact aw_ireturn d_X_check_20 rfl rfl
  · have h := (if_neg c1).symm.trans h
    refine aw_iload_n 5 d_X_check_4 rfl rfl ?_
    refine aw_aload_n 6 d_X_check_5 rfl rfl ?_
    obtain ⟨y6, h6, h⟩ := bnd h
    refine aw_getR 9 d_X_check_6 rfl fg_X_62 rfl h6 ?_
    obtain ⟨y9, h9, h⟩ := bnd h
    refine aw_getI 12 d_X_check_9 rfl fg_X_206 (Or.inl rfl) h9 ?_
    refine aw_bipush (v := (12 : Int32)) 14 d_X_check_12 rfl (by decide) ?_
    refine aw_idiv 15 d_X_check_14 rfl (by decide) ?_
    refine aw_icmp_le 21 18 d_X_check_15 (by decide) rfl (fun c15 => ?_) (fun c15 => ?_)
    · have h := (if_pos c15).symm.trans h
      refine aw_aload_n 22 d_X_check_21 rfl rfl ?_
      obtain ⟨y22, h22, h⟩ := bnd h
      refine aw_getR 25 d_X_check_22 rfl fg_X_30 rfl h22 ?_
      obtain ⟨μ25, h25, h⟩ := bnd h
      refine aw_invV (rest := []) (st' := []) (As := []) 28 d_X_check_25 rfl lv_X_232 (m_Si_asTold h25) (by decide) (k_Si_asTold h25) rfl rfl rfl (Nat.le_of_ble_eq_true rfl) rfl ?_
      refine aw_aload_n 29 d_X_check_28 rfl rfl ?_
      refine aw_iload_n 30 d_X_check_29 rfl rfl ?_
      obtain ⟨y30, h30, h⟩ := bnd h
      refine aw_invV (rest := []) (st' := [.int y30]) (As := [.int x1]) 33 d_X_check_30 rfl lv_X_318 (m_X_firstWrong h30) (by decide) (k_X_firstWrong h30) rfl rfl rfl (Nat.le_of_ble_eq_true rfl) rfl ?_
      refine aw_istore_n (loc' := [some (.ref a0), some (.int x1), some (.int y30)]) 34 d_X_check_33 rfl (by decide) rfl ?_
      refine aw_aload_n 35 d_X_check_34 rfl rfl ?_
      obtain ⟨y35, h35, h⟩ := bnd h
      refine aw_getR 38 d_X_check_35 rfl fg_X_62 rfl h35 ?_
      refine aw_iconst (v := (0 : Int32)) 39 d_X_check_38 rfl (by decide) ?_
      obtain ⟨μ39, h39, h⟩ := bnd h
      refine aw_putI 42 false d_X_check_39 rfl fp_X_206 (fun z => nomatch z) rfl h39 ?_
      refine aw_iload_n 43 d_X_check_42 rfl rfl ?_
      cases h
      exact aw_ireturn d_X_check_43 rfl rfl
    · have h := (if_neg c15).symm.trans h
      refine aw_bipush (v := (-2 : Int32)) 20 d_X_check_18 rfl (by decide) ?_
      cases h
      exact aw_ireturn d_X_check_20 rfl rfl
theorem k_X_check {q : Int32 × MM} {a0 : Nat} {x1 : Int32} {μ : MM} (h : f_X_check a0 x1 μ = some q) : μ.1[a0]? = some (0, 0) := by
  unfold f_X_check at h
  obtain ⟨_, h1, _⟩ := bnd h
  exact kO_some h1
theorem l_M_numberAt_4 {l : Launch} {μ0 : MM} {q : Int32} {a0 : Nat} {x1 : Int32} {μ : MM} : ∀ (n : Nat) (x2 : Int32) (x3 : Int32), f_M_numberAt_L4 a0 x1 μ n x2 x3 = some q → AWm l Y_M_numberAt 1 μ0 (some (.int q)) μ 4 [some (.ref a0), some (.int x1), some (.int x2), some (.int x3)] [] μ := by
  intro n
  induction n with
  | zero =>
    intro x2 x3 h
    have h : (none : Option (Int32)) = some q := h
    cases h
  | succ n ih =>
    intro x2 x3 h
    rw [f_M_numberAt_L4] at h
    refine aw_iload_n 5 d_M_numberAt_4 rfl rfl ?_
    refine aw_iconst (v := (4 : Int32)) 6 d_M_numberAt_5 rfl (by decide) ?_
    refine aw_icmp_ge 35 9 d_M_numberAt_6 (by decide) rfl (fun c6 => ?_) (fun c6 => ?_)
    · have h := (if_pos c6).symm.trans h
      refine aw_iload_n 36 d_M_numberAt_35 rfl rfl ?_
      cases h
      exact aw_ireturn d_M_numberAt_36 rfl rfl
    · have h := (if_neg c6).symm.trans h
      refine aw_iload_n 10 d_M_numberAt_9 rfl rfl ?_
      refine aw_bipush (v := (8 : Int32)) 12 d_M_numberAt_10 rfl (by decide) ?_
      refine aw_ishl 13 d_M_numberAt_12 rfl ?_
      refine aw_aload_n 14 d_M_numberAt_13 rfl rfl ?_
      obtain ⟨y14, h14, h⟩ := bnd h
      refine aw_getR 17 d_M_numberAt_14 rfl fg_M_7 rfl h14 ?_
      refine aw_iconst (v := (4 : Int32)) 18 d_M_numberAt_17 rfl (by decide) ?_
      refine aw_iload_n 19 d_M_numberAt_18 rfl rfl ?_
      refine aw_imul 20 d_M_numberAt_19 rfl ?_
      refine aw_iload_n 21 d_M_numberAt_20 rfl rfl ?_
      refine aw_iadd 22 d_M_numberAt_21 rfl ?_
      obtain ⟨y22, h22, h⟩ := bnd h
      refine aw_bald 23 d_M_numberAt_22 rfl h22 ?_
      refine aw_sipush (v := (255 : Int32)) 26 d_M_numberAt_23 rfl (by decide) ?_
      refine aw_iand 27 d_M_numberAt_26 rfl ?_
      refine aw_ior 28 d_M_numberAt_27 rfl ?_
      refine aw_istore_n (loc' := [some (.ref a0), some (.int x1), some (.int ((ishl x2 (8 : Int32)) ||| (y22 &&& (255 : Int32)))), some (.int x3)]) 29 d_M_numberAt_28 rfl (by decide) rfl ?_
      refine aw_iinc (v := (x3 + (1 : Int32))) (loc' := [some (.ref a0), some (.int x1), some (.int ((ishl x2 (8 : Int32)) ||| (y22 &&& (255 : Int32)))), some (.int (x3 + (1 : Int32)))]) 32 d_M_numberAt_29 rfl (by decide) rfl rfl rfl ?_
      refine aw_goto 4 d_M_numberAt_32 (by decide) ?_
      exact (ih ((ishl x2 (8 : Int32)) ||| (y22 &&& (255 : Int32))) (x3 + (1 : Int32)) h)
theorem m_M_numberAt {l : Launch} {q : Int32} {a0 : Nat} {x1 : Int32} {μ : MM} (h : f_M_numberAt a0 x1 μ = some q) : AMet l 1 Y_M_numberAt [.ref a0, .int x1] μ (some (.int q)) μ := by
  refine AMet.of (loc := [some (.ref a0), some (.int x1), none, none]) pn_M_numberAt (Nat.le_of_ble_eq_true rfl) rfl ?_
  unfold f_M_numberAt at h
  obtain ⟨_, hk, h⟩ := bnd h
  refine aw_iconst (v := (0 : Int32)) 1 d_M_numberAt_0 rfl (by decide) ?_
  refine aw_istore_n (loc' := [some (.ref a0), some (.int x1), some (.int (0 : Int32)), none]) 2 d_M_numberAt_1 rfl (by decide) rfl ?_
  refine aw_iconst (v := (0 : Int32)) 3 d_M_numberAt_2 rfl (by decide) ?_
  refine aw_istore_n (loc' := [some (.ref a0), some (.int x1), some (.int (0 : Int32)), some (.int (0 : Int32))]) 4 d_M_numberAt_3 rfl (by decide) rfl ?_
  exact (l_M_numberAt_4 FU _ _ h)
theorem k_M_numberAt {q : Int32} {a0 : Nat} {x1 : Int32} {μ : MM} (h : f_M_numberAt a0 x1 μ = some q) : μ.1[a0]? = some (0, 1) := by
  unfold f_M_numberAt at h
  obtain ⟨_, h1, _⟩ := bnd h
  exact kO_some h1
theorem l_M_check_42 {l : Launch} {μ0 : MM} {q : Int32 × MM} {a0 : Nat} {x1 : Int32} {x3 : Int32} {μ : MM} {k31 : Int32 → Int32 → Option (Int32 × MM)} (hk31 : ∀ (x2 : Int32) (x3 : Int32), k31 x2 x3 = some q → AWm l Y_M_check 12 μ0 (some (.int q.1)) q.2 31 [some (.ref a0), some (.int x1), some (.int x2), some (.int x3), none] [] μ) : ∀ (n : Nat) (x2 : Int32) (x4 : Int32), f_M_check_L42 k31 a0 x1 x3 μ n x2 x4 = some q → AWm l Y_M_check 12 μ0 (some (.int q.1)) q.2 42 [some (.ref a0), some (.int x1), some (.int x2), some (.int x3), some (.int x4)] [] μ := by
  intro n
  induction n with
  | zero =>
    intro x2 x4 h
    have h : (none : Option (Int32 × MM)) = some q := h
    cases h
  | succ n ih =>
    intro x2 x4 h
    rw [f_M_check_L42] at h
    refine aw_iload 44 d_M_check_42 rfl rfl ?_
    refine aw_bipush (v := (24 : Int32)) 46 d_M_check_44 rfl (by decide) ?_
    refine aw_icmp_ge 145 49 d_M_check_46 (by decide) rfl (fun c46 => ?_) (fun c46 => ?_)
    · have h := (if_pos c46).symm.trans h
      refine aw_iinc (v := (x3 + (1 : Int32))) (loc' := [some (.ref a0), some (.int x1), some (.int x2), some (.int (x3 + (1 : Int32))), some (.int x4)]) 148 d_M_check_145 rfl (by decide) rfl rfl rfl ?_
      refine aw_goto 31 d_M_check_148 (by decide) ?_
      exact AW.wk [true, true, true, true, false] rfl (hk31 x2 (x3 + (1 : Int32)) h)
    · have h := (if_neg c46).symm.trans h
      refine aw_aload_n 50 d_M_check_49 rfl rfl ?_
      refine aw_iload_n 51 d_M_check_50 rfl rfl ?_
      refine aw_iload 53 d_M_check_51 rfl rfl ?_
      obtain ⟨y53, h53, h⟩ := bnd h
      refine aw_invV (rest := []) (st' := [.int y53]) (As := [.int x3, .int x4]) 56 d_M_check_53 rfl lv_M_423 (m_M_sings h53) (by decide) (k_M_sings h53) rfl rfl rfl (Nat.le_of_ble_eq_true rfl) rfl ?_
      refine aw_if_ne 62 59 d_M_check_56 (by decide) rfl (fun c56 => ?_) (fun c56 => ?_)
      · have h := (if_neg c56).symm.trans h
        refine aw_iload_n 63 d_M_check_62 rfl rfl ?_
        refine aw_iload_n 64 d_M_check_63 rfl rfl ?_
        refine aw_icmp_ne 71 67 d_M_check_64 (by decide) rfl (fun c64 => ?_) (fun c64 => ?_)
        · have h := (if_neg c64).symm.trans h
          refine aw_aload_n 72 d_M_check_71 rfl rfl ?_
          refine aw_iconst (v := (3 : Int32)) 73 d_M_check_72 rfl (by decide) ?_
          refine aw_iload_n 74 d_M_check_73 rfl rfl ?_
          refine aw_imul 75 d_M_check_74 rfl ?_
          obtain ⟨y75, h75, h⟩ := bnd h
          refine aw_invV (rest := []) (st' := [.int y75]) (As := [.int ((3 : Int32) * x2)]) 78 d_M_check_75 rfl lv_M_580 (m_M_numberAt h75) (by decide) (k_M_numberAt h75) rfl rfl rfl (Nat.le_of_ble_eq_true rfl) rfl ?_
          refine aw_iload_n 79 d_M_check_78 rfl rfl ?_
          refine aw_icmp_eq 86 82 d_M_check_79 (by decide) rfl (fun c79 => ?_) (fun c79 => ?_)
          · have h := (if_pos c79).symm.trans h
            refine aw_aload_n 87 d_M_check_86 rfl rfl ?_
            refine aw_iconst (v := (3 : Int32)) 88 d_M_check_87 rfl (by decide) ?_
            refine aw_iload_n 89 d_M_check_88 rfl rfl ?_
            refine aw_imul 90 d_M_check_89 rfl ?_
            refine aw_iconst (v := (1 : Int32)) 91 d_M_check_90 rfl (by decide) ?_
            refine aw_iadd 92 d_M_check_91 rfl ?_
            obtain ⟨y92, h92, h⟩ := bnd h
            refine aw_invV (rest := []) (st' := [.int y92]) (As := [.int (((3 : Int32) * x2) + (1 : Int32))]) 95 d_M_check_92 rfl lv_M_580 (m_M_numberAt h92) (by decide) (k_M_numberAt h92) rfl rfl rfl (Nat.le_of_ble_eq_true rfl) rfl ?_
            refine aw_iload 97 d_M_check_95 rfl rfl ?_
            refine aw_icmp_eq 106 100 d_M_check_97 (by decide) rfl (fun c97 => ?_) (fun c97 => ?_)
            · have h := (if_pos c97).symm.trans h
              refine aw_aload_n 107 d_M_check_106 rfl rfl ?_
              refine aw_iconst (v := (3 : Int32)) 108 d_M_check_107 rfl (by decide) ?_
              refine aw_iload_n 109 d_M_check_108 rfl rfl ?_
              refine aw_imul 110 d_M_check_109 rfl ?_
              refine aw_iconst (v := (2 : Int32)) 111 d_M_check_110 rfl (by decide) ?_
              refine aw_iadd 112 d_M_check_111 rfl ?_
              obtain ⟨y112, h112, h⟩ := bnd h
              refine aw_invV (rest := []) (st' := [.int y112]) (As := [.int (((3 : Int32) * x2) + (2 : Int32))]) 115 d_M_check_112 rfl lv_M_580 (m_M_numberAt h112) (by decide) (k_M_numberAt h112) rfl rfl rfl (Nat.le_of_ble_eq_true rfl) rfl ?_
              refine aw_aload_n 116 d_M_check_115 rfl rfl ?_
              obtain ⟨y116, h116, h⟩ := bnd h
              refine aw_getR 119 d_M_check_116 rfl fg_M_116 rfl h116 ?_
              refine aw_bipush (v := (24 : Int32)) 121 d_M_check_119 rfl (by decide) ?_
              refine aw_iload_n 122 d_M_check_121 rfl rfl ?_
              refine aw_imul 123 d_M_check_122 rfl ?_
              refine aw_iload 125 d_M_check_123 rfl rfl ?_
              refine aw_iadd 126 d_M_check_125 rfl ?_
              obtain ⟨y126, h126, h⟩ := bnd h
              refine aw_iald 127 d_M_check_126 rfl h126 ?_
              refine aw_icmp_eq 136 130 d_M_check_127 (by decide) rfl (fun c127 => ?_) (fun c127 => ?_)
              · have h := (if_pos c127).symm.trans h
                refine aw_iinc (v := (x2 + (1 : Int32))) (loc' := [some (.ref a0), some (.int x1), some (.int (x2 + (1 : Int32))), some (.int x3), some (.int x4)]) 139 d_M_check_136 rfl (by decide) rfl rfl rfl ?_
                refine aw_iinc (v := (x4 + (1 : Int32))) (loc' := [some (.ref a0), some (.int x1), some (.int (x2 + (1 : Int32))), some (.int x3), some (.int (x4 + (1 : Int32)))]) 142 d_M_check_139 rfl (by decide) rfl rfl rfl ?_
                refine aw_goto 42 d_M_check_142 (by decide) ?_
                exact (ih (x2 + (1 : Int32)) (x4 + (1 : Int32)) h)
              · have h := (if_neg c127).symm.trans h
                refine aw_iconst (v := (3 : Int32)) 131 d_M_check_130 rfl (by decide) ?_
                refine aw_iload_n 132 d_M_check_131 rfl rfl ?_
                refine aw_imul 133 d_M_check_132 rfl ?_
                refine aw_iconst (v := (2 : Int32)) 134 d_M_check_133 rfl (by decide) ?_
                refine aw_iadd 135 d_M_check_134 rfl ?_
                cases h
                exact aw_ireturn d_M_check_135 rfl rfl
            · have h := (if_neg c97).symm.trans h
              refine aw_iconst (v := (3 : Int32)) 101 d_M_check_100 rfl (by decide) ?_
              refine aw_iload_n 102 d_M_check_101 rfl rfl ?_
              refine aw_imul 103 d_M_check_102 rfl ?_
              refine aw_iconst (v := (1 : Int32)) 104 d_M_check_103 rfl (by decide) ?_
              refine aw_iadd 105 d_M_check_104 rfl ?_
              cases h
              exact aw_ireturn d_M_check_105 rfl rfl
          · have h := (if_neg c79).symm.trans h
            refine aw_iconst (v := (3 : Int32)) 83 d_M_check_82 rfl (by decide) ?_
            refine aw_iload_n 84 d_M_check_83 rfl rfl ?_
            refine aw_imul 85 d_M_check_84 rfl ?_
            cases h
            exact aw_ireturn d_M_check_85 rfl rfl
        · have h := (if_pos c64).symm.trans h
          refine aw_iconst (v := (3 : Int32)) 68 d_M_check_67 rfl (by decide) ?_
          refine aw_iload_n 69 d_M_check_68 rfl rfl ?_
          refine aw_imul 70 d_M_check_69 rfl ?_
          cases h
          exact aw_ireturn d_M_check_70 rfl rfl
      · have h := (if_pos c56).symm.trans h
        refine aw_goto 139 d_M_check_59 (by decide) ?_
        refine aw_iinc (v := (x4 + (1 : Int32))) (loc' := [some (.ref a0), some (.int x1), some (.int x2), some (.int x3), some (.int (x4 + (1 : Int32)))]) 142 d_M_check_139 rfl (by decide) rfl rfl rfl ?_
        refine aw_goto 42 d_M_check_142 (by decide) ?_
        exact (ih x2 (x4 + (1 : Int32)) h)
theorem l_M_check_31 {l : Launch} {μ0 : MM} {q : Int32 × MM} {a0 : Nat} {x1 : Int32} {μ : MM} : ∀ (n : Nat) (x2 : Int32) (x3 : Int32), f_M_check_L31 a0 x1 μ n x2 x3 = some q → AWm l Y_M_check 12 μ0 (some (.int q.1)) q.2 31 [some (.ref a0), some (.int x1), some (.int x2), some (.int x3), none] [] μ := by
  intro n
  induction n with
  | zero =>
    intro x2 x3 h
    have h : (none : Option (Int32 × MM)) = some q := h
    cases h
  | succ n ih =>
    intro x2 x3 h
    rw [f_M_check_L31] at h
    refine aw_iload_n 32 d_M_check_31 rfl rfl ?_
    refine aw_aload_n 33 d_M_check_32 rfl rfl ?_
    obtain ⟨y33, h33, h⟩ := bnd h
    refine aw_getI 36 d_M_check_33 rfl fg_M_275 (Or.inl rfl) h33 ?_
    refine aw_icmp_ge 151 39 d_M_check_36 (by decide) rfl (fun c36 => ?_) (fun c36 => ?_)
    · have h := (if_pos c36).symm.trans h
      refine aw_iload_n 152 d_M_check_151 rfl rfl ?_
      refine aw_iload_n 153 d_M_check_152 rfl rfl ?_
      refine aw_icmp_ne 160 156 d_M_check_153 (by decide) rfl (fun c153 => ?_) (fun c153 => ?_)
      · have h := (if_neg c153).symm.trans h
        refine aw_iconst (v := (3 : Int32)) 161 d_M_check_160 rfl (by decide) ?_
        refine aw_iload_n 162 d_M_check_161 rfl rfl ?_
        refine aw_imul 163 d_M_check_162 rfl ?_
        cases h
        exact aw_ireturn d_M_check_163 rfl rfl
      · have h := (if_pos c153).symm.trans h
        refine aw_iconst (v := (-1 : Int32)) 157 d_M_check_156 rfl (by decide) ?_
        refine aw_goto 163 d_M_check_157 (by decide) ?_
        cases h
        exact aw_ireturn d_M_check_163 rfl rfl
    · have h := (if_neg c36).symm.trans h
      refine aw_iconst (v := (0 : Int32)) 40 d_M_check_39 rfl (by decide) ?_
      refine aw_istore (loc' := [some (.ref a0), some (.int x1), some (.int x2), some (.int x3), some (.int (0 : Int32))]) 42 d_M_check_40 rfl (by decide) rfl ?_
      exact (l_M_check_42 ih FU _ _ h)
theorem m_M_check {l : Launch} {q : Int32 × MM} {a0 : Nat} {x1 : Int32} {μ : MM} (h : f_M_check a0 x1 μ = some q) : AMet l 12 Y_M_check [.ref a0, .int x1] μ (some (.int q.1)) q.2 := by
  refine AMet.of (loc := [some (.ref a0), some (.int x1), none, none, none]) pn_M_check (Nat.le_of_ble_eq_true rfl) rfl ?_
  unfold f_M_check at h
  obtain ⟨_, hk, h⟩ := bnd h
  refine aw_iload_n 1 d_M_check_0 rfl rfl ?_
  refine aw_if_lt 15 4 d_M_check_1 (by decide) rfl (fun c1 => ?_) (fun c1 => ?_)
  · have h := (if_pos c1).symm.trans h
    refine aw_bipush (v := (-2 : Int32)) 17 d_M_check_15 rfl (by decide) ?_
    cases h
    exact aw_ireturn d_M_check_17 rfl rfl
  · have h := (if_neg c1).symm.trans h
    refine aw_iload_n 5 d_M_check_4 rfl rfl ?_
    refine aw_aload_n 6 d_M_check_5 rfl rfl ?_
    obtain ⟨y6, h6, h⟩ := bnd h
    refine aw_getI 9 d_M_check_6 rfl fg_M_305 (Or.inl rfl) h6 ?_
    refine aw_bipush (v := (12 : Int32)) 11 d_M_check_9 rfl (by decide) ?_
    refine aw_idiv 12 d_M_check_11 rfl (by decide) ?_
    refine aw_icmp_le 18 15 d_M_check_12 (by decide) rfl (fun c12 => ?_) (fun c12 => ?_)
    · have h := (if_pos c12).symm.trans h
      refine aw_aload_n 19 d_M_check_18 rfl rfl ?_
      refine aw_iconst (v := (0 : Int32)) 20 d_M_check_19 rfl (by decide) ?_
      obtain ⟨μ20, h20, h⟩ := bnd h
      refine aw_putI 23 false d_M_check_20 rfl fp_M_305 (fun z => nomatch z) rfl h20 ?_
      refine aw_aload_n 24 d_M_check_23 rfl rfl ?_
      obtain ⟨μ24, h24, h⟩ := bnd h
      refine aw_invV (rest := []) (st' := []) (As := []) 27 d_M_check_24 rfl lv_M_525 (m_M_plainly h24) (by decide) (k_M_plainly h24) rfl rfl rfl (Nat.le_of_ble_eq_true rfl) rfl ?_
      refine aw_iconst (v := (0 : Int32)) 28 d_M_check_27 rfl (by decide) ?_
      refine aw_istore_n (loc' := [some (.ref a0), some (.int x1), some (.int (0 : Int32)), none, none]) 29 d_M_check_28 rfl (by decide) rfl ?_
      refine aw_iconst (v := (0 : Int32)) 30 d_M_check_29 rfl (by decide) ?_
      refine aw_istore_n (loc' := [some (.ref a0), some (.int x1), some (.int (0 : Int32)), some (.int (0 : Int32)), none]) 31 d_M_check_30 rfl (by decide) rfl ?_
      exact (l_M_check_31 FU _ _ h)
    · have h := (if_neg c12).symm.trans h
      refine aw_bipush (v := (-2 : Int32)) 17 d_M_check_15 rfl (by decide) ?_
      cases h
      exact aw_ireturn d_M_check_17 rfl rfl
theorem k_M_check {q : Int32 × MM} {a0 : Nat} {x1 : Int32} {μ : MM} (h : f_M_check a0 x1 μ = some q) : μ.1[a0]? = some (0, 1) := by
  unfold f_M_check at h
  obtain ⟨_, h1, _⟩ := bnd h
  exact kO_some h1
theorem l_Sc_noteCount_4 {l : Launch} {μ0 : MM} {q : Int32} {a0 : Nat} {μ : MM} : ∀ (n : Nat) (x1 : Int32) (x2 : Int32), f_Sc_noteCount_L4 a0 μ n x1 x2 = some q → AWm l Y_Sc_noteCount 1 μ0 (some (.int q)) μ 4 [some (.ref a0), some (.int x1), some (.int x2)] [] μ := by
  intro n
  induction n with
  | zero =>
    intro x1 x2 h
    have h : (none : Option (Int32)) = some q := h
    cases h
  | succ n ih =>
    intro x1 x2 h
    rw [f_Sc_noteCount_L4] at h
    refine aw_iload_n 5 d_Sc_noteCount_4 rfl rfl ?_
    refine aw_sipush (v := (144 : Int32)) 8 d_Sc_noteCount_5 rfl (by decide) ?_
    refine aw_icmp_ge 35 11 d_Sc_noteCount_8 (by decide) rfl (fun c8 => ?_) (fun c8 => ?_)
    · have h := (if_pos c8).symm.trans h
      refine aw_iload_n 36 d_Sc_noteCount_35 rfl rfl ?_
      cases h
      exact aw_ireturn d_Sc_noteCount_36 rfl rfl
    · have h := (if_neg c8).symm.trans h
      refine aw_iload_n 12 d_Sc_noteCount_11 rfl rfl ?_
      refine aw_aload_n 13 d_Sc_noteCount_12 rfl rfl ?_
      obtain ⟨y13, h13, h⟩ := bnd h
      refine aw_getR 16 d_Sc_noteCount_13 rfl fg_Sc_9 rfl h13 ?_
      refine aw_iload_n 17 d_Sc_noteCount_16 rfl rfl ?_
      obtain ⟨y17, h17, h⟩ := bnd h
      refine aw_iald 18 d_Sc_noteCount_17 rfl h17 ?_
      refine aw_iconst (v := (-1 : Int32)) 19 d_Sc_noteCount_18 rfl (by decide) ?_
      refine aw_icmp_ne 26 22 d_Sc_noteCount_19 (by decide) rfl (fun c19 => ?_) (fun c19 => ?_)
      · have h := (if_neg c19).symm.trans h
        refine aw_iconst (v := (1 : Int32)) 27 d_Sc_noteCount_26 rfl (by decide) ?_
        refine aw_iadd 28 d_Sc_noteCount_27 rfl ?_
        refine aw_istore_n (loc' := [some (.ref a0), some (.int (x1 + (1 : Int32))), some (.int x2)]) 29 d_Sc_noteCount_28 rfl (by decide) rfl ?_
        refine aw_iinc (v := (x2 + (1 : Int32))) (loc' := [some (.ref a0), some (.int (x1 + (1 : Int32))), some (.int (x2 + (1 : Int32)))]) 32 d_Sc_noteCount_29 rfl (by decide) rfl rfl rfl ?_
        refine aw_goto 4 d_Sc_noteCount_32 (by decide) ?_
        exact (ih (x1 + (1 : Int32)) (x2 + (1 : Int32)) h)
      · have h := (if_pos c19).symm.trans h
        refine aw_iconst (v := (0 : Int32)) 23 d_Sc_noteCount_22 rfl (by decide) ?_
        refine aw_goto 27 d_Sc_noteCount_23 (by decide) ?_
        refine aw_iadd 28 d_Sc_noteCount_27 rfl ?_
        refine aw_istore_n (loc' := [some (.ref a0), some (.int (x1 + (0 : Int32))), some (.int x2)]) 29 d_Sc_noteCount_28 rfl (by decide) rfl ?_
        refine aw_iinc (v := (x2 + (1 : Int32))) (loc' := [some (.ref a0), some (.int (x1 + (0 : Int32))), some (.int (x2 + (1 : Int32)))]) 32 d_Sc_noteCount_29 rfl (by decide) rfl rfl rfl ?_
        refine aw_goto 4 d_Sc_noteCount_32 (by decide) ?_
        exact (ih (x1 + (0 : Int32)) (x2 + (1 : Int32)) h)
theorem m_Sc_noteCount {l : Launch} {q : Int32} {a0 : Nat} {μ : MM} (h : f_Sc_noteCount a0 μ = some q) : AMet l 1 Y_Sc_noteCount [.ref a0] μ (some (.int q)) μ := by
  refine AMet.of (loc := [some (.ref a0), none, none]) pn_Sc_noteCount (Nat.le_of_ble_eq_true rfl) rfl ?_
  unfold f_Sc_noteCount at h
  obtain ⟨_, hk, h⟩ := bnd h
  refine aw_iconst (v := (0 : Int32)) 1 d_Sc_noteCount_0 rfl (by decide) ?_
  refine aw_istore_n (loc' := [some (.ref a0), some (.int (0 : Int32)), none]) 2 d_Sc_noteCount_1 rfl (by decide) rfl ?_
  refine aw_iconst (v := (0 : Int32)) 3 d_Sc_noteCount_2 rfl (by decide) ?_
  refine aw_istore_n (loc' := [some (.ref a0), some (.int (0 : Int32)), some (.int (0 : Int32))]) 4 d_Sc_noteCount_3 rfl (by decide) rfl ?_
  exact (l_Sc_noteCount_4 FU _ _ h)
theorem k_Sc_noteCount {q : Int32} {a0 : Nat} {μ : MM} (h : f_Sc_noteCount a0 μ = some q) : μ.1[a0]? = some (0, 8) := by
  unfold f_Sc_noteCount at h
  obtain ⟨_, h1, _⟩ := bnd h
  exact kO_some h1
theorem l_Sc_linkCount_4 {l : Launch} {μ0 : MM} {q : Int32} {a0 : Nat} {μ : MM} : ∀ (n : Nat) (x1 : Int32) (x2 : Int32), f_Sc_linkCount_L4 a0 μ n x1 x2 = some q → AWm l Y_Sc_linkCount 1 μ0 (some (.int q)) μ 4 [some (.ref a0), some (.int x1), some (.int x2)] [] μ := by
  intro n
  induction n with
  | zero =>
    intro x1 x2 h
    have h : (none : Option (Int32)) = some q := h
    cases h
  | succ n ih =>
    intro x1 x2 h
    rw [f_Sc_linkCount_L4] at h
    refine aw_iload_n 5 d_Sc_linkCount_4 rfl rfl ?_
    refine aw_bipush (v := (24 : Int32)) 7 d_Sc_linkCount_5 rfl (by decide) ?_
    refine aw_icmp_ge 34 10 d_Sc_linkCount_7 (by decide) rfl (fun c7 => ?_) (fun c7 => ?_)
    · have h := (if_pos c7).symm.trans h
      refine aw_iload_n 35 d_Sc_linkCount_34 rfl rfl ?_
      cases h
      exact aw_ireturn d_Sc_linkCount_35 rfl rfl
    · have h := (if_neg c7).symm.trans h
      refine aw_iload_n 11 d_Sc_linkCount_10 rfl rfl ?_
      refine aw_aload_n 12 d_Sc_linkCount_11 rfl rfl ?_
      obtain ⟨y12, h12, h⟩ := bnd h
      refine aw_getR 15 d_Sc_linkCount_12 rfl fg_Sc_24 rfl h12 ?_
      refine aw_iload_n 16 d_Sc_linkCount_15 rfl rfl ?_
      obtain ⟨y16, h16, h⟩ := bnd h
      refine aw_iald 17 d_Sc_linkCount_16 rfl h16 ?_
      refine aw_iconst (v := (-1 : Int32)) 18 d_Sc_linkCount_17 rfl (by decide) ?_
      refine aw_icmp_ne 25 21 d_Sc_linkCount_18 (by decide) rfl (fun c18 => ?_) (fun c18 => ?_)
      · have h := (if_neg c18).symm.trans h
        refine aw_iconst (v := (1 : Int32)) 26 d_Sc_linkCount_25 rfl (by decide) ?_
        refine aw_iadd 27 d_Sc_linkCount_26 rfl ?_
        refine aw_istore_n (loc' := [some (.ref a0), some (.int (x1 + (1 : Int32))), some (.int x2)]) 28 d_Sc_linkCount_27 rfl (by decide) rfl ?_
        refine aw_iinc (v := (x2 + (1 : Int32))) (loc' := [some (.ref a0), some (.int (x1 + (1 : Int32))), some (.int (x2 + (1 : Int32)))]) 31 d_Sc_linkCount_28 rfl (by decide) rfl rfl rfl ?_
        refine aw_goto 4 d_Sc_linkCount_31 (by decide) ?_
        exact (ih (x1 + (1 : Int32)) (x2 + (1 : Int32)) h)
      · have h := (if_pos c18).symm.trans h
        refine aw_iconst (v := (0 : Int32)) 22 d_Sc_linkCount_21 rfl (by decide) ?_
        refine aw_goto 26 d_Sc_linkCount_22 (by decide) ?_
        refine aw_iadd 27 d_Sc_linkCount_26 rfl ?_
        refine aw_istore_n (loc' := [some (.ref a0), some (.int (x1 + (0 : Int32))), some (.int x2)]) 28 d_Sc_linkCount_27 rfl (by decide) rfl ?_
        refine aw_iinc (v := (x2 + (1 : Int32))) (loc' := [some (.ref a0), some (.int (x1 + (0 : Int32))), some (.int (x2 + (1 : Int32)))]) 31 d_Sc_linkCount_28 rfl (by decide) rfl rfl rfl ?_
        refine aw_goto 4 d_Sc_linkCount_31 (by decide) ?_
        exact (ih (x1 + (0 : Int32)) (x2 + (1 : Int32)) h)
theorem m_Sc_linkCount {l : Launch} {q : Int32} {a0 : Nat} {μ : MM} (h : f_Sc_linkCount a0 μ = some q) : AMet l 1 Y_Sc_linkCount [.ref a0] μ (some (.int q)) μ := by
  refine AMet.of (loc := [some (.ref a0), none, none]) pn_Sc_linkCount (Nat.le_of_ble_eq_true rfl) rfl ?_
  unfold f_Sc_linkCount at h
  obtain ⟨_, hk, h⟩ := bnd h
  refine aw_iconst (v := (0 : Int32)) 1 d_Sc_linkCount_0 rfl (by decide) ?_
  refine aw_istore_n (loc' := [some (.ref a0), some (.int (0 : Int32)), none]) 2 d_Sc_linkCount_1 rfl (by decide) rfl ?_
  refine aw_iconst (v := (0 : Int32)) 3 d_Sc_linkCount_2 rfl (by decide) ?_
  refine aw_istore_n (loc' := [some (.ref a0), some (.int (0 : Int32)), some (.int (0 : Int32))]) 4 d_Sc_linkCount_3 rfl (by decide) rfl ?_
  exact (l_Sc_linkCount_4 FU _ _ h)
theorem k_Sc_linkCount {q : Int32} {a0 : Nat} {μ : MM} (h : f_Sc_linkCount a0 μ = some q) : μ.1[a0]? = some (0, 8) := by
  unfold f_Sc_linkCount at h
  obtain ⟨_, h1, _⟩ := bnd h
  exact kO_some h1
