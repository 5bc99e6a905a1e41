/-! PRINTED by wip/gen/gen1.py: the bytecode does what the functions say -/
theorem j_M_clause_144 {l : Launch} {μ0 : MM} {q : MM} {a0 : Nat} {μ : MM} (h : f_M_clause_J144 a0 μ = some q) : AWm l Y_M_clause 8 μ0 none q 144 [some (.ref a0), none] [] μ := by
  unfold f_M_clause_J144 at h
  refine aw_aload_n 145 d_M_clause_144 rfl rfl ?_
  obtain ⟨y145, h145, h⟩ := bnd h
  refine aw_getR 148 d_M_clause_145 rfl fg_M_98 rfl h145 ?_
  refine aw_aload_n 149 d_M_clause_148 rfl rfl ?_
  obtain ⟨y149, h149, h⟩ := bnd h
  refine aw_getI 152 d_M_clause_149 rfl fg_M_405 (Or.inl rfl) h149 ?_
  refine aw_aload_n 153 d_M_clause_152 rfl rfl ?_
  obtain ⟨y153, h153, h⟩ := bnd h
  refine aw_getI 156 d_M_clause_153 rfl fg_M_324 (Or.inl rfl) h153 ?_
  obtain ⟨μ156, h156, h⟩ := bnd h
  refine aw_iast 157 d_M_clause_156 rfl h156 ?_
  refine aw_aload_n 158 d_M_clause_157 rfl rfl ?_
  refine aw_dup 159 d_M_clause_158 rfl rfl ?_
  obtain ⟨y159, h159, h⟩ := bnd h
  refine aw_getI 162 d_M_clause_159 rfl fg_M_405 (Or.inl rfl) h159 ?_
  refine aw_iconst (v := (1 : Int32)) 163 d_M_clause_162 rfl (by decide) ?_
  refine aw_iadd 164 d_M_clause_163 rfl ?_
  obtain ⟨μ164, h164, h⟩ := bnd h
  refine aw_putI 167 false d_M_clause_164 rfl fp_M_405 (fun z => nomatch z) rfl h164 ?_
  cases h
  exact aw_return d_M_clause_167 rfl
theorem j_M_clause_65 {l : Launch} {μ0 : MM} {q : MM} {a0 : Nat} {x1 : Int32} {μ : MM} (h : f_M_clause_J65 a0 x1 μ = some q) : AWm l Y_M_clause 8 μ0 none q 65 [some (.ref a0), some (.int x1)] [] μ := by
  unfold f_M_clause_J65 at h
  refine aw_aload_n 66 d_M_clause_65 rfl rfl ?_
  obtain ⟨y66, h66, h⟩ := bnd h
  refine aw_invV (rest := []) (st' := [.int y66]) (As := []) 69 d_M_clause_66 rfl lv_M_320 (m_M_isGood h66) (by decide) (k_M_isGood h66) rfl rfl rfl (Nat.le_of_ble_eq_true rfl) rfl ?_
  refine aw_if_ne 73 72 d_M_clause_69 (by decide) rfl (fun c69 => ?_) (fun c69 => ?_)
  · have h := (if_neg c69).symm.trans h
    refine aw_aload_n 74 d_M_clause_73 rfl rfl ?_
    obtain ⟨y74, h74, h⟩ := bnd h
    refine aw_getR 77 d_M_clause_74 rfl fg_M_89 rfl h74 ?_
    refine aw_aload_n 78 d_M_clause_77 rfl rfl ?_
    obtain ⟨y78, h78, h⟩ := bnd h
    refine aw_getI 81 d_M_clause_78 rfl fg_M_405 (Or.inl rfl) h78 ?_
    refine aw_iload_n 82 d_M_clause_81 rfl rfl ?_
    obtain ⟨μ82, h82, h⟩ := bnd h
    refine aw_iast 83 d_M_clause_82 rfl h82 ?_
    refine aw_aload_n 84 d_M_clause_83 rfl rfl ?_
    obtain ⟨y84, h84, h⟩ := bnd h
    refine aw_getR 87 d_M_clause_84 rfl fg_M_92 rfl h84 ?_
    refine aw_aload_n 88 d_M_clause_87 rfl rfl ?_
    obtain ⟨y88, h88, h⟩ := bnd h
    refine aw_getI 91 d_M_clause_88 rfl fg_M_405 (Or.inl rfl) h88 ?_
    refine aw_aload_n 92 d_M_clause_91 rfl rfl ?_
    obtain ⟨y92, h92, h⟩ := bnd h
    refine aw_getI 95 d_M_clause_92 rfl fg_M_324 (Or.inl rfl) h92 ?_
    obtain ⟨μ95, h95, h⟩ := bnd h
    refine aw_iast 96 d_M_clause_95 rfl h95 ?_
    refine aw_aload_n 97 d_M_clause_96 rfl rfl ?_
    refine aw_dup 98 d_M_clause_97 rfl rfl ?_
    obtain ⟨y98, h98, h⟩ := bnd h
    refine aw_getI 101 d_M_clause_98 rfl fg_M_311 (Or.inl rfl) h98 ?_
    refine aw_iconst (v := (1 : Int32)) 102 d_M_clause_101 rfl (by decide) ?_
    refine aw_iadd 103 d_M_clause_102 rfl ?_
    obtain ⟨μ103, h103, h⟩ := bnd h
    refine aw_putI 106 false d_M_clause_103 rfl fp_M_311 (fun z => nomatch z) rfl h103 ?_
    refine aw_aload_n 107 d_M_clause_106 rfl rfl ?_
    refine aw_iconst (v := (0 : Int32)) 108 d_M_clause_107 rfl (by decide) ?_
    obtain ⟨μ108, h108, h⟩ := bnd h
    refine aw_putI 111 false d_M_clause_108 rfl fp_M_327 (fun z => nomatch z) rfl h108 ?_
    refine aw_aload_n 112 d_M_clause_111 rfl rfl ?_
    refine aw_iconst (v := (0 : Int32)) 113 d_M_clause_112 rfl (by decide) ?_
    obtain ⟨μ113, h113, h⟩ := bnd h
    refine aw_putI 116 false d_M_clause_113 rfl fp_M_330 (fun z => nomatch z) rfl h113 ?_
    refine aw_aload_n 117 d_M_clause_116 rfl rfl ?_
    obtain ⟨μ117, h117, h⟩ := bnd h
    refine aw_invV (rest := []) (st' := []) (As := []) 120 d_M_clause_117 rfl lv_M_384 (m_M_value h117) (by decide) (k_M_value h117) rfl rfl rfl (Nat.le_of_ble_eq_true rfl) rfl ?_
    refine aw_aload_n 121 d_M_clause_120 rfl rfl ?_
    obtain ⟨y121, h121, h⟩ := bnd h
    refine aw_getR 124 d_M_clause_121 rfl fg_M_95 rfl h121 ?_
    refine aw_aload_n 125 d_M_clause_124 rfl rfl ?_
    obtain ⟨y125, h125, h⟩ := bnd h
    refine aw_getI 128 d_M_clause_125 rfl fg_M_405 (Or.inl rfl) h125 ?_
    refine aw_aload_n 129 d_M_clause_128 rfl rfl ?_
    obtain ⟨y129, h129, h⟩ := bnd h
    refine aw_getI 132 d_M_clause_129 rfl fg_M_324 (Or.inl rfl) h129 ?_
    obtain ⟨μ132, h132, h⟩ := bnd h
    refine aw_iast 133 d_M_clause_132 rfl h132 ?_
    refine aw_aload_n 134 d_M_clause_133 rfl rfl ?_
    obtain ⟨y134, h134, h⟩ := bnd h
    refine aw_invV (rest := []) (st' := [.int y134]) (As := []) 137 d_M_clause_134 rfl lv_M_320 (m_M_isGood h134) (by decide) (k_M_isGood h134) rfl rfl rfl (Nat.le_of_ble_eq_true rfl) rfl ?_
    refine aw_if_eq 144 140 d_M_clause_137 (by decide) rfl (fun c137 => ?_) (fun c137 => ?_)
    · have h := (if_pos c137).symm.trans h
      exact AW.wk [true, false] rfl (j_M_clause_144 h)
    · have h := (if_neg c137).symm.trans h
      refine aw_aload_n 141 d_M_clause_140 rfl rfl ?_
      obtain ⟨μ141, h141, h⟩ := bnd h
      refine aw_invV (rest := []) (st' := []) (As := []) 144 d_M_clause_141 rfl lv_M_408 (m_M_condition h141) (by decide) (k_M_condition h141) rfl rfl rfl (Nat.le_of_ble_eq_true rfl) rfl ?_
      exact AW.wk [true, false] rfl (j_M_clause_144 h)
  · have h := (if_pos c69).symm.trans h
    cases h
    exact aw_return d_M_clause_72 rfl
theorem j_M_clause_47 {l : Launch} {μ0 : MM} {q : MM} {a0 : Nat} {x1 : Int32} {μ : MM} (h : f_M_clause_J47 a0 x1 μ = some q) : AWm l Y_M_clause 8 μ0 none q 47 [some (.ref a0), some (.int x1)] [] μ := by
  unfold f_M_clause_J47 at h
  refine aw_aload_n 48 d_M_clause_47 rfl rfl ?_
  obtain ⟨y48, h48, h⟩ := bnd h
  refine aw_getI 51 d_M_clause_48 rfl fg_M_405 (Or.inl rfl) h48 ?_
  refine aw_bipush (v := (14 : Int32)) 53 d_M_clause_51 rfl (by decide) ?_
  refine aw_icmp_ne 65 56 d_M_clause_53 (by decide) rfl (fun c53 => ?_) (fun c53 => ?_)
  · have h := (if_neg c53).symm.trans h
    exact (j_M_clause_65 h)
  · have h := (if_pos c53).symm.trans h
    refine aw_aload_n 57 d_M_clause_56 rfl rfl ?_
    refine aw_iconst (v := (4 : Int32)) 58 d_M_clause_57 rfl (by decide) ?_
    refine aw_aload_n 59 d_M_clause_58 rfl rfl ?_
    obtain ⟨y59, h59, h⟩ := bnd h
    refine aw_getI 62 d_M_clause_59 rfl fg_M_311 (Or.inl rfl) h59 ?_
    obtain ⟨μ62, h62, h⟩ := bnd h
    refine aw_invV (rest := []) (st' := []) (As := [.int (4 : Int32), .int y59]) 65 d_M_clause_62 rfl lv_M_333 (m_M_wrongs h62) (by decide) (k_M_wrongs h62) rfl rfl rfl (Nat.le_of_ble_eq_true rfl) rfl ?_
    exact (j_M_clause_65 h)
theorem m_M_clause {l : Launch} {q : MM} {a0 : Nat} {μ : MM} (h : f_M_clause a0 μ = some q) : AMet l 8 Y_M_clause [.ref a0] μ none q := by
  refine AMet.of (loc := [some (.ref a0), none]) pn_M_clause (Nat.le_of_ble_eq_true rfl) rfl ?_
  unfold f_M_clause at h
  obtain ⟨_, hk, h⟩ := bnd h
  refine aw_aload_n 1 d_M_clause_0 rfl rfl ?_
  obtain ⟨y1, h1, h⟩ := bnd h
  refine aw_invV (rest := []) (st' := [.int y1]) (As := []) 4 d_M_clause_1 rfl lv_M_336 (m_M_here h1) (by decide) (k_M_here h1) rfl rfl rfl (Nat.le_of_ble_eq_true rfl) rfl ?_
  refine aw_istore_n (loc' := [some (.ref a0), some (.int y1)]) 5 d_M_clause_4 rfl (by decide) rfl ?_
  refine aw_iload_n 6 d_M_clause_5 rfl rfl ?_
  refine aw_bipush (v := (112 : Int32)) 8 d_M_clause_6 rfl (by decide) ?_
  refine aw_icmp_eq 47 11 d_M_clause_8 (by decide) rfl (fun c8 => ?_) (fun c8 => ?_)
  · have h := (if_pos c8).symm.trans h
    exact (j_M_clause_47 h)
  · have h := (if_neg c8).symm.trans h
    refine aw_iload_n 12 d_M_clause_11 rfl rfl ?_
    refine aw_bipush (v := (115 : Int32)) 14 d_M_clause_12 rfl (by decide) ?_
    refine aw_icmp_eq 47 17 d_M_clause_14 (by decide) rfl (fun c14 => ?_) (fun c14 => ?_)
    · have h := (if_pos c14).symm.trans h
      exact (j_M_clause_47 h)
    · have h := (if_neg c14).symm.trans h
      refine aw_iload_n 18 d_M_clause_17 rfl rfl ?_
      refine aw_bipush (v := (116 : Int32)) 20 d_M_clause_18 rfl (by decide) ?_
      refine aw_icmp_eq 47 23 d_M_clause_20 (by decide) rfl (fun c20 => ?_) (fun c20 => ?_)
      · have h := (if_pos c20).symm.trans h
        exact (j_M_clause_47 h)
      · have h := (if_neg c20).symm.trans h
        refine aw_iload_n 24 d_M_clause_23 rfl rfl ?_
        refine aw_bipush (v := (107 : Int32)) 26 d_M_clause_24 rfl (by decide) ?_
        refine aw_icmp_eq 47 29 d_M_clause_26 (by decide) rfl (fun c26 => ?_) (fun c26 => ?_)
        · have h := (if_pos c26).symm.trans h
          exact (j_M_clause_47 h)
        · have h := (if_neg c26).symm.trans h
          refine aw_iload_n 30 d_M_clause_29 rfl rfl ?_
          refine aw_bipush (v := (100 : Int32)) 32 d_M_clause_30 rfl (by decide) ?_
          refine aw_icmp_eq 47 35 d_M_clause_32 (by decide) rfl (fun c32 => ?_) (fun c32 => ?_)
          · have h := (if_pos c32).symm.trans h
            exact (j_M_clause_47 h)
          · have h := (if_neg c32).symm.trans h
            refine aw_aload_n 36 d_M_clause_35 rfl rfl ?_
            refine aw_iconst (v := (1 : Int32)) 37 d_M_clause_36 rfl (by decide) ?_
            refine aw_aload_n 38 d_M_clause_37 rfl rfl ?_
            obtain ⟨y38, h38, h⟩ := bnd h
            refine aw_getI 41 d_M_clause_38 rfl fg_M_311 (Or.inl rfl) h38 ?_
            obtain ⟨μ41, h41, h⟩ := bnd h
            refine aw_invV (rest := []) (st' := []) (As := [.int (1 : Int32), .int y38]) 44 d_M_clause_41 rfl lv_M_333 (m_M_wrongs h41) (by decide) (k_M_wrongs h41) rfl rfl rfl (Nat.le_of_ble_eq_true rfl) rfl ?_
            refine aw_goto 65 d_M_clause_44 (by decide) ?_
            exact (j_M_clause_65 h)
theorem k_M_clause {q : MM} {a0 : Nat} {μ : MM} (h : f_M_clause a0 μ = some q) : μ.1[a0]? = some (0, 1) := by
  unfold f_M_clause at h
  obtain ⟨_, h1, _⟩ := bnd h
  exact kO_some h1
theorem l_M_text_206 {l : Launch} {μ0 : MM} {q : Int32 × MM} {a0 : Nat} : ∀ (n : Nat) (x3 : Int32) (μ : MM), f_M_text_L206 a0 n x3 μ = some q → AWm l Y_M_text 9 μ0 (some (.int q.1)) q.2 206 [some (.ref a0), none, none, some (.int x3)] [] μ := by
  intro n
  induction n with
  | zero =>
    intro x3 μ h
    have h : (none : Option (Int32 × MM)) = some q := h
    cases h
  | succ n ih =>
    intro x3 μ h
    rw [f_M_text_L206] at h
    refine aw_iload_n 207 d_M_text_206 rfl rfl ?_
    refine aw_aload_n 208 d_M_text_207 rfl rfl ?_
    obtain ⟨y208, h208, h⟩ := bnd h
    refine aw_getI 211 d_M_text_208 rfl fg_M_324 (Or.inl rfl) h208 ?_
    refine aw_icmp_ge 244 214 d_M_text_211 (by decide) rfl (fun c211 => ?_) (fun c211 => ?_)
    · have h := (if_pos c211).symm.trans h
      refine aw_aload_n 245 d_M_text_244 rfl rfl ?_
      refine aw_aload_n 246 d_M_text_245 rfl rfl ?_
      obtain ⟨y246, h246, h⟩ := bnd h
      refine aw_getI 249 d_M_text_246 rfl fg_M_405 (Or.inl rfl) h246 ?_
      obtain ⟨μ249, h249, h⟩ := bnd h
      refine aw_putI 252 false d_M_text_249 rfl fp_M_416 (fun z => nomatch z) rfl h249 ?_
      refine aw_aload_n 253 d_M_text_252 rfl rfl ?_
      obtain ⟨y253, h253, h⟩ := bnd h
      refine aw_getI 256 d_M_text_253 rfl fg_M_416 (Or.inl rfl) h253 ?_
      cases h
      exact aw_ireturn d_M_text_256 rfl rfl
    · have h := (if_neg c211).symm.trans h
      refine aw_aload_n 215 d_M_text_214 rfl rfl ?_
      obtain ⟨y215, h215, h⟩ := bnd h
      refine aw_getR 218 d_M_text_215 rfl fg_M_83 rfl h215 ?_
      refine aw_iload_n 219 d_M_text_218 rfl rfl ?_
      refine aw_aload_n 220 d_M_text_219 rfl rfl ?_
      obtain ⟨y220, h220, h⟩ := bnd h
      refine aw_getR 223 d_M_text_220 rfl fg_M_101 rfl h220 ?_
      refine aw_iload_n 224 d_M_text_223 rfl rfl ?_
      obtain ⟨y224, h224, h⟩ := bnd h
      refine aw_iald 225 d_M_text_224 rfl h224 ?_
      obtain ⟨μ225, h225, h⟩ := bnd h
      refine aw_iast 226 d_M_text_225 rfl h225 ?_
      refine aw_aload_n 227 d_M_text_226 rfl rfl ?_
      obtain ⟨y227, h227, h⟩ := bnd h
      refine aw_getR 230 d_M_text_227 rfl fg_M_86 rfl h227 ?_
      refine aw_iload_n 231 d_M_text_230 rfl rfl ?_
      refine aw_aload_n 232 d_M_text_231 rfl rfl ?_
      obtain ⟨y232, h232, h⟩ := bnd h
      refine aw_getR 235 d_M_text_232 rfl fg_M_104 rfl h232 ?_
      refine aw_iload_n 236 d_M_text_235 rfl rfl ?_
      obtain ⟨y236, h236, h⟩ := bnd h
      refine aw_iald 237 d_M_text_236 rfl h236 ?_
      obtain ⟨μ237, h237, h⟩ := bnd h
      refine aw_iast 238 d_M_text_237 rfl h237 ?_
      refine aw_iinc (v := (x3 + (1 : Int32))) (loc' := [some (.ref a0), none, none, some (.int (x3 + (1 : Int32)))]) 241 d_M_text_238 rfl (by decide) rfl rfl rfl ?_
      refine aw_goto 206 d_M_text_241 (by decide) ?_
      exact (ih (x3 + (1 : Int32)) μ237 h)
theorem l_M_text_142 {l : Launch} {μ0 : MM} {q : Int32 × MM} {a0 : Nat} : ∀ (n : Nat) (x3 : Int32) (μ : MM), f_M_text_L142 a0 n x3 μ = some q → AWm l Y_M_text 9 μ0 (some (.int q.1)) q.2 142 [some (.ref a0), none, none, some (.int x3)] [] μ := by
  intro n
  induction n with
  | zero =>
    intro x3 μ h
    have h : (none : Option (Int32 × MM)) = some q := h
    cases h
  | succ n ih =>
    intro x3 μ h
    rw [f_M_text_L142] at h
    refine aw_iload_n 143 d_M_text_142 rfl rfl ?_
    refine aw_aload_n 144 d_M_text_143 rfl rfl ?_
    obtain ⟨y144, h144, h⟩ := bnd h
    refine aw_getI 147 d_M_text_144 rfl fg_M_405 (Or.inl rfl) h144 ?_
    refine aw_icmp_ge 204 150 d_M_text_147 (by decide) rfl (fun c147 => ?_) (fun c147 => ?_)
    · have h := (if_pos c147).symm.trans h
      refine aw_iconst (v := (0 : Int32)) 205 d_M_text_204 rfl (by decide) ?_
      refine aw_istore_n (loc' := [some (.ref a0), none, none, some (.int (0 : Int32))]) 206 d_M_text_205 rfl (by decide) rfl ?_
      exact (l_M_text_206 FU _ _ h)
    · have h := (if_neg c147).symm.trans h
      refine aw_aload_n 151 d_M_text_150 rfl rfl ?_
      obtain ⟨y151, h151, h⟩ := bnd h
      refine aw_getR 154 d_M_text_151 rfl fg_M_71 rfl h151 ?_
      refine aw_iload_n 155 d_M_text_154 rfl rfl ?_
      refine aw_aload_n 156 d_M_text_155 rfl rfl ?_
      obtain ⟨y156, h156, h⟩ := bnd h
      refine aw_getR 159 d_M_text_156 rfl fg_M_89 rfl h156 ?_
      refine aw_iload_n 160 d_M_text_159 rfl rfl ?_
      obtain ⟨y160, h160, h⟩ := bnd h
      refine aw_iald 161 d_M_text_160 rfl h160 ?_
      obtain ⟨μ161, h161, h⟩ := bnd h
      refine aw_iast 162 d_M_text_161 rfl h161 ?_
      refine aw_aload_n 163 d_M_text_162 rfl rfl ?_
      obtain ⟨y163, h163, h⟩ := bnd h
      refine aw_getR 166 d_M_text_163 rfl fg_M_74 rfl h163 ?_
      refine aw_iload_n 167 d_M_text_166 rfl rfl ?_
      refine aw_aload_n 168 d_M_text_167 rfl rfl ?_
      obtain ⟨y168, h168, h⟩ := bnd h
      refine aw_getR 171 d_M_text_168 rfl fg_M_92 rfl h168 ?_
      refine aw_iload_n 172 d_M_text_171 rfl rfl ?_
      obtain ⟨y172, h172, h⟩ := bnd h
      refine aw_iald 173 d_M_text_172 rfl h172 ?_
      obtain ⟨μ173, h173, h⟩ := bnd h
      refine aw_iast 174 d_M_text_173 rfl h173 ?_
      refine aw_aload_n 175 d_M_text_174 rfl rfl ?_
      obtain ⟨y175, h175, h⟩ := bnd h
      refine aw_getR 178 d_M_text_175 rfl fg_M_77 rfl h175 ?_
      refine aw_iload_n 179 d_M_text_178 rfl rfl ?_
      refine aw_aload_n 180 d_M_text_179 rfl rfl ?_
      obtain ⟨y180, h180, h⟩ := bnd h
      refine aw_getR 183 d_M_text_180 rfl fg_M_95 rfl h180 ?_
      refine aw_iload_n 184 d_M_text_183 rfl rfl ?_
      obtain ⟨y184, h184, h⟩ := bnd h
      refine aw_iald 185 d_M_text_184 rfl h184 ?_
      obtain ⟨μ185, h185, h⟩ := bnd h
      refine aw_iast 186 d_M_text_185 rfl h185 ?_
      refine aw_aload_n 187 d_M_text_186 rfl rfl ?_
      obtain ⟨y187, h187, h⟩ := bnd h
      refine aw_getR 190 d_M_text_187 rfl fg_M_80 rfl h187 ?_
      refine aw_iload_n 191 d_M_text_190 rfl rfl ?_
      refine aw_aload_n 192 d_M_text_191 rfl rfl ?_
      obtain ⟨y192, h192, h⟩ := bnd h
      refine aw_getR 195 d_M_text_192 rfl fg_M_98 rfl h192 ?_
      refine aw_iload_n 196 d_M_text_195 rfl rfl ?_
      obtain ⟨y196, h196, h⟩ := bnd h
      refine aw_iald 197 d_M_text_196 rfl h196 ?_
      obtain ⟨μ197, h197, h⟩ := bnd h
      refine aw_iast 198 d_M_text_197 rfl h197 ?_
      refine aw_iinc (v := (x3 + (1 : Int32))) (loc' := [some (.ref a0), none, none, some (.int (x3 + (1 : Int32)))]) 201 d_M_text_198 rfl (by decide) rfl rfl rfl ?_
      refine aw_goto 142 d_M_text_201 (by decide) ?_
      exact (ih (x3 + (1 : Int32)) μ197 h)
theorem j_M_text_128 {l : Launch} {μ0 : MM} {q : Int32 × MM} {a0 : Nat} {μ : MM} (h : f_M_text_J128 a0 μ = some q) : AWm l Y_M_text 9 μ0 (some (.int q.1)) q.2 128 [some (.ref a0), none, none, none] [] μ := by
  unfold f_M_text_J128 at h
  refine aw_aload_n 129 d_M_text_128 rfl rfl ?_
  obtain ⟨y129, h129, h⟩ := bnd h
  refine aw_getI 132 d_M_text_129 rfl fg_M_317 (Or.inl rfl) h129 ?_
  refine aw_if_ge 140 135 d_M_text_132 (by decide) rfl (fun c132 => ?_) (fun c132 => ?_)
  · have h := (if_pos c132).symm.trans h
    refine aw_iconst (v := (0 : Int32)) 141 d_M_text_140 rfl (by decide) ?_
    refine aw_istore_n (loc' := [some (.ref a0), none, none, some (.int (0 : Int32))]) 142 d_M_text_141 rfl (by decide) rfl ?_
    exact (l_M_text_142 FU _ _ h)
  · have h := (if_neg c132).symm.trans h
    refine aw_aload_n 136 d_M_text_135 rfl rfl ?_
    obtain ⟨y136, h136, h⟩ := bnd h
    refine aw_getI 139 d_M_text_136 rfl fg_M_317 (Or.inl rfl) h136 ?_
    cases h
    exact aw_ireturn d_M_text_139 rfl rfl
theorem j_M_text_115 {l : Launch} {μ0 : MM} {q : Int32 × MM} {a0 : Nat} {x2 : Int32} {μ : MM} {k54 : Int32 → MM → Option (Int32 × MM)} (hk54 : ∀ (x2 : Int32) (μ : MM), k54 x2 μ = some q → AWm l Y_M_text 9 μ0 (some (.int q.1)) q.2 54 [some (.ref a0), none, some (.int x2), none] [] μ) (h : f_M_text_J115 k54 a0 x2 μ = some q) : AWm l Y_M_text 9 μ0 (some (.int q.1)) q.2 115 [some (.ref a0), none, some (.int x2), none] [] μ := by
  unfold f_M_text_J115 at h
  refine aw_aload_n 116 d_M_text_115 rfl rfl ?_
  refine aw_dup 117 d_M_text_116 rfl rfl ?_
  obtain ⟨y117, h117, h⟩ := bnd h
  refine aw_getI 120 d_M_text_117 rfl fg_M_311 (Or.inl rfl) h117 ?_
  refine aw_iconst (v := (1 : Int32)) 121 d_M_text_120 rfl (by decide) ?_
  refine aw_iadd 122 d_M_text_121 rfl ?_
  obtain ⟨μ122, h122, h⟩ := bnd h
  refine aw_putI 125 false d_M_text_122 rfl fp_M_311 (fun z => nomatch z) rfl h122 ?_
  refine aw_goto 54 d_M_text_125 (by decide) ?_
  exact (hk54 x2 μ122 h)
theorem j_M_text_92 {l : Launch} {μ0 : MM} {q : Int32 × MM} {a0 : Nat} {s0 : Int32} {μ : MM} {k54 : Int32 → MM → Option (Int32 × MM)} (hk54 : ∀ (x2 : Int32) (μ : MM), k54 x2 μ = some q → AWm l Y_M_text 9 μ0 (some (.int q.1)) q.2 54 [some (.ref a0), none, some (.int x2), none] [] μ) (h : f_M_text_J92 k54 a0 s0 μ = some q) : AWm l Y_M_text 9 μ0 (some (.int q.1)) q.2 92 [some (.ref a0), none, none, none] [.int s0] μ := by
  unfold f_M_text_J92 at h
  refine aw_istore_n (loc' := [some (.ref a0), none, some (.int s0), none]) 93 d_M_text_92 rfl (by decide) rfl ?_
  refine aw_iload_n 94 d_M_text_93 rfl rfl ?_
  refine aw_if_eq 54 97 d_M_text_94 (by decide) rfl (fun c94 => ?_) (fun c94 => ?_)
  · have h := (if_pos c94).symm.trans h
    exact (hk54 s0 μ h)
  · have h := (if_neg c94).symm.trans h
    refine aw_aload_n 98 d_M_text_97 rfl rfl ?_
    obtain ⟨y98, h98, h⟩ := bnd h
    refine aw_invV (rest := []) (st' := [.int y98]) (As := []) 101 d_M_text_98 rfl lv_M_336 (m_M_here h98) (by decide) (k_M_here h98) rfl rfl rfl (Nat.le_of_ble_eq_true rfl) rfl ?_
    refine aw_bipush (v := (59 : Int32)) 103 d_M_text_101 rfl (by decide) ?_
    refine aw_icmp_eq 115 106 d_M_text_103 (by decide) rfl (fun c103 => ?_) (fun c103 => ?_)
    · have h := (if_pos c103).symm.trans h
      exact (j_M_text_115 hk54 h)
    · have h := (if_neg c103).symm.trans h
      refine aw_aload_n 107 d_M_text_106 rfl rfl ?_
      refine aw_iconst (v := (1 : Int32)) 108 d_M_text_107 rfl (by decide) ?_
      refine aw_aload_n 109 d_M_text_108 rfl rfl ?_
      obtain ⟨y109, h109, h⟩ := bnd h
      refine aw_getI 112 d_M_text_109 rfl fg_M_311 (Or.inl rfl) h109 ?_
      obtain ⟨μ112, h112, h⟩ := bnd h
      refine aw_invV (rest := []) (st' := []) (As := [.int (1 : Int32), .int y109]) 115 d_M_text_112 rfl lv_M_333 (m_M_wrongs h112) (by decide) (k_M_wrongs h112) rfl rfl rfl (Nat.le_of_ble_eq_true rfl) rfl ?_
      exact (j_M_text_115 hk54 h)
theorem j_M_text_91 {l : Launch} {μ0 : MM} {q : Int32 × MM} {a0 : Nat} {μ : MM} {k54 : Int32 → MM → Option (Int32 × MM)} (hk54 : ∀ (x2 : Int32) (μ : MM), k54 x2 μ = some q → AWm l Y_M_text 9 μ0 (some (.int q.1)) q.2 54 [some (.ref a0), none, some (.int x2), none] [] μ) (h : f_M_text_J91 k54 a0 μ = some q) : AWm l Y_M_text 9 μ0 (some (.int q.1)) q.2 91 [some (.ref a0), none, none, none] [] μ := by
  unfold f_M_text_J91 at h
  refine aw_iconst (v := (0 : Int32)) 92 d_M_text_91 rfl (by decide) ?_
  exact (j_M_text_92 hk54 h)
theorem l_M_text_54 {l : Launch} {μ0 : MM} {q : Int32 × MM} {a0 : Nat} : ∀ (n : Nat) (x2 : Int32) (μ : MM), f_M_text_L54 a0 n x2 μ = some q → AWm l Y_M_text 9 μ0 (some (.int q.1)) q.2 54 [some (.ref a0), none, some (.int x2), none] [] μ := by
  intro n
  induction n with
  | zero =>
    intro x2 μ h
    have h : (none : Option (Int32 × MM)) = some q := h
    cases h
  | succ n ih =>
    intro x2 μ h
    rw [f_M_text_L54] at h
    refine aw_iload_n 55 d_M_text_54 rfl rfl ?_
    refine aw_if_eq 128 58 d_M_text_55 (by decide) rfl (fun c55 => ?_) (fun c55 => ?_)
    · have h := (if_pos c55).symm.trans h
      exact AW.wk [true, true, false, true] rfl (j_M_text_128 h)
    · have h := (if_neg c55).symm.trans h
      refine aw_aload_n 59 d_M_text_58 rfl rfl ?_
      obtain ⟨y59, h59, h⟩ := bnd h
      refine aw_invV (rest := []) (st' := [.int y59]) (As := []) 62 d_M_text_59 rfl lv_M_320 (m_M_isGood h59) (by decide) (k_M_isGood h59) rfl rfl rfl (Nat.le_of_ble_eq_true rfl) rfl ?_
      refine aw_if_eq 128 65 d_M_text_62 (by decide) rfl (fun c62 => ?_) (fun c62 => ?_)
      · have h := (if_pos c62).symm.trans h
        exact AW.wk [true, true, false, true] rfl (j_M_text_128 h)
      · have h := (if_neg c62).symm.trans h
        refine aw_aload_n 66 d_M_text_65 rfl rfl ?_
        obtain ⟨μ66, h66, h⟩ := bnd h
        refine aw_invV (rest := []) (st' := []) (As := []) 69 d_M_text_66 rfl lv_M_413 (m_M_clause h66) (by decide) (k_M_clause h66) rfl rfl rfl (Nat.le_of_ble_eq_true rfl) rfl ?_
        refine aw_aload_n 70 d_M_text_69 rfl rfl ?_
        obtain ⟨y70, h70, h⟩ := bnd h
        refine aw_invV (rest := []) (st' := [.int y70]) (As := []) 73 d_M_text_70 rfl lv_M_320 (m_M_isGood h70) (by decide) (k_M_isGood h70) rfl rfl rfl (Nat.le_of_ble_eq_true rfl) rfl ?_
        refine aw_if_eq 91 76 d_M_text_73 (by decide) rfl (fun c73 => ?_) (fun c73 => ?_)
        · have h := (if_pos c73).symm.trans h
          exact AW.wk [true, true, false, true] rfl (j_M_text_91 ih h)
        · have h := (if_neg c73).symm.trans h
          refine aw_aload_n 77 d_M_text_76 rfl rfl ?_
          obtain ⟨y77, h77, h⟩ := bnd h
          refine aw_getI 80 d_M_text_77 rfl fg_M_311 (Or.inl rfl) h77 ?_
          refine aw_aload_n 81 d_M_text_80 rfl rfl ?_
          obtain ⟨y81, h81, h⟩ := bnd h
          refine aw_getI 84 d_M_text_81 rfl fg_M_314 (Or.inl rfl) h81 ?_
          refine aw_icmp_ge 91 87 d_M_text_84 (by decide) rfl (fun c84 => ?_) (fun c84 => ?_)
          · have h := (if_pos c84).symm.trans h
            exact AW.wk [true, true, false, true] rfl (j_M_text_91 ih h)
          · have h := (if_neg c84).symm.trans h
            refine aw_iconst (v := (1 : Int32)) 88 d_M_text_87 rfl (by decide) ?_
            refine aw_goto 92 d_M_text_88 (by decide) ?_
            exact AW.wk [true, true, false, true] rfl (j_M_text_92 ih h)
theorem m_M_text {l : Launch} {q : Int32 × MM} {a0 : Nat} {x1 : Int32} {μ : MM} (h : f_M_text a0 x1 μ = some q) : AMet l 9 Y_M_text [.ref a0, .int x1] μ (some (.int q.1)) q.2 := by
  refine AMet.of (loc := [some (.ref a0), some (.int x1), none, none]) pn_M_text (Nat.le_of_ble_eq_true rfl) rfl ?_
  unfold f_M_text at h
  obtain ⟨_, hk, h⟩ := bnd h
  refine aw_iload_n 1 d_M_text_0 rfl rfl ?_
  refine aw_i2l 2 d_M_text_1 rfl ?_
  refine aw_lconst (v := (1 : Int64)) 3 d_M_text_2 rfl (by decide) ?_
  refine aw_ldc2 (v := (200 : Int64)) 6 d_M_text_3 rfl c_M_411 ?_
  obtain ⟨y6, h6, h⟩ := bnd h
  refine aw_invS (rest := []) (st' := [.int y6]) (As := [.long x1.toInt64, .long (1 : Int64), .long (200 : Int64)]) 9 d_M_text_6 rfl ls_M_145 (m_M_lies h6) (by decide) rfl rfl (Nat.le_of_ble_eq_true rfl) rfl ?_
  refine aw_if_eq 20 12 d_M_text_9 (by decide) rfl (fun c9 => ?_) (fun c9 => ?_)
  · have h := (if_pos c9).symm.trans h
    refine aw_iconst (v := (-1 : Int32)) 21 d_M_text_20 rfl (by decide) ?_
    cases h
    exact aw_ireturn d_M_text_21 rfl rfl
  · have h := (if_neg c9).symm.trans h
    refine aw_iload_n 13 d_M_text_12 rfl rfl ?_
    refine aw_aload_n 14 d_M_text_13 rfl rfl ?_
    obtain ⟨y14, h14, h⟩ := bnd h
    refine aw_getI 17 d_M_text_14 rfl fg_M_305 (Or.inl rfl) h14 ?_
    refine aw_icmp_le 22 20 d_M_text_17 (by decide) rfl (fun c17 => ?_) (fun c17 => ?_)
    · have h := (if_pos c17).symm.trans h
      refine aw_aload_n 23 d_M_text_22 rfl rfl ?_
      refine aw_iconst (v := (0 : Int32)) 24 d_M_text_23 rfl (by decide) ?_
      obtain ⟨μ24, h24, h⟩ := bnd h
      refine aw_putI 27 false d_M_text_24 rfl fp_M_305 (fun z => nomatch z) rfl h24 ?_
      refine aw_aload_n 28 d_M_text_27 rfl rfl ?_
      refine aw_iconst (v := (0 : Int32)) 29 d_M_text_28 rfl (by decide) ?_
      obtain ⟨μ29, h29, h⟩ := bnd h
      refine aw_putI 32 false d_M_text_29 rfl fp_M_311 (fun z => nomatch z) rfl h29 ?_
      refine aw_aload_n 33 d_M_text_32 rfl rfl ?_
      refine aw_iload_n 34 d_M_text_33 rfl rfl ?_
      obtain ⟨μ34, h34, h⟩ := bnd h
      refine aw_putI 37 false d_M_text_34 rfl fp_M_314 (fun z => nomatch z) rfl h34 ?_
      refine aw_aload_n 38 d_M_text_37 rfl rfl ?_
      refine aw_iconst (v := (0 : Int32)) 39 d_M_text_38 rfl (by decide) ?_
      obtain ⟨μ39, h39, h⟩ := bnd h
      refine aw_putI 42 false d_M_text_39 rfl fp_M_317 (fun z => nomatch z) rfl h39 ?_
      refine aw_aload_n 43 d_M_text_42 rfl rfl ?_
      refine aw_iconst (v := (0 : Int32)) 44 d_M_text_43 rfl (by decide) ?_
      obtain ⟨μ44, h44, h⟩ := bnd h
      refine aw_putI 47 false d_M_text_44 rfl fp_M_405 (fun z => nomatch z) rfl h44 ?_
      refine aw_aload_n 48 d_M_text_47 rfl rfl ?_
      refine aw_iconst (v := (0 : Int32)) 49 d_M_text_48 rfl (by decide) ?_
      obtain ⟨μ49, h49, h⟩ := bnd h
      refine aw_putI 52 false d_M_text_49 rfl fp_M_324 (fun z => nomatch z) rfl h49 ?_
      refine aw_iconst (v := (1 : Int32)) 53 d_M_text_52 rfl (by decide) ?_
      refine aw_istore_n (loc' := [some (.ref a0), some (.int x1), some (.int (1 : Int32)), none]) 54 d_M_text_53 rfl (by decide) rfl ?_
      exact AW.wk [true, false, true, true] rfl (l_M_text_54 FU _ _ h)
    · have h := (if_neg c17).symm.trans h
      refine aw_iconst (v := (-1 : Int32)) 21 d_M_text_20 rfl (by decide) ?_
      cases h
      exact aw_ireturn d_M_text_21 rfl rfl
theorem k_M_text {q : Int32 × MM} {a0 : Nat} {x1 : Int32} {μ : MM} (h : f_M_text a0 x1 μ = some q) : μ.1[a0]? = some (0, 1) := by
  unfold f_M_text at h
  obtain ⟨_, h1, _⟩ := bnd h
  exact kO_some h1
theorem m_Ch_sings {l : Launch} {q : Int32} {a0 : Nat} {x1 : Int32} {x2 : Int32} {μ : MM} (h : f_Ch_sings a0 x1 x2 μ = some q) : AMet l 2 Y_Ch_sings [.ref a0, .int x1, .int x2] μ (some (.int q)) μ := by
  refine AMet.of (loc := [some (.ref a0), some (.int x1), some (.int x2)]) pn_Ch_sings (Nat.le_of_ble_eq_true rfl) rfl ?_
  unfold f_Ch_sings at h
  obtain ⟨_, hk, h⟩ := bnd h
  refine aw_aload_n 1 d_Ch_sings_0 rfl rfl ?_
  refine aw_iload_n 2 d_Ch_sings_1 rfl rfl ?_
  obtain ⟨y2, h2, h⟩ := bnd h
  refine aw_invV (rest := []) (st' := [.int y2]) (As := [.int x1]) 5 d_Ch_sings_2 rfl lv_Ch_51 (m_Ch_has h2) (by decide) (k_Ch_has h2) rfl rfl rfl (Nat.le_of_ble_eq_true rfl) rfl ?_
  refine aw_if_eq 29 8 d_Ch_sings_5 (by decide) rfl (fun c5 => ?_) (fun c5 => ?_)
  · have h := (if_pos c5).symm.trans h
    refine aw_iconst (v := (0 : Int32)) 30 d_Ch_sings_29 rfl (by decide) ?_
    cases h
    exact aw_ireturn d_Ch_sings_30 rfl nar0
  · have h := (if_neg c5).symm.trans h
    refine aw_aload_n 9 d_Ch_sings_8 rfl rfl ?_
    obtain ⟨y9, h9, h⟩ := bnd h
    refine aw_getR 12 d_Ch_sings_9 rfl fg_Ch_33 rfl h9 ?_
    refine aw_aload_n 13 d_Ch_sings_12 rfl rfl ?_
    obtain ⟨y13, h13, h⟩ := bnd h
    refine aw_getR 16 d_Ch_sings_13 rfl fg_Ch_9 rfl h13 ?_
    refine aw_iload_n 17 d_Ch_sings_16 rfl rfl ?_
    obtain ⟨y17, h17, h⟩ := bnd h
    refine aw_iald 18 d_Ch_sings_17 rfl h17 ?_
    refine aw_iload_n 19 d_Ch_sings_18 rfl rfl ?_
    obtain ⟨y19, h19, h⟩ := bnd h
    refine aw_invV (rest := []) (st' := [.int y19]) (As := [.int y17, .int x2]) 22 d_Ch_sings_19 rfl lv_Ch_55 (m_Sc_sounds h19) (by decide) (k_Sc_sounds h19) rfl rfl rfl (Nat.le_of_ble_eq_true rfl) rfl ?_
    refine aw_if_eq 29 25 d_Ch_sings_22 (by decide) rfl (fun c22 => ?_) (fun c22 => ?_)
    · have h := (if_pos c22).symm.trans h
      refine aw_iconst (v := (0 : Int32)) 30 d_Ch_sings_29 rfl (by decide) ?_
      cases h
      exact aw_ireturn d_Ch_sings_30 rfl nar0
    · have h := (if_neg c22).symm.trans h
      refine aw_iconst (v := (1 : Int32)) 26 d_Ch_sings_25 rfl (by decide) ?_
      refine aw_goto 30 d_Ch_sings_26 (by decide) ?_
      cases h
      exact aw_ireturn d_Ch_sings_30 rfl nar1
theorem k_Ch_sings {q : Int32} {a0 : Nat} {x1 : Int32} {x2 : Int32} {μ : MM} (h : f_Ch_sings a0 x1 x2 μ = some q) : μ.1[a0]? = some (0, 2) := by
  unfold f_Ch_sings at h
  obtain ⟨_, h1, _⟩ := bnd h
  exact kO_some h1
theorem l_Ch_howMany_4 {l : Launch} {μ0 : MM} {q : Int32} {a0 : Nat} {x1 : Int32} {μ : MM} : ∀ (n : Nat) (x2 : Int32) (x3 : Int32), f_Ch_howMany_L4 a0 x1 μ n x2 x3 = some q → AWm l Y_Ch_howMany 3 μ0 (some (.int q)) μ 4 [some (.ref a0), some (.int x1), some (.int x2), some (.int x3)] [] μ := by
  intro n
  induction n with
  | zero =>
    intro x2 x3 h
    have h : (none : Option (Int32)) = some q := h
    cases h
  | succ n ih =>
    intro x2 x3 h
    rw [f_Ch_howMany_L4] at h
    refine aw_iload_n 5 d_Ch_howMany_4 rfl rfl ?_
    refine aw_aload_n 6 d_Ch_howMany_5 rfl rfl ?_
    obtain ⟨y6, h6, h⟩ := bnd h
    refine aw_getI 9 d_Ch_howMany_6 rfl fg_Ch_48 (Or.inl rfl) h6 ?_
    refine aw_icmp_ge 35 12 d_Ch_howMany_9 (by decide) rfl (fun c9 => ?_) (fun c9 => ?_)
    · have h := (if_pos c9).symm.trans h
      refine aw_iload_n 36 d_Ch_howMany_35 rfl rfl ?_
      cases h
      exact aw_ireturn d_Ch_howMany_36 rfl rfl
    · have h := (if_neg c9).symm.trans h
      refine aw_iload_n 13 d_Ch_howMany_12 rfl rfl ?_
      refine aw_aload_n 14 d_Ch_howMany_13 rfl rfl ?_
      refine aw_iload_n 15 d_Ch_howMany_14 rfl rfl ?_
      refine aw_iload_n 16 d_Ch_howMany_15 rfl rfl ?_
      obtain ⟨y16, h16, h⟩ := bnd h
      refine aw_invV (rest := [.int x2]) (st' := [.int y16, .int x2]) (As := [.int x3, .int x1]) 19 d_Ch_howMany_16 rfl lv_Ch_61 (m_Ch_sings h16) (by decide) (k_Ch_sings h16) rfl rfl rfl (Nat.le_of_ble_eq_true rfl) rfl ?_
      refine aw_if_eq 26 22 d_Ch_howMany_19 (by decide) rfl (fun c19 => ?_) (fun c19 => ?_)
      · have h := (if_pos c19).symm.trans h
        refine aw_iconst (v := (0 : Int32)) 27 d_Ch_howMany_26 rfl (by decide) ?_
        refine aw_iadd 28 d_Ch_howMany_27 rfl ?_
        refine aw_istore_n (loc' := [some (.ref a0), some (.int x1), some (.int (x2 + (0 : Int32))), some (.int x3)]) 29 d_Ch_howMany_28 rfl (by decide) rfl ?_
        refine aw_iinc (v := (x3 + (1 : Int32))) (loc' := [some (.ref a0), some (.int x1), some (.int (x2 + (0 : Int32))), some (.int (x3 + (1 : Int32)))]) 32 d_Ch_howMany_29 rfl (by decide) rfl rfl rfl ?_
        refine aw_goto 4 d_Ch_howMany_32 (by decide) ?_
        exact (ih (x2 + (0 : Int32)) (x3 + (1 : Int32)) h)
      · have h := (if_neg c19).symm.trans h
        refine aw_iconst (v := (1 : Int32)) 23 d_Ch_howMany_22 rfl (by decide) ?_
        refine aw_goto 27 d_Ch_howMany_23 (by decide) ?_
        refine aw_iadd 28 d_Ch_howMany_27 rfl ?_
        refine aw_istore_n (loc' := [some (.ref a0), some (.int x1), some (.int (x2 + (1 : Int32))), some (.int x3)]) 29 d_Ch_howMany_28 rfl (by decide) rfl ?_
        refine aw_iinc (v := (x3 + (1 : Int32))) (loc' := [some (.ref a0), some (.int x1), some (.int (x2 + (1 : Int32))), some (.int (x3 + (1 : Int32)))]) 32 d_Ch_howMany_29 rfl (by decide) rfl rfl rfl ?_
        refine aw_goto 4 d_Ch_howMany_32 (by decide) ?_
        exact (ih (x2 + (1 : Int32)) (x3 + (1 : Int32)) h)
theorem m_Ch_howMany {l : Launch} {q : Int32} {a0 : Nat} {x1 : Int32} {μ : MM} (h : f_Ch_howMany a0 x1 μ = some q) : AMet l 3 Y_Ch_howMany [.ref a0, .int x1] μ (some (.int q)) μ := by
  refine AMet.of (loc := [some (.ref a0), some (.int x1), none, none]) pn_Ch_howMany (Nat.le_of_ble_eq_true rfl) rfl ?_
  unfold f_Ch_howMany at h
  obtain ⟨_, hk, h⟩ := bnd h
  refine aw_iconst (v := (0 : Int32)) 1 d_Ch_howMany_0 rfl (by decide) ?_
  refine aw_istore_n (loc' := [some (.ref a0), some (.int x1), some (.int (0 : Int32)), none]) 2 d_Ch_howMany_1 rfl (by decide) rfl ?_
  refine aw_iconst (v := (0 : Int32)) 3 d_Ch_howMany_2 rfl (by decide) ?_
  refine aw_istore_n (loc' := [some (.ref a0), some (.int x1), some (.int (0 : Int32)), some (.int (0 : Int32))]) 4 d_Ch_howMany_3 rfl (by decide) rfl ?_
  exact (l_Ch_howMany_4 FU _ _ h)
theorem k_Ch_howMany {q : Int32} {a0 : Nat} {x1 : Int32} {μ : MM} (h : f_Ch_howMany a0 x1 μ = some q) : μ.1[a0]? = some (0, 2) := by
  unfold f_Ch_howMany at h
  obtain ⟨_, h1, _⟩ := bnd h
  exact kO_some h1
theorem l_Ch_lastNote_4 {l : Launch} {μ0 : MM} {q : Int32} {a0 : Nat} {x1 : Int32} {μ : MM} : ∀ (n : Nat) (x3 : Int32), f_Ch_lastNote_L4 a0 x1 μ n x3 = some q → AWm l Y_Ch_lastNote 3 μ0 (some (.int q)) μ 4 [some (.ref a0), some (.int x1), none, some (.int x3)] [] μ := by
  intro n
  induction n with
  | zero =>
    intro x3 h
    have h : (none : Option (Int32)) = some q := h
    cases h
  | succ n ih =>
    intro x3 h
    rw [f_Ch_lastNote_L4] at h
    refine aw_iload_n 5 d_Ch_lastNote_4 rfl rfl ?_
    refine aw_if_lt 25 8 d_Ch_lastNote_5 (by decide) rfl (fun c5 => ?_) (fun c5 => ?_)
    · have h := (if_pos c5).symm.trans h
      refine aw_iconst (v := (-1 : Int32)) 26 d_Ch_lastNote_25 rfl (by decide) ?_
      cases h
      exact aw_ireturn d_Ch_lastNote_26 rfl rfl
    · have h := (if_neg c5).symm.trans h
      refine aw_aload_n 9 d_Ch_lastNote_8 rfl rfl ?_
      refine aw_iload_n 10 d_Ch_lastNote_9 rfl rfl ?_
      refine aw_iload_n 11 d_Ch_lastNote_10 rfl rfl ?_
      obtain ⟨y11, h11, h⟩ := bnd h
      refine aw_invV (rest := []) (st' := [.int y11]) (As := [.int x1, .int x3]) 14 d_Ch_lastNote_11 rfl lv_Ch_61 (m_Ch_sings h11) (by decide) (k_Ch_sings h11) rfl rfl rfl (Nat.le_of_ble_eq_true rfl) rfl ?_
      refine aw_if_eq 19 17 d_Ch_lastNote_14 (by decide) rfl (fun c14 => ?_) (fun c14 => ?_)
      · have h := (if_pos c14).symm.trans h
        refine aw_iinc (v := (x3 + (-1 : Int32))) (loc' := [some (.ref a0), some (.int x1), none, some (.int (x3 + (-1 : Int32)))]) 22 d_Ch_lastNote_19 rfl (by decide) rfl rfl rfl ?_
        refine aw_goto 4 d_Ch_lastNote_22 (by decide) ?_
        exact (ih (x3 + (-1 : Int32)) h)
      · have h := (if_neg c14).symm.trans h
        refine aw_iload_n 18 d_Ch_lastNote_17 rfl rfl ?_
        cases h
        exact aw_ireturn d_Ch_lastNote_18 rfl rfl
theorem m_Ch_lastNote {l : Launch} {q : Int32} {a0 : Nat} {x1 : Int32} {x2 : Int32} {μ : MM} (h : f_Ch_lastNote a0 x1 x2 μ = some q) : AMet l 3 Y_Ch_lastNote [.ref a0, .int x1, .int x2] μ (some (.int q)) μ := by
  refine AMet.of (loc := [some (.ref a0), some (.int x1), some (.int x2), none]) pn_Ch_lastNote (Nat.le_of_ble_eq_true rfl) rfl ?_
  unfold f_Ch_lastNote at h
  obtain ⟨_, hk, h⟩ := bnd h
  refine aw_iload_n 1 d_Ch_lastNote_0 rfl rfl ?_
  refine aw_iconst (v := (1 : Int32)) 2 d_Ch_lastNote_1 rfl (by decide) ?_
  refine aw_isub 3 d_Ch_lastNote_2 rfl ?_
  refine aw_istore_n (loc' := [some (.ref a0), some (.int x1), some (.int x2), some (.int (x2 - (1 : Int32)))]) 4 d_Ch_lastNote_3 rfl (by decide) rfl ?_
  exact AW.wk [true, true, false, true] rfl (l_Ch_lastNote_4 FU _ h)
theorem k_Ch_lastNote {q : Int32} {a0 : Nat} {x1 : Int32} {x2 : Int32} {μ : MM} (h : f_Ch_lastNote a0 x1 x2 μ = some q) : μ.1[a0]? = some (0, 2) := by
  unfold f_Ch_lastNote at h
  obtain ⟨_, h1, _⟩ := bnd h
  exact kO_some h1
theorem m_Mt_floorMod {l : Launch} {q : Int32} {x0 : Int32} {x1 : Int32} {μ : MM} (h : f_Mt_floorMod x0 x1 = some q) : AMet l 1 Y_Mt_floorMod [.int x0, .int x1] μ (some (.int q)) μ := by
  refine AMet.of (loc := [some (.int x0), some (.int x1), none]) pn_Mt_floorMod (Nat.le_of_ble_eq_true rfl) rfl ?_
  unfold f_Mt_floorMod at h
  refine aw_iload_n 1 d_Mt_floorMod_0 rfl rfl ?_
  refine aw_iload_n 2 d_Mt_floorMod_1 rfl rfl ?_
  obtain ⟨u2, h2, h⟩ := bnd h
  refine aw_irem 3 d_Mt_floorMod_2 rfl (gd_some h2) ?_
  refine aw_istore_n (loc' := [some (.int x0), some (.int x1), some (.int (irem x0 x1))]) 4 d_Mt_floorMod_3 rfl (by decide) rfl ?_
  refine aw_iload_n 5 d_Mt_floorMod_4 rfl rfl ?_
  refine aw_iload_n 6 d_Mt_floorMod_5 rfl rfl ?_
  refine aw_ixor 7 d_Mt_floorMod_6 rfl ?_
  refine aw_if_ge 18 10 d_Mt_floorMod_7 (by decide) rfl (fun c7 => ?_) (fun c7 => ?_)
  · have h := (if_pos c7).symm.trans h
    refine aw_iload_n 19 d_Mt_floorMod_18 rfl rfl ?_
    cases h
    exact aw_ireturn d_Mt_floorMod_19 rfl rfl
  · have h := (if_neg c7).symm.trans h
    refine aw_iload_n 11 d_Mt_floorMod_10 rfl rfl ?_
    refine aw_if_eq 18 14 d_Mt_floorMod_11 (by decide) rfl (fun c11 => ?_) (fun c11 => ?_)
    · have h := (if_pos c11).symm.trans h
      refine aw_iload_n 19 d_Mt_floorMod_18 rfl rfl ?_
      cases h
      exact aw_ireturn d_Mt_floorMod_19 rfl rfl
    · have h := (if_neg c11).symm.trans h
      refine aw_iload_n 15 d_Mt_floorMod_14 rfl rfl ?_
      refine aw_iload_n 16 d_Mt_floorMod_15 rfl rfl ?_
      refine aw_iadd 17 d_Mt_floorMod_16 rfl ?_
      cases h
      exact aw_ireturn d_Mt_floorMod_17 rfl rfl
theorem m_Ch_tableOf {l : Launch} {q : Int32} {a0 : Nat} {x1 : Int32} {x2 : Int32} {μ : MM} (h : f_Ch_tableOf a0 x1 x2 μ = some q) : AMet l 2 Y_Ch_tableOf [.ref a0, .int x1, .int x2] μ (some (.int q)) μ := by
  refine AMet.of (loc := [some (.ref a0), some (.int x1), some (.int x2)]) pn_Ch_tableOf (Nat.le_of_ble_eq_true rfl) rfl ?_
  unfold f_Ch_tableOf at h
  obtain ⟨_, hk, h⟩ := bnd h
  refine aw_ldc (v := (100000 : Int32)) 2 d_Ch_tableOf_0 rfl c_Ch_77 ?_
  refine aw_iload_n 3 d_Ch_tableOf_2 rfl rfl ?_
  refine aw_imul 4 d_Ch_tableOf_3 rfl ?_
  refine aw_aload_n 5 d_Ch_tableOf_4 rfl rfl ?_
  obtain ⟨y5, h5, h⟩ := bnd h
  refine aw_getR 8 d_Ch_tableOf_5 rfl fg_Ch_30 rfl h5 ?_
  refine aw_iload_n 9 d_Ch_tableOf_8 rfl rfl ?_
  refine aw_iload_n 10 d_Ch_tableOf_9 rfl rfl ?_
  refine aw_isub 11 d_Ch_tableOf_10 rfl ?_
  refine aw_bipush (v := (12 : Int32)) 13 d_Ch_tableOf_11 rfl (by decide) ?_
  obtain ⟨y13, h13, h⟩ := bnd h
  refine aw_invS (rest := [.ref y5, .int ((100000 : Int32) * x1)]) (st' := [.int y13, .ref y5, .int ((100000 : Int32) * x1)]) (As := [.int (x1 - x2), .int (12 : Int32)]) 16 d_Ch_tableOf_13 rfl ls_Ch_78 (m_Mt_floorMod h13) (by decide) rfl rfl (Nat.le_of_ble_eq_true rfl) rfl ?_
  obtain ⟨y16, h16, h⟩ := bnd h
  refine aw_iald 17 d_Ch_tableOf_16 rfl h16 ?_
  refine aw_iadd 18 d_Ch_tableOf_17 rfl ?_
  cases h
  exact aw_ireturn d_Ch_tableOf_18 rfl rfl
theorem k_Ch_tableOf {q : Int32} {a0 : Nat} {x1 : Int32} {x2 : Int32} {μ : MM} (h : f_Ch_tableOf a0 x1 x2 μ = some q) : μ.1[a0]? = some (0, 2) := by
  unfold f_Ch_tableOf at h
  obtain ⟨_, h1, _⟩ := bnd h
  exact kO_some h1
theorem m_Si_tableOf {l : Launch} {q : Int64} {a0 : Nat} {x1 : Int32} {x2 : Int32} {μ : MM} (h : f_Si_tableOf a0 x1 x2 μ = some q) : AMet l 3 Y_Si_tableOf [.ref a0, .int x1, .int x2] μ (some (.long q)) μ := by
  refine AMet.of (loc := [some (.ref a0), some (.int x1), some (.int x2)]) pn_Si_tableOf (Nat.le_of_ble_eq_true rfl) rfl ?_
  unfold f_Si_tableOf at h
  obtain ⟨_, hk, h⟩ := bnd h
  refine aw_aload_n 1 d_Si_tableOf_0 rfl rfl ?_
  obtain ⟨y1, h1, h⟩ := bnd h
  refine aw_getR 4 d_Si_tableOf_1 rfl fg_Si_46 rfl h1 ?_
  refine aw_aload_n 5 d_Si_tableOf_4 rfl rfl ?_
  obtain ⟨y5, h5, h⟩ := bnd h
  refine aw_getR 8 d_Si_tableOf_5 rfl fg_Si_42 rfl h5 ?_
  obtain ⟨y8, h8, h⟩ := bnd h
  refine aw_getR 11 d_Si_tableOf_8 rfl fg_Si_136 rfl h8 ?_
  refine aw_aload_n 12 d_Si_tableOf_11 rfl rfl ?_
  obtain ⟨y12, h12, h⟩ := bnd h
  refine aw_getR 15 d_Si_tableOf_12 rfl fg_Si_46 rfl h12 ?_
  obtain ⟨y15, h15, h⟩ := bnd h
  refine aw_getR 18 d_Si_tableOf_15 rfl fg_Si_133 rfl h15 ?_
  refine aw_iload_n 19 d_Si_tableOf_18 rfl rfl ?_
  obtain ⟨y19, h19, h⟩ := bnd h
  refine aw_iald 20 d_Si_tableOf_19 rfl h19 ?_
  refine aw_iload_n 21 d_Si_tableOf_20 rfl rfl ?_
  obtain ⟨y21, h21, h⟩ := bnd h
  refine aw_invS (rest := [.ref y8, .ref y1]) (st' := [.int y21, .ref y8, .ref y1]) (As := [.int y19, .int x2]) 24 d_Si_tableOf_21 rfl ls_Si_141 (m_Sc_cell h21) (by decide) rfl rfl (Nat.le_of_ble_eq_true rfl) rfl ?_
  obtain ⟨y24, h24, h⟩ := bnd h
  refine aw_iald 25 d_Si_tableOf_24 rfl h24 ?_
  refine aw_aload_n 26 d_Si_tableOf_25 rfl rfl ?_
  obtain ⟨y26, h26, h⟩ := bnd h
  refine aw_getI 29 d_Si_tableOf_26 rfl fg_Si_65 (Or.inl rfl) h26 ?_
  obtain ⟨y29, h29, h⟩ := bnd h
  refine aw_invV (rest := []) (st' := [.int y29]) (As := [.int y24, .int y26]) 32 d_Si_tableOf_29 rfl lv_Si_171 (m_Ch_tableOf h29) (by decide) (k_Ch_tableOf h29) rfl rfl rfl (Nat.le_of_ble_eq_true rfl) rfl ?_
  refine aw_i2l 33 d_Si_tableOf_32 rfl ?_
  cases h
  exact aw_lreturn d_Si_tableOf_33 rfl
theorem k_Si_tableOf {q : Int64} {a0 : Nat} {x1 : Int32} {x2 : Int32} {μ : MM} (h : f_Si_tableOf a0 x1 x2 μ = some q) : μ.1[a0]? = some (0, 9) := by
  unfold f_Si_tableOf at h
  obtain ⟨_, h1, _⟩ := bnd h
  exact kO_some h1
theorem l_Si_giveAgain_2 {l : Launch} {μ0 : MM} {q : MM} {a0 : Nat} {x1 : Int32} : ∀ (n : Nat) (x2 : Int32) (μ : MM), f_Si_giveAgain_L2 a0 x1 n x2 μ = some q → AWm l Y_Si_giveAgain 4 μ0 none q 2 [some (.ref a0), some (.int x1), some (.int x2), none] [] μ := by
  intro n
  induction n with
  | zero =>
    intro x2 μ h
    have h : (none : Option (MM)) = some q := h
    cases h
  | succ n ih =>
    intro x2 μ h
    rw [f_Si_giveAgain_L2] at h
    refine aw_iload_n 3 d_Si_giveAgain_2 rfl rfl ?_
    refine aw_aload_n 4 d_Si_giveAgain_3 rfl rfl ?_
    obtain ⟨y4, h4, h⟩ := bnd h
    refine aw_getR 7 d_Si_giveAgain_4 rfl fg_Si_46 rfl h4 ?_
    obtain ⟨y7, h7, h⟩ := bnd h
    refine aw_getI 10 d_Si_giveAgain_7 rfl fg_Si_91 (Or.inl rfl) h7 ?_
    refine aw_icmp_ge 46 13 d_Si_giveAgain_10 (by decide) rfl (fun c10 => ?_) (fun c10 => ?_)
    · have h := (if_pos c10).symm.trans h
      cases h
      exact aw_return d_Si_giveAgain_46 rfl
    · have h := (if_neg c10).symm.trans h
      refine aw_aload_n 14 d_Si_giveAgain_13 rfl rfl ?_
      obtain ⟨y14, h14, h⟩ := bnd h
      refine aw_getR 17 d_Si_giveAgain_14 rfl fg_Si_46 rfl h14 ?_
      refine aw_iload_n 18 d_Si_giveAgain_17 rfl rfl ?_
      refine aw_iload_n 19 d_Si_giveAgain_18 rfl rfl ?_
      obtain ⟨y19, h19, h⟩ := bnd h
      refine aw_invV (rest := []) (st' := [.int y19]) (As := [.int x2, .int x1]) 22 d_Si_giveAgain_19 rfl lv_Si_102 (m_Ch_lastNote h19) (by decide) (k_Ch_lastNote h19) rfl rfl rfl (Nat.le_of_ble_eq_true rfl) rfl ?_
      refine aw_istore_n (loc' := [some (.ref a0), some (.int x1), some (.int x2), some (.int y19)]) 23 d_Si_giveAgain_22 rfl (by decide) rfl ?_
      refine aw_iload_n 24 d_Si_giveAgain_23 rfl rfl ?_
      refine aw_iconst (v := (-1 : Int32)) 25 d_Si_giveAgain_24 rfl (by decide) ?_
      refine aw_icmp_eq 40 28 d_Si_giveAgain_25 (by decide) rfl (fun c25 => ?_) (fun c25 => ?_)
      · have h := (if_pos c25).symm.trans h
        refine aw_iinc (v := (x2 + (1 : Int32))) (loc' := [some (.ref a0), some (.int x1), some (.int (x2 + (1 : Int32))), some (.int y19)]) 43 d_Si_giveAgain_40 rfl (by decide) rfl rfl rfl ?_
        refine aw_goto 2 d_Si_giveAgain_43 (by decide) ?_
        exact AW.wk [true, true, true, false] rfl (ih (x2 + (1 : Int32)) μ h)
      · have h := (if_neg c25).symm.trans h
        refine aw_aload_n 29 d_Si_giveAgain_28 rfl rfl ?_
        obtain ⟨y29, h29, h⟩ := bnd h
        refine aw_getR 32 d_Si_giveAgain_29 rfl fg_Si_15 rfl h29 ?_
        refine aw_iload_n 33 d_Si_giveAgain_32 rfl rfl ?_
        refine aw_aload_n 34 d_Si_giveAgain_33 rfl rfl ?_
        refine aw_iload_n 35 d_Si_giveAgain_34 rfl rfl ?_
        refine aw_iload_n 36 d_Si_giveAgain_35 rfl rfl ?_
        obtain ⟨y36, h36, h⟩ := bnd h
        refine aw_invV (rest := [.int x2, .ref y29]) (st' := [.long y36, .int x2, .ref y29]) (As := [.int x2, .int y19]) 39 d_Si_giveAgain_36 rfl lv_Si_106 (m_Si_tableOf h36) (by decide) (k_Si_tableOf h36) rfl rfl rfl (Nat.le_of_ble_eq_true rfl) rfl ?_
        obtain ⟨μ39, h39, h⟩ := bnd h
        refine aw_last 40 d_Si_giveAgain_39 rfl h39 ?_
        refine aw_iinc (v := (x2 + (1 : Int32))) (loc' := [some (.ref a0), some (.int x1), some (.int (x2 + (1 : Int32))), some (.int y19)]) 43 d_Si_giveAgain_40 rfl (by decide) rfl rfl rfl ?_
        refine aw_goto 2 d_Si_giveAgain_43 (by decide) ?_
        exact AW.wk [true, true, true, false] rfl (ih (x2 + (1 : Int32)) μ39 h)
theorem m_Si_giveAgain {l : Launch} {q : MM} {a0 : Nat} {x1 : Int32} {μ : MM} (h : f_Si_giveAgain a0 x1 μ = some q) : AMet l 4 Y_Si_giveAgain [.ref a0, .int x1] μ none q := by
  refine AMet.of (loc := [some (.ref a0), some (.int x1), none, none]) pn_Si_giveAgain (Nat.le_of_ble_eq_true rfl) rfl ?_
  unfold f_Si_giveAgain at h
  obtain ⟨_, hk, h⟩ := bnd h
  refine aw_iconst (v := (0 : Int32)) 1 d_Si_giveAgain_0 rfl (by decide) ?_
  refine aw_istore_n (loc' := [some (.ref a0), some (.int x1), some (.int (0 : Int32)), none]) 2 d_Si_giveAgain_1 rfl (by decide) rfl ?_
  exact (l_Si_giveAgain_2 FU _ _ h)
theorem k_Si_giveAgain {q : MM} {a0 : Nat} {x1 : Int32} {μ : MM} (h : f_Si_giveAgain a0 x1 μ = some q) : μ.1[a0]? = some (0, 9) := by
  unfold f_Si_giveAgain at h
  obtain ⟨_, h1, _⟩ := bnd h
  exact kO_some h1
theorem m_Si_isKnowing {l : Launch} {q : Int32} {a0 : Nat} {x1 : Int32} {μ : MM} (h : f_Si_isKnowing a0 x1 μ = some q) : AMet l 1 Y_Si_isKnowing [.ref a0, .int x1] μ (some (.int q)) μ := by
  refine AMet.of (loc := [some (.ref a0), some (.int x1)]) pn_Si_isKnowing (Nat.le_of_ble_eq_true rfl) rfl ?_
  unfold f_Si_isKnowing at h
  obtain ⟨_, hk, h⟩ := bnd h
  refine aw_aload_n 1 d_Si_isKnowing_0 rfl rfl ?_
  obtain ⟨y1, h1, h⟩ := bnd h
  refine aw_getR 4 d_Si_isKnowing_1 rfl fg_Si_46 rfl h1 ?_
  obtain ⟨y4, h4, h⟩ := bnd h
  refine aw_getR 7 d_Si_isKnowing_4 rfl fg_Si_168 rfl h4 ?_
  refine aw_iload_n 8 d_Si_isKnowing_7 rfl rfl ?_
  obtain ⟨y8, h8, h⟩ := bnd h
  refine aw_iald 9 d_Si_isKnowing_8 rfl h8 ?_
  refine aw_iconst (v := (1 : Int32)) 10 d_Si_isKnowing_9 rfl (by decide) ?_
  refine aw_icmp_ne 24 13 d_Si_isKnowing_10 (by decide) rfl (fun c10 => ?_) (fun c10 => ?_)
  · have h := (if_neg c10).symm.trans h
    refine aw_iconst (v := (0 : Int32)) 25 d_Si_isKnowing_24 rfl (by decide) ?_
    cases h
    exact aw_ireturn d_Si_isKnowing_25 rfl nar0
  · have h := (if_pos c10).symm.trans h
    refine aw_aload_n 14 d_Si_isKnowing_13 rfl rfl ?_
    obtain ⟨y14, h14, h⟩ := bnd h
    refine aw_getI 17 d_Si_isKnowing_14 rfl fg_Si_68 (Or.inr rfl) h14 ?_
    refine aw_if_ne 24 20 d_Si_isKnowing_17 (by decide) rfl (fun c17 => ?_) (fun c17 => ?_)
    · have h := (if_neg c17).symm.trans h
      refine aw_iconst (v := (0 : Int32)) 25 d_Si_isKnowing_24 rfl (by decide) ?_
      cases h
      exact aw_ireturn d_Si_isKnowing_25 rfl nar0
    · have h := (if_pos c17).symm.trans h
      refine aw_iconst (v := (1 : Int32)) 21 d_Si_isKnowing_20 rfl (by decide) ?_
      refine aw_goto 25 d_Si_isKnowing_21 (by decide) ?_
      cases h
      exact aw_ireturn d_Si_isKnowing_25 rfl nar1
theorem k_Si_isKnowing {q : Int32} {a0 : Nat} {x1 : Int32} {μ : MM} (h : f_Si_isKnowing a0 x1 μ = some q) : μ.1[a0]? = some (0, 9) := by
  unfold f_Si_isKnowing at h
  obtain ⟨_, h1, _⟩ := bnd h
  exact kO_some h1
theorem m_Mt_floorDiv {l : Launch} {q : Int64} {x0 : Int64} {x2 : Int64} {μ : MM} (h : f_Mt_floorDiv x0 x2 = some q) : AMet l 1 Y_Mt_floorDiv [.long x0, .long x2] μ (some (.long q)) μ := by
  refine AMet.of (loc := [some (.long x0), none, some (.long x2), none, none, none]) pn_Mt_floorDiv (Nat.le_of_ble_eq_true rfl) rfl ?_
  unfold f_Mt_floorDiv at h
  refine aw_lload_n 1 d_Mt_floorDiv_0 rfl rfl ?_
  refine aw_lload_n 2 d_Mt_floorDiv_1 rfl rfl ?_
  obtain ⟨u2, h2, h⟩ := bnd h
  refine aw_ldiv 3 d_Mt_floorDiv_2 rfl (gdl_some h2) ?_
  refine aw_lstore (loc' := [some (.long x0), none, some (.long x2), none, some (.long (x0 / x2)), none]) 5 d_Mt_floorDiv_3 rfl (by decide) rfl ?_
  refine aw_lload_n 6 d_Mt_floorDiv_5 rfl rfl ?_
  refine aw_lload_n 7 d_Mt_floorDiv_6 rfl rfl ?_
  refine aw_lxor 8 d_Mt_floorDiv_7 rfl ?_
  refine aw_lconst (v := (0 : Int64)) 9 d_Mt_floorDiv_8 rfl (by decide) ?_
  refine aw_lcmp 10 d_Mt_floorDiv_9 rfl ?_
  refine aw_if_ge 27 13 d_Mt_floorDiv_10 (by decide) rfl (fun c10 => ?_) (fun c10 => ?_)
  · have h := (if_pos c10).symm.trans h
    refine aw_lload 29 d_Mt_floorDiv_27 rfl rfl ?_
    cases h
    exact aw_lreturn d_Mt_floorDiv_29 rfl
  · have h := (if_neg c10).symm.trans h
    refine aw_lload 15 d_Mt_floorDiv_13 rfl rfl ?_
    refine aw_lload_n 16 d_Mt_floorDiv_15 rfl rfl ?_
    refine aw_lmul 17 d_Mt_floorDiv_16 rfl ?_
    refine aw_lload_n 18 d_Mt_floorDiv_17 rfl rfl ?_
    refine aw_lcmp 19 d_Mt_floorDiv_18 rfl ?_
    refine aw_if_eq 27 22 d_Mt_floorDiv_19 (by decide) rfl (fun c19 => ?_) (fun c19 => ?_)
    · have h := (if_pos c19).symm.trans h
      refine aw_lload 29 d_Mt_floorDiv_27 rfl rfl ?_
      cases h
      exact aw_lreturn d_Mt_floorDiv_29 rfl
    · have h := (if_neg c19).symm.trans h
      refine aw_lload 24 d_Mt_floorDiv_22 rfl rfl ?_
      refine aw_lconst (v := (1 : Int64)) 25 d_Mt_floorDiv_24 rfl (by decide) ?_
      refine aw_lsub 26 d_Mt_floorDiv_25 rfl ?_
      cases h
      exact aw_lreturn d_Mt_floorDiv_26 rfl
theorem j_Si_tellLetters_231 {l : Launch} {μ0 : MM} {q : MM} {a0 : Nat} {s0 : Nat} {s1 : Int32} {s2 : Int32} {μ : MM} (h : f_Si_tellLetters_J231 a0 s0 s1 s2 μ = some q) : AWm l Y_Si_tellLetters 4 μ0 none q 231 [some (.ref a0), none, none, none, none, none] [.int s2, .int s1, .ref s0] μ := by
  unfold f_Si_tellLetters_J231 at h
  obtain ⟨μ231, h231, h⟩ := bnd h
  refine aw_iast 232 d_Si_tellLetters_231 rfl h231 ?_
  refine aw_aload_n 233 d_Si_tellLetters_232 rfl rfl ?_
  obtain ⟨y233, h233, h⟩ := bnd h
  refine aw_getR 236 d_Si_tellLetters_233 rfl fg_Si_28 rfl h233 ?_
  refine aw_bipush (v := (11 : Int32)) 238 d_Si_tellLetters_236 rfl (by decide) ?_
  refine aw_aload_n 239 d_Si_tellLetters_238 rfl rfl ?_
  obtain ⟨y239, h239, h⟩ := bnd h
  refine aw_getI 242 d_Si_tellLetters_239 rfl fg_Si_75 (Or.inl rfl) h239 ?_
  refine aw_bipush (v := (100 : Int32)) 244 d_Si_tellLetters_242 rfl (by decide) ?_
  refine aw_irem 245 d_Si_tellLetters_244 rfl (by decide) ?_
  obtain ⟨μ245, h245, h⟩ := bnd h
  refine aw_iast 246 d_Si_tellLetters_245 rfl h245 ?_
  cases h
  exact aw_return d_Si_tellLetters_246 rfl
theorem j_Si_tellLetters_184 {l : Launch} {μ0 : MM} {q : MM} {a0 : Nat} {x1 : Int32} {x3 : Int32} {s0 : Nat} {s1 : Int32} {s2 : Int32} {μ : MM} (h : f_Si_tellLetters_J184 a0 x1 x3 s0 s1 s2 μ = some q) : AWm l Y_Si_tellLetters 4 μ0 none q 184 [some (.ref a0), some (.int x1), none, some (.int x3), none, none] [.int s2, .int s1, .ref s0] μ := by
  unfold f_Si_tellLetters_J184 at h
  obtain ⟨μ184, h184, h⟩ := bnd h
  refine aw_iast 185 d_Si_tellLetters_184 rfl h184 ?_
  refine aw_aload_n 186 d_Si_tellLetters_185 rfl rfl ?_
  obtain ⟨y186, h186, h⟩ := bnd h
  refine aw_getR 189 d_Si_tellLetters_186 rfl fg_Si_28 rfl h186 ?_
  refine aw_bipush (v := (9 : Int32)) 191 d_Si_tellLetters_189 rfl (by decide) ?_
  refine aw_aload_n 192 d_Si_tellLetters_191 rfl rfl ?_
  obtain ⟨y192, h192, h⟩ := bnd h
  refine aw_getI 195 d_Si_tellLetters_192 rfl fg_Si_84 (Or.inl rfl) h192 ?_
  obtain ⟨μ195, h195, h⟩ := bnd h
  refine aw_iast 196 d_Si_tellLetters_195 rfl h195 ?_
  refine aw_aload_n 197 d_Si_tellLetters_196 rfl rfl ?_
  obtain ⟨y197, h197, h⟩ := bnd h
  refine aw_getR 200 d_Si_tellLetters_197 rfl fg_Si_28 rfl h197 ?_
  refine aw_bipush (v := (10 : Int32)) 202 d_Si_tellLetters_200 rfl (by decide) ?_
  refine aw_iload_n 203 d_Si_tellLetters_202 rfl rfl ?_
  refine aw_iconst (v := (-1 : Int32)) 204 d_Si_tellLetters_203 rfl (by decide) ?_
  refine aw_icmp_ne 211 207 d_Si_tellLetters_204 (by decide) rfl (fun c204 => ?_) (fun c204 => ?_)
  · have h := (if_neg c204).symm.trans h
    refine aw_aload_n 212 d_Si_tellLetters_211 rfl rfl ?_
    refine aw_iload_n 213 d_Si_tellLetters_212 rfl rfl ?_
    refine aw_iload_n 214 d_Si_tellLetters_213 rfl rfl ?_
    obtain ⟨y214, h214, h⟩ := bnd h
    refine aw_invV (rest := [.int (10 : Int32), .ref y197]) (st' := [.long y214, .int (10 : Int32), .ref y197]) (As := [.int x1, .int x3]) 217 d_Si_tellLetters_214 rfl lv_Si_106 (m_Si_tableOf h214) (by decide) (k_Si_tableOf h214) rfl rfl rfl (Nat.le_of_ble_eq_true rfl) rfl ?_
    refine aw_aload_n 218 d_Si_tellLetters_217 rfl rfl ?_
    obtain ⟨y218, h218, h⟩ := bnd h
    refine aw_getR 221 d_Si_tellLetters_218 rfl fg_Si_15 rfl h218 ?_
    refine aw_iload_n 222 d_Si_tellLetters_221 rfl rfl ?_
    obtain ⟨y222, h222, h⟩ := bnd h
    refine aw_lald 223 d_Si_tellLetters_222 rfl h222 ?_
    refine aw_lsub 224 d_Si_tellLetters_223 rfl ?_
    refine aw_ldc2 (v := (1000 : Int64)) 227 d_Si_tellLetters_224 rfl c_Si_162 ?_
    obtain ⟨y227, h227, h⟩ := bnd h
    refine aw_invS (rest := [.int (10 : Int32), .ref y197]) (st' := [.long y227, .int (10 : Int32), .ref y197]) (As := [.long (y214 - y222), .long (1000 : Int64)]) 230 d_Si_tellLetters_227 rfl ls_Si_164 (m_Mt_floorDiv h227) (by decide) rfl rfl (Nat.le_of_ble_eq_true rfl) rfl ?_
    refine aw_l2i 231 d_Si_tellLetters_230 rfl ?_
    exact AW.wk [true, false, true, false, true, true] rfl (j_Si_tellLetters_231 h)
  · have h := (if_pos c204).symm.trans h
    refine aw_iconst (v := (0 : Int32)) 208 d_Si_tellLetters_207 rfl (by decide) ?_
    refine aw_goto 231 d_Si_tellLetters_208 (by decide) ?_
    exact AW.wk [true, false, true, false, true, true] rfl (j_Si_tellLetters_231 h)
theorem j_Si_tellLetters_159 {l : Launch} {μ0 : MM} {q : MM} {a0 : Nat} {x1 : Int32} {x2 : Int32} {x3 : Int32} {x4 : Int32} {s0 : Nat} {s1 : Int32} {s2 : Int32} {μ : MM} (h : f_Si_tellLetters_J159 a0 x1 x2 x3 x4 s0 s1 s2 μ = some q) : AWm l Y_Si_tellLetters 4 μ0 none q 159 [some (.ref a0), some (.int x1), some (.int x2), some (.int x3), some (.int x4), none] [.int s2, .int s1, .ref s0] μ := by
  unfold f_Si_tellLetters_J159 at h
  obtain ⟨μ159, h159, h⟩ := bnd h
  refine aw_iast 160 d_Si_tellLetters_159 rfl h159 ?_
  refine aw_aload_n 161 d_Si_tellLetters_160 rfl rfl ?_
  obtain ⟨y161, h161, h⟩ := bnd h
  refine aw_getR 164 d_Si_tellLetters_161 rfl fg_Si_28 rfl h161 ?_
  refine aw_bipush (v := (8 : Int32)) 166 d_Si_tellLetters_164 rfl (by decide) ?_
  refine aw_aload_n 167 d_Si_tellLetters_166 rfl rfl ?_
  obtain ⟨y167, h167, h⟩ := bnd h
  refine aw_getR 170 d_Si_tellLetters_167 rfl fg_Si_42 rfl h167 ?_
  refine aw_iload 172 d_Si_tellLetters_170 rfl rfl ?_
  refine aw_iload_n 173 d_Si_tellLetters_172 rfl rfl ?_
  obtain ⟨y173, h173, h⟩ := bnd h
  refine aw_invV (rest := [.int (8 : Int32), .ref y161]) (st' := [.int y173, .int (8 : Int32), .ref y161]) (As := [.int x4, .int x2]) 176 d_Si_tellLetters_173 rfl lv_Si_159 (m_Sc_breathes h173) (by decide) (k_Sc_breathes h173) rfl rfl rfl (Nat.le_of_ble_eq_true rfl) rfl ?_
  refine aw_if_eq 183 179 d_Si_tellLetters_176 (by decide) rfl (fun c176 => ?_) (fun c176 => ?_)
  · have h := (if_pos c176).symm.trans h
    refine aw_iconst (v := (0 : Int32)) 184 d_Si_tellLetters_183 rfl (by decide) ?_
    exact AW.wk [true, true, false, true, false, true] rfl (j_Si_tellLetters_184 h)
  · have h := (if_neg c176).symm.trans h
    refine aw_iconst (v := (1 : Int32)) 180 d_Si_tellLetters_179 rfl (by decide) ?_
    refine aw_goto 184 d_Si_tellLetters_180 (by decide) ?_
    exact AW.wk [true, true, false, true, false, true] rfl (j_Si_tellLetters_184 h)
theorem j_Si_tellLetters_130 {l : Launch} {μ0 : MM} {q : MM} {a0 : Nat} {x1 : Int32} {x2 : Int32} {x3 : Int32} {x4 : Int32} {x5 : Int32} {s0 : Nat} {s1 : Int32} {s2 : Int32} {μ : MM} (h : f_Si_tellLetters_J130 a0 x1 x2 x3 x4 x5 s0 s1 s2 μ = some q) : AWm l Y_Si_tellLetters 4 μ0 none q 130 [some (.ref a0), some (.int x1), some (.int x2), some (.int x3), some (.int x4), some (.int x5)] [.int s2, .int s1, .ref s0] μ := by
  unfold f_Si_tellLetters_J130 at h
  obtain ⟨μ130, h130, h⟩ := bnd h
  refine aw_iast 131 d_Si_tellLetters_130 rfl h130 ?_
  refine aw_aload_n 132 d_Si_tellLetters_131 rfl rfl ?_
  obtain ⟨y132, h132, h⟩ := bnd h
  refine aw_getR 135 d_Si_tellLetters_132 rfl fg_Si_28 rfl h132 ?_
  refine aw_bipush (v := (6 : Int32)) 137 d_Si_tellLetters_135 rfl (by decide) ?_
  refine aw_iload 139 d_Si_tellLetters_137 rfl rfl ?_
  obtain ⟨y139, h139, h⟩ := bnd h
  refine aw_invS (rest := [.int (6 : Int32), .ref y132]) (st' := [.int y139, .int (6 : Int32), .ref y132]) (As := [.int x5]) 142 d_Si_tellLetters_139 rfl ls_Si_154 (m_Mt_abs_I h139) (by decide) rfl rfl (Nat.le_of_ble_eq_true rfl) rfl ?_
  obtain ⟨μ142, h142, h⟩ := bnd h
  refine aw_iast 143 d_Si_tellLetters_142 rfl h142 ?_
  refine aw_aload_n 144 d_Si_tellLetters_143 rfl rfl ?_
  obtain ⟨y144, h144, h⟩ := bnd h
  refine aw_getR 147 d_Si_tellLetters_144 rfl fg_Si_28 rfl h144 ?_
  refine aw_bipush (v := (7 : Int32)) 149 d_Si_tellLetters_147 rfl (by decide) ?_
  refine aw_iload 151 d_Si_tellLetters_149 rfl rfl ?_
  refine aw_if_le 158 154 d_Si_tellLetters_151 (by decide) rfl (fun c151 => ?_) (fun c151 => ?_)
  · have h := (if_pos c151).symm.trans h
    refine aw_iconst (v := (0 : Int32)) 159 d_Si_tellLetters_158 rfl (by decide) ?_
    exact AW.wk [true, true, true, true, true, false] rfl (j_Si_tellLetters_159 h)
  · have h := (if_neg c151).symm.trans h
    refine aw_iconst (v := (1 : Int32)) 155 d_Si_tellLetters_154 rfl (by decide) ?_
    refine aw_goto 159 d_Si_tellLetters_155 (by decide) ?_
    exact AW.wk [true, true, true, true, true, false] rfl (j_Si_tellLetters_159 h)
theorem j_Si_tellLetters_91 {l : Launch} {μ0 : MM} {q : MM} {a0 : Nat} {x1 : Int32} {x2 : Int32} {x3 : Int32} {x4 : Int32} {x5 : Int32} {s0 : Nat} {s1 : Int32} {s2 : Int32} {μ : MM} (h : f_Si_tellLetters_J91 a0 x1 x2 x3 x4 x5 s0 s1 s2 μ = some q) : AWm l Y_Si_tellLetters 4 μ0 none q 91 [some (.ref a0), some (.int x1), some (.int x2), some (.int x3), some (.int x4), some (.int x5)] [.int s2, .int s1, .ref s0] μ := by
  unfold f_Si_tellLetters_J91 at h
  obtain ⟨μ91, h91, h⟩ := bnd h
  refine aw_iast 92 d_Si_tellLetters_91 rfl h91 ?_
  refine aw_aload_n 93 d_Si_tellLetters_92 rfl rfl ?_
  obtain ⟨y93, h93, h⟩ := bnd h
  refine aw_getR 96 d_Si_tellLetters_93 rfl fg_Si_28 rfl h93 ?_
  refine aw_iconst (v := (4 : Int32)) 97 d_Si_tellLetters_96 rfl (by decide) ?_
  refine aw_aload_n 98 d_Si_tellLetters_97 rfl rfl ?_
  obtain ⟨y98, h98, h⟩ := bnd h
  refine aw_getR 101 d_Si_tellLetters_98 rfl fg_Si_46 rfl h98 ?_
  obtain ⟨y101, h101, h⟩ := bnd h
  refine aw_getR 104 d_Si_tellLetters_101 rfl fg_Si_148 rfl h101 ?_
  refine aw_iload_n 105 d_Si_tellLetters_104 rfl rfl ?_
  obtain ⟨y105, h105, h⟩ := bnd h
  refine aw_iald 106 d_Si_tellLetters_105 rfl h105 ?_
  obtain ⟨μ106, h106, h⟩ := bnd h
  refine aw_iast 107 d_Si_tellLetters_106 rfl h106 ?_
  refine aw_aload_n 108 d_Si_tellLetters_107 rfl rfl ?_
  obtain ⟨y108, h108, h⟩ := bnd h
  refine aw_getR 111 d_Si_tellLetters_108 rfl fg_Si_28 rfl h108 ?_
  refine aw_iconst (v := (5 : Int32)) 112 d_Si_tellLetters_111 rfl (by decide) ?_
  refine aw_aload_n 113 d_Si_tellLetters_112 rfl rfl ?_
  obtain ⟨y113, h113, h⟩ := bnd h
  refine aw_getR 116 d_Si_tellLetters_113 rfl fg_Si_42 rfl h113 ?_
  refine aw_iload 118 d_Si_tellLetters_116 rfl rfl ?_
  refine aw_iload_n 119 d_Si_tellLetters_118 rfl rfl ?_
  obtain ⟨y119, h119, h⟩ := bnd h
  refine aw_invV (rest := [.int (5 : Int32), .ref y108]) (st' := [.int y119, .int (5 : Int32), .ref y108]) (As := [.int x4, .int x2]) 122 d_Si_tellLetters_119 rfl lv_Si_151 (m_Sc_holds h119) (by decide) (k_Sc_holds h119) rfl rfl rfl (Nat.le_of_ble_eq_true rfl) rfl ?_
  refine aw_if_eq 129 125 d_Si_tellLetters_122 (by decide) rfl (fun c122 => ?_) (fun c122 => ?_)
  · have h := (if_pos c122).symm.trans h
    refine aw_iconst (v := (0 : Int32)) 130 d_Si_tellLetters_129 rfl (by decide) ?_
    exact (j_Si_tellLetters_130 h)
  · have h := (if_neg c122).symm.trans h
    refine aw_iconst (v := (1 : Int32)) 126 d_Si_tellLetters_125 rfl (by decide) ?_
    refine aw_goto 130 d_Si_tellLetters_126 (by decide) ?_
    exact (j_Si_tellLetters_130 h)
theorem j_Si_tellLetters_49 {l : Launch} {μ0 : MM} {q : MM} {a0 : Nat} {x1 : Int32} {x2 : Int32} {x3 : Int32} {x4 : Int32} {s0 : Int32} {μ : MM} (h : f_Si_tellLetters_J49 a0 x1 x2 x3 x4 s0 μ = some q) : AWm l Y_Si_tellLetters 4 μ0 none q 49 [some (.ref a0), some (.int x1), some (.int x2), some (.int x3), some (.int x4), none] [.int s0] μ := by
  unfold f_Si_tellLetters_J49 at h
  refine aw_istore (loc' := [some (.ref a0), some (.int x1), some (.int x2), some (.int x3), some (.int x4), some (.int s0)]) 51 d_Si_tellLetters_49 rfl (by decide) rfl ?_
  refine aw_aload_n 52 d_Si_tellLetters_51 rfl rfl ?_
  obtain ⟨y52, h52, h⟩ := bnd h
  refine aw_getR 55 d_Si_tellLetters_52 rfl fg_Si_28 rfl h52 ?_
  refine aw_iconst (v := (0 : Int32)) 56 d_Si_tellLetters_55 rfl (by decide) ?_
  refine aw_iload_n 57 d_Si_tellLetters_56 rfl rfl ?_
  obtain ⟨μ57, h57, h⟩ := bnd h
  refine aw_iast 58 d_Si_tellLetters_57 rfl h57 ?_
  refine aw_aload_n 59 d_Si_tellLetters_58 rfl rfl ?_
  obtain ⟨y59, h59, h⟩ := bnd h
  refine aw_getR 62 d_Si_tellLetters_59 rfl fg_Si_28 rfl h59 ?_
  refine aw_iconst (v := (1 : Int32)) 63 d_Si_tellLetters_62 rfl (by decide) ?_
  refine aw_iload 65 d_Si_tellLetters_63 rfl rfl ?_
  obtain ⟨μ65, h65, h⟩ := bnd h
  refine aw_iast 66 d_Si_tellLetters_65 rfl h65 ?_
  refine aw_aload_n 67 d_Si_tellLetters_66 rfl rfl ?_
  obtain ⟨y67, h67, h⟩ := bnd h
  refine aw_getR 70 d_Si_tellLetters_67 rfl fg_Si_28 rfl h67 ?_
  refine aw_iconst (v := (2 : Int32)) 71 d_Si_tellLetters_70 rfl (by decide) ?_
  refine aw_iload_n 72 d_Si_tellLetters_71 rfl rfl ?_
  obtain ⟨μ72, h72, h⟩ := bnd h
  refine aw_iast 73 d_Si_tellLetters_72 rfl h72 ?_
  refine aw_aload_n 74 d_Si_tellLetters_73 rfl rfl ?_
  obtain ⟨y74, h74, h⟩ := bnd h
  refine aw_getR 77 d_Si_tellLetters_74 rfl fg_Si_28 rfl h74 ?_
  refine aw_iconst (v := (3 : Int32)) 78 d_Si_tellLetters_77 rfl (by decide) ?_
  refine aw_aload_n 79 d_Si_tellLetters_78 rfl rfl ?_
  refine aw_iload_n 80 d_Si_tellLetters_79 rfl rfl ?_
  obtain ⟨y80, h80, h⟩ := bnd h
  refine aw_invV (rest := [.int (3 : Int32), .ref y74]) (st' := [.int y80, .int (3 : Int32), .ref y74]) (As := [.int x1]) 83 d_Si_tellLetters_80 rfl lv_Si_144 (m_Si_isKnowing h80) (by decide) (k_Si_isKnowing h80) rfl rfl rfl (Nat.le_of_ble_eq_true rfl) rfl ?_
  refine aw_if_eq 90 86 d_Si_tellLetters_83 (by decide) rfl (fun c83 => ?_) (fun c83 => ?_)
  · have h := (if_pos c83).symm.trans h
    refine aw_iconst (v := (0 : Int32)) 91 d_Si_tellLetters_90 rfl (by decide) ?_
    exact (j_Si_tellLetters_91 h)
  · have h := (if_neg c83).symm.trans h
    refine aw_iconst (v := (1 : Int32)) 87 d_Si_tellLetters_86 rfl (by decide) ?_
    refine aw_goto 91 d_Si_tellLetters_87 (by decide) ?_
    exact (j_Si_tellLetters_91 h)
theorem m_Si_tellLetters {l : Launch} {q : MM} {a0 : Nat} {x1 : Int32} {x2 : Int32} {x3 : Int32} {μ : MM} (h : f_Si_tellLetters a0 x1 x2 x3 μ = some q) : AMet l 4 Y_Si_tellLetters [.ref a0, .int x1, .int x2, .int x3] μ none q := by
  refine AMet.of (loc := [some (.ref a0), some (.int x1), some (.int x2), some (.int x3), none, none]) pn_Si_tellLetters (Nat.le_of_ble_eq_true rfl) rfl ?_
  unfold f_Si_tellLetters at h
  obtain ⟨_, hk, h⟩ := bnd h
  refine aw_aload_n 1 d_Si_tellLetters_0 rfl rfl ?_
  obtain ⟨y1, h1, h⟩ := bnd h
  refine aw_getR 4 d_Si_tellLetters_1 rfl fg_Si_46 rfl h1 ?_
  obtain ⟨y4, h4, h⟩ := bnd h
  refine aw_getR 7 d_Si_tellLetters_4 rfl fg_Si_133 rfl h4 ?_
  refine aw_iload_n 8 d_Si_tellLetters_7 rfl rfl ?_
  obtain ⟨y8, h8, h⟩ := bnd h
  refine aw_iald 9 d_Si_tellLetters_8 rfl h8 ?_
  refine aw_istore (loc' := [some (.ref a0), some (.int x1), some (.int x2), some (.int x3), some (.int y8), none]) 11 d_Si_tellLetters_9 rfl (by decide) rfl ?_
  refine aw_iload_n 12 d_Si_tellLetters_11 rfl rfl ?_
  refine aw_iconst (v := (-1 : Int32)) 13 d_Si_tellLetters_12 rfl (by decide) ?_
  refine aw_icmp_ne 20 16 d_Si_tellLetters_13 (by decide) rfl (fun c13 => ?_) (fun c13 => ?_)
  · have h := (if_neg c13).symm.trans h
    refine aw_aload_n 21 d_Si_tellLetters_20 rfl rfl ?_
    obtain ⟨y21, h21, h⟩ := bnd h
    refine aw_getR 24 d_Si_tellLetters_21 rfl fg_Si_42 rfl h21 ?_
    obtain ⟨y24, h24, h⟩ := bnd h
    refine aw_getR 27 d_Si_tellLetters_24 rfl fg_Si_136 rfl h24 ?_
    refine aw_iload 29 d_Si_tellLetters_27 rfl rfl ?_
    refine aw_iload_n 30 d_Si_tellLetters_29 rfl rfl ?_
    obtain ⟨y30, h30, h⟩ := bnd h
    refine aw_invS (rest := [.ref y24]) (st' := [.int y30, .ref y24]) (As := [.int y8, .int x2]) 33 d_Si_tellLetters_30 rfl ls_Si_141 (m_Sc_cell h30) (by decide) rfl rfl (Nat.le_of_ble_eq_true rfl) rfl ?_
    obtain ⟨y33, h33, h⟩ := bnd h
    refine aw_iald 34 d_Si_tellLetters_33 rfl h33 ?_
    refine aw_aload_n 35 d_Si_tellLetters_34 rfl rfl ?_
    obtain ⟨y35, h35, h⟩ := bnd h
    refine aw_getR 38 d_Si_tellLetters_35 rfl fg_Si_42 rfl h35 ?_
    obtain ⟨y38, h38, h⟩ := bnd h
    refine aw_getR 41 d_Si_tellLetters_38 rfl fg_Si_136 rfl h38 ?_
    refine aw_iload 43 d_Si_tellLetters_41 rfl rfl ?_
    refine aw_iload_n 44 d_Si_tellLetters_43 rfl rfl ?_
    obtain ⟨y44, h44, h⟩ := bnd h
    refine aw_invS (rest := [.ref y38, .int y33]) (st' := [.int y44, .ref y38, .int y33]) (As := [.int y8, .int x3]) 47 d_Si_tellLetters_44 rfl ls_Si_141 (m_Sc_cell h44) (by decide) rfl rfl (Nat.le_of_ble_eq_true rfl) rfl ?_
    obtain ⟨y47, h47, h⟩ := bnd h
    refine aw_iald 48 d_Si_tellLetters_47 rfl h47 ?_
    refine aw_isub 49 d_Si_tellLetters_48 rfl ?_
    exact (j_Si_tellLetters_49 h)
  · have h := (if_pos c13).symm.trans h
    refine aw_iconst (v := (0 : Int32)) 17 d_Si_tellLetters_16 rfl (by decide) ?_
    refine aw_goto 49 d_Si_tellLetters_17 (by decide) ?_
    exact (j_Si_tellLetters_49 h)
theorem k_Si_tellLetters {q : MM} {a0 : Nat} {x1 : Int32} {x2 : Int32} {x3 : Int32} {μ : MM} (h : f_Si_tellLetters a0 x1 x2 x3 μ = some q) : μ.1[a0]? = some (0, 9) := by
  unfold f_Si_tellLetters at h
  obtain ⟨_, h1, _⟩ := bnd h
  exact kO_some h1
theorem m_Pr_reckoned {l : Launch} {q : Int32} {x0 : Int32} {x1 : Int32} {x2 : Int32} {μ : MM} (h : f_Pr_reckoned x0 x1 x2 = some q) : AMet l 1 Y_Pr_reckoned [.int x0, .int x1, .int x2] μ (some (.int q)) μ := by
  refine AMet.of (loc := [some (.int x0), some (.int x1), some (.int x2)]) pn_Pr_reckoned (Nat.le_of_ble_eq_true rfl) rfl ?_
  unfold f_Pr_reckoned at h
  refine aw_iload_n 1 d_Pr_reckoned_0 rfl rfl ?_
  by_cases c1_0 : x0 = (2 : Int32)
  · have h := (if_pos c1_0).symm.trans h
    refine aw_tableIn 44 d_Pr_reckoned_1 (by rw [c1_0]; decide) (by rw [c1_0]; decide) (by rw [c1_0]; rfl) (by decide) ?_
    refine aw_iload_n 45 d_Pr_reckoned_44 rfl rfl ?_
    refine aw_iload_n 46 d_Pr_reckoned_45 rfl rfl ?_
    refine aw_iadd 47 d_Pr_reckoned_46 rfl ?_
    cases h
    exact aw_ireturn d_Pr_reckoned_47 rfl rfl
  · have h := (if_neg c1_0).symm.trans h
    by_cases c1_1 : x0 = (3 : Int32)
    · have h := (if_pos c1_1).symm.trans h
      refine aw_tableIn 48 d_Pr_reckoned_1 (by rw [c1_1]; decide) (by rw [c1_1]; decide) (by rw [c1_1]; rfl) (by decide) ?_
      refine aw_iload_n 49 d_Pr_reckoned_48 rfl rfl ?_
      refine aw_iload_n 50 d_Pr_reckoned_49 rfl rfl ?_
      refine aw_isub 51 d_Pr_reckoned_50 rfl ?_
      cases h
      exact aw_ireturn d_Pr_reckoned_51 rfl rfl
    · have h := (if_neg c1_1).symm.trans h
      by_cases c1_2 : x0 = (4 : Int32)
      · have h := (if_pos c1_2).symm.trans h
        refine aw_tableIn 52 d_Pr_reckoned_1 (by rw [c1_2]; decide) (by rw [c1_2]; decide) (by rw [c1_2]; rfl) (by decide) ?_
        refine aw_iload_n 53 d_Pr_reckoned_52 rfl rfl ?_
        refine aw_iload_n 54 d_Pr_reckoned_53 rfl rfl ?_
        refine aw_imul 55 d_Pr_reckoned_54 rfl ?_
        cases h
        exact aw_ireturn d_Pr_reckoned_55 rfl rfl
      · have h := (if_neg c1_2).symm.trans h
        by_cases c1_3 : x0 = (5 : Int32)
        · have h := (if_pos c1_3).symm.trans h
          refine aw_tableIn 56 d_Pr_reckoned_1 (by rw [c1_3]; decide) (by rw [c1_3]; decide) (by rw [c1_3]; rfl) (by decide) ?_
          refine aw_iload_n 57 d_Pr_reckoned_56 rfl rfl ?_
          refine aw_if_ne 64 60 d_Pr_reckoned_57 (by decide) rfl (fun c57 => ?_) (fun c57 => ?_)
          · have h := (if_neg c57).symm.trans h
            refine aw_iload_n 65 d_Pr_reckoned_64 rfl rfl ?_
            refine aw_iload_n 66 d_Pr_reckoned_65 rfl rfl ?_
            obtain ⟨u66, h66, h⟩ := bnd h
            refine aw_idiv 67 d_Pr_reckoned_66 rfl (gd_some h66) ?_
            cases h
            exact aw_ireturn d_Pr_reckoned_67 rfl rfl
          · have h := (if_pos c57).symm.trans h
            refine aw_iconst (v := (0 : Int32)) 61 d_Pr_reckoned_60 rfl (by decide) ?_
            refine aw_goto 67 d_Pr_reckoned_61 (by decide) ?_
            cases h
            exact aw_ireturn d_Pr_reckoned_67 rfl rfl
        · have h := (if_neg c1_3).symm.trans h
          by_cases c1_4 : x0 = (6 : Int32)
          · have h := (if_pos c1_4).symm.trans h
            refine aw_tableIn 68 d_Pr_reckoned_1 (by rw [c1_4]; decide) (by rw [c1_4]; decide) (by rw [c1_4]; rfl) (by decide) ?_
            refine aw_iload_n 69 d_Pr_reckoned_68 rfl rfl ?_
            refine aw_if_ne 76 72 d_Pr_reckoned_69 (by decide) rfl (fun c69 => ?_) (fun c69 => ?_)
            · have h := (if_neg c69).symm.trans h
              refine aw_iload_n 77 d_Pr_reckoned_76 rfl rfl ?_
              refine aw_iload_n 78 d_Pr_reckoned_77 rfl rfl ?_
              obtain ⟨u78, h78, h⟩ := bnd h
              refine aw_irem 79 d_Pr_reckoned_78 rfl (gd_some h78) ?_
              cases h
              exact aw_ireturn d_Pr_reckoned_79 rfl rfl
            · have h := (if_pos c69).symm.trans h
              refine aw_iconst (v := (0 : Int32)) 73 d_Pr_reckoned_72 rfl (by decide) ?_
              refine aw_goto 79 d_Pr_reckoned_73 (by decide) ?_
              cases h
              exact aw_ireturn d_Pr_reckoned_79 rfl rfl
          · have h := (if_neg c1_4).symm.trans h
            by_cases c1_5 : x0 = (7 : Int32)
            · have h := (if_pos c1_5).symm.trans h
              refine aw_tableIn 80 d_Pr_reckoned_1 (by rw [c1_5]; decide) (by rw [c1_5]; decide) (by rw [c1_5]; rfl) (by decide) ?_
              refine aw_iload_n 81 d_Pr_reckoned_80 rfl rfl ?_
              refine aw_iload_n 82 d_Pr_reckoned_81 rfl rfl ?_
              refine aw_icmp_ge 89 85 d_Pr_reckoned_82 (by decide) rfl (fun c82 => ?_) (fun c82 => ?_)
              · have h := (if_pos c82).symm.trans h
                refine aw_iconst (v := (0 : Int32)) 90 d_Pr_reckoned_89 rfl (by decide) ?_
                cases h
                exact aw_ireturn d_Pr_reckoned_90 rfl rfl
              · have h := (if_neg c82).symm.trans h
                refine aw_iconst (v := (1 : Int32)) 86 d_Pr_reckoned_85 rfl (by decide) ?_
                refine aw_goto 90 d_Pr_reckoned_86 (by decide) ?_
                cases h
                exact aw_ireturn d_Pr_reckoned_90 rfl rfl
            · have h := (if_neg c1_5).symm.trans h
              by_cases c1_6 : x0 = (8 : Int32)
              · have h := (if_pos c1_6).symm.trans h
                refine aw_tableIn 91 d_Pr_reckoned_1 (by rw [c1_6]; decide) (by rw [c1_6]; decide) (by rw [c1_6]; rfl) (by decide) ?_
                refine aw_iload_n 92 d_Pr_reckoned_91 rfl rfl ?_
                refine aw_iload_n 93 d_Pr_reckoned_92 rfl rfl ?_
                refine aw_icmp_le 100 96 d_Pr_reckoned_93 (by decide) rfl (fun c93 => ?_) (fun c93 => ?_)
                · have h := (if_pos c93).symm.trans h
                  refine aw_iconst (v := (0 : Int32)) 101 d_Pr_reckoned_100 rfl (by decide) ?_
                  cases h
                  exact aw_ireturn d_Pr_reckoned_101 rfl rfl
                · have h := (if_neg c93).symm.trans h
                  refine aw_iconst (v := (1 : Int32)) 97 d_Pr_reckoned_96 rfl (by decide) ?_
                  refine aw_goto 101 d_Pr_reckoned_97 (by decide) ?_
                  cases h
                  exact aw_ireturn d_Pr_reckoned_101 rfl rfl
              · have h := (if_neg c1_6).symm.trans h
                have e1 : (x0).toInt < 2 ∨ 8 < (x0).toInt := by
                  have z0 := lv_neT (a := 2) c1_0 (by decide)
                  have z1 := lv_neT (a := 3) c1_1 (by decide)
                  have z2 := lv_neT (a := 4) c1_2 (by decide)
                  have z3 := lv_neT (a := 5) c1_3 (by decide)
                  have z4 := lv_neT (a := 6) c1_4 (by decide)
                  have z5 := lv_neT (a := 7) c1_5 (by decide)
                  have z6 := lv_neT (a := 8) c1_6 (by decide)
                  omega
                refine aw_tableOut 102 d_Pr_reckoned_1 e1 (by decide) ?_
                refine aw_iload_n 103 d_Pr_reckoned_102 rfl rfl ?_
                refine aw_iload_n 104 d_Pr_reckoned_103 rfl rfl ?_
                refine aw_icmp_ne 111 107 d_Pr_reckoned_104 (by decide) rfl (fun c104 => ?_) (fun c104 => ?_)
                · have h := (if_neg c104).symm.trans h
                  refine aw_iconst (v := (0 : Int32)) 112 d_Pr_reckoned_111 rfl (by decide) ?_
                  cases h
                  exact aw_ireturn d_Pr_reckoned_112 rfl rfl
                · have h := (if_pos c104).symm.trans h
                  refine aw_iconst (v := (1 : Int32)) 108 d_Pr_reckoned_107 rfl (by decide) ?_
                  refine aw_goto 112 d_Pr_reckoned_108 (by decide) ?_
                  cases h
                  exact aw_ireturn d_Pr_reckoned_112 rfl rfl
theorem j_Pr_reckon_269 {l : Launch} {μ0 : MM} {q : Int32 × MM} {x4 : Int32} {μ : MM} (h : f_Pr_reckon_J269 x4 μ = some q) : AWm l Y_Pr_reckon 2 μ0 (some (.int q.1)) q.2 269 [none, none, none, none, some (.int x4), none, none, none] [] μ := by
  unfold f_Pr_reckon_J269 at h
  refine aw_iload 271 d_Pr_reckon_269 rfl rfl ?_
  refine aw_if_ne 278 274 d_Pr_reckon_271 (by decide) rfl (fun c271 => ?_) (fun c271 => ?_)
  · have h := (if_neg c271).symm.trans h
    refine aw_iconst (v := (0 : Int32)) 279 d_Pr_reckon_278 rfl (by decide) ?_
    cases h
    exact aw_ireturn d_Pr_reckon_279 rfl nar0
  · have h := (if_pos c271).symm.trans h
    refine aw_iconst (v := (1 : Int32)) 275 d_Pr_reckon_274 rfl (by decide) ?_
    refine aw_goto 279 d_Pr_reckon_275 (by decide) ?_
    cases h
    exact aw_ireturn d_Pr_reckon_279 rfl nar1
theorem j_Pr_reckon_100 {l : Launch} {μ0 : MM} {q : Int32 × MM} {a0 : Nat} {x2 : Int32} {a3 : Nat} {x4 : Int32} {x5 : Int32} {s0 : Nat} {s1 : Int32} {s2 : Int32} {μ : MM} {k6 : Int32 → Int32 → MM → Option (Int32 × MM)} (hk6 : ∀ (x4 : Int32) (x5 : Int32) (μ : MM), k6 x4 x5 μ = some q → AWm l Y_Pr_reckon 2 μ0 (some (.int q.1)) q.2 6 [some (.ref a0), none, some (.int x2), some (.ref a3), some (.int x4), some (.int x5), none, none] [] μ) (h : f_Pr_reckon_J100 k6 a0 x2 a3 x4 x5 s0 s1 s2 μ = some q) : AWm l Y_Pr_reckon 2 μ0 (some (.int q.1)) q.2 100 [some (.ref a0), none, some (.int x2), some (.ref a3), some (.int x4), some (.int x5), none, none] [.int s2, .int s1, .ref s0] μ := by
  unfold f_Pr_reckon_J100 at h
  obtain ⟨μ100, h100, h⟩ := bnd h
  refine aw_iast 101 d_Pr_reckon_100 rfl h100 ?_
  refine aw_goto 263 d_Pr_reckon_101 (by decide) ?_
  refine aw_iinc (v := (x5 + (1 : Int32))) (loc' := [some (.ref a0), none, some (.int x2), some (.ref a3), some (.int x4), some (.int (x5 + (1 : Int32))), none, none]) 266 d_Pr_reckon_263 rfl (by decide) rfl rfl rfl ?_
  refine aw_goto 6 d_Pr_reckon_266 (by decide) ?_
  exact (hk6 x4 (x5 + (1 : Int32)) μ100 h)
theorem j_Pr_reckon_80 {l : Launch} {μ0 : MM} {q : Int32 × MM} {a0 : Nat} {x2 : Int32} {a3 : Nat} {x4 : Int32} {x5 : Int32} {x6 : Int32} {x7 : Int32} {μ : MM} {k6 : Int32 → Int32 → MM → Option (Int32 × MM)} (hk6 : ∀ (x4 : Int32) (x5 : Int32) (μ : MM), k6 x4 x5 μ = some q → AWm l Y_Pr_reckon 2 μ0 (some (.int q.1)) q.2 6 [some (.ref a0), none, some (.int x2), some (.ref a3), some (.int x4), some (.int x5), none, none] [] μ) (h : f_Pr_reckon_J80 k6 a0 x2 a3 x4 x5 x6 x7 μ = some q) : AWm l Y_Pr_reckon 2 μ0 (some (.int q.1)) q.2 80 [some (.ref a0), none, some (.int x2), some (.ref a3), some (.int x4), some (.int x5), some (.int x6), some (.int x7)] [] μ := by
  unfold f_Pr_reckon_J80 at h
  refine aw_aload_n 81 d_Pr_reckon_80 rfl rfl ?_
  obtain ⟨y81, h81, h⟩ := bnd h
  refine aw_getR 84 d_Pr_reckon_81 rfl fg_Pr_20 rfl h81 ?_
  refine aw_iload 86 d_Pr_reckon_84 rfl rfl ?_
  refine aw_iload 88 d_Pr_reckon_86 rfl rfl ?_
  refine aw_if_ne 96 91 d_Pr_reckon_88 (by decide) rfl (fun c88 => ?_) (fun c88 => ?_)
  · have h := (if_neg c88).symm.trans h
    refine aw_aload_n 97 d_Pr_reckon_96 rfl rfl ?_
    refine aw_iload 99 d_Pr_reckon_97 rfl rfl ?_
    obtain ⟨y99, h99, h⟩ := bnd h
    refine aw_iald 100 d_Pr_reckon_99 rfl h99 ?_
    exact AW.wk [true, true, true, true, true, true, false, false] rfl (j_Pr_reckon_100 hk6 h)
  · have h := (if_pos c88).symm.trans h
    refine aw_iload 93 d_Pr_reckon_91 rfl rfl ?_
    refine aw_goto 100 d_Pr_reckon_93 (by decide) ?_
    exact AW.wk [true, true, true, true, true, true, false, false] rfl (j_Pr_reckon_100 hk6 h)
theorem j_Pr_reckon_50 {l : Launch} {μ0 : MM} {q : Int32 × MM} {a0 : Nat} {x2 : Int32} {a3 : Nat} {x4 : Int32} {x5 : Int32} {x6 : Int32} {x7 : Int32} {μ : MM} {k6 : Int32 → Int32 → MM → Option (Int32 × MM)} (hk6 : ∀ (x4 : Int32) (x5 : Int32) (μ : MM), k6 x4 x5 μ = some q → AWm l Y_Pr_reckon 2 μ0 (some (.int q.1)) q.2 6 [some (.ref a0), none, some (.int x2), some (.ref a3), some (.int x4), some (.int x5), none, none] [] μ) (h : f_Pr_reckon_J50 k6 a0 x2 a3 x4 x5 x6 x7 μ = some q) : AWm l Y_Pr_reckon 2 μ0 (some (.int q.1)) q.2 50 [some (.ref a0), none, some (.int x2), some (.ref a3), some (.int x4), some (.int x5), some (.int x6), some (.int x7)] [] μ := by
  unfold f_Pr_reckon_J50 at h
  refine aw_iinc (v := (x4 + (1 : Int32))) (loc' := [some (.ref a0), none, some (.int x2), some (.ref a3), some (.int (x4 + (1 : Int32))), some (.int x5), some (.int x6), some (.int x7)]) 53 d_Pr_reckon_50 rfl (by decide) rfl rfl rfl ?_
  refine aw_iload 55 d_Pr_reckon_53 rfl rfl ?_
  refine aw_bipush (v := (64 : Int32)) 57 d_Pr_reckon_55 rfl (by decide) ?_
  refine aw_icmp_ge 78 60 d_Pr_reckon_57 (by decide) rfl (fun c57 => ?_) (fun c57 => ?_)
  · have h := (if_pos c57).symm.trans h
    refine aw_iconst (v := (0 : Int32)) 79 d_Pr_reckon_78 rfl (by decide) ?_
    cases h
    exact aw_ireturn d_Pr_reckon_79 rfl nar0
  · have h := (if_neg c57).symm.trans h
    refine aw_iload 62 d_Pr_reckon_60 rfl rfl ?_
    refine aw_iconst (v := (1 : Int32)) 63 d_Pr_reckon_62 rfl (by decide) ?_
    refine aw_icmp_ne 80 66 d_Pr_reckon_63 (by decide) rfl (fun c63 => ?_) (fun c63 => ?_)
    · have h := (if_neg c63).symm.trans h
      exact (j_Pr_reckon_80 hk6 h)
    · have h := (if_pos c63).symm.trans h
      refine aw_iload 68 d_Pr_reckon_66 rfl rfl ?_
      refine aw_if_lt 78 71 d_Pr_reckon_68 (by decide) rfl (fun c68 => ?_) (fun c68 => ?_)
      · have h := (if_pos c68).symm.trans h
        refine aw_iconst (v := (0 : Int32)) 79 d_Pr_reckon_78 rfl (by decide) ?_
        cases h
        exact aw_ireturn d_Pr_reckon_79 rfl nar0
      · have h := (if_neg c68).symm.trans h
        refine aw_iload 73 d_Pr_reckon_71 rfl rfl ?_
        refine aw_aload_n 74 d_Pr_reckon_73 rfl rfl ?_
        obtain ⟨y74, h74, h⟩ := bnd h
        refine aw_alen 75 d_Pr_reckon_74 rfl h74 ?_
        refine aw_icmp_lt 80 78 d_Pr_reckon_75 (by decide) rfl (fun c75 => ?_) (fun c75 => ?_)
        · have h := (if_pos c75).symm.trans h
          exact (j_Pr_reckon_80 hk6 h)
        · have h := (if_neg c75).symm.trans h
          refine aw_iconst (v := (0 : Int32)) 79 d_Pr_reckon_78 rfl (by decide) ?_
          cases h
          exact aw_ireturn d_Pr_reckon_79 rfl nar0
theorem j_Pr_reckon_178 {l : Launch} {μ0 : MM} {q : Int32 × MM} {a0 : Nat} {x2 : Int32} {a3 : Nat} {x4 : Int32} {x5 : Int32} {x7 : Int32} {s0 : Int32} {s1 : Int32} {μ : MM} {k6 : Int32 → Int32 → MM → Option (Int32 × MM)} (hk6 : ∀ (x4 : Int32) (x5 : Int32) (μ : MM), k6 x4 x5 μ = some q → AWm l Y_Pr_reckon 2 μ0 (some (.int q.1)) q.2 6 [some (.ref a0), none, some (.int x2), some (.ref a3), some (.int x4), some (.int x5), none, none] [] μ) (h : f_Pr_reckon_J178 k6 a0 x2 a3 x4 x5 x7 s0 s1 μ = some q) : AWm l Y_Pr_reckon 2 μ0 (some (.int q.1)) q.2 178 [some (.ref a0), none, some (.int x2), some (.ref a3), some (.int x4), some (.int x5), none, some (.int x7)] [.int s1, .int s0] μ := by
  unfold f_Pr_reckon_J178 at h
  refine aw_icmp_ne 195 181 d_Pr_reckon_178 (by decide) rfl (fun c178 => ?_) (fun c178 => ?_)
  · have h := (if_neg c178).symm.trans h
    refine aw_iinc (v := (x4 + (-1 : Int32))) (loc' := [some (.ref a0), none, some (.int x2), some (.ref a3), some (.int (x4 + (-1 : Int32))), some (.int x5), none, some (.int x7)]) 198 d_Pr_reckon_195 rfl (by decide) rfl rfl rfl ?_
    refine aw_goto 263 d_Pr_reckon_198 (by decide) ?_
    refine aw_iinc (v := (x5 + (1 : Int32))) (loc' := [some (.ref a0), none, some (.int x2), some (.ref a3), some (.int (x4 + (-1 : Int32))), some (.int (x5 + (1 : Int32))), none, some (.int x7)]) 266 d_Pr_reckon_263 rfl (by decide) rfl rfl rfl ?_
    refine aw_goto 6 d_Pr_reckon_266 (by decide) ?_
    exact AW.wk [true, true, true, true, true, true, true, false] rfl (hk6 (x4 + (-1 : Int32)) (x5 + (1 : Int32)) μ h)
  · have h := (if_pos c178).symm.trans h
    refine aw_iload 183 d_Pr_reckon_181 rfl rfl ?_
    refine aw_iload 185 d_Pr_reckon_183 rfl rfl ?_
    refine aw_iconst (v := (1 : Int32)) 186 d_Pr_reckon_185 rfl (by decide) ?_
    refine aw_isub 187 d_Pr_reckon_186 rfl ?_
    obtain ⟨y187, h187, h⟩ := bnd h
    refine aw_invS (rest := []) (st' := [.int y187]) (As := [.int x5, .int (x7 - (1 : Int32))]) 190 d_Pr_reckon_187 rfl ls_Pr_53 (m_Mt_max_II h187) (by decide) rfl rfl (Nat.le_of_ble_eq_true rfl) rfl ?_
    refine aw_istore (loc' := [some (.ref a0), none, some (.int x2), some (.ref a3), some (.int x4), some (.int y187), none, some (.int x7)]) 192 d_Pr_reckon_190 rfl (by decide) rfl ?_
    refine aw_goto 263 d_Pr_reckon_192 (by decide) ?_
    refine aw_iinc (v := (y187 + (1 : Int32))) (loc' := [some (.ref a0), none, some (.int x2), some (.ref a3), some (.int x4), some (.int (y187 + (1 : Int32))), none, some (.int x7)]) 266 d_Pr_reckon_263 rfl (by decide) rfl rfl rfl ?_
    refine aw_goto 6 d_Pr_reckon_266 (by decide) ?_
    exact AW.wk [true, true, true, true, true, true, true, false] rfl (hk6 x4 (y187 + (1 : Int32)) μ h)
theorem j_Pr_reckon_166 {l : Launch} {μ0 : MM} {q : Int32 × MM} {a0 : Nat} {x2 : Int32} {a3 : Nat} {x4 : Int32} {x5 : Int32} {x6 : Int32} {x7 : Int32} {s0 : Int32} {μ : MM} {k6 : Int32 → Int32 → MM → Option (Int32 × MM)} (hk6 : ∀ (x4 : Int32) (x5 : Int32) (μ : MM), k6 x4 x5 μ = some q → AWm l Y_Pr_reckon 2 μ0 (some (.int q.1)) q.2 6 [some (.ref a0), none, some (.int x2), some (.ref a3), some (.int x4), some (.int x5), none, none] [] μ) (h : f_Pr_reckon_J166 k6 a0 x2 a3 x4 x5 x6 x7 s0 μ = some q) : AWm l Y_Pr_reckon 2 μ0 (some (.int q.1)) q.2 166 [some (.ref a0), none, some (.int x2), some (.ref a3), some (.int x4), some (.int x5), some (.int x6), some (.int x7)] [.int s0] μ := by
  unfold f_Pr_reckon_J166 at h
  refine aw_iload 168 d_Pr_reckon_166 rfl rfl ?_
  refine aw_bipush (v := (11 : Int32)) 170 d_Pr_reckon_168 rfl (by decide) ?_
  refine aw_icmp_ne 177 173 d_Pr_reckon_170 (by decide) rfl (fun c170 => ?_) (fun c170 => ?_)
  · have h := (if_neg c170).symm.trans h
    refine aw_iconst (v := (0 : Int32)) 178 d_Pr_reckon_177 rfl (by decide) ?_
    exact AW.wk [true, true, true, true, true, true, false, true] rfl (j_Pr_reckon_178 hk6 h)
  · have h := (if_pos c170).symm.trans h
    refine aw_iconst (v := (1 : Int32)) 174 d_Pr_reckon_173 rfl (by decide) ?_
    refine aw_goto 178 d_Pr_reckon_174 (by decide) ?_
    exact AW.wk [true, true, true, true, true, true, false, true] rfl (j_Pr_reckon_178 hk6 h)
theorem j_Pr_reckon_151 {l : Launch} {μ0 : MM} {q : Int32 × MM} {a0 : Nat} {x2 : Int32} {a3 : Nat} {x4 : Int32} {x5 : Int32} {x6 : Int32} {x7 : Int32} {μ : MM} {k6 : Int32 → Int32 → MM → Option (Int32 × MM)} (hk6 : ∀ (x4 : Int32) (x5 : Int32) (μ : MM), k6 x4 x5 μ = some q → AWm l Y_Pr_reckon 2 μ0 (some (.int q.1)) q.2 6 [some (.ref a0), none, some (.int x2), some (.ref a3), some (.int x4), some (.int x5), none, none] [] μ) (h : f_Pr_reckon_J151 k6 a0 x2 a3 x4 x5 x6 x7 μ = some q) : AWm l Y_Pr_reckon 2 μ0 (some (.int q.1)) q.2 151 [some (.ref a0), none, some (.int x2), some (.ref a3), some (.int x4), some (.int x5), some (.int x6), some (.int x7)] [] μ := by
  unfold f_Pr_reckon_J151 at h
  refine aw_aload_n 152 d_Pr_reckon_151 rfl rfl ?_
  obtain ⟨y152, h152, h⟩ := bnd h
  refine aw_getR 155 d_Pr_reckon_152 rfl fg_Pr_20 rfl h152 ?_
  refine aw_iload 157 d_Pr_reckon_155 rfl rfl ?_
  obtain ⟨y157, h157, h⟩ := bnd h
  refine aw_iald 158 d_Pr_reckon_157 rfl h157 ?_
  refine aw_if_ne 165 161 d_Pr_reckon_158 (by decide) rfl (fun c158 => ?_) (fun c158 => ?_)
  · have h := (if_neg c158).symm.trans h
    refine aw_iconst (v := (0 : Int32)) 166 d_Pr_reckon_165 rfl (by decide) ?_
    exact (j_Pr_reckon_166 hk6 h)
  · have h := (if_pos c158).symm.trans h
    refine aw_iconst (v := (1 : Int32)) 162 d_Pr_reckon_161 rfl (by decide) ?_
    refine aw_goto 166 d_Pr_reckon_162 (by decide) ?_
    exact (j_Pr_reckon_166 hk6 h)
theorem j_Pr_reckon_232 {l : Launch} {μ0 : MM} {q : Int32 × MM} {a0 : Nat} {x2 : Int32} {a3 : Nat} {x4 : Int32} {x5 : Int32} {x6 : Int32} {μ : MM} {k6 : Int32 → Int32 → MM → Option (Int32 × MM)} (hk6 : ∀ (x4 : Int32) (x5 : Int32) (μ : MM), k6 x4 x5 μ = some q → AWm l Y_Pr_reckon 2 μ0 (some (.int q.1)) q.2 6 [some (.ref a0), none, some (.int x2), some (.ref a3), some (.int x4), some (.int x5), none, none] [] μ) (h : f_Pr_reckon_J232 k6 a0 x2 a3 x4 x5 x6 μ = some q) : AWm l Y_Pr_reckon 2 μ0 (some (.int q.1)) q.2 232 [some (.ref a0), none, some (.int x2), some (.ref a3), some (.int x4), some (.int x5), some (.int x6), none] [] μ := by
  unfold f_Pr_reckon_J232 at h
  refine aw_iinc (v := (x4 + (-1 : Int32))) (loc' := [some (.ref a0), none, some (.int x2), some (.ref a3), some (.int (x4 + (-1 : Int32))), some (.int x5), some (.int x6), none]) 235 d_Pr_reckon_232 rfl (by decide) rfl rfl rfl ?_
  refine aw_aload_n 236 d_Pr_reckon_235 rfl rfl ?_
  obtain ⟨y236, h236, h⟩ := bnd h
  refine aw_getR 239 d_Pr_reckon_236 rfl fg_Pr_20 rfl h236 ?_
  refine aw_iload 241 d_Pr_reckon_239 rfl rfl ?_
  refine aw_iload 243 d_Pr_reckon_241 rfl rfl ?_
  refine aw_aload_n 244 d_Pr_reckon_243 rfl rfl ?_
  obtain ⟨y244, h244, h⟩ := bnd h
  refine aw_getR 247 d_Pr_reckon_244 rfl fg_Pr_20 rfl h244 ?_
  refine aw_iload 249 d_Pr_reckon_247 rfl rfl ?_
  obtain ⟨y249, h249, h⟩ := bnd h
  refine aw_iald 250 d_Pr_reckon_249 rfl h249 ?_
  refine aw_aload_n 251 d_Pr_reckon_250 rfl rfl ?_
  obtain ⟨y251, h251, h⟩ := bnd h
  refine aw_getR 254 d_Pr_reckon_251 rfl fg_Pr_20 rfl h251 ?_
  refine aw_iload 256 d_Pr_reckon_254 rfl rfl ?_
  refine aw_iconst (v := (1 : Int32)) 257 d_Pr_reckon_256 rfl (by decide) ?_
  refine aw_iadd 258 d_Pr_reckon_257 rfl ?_
  obtain ⟨y258, h258, h⟩ := bnd h
  refine aw_iald 259 d_Pr_reckon_258 rfl h258 ?_
  obtain ⟨y259, h259, h⟩ := bnd h
  refine aw_invS (rest := [.int (x4 + (-1 : Int32)), .ref y236]) (st' := [.int y259, .int (x4 + (-1 : Int32)), .ref y236]) (As := [.int x6, .int y249, .int y258]) 262 d_Pr_reckon_259 rfl ls_Pr_58 (m_Pr_reckoned h259) (by decide) rfl rfl (Nat.le_of_ble_eq_true rfl) rfl ?_
  obtain ⟨μ262, h262, h⟩ := bnd h
  refine aw_iast 263 d_Pr_reckon_262 rfl h262 ?_
  refine aw_iinc (v := (x5 + (1 : Int32))) (loc' := [some (.ref a0), none, some (.int x2), some (.ref a3), some (.int (x4 + (-1 : Int32))), some (.int (x5 + (1 : Int32))), some (.int x6), none]) 266 d_Pr_reckon_263 rfl (by decide) rfl rfl rfl ?_
  refine aw_goto 6 d_Pr_reckon_266 (by decide) ?_
  exact AW.wk [true, true, true, true, true, true, false, true] rfl (hk6 (x4 + (-1 : Int32)) (x5 + (1 : Int32)) μ262 h)
theorem l_Pr_reckon_6 {l : Launch} {μ0 : MM} {q : Int32 × MM} {a0 : Nat} {x2 : Int32} {a3 : Nat} : ∀ (n : Nat) (x4 : Int32) (x5 : Int32) (μ : MM), f_Pr_reckon_L6 a0 x2 a3 n x4 x5 μ = some q → AWm l Y_Pr_reckon 2 μ0 (some (.int q.1)) q.2 6 [some (.ref a0), none, some (.int x2), some (.ref a3), some (.int x4), some (.int x5), none, none] [] μ := by
  intro n
  induction n with
  | zero =>
    intro x4 x5 μ h
    have h : (none : Option (Int32 × MM)) = some q := h
    cases h
  | succ n ih =>
    intro x4 x5 μ h
    rw [f_Pr_reckon_L6] at h
    refine aw_iload 8 d_Pr_reckon_6 rfl rfl ?_
    refine aw_iload_n 9 d_Pr_reckon_8 rfl rfl ?_
    refine aw_icmp_ge 269 12 d_Pr_reckon_9 (by decide) rfl (fun c9 => ?_) (fun c9 => ?_)
    · have h := (if_pos c9).symm.trans h
      exact AW.wk [false, true, false, false, true, false, true, true] rfl (j_Pr_reckon_269 h)
    · have h := (if_neg c9).symm.trans h
      refine aw_iload 14 d_Pr_reckon_12 rfl rfl ?_
      refine aw_aload_n 15 d_Pr_reckon_14 rfl rfl ?_
      obtain ⟨y15, h15, h⟩ := bnd h
      refine aw_getI 18 d_Pr_reckon_15 rfl fg_Pr_32 (Or.inl rfl) h15 ?_
      refine aw_icmp_ge 269 21 d_Pr_reckon_18 (by decide) rfl (fun c18 => ?_) (fun c18 => ?_)
      · have h := (if_pos c18).symm.trans h
        exact AW.wk [false, true, false, false, true, false, true, true] rfl (j_Pr_reckon_269 h)
      · have h := (if_neg c18).symm.trans h
        refine aw_aload_n 22 d_Pr_reckon_21 rfl rfl ?_
        obtain ⟨y22, h22, h⟩ := bnd h
        refine aw_getR 25 d_Pr_reckon_22 rfl fg_Pr_11 rfl h22 ?_
        refine aw_iload 27 d_Pr_reckon_25 rfl rfl ?_
        obtain ⟨y27, h27, h⟩ := bnd h
        refine aw_iald 28 d_Pr_reckon_27 rfl h27 ?_
        refine aw_istore (loc' := [some (.ref a0), none, some (.int x2), some (.ref a3), some (.int x4), some (.int x5), some (.int y27), none]) 30 d_Pr_reckon_28 rfl (by decide) rfl ?_
        refine aw_aload_n 31 d_Pr_reckon_30 rfl rfl ?_
        obtain ⟨y31, h31, h⟩ := bnd h
        refine aw_getR 34 d_Pr_reckon_31 rfl fg_Pr_17 rfl h31 ?_
        refine aw_iload 36 d_Pr_reckon_34 rfl rfl ?_
        obtain ⟨y36, h36, h⟩ := bnd h
        refine aw_iald 37 d_Pr_reckon_36 rfl h36 ?_
        refine aw_istore (loc' := [some (.ref a0), none, some (.int x2), some (.ref a3), some (.int x4), some (.int x5), some (.int y27), some (.int y36)]) 39 d_Pr_reckon_37 rfl (by decide) rfl ?_
        refine aw_iload 41 d_Pr_reckon_39 rfl rfl ?_
        refine aw_if_eq 50 44 d_Pr_reckon_41 (by decide) rfl (fun c41 => ?_) (fun c41 => ?_)
        · have h := (if_pos c41).symm.trans h
          exact (j_Pr_reckon_50 ih h)
        · have h := (if_neg c41).symm.trans h
          refine aw_iload 46 d_Pr_reckon_44 rfl rfl ?_
          refine aw_iconst (v := (1 : Int32)) 47 d_Pr_reckon_46 rfl (by decide) ?_
          refine aw_icmp_ne 104 50 d_Pr_reckon_47 (by decide) rfl (fun c47 => ?_) (fun c47 => ?_)
          · have h := (if_neg c47).symm.trans h
            refine aw_iload 106 d_Pr_reckon_104 rfl rfl ?_
            refine aw_if_ge 111 109 d_Pr_reckon_106 (by decide) rfl (fun c106 => ?_) (fun c106 => ?_)
            · have h := (if_pos c106).symm.trans h
              refine aw_iload 113 d_Pr_reckon_111 rfl rfl ?_
              refine aw_bipush (v := (10 : Int32)) 115 d_Pr_reckon_113 rfl (by decide) ?_
              refine aw_icmp_ne 137 118 d_Pr_reckon_115 (by decide) rfl (fun c115 => ?_) (fun c115 => ?_)
              · have h := (if_neg c115).symm.trans h
                refine aw_iload 139 d_Pr_reckon_137 rfl rfl ?_
                refine aw_bipush (v := (11 : Int32)) 141 d_Pr_reckon_139 rfl (by decide) ?_
                refine aw_icmp_eq 151 144 d_Pr_reckon_141 (by decide) rfl (fun c141 => ?_) (fun c141 => ?_)
                · have h := (if_pos c141).symm.trans h
                  exact (j_Pr_reckon_151 ih h)
                · have h := (if_neg c141).symm.trans h
                  refine aw_iload 146 d_Pr_reckon_144 rfl rfl ?_
                  refine aw_bipush (v := (12 : Int32)) 148 d_Pr_reckon_146 rfl (by decide) ?_
                  refine aw_icmp_ne 201 151 d_Pr_reckon_148 (by decide) rfl (fun c148 => ?_) (fun c148 => ?_)
                  · have h := (if_neg c148).symm.trans h
                    refine aw_iload 203 d_Pr_reckon_201 rfl rfl ?_
                    refine aw_iconst (v := (1 : Int32)) 204 d_Pr_reckon_203 rfl (by decide) ?_
                    refine aw_icmp_lt 230 207 d_Pr_reckon_204 (by decide) rfl (fun c204 => ?_) (fun c204 => ?_)
                    · have h := (if_pos c204).symm.trans h
                      refine aw_iconst (v := (0 : Int32)) 231 d_Pr_reckon_230 rfl (by decide) ?_
                      cases h
                      exact aw_ireturn d_Pr_reckon_231 rfl nar0
                    · have h := (if_neg c204).symm.trans h
                      refine aw_aload_n 208 d_Pr_reckon_207 rfl rfl ?_
                      obtain ⟨y208, h208, h⟩ := bnd h
                      refine aw_getR 211 d_Pr_reckon_208 rfl fg_Pr_20 rfl h208 ?_
                      refine aw_iload 213 d_Pr_reckon_211 rfl rfl ?_
                      obtain ⟨y213, h213, h⟩ := bnd h
                      refine aw_iald 214 d_Pr_reckon_213 rfl h213 ?_
                      refine aw_if_ne 232 217 d_Pr_reckon_214 (by decide) rfl (fun c214 => ?_) (fun c214 => ?_)
                      · have h := (if_neg c214).symm.trans h
                        exact AW.wk [true, true, true, true, true, true, true, false] rfl (j_Pr_reckon_232 ih h)
                      · have h := (if_pos c214).symm.trans h
                        refine aw_iload 219 d_Pr_reckon_217 rfl rfl ?_
                        refine aw_iconst (v := (5 : Int32)) 220 d_Pr_reckon_219 rfl (by decide) ?_
                        refine aw_icmp_eq 230 223 d_Pr_reckon_220 (by decide) rfl (fun c220 => ?_) (fun c220 => ?_)
                        · have h := (if_pos c220).symm.trans h
                          refine aw_iconst (v := (0 : Int32)) 231 d_Pr_reckon_230 rfl (by decide) ?_
                          cases h
                          exact aw_ireturn d_Pr_reckon_231 rfl nar0
                        · have h := (if_neg c220).symm.trans h
                          refine aw_iload 225 d_Pr_reckon_223 rfl rfl ?_
                          refine aw_bipush (v := (6 : Int32)) 227 d_Pr_reckon_225 rfl (by decide) ?_
                          refine aw_icmp_ne 232 230 d_Pr_reckon_227 (by decide) rfl (fun c227 => ?_) (fun c227 => ?_)
                          · have h := (if_neg c227).symm.trans h
                            exact AW.wk [true, true, true, true, true, true, true, false] rfl (j_Pr_reckon_232 ih h)
                          · have h := (if_pos c227).symm.trans h
                            refine aw_iconst (v := (0 : Int32)) 231 d_Pr_reckon_230 rfl (by decide) ?_
                            cases h
                            exact aw_ireturn d_Pr_reckon_231 rfl nar0
                  · have h := (if_pos c148).symm.trans h
                    exact (j_Pr_reckon_151 ih h)
              · have h := (if_pos c115).symm.trans h
                refine aw_aload_n 119 d_Pr_reckon_118 rfl rfl ?_
                obtain ⟨y119, h119, h⟩ := bnd h
                refine aw_getR 122 d_Pr_reckon_119 rfl fg_Pr_20 rfl h119 ?_
                refine aw_iload 124 d_Pr_reckon_122 rfl rfl ?_
                refine aw_iconst (v := (1 : Int32)) 125 d_Pr_reckon_124 rfl (by decide) ?_
                refine aw_aload_n 126 d_Pr_reckon_125 rfl rfl ?_
                obtain ⟨y126, h126, h⟩ := bnd h
                refine aw_getR 129 d_Pr_reckon_126 rfl fg_Pr_20 rfl h126 ?_
                refine aw_iload 131 d_Pr_reckon_129 rfl rfl ?_
                obtain ⟨y131, h131, h⟩ := bnd h
                refine aw_iald 132 d_Pr_reckon_131 rfl h131 ?_
                refine aw_isub 133 d_Pr_reckon_132 rfl ?_
                obtain ⟨μ133, h133, h⟩ := bnd h
                refine aw_iast 134 d_Pr_reckon_133 rfl h133 ?_
                refine aw_goto 263 d_Pr_reckon_134 (by decide) ?_
                refine aw_iinc (v := (x5 + (1 : Int32))) (loc' := [some (.ref a0), none, some (.int x2), some (.ref a3), some (.int x4), some (.int (x5 + (1 : Int32))), some (.int y27), some (.int y36)]) 266 d_Pr_reckon_263 rfl (by decide) rfl rfl rfl ?_
                refine aw_goto 6 d_Pr_reckon_266 (by decide) ?_
                exact AW.wk [true, true, true, true, true, true, false, false] rfl (ih x4 (x5 + (1 : Int32)) μ133 h)
            · have h := (if_neg c106).symm.trans h
              refine aw_iconst (v := (0 : Int32)) 110 d_Pr_reckon_109 rfl (by decide) ?_
              cases h
              exact aw_ireturn d_Pr_reckon_110 rfl nar0
          · have h := (if_pos c47).symm.trans h
            exact (j_Pr_reckon_50 ih h)
theorem m_Pr_reckon {l : Launch} {q : Int32 × MM} {a0 : Nat} {x1 : Int32} {x2 : Int32} {a3 : Nat} {μ : MM} (h : f_Pr_reckon a0 x1 x2 a3 μ = some q) : AMet l 2 Y_Pr_reckon [.ref a0, .int x1, .int x2, .ref a3] μ (some (.int q.1)) q.2 := by
  refine AMet.of (loc := [some (.ref a0), some (.int x1), some (.int x2), some (.ref a3), none, none, none, none]) pn_Pr_reckon (Nat.le_of_ble_eq_true rfl) rfl ?_
  unfold f_Pr_reckon at h
  obtain ⟨_, hk, h⟩ := bnd h
  refine aw_iconst (v := (-1 : Int32)) 1 d_Pr_reckon_0 rfl (by decide) ?_
  refine aw_istore (loc' := [some (.ref a0), some (.int x1), some (.int x2), some (.ref a3), some (.int (-1 : Int32)), none, none, none]) 3 d_Pr_reckon_1 rfl (by decide) rfl ?_
  refine aw_iload_n 4 d_Pr_reckon_3 rfl rfl ?_
  refine aw_istore (loc' := [some (.ref a0), some (.int x1), some (.int x2), some (.ref a3), some (.int (-1 : Int32)), some (.int x1), none, none]) 6 d_Pr_reckon_4 rfl (by decide) rfl ?_
  exact AW.wk [true, false, true, true, true, true, true, true] rfl (l_Pr_reckon_6 FU _ _ _ h)
theorem k_Pr_reckon {q : Int32 × MM} {a0 : Nat} {x1 : Int32} {x2 : Int32} {a3 : Nat} {μ : MM} (h : f_Pr_reckon a0 x1 x2 a3 μ = some q) : μ.1[a0]? = some (0, 5) := by
  unfold f_Pr_reckon at h
  obtain ⟨_, h1, _⟩ := bnd h
  exact kO_some h1
theorem j_Pr_within_26 {l : Launch} {μ0 : MM} {q : Int32} {x1 : Int32} {x2 : Int32} {s0 : Int32} {μ : MM} (h : f_Pr_within_J26 x1 x2 s0 = some q) : AWm l Y_Pr_within 1 μ0 (some (.int q)) μ 26 [none, some (.int x1), some (.int x2), none] [.int s0] μ := by
  unfold f_Pr_within_J26 at h
  refine aw_istore_n (loc' := [none, some (.int x1), some (.int x2), some (.int s0)]) 27 d_Pr_within_26 rfl (by decide) rfl ?_
  refine aw_iload_n 28 d_Pr_within_27 rfl rfl ?_
  refine aw_iload_n 29 d_Pr_within_28 rfl rfl ?_
  refine aw_icmp_ge 36 32 d_Pr_within_29 (by decide) rfl (fun c29 => ?_) (fun c29 => ?_)
  · have h := (if_pos c29).symm.trans h
    refine aw_iload_n 37 d_Pr_within_36 rfl rfl ?_
    refine aw_iload_n 38 d_Pr_within_37 rfl rfl ?_
    refine aw_icmp_le 45 41 d_Pr_within_38 (by decide) rfl (fun c38 => ?_) (fun c38 => ?_)
    · have h := (if_pos c38).symm.trans h
      refine aw_iload_n 46 d_Pr_within_45 rfl rfl ?_
      cases h
      exact aw_ireturn d_Pr_within_46 rfl rfl
    · have h := (if_neg c38).symm.trans h
      refine aw_iload_n 42 d_Pr_within_41 rfl rfl ?_
      refine aw_goto 46 d_Pr_within_42 (by decide) ?_
      cases h
      exact aw_ireturn d_Pr_within_46 rfl rfl
  · have h := (if_neg c29).symm.trans h
    refine aw_iload_n 33 d_Pr_within_32 rfl rfl ?_
    refine aw_goto 46 d_Pr_within_33 (by decide) ?_
    cases h
    exact aw_ireturn d_Pr_within_46 rfl rfl
theorem j_Pr_within_12 {l : Launch} {μ0 : MM} {q : Int32} {x0 : Int32} {x1 : Int32} {s0 : Int32} {μ : MM} (h : f_Pr_within_J12 x0 x1 s0 = some q) : AWm l Y_Pr_within 1 μ0 (some (.int q)) μ 12 [some (.int x0), some (.int x1), none, none] [.int s0] μ := by
  unfold f_Pr_within_J12 at h
  refine aw_istore_n (loc' := [some (.int x0), some (.int x1), some (.int s0), none]) 13 d_Pr_within_12 rfl (by decide) rfl ?_
  refine aw_iload_n 14 d_Pr_within_13 rfl rfl ?_
  refine aw_iconst (v := (4 : Int32)) 15 d_Pr_within_14 rfl (by decide) ?_
  refine aw_icmp_ne 24 18 d_Pr_within_15 (by decide) rfl (fun c15 => ?_) (fun c15 => ?_)
  · have h := (if_neg c15).symm.trans h
    refine aw_bipush (v := (100 : Int32)) 26 d_Pr_within_24 rfl (by decide) ?_
    exact AW.wk [false, true, true, true] rfl (j_Pr_within_26 h)
  · have h := (if_pos c15).symm.trans h
    refine aw_sipush (v := (20000 : Int32)) 21 d_Pr_within_18 rfl (by decide) ?_
    refine aw_goto 26 d_Pr_within_21 (by decide) ?_
    exact AW.wk [false, true, true, true] rfl (j_Pr_within_26 h)
theorem m_Pr_within {l : Launch} {q : Int32} {x0 : Int32} {x1 : Int32} {μ : MM} (h : f_Pr_within x0 x1 = some q) : AMet l 1 Y_Pr_within [.int x0, .int x1] μ (some (.int q)) μ := by
  refine AMet.of (loc := [some (.int x0), some (.int x1), none, none]) pn_Pr_within (Nat.le_of_ble_eq_true rfl) rfl ?_
  unfold f_Pr_within at h
  refine aw_iload_n 1 d_Pr_within_0 rfl rfl ?_
  refine aw_iconst (v := (4 : Int32)) 2 d_Pr_within_1 rfl (by decide) ?_
  refine aw_icmp_ne 11 5 d_Pr_within_2 (by decide) rfl (fun c2 => ?_) (fun c2 => ?_)
  · have h := (if_neg c2).symm.trans h
    refine aw_iconst (v := (0 : Int32)) 12 d_Pr_within_11 rfl (by decide) ?_
    exact (j_Pr_within_12 h)
  · have h := (if_pos c2).symm.trans h
    refine aw_sipush (v := (-20000 : Int32)) 8 d_Pr_within_5 rfl (by decide) ?_
    refine aw_goto 12 d_Pr_within_8 (by decide) ?_
    exact (j_Pr_within_12 h)
theorem j_Pr_weigh_141 {l : Launch} {μ0 : MM} {q : MM} {a0 : Nat} {a1 : Nat} {a2 : Nat} {x3 : Int32} {x4 : Int32} {s0 : Nat} {s1 : Int32} {s2 : Int32} {μ : MM} {k10 : Int32 → Int32 → MM → Option (MM)} (hk10 : ∀ (x3 : Int32) (x4 : Int32) (μ : MM), k10 x3 x4 μ = some q → AWm l Y_Pr_weigh 3 μ0 none q 10 [some (.ref a0), some (.ref a1), some (.ref a2), some (.int x3), some (.int x4), none, none] [] μ) (h : f_Pr_weigh_J141 k10 a0 a1 a2 x3 x4 s0 s1 s2 μ = some q) : AWm l Y_Pr_weigh 3 μ0 none q 141 [some (.ref a0), some (.ref a1), some (.ref a2), some (.int x3), some (.int x4), none, none] [.int s2, .int s1, .ref s0] μ := by
  unfold f_Pr_weigh_J141 at h
  obtain ⟨μ141, h141, h⟩ := bnd h
  refine aw_iast 142 d_Pr_weigh_141 rfl h141 ?_
  refine aw_iinc (v := (x4 + (1 : Int32))) (loc' := [some (.ref a0), some (.ref a1), some (.ref a2), some (.int x3), some (.int (x4 + (1 : Int32))), none, none]) 145 d_Pr_weigh_142 rfl (by decide) rfl rfl rfl ?_
  refine aw_goto 10 d_Pr_weigh_145 (by decide) ?_
  exact (hk10 x3 (x4 + (1 : Int32)) μ141 h)
theorem j_Pr_weigh_54 {l : Launch} {μ0 : MM} {q : MM} {a0 : Nat} {a1 : Nat} {a2 : Nat} {x3 : Int32} {x4 : Int32} {x5 : Int32} {s0 : Int32} {μ : MM} {k10 : Int32 → Int32 → MM → Option (MM)} (hk10 : ∀ (x3 : Int32) (x4 : Int32) (μ : MM), k10 x3 x4 μ = some q → AWm l Y_Pr_weigh 3 μ0 none q 10 [some (.ref a0), some (.ref a1), some (.ref a2), some (.int x3), some (.int x4), none, none] [] μ) (h : f_Pr_weigh_J54 k10 a0 a1 a2 x3 x4 x5 s0 μ = some q) : AWm l Y_Pr_weigh 3 μ0 none q 54 [some (.ref a0), some (.ref a1), some (.ref a2), some (.int x3), some (.int x4), some (.int x5), none] [.int s0] μ := by
  unfold f_Pr_weigh_J54 at h
  refine aw_istore (loc' := [some (.ref a0), some (.ref a1), some (.ref a2), some (.int x3), some (.int x4), some (.int x5), some (.int s0)]) 56 d_Pr_weigh_54 rfl (by decide) rfl ?_
  refine aw_iload 58 d_Pr_weigh_56 rfl rfl ?_
  refine aw_if_eq 142 61 d_Pr_weigh_58 (by decide) rfl (fun c58 => ?_) (fun c58 => ?_)
  · have h := (if_pos c58).symm.trans h
    refine aw_iinc (v := (x4 + (1 : Int32))) (loc' := [some (.ref a0), some (.ref a1), some (.ref a2), some (.int x3), some (.int (x4 + (1 : Int32))), some (.int x5), some (.int s0)]) 145 d_Pr_weigh_142 rfl (by decide) rfl rfl rfl ?_
    refine aw_goto 10 d_Pr_weigh_145 (by decide) ?_
    exact AW.wk [true, true, true, true, true, false, false] rfl (hk10 x3 (x4 + (1 : Int32)) μ h)
  · have h := (if_neg c58).symm.trans h
    refine aw_aload_n 62 d_Pr_weigh_61 rfl rfl ?_
    refine aw_aload_n 63 d_Pr_weigh_62 rfl rfl ?_
    obtain ⟨y63, h63, h⟩ := bnd h
    refine aw_getR 66 d_Pr_weigh_63 rfl fg_Pr_29 rfl h63 ?_
    refine aw_iload 68 d_Pr_weigh_66 rfl rfl ?_
    obtain ⟨y68, h68, h⟩ := bnd h
    refine aw_iald 69 d_Pr_weigh_68 rfl h68 ?_
    refine aw_aload_n 70 d_Pr_weigh_69 rfl rfl ?_
    obtain ⟨y70, h70, h⟩ := bnd h
    refine aw_getR 73 d_Pr_weigh_70 rfl fg_Pr_26 rfl h70 ?_
    refine aw_iload 75 d_Pr_weigh_73 rfl rfl ?_
    refine aw_iconst (v := (1 : Int32)) 76 d_Pr_weigh_75 rfl (by decide) ?_
    refine aw_iadd 77 d_Pr_weigh_76 rfl ?_
    obtain ⟨y77, h77, h⟩ := bnd h
    refine aw_iald 78 d_Pr_weigh_77 rfl h77 ?_
    refine aw_aload_n 79 d_Pr_weigh_78 rfl rfl ?_
    obtain ⟨q79, h79, h⟩ := bnd h
    refine aw_invV (rest := []) (st' := [.int q79.1]) (As := [.int y68, .int y77, .ref a1]) 82 d_Pr_weigh_79 rfl lv_Pr_45 (m_Pr_reckon h79) (by decide) (k_Pr_reckon h79) rfl rfl rfl (Nat.le_of_ble_eq_true rfl) rfl ?_
    refine aw_if_eq 142 85 d_Pr_weigh_82 (by decide) rfl (fun c82 => ?_) (fun c82 => ?_)
    · have h := (if_pos c82).symm.trans h
      refine aw_iinc (v := (x4 + (1 : Int32))) (loc' := [some (.ref a0), some (.ref a1), some (.ref a2), some (.int x3), some (.int (x4 + (1 : Int32))), some (.int x5), some (.int s0)]) 145 d_Pr_weigh_142 rfl (by decide) rfl rfl rfl ?_
      refine aw_goto 10 d_Pr_weigh_145 (by decide) ?_
      exact AW.wk [true, true, true, true, true, false, false] rfl (hk10 x3 (x4 + (1 : Int32)) q79.2 h)
    · have h := (if_neg c82).symm.trans h
      refine aw_aload_n 86 d_Pr_weigh_85 rfl rfl ?_
      obtain ⟨y86, h86, h⟩ := bnd h
      refine aw_getR 89 d_Pr_weigh_86 rfl fg_Pr_20 rfl h86 ?_
      refine aw_iconst (v := (0 : Int32)) 90 d_Pr_weigh_89 rfl (by decide) ?_
      obtain ⟨y90, h90, h⟩ := bnd h
      refine aw_iald 91 d_Pr_weigh_90 rfl h90 ?_
      refine aw_if_eq 142 94 d_Pr_weigh_91 (by decide) rfl (fun c91 => ?_) (fun c91 => ?_)
      · have h := (if_pos c91).symm.trans h
        refine aw_iinc (v := (x4 + (1 : Int32))) (loc' := [some (.ref a0), some (.ref a1), some (.ref a2), some (.int x3), some (.int (x4 + (1 : Int32))), some (.int x5), some (.int s0)]) 145 d_Pr_weigh_142 rfl (by decide) rfl rfl rfl ?_
        refine aw_goto 10 d_Pr_weigh_145 (by decide) ?_
        exact AW.wk [true, true, true, true, true, false, false] rfl (hk10 x3 (x4 + (1 : Int32)) q79.2 h)
      · have h := (if_neg c91).symm.trans h
        refine aw_iload_n 95 d_Pr_weigh_94 rfl rfl ?_
        refine aw_iconst (v := (1 : Int32)) 96 d_Pr_weigh_95 rfl (by decide) ?_
        refine aw_iload 98 d_Pr_weigh_96 rfl rfl ?_
        refine aw_ishl 99 d_Pr_weigh_98 rfl ?_
        refine aw_ior 100 d_Pr_weigh_99 rfl ?_
        refine aw_istore_n (loc' := [some (.ref a0), some (.ref a1), some (.ref a2), some (.int (x3 ||| (ishl (1 : Int32) x5))), some (.int x4), some (.int x5), some (.int s0)]) 101 d_Pr_weigh_100 rfl (by decide) rfl ?_
        refine aw_aload_n 102 d_Pr_weigh_101 rfl rfl ?_
        refine aw_iload 104 d_Pr_weigh_102 rfl rfl ?_
        refine aw_aload_n 105 d_Pr_weigh_104 rfl rfl ?_
        refine aw_aload_n 106 d_Pr_weigh_105 rfl rfl ?_
        obtain ⟨y106, h106, h⟩ := bnd h
        refine aw_getR 109 d_Pr_weigh_106 rfl fg_Pr_26 rfl h106 ?_
        refine aw_iload 111 d_Pr_weigh_109 rfl rfl ?_
        obtain ⟨y111, h111, h⟩ := bnd h
        refine aw_iald 112 d_Pr_weigh_111 rfl h111 ?_
        refine aw_aload_n 113 d_Pr_weigh_112 rfl rfl ?_
        obtain ⟨y113, h113, h⟩ := bnd h
        refine aw_getR 116 d_Pr_weigh_113 rfl fg_Pr_29 rfl h113 ?_
        refine aw_iload 118 d_Pr_weigh_116 rfl rfl ?_
        obtain ⟨y118, h118, h⟩ := bnd h
        refine aw_iald 119 d_Pr_weigh_118 rfl h118 ?_
        refine aw_aload_n 120 d_Pr_weigh_119 rfl rfl ?_
        obtain ⟨q120, h120, h⟩ := bnd h
        refine aw_invV (rest := [.int x5, .ref a2]) (st' := [.int q120.1, .int x5, .ref a2]) (As := [.int y111, .int y118, .ref a1]) 123 d_Pr_weigh_120 rfl lv_Pr_45 (m_Pr_reckon h120) (by decide) (k_Pr_reckon h120) rfl rfl rfl (Nat.le_of_ble_eq_true rfl) rfl ?_
        refine aw_if_eq 140 126 d_Pr_weigh_123 (by decide) rfl (fun c123 => ?_) (fun c123 => ?_)
        · have h := (if_pos c123).symm.trans h
          refine aw_iconst (v := (0 : Int32)) 141 d_Pr_weigh_140 rfl (by decide) ?_
          exact AW.wk [true, true, true, true, true, false, false] rfl (j_Pr_weigh_141 hk10 h)
        · have h := (if_neg c123).symm.trans h
          refine aw_iload 128 d_Pr_weigh_126 rfl rfl ?_
          refine aw_aload_n 129 d_Pr_weigh_128 rfl rfl ?_
          obtain ⟨y129, h129, h⟩ := bnd h
          refine aw_getR 132 d_Pr_weigh_129 rfl fg_Pr_20 rfl h129 ?_
          refine aw_iconst (v := (0 : Int32)) 133 d_Pr_weigh_132 rfl (by decide) ?_
          obtain ⟨y133, h133, h⟩ := bnd h
          refine aw_iald 134 d_Pr_weigh_133 rfl h133 ?_
          obtain ⟨y134, h134, h⟩ := bnd h
          refine aw_invS (rest := [.int x5, .ref a2]) (st' := [.int y134, .int x5, .ref a2]) (As := [.int x5, .int y133]) 137 d_Pr_weigh_134 rfl ls_Pr_49 (m_Pr_within h134) (by decide) rfl rfl (Nat.le_of_ble_eq_true rfl) rfl ?_
          refine aw_goto 141 d_Pr_weigh_137 (by decide) ?_
          exact AW.wk [true, true, true, true, true, false, false] rfl (j_Pr_weigh_141 hk10 h)
theorem j_Pr_weigh_53 {l : Launch} {μ0 : MM} {q : MM} {a0 : Nat} {a1 : Nat} {a2 : Nat} {x3 : Int32} {x4 : Int32} {x5 : Int32} {μ : MM} {k10 : Int32 → Int32 → MM → Option (MM)} (hk10 : ∀ (x3 : Int32) (x4 : Int32) (μ : MM), k10 x3 x4 μ = some q → AWm l Y_Pr_weigh 3 μ0 none q 10 [some (.ref a0), some (.ref a1), some (.ref a2), some (.int x3), some (.int x4), none, none] [] μ) (h : f_Pr_weigh_J53 k10 a0 a1 a2 x3 x4 x5 μ = some q) : AWm l Y_Pr_weigh 3 μ0 none q 53 [some (.ref a0), some (.ref a1), some (.ref a2), some (.int x3), some (.int x4), some (.int x5), none] [] μ := by
  unfold f_Pr_weigh_J53 at h
  refine aw_iconst (v := (0 : Int32)) 54 d_Pr_weigh_53 rfl (by decide) ?_
  exact (j_Pr_weigh_54 hk10 h)
theorem l_Pr_weigh_10 {l : Launch} {μ0 : MM} {q : MM} {a0 : Nat} {a1 : Nat} {a2 : Nat} : ∀ (n : Nat) (x3 : Int32) (x4 : Int32) (μ : MM), f_Pr_weigh_L10 a0 a1 a2 n x3 x4 μ = some q → AWm l Y_Pr_weigh 3 μ0 none q 10 [some (.ref a0), some (.ref a1), some (.ref a2), some (.int x3), some (.int x4), none, none] [] μ := by
  intro n
  induction n with
  | zero =>
    intro x3 x4 μ h
    have h : (none : Option (MM)) = some q := h
    cases h
  | succ n ih =>
    intro x3 x4 μ h
    rw [f_Pr_weigh_L10] at h
    refine aw_iload 12 d_Pr_weigh_10 rfl rfl ?_
    refine aw_aload_n 13 d_Pr_weigh_12 rfl rfl ?_
    obtain ⟨y13, h13, h⟩ := bnd h
    refine aw_getI 16 d_Pr_weigh_13 rfl fg_Pr_36 (Or.inl rfl) h13 ?_
    refine aw_icmp_ge 148 19 d_Pr_weigh_16 (by decide) rfl (fun c16 => ?_) (fun c16 => ?_)
    · have h := (if_pos c16).symm.trans h
      cases h
      exact aw_return d_Pr_weigh_148 rfl
    · have h := (if_neg c16).symm.trans h
      refine aw_aload_n 20 d_Pr_weigh_19 rfl rfl ?_
      obtain ⟨y20, h20, h⟩ := bnd h
      refine aw_getR 23 d_Pr_weigh_20 rfl fg_Pr_23 rfl h20 ?_
      refine aw_iload 25 d_Pr_weigh_23 rfl rfl ?_
      obtain ⟨y25, h25, h⟩ := bnd h
      refine aw_iald 26 d_Pr_weigh_25 rfl h25 ?_
      refine aw_istore (loc' := [some (.ref a0), some (.ref a1), some (.ref a2), some (.int x3), some (.int x4), some (.int y25), none]) 28 d_Pr_weigh_26 rfl (by decide) rfl ?_
      refine aw_iload 30 d_Pr_weigh_28 rfl rfl ?_
      refine aw_if_lt 53 33 d_Pr_weigh_30 (by decide) rfl (fun c30 => ?_) (fun c30 => ?_)
      · have h := (if_pos c30).symm.trans h
        exact (j_Pr_weigh_53 ih h)
      · have h := (if_neg c30).symm.trans h
        refine aw_iload 35 d_Pr_weigh_33 rfl rfl ?_
        refine aw_aload_n 36 d_Pr_weigh_35 rfl rfl ?_
        obtain ⟨y36, h36, h⟩ := bnd h
        refine aw_alen 37 d_Pr_weigh_36 rfl h36 ?_
        refine aw_icmp_ge 53 40 d_Pr_weigh_37 (by decide) rfl (fun c37 => ?_) (fun c37 => ?_)
        · have h := (if_pos c37).symm.trans h
          exact (j_Pr_weigh_53 ih h)
        · have h := (if_neg c37).symm.trans h
          refine aw_iload_n 41 d_Pr_weigh_40 rfl rfl ?_
          refine aw_iload 43 d_Pr_weigh_41 rfl rfl ?_
          refine aw_ishr 44 d_Pr_weigh_43 rfl ?_
          refine aw_iconst (v := (1 : Int32)) 45 d_Pr_weigh_44 rfl (by decide) ?_
          refine aw_iand 46 d_Pr_weigh_45 rfl ?_
          refine aw_if_ne 53 49 d_Pr_weigh_46 (by decide) rfl (fun c46 => ?_) (fun c46 => ?_)
          · have h := (if_neg c46).symm.trans h
            exact (j_Pr_weigh_53 ih h)
          · have h := (if_pos c46).symm.trans h
            refine aw_iconst (v := (1 : Int32)) 50 d_Pr_weigh_49 rfl (by decide) ?_
            refine aw_goto 54 d_Pr_weigh_50 (by decide) ?_
            exact (j_Pr_weigh_54 ih h)
theorem m_Pr_weigh {l : Launch} {q : MM} {a0 : Nat} {a1 : Nat} {a2 : Nat} {μ : MM} (h : f_Pr_weigh a0 a1 a2 μ = some q) : AMet l 3 Y_Pr_weigh [.ref a0, .ref a1, .ref a2] μ none q := by
  refine AMet.of (loc := [some (.ref a0), some (.ref a1), some (.ref a2), none, none, none, none]) pn_Pr_weigh (Nat.le_of_ble_eq_true rfl) rfl ?_
  unfold f_Pr_weigh at h
  obtain ⟨_, hk, h⟩ := bnd h
  refine aw_iconst (v := (0 : Int32)) 1 d_Pr_weigh_0 rfl (by decide) ?_
  refine aw_istore_n (loc' := [some (.ref a0), some (.ref a1), some (.ref a2), some (.int (0 : Int32)), none, none, none]) 2 d_Pr_weigh_1 rfl (by decide) rfl ?_
  refine aw_aload_n 3 d_Pr_weigh_2 rfl rfl ?_
  refine aw_iconst (v := (0 : Int32)) 4 d_Pr_weigh_3 rfl (by decide) ?_
  obtain ⟨μ4, h4, h⟩ := bnd h
  refine aw_invS (rest := []) (st' := []) (As := [.ref a2, .int (0 : Int32)]) 7 d_Pr_weigh_4 rfl ls_Pr_39 (m_Ar_fill_AI h4) (by decide) rfl rfl (Nat.le_of_ble_eq_true rfl) rfl ?_
  refine aw_iconst (v := (0 : Int32)) 8 d_Pr_weigh_7 rfl (by decide) ?_
  refine aw_istore (loc' := [some (.ref a0), some (.ref a1), some (.ref a2), some (.int (0 : Int32)), some (.int (0 : Int32)), none, none]) 10 d_Pr_weigh_8 rfl (by decide) rfl ?_
  exact (l_Pr_weigh_10 FU _ _ _ h)
theorem k_Pr_weigh {q : MM} {a0 : Nat} {a1 : Nat} {a2 : Nat} {μ : MM} (h : f_Pr_weigh a0 a1 a2 μ = some q) : μ.1[a0]? = some (0, 5) := by
  unfold f_Pr_weigh at h
  obtain ⟨_, h1, _⟩ := bnd h
  exact kO_some h1
theorem m_Ch_heard {l : Launch} {q : Int32} {x0 : Int32} {x1 : Int32} {x2 : Int32} {μ : MM} (h : f_Ch_heard x0 x1 x2 = some q) : AMet l 2 Y_Ch_heard [.int x0, .int x1, .int x2] μ (some (.int q)) μ := by
  refine AMet.of (loc := [some (.int x0), some (.int x1), some (.int x2), none]) pn_Ch_heard (Nat.le_of_ble_eq_true rfl) rfl ?_
  unfold f_Ch_heard at h
  refine aw_bipush (v := (8 : Int32)) 2 d_Ch_heard_0 rfl (by decide) ?_
  refine aw_iload_n 3 d_Ch_heard_2 rfl rfl ?_
  refine aw_iload_n 4 d_Ch_heard_3 rfl rfl ?_
  refine aw_isub 5 d_Ch_heard_4 rfl ?_
  obtain ⟨y5, h5, h⟩ := bnd h
  refine aw_invS (rest := [.int (8 : Int32)]) (st' := [.int y5, .int (8 : Int32)]) (As := [.int (x1 - x2)]) 8 d_Ch_heard_5 rfl ls_Ch_72 (m_Mt_abs_I h5) (by decide) rfl rfl (Nat.le_of_ble_eq_true rfl) rfl ?_
  refine aw_isub 9 d_Ch_heard_8 rfl ?_
  refine aw_istore_n (loc' := [some (.int x0), some (.int x1), some (.int x2), some (.int ((8 : Int32) - y5))]) 10 d_Ch_heard_9 rfl (by decide) rfl ?_
  refine aw_iload_n 11 d_Ch_heard_10 rfl rfl ?_
  refine aw_if_le 20 14 d_Ch_heard_11 (by decide) rfl (fun c11 => ?_) (fun c11 => ?_)
  · have h := (if_pos c11).symm.trans h
    refine aw_iconst (v := (0 : Int32)) 21 d_Ch_heard_20 rfl (by decide) ?_
    cases h
    exact aw_ireturn d_Ch_heard_21 rfl rfl
  · have h := (if_neg c11).symm.trans h
    refine aw_iload_n 15 d_Ch_heard_14 rfl rfl ?_
    refine aw_iload_n 16 d_Ch_heard_15 rfl rfl ?_
    refine aw_imul 17 d_Ch_heard_16 rfl ?_
    refine aw_goto 21 d_Ch_heard_17 (by decide) ?_
    cases h
    exact aw_ireturn d_Ch_heard_21 rfl rfl
theorem m_Si_millsOf {l : Launch} {q : Int64} {a0 : Nat} {x1 : Int32} {x2 : Int32} {μ : MM} (h : f_Si_millsOf a0 x1 x2 μ = some q) : AMet l 2 Y_Si_millsOf [.ref a0, .int x1, .int x2] μ (some (.long q)) μ := by
  refine AMet.of (loc := [some (.ref a0), some (.int x1), some (.int x2)]) pn_Si_millsOf (Nat.le_of_ble_eq_true rfl) rfl ?_
  unfold f_Si_millsOf at h
  obtain ⟨_, hk, h⟩ := bnd h
  refine aw_aload_n 1 d_Si_millsOf_0 rfl rfl ?_
  obtain ⟨y1, h1, h⟩ := bnd h
  refine aw_getR 4 d_Si_millsOf_1 rfl fg_Si_42 rfl h1 ?_
  obtain ⟨y4, h4, h⟩ := bnd h
  refine aw_getR 7 d_Si_millsOf_4 rfl fg_Si_173 rfl h4 ?_
  refine aw_aload_n 8 d_Si_millsOf_7 rfl rfl ?_
  obtain ⟨y8, h8, h⟩ := bnd h
  refine aw_getR 11 d_Si_millsOf_8 rfl fg_Si_46 rfl h8 ?_
  obtain ⟨y11, h11, h⟩ := bnd h
  refine aw_getR 14 d_Si_millsOf_11 rfl fg_Si_133 rfl h11 ?_
  refine aw_iload_n 15 d_Si_millsOf_14 rfl rfl ?_
  obtain ⟨y15, h15, h⟩ := bnd h
  refine aw_iald 16 d_Si_millsOf_15 rfl h15 ?_
  refine aw_iload_n 17 d_Si_millsOf_16 rfl rfl ?_
  obtain ⟨y17, h17, h⟩ := bnd h
  refine aw_invS (rest := [.ref y4]) (st' := [.int y17, .ref y4]) (As := [.int y15, .int x2]) 20 d_Si_millsOf_17 rfl ls_Si_141 (m_Sc_cell h17) (by decide) rfl rfl (Nat.le_of_ble_eq_true rfl) rfl ?_
  obtain ⟨y20, h20, h⟩ := bnd h
  refine aw_iald 21 d_Si_millsOf_20 rfl h20 ?_
  refine aw_i2l 22 d_Si_millsOf_21 rfl ?_
  cases h
  exact aw_lreturn d_Si_millsOf_22 rfl
theorem k_Si_millsOf {q : Int64} {a0 : Nat} {x1 : Int32} {x2 : Int32} {μ : MM} (h : f_Si_millsOf a0 x1 x2 μ = some q) : μ.1[a0]? = some (0, 9) := by
  unfold f_Si_millsOf at h
  obtain ⟨_, h1, _⟩ := bnd h
  exact kO_some h1
theorem m_Si_givenIn {l : Launch} {q : Int32} {a0 : Nat} {x1 : Int32} {μ : MM} (h : f_Si_givenIn a0 x1 μ = some q) : AMet l 1 Y_Si_givenIn [.ref a0, .int x1] μ (some (.int q)) μ := by
  refine AMet.of (loc := [some (.ref a0), some (.int x1), none]) pn_Si_givenIn (Nat.le_of_ble_eq_true rfl) rfl ?_
  unfold f_Si_givenIn at h
  obtain ⟨_, hk, h⟩ := bnd h
  refine aw_aload_n 1 d_Si_givenIn_0 rfl rfl ?_
  obtain ⟨y1, h1, h⟩ := bnd h
  refine aw_getI 4 d_Si_givenIn_1 rfl fg_Si_64 (Or.inl rfl) h1 ?_
  refine aw_iconst (v := (2 : Int32)) 5 d_Si_givenIn_4 rfl (by decide) ?_
  refine aw_iload_n 6 d_Si_givenIn_5 rfl rfl ?_
  refine aw_ishl 7 d_Si_givenIn_6 rfl ?_
  refine aw_iconst (v := (1 : Int32)) 8 d_Si_givenIn_7 rfl (by decide) ?_
  refine aw_isub 9 d_Si_givenIn_8 rfl ?_
  refine aw_iand 10 d_Si_givenIn_9 rfl ?_
  refine aw_istore_n (loc' := [some (.ref a0), some (.int x1), some (.int (y1 &&& ((ishl (2 : Int32) x1) - (1 : Int32))))]) 11 d_Si_givenIn_10 rfl (by decide) rfl ?_
  refine aw_iload_n 12 d_Si_givenIn_11 rfl rfl ?_
  refine aw_if_ne 25 15 d_Si_givenIn_12 (by decide) rfl (fun c12 => ?_) (fun c12 => ?_)
  · have h := (if_neg c12).symm.trans h
    refine aw_iconst (v := (0 : Int32)) 26 d_Si_givenIn_25 rfl (by decide) ?_
    cases h
    exact aw_ireturn d_Si_givenIn_26 rfl rfl
  · have h := (if_pos c12).symm.trans h
    refine aw_aload_n 16 d_Si_givenIn_15 rfl rfl ?_
    obtain ⟨y16, h16, h⟩ := bnd h
    refine aw_getR 19 d_Si_givenIn_16 rfl fg_Si_46 rfl h16 ?_
    obtain ⟨y19, h19, h⟩ := bnd h
    refine aw_getI 22 d_Si_givenIn_19 rfl fg_Si_176 (Or.inl rfl) h19 ?_
    refine aw_goto 26 d_Si_givenIn_22 (by decide) ?_
    cases h
    exact aw_ireturn d_Si_givenIn_26 rfl rfl
theorem k_Si_givenIn {q : Int32} {a0 : Nat} {x1 : Int32} {μ : MM} (h : f_Si_givenIn a0 x1 μ = some q) : μ.1[a0]? = some (0, 9) := by
  unfold f_Si_givenIn at h
  obtain ⟨_, h1, _⟩ := bnd h
  exact kO_some h1
theorem j_Si_aim_238 {l : Launch} {μ0 : MM} {q : MM} {a0 : Nat} {x1 : Int32} {x2 : Int32} {s0 : Nat} {s1 : Int32} {s2 : Int64} {μ : MM} (h : f_Si_aim_J238 a0 x1 x2 s0 s1 s2 μ = some q) : AWm l Y_Si_aim 4 μ0 none q 238 [some (.ref a0), some (.int x1), some (.int x2), none, none, none, none, none, none, none, none, none] [.long s2, .int s1, .ref s0] μ := by
  unfold f_Si_aim_J238 at h
  obtain ⟨μ238, h238, h⟩ := bnd h
  refine aw_last 239 d_Si_aim_238 rfl h238 ?_
  refine aw_aload_n 240 d_Si_aim_239 rfl rfl ?_
  obtain ⟨y240, h240, h⟩ := bnd h
  refine aw_getR 243 d_Si_aim_240 rfl fg_Si_38 rfl h240 ?_
  refine aw_iconst (v := (2 : Int32)) 244 d_Si_aim_243 rfl (by decide) ?_
  refine aw_iconst (v := (1 : Int32)) 245 d_Si_aim_244 rfl (by decide) ?_
  obtain ⟨μ245, h245, h⟩ := bnd h
  refine aw_bast 246 d_Si_aim_245 rfl h245 ?_
  refine aw_aload_n 247 d_Si_aim_246 rfl rfl ?_
  obtain ⟨y247, h247, h⟩ := bnd h
  refine aw_getR 250 d_Si_aim_247 rfl fg_Si_35 rfl h247 ?_
  refine aw_iconst (v := (2 : Int32)) 251 d_Si_aim_250 rfl (by decide) ?_
  refine aw_aload_n 252 d_Si_aim_251 rfl rfl ?_
  refine aw_iload_n 253 d_Si_aim_252 rfl rfl ?_
  refine aw_iload_n 254 d_Si_aim_253 rfl rfl ?_
  obtain ⟨y254, h254, h⟩ := bnd h
  refine aw_invV (rest := [.int (2 : Int32), .ref y247]) (st' := [.long y254, .int (2 : Int32), .ref y247]) (As := [.int x1, .int x2]) 257 d_Si_aim_254 rfl lv_Si_106 (m_Si_tableOf h254) (by decide) (k_Si_tableOf h254) rfl rfl rfl (Nat.le_of_ble_eq_true rfl) rfl ?_
  refine aw_aload_n 258 d_Si_aim_257 rfl rfl ?_
  refine aw_iload_n 259 d_Si_aim_258 rfl rfl ?_
  obtain ⟨y259, h259, h⟩ := bnd h
  refine aw_invV (rest := [.long y254, .int (2 : Int32), .ref y247]) (st' := [.int y259, .long y254, .int (2 : Int32), .ref y247]) (As := [.int x2]) 262 d_Si_aim_259 rfl lv_Si_186 (m_Si_givenIn h259) (by decide) (k_Si_givenIn h259) rfl rfl rfl (Nat.le_of_ble_eq_true rfl) rfl ?_
  refine aw_i2l 263 d_Si_aim_262 rfl ?_
  refine aw_ladd 264 d_Si_aim_263 rfl ?_
  obtain ⟨μ264, h264, h⟩ := bnd h
  refine aw_last 265 d_Si_aim_264 rfl h264 ?_
  refine aw_aload_n 266 d_Si_aim_265 rfl rfl ?_
  obtain ⟨y266, h266, h⟩ := bnd h
  refine aw_getR 269 d_Si_aim_266 rfl fg_Si_38 rfl h266 ?_
  refine aw_iconst (v := (3 : Int32)) 270 d_Si_aim_269 rfl (by decide) ?_
  refine aw_aload_n 271 d_Si_aim_270 rfl rfl ?_
  refine aw_iload_n 272 d_Si_aim_271 rfl rfl ?_
  obtain ⟨y272, h272, h⟩ := bnd h
  refine aw_invV (rest := [.int (3 : Int32), .ref y266]) (st' := [.int y272, .int (3 : Int32), .ref y266]) (As := [.int x1]) 275 d_Si_aim_272 rfl lv_Si_144 (m_Si_isKnowing h272) (by decide) (k_Si_isKnowing h272) rfl rfl rfl (Nat.le_of_ble_eq_true rfl) rfl ?_
  obtain ⟨μ275, h275, h⟩ := bnd h
  refine aw_bast 276 d_Si_aim_275 rfl h275 ?_
  refine aw_aload_n 277 d_Si_aim_276 rfl rfl ?_
  obtain ⟨y277, h277, h⟩ := bnd h
  refine aw_getR 280 d_Si_aim_277 rfl fg_Si_35 rfl h277 ?_
  refine aw_iconst (v := (3 : Int32)) 281 d_Si_aim_280 rfl (by decide) ?_
  refine aw_aload_n 282 d_Si_aim_281 rfl rfl ?_
  refine aw_iload_n 283 d_Si_aim_282 rfl rfl ?_
  refine aw_iload_n 284 d_Si_aim_283 rfl rfl ?_
  obtain ⟨y284, h284, h⟩ := bnd h
  refine aw_invV (rest := [.int (3 : Int32), .ref y277]) (st' := [.long y284, .int (3 : Int32), .ref y277]) (As := [.int x1, .int x2]) 287 d_Si_aim_284 rfl lv_Si_106 (m_Si_tableOf h284) (by decide) (k_Si_tableOf h284) rfl rfl rfl (Nat.le_of_ble_eq_true rfl) rfl ?_
  obtain ⟨μ287, h287, h⟩ := bnd h
  refine aw_last 288 d_Si_aim_287 rfl h287 ?_
  cases h
  exact aw_return d_Si_aim_288 rfl
theorem j_Si_aim_196 {l : Launch} {μ0 : MM} {q : MM} {a0 : Nat} {x1 : Int32} {x2 : Int32} {x3 : Int32} {x4 : Int64} {s0 : Int32} {μ : MM} (h : f_Si_aim_J196 a0 x1 x2 x3 x4 s0 μ = some q) : AWm l Y_Si_aim 4 μ0 none q 196 [some (.ref a0), some (.int x1), some (.int x2), some (.int x3), some (.long x4), none, none, none, none, none, none, none] [.int s0] μ := by
  unfold f_Si_aim_J196 at h
  refine aw_istore (loc' := [some (.ref a0), some (.int x1), some (.int x2), some (.int x3), some (.long x4), none, none, none, none, none, some (.int s0), none]) 198 d_Si_aim_196 rfl (by decide) rfl ?_
  refine aw_aload_n 199 d_Si_aim_198 rfl rfl ?_
  obtain ⟨y199, h199, h⟩ := bnd h
  refine aw_getR 202 d_Si_aim_199 rfl fg_Si_35 rfl h199 ?_
  refine aw_iconst (v := (1 : Int32)) 203 d_Si_aim_202 rfl (by decide) ?_
  refine aw_iload_n 204 d_Si_aim_203 rfl rfl ?_
  refine aw_iconst (v := (-1 : Int32)) 205 d_Si_aim_204 rfl (by decide) ?_
  refine aw_icmp_ne 212 208 d_Si_aim_205 (by decide) rfl (fun c205 => ?_) (fun c205 => ?_)
  · have h := (if_neg c205).symm.trans h
    refine aw_iload 214 d_Si_aim_212 rfl rfl ?_
    refine aw_if_eq 222 217 d_Si_aim_214 (by decide) rfl (fun c214 => ?_) (fun c214 => ?_)
    · have h := (if_pos c214).symm.trans h
      refine aw_lload 224 d_Si_aim_222 rfl rfl ?_
      refine aw_aload_n 225 d_Si_aim_224 rfl rfl ?_
      refine aw_iload_n 226 d_Si_aim_225 rfl rfl ?_
      refine aw_iload_n 227 d_Si_aim_226 rfl rfl ?_
      obtain ⟨y227, h227, h⟩ := bnd h
      refine aw_invV (rest := [.long x4, .int (1 : Int32), .ref y199]) (st' := [.long y227, .long x4, .int (1 : Int32), .ref y199]) (As := [.int x1, .int x2]) 230 d_Si_aim_227 rfl lv_Si_183 (m_Si_millsOf h227) (by decide) (k_Si_millsOf h227) rfl rfl rfl (Nat.le_of_ble_eq_true rfl) rfl ?_
      refine aw_ladd 231 d_Si_aim_230 rfl ?_
      refine aw_aload_n 232 d_Si_aim_231 rfl rfl ?_
      refine aw_iload_n 233 d_Si_aim_232 rfl rfl ?_
      refine aw_iload_n 234 d_Si_aim_233 rfl rfl ?_
      obtain ⟨y234, h234, h⟩ := bnd h
      refine aw_invV (rest := [.long (x4 + y227), .int (1 : Int32), .ref y199]) (st' := [.long y234, .long (x4 + y227), .int (1 : Int32), .ref y199]) (As := [.int x1, .int x3]) 237 d_Si_aim_234 rfl lv_Si_183 (m_Si_millsOf h234) (by decide) (k_Si_millsOf h234) rfl rfl rfl (Nat.le_of_ble_eq_true rfl) rfl ?_
      refine aw_lsub 238 d_Si_aim_237 rfl ?_
      exact AW.wk [true, true, true, false, false, true, true, true, true, true, false, true] rfl (j_Si_aim_238 h)
    · have h := (if_neg c214).symm.trans h
      refine aw_lload 219 d_Si_aim_217 rfl rfl ?_
      refine aw_goto 238 d_Si_aim_219 (by decide) ?_
      exact AW.wk [true, true, true, false, false, true, true, true, true, true, false, true] rfl (j_Si_aim_238 h)
  · have h := (if_pos c205).symm.trans h
    refine aw_lconst (v := (0 : Int64)) 209 d_Si_aim_208 rfl (by decide) ?_
    refine aw_goto 238 d_Si_aim_209 (by decide) ?_
    exact AW.wk [true, true, true, false, false, true, true, true, true, true, false, true] rfl (j_Si_aim_238 h)
theorem j_Si_aim_195 {l : Launch} {μ0 : MM} {q : MM} {a0 : Nat} {x1 : Int32} {x2 : Int32} {x3 : Int32} {x4 : Int64} {μ : MM} (h : f_Si_aim_J195 a0 x1 x2 x3 x4 μ = some q) : AWm l Y_Si_aim 4 μ0 none q 195 [some (.ref a0), some (.int x1), some (.int x2), some (.int x3), some (.long x4), none, none, none, none, none, none, none] [] μ := by
  unfold f_Si_aim_J195 at h
  refine aw_iconst (v := (0 : Int32)) 196 d_Si_aim_195 rfl (by decide) ?_
  exact (j_Si_aim_196 h)
theorem j_Si_aim_163 {l : Launch} {μ0 : MM} {q : MM} {a0 : Nat} {x1 : Int32} {x2 : Int32} {x3 : Int32} {x4 : Int64} {s0 : Nat} {s1 : Int32} {s2 : Int32} {μ : MM} (h : f_Si_aim_J163 a0 x1 x2 x3 x4 s0 s1 s2 μ = some q) : AWm l Y_Si_aim 4 μ0 none q 163 [some (.ref a0), some (.int x1), some (.int x2), some (.int x3), some (.long x4), none, none, none, none, none, none, none] [.int s2, .int s1, .ref s0] μ := by
  unfold f_Si_aim_J163 at h
  obtain ⟨μ163, h163, h⟩ := bnd h
  refine aw_bast 164 d_Si_aim_163 rfl h163 ?_
  refine aw_iload_n 165 d_Si_aim_164 rfl rfl ?_
  refine aw_iload_n 166 d_Si_aim_165 rfl rfl ?_
  refine aw_iconst (v := (1 : Int32)) 167 d_Si_aim_166 rfl (by decide) ?_
  refine aw_isub 168 d_Si_aim_167 rfl ?_
  refine aw_icmp_ne 195 171 d_Si_aim_168 (by decide) rfl (fun c168 => ?_) (fun c168 => ?_)
  · have h := (if_neg c168).symm.trans h
    exact (j_Si_aim_195 h)
  · have h := (if_pos c168).symm.trans h
    refine aw_aload_n 172 d_Si_aim_171 rfl rfl ?_
    obtain ⟨y172, h172, h⟩ := bnd h
    refine aw_getR 175 d_Si_aim_172 rfl fg_Si_42 rfl h172 ?_
    refine aw_aload_n 176 d_Si_aim_175 rfl rfl ?_
    obtain ⟨y176, h176, h⟩ := bnd h
    refine aw_getR 179 d_Si_aim_176 rfl fg_Si_46 rfl h176 ?_
    obtain ⟨y179, h179, h⟩ := bnd h
    refine aw_getR 182 d_Si_aim_179 rfl fg_Si_133 rfl h179 ?_
    refine aw_iload_n 183 d_Si_aim_182 rfl rfl ?_
    obtain ⟨y183, h183, h⟩ := bnd h
    refine aw_iald 184 d_Si_aim_183 rfl h183 ?_
    refine aw_iload_n 185 d_Si_aim_184 rfl rfl ?_
    obtain ⟨y185, h185, h⟩ := bnd h
    refine aw_invV (rest := []) (st' := [.int y185]) (As := [.int y183, .int x2]) 188 d_Si_aim_185 rfl lv_Si_151 (m_Sc_holds h185) (by decide) (k_Sc_holds h185) rfl rfl rfl (Nat.le_of_ble_eq_true rfl) rfl ?_
    refine aw_if_eq 195 191 d_Si_aim_188 (by decide) rfl (fun c188 => ?_) (fun c188 => ?_)
    · have h := (if_pos c188).symm.trans h
      exact (j_Si_aim_195 h)
    · have h := (if_neg c188).symm.trans h
      refine aw_iconst (v := (1 : Int32)) 192 d_Si_aim_191 rfl (by decide) ?_
      refine aw_goto 196 d_Si_aim_192 (by decide) ?_
      exact (j_Si_aim_196 h)
theorem j_Si_aim_147 {l : Launch} {μ0 : MM} {q : MM} {a0 : Nat} {x1 : Int32} {x2 : Int32} {x3 : Int32} {x4 : Int64} {s0 : Nat} {s1 : Int32} {s2 : Int64} {μ : MM} (h : f_Si_aim_J147 a0 x1 x2 x3 x4 s0 s1 s2 μ = some q) : AWm l Y_Si_aim 4 μ0 none q 147 [some (.ref a0), some (.int x1), some (.int x2), some (.int x3), some (.long x4), none, none, none, none, none, none, none] [.long s2, .int s1, .ref s0] μ := by
  unfold f_Si_aim_J147 at h
  obtain ⟨μ147, h147, h⟩ := bnd h
  refine aw_last 148 d_Si_aim_147 rfl h147 ?_
  refine aw_aload_n 149 d_Si_aim_148 rfl rfl ?_
  obtain ⟨y149, h149, h⟩ := bnd h
  refine aw_getR 152 d_Si_aim_149 rfl fg_Si_38 rfl h149 ?_
  refine aw_iconst (v := (1 : Int32)) 153 d_Si_aim_152 rfl (by decide) ?_
  refine aw_iload_n 154 d_Si_aim_153 rfl rfl ?_
  refine aw_iconst (v := (-1 : Int32)) 155 d_Si_aim_154 rfl (by decide) ?_
  refine aw_icmp_eq 162 158 d_Si_aim_155 (by decide) rfl (fun c155 => ?_) (fun c155 => ?_)
  · have h := (if_pos c155).symm.trans h
    refine aw_iconst (v := (0 : Int32)) 163 d_Si_aim_162 rfl (by decide) ?_
    exact (j_Si_aim_163 h)
  · have h := (if_neg c155).symm.trans h
    refine aw_iconst (v := (1 : Int32)) 159 d_Si_aim_158 rfl (by decide) ?_
    refine aw_goto 163 d_Si_aim_159 (by decide) ?_
    exact (j_Si_aim_163 h)
theorem j_Si_aim_123 {l : Launch} {μ0 : MM} {q : MM} {a0 : Nat} {x1 : Int32} {x2 : Int32} {x3 : Int32} {x4 : Int64} {x6 : Int64} {x8 : Int64} {s0 : Nat} {s1 : Int32} {s2 : Int32} {μ : MM} (h : f_Si_aim_J123 a0 x1 x2 x3 x4 x6 x8 s0 s1 s2 μ = some q) : AWm l Y_Si_aim 4 μ0 none q 123 [some (.ref a0), some (.int x1), some (.int x2), some (.int x3), some (.long x4), none, some (.long x6), none, some (.long x8), none, none, none] [.int s2, .int s1, .ref s0] μ := by
  unfold f_Si_aim_J123 at h
  obtain ⟨μ123, h123, h⟩ := bnd h
  refine aw_bast 124 d_Si_aim_123 rfl h123 ?_
  refine aw_aload_n 125 d_Si_aim_124 rfl rfl ?_
  obtain ⟨y125, h125, h⟩ := bnd h
  refine aw_getR 128 d_Si_aim_125 rfl fg_Si_35 rfl h125 ?_
  refine aw_iconst (v := (0 : Int32)) 129 d_Si_aim_128 rfl (by decide) ?_
  refine aw_lload 131 d_Si_aim_129 rfl rfl ?_
  refine aw_lconst (v := (0 : Int64)) 132 d_Si_aim_131 rfl (by decide) ?_
  refine aw_lcmp 133 d_Si_aim_132 rfl ?_
  refine aw_if_le 146 136 d_Si_aim_133 (by decide) rfl (fun c133 => ?_) (fun c133 => ?_)
  · have h := (if_pos c133).symm.trans h
    refine aw_lconst (v := (0 : Int64)) 147 d_Si_aim_146 rfl (by decide) ?_
    exact AW.wk [true, true, true, true, true, true, false, true, false, true, true, true] rfl (j_Si_aim_147 h)
  · have h := (if_neg c133).symm.trans h
    refine aw_lload 138 d_Si_aim_136 rfl rfl ?_
    refine aw_lload 140 d_Si_aim_138 rfl rfl ?_
    obtain ⟨y140, h140, h⟩ := bnd h
    refine aw_invS (rest := [.int (0 : Int32), .ref y125]) (st' := [.long y140, .int (0 : Int32), .ref y125]) (As := [.long x8, .long x6]) 143 d_Si_aim_140 rfl ls_Si_164 (m_Mt_floorDiv h140) (by decide) rfl rfl (Nat.le_of_ble_eq_true rfl) rfl ?_
    refine aw_goto 147 d_Si_aim_143 (by decide) ?_
    exact AW.wk [true, true, true, true, true, true, false, true, false, true, true, true] rfl (j_Si_aim_147 h)
theorem l_Si_aim_9 {l : Launch} {μ0 : MM} {q : MM} {a0 : Nat} {x1 : Int32} {x2 : Int32} {x3 : Int32} {x4 : Int64} {μ : MM} : ∀ (n : Nat) (x6 : Int64) (x8 : Int64) (x10 : Int32), f_Si_aim_L9 a0 x1 x2 x3 x4 μ n x6 x8 x10 = some q → AWm l Y_Si_aim 4 μ0 none q 9 [some (.ref a0), some (.int x1), some (.int x2), some (.int x3), some (.long x4), none, some (.long x6), none, some (.long x8), none, some (.int x10), none] [] μ := by
  intro n
  induction n with
  | zero =>
    intro x6 x8 x10 h
    have h : (none : Option (MM)) = some q := h
    cases h
  | succ n ih =>
    intro x6 x8 x10 h
    rw [f_Si_aim_L9] at h
    refine aw_iload 11 d_Si_aim_9 rfl rfl ?_
    refine aw_iload_n 12 d_Si_aim_11 rfl rfl ?_
    refine aw_icmp_ge 106 15 d_Si_aim_12 (by decide) rfl (fun c12 => ?_) (fun c12 => ?_)
    · have h := (if_pos c12).symm.trans h
      refine aw_aload_n 107 d_Si_aim_106 rfl rfl ?_
      obtain ⟨y107, h107, h⟩ := bnd h
      refine aw_getR 110 d_Si_aim_107 rfl fg_Si_38 rfl h107 ?_
      refine aw_iconst (v := (0 : Int32)) 111 d_Si_aim_110 rfl (by decide) ?_
      refine aw_lload 113 d_Si_aim_111 rfl rfl ?_
      refine aw_lconst (v := (0 : Int64)) 114 d_Si_aim_113 rfl (by decide) ?_
      refine aw_lcmp 115 d_Si_aim_114 rfl ?_
      refine aw_if_le 122 118 d_Si_aim_115 (by decide) rfl (fun c115 => ?_) (fun c115 => ?_)
      · have h := (if_pos c115).symm.trans h
        refine aw_iconst (v := (0 : Int32)) 123 d_Si_aim_122 rfl (by decide) ?_
        exact AW.wk [true, true, true, true, true, true, true, true, true, true, false, true] rfl (j_Si_aim_123 h)
      · have h := (if_neg c115).symm.trans h
        refine aw_iconst (v := (1 : Int32)) 119 d_Si_aim_118 rfl (by decide) ?_
        refine aw_goto 123 d_Si_aim_119 (by decide) ?_
        exact AW.wk [true, true, true, true, true, true, true, true, true, true, false, true] rfl (j_Si_aim_123 h)
    · have h := (if_neg c12).symm.trans h
      refine aw_aload_n 16 d_Si_aim_15 rfl rfl ?_
      obtain ⟨y16, h16, h⟩ := bnd h
      refine aw_getR 19 d_Si_aim_16 rfl fg_Si_46 rfl h16 ?_
      refine aw_iload 21 d_Si_aim_19 rfl rfl ?_
      refine aw_iload_n 22 d_Si_aim_21 rfl rfl ?_
      obtain ⟨y22, h22, h⟩ := bnd h
      refine aw_invV (rest := []) (st' := [.int y22]) (As := [.int x10, .int x2]) 25 d_Si_aim_22 rfl lv_Si_94 (m_Ch_sings h22) (by decide) (k_Ch_sings h22) rfl rfl rfl (Nat.le_of_ble_eq_true rfl) rfl ?_
      refine aw_if_eq 100 28 d_Si_aim_25 (by decide) rfl (fun c25 => ?_) (fun c25 => ?_)
      · have h := (if_pos c25).symm.trans h
        refine aw_iinc (v := (x10 + (1 : Int32))) (loc' := [some (.ref a0), some (.int x1), some (.int x2), some (.int x3), some (.long x4), none, some (.long x6), none, some (.long x8), none, some (.int (x10 + (1 : Int32))), none]) 103 d_Si_aim_100 rfl (by decide) rfl rfl rfl ?_
        refine aw_goto 9 d_Si_aim_103 (by decide) ?_
        exact (ih x6 x8 (x10 + (1 : Int32)) h)
      · have h := (if_neg c25).symm.trans h
        refine aw_aload_n 29 d_Si_aim_28 rfl rfl ?_
        obtain ⟨y29, h29, h⟩ := bnd h
        refine aw_getR 32 d_Si_aim_29 rfl fg_Si_46 rfl h29 ?_
        obtain ⟨y32, h32, h⟩ := bnd h
        refine aw_getR 35 d_Si_aim_32 rfl fg_Si_148 rfl h32 ?_
        refine aw_iload 37 d_Si_aim_35 rfl rfl ?_
        obtain ⟨y37, h37, h⟩ := bnd h
        refine aw_iald 38 d_Si_aim_37 rfl h37 ?_
        refine aw_aload_n 39 d_Si_aim_38 rfl rfl ?_
        obtain ⟨y39, h39, h⟩ := bnd h
        refine aw_getR 42 d_Si_aim_39 rfl fg_Si_55 rfl h39 ?_
        refine aw_iload_n 43 d_Si_aim_42 rfl rfl ?_
        obtain ⟨y43, h43, h⟩ := bnd h
        refine aw_iald 44 d_Si_aim_43 rfl h43 ?_
        refine aw_aload_n 45 d_Si_aim_44 rfl rfl ?_
        obtain ⟨y45, h45, h⟩ := bnd h
        refine aw_getR 48 d_Si_aim_45 rfl fg_Si_55 rfl h45 ?_
        refine aw_iload 50 d_Si_aim_48 rfl rfl ?_
        obtain ⟨y50, h50, h⟩ := bnd h
        refine aw_iald 51 d_Si_aim_50 rfl h50 ?_
        obtain ⟨y51, h51, h⟩ := bnd h
        refine aw_invS (rest := []) (st' := [.int y51]) (As := [.int y37, .int y43, .int y50]) 54 d_Si_aim_51 rfl ls_Si_179 (m_Ch_heard h51) (by decide) rfl rfl (Nat.le_of_ble_eq_true rfl) rfl ?_
        refine aw_istore (loc' := [some (.ref a0), some (.int x1), some (.int x2), some (.int x3), some (.long x4), none, some (.long x6), none, some (.long x8), none, some (.int x10), some (.int y51)]) 56 d_Si_aim_54 rfl (by decide) rfl ?_
        refine aw_lload 58 d_Si_aim_56 rfl rfl ?_
        refine aw_iload 60 d_Si_aim_58 rfl rfl ?_
        refine aw_i2l 61 d_Si_aim_60 rfl ?_
        refine aw_ladd 62 d_Si_aim_61 rfl ?_
        refine aw_lstore (loc' := [some (.ref a0), some (.int x1), some (.int x2), some (.int x3), some (.long x4), none, some (.long (x6 + y51.toInt64)), none, some (.long x8), none, some (.int x10), some (.int y51)]) 64 d_Si_aim_62 rfl (by decide) rfl ?_
        refine aw_lload 66 d_Si_aim_64 rfl rfl ?_
        refine aw_iload 68 d_Si_aim_66 rfl rfl ?_
        refine aw_i2l 69 d_Si_aim_68 rfl ?_
        refine aw_aload_n 70 d_Si_aim_69 rfl rfl ?_
        obtain ⟨y70, h70, h⟩ := bnd h
        refine aw_getR 73 d_Si_aim_70 rfl fg_Si_9 rfl h70 ?_
        refine aw_iload 75 d_Si_aim_73 rfl rfl ?_
        refine aw_bipush (v := (24 : Int32)) 77 d_Si_aim_75 rfl (by decide) ?_
        refine aw_imul 78 d_Si_aim_77 rfl ?_
        refine aw_iload_n 79 d_Si_aim_78 rfl rfl ?_
        refine aw_iadd 80 d_Si_aim_79 rfl ?_
        obtain ⟨y80, h80, h⟩ := bnd h
        refine aw_lald 81 d_Si_aim_80 rfl h80 ?_
        refine aw_aload_n 82 d_Si_aim_81 rfl rfl ?_
        refine aw_iload_n 83 d_Si_aim_82 rfl rfl ?_
        refine aw_iload_n 84 d_Si_aim_83 rfl rfl ?_
        obtain ⟨y84, h84, h⟩ := bnd h
        refine aw_invV (rest := [.long y80, .long y51.toInt64, .long x8]) (st' := [.long y84, .long y80, .long y51.toInt64, .long x8]) (As := [.int x1, .int x2]) 87 d_Si_aim_84 rfl lv_Si_183 (m_Si_millsOf h84) (by decide) (k_Si_millsOf h84) rfl rfl rfl (Nat.le_of_ble_eq_true rfl) rfl ?_
        refine aw_ladd 88 d_Si_aim_87 rfl ?_
        refine aw_aload_n 89 d_Si_aim_88 rfl rfl ?_
        refine aw_iload 91 d_Si_aim_89 rfl rfl ?_
        refine aw_iload_n 92 d_Si_aim_91 rfl rfl ?_
        obtain ⟨y92, h92, h⟩ := bnd h
        refine aw_invV (rest := [.long (y80 + y84), .long y51.toInt64, .long x8]) (st' := [.long y92, .long (y80 + y84), .long y51.toInt64, .long x8]) (As := [.int x10, .int x2]) 95 d_Si_aim_92 rfl lv_Si_183 (m_Si_millsOf h92) (by decide) (k_Si_millsOf h92) rfl rfl rfl (Nat.le_of_ble_eq_true rfl) rfl ?_
        refine aw_lsub 96 d_Si_aim_95 rfl ?_
        refine aw_lmul 97 d_Si_aim_96 rfl ?_
        refine aw_ladd 98 d_Si_aim_97 rfl ?_
        refine aw_lstore (loc' := [some (.ref a0), some (.int x1), some (.int x2), some (.int x3), some (.long x4), none, some (.long (x6 + y51.toInt64)), none, some (.long (x8 + (y51.toInt64 * ((y80 + y84) - y92)))), none, some (.int x10), some (.int y51)]) 100 d_Si_aim_98 rfl (by decide) rfl ?_
        refine aw_iinc (v := (x10 + (1 : Int32))) (loc' := [some (.ref a0), some (.int x1), some (.int x2), some (.int x3), some (.long x4), none, some (.long (x6 + y51.toInt64)), none, some (.long (x8 + (y51.toInt64 * ((y80 + y84) - y92)))), none, some (.int (x10 + (1 : Int32))), some (.int y51)]) 103 d_Si_aim_100 rfl (by decide) rfl rfl rfl ?_
        refine aw_goto 9 d_Si_aim_103 (by decide) ?_
        exact AW.wk [true, true, true, true, true, true, true, true, true, true, true, false] rfl (ih (x6 + y51.toInt64) (x8 + (y51.toInt64 * ((y80 + y84) - y92))) (x10 + (1 : Int32)) h)
theorem m_Si_aim {l : Launch} {q : MM} {a0 : Nat} {x1 : Int32} {x2 : Int32} {x3 : Int32} {x4 : Int64} {μ : MM} (h : f_Si_aim a0 x1 x2 x3 x4 μ = some q) : AMet l 4 Y_Si_aim [.ref a0, .int x1, .int x2, .int x3, .long x4] μ none q := by
  refine AMet.of (loc := [some (.ref a0), some (.int x1), some (.int x2), some (.int x3), some (.long x4), none, none, none, none, none, none, none]) pn_Si_aim (Nat.le_of_ble_eq_true rfl) rfl ?_
  unfold f_Si_aim at h
  obtain ⟨_, hk, h⟩ := bnd h
  refine aw_lconst (v := (0 : Int64)) 1 d_Si_aim_0 rfl (by decide) ?_
  refine aw_lstore (loc' := [some (.ref a0), some (.int x1), some (.int x2), some (.int x3), some (.long x4), none, some (.long (0 : Int64)), none, none, none, none, none]) 3 d_Si_aim_1 rfl (by decide) rfl ?_
  refine aw_lconst (v := (0 : Int64)) 4 d_Si_aim_3 rfl (by decide) ?_
  refine aw_lstore (loc' := [some (.ref a0), some (.int x1), some (.int x2), some (.int x3), some (.long x4), none, some (.long (0 : Int64)), none, some (.long (0 : Int64)), none, none, none]) 6 d_Si_aim_4 rfl (by decide) rfl ?_
  refine aw_iconst (v := (0 : Int32)) 7 d_Si_aim_6 rfl (by decide) ?_
  refine aw_istore (loc' := [some (.ref a0), some (.int x1), some (.int x2), some (.int x3), some (.long x4), none, some (.long (0 : Int64)), none, some (.long (0 : Int64)), none, some (.int (0 : Int32)), none]) 9 d_Si_aim_7 rfl (by decide) rfl ?_
  exact (l_Si_aim_9 FU _ _ _ h)
theorem k_Si_aim {q : MM} {a0 : Nat} {x1 : Int32} {x2 : Int32} {x3 : Int32} {x4 : Int64} {μ : MM} (h : f_Si_aim a0 x1 x2 x3 x4 μ = some q) : μ.1[a0]? = some (0, 9) := by
  unfold f_Si_aim at h
  obtain ⟨_, h1, _⟩ := bnd h
  exact kO_some h1
theorem j_Si_blend_50 {l : Launch} {μ0 : MM} {q : Int64} {a0 : Nat} {x1 : Int32} {x2 : Int32} {x3 : Int32} {x4 : Int32} {x5 : Int64} {x7 : Int64} {x9 : Int32} {s0 : Int32} {μ : MM} {k9 : Int64 → Int64 → Int32 → Option (Int64)} (hk9 : ∀ (x5 : Int64) (x7 : Int64) (x9 : Int32), k9 x5 x7 x9 = some q → AWm l Y_Si_blend 2 μ0 (some (.long q)) μ 9 [some (.ref a0), some (.int x1), some (.int x2), some (.int x3), some (.int x4), some (.long x5), none, some (.long x7), none, some (.int x9), none] [] μ) (h : f_Si_blend_J50 k9 a0 x1 x2 x3 x4 x5 x7 x9 s0 μ = some q) : AWm l Y_Si_blend 2 μ0 (some (.long q)) μ 50 [some (.ref a0), some (.int x1), some (.int x2), some (.int x3), some (.int x4), some (.long x5), none, some (.long x7), none, some (.int x9), none] [.int s0] μ := by
  unfold f_Si_blend_J50 at h
  refine aw_istore (loc' := [some (.ref a0), some (.int x1), some (.int x2), some (.int x3), some (.int x4), some (.long x5), none, some (.long x7), none, some (.int x9), some (.int s0)]) 52 d_Si_blend_50 rfl (by decide) rfl ?_
  refine aw_aload_n 53 d_Si_blend_52 rfl rfl ?_
  obtain ⟨y53, h53, h⟩ := bnd h
  refine aw_getR 56 d_Si_blend_53 rfl fg_Si_38 rfl h53 ?_
  refine aw_iload 58 d_Si_blend_56 rfl rfl ?_
  obtain ⟨y58, h58, h⟩ := bnd h
  refine aw_bald 59 d_Si_blend_58 rfl h58 ?_
  refine aw_if_eq 86 62 d_Si_blend_59 (by decide) rfl (fun c59 => ?_) (fun c59 => ?_)
  · have h := (if_pos c59).symm.trans h
    refine aw_iinc (v := (x9 + (1 : Int32))) (loc' := [some (.ref a0), some (.int x1), some (.int x2), some (.int x3), some (.int x4), some (.long x5), none, some (.long x7), none, some (.int (x9 + (1 : Int32))), some (.int s0)]) 89 d_Si_blend_86 rfl (by decide) rfl rfl rfl ?_
    refine aw_goto 9 d_Si_blend_89 (by decide) ?_
    exact AW.wk [true, true, true, true, true, true, true, true, true, true, false] rfl (hk9 x5 x7 (x9 + (1 : Int32)) h)
  · have h := (if_neg c59).symm.trans h
    refine aw_lload 64 d_Si_blend_62 rfl rfl ?_
    refine aw_iload 66 d_Si_blend_64 rfl rfl ?_
    refine aw_i2l 67 d_Si_blend_66 rfl ?_
    refine aw_aload_n 68 d_Si_blend_67 rfl rfl ?_
    obtain ⟨y68, h68, h⟩ := bnd h
    refine aw_getR 71 d_Si_blend_68 rfl fg_Si_35 rfl h68 ?_
    refine aw_iload 73 d_Si_blend_71 rfl rfl ?_
    obtain ⟨y73, h73, h⟩ := bnd h
    refine aw_lald 74 d_Si_blend_73 rfl h73 ?_
    refine aw_lmul 75 d_Si_blend_74 rfl ?_
    refine aw_ladd 76 d_Si_blend_75 rfl ?_
    refine aw_lstore (loc' := [some (.ref a0), some (.int x1), some (.int x2), some (.int x3), some (.int x4), some (.long (x5 + (s0.toInt64 * y73))), none, some (.long x7), none, some (.int x9), some (.int s0)]) 78 d_Si_blend_76 rfl (by decide) rfl ?_
    refine aw_lload 80 d_Si_blend_78 rfl rfl ?_
    refine aw_iload 82 d_Si_blend_80 rfl rfl ?_
    refine aw_i2l 83 d_Si_blend_82 rfl ?_
    refine aw_ladd 84 d_Si_blend_83 rfl ?_
    refine aw_lstore (loc' := [some (.ref a0), some (.int x1), some (.int x2), some (.int x3), some (.int x4), some (.long (x5 + (s0.toInt64 * y73))), none, some (.long (x7 + s0.toInt64)), none, some (.int x9), some (.int s0)]) 86 d_Si_blend_84 rfl (by decide) rfl ?_
    refine aw_iinc (v := (x9 + (1 : Int32))) (loc' := [some (.ref a0), some (.int x1), some (.int x2), some (.int x3), some (.int x4), some (.long (x5 + (s0.toInt64 * y73))), none, some (.long (x7 + s0.toInt64)), none, some (.int (x9 + (1 : Int32))), some (.int s0)]) 89 d_Si_blend_86 rfl (by decide) rfl rfl rfl ?_
    refine aw_goto 9 d_Si_blend_89 (by decide) ?_
    exact AW.wk [true, true, true, true, true, true, true, true, true, true, false] rfl (hk9 (x5 + (s0.toInt64 * y73)) (x7 + s0.toInt64) (x9 + (1 : Int32)) h)
theorem l_Si_blend_9 {l : Launch} {μ0 : MM} {q : Int64} {a0 : Nat} {x1 : Int32} {x2 : Int32} {x3 : Int32} {x4 : Int32} {μ : MM} : ∀ (n : Nat) (x5 : Int64) (x7 : Int64) (x9 : Int32), f_Si_blend_L9 a0 x1 x2 x3 x4 μ n x5 x7 x9 = some q → AWm l Y_Si_blend 2 μ0 (some (.long q)) μ 9 [some (.ref a0), some (.int x1), some (.int x2), some (.int x3), some (.int x4), some (.long x5), none, some (.long x7), none, some (.int x9), none] [] μ := by
  intro n
  induction n with
  | zero =>
    intro x5 x7 x9 h
    have h : (none : Option (Int64)) = some q := h
    cases h
  | succ n ih =>
    intro x5 x7 x9 h
    rw [f_Si_blend_L9] at h
    refine aw_iload 11 d_Si_blend_9 rfl rfl ?_
    refine aw_aload_n 12 d_Si_blend_11 rfl rfl ?_
    obtain ⟨y12, h12, h⟩ := bnd h
    refine aw_getR 15 d_Si_blend_12 rfl fg_Si_35 rfl h12 ?_
    obtain ⟨y15, h15, h⟩ := bnd h
    refine aw_alen 16 d_Si_blend_15 rfl h15 ?_
    refine aw_icmp_ge 92 19 d_Si_blend_16 (by decide) rfl (fun c16 => ?_) (fun c16 => ?_)
    · have h := (if_pos c16).symm.trans h
      refine aw_lload 94 d_Si_blend_92 rfl rfl ?_
      refine aw_lconst (v := (0 : Int64)) 95 d_Si_blend_94 rfl (by decide) ?_
      refine aw_lcmp 96 d_Si_blend_95 rfl ?_
      refine aw_if_le 109 99 d_Si_blend_96 (by decide) rfl (fun c96 => ?_) (fun c96 => ?_)
      · have h := (if_pos c96).symm.trans h
        refine aw_aload_n 110 d_Si_blend_109 rfl rfl ?_
        obtain ⟨y110, h110, h⟩ := bnd h
        refine aw_getR 113 d_Si_blend_110 rfl fg_Si_35 rfl h110 ?_
        refine aw_iconst (v := (2 : Int32)) 114 d_Si_blend_113 rfl (by decide) ?_
        obtain ⟨y114, h114, h⟩ := bnd h
        refine aw_lald 115 d_Si_blend_114 rfl h114 ?_
        cases h
        exact aw_lreturn d_Si_blend_115 rfl
      · have h := (if_neg c96).symm.trans h
        refine aw_lload 101 d_Si_blend_99 rfl rfl ?_
        refine aw_lload 103 d_Si_blend_101 rfl rfl ?_
        obtain ⟨y103, h103, h⟩ := bnd h
        refine aw_invS (rest := []) (st' := [.long y103]) (As := [.long x5, .long x7]) 106 d_Si_blend_103 rfl ls_Si_164 (m_Mt_floorDiv h103) (by decide) rfl rfl (Nat.le_of_ble_eq_true rfl) rfl ?_
        refine aw_goto 115 d_Si_blend_106 (by decide) ?_
        cases h
        exact aw_lreturn d_Si_blend_115 rfl
    · have h := (if_neg c16).symm.trans h
      refine aw_iload 21 d_Si_blend_19 rfl rfl ?_
      refine aw_if_ne 28 24 d_Si_blend_21 (by decide) rfl (fun c21 => ?_) (fun c21 => ?_)
      · have h := (if_neg c21).symm.trans h
        refine aw_iload 30 d_Si_blend_28 rfl rfl ?_
        refine aw_iconst (v := (1 : Int32)) 31 d_Si_blend_30 rfl (by decide) ?_
        refine aw_icmp_ne 38 34 d_Si_blend_31 (by decide) rfl (fun c31 => ?_) (fun c31 => ?_)
        · have h := (if_neg c31).symm.trans h
          refine aw_iload 40 d_Si_blend_38 rfl rfl ?_
          refine aw_iconst (v := (2 : Int32)) 41 d_Si_blend_40 rfl (by decide) ?_
          refine aw_icmp_ne 48 44 d_Si_blend_41 (by decide) rfl (fun c41 => ?_) (fun c41 => ?_)
          · have h := (if_neg c41).symm.trans h
            refine aw_iload 50 d_Si_blend_48 rfl rfl ?_
            exact (j_Si_blend_50 ih h)
          · have h := (if_pos c41).symm.trans h
            refine aw_iload_n 45 d_Si_blend_44 rfl rfl ?_
            refine aw_goto 50 d_Si_blend_45 (by decide) ?_
            exact (j_Si_blend_50 ih h)
        · have h := (if_pos c31).symm.trans h
          refine aw_iload_n 35 d_Si_blend_34 rfl rfl ?_
          refine aw_goto 50 d_Si_blend_35 (by decide) ?_
          exact (j_Si_blend_50 ih h)
      · have h := (if_pos c21).symm.trans h
        refine aw_iload_n 25 d_Si_blend_24 rfl rfl ?_
        refine aw_goto 50 d_Si_blend_25 (by decide) ?_
        exact (j_Si_blend_50 ih h)
theorem m_Si_blend {l : Launch} {q : Int64} {a0 : Nat} {x1 : Int32} {x2 : Int32} {x3 : Int32} {x4 : Int32} {μ : MM} (h : f_Si_blend a0 x1 x2 x3 x4 μ = some q) : AMet l 2 Y_Si_blend [.ref a0, .int x1, .int x2, .int x3, .int x4] μ (some (.long q)) μ := by
  refine AMet.of (loc := [some (.ref a0), some (.int x1), some (.int x2), some (.int x3), some (.int x4), none, none, none, none, none, none]) pn_Si_blend (Nat.le_of_ble_eq_true rfl) rfl ?_
  unfold f_Si_blend at h
  obtain ⟨_, hk, h⟩ := bnd h
  refine aw_lconst (v := (0 : Int64)) 1 d_Si_blend_0 rfl (by decide) ?_
  refine aw_lstore (loc' := [some (.ref a0), some (.int x1), some (.int x2), some (.int x3), some (.int x4), some (.long (0 : Int64)), none, none, none, none, none]) 3 d_Si_blend_1 rfl (by decide) rfl ?_
  refine aw_lconst (v := (0 : Int64)) 4 d_Si_blend_3 rfl (by decide) ?_
  refine aw_lstore (loc' := [some (.ref a0), some (.int x1), some (.int x2), some (.int x3), some (.int x4), some (.long (0 : Int64)), none, some (.long (0 : Int64)), none, none, none]) 6 d_Si_blend_4 rfl (by decide) rfl ?_
  refine aw_iconst (v := (0 : Int32)) 7 d_Si_blend_6 rfl (by decide) ?_
  refine aw_istore (loc' := [some (.ref a0), some (.int x1), some (.int x2), some (.int x3), some (.int x4), some (.long (0 : Int64)), none, some (.long (0 : Int64)), none, some (.int (0 : Int32)), none]) 9 d_Si_blend_7 rfl (by decide) rfl ?_
  exact (l_Si_blend_9 FU _ _ _ h)
theorem k_Si_blend {q : Int64} {a0 : Nat} {x1 : Int32} {x2 : Int32} {x3 : Int32} {x4 : Int32} {μ : MM} (h : f_Si_blend a0 x1 x2 x3 x4 μ = some q) : μ.1[a0]? = some (0, 9) := by
  unfold f_Si_blend at h
  obtain ⟨_, h1, _⟩ := bnd h
  exact kO_some h1
theorem m_Si_singNote {l : Launch} {q : MM} {a0 : Nat} {x1 : Int32} {x2 : Int32} {μ : MM} (h : f_Si_singNote a0 x1 x2 μ = some q) : AMet l 5 Y_Si_singNote [.ref a0, .int x1, .int x2] μ none q := by
  refine AMet.of (loc := [some (.ref a0), some (.int x1), some (.int x2), none, none, none]) pn_Si_singNote (Nat.le_of_ble_eq_true rfl) rfl ?_
  unfold f_Si_singNote at h
  obtain ⟨_, hk, h⟩ := bnd h
  refine aw_aload_n 1 d_Si_singNote_0 rfl rfl ?_
  obtain ⟨y1, h1, h⟩ := bnd h
  refine aw_getR 4 d_Si_singNote_1 rfl fg_Si_46 rfl h1 ?_
  refine aw_iload_n 5 d_Si_singNote_4 rfl rfl ?_
  refine aw_iload_n 6 d_Si_singNote_5 rfl rfl ?_
  obtain ⟨y6, h6, h⟩ := bnd h
  refine aw_invV (rest := []) (st' := [.int y6]) (As := [.int x1, .int x2]) 9 d_Si_singNote_6 rfl lv_Si_102 (m_Ch_lastNote h6) (by decide) (k_Ch_lastNote h6) rfl rfl rfl (Nat.le_of_ble_eq_true rfl) rfl ?_
  refine aw_istore_n (loc' := [some (.ref a0), some (.int x1), some (.int x2), some (.int y6), none, none]) 10 d_Si_singNote_9 rfl (by decide) rfl ?_
  refine aw_aload_n 11 d_Si_singNote_10 rfl rfl ?_
  refine aw_sipush (v := (25173 : Int32)) 14 d_Si_singNote_11 rfl (by decide) ?_
  refine aw_aload_n 15 d_Si_singNote_14 rfl rfl ?_
  obtain ⟨y15, h15, h⟩ := bnd h
  refine aw_getI 18 d_Si_singNote_15 rfl fg_Si_75 (Or.inl rfl) h15 ?_
  refine aw_imul 19 d_Si_singNote_18 rfl ?_
  refine aw_sipush (v := (13849 : Int32)) 22 d_Si_singNote_19 rfl (by decide) ?_
  refine aw_iadd 23 d_Si_singNote_22 rfl ?_
  refine aw_ldc (v := (65535 : Int32)) 25 d_Si_singNote_23 rfl c_Si_110 ?_
  refine aw_iand 26 d_Si_singNote_25 rfl ?_
  obtain ⟨μ26, h26, h⟩ := bnd h
  refine aw_putI 29 false d_Si_singNote_26 rfl fp_Si_75 (fun z => nomatch z) rfl h26 ?_
  refine aw_aload_n 30 d_Si_singNote_29 rfl rfl ?_
  refine aw_iload_n 31 d_Si_singNote_30 rfl rfl ?_
  refine aw_iload_n 32 d_Si_singNote_31 rfl rfl ?_
  refine aw_iload_n 33 d_Si_singNote_32 rfl rfl ?_
  obtain ⟨μ33, h33, h⟩ := bnd h
  refine aw_invV (rest := []) (st' := []) (As := [.int x1, .int x2, .int y6]) 36 d_Si_singNote_33 rfl lv_Si_111 (m_Si_tellLetters h33) (by decide) (k_Si_tellLetters h33) rfl rfl rfl (Nat.le_of_ble_eq_true rfl) rfl ?_
  refine aw_aload_n 37 d_Si_singNote_36 rfl rfl ?_
  obtain ⟨y37, h37, h⟩ := bnd h
  refine aw_getR 40 d_Si_singNote_37 rfl fg_Si_46 rfl h37 ?_
  obtain ⟨y40, h40, h⟩ := bnd h
  refine aw_getR 43 d_Si_singNote_40 rfl fg_Si_115 rfl h40 ?_
  refine aw_aload_n 44 d_Si_singNote_43 rfl rfl ?_
  obtain ⟨y44, h44, h⟩ := bnd h
  refine aw_getR 47 d_Si_singNote_44 rfl fg_Si_28 rfl h44 ?_
  refine aw_aload_n 48 d_Si_singNote_47 rfl rfl ?_
  obtain ⟨y48, h48, h⟩ := bnd h
  refine aw_getR 51 d_Si_singNote_48 rfl fg_Si_32 rfl h48 ?_
  obtain ⟨μ51, h51, h⟩ := bnd h
  refine aw_invV (rest := []) (st' := []) (As := [.ref y44, .ref y48]) 54 d_Si_singNote_51 rfl lv_Si_119 (m_Pr_weigh h51) (by decide) (k_Pr_weigh h51) rfl rfl rfl (Nat.le_of_ble_eq_true rfl) rfl ?_
  refine aw_aload_n 55 d_Si_singNote_54 rfl rfl ?_
  refine aw_iload_n 56 d_Si_singNote_55 rfl rfl ?_
  refine aw_iload_n 57 d_Si_singNote_56 rfl rfl ?_
  refine aw_iload_n 58 d_Si_singNote_57 rfl rfl ?_
  refine aw_aload_n 59 d_Si_singNote_58 rfl rfl ?_
  obtain ⟨y59, h59, h⟩ := bnd h
  refine aw_getR 62 d_Si_singNote_59 rfl fg_Si_15 rfl h59 ?_
  refine aw_iload_n 63 d_Si_singNote_62 rfl rfl ?_
  obtain ⟨y63, h63, h⟩ := bnd h
  refine aw_lald 64 d_Si_singNote_63 rfl h63 ?_
  obtain ⟨μ64, h64, h⟩ := bnd h
  refine aw_invV (rest := []) (st' := []) (As := [.int x1, .int x2, .int y6, .long y63]) 67 d_Si_singNote_64 rfl lv_Si_125 (m_Si_aim h64) (by decide) (k_Si_aim h64) rfl rfl rfl (Nat.le_of_ble_eq_true rfl) rfl ?_
  refine aw_aload_n 68 d_Si_singNote_67 rfl rfl ?_
  refine aw_aload_n 69 d_Si_singNote_68 rfl rfl ?_
  obtain ⟨y69, h69, h⟩ := bnd h
  refine aw_getR 72 d_Si_singNote_69 rfl fg_Si_32 rfl h69 ?_
  refine aw_iconst (v := (0 : Int32)) 73 d_Si_singNote_72 rfl (by decide) ?_
  obtain ⟨y73, h73, h⟩ := bnd h
  refine aw_iald 74 d_Si_singNote_73 rfl h73 ?_
  refine aw_aload_n 75 d_Si_singNote_74 rfl rfl ?_
  obtain ⟨y75, h75, h⟩ := bnd h
  refine aw_getR 78 d_Si_singNote_75 rfl fg_Si_32 rfl h75 ?_
  refine aw_iconst (v := (1 : Int32)) 79 d_Si_singNote_78 rfl (by decide) ?_
  obtain ⟨y79, h79, h⟩ := bnd h
  refine aw_iald 80 d_Si_singNote_79 rfl h79 ?_
  refine aw_aload_n 81 d_Si_singNote_80 rfl rfl ?_
  obtain ⟨y81, h81, h⟩ := bnd h
  refine aw_getR 84 d_Si_singNote_81 rfl fg_Si_32 rfl h81 ?_
  refine aw_iconst (v := (2 : Int32)) 85 d_Si_singNote_84 rfl (by decide) ?_
  obtain ⟨y85, h85, h⟩ := bnd h
  refine aw_iald 86 d_Si_singNote_85 rfl h85 ?_
  refine aw_aload_n 87 d_Si_singNote_86 rfl rfl ?_
  obtain ⟨y87, h87, h⟩ := bnd h
  refine aw_getR 90 d_Si_singNote_87 rfl fg_Si_32 rfl h87 ?_
  refine aw_iconst (v := (3 : Int32)) 91 d_Si_singNote_90 rfl (by decide) ?_
  obtain ⟨y91, h91, h⟩ := bnd h
  refine aw_iald 92 d_Si_singNote_91 rfl h91 ?_
  obtain ⟨y92, h92, h⟩ := bnd h
  refine aw_invV (rest := []) (st' := [.long y92]) (As := [.int y73, .int y79, .int y85, .int y91]) 95 d_Si_singNote_92 rfl lv_Si_129 (m_Si_blend h92) (by decide) (k_Si_blend h92) rfl rfl rfl (Nat.le_of_ble_eq_true rfl) rfl ?_
  refine aw_aload_n 96 d_Si_singNote_95 rfl rfl ?_
  obtain ⟨y96, h96, h⟩ := bnd h
  refine aw_getR 99 d_Si_singNote_96 rfl fg_Si_32 rfl h96 ?_
  refine aw_iconst (v := (4 : Int32)) 100 d_Si_singNote_99 rfl (by decide) ?_
  obtain ⟨y100, h100, h⟩ := bnd h
  refine aw_iald 101 d_Si_singNote_100 rfl h100 ?_
  refine aw_i2l 102 d_Si_singNote_101 rfl ?_
  refine aw_ladd 103 d_Si_singNote_102 rfl ?_
  refine aw_lstore (loc' := [some (.ref a0), some (.int x1), some (.int x2), some (.int y6), some (.long (y92 + y100.toInt64)), none]) 105 d_Si_singNote_103 rfl (by decide) rfl ?_
  refine aw_aload_n 106 d_Si_singNote_105 rfl rfl ?_
  refine aw_dup 107 d_Si_singNote_106 rfl rfl ?_
  obtain ⟨y107, h107, h⟩ := bnd h
  refine aw_getL 110 d_Si_singNote_107 rfl fg_Si_76 rfl h107 ?_
  refine aw_aload_n 111 d_Si_singNote_110 rfl rfl ?_
  obtain ⟨y111, h111, h⟩ := bnd h
  refine aw_getR 114 d_Si_singNote_111 rfl fg_Si_32 rfl h111 ?_
  refine aw_iconst (v := (4 : Int32)) 115 d_Si_singNote_114 rfl (by decide) ?_
  obtain ⟨y115, h115, h⟩ := bnd h
  refine aw_iald 116 d_Si_singNote_115 rfl h115 ?_
  refine aw_i2l 117 d_Si_singNote_116 rfl ?_
  refine aw_ladd 118 d_Si_singNote_117 rfl ?_
  obtain ⟨μ118, h118, h⟩ := bnd h
  refine aw_putL 121 false d_Si_singNote_118 rfl fp_Si_76 (fun z => nomatch z) rfl h118 ?_
  refine aw_aload_n 122 d_Si_singNote_121 rfl rfl ?_
  obtain ⟨y122, h122, h⟩ := bnd h
  refine aw_getR 125 d_Si_singNote_122 rfl fg_Si_9 rfl h122 ?_
  refine aw_iload_n 126 d_Si_singNote_125 rfl rfl ?_
  refine aw_bipush (v := (24 : Int32)) 128 d_Si_singNote_126 rfl (by decide) ?_
  refine aw_imul 129 d_Si_singNote_128 rfl ?_
  refine aw_iload_n 130 d_Si_singNote_129 rfl rfl ?_
  refine aw_iadd 131 d_Si_singNote_130 rfl ?_
  refine aw_lload 133 d_Si_singNote_131 rfl rfl ?_
  obtain ⟨μ133, h133, h⟩ := bnd h
  refine aw_last 134 d_Si_singNote_133 rfl h133 ?_
  refine aw_aload_n 135 d_Si_singNote_134 rfl rfl ?_
  obtain ⟨y135, h135, h⟩ := bnd h
  refine aw_getR 138 d_Si_singNote_135 rfl fg_Si_15 rfl h135 ?_
  refine aw_iload_n 139 d_Si_singNote_138 rfl rfl ?_
  refine aw_lload 141 d_Si_singNote_139 rfl rfl ?_
  obtain ⟨μ141, h141, h⟩ := bnd h
  refine aw_last 142 d_Si_singNote_141 rfl h141 ?_
  cases h
  exact aw_return d_Si_singNote_142 rfl
theorem k_Si_singNote {q : MM} {a0 : Nat} {x1 : Int32} {x2 : Int32} {μ : MM} (h : f_Si_singNote a0 x1 x2 μ = some q) : μ.1[a0]? = some (0, 9) := by
  unfold f_Si_singNote at h
  obtain ⟨_, h1, _⟩ := bnd h
  exact kO_some h1
theorem l_Si_sing_82 {l : Launch} {μ0 : MM} {q : MM} {a0 : Nat} {x5 : Int32} {k40 : Int32 → MM → Option (MM)} (hk40 : ∀ (x5 : Int32) (μ : MM), k40 x5 μ = some q → AWm l Y_Si_sing 6 μ0 none q 40 [some (.ref a0), none, none, none, none, some (.int x5), none] [] μ) : ∀ (n : Nat) (x6 : Int32) (μ : MM), f_Si_sing_L82 k40 a0 x5 n x6 μ = some q → AWm l Y_Si_sing 6 μ0 none q 82 [some (.ref a0), none, none, none, none, some (.int x5), some (.int x6)] [] μ := by
  intro n
  induction n with
  | zero =>
    intro x6 μ h
    have h : (none : Option (MM)) = some q := h
    cases h
  | succ n ih =>
    intro x6 μ h
    rw [f_Si_sing_L82] at h
    refine aw_iload 84 d_Si_sing_82 rfl rfl ?_
    refine aw_aload_n 85 d_Si_sing_84 rfl rfl ?_
    obtain ⟨y85, h85, h⟩ := bnd h
    refine aw_getR 88 d_Si_sing_85 rfl fg_Si_46 rfl h85 ?_
    obtain ⟨y88, h88, h⟩ := bnd h
    refine aw_getI 91 d_Si_sing_88 rfl fg_Si_91 (Or.inl rfl) h88 ?_
    refine aw_icmp_ge 129 94 d_Si_sing_91 (by decide) rfl (fun c91 => ?_) (fun c91 => ?_)
    · have h := (if_pos c91).symm.trans h
      refine aw_iinc (v := (x5 + (1 : Int32))) (loc' := [some (.ref a0), none, none, none, none, some (.int (x5 + (1 : Int32))), some (.int x6)]) 132 d_Si_sing_129 rfl (by decide) rfl rfl rfl ?_
      refine aw_goto 40 d_Si_sing_132 (by decide) ?_
      exact AW.wk [true, true, true, true, true, true, false] rfl (hk40 (x5 + (1 : Int32)) μ h)
    · have h := (if_neg c91).symm.trans h
      refine aw_aload_n 95 d_Si_sing_94 rfl rfl ?_
      obtain ⟨y95, h95, h⟩ := bnd h
      refine aw_getI 98 d_Si_sing_95 rfl fg_Si_84 (Or.inl rfl) h95 ?_
      refine aw_if_le 129 101 d_Si_sing_98 (by decide) rfl (fun c98 => ?_) (fun c98 => ?_)
      · have h := (if_pos c98).symm.trans h
        refine aw_iinc (v := (x5 + (1 : Int32))) (loc' := [some (.ref a0), none, none, none, none, some (.int (x5 + (1 : Int32))), some (.int x6)]) 132 d_Si_sing_129 rfl (by decide) rfl rfl rfl ?_
        refine aw_goto 40 d_Si_sing_132 (by decide) ?_
        exact AW.wk [true, true, true, true, true, true, false] rfl (hk40 (x5 + (1 : Int32)) μ h)
      · have h := (if_neg c98).symm.trans h
        refine aw_aload_n 102 d_Si_sing_101 rfl rfl ?_
        obtain ⟨y102, h102, h⟩ := bnd h
        refine aw_getR 105 d_Si_sing_102 rfl fg_Si_46 rfl h102 ?_
        refine aw_iload 107 d_Si_sing_105 rfl rfl ?_
        refine aw_iload 109 d_Si_sing_107 rfl rfl ?_
        obtain ⟨y109, h109, h⟩ := bnd h
        refine aw_invV (rest := []) (st' := [.int y109]) (As := [.int x6, .int x5]) 112 d_Si_sing_109 rfl lv_Si_94 (m_Ch_sings h109) (by decide) (k_Ch_sings h109) rfl rfl rfl (Nat.le_of_ble_eq_true rfl) rfl ?_
        refine aw_if_eq 123 115 d_Si_sing_112 (by decide) rfl (fun c112 => ?_) (fun c112 => ?_)
        · have h := (if_pos c112).symm.trans h
          refine aw_iinc (v := (x6 + (1 : Int32))) (loc' := [some (.ref a0), none, none, none, none, some (.int x5), some (.int (x6 + (1 : Int32)))]) 126 d_Si_sing_123 rfl (by decide) rfl rfl rfl ?_
          refine aw_goto 82 d_Si_sing_126 (by decide) ?_
          exact (ih (x6 + (1 : Int32)) μ h)
        · have h := (if_neg c112).symm.trans h
          refine aw_aload_n 116 d_Si_sing_115 rfl rfl ?_
          refine aw_iload 118 d_Si_sing_116 rfl rfl ?_
          refine aw_iload 120 d_Si_sing_118 rfl rfl ?_
          obtain ⟨μ120, h120, h⟩ := bnd h
          refine aw_invV (rest := []) (st' := []) (As := [.int x6, .int x5]) 123 d_Si_sing_120 rfl lv_Si_98 (m_Si_singNote h120) (by decide) (k_Si_singNote h120) rfl rfl rfl (Nat.le_of_ble_eq_true rfl) rfl ?_
          refine aw_iinc (v := (x6 + (1 : Int32))) (loc' := [some (.ref a0), none, none, none, none, some (.int x5), some (.int (x6 + (1 : Int32)))]) 126 d_Si_sing_123 rfl (by decide) rfl rfl rfl ?_
          refine aw_goto 82 d_Si_sing_126 (by decide) ?_
          exact (ih (x6 + (1 : Int32)) μ120 h)
theorem j_Si_sing_79 {l : Launch} {μ0 : MM} {q : MM} {a0 : Nat} {x5 : Int32} {μ : MM} {k40 : Int32 → MM → Option (MM)} (hk40 : ∀ (x5 : Int32) (μ : MM), k40 x5 μ = some q → AWm l Y_Si_sing 6 μ0 none q 40 [some (.ref a0), none, none, none, none, some (.int x5), none] [] μ) (h : f_Si_sing_J79 k40 a0 x5 μ = some q) : AWm l Y_Si_sing 6 μ0 none q 79 [some (.ref a0), none, none, none, none, some (.int x5), none] [] μ := by
  unfold f_Si_sing_J79 at h
  refine aw_iconst (v := (0 : Int32)) 80 d_Si_sing_79 rfl (by decide) ?_
  refine aw_istore (loc' := [some (.ref a0), none, none, none, none, some (.int x5), some (.int (0 : Int32))]) 82 d_Si_sing_80 rfl (by decide) rfl ?_
  exact (l_Si_sing_82 hk40 FU _ _ h)
theorem l_Si_sing_40 {l : Launch} {μ0 : MM} {q : MM} {a0 : Nat} : ∀ (n : Nat) (x5 : Int32) (μ : MM), f_Si_sing_L40 a0 n x5 μ = some q → AWm l Y_Si_sing 6 μ0 none q 40 [some (.ref a0), none, none, none, none, some (.int x5), none] [] μ := by
  intro n
  induction n with
  | zero =>
    intro x5 μ h
    have h : (none : Option (MM)) = some q := h
    cases h
  | succ n ih =>
    intro x5 μ h
    rw [f_Si_sing_L40] at h
    refine aw_iload 42 d_Si_sing_40 rfl rfl ?_
    refine aw_bipush (v := (24 : Int32)) 44 d_Si_sing_42 rfl (by decide) ?_
    refine aw_icmp_ge 135 47 d_Si_sing_44 (by decide) rfl (fun c44 => ?_) (fun c44 => ?_)
    · have h := (if_pos c44).symm.trans h
      cases h
      exact aw_return d_Si_sing_135 rfl
    · have h := (if_neg c44).symm.trans h
      refine aw_aload_n 48 d_Si_sing_47 rfl rfl ?_
      refine aw_aload_n 49 d_Si_sing_48 rfl rfl ?_
      obtain ⟨y49, h49, h⟩ := bnd h
      refine aw_getR 52 d_Si_sing_49 rfl fg_Si_46 rfl h49 ?_
      refine aw_iload 54 d_Si_sing_52 rfl rfl ?_
      obtain ⟨y54, h54, h⟩ := bnd h
      refine aw_invV (rest := [.ref a0]) (st' := [.int y54, .ref a0]) (As := [.int x5]) 57 d_Si_sing_54 rfl lv_Si_80 (m_Ch_howMany h54) (by decide) (k_Ch_howMany h54) rfl rfl rfl (Nat.le_of_ble_eq_true rfl) rfl ?_
      obtain ⟨μ57, h57, h⟩ := bnd h
      refine aw_putI 60 false d_Si_sing_57 rfl fp_Si_84 (fun z => nomatch z) rfl h57 ?_
      refine aw_aload_n 61 d_Si_sing_60 rfl rfl ?_
      obtain ⟨y61, h61, h⟩ := bnd h
      refine aw_getI 64 d_Si_sing_61 rfl fg_Si_64 (Or.inl rfl) h61 ?_
      refine aw_iload 66 d_Si_sing_64 rfl rfl ?_
      refine aw_ishr 67 d_Si_sing_66 rfl ?_
      refine aw_iconst (v := (1 : Int32)) 68 d_Si_sing_67 rfl (by decide) ?_
      refine aw_iand 69 d_Si_sing_68 rfl ?_
      refine aw_iconst (v := (1 : Int32)) 70 d_Si_sing_69 rfl (by decide) ?_
      refine aw_icmp_ne 79 73 d_Si_sing_70 (by decide) rfl (fun c70 => ?_) (fun c70 => ?_)
      · have h := (if_neg c70).symm.trans h
        exact (j_Si_sing_79 ih h)
      · have h := (if_pos c70).symm.trans h
        refine aw_aload_n 74 d_Si_sing_73 rfl rfl ?_
        refine aw_iload 76 d_Si_sing_74 rfl rfl ?_
        obtain ⟨μ76, h76, h⟩ := bnd h
        refine aw_invV (rest := []) (st' := []) (As := [.int x5]) 79 d_Si_sing_76 rfl lv_Si_87 (m_Si_giveAgain h76) (by decide) (k_Si_giveAgain h76) rfl rfl rfl (Nat.le_of_ble_eq_true rfl) rfl ?_
        exact (j_Si_sing_79 ih h)
theorem m_Si_sing {l : Launch} {q : MM} {a0 : Nat} {a1 : Nat} {x2 : Int32} {x3 : Int32} {x4 : Int32} {μ : MM} (h : f_Si_sing a0 a1 x2 x3 x4 μ = some q) : AMet l 6 Y_Si_sing [.ref a0, .ref a1, .int x2, .int x3, .int x4] μ none q := by
  refine AMet.of (loc := [some (.ref a0), some (.ref a1), some (.int x2), some (.int x3), some (.int x4), none, none]) pn_Si_sing (Nat.le_of_ble_eq_true rfl) rfl ?_
  unfold f_Si_sing at h
  obtain ⟨_, hk, h⟩ := bnd h
  refine aw_aload_n 1 d_Si_sing_0 rfl rfl ?_
  refine aw_aload_n 2 d_Si_sing_1 rfl rfl ?_
  obtain ⟨μ2, h2, h⟩ := bnd h
  refine aw_putR 5 false d_Si_sing_2 rfl fp_Si_55 (fun z => nomatch z) rfl h2 ?_
  refine aw_aload_n 6 d_Si_sing_5 rfl rfl ?_
  refine aw_iload_n 7 d_Si_sing_6 rfl rfl ?_
  obtain ⟨μ7, h7, h⟩ := bnd h
  refine aw_putI 10 false d_Si_sing_7 rfl fp_Si_64 (fun z => nomatch z) rfl h7 ?_
  refine aw_aload_n 11 d_Si_sing_10 rfl rfl ?_
  refine aw_iload_n 12 d_Si_sing_11 rfl rfl ?_
  obtain ⟨μ12, h12, h⟩ := bnd h
  refine aw_putI 15 false d_Si_sing_12 rfl fp_Si_65 (fun z => nomatch z) rfl h12 ?_
  refine aw_aload_n 16 d_Si_sing_15 rfl rfl ?_
  refine aw_iload 18 d_Si_sing_16 rfl rfl ?_
  obtain ⟨μ18, h18, h⟩ := bnd h
  refine aw_putZ 21 false d_Si_sing_18 rfl fp_Si_68 (fun z => nomatch z) rfl h18 ?_
  refine aw_aload_n 22 d_Si_sing_21 rfl rfl ?_
  refine aw_aload_n 23 d_Si_sing_22 rfl rfl ?_
  obtain ⟨y23, h23, h⟩ := bnd h
  refine aw_getR 26 d_Si_sing_23 rfl fg_Si_46 rfl h23 ?_
  obtain ⟨y26, h26, h⟩ := bnd h
  refine aw_getI 29 d_Si_sing_26 rfl fg_Si_72 (Or.inl rfl) h26 ?_
  obtain ⟨μ29, h29, h⟩ := bnd h
  refine aw_putI 32 false d_Si_sing_29 rfl fp_Si_75 (fun z => nomatch z) rfl h29 ?_
  refine aw_aload_n 33 d_Si_sing_32 rfl rfl ?_
  refine aw_lconst (v := (0 : Int64)) 34 d_Si_sing_33 rfl (by decide) ?_
  obtain ⟨μ34, h34, h⟩ := bnd h
  refine aw_putL 37 false d_Si_sing_34 rfl fp_Si_76 (fun z => nomatch z) rfl h34 ?_
  refine aw_iconst (v := (0 : Int32)) 38 d_Si_sing_37 rfl (by decide) ?_
  refine aw_istore (loc' := [some (.ref a0), some (.ref a1), some (.int x2), some (.int x3), some (.int x4), some (.int (0 : Int32)), none]) 40 d_Si_sing_38 rfl (by decide) rfl ?_
  exact AW.wk [true, false, false, false, false, true, true] rfl (l_Si_sing_40 FU _ _ h)
theorem k_Si_sing {q : MM} {a0 : Nat} {a1 : Nat} {x2 : Int32} {x3 : Int32} {x4 : Int32} {μ : MM} (h : f_Si_sing a0 a1 x2 x3 x4 μ = some q) : μ.1[a0]? = some (0, 9) := by
  unfold f_Si_sing at h
  obtain ⟨_, h1, _⟩ := bnd h
  exact kO_some h1
theorem m_Si_asTold {l : Launch} {q : MM} {a0 : Nat} {μ : MM} (h : f_Si_asTold a0 μ = some q) : AMet l 7 Y_Si_asTold [.ref a0] μ none q := by
  refine AMet.of (loc := [some (.ref a0)]) pn_Si_asTold (Nat.le_of_ble_eq_true rfl) rfl ?_
  unfold f_Si_asTold at h
  obtain ⟨_, hk, h⟩ := bnd h
  refine aw_aload_n 1 d_Si_asTold_0 rfl rfl ?_
  refine aw_aload_n 2 d_Si_asTold_1 rfl rfl ?_
  obtain ⟨y2, h2, h⟩ := bnd h
  refine aw_getR 5 d_Si_asTold_2 rfl fg_Si_46 rfl h2 ?_
  obtain ⟨y5, h5, h⟩ := bnd h
  refine aw_getR 8 d_Si_asTold_5 rfl fg_Si_50 rfl h5 ?_
  refine aw_aload_n 9 d_Si_asTold_8 rfl rfl ?_
  obtain ⟨y9, h9, h⟩ := bnd h
  refine aw_getR 12 d_Si_asTold_9 rfl fg_Si_46 rfl h9 ?_
  obtain ⟨y12, h12, h⟩ := bnd h
  refine aw_getI 15 d_Si_asTold_12 rfl fg_Si_56 (Or.inl rfl) h12 ?_
  refine aw_iconst (v := (0 : Int32)) 16 d_Si_asTold_15 rfl (by decide) ?_
  refine aw_iconst (v := (0 : Int32)) 17 d_Si_asTold_16 rfl (by decide) ?_
  obtain ⟨μ17, h17, h⟩ := bnd h
  refine aw_invV (rest := []) (st' := []) (As := [.ref y5, .int y12, .int (0 : Int32), .int (0 : Int32)]) 20 d_Si_asTold_17 rfl lv_Si_60 (m_Si_sing h17) (by decide) (k_Si_sing h17) rfl rfl rfl (Nat.le_of_ble_eq_true rfl) rfl ?_
  cases h
  exact aw_return d_Si_asTold_20 rfl
theorem k_Si_asTold {q : MM} {a0 : Nat} {μ : MM} (h : f_Si_asTold a0 μ = some q) : μ.1[a0]? = some (0, 9) := by
  unfold f_Si_asTold at h
  obtain ⟨_, h1, _⟩ := bnd h
  exact kO_some h1
theorem m_Si_sung {l : Launch} {q : Int64} {a0 : Nat} {x1 : Int32} {x2 : Int32} {μ : MM} (h : f_Si_sung a0 x1 x2 μ = some q) : AMet l 3 Y_Si_sung [.ref a0, .int x1, .int x2] μ (some (.long q)) μ := by
  refine AMet.of (loc := [some (.ref a0), some (.int x1), some (.int x2)]) pn_Si_sung (Nat.le_of_ble_eq_true rfl) rfl ?_
  unfold f_Si_sung at h
  obtain ⟨_, hk, h⟩ := bnd h
  refine aw_aload_n 1 d_Si_sung_0 rfl rfl ?_
  obtain ⟨y1, h1, h⟩ := bnd h
  refine aw_getR 4 d_Si_sung_1 rfl fg_Si_46 rfl h1 ?_
  refine aw_iload_n 5 d_Si_sung_4 rfl rfl ?_
  refine aw_iload_n 6 d_Si_sung_5 rfl rfl ?_
  obtain ⟨y6, h6, h⟩ := bnd h
  refine aw_invV (rest := []) (st' := [.int y6]) (As := [.int x1, .int x2]) 9 d_Si_sung_6 rfl lv_Si_94 (m_Ch_sings h6) (by decide) (k_Ch_sings h6) rfl rfl rfl (Nat.le_of_ble_eq_true rfl) rfl ?_
  refine aw_if_eq 26 12 d_Si_sung_9 (by decide) rfl (fun c9 => ?_) (fun c9 => ?_)
  · have h := (if_pos c9).symm.trans h
    refine aw_lconst (v := (0 : Int64)) 27 d_Si_sung_26 rfl (by decide) ?_
    cases h
    exact aw_lreturn d_Si_sung_27 rfl
  · have h := (if_neg c9).symm.trans h
    refine aw_aload_n 13 d_Si_sung_12 rfl rfl ?_
    obtain ⟨y13, h13, h⟩ := bnd h
    refine aw_getR 16 d_Si_sung_13 rfl fg_Si_9 rfl h13 ?_
    refine aw_iload_n 17 d_Si_sung_16 rfl rfl ?_
    refine aw_bipush (v := (24 : Int32)) 19 d_Si_sung_17 rfl (by decide) ?_
    refine aw_imul 20 d_Si_sung_19 rfl ?_
    refine aw_iload_n 21 d_Si_sung_20 rfl rfl ?_
    refine aw_iadd 22 d_Si_sung_21 rfl ?_
    obtain ⟨y22, h22, h⟩ := bnd h
    refine aw_lald 23 d_Si_sung_22 rfl h22 ?_
    refine aw_goto 27 d_Si_sung_23 (by decide) ?_
    cases h
    exact aw_lreturn d_Si_sung_27 rfl
theorem k_Si_sung {q : Int64} {a0 : Nat} {x1 : Int32} {x2 : Int32} {μ : MM} (h : f_Si_sung a0 x1 x2 μ = some q) : μ.1[a0]? = some (0, 9) := by
  unfold f_Si_sung at h
  obtain ⟨_, h1, _⟩ := bnd h
  exact kO_some h1
theorem m_X_pitch {l : Launch} {q : Int32 × MM} {a0 : Nat} {x1 : Int32} {x2 : Int32} {μ : MM} (h : f_X_pitch a0 x1 x2 μ = some q) : AMet l 8 Y_X_pitch [.ref a0, .int x1, .int x2] μ (some (.int q.1)) q.2 := by
  refine AMet.of (loc := [some (.ref a0), some (.int x1), some (.int x2)]) pn_X_pitch (Nat.le_of_ble_eq_true rfl) rfl ?_
  unfold f_X_pitch at h
  obtain ⟨_, hk, h⟩ := bnd h
  refine aw_aload_n 1 d_X_pitch_0 rfl rfl ?_
  obtain ⟨y1, h1, h⟩ := bnd h
  refine aw_getR 4 d_X_pitch_1 rfl fg_X_21 rfl h1 ?_
  refine aw_iload_n 5 d_X_pitch_4 rfl rfl ?_
  refine aw_iload_n 6 d_X_pitch_5 rfl rfl ?_
  obtain ⟨y6, h6, h⟩ := bnd h
  refine aw_invV (rest := []) (st' := [.int y6]) (As := [.int x1, .int x2]) 9 d_X_pitch_6 rfl lv_X_229 (m_Ch_sings h6) (by decide) (k_Ch_sings h6) rfl rfl rfl (Nat.le_of_ble_eq_true rfl) rfl ?_
  refine aw_if_ne 15 12 d_X_pitch_9 (by decide) rfl (fun c9 => ?_) (fun c9 => ?_)
  · have h := (if_neg c9).symm.trans h
    refine aw_aload_n 16 d_X_pitch_15 rfl rfl ?_
    obtain ⟨y16, h16, h⟩ := bnd h
    refine aw_getR 19 d_X_pitch_16 rfl fg_X_30 rfl h16 ?_
    obtain ⟨μ19, h19, h⟩ := bnd h
    refine aw_invV (rest := []) (st' := []) (As := []) 22 d_X_pitch_19 rfl lv_X_232 (m_Si_asTold h19) (by decide) (k_Si_asTold h19) rfl rfl rfl (Nat.le_of_ble_eq_true rfl) rfl ?_
    refine aw_aload_n 23 d_X_pitch_22 rfl rfl ?_
    obtain ⟨y23, h23, h⟩ := bnd h
    refine aw_getR 26 d_X_pitch_23 rfl fg_X_30 rfl h23 ?_
    refine aw_iload_n 27 d_X_pitch_26 rfl rfl ?_
    refine aw_iload_n 28 d_X_pitch_27 rfl rfl ?_
    obtain ⟨y28, h28, h⟩ := bnd h
    refine aw_invV (rest := []) (st' := [.long y28]) (As := [.int x1, .int x2]) 31 d_X_pitch_28 rfl lv_X_235 (m_Si_sung h28) (by decide) (k_Si_sung h28) rfl rfl rfl (Nat.le_of_ble_eq_true rfl) rfl ?_
    refine aw_l2i 32 d_X_pitch_31 rfl ?_
    cases h
    exact aw_ireturn d_X_pitch_32 rfl rfl
  · have h := (if_pos c9).symm.trans h
    refine aw_ldc (v := (-1000000000 : Int32)) 14 d_X_pitch_12 rfl c_X_102 ?_
    cases h
    exact aw_ireturn d_X_pitch_14 rfl rfl
theorem k_X_pitch {q : Int32 × MM} {a0 : Nat} {x1 : Int32} {x2 : Int32} {μ : MM} (h : f_X_pitch a0 x1 x2 μ = some q) : μ.1[a0]? = some (0, 0) := by
  unfold f_X_pitch at h
  obtain ⟨_, h1, _⟩ := bnd h
  exact kO_some h1
theorem m_M_sings {l : Launch} {q : Int32} {a0 : Nat} {x1 : Int32} {x2 : Int32} {μ : MM} (h : f_M_sings a0 x1 x2 μ = some q) : AMet l 4 Y_M_sings [.ref a0, .int x1, .int x2] μ (some (.int q)) μ := by
  refine AMet.of (loc := [some (.ref a0), some (.int x1), some (.int x2)]) pn_M_sings (Nat.le_of_ble_eq_true rfl) rfl ?_
  unfold f_M_sings at h
  obtain ⟨_, hk, h⟩ := bnd h
  refine aw_aload_n 1 d_M_sings_0 rfl rfl ?_
  refine aw_aload_n 2 d_M_sings_1 rfl rfl ?_
  obtain ⟨y2, h2, h⟩ := bnd h
  refine aw_getR 5 d_M_sings_2 rfl fg_M_56 rfl h2 ?_
  refine aw_iload_n 6 d_M_sings_5 rfl rfl ?_
  obtain ⟨y6, h6, h⟩ := bnd h
  refine aw_iald 7 d_M_sings_6 rfl h6 ?_
  refine aw_iload_n 8 d_M_sings_7 rfl rfl ?_
  obtain ⟨y8, h8, h⟩ := bnd h
  refine aw_invV (rest := []) (st' := [.int y8]) (As := [.int y6, .int x2]) 11 d_M_sings_8 rfl lv_M_162 (m_M_isNote h8) (by decide) (k_M_isNote h8) rfl rfl rfl (Nat.le_of_ble_eq_true rfl) rfl ?_
  obtain ⟨y11, h11, h⟩ := bnd h
  obtain ⟨e11, n11⟩ := rz_some h11
  rw [e11] at h
  cases h
  exact aw_ireturn d_M_sings_11 rfl n11
theorem k_M_sings {q : Int32} {a0 : Nat} {x1 : Int32} {x2 : Int32} {μ : MM} (h : f_M_sings a0 x1 x2 μ = some q) : μ.1[a0]? = some (0, 1) := by
  unfold f_M_sings at h
  obtain ⟨_, h1, _⟩ := bnd h
  exact kO_some h1
theorem l_M_readies_2 {l : Launch} {μ0 : MM} {q : MM} {a0 : Nat} : ∀ (n : Nat) (x1 : Int32) (μ : MM), f_M_readies_L2 a0 n x1 μ = some q → AWm l Y_M_readies 1 μ0 none q 2 [some (.ref a0), some (.int x1)] [] μ := by
  intro n
  induction n with
  | zero =>
    intro x1 μ h
    have h : (none : Option (MM)) = some q := h
    cases h
  | succ n ih =>
    intro x1 μ h
    rw [f_M_readies_L2] at h
    refine aw_iload_n 3 d_M_readies_2 rfl rfl ?_
    refine aw_aload_n 4 d_M_readies_3 rfl rfl ?_
    obtain ⟨y4, h4, h⟩ := bnd h
    refine aw_getI 7 d_M_readies_4 rfl fg_M_275 (Or.inl rfl) h4 ?_
    refine aw_icmp_ge 40 10 d_M_readies_7 (by decide) rfl (fun c7 => ?_) (fun c7 => ?_)
    · have h := (if_pos c7).symm.trans h
      refine aw_aload_n 41 d_M_readies_40 rfl rfl ?_
      refine aw_aload_n 42 d_M_readies_41 rfl rfl ?_
      obtain ⟨y42, h42, h⟩ := bnd h
      refine aw_getI 45 d_M_readies_42 rfl fg_M_302 (Or.inl rfl) h42 ?_
      obtain ⟨μ45, h45, h⟩ := bnd h
      refine aw_putI 48 false d_M_readies_45 rfl fp_M_497 (fun z => nomatch z) rfl h45 ?_
      refine aw_aload_n 49 d_M_readies_48 rfl rfl ?_
      refine aw_iconst (v := (0 : Int32)) 50 d_M_readies_49 rfl (by decide) ?_
      obtain ⟨μ50, h50, h⟩ := bnd h
      refine aw_putI 53 false d_M_readies_50 rfl fp_M_420 (fun z => nomatch z) rfl h50 ?_
      cases h
      exact aw_return d_M_readies_53 rfl
    · have h := (if_neg c7).symm.trans h
      refine aw_aload_n 11 d_M_readies_10 rfl rfl ?_
      obtain ⟨y11, h11, h⟩ := bnd h
      refine aw_getR 14 d_M_readies_11 rfl fg_M_110 rfl h11 ?_
      refine aw_iload_n 15 d_M_readies_14 rfl rfl ?_
      refine aw_aload_n 16 d_M_readies_15 rfl rfl ?_
      obtain ⟨y16, h16, h⟩ := bnd h
      refine aw_getR 19 d_M_readies_16 rfl fg_M_59 rfl h16 ?_
      refine aw_iload_n 20 d_M_readies_19 rfl rfl ?_
      obtain ⟨y20, h20, h⟩ := bnd h
      refine aw_iald 21 d_M_readies_20 rfl h20 ?_
      obtain ⟨μ21, h21, h⟩ := bnd h
      refine aw_iast 22 d_M_readies_21 rfl h21 ?_
      refine aw_aload_n 23 d_M_readies_22 rfl rfl ?_
      obtain ⟨y23, h23, h⟩ := bnd h
      refine aw_getR 26 d_M_readies_23 rfl fg_M_113 rfl h23 ?_
      refine aw_iload_n 27 d_M_readies_26 rfl rfl ?_
      refine aw_aload_n 28 d_M_readies_27 rfl rfl ?_
      obtain ⟨y28, h28, h⟩ := bnd h
      refine aw_getR 31 d_M_readies_28 rfl fg_M_65 rfl h28 ?_
      refine aw_iload_n 32 d_M_readies_31 rfl rfl ?_
      obtain ⟨y32, h32, h⟩ := bnd h
      refine aw_iald 33 d_M_readies_32 rfl h32 ?_
      obtain ⟨μ33, h33, h⟩ := bnd h
      refine aw_iast 34 d_M_readies_33 rfl h33 ?_
      refine aw_iinc (v := (x1 + (1 : Int32))) (loc' := [some (.ref a0), some (.int (x1 + (1 : Int32)))]) 37 d_M_readies_34 rfl (by decide) rfl rfl rfl ?_
      refine aw_goto 2 d_M_readies_37 (by decide) ?_
      exact (ih (x1 + (1 : Int32)) μ33 h)
theorem m_M_readies {l : Launch} {q : MM} {a0 : Nat} {μ : MM} (h : f_M_readies a0 μ = some q) : AMet l 1 Y_M_readies [.ref a0] μ none q := by
  refine AMet.of (loc := [some (.ref a0), none]) pn_M_readies (Nat.le_of_ble_eq_true rfl) rfl ?_
  unfold f_M_readies at h
  obtain ⟨_, hk, h⟩ := bnd h
  refine aw_iconst (v := (0 : Int32)) 1 d_M_readies_0 rfl (by decide) ?_
  refine aw_istore_n (loc' := [some (.ref a0), some (.int (0 : Int32))]) 2 d_M_readies_1 rfl (by decide) rfl ?_
  exact (l_M_readies_2 FU _ _ h)
theorem k_M_readies {q : MM} {a0 : Nat} {μ : MM} (h : f_M_readies a0 μ = some q) : μ.1[a0]? = some (0, 1) := by
  unfold f_M_readies at h
  obtain ⟨_, h1, _⟩ := bnd h
  exact kO_some h1
theorem m_M_has {l : Launch} {q : Int32} {x0 : Int32} {x1 : Int32} {μ : MM} (h : f_M_has x0 x1 = some q) : AMet l 1 Y_M_has [.int x0, .int x1] μ (some (.int q)) μ := by
  refine AMet.of (loc := [some (.int x0), some (.int x1)]) pn_M_has (Nat.le_of_ble_eq_true rfl) rfl ?_
  unfold f_M_has at h
  refine aw_iload_n 1 d_M_has_0 rfl rfl ?_
  refine aw_iload_n 2 d_M_has_1 rfl rfl ?_
  refine aw_ishr 3 d_M_has_2 rfl ?_
  refine aw_iconst (v := (1 : Int32)) 4 d_M_has_3 rfl (by decide) ?_
  refine aw_iand 5 d_M_has_4 rfl ?_
  refine aw_iconst (v := (1 : Int32)) 6 d_M_has_5 rfl (by decide) ?_
  refine aw_icmp_ne 13 9 d_M_has_6 (by decide) rfl (fun c6 => ?_) (fun c6 => ?_)
  · have h := (if_neg c6).symm.trans h
    refine aw_iconst (v := (0 : Int32)) 14 d_M_has_13 rfl (by decide) ?_
    cases h
    exact aw_ireturn d_M_has_14 rfl nar0
  · have h := (if_pos c6).symm.trans h
    refine aw_iconst (v := (1 : Int32)) 10 d_M_has_9 rfl (by decide) ?_
    refine aw_goto 14 d_M_has_10 (by decide) ?_
    cases h
    exact aw_ireturn d_M_has_14 rfl nar1
theorem m_M_keyOf {l : Launch} {q : Int32} {a0 : Nat} {x1 : Int32} {x2 : Int32} {μ : MM} (h : f_M_keyOf a0 x1 x2 μ = some q) : AMet l 2 Y_M_keyOf [.ref a0, .int x1, .int x2] μ (some (.int q)) μ := by
  refine AMet.of (loc := [some (.ref a0), some (.int x1), some (.int x2)]) pn_M_keyOf (Nat.le_of_ble_eq_true rfl) rfl ?_
  unfold f_M_keyOf at h
  obtain ⟨_, hk, h⟩ := bnd h
  refine aw_aload_n 1 d_M_keyOf_0 rfl rfl ?_
  obtain ⟨y1, h1, h⟩ := bnd h
  refine aw_getR 4 d_M_keyOf_1 rfl fg_M_13 rfl h1 ?_
  refine aw_aload_n 5 d_M_keyOf_4 rfl rfl ?_
  obtain ⟨y5, h5, h⟩ := bnd h
  refine aw_getR 8 d_M_keyOf_5 rfl fg_M_56 rfl h5 ?_
  refine aw_iload_n 9 d_M_keyOf_8 rfl rfl ?_
  obtain ⟨y9, h9, h⟩ := bnd h
  refine aw_iald 10 d_M_keyOf_9 rfl h9 ?_
  refine aw_iload_n 11 d_M_keyOf_10 rfl rfl ?_
  obtain ⟨y11, h11, h⟩ := bnd h
  refine aw_invS (rest := [.ref y1]) (st' := [.int y11, .ref y1]) (As := [.int y9, .int x2]) 14 d_M_keyOf_11 rfl ls_M_158 (m_M_cellOf h11) (by decide) rfl rfl (Nat.le_of_ble_eq_true rfl) rfl ?_
  obtain ⟨y14, h14, h⟩ := bnd h
  refine aw_iald 15 d_M_keyOf_14 rfl h14 ?_
  cases h
  exact aw_ireturn d_M_keyOf_15 rfl rfl
theorem k_M_keyOf {q : Int32} {a0 : Nat} {x1 : Int32} {x2 : Int32} {μ : MM} (h : f_M_keyOf a0 x1 x2 μ = some q) : μ.1[a0]? = some (0, 1) := by
  unfold f_M_keyOf at h
  obtain ⟨_, h1, _⟩ := bnd h
  exact kO_some h1
theorem m_M_tableOf {l : Launch} {q : Int32} {a0 : Nat} {x1 : Int32} {μ : MM} (h : f_M_tableOf a0 x1 μ = some q) : AMet l 1 Y_M_tableOf [.ref a0, .int x1] μ (some (.int q)) μ := by
  refine AMet.of (loc := [some (.ref a0), some (.int x1)]) pn_M_tableOf (Nat.le_of_ble_eq_true rfl) rfl ?_
  unfold f_M_tableOf at h
  obtain ⟨_, hk, h⟩ := bnd h
  refine aw_ldc_w (v := (100000 : Int32)) 3 d_M_tableOf_0 rfl c_M_419 ?_
  refine aw_iload_n 4 d_M_tableOf_3 rfl rfl ?_
  refine aw_imul 5 d_M_tableOf_4 rfl ?_
  refine aw_aload_n 6 d_M_tableOf_5 rfl rfl ?_
  obtain ⟨y6, h6, h⟩ := bnd h
  refine aw_getR 9 d_M_tableOf_6 rfl fg_M_68 rfl h6 ?_
  refine aw_iload_n 10 d_M_tableOf_9 rfl rfl ?_
  refine aw_bipush (v := (12 : Int32)) 12 d_M_tableOf_10 rfl (by decide) ?_
  refine aw_irem 13 d_M_tableOf_12 rfl (by decide) ?_
  refine aw_aload_n 14 d_M_tableOf_13 rfl rfl ?_
  obtain ⟨y14, h14, h⟩ := bnd h
  refine aw_getI 17 d_M_tableOf_14 rfl fg_M_420 (Or.inl rfl) h14 ?_
  refine aw_isub 18 d_M_tableOf_17 rfl ?_
  refine aw_bipush (v := (12 : Int32)) 20 d_M_tableOf_18 rfl (by decide) ?_
  refine aw_iadd 21 d_M_tableOf_20 rfl ?_
  refine aw_bipush (v := (12 : Int32)) 23 d_M_tableOf_21 rfl (by decide) ?_
  refine aw_irem 24 d_M_tableOf_23 rfl (by decide) ?_
  obtain ⟨y24, h24, h⟩ := bnd h
  refine aw_iald 25 d_M_tableOf_24 rfl h24 ?_
  refine aw_iadd 26 d_M_tableOf_25 rfl ?_
  cases h
  exact aw_ireturn d_M_tableOf_26 rfl rfl
theorem k_M_tableOf {q : Int32} {a0 : Nat} {x1 : Int32} {μ : MM} (h : f_M_tableOf a0 x1 μ = some q) : μ.1[a0]? = some (0, 1) := by
  unfold f_M_tableOf at h
  obtain ⟨_, h1, _⟩ := bnd h
  exact kO_some h1
theorem j_M_hearsOf_44 {l : Launch} {μ0 : MM} {q : Int32} {a0 : Nat} {x2 : Int32} {s0 : Int32} {μ : MM} (h : f_M_hearsOf_J44 a0 x2 s0 μ = some q) : AWm l Y_M_hearsOf 1 μ0 (some (.int q)) μ 44 [some (.ref a0), none, some (.int x2), none] [.int s0] μ := by
  unfold f_M_hearsOf_J44 at h
  refine aw_istore_n (loc' := [some (.ref a0), none, some (.int x2), some (.int s0)]) 45 d_M_hearsOf_44 rfl (by decide) rfl ?_
  refine aw_iload_n 46 d_M_hearsOf_45 rfl rfl ?_
  refine aw_bipush (v := (8 : Int32)) 48 d_M_hearsOf_46 rfl (by decide) ?_
  refine aw_icmp_ge 65 51 d_M_hearsOf_48 (by decide) rfl (fun c48 => ?_) (fun c48 => ?_)
  · have h := (if_pos c48).symm.trans h
    refine aw_iconst (v := (0 : Int32)) 66 d_M_hearsOf_65 rfl (by decide) ?_
    cases h
    exact aw_ireturn d_M_hearsOf_66 rfl rfl
  · have h := (if_neg c48).symm.trans h
    refine aw_aload_n 52 d_M_hearsOf_51 rfl rfl ?_
    obtain ⟨y52, h52, h⟩ := bnd h
    refine aw_getR 55 d_M_hearsOf_52 rfl fg_M_62 rfl h52 ?_
    refine aw_iload_n 56 d_M_hearsOf_55 rfl rfl ?_
    obtain ⟨y56, h56, h⟩ := bnd h
    refine aw_iald 57 d_M_hearsOf_56 rfl h56 ?_
    refine aw_bipush (v := (8 : Int32)) 59 d_M_hearsOf_57 rfl (by decide) ?_
    refine aw_iload_n 60 d_M_hearsOf_59 rfl rfl ?_
    refine aw_isub 61 d_M_hearsOf_60 rfl ?_
    refine aw_imul 62 d_M_hearsOf_61 rfl ?_
    refine aw_goto 66 d_M_hearsOf_62 (by decide) ?_
    cases h
    exact aw_ireturn d_M_hearsOf_66 rfl rfl
theorem m_M_hearsOf {l : Launch} {q : Int32} {a0 : Nat} {x1 : Int32} {x2 : Int32} {μ : MM} (h : f_M_hearsOf a0 x1 x2 μ = some q) : AMet l 1 Y_M_hearsOf [.ref a0, .int x1, .int x2] μ (some (.int q)) μ := by
  refine AMet.of (loc := [some (.ref a0), some (.int x1), some (.int x2), none]) pn_M_hearsOf (Nat.le_of_ble_eq_true rfl) rfl ?_
  unfold f_M_hearsOf at h
  obtain ⟨_, hk, h⟩ := bnd h
  refine aw_aload_n 1 d_M_hearsOf_0 rfl rfl ?_
  obtain ⟨y1, h1, h⟩ := bnd h
  refine aw_getR 4 d_M_hearsOf_1 rfl fg_M_110 rfl h1 ?_
  refine aw_iload_n 5 d_M_hearsOf_4 rfl rfl ?_
  obtain ⟨y5, h5, h⟩ := bnd h
  refine aw_iald 6 d_M_hearsOf_5 rfl h5 ?_
  refine aw_aload_n 7 d_M_hearsOf_6 rfl rfl ?_
  obtain ⟨y7, h7, h⟩ := bnd h
  refine aw_getR 10 d_M_hearsOf_7 rfl fg_M_110 rfl h7 ?_
  refine aw_iload_n 11 d_M_hearsOf_10 rfl rfl ?_
  obtain ⟨y11, h11, h⟩ := bnd h
  refine aw_iald 12 d_M_hearsOf_11 rfl h11 ?_
  refine aw_icmp_ge 31 15 d_M_hearsOf_12 (by decide) rfl (fun c12 => ?_) (fun c12 => ?_)
  · have h := (if_pos c12).symm.trans h
    refine aw_aload_n 32 d_M_hearsOf_31 rfl rfl ?_
    obtain ⟨y32, h32, h⟩ := bnd h
    refine aw_getR 35 d_M_hearsOf_32 rfl fg_M_110 rfl h32 ?_
    refine aw_iload_n 36 d_M_hearsOf_35 rfl rfl ?_
    obtain ⟨y36, h36, h⟩ := bnd h
    refine aw_iald 37 d_M_hearsOf_36 rfl h36 ?_
    refine aw_aload_n 38 d_M_hearsOf_37 rfl rfl ?_
    obtain ⟨y38, h38, h⟩ := bnd h
    refine aw_getR 41 d_M_hearsOf_38 rfl fg_M_110 rfl h38 ?_
    refine aw_iload_n 42 d_M_hearsOf_41 rfl rfl ?_
    obtain ⟨y42, h42, h⟩ := bnd h
    refine aw_iald 43 d_M_hearsOf_42 rfl h42 ?_
    refine aw_isub 44 d_M_hearsOf_43 rfl ?_
    exact AW.wk [true, false, true, true] rfl (j_M_hearsOf_44 h)
  · have h := (if_neg c12).symm.trans h
    refine aw_aload_n 16 d_M_hearsOf_15 rfl rfl ?_
    obtain ⟨y16, h16, h⟩ := bnd h
    refine aw_getR 19 d_M_hearsOf_16 rfl fg_M_110 rfl h16 ?_
    refine aw_iload_n 20 d_M_hearsOf_19 rfl rfl ?_
    obtain ⟨y20, h20, h⟩ := bnd h
    refine aw_iald 21 d_M_hearsOf_20 rfl h20 ?_
    refine aw_aload_n 22 d_M_hearsOf_21 rfl rfl ?_
    obtain ⟨y22, h22, h⟩ := bnd h
    refine aw_getR 25 d_M_hearsOf_22 rfl fg_M_110 rfl h22 ?_
    refine aw_iload_n 26 d_M_hearsOf_25 rfl rfl ?_
    obtain ⟨y26, h26, h⟩ := bnd h
    refine aw_iald 27 d_M_hearsOf_26 rfl h26 ?_
    refine aw_isub 28 d_M_hearsOf_27 rfl ?_
    refine aw_goto 44 d_M_hearsOf_28 (by decide) ?_
    exact AW.wk [true, false, true, true] rfl (j_M_hearsOf_44 h)
theorem k_M_hearsOf {q : Int32} {a0 : Nat} {x1 : Int32} {x2 : Int32} {μ : MM} (h : f_M_hearsOf a0 x1 x2 μ = some q) : μ.1[a0]? = some (0, 1) := by
  unfold f_M_hearsOf at h
  obtain ⟨_, h1, _⟩ := bnd h
  exact kO_some h1
theorem m_M_sizeFor {l : Launch} {q : Int32} {a0 : Nat} {x1 : Int32} {x2 : Int32} {μ : MM} (h : f_M_sizeFor a0 x1 x2 μ = some q) : AMet l 3 Y_M_sizeFor [.ref a0, .int x1, .int x2] μ (some (.int q)) μ := by
  refine AMet.of (loc := [some (.ref a0), some (.int x1), some (.int x2)]) pn_M_sizeFor (Nat.le_of_ble_eq_true rfl) rfl ?_
  unfold f_M_sizeFor at h
  obtain ⟨_, hk, h⟩ := bnd h
  refine aw_aload_n 1 d_M_sizeFor_0 rfl rfl ?_
  refine aw_aload_n 2 d_M_sizeFor_1 rfl rfl ?_
  obtain ⟨y2, h2, h⟩ := bnd h
  refine aw_getR 5 d_M_sizeFor_2 rfl fg_M_56 rfl h2 ?_
  refine aw_iload_n 6 d_M_sizeFor_5 rfl rfl ?_
  obtain ⟨y6, h6, h⟩ := bnd h
  refine aw_iald 7 d_M_sizeFor_6 rfl h6 ?_
  refine aw_iload_n 8 d_M_sizeFor_7 rfl rfl ?_
  obtain ⟨y8, h8, h⟩ := bnd h
  refine aw_invV (rest := []) (st' := [.int y8]) (As := [.int y6, .int x2]) 11 d_M_sizeFor_8 rfl lv_M_219 (m_M_sizeAt h8) (by decide) (k_M_sizeAt h8) rfl rfl rfl (Nat.le_of_ble_eq_true rfl) rfl ?_
  cases h
  exact aw_ireturn d_M_sizeFor_11 rfl rfl
theorem k_M_sizeFor {q : Int32} {a0 : Nat} {x1 : Int32} {x2 : Int32} {μ : MM} (h : f_M_sizeFor a0 x1 x2 μ = some q) : μ.1[a0]? = some (0, 1) := by
  unfold f_M_sizeFor at h
  obtain ⟨_, h1, _⟩ := bnd h
  exact kO_some h1
theorem m_M_floor {l : Launch} {q : Int64} {x0 : Int64} {x2 : Int64} {μ : MM} (h : f_M_floor x0 x2 = some q) : AMet l 1 Y_M_floor [.long x0, .long x2] μ (some (.long q)) μ := by
  refine AMet.of (loc := [some (.long x0), none, some (.long x2), none]) pn_M_floor (Nat.le_of_ble_eq_true rfl) rfl ?_
  unfold f_M_floor at h
  refine aw_lload_n 1 d_M_floor_0 rfl rfl ?_
  refine aw_lconst (v := (0 : Int64)) 2 d_M_floor_1 rfl (by decide) ?_
  refine aw_lcmp 3 d_M_floor_2 rfl ?_
  refine aw_if_lt 12 6 d_M_floor_3 (by decide) rfl (fun c3 => ?_) (fun c3 => ?_)
  · have h := (if_pos c3).symm.trans h
    refine aw_lload_n 13 d_M_floor_12 rfl rfl ?_
    refine aw_lconst (v := (1 : Int64)) 14 d_M_floor_13 rfl (by decide) ?_
    refine aw_lsub 15 d_M_floor_14 rfl ?_
    refine aw_lload_n 16 d_M_floor_15 rfl rfl ?_
    refine aw_lsub 17 d_M_floor_16 rfl ?_
    refine aw_lload_n 18 d_M_floor_17 rfl rfl ?_
    obtain ⟨u18, h18, h⟩ := bnd h
    refine aw_ldiv 19 d_M_floor_18 rfl (gdl_some h18) ?_
    refine aw_lneg 20 d_M_floor_19 rfl ?_
    cases h
    exact aw_lreturn d_M_floor_20 rfl
  · have h := (if_neg c3).symm.trans h
    refine aw_lload_n 7 d_M_floor_6 rfl rfl ?_
    refine aw_lload_n 8 d_M_floor_7 rfl rfl ?_
    obtain ⟨u8, h8, h⟩ := bnd h
    refine aw_ldiv 9 d_M_floor_8 rfl (gdl_some h8) ?_
    refine aw_goto 20 d_M_floor_9 (by decide) ?_
    cases h
    exact aw_lreturn d_M_floor_20 rfl
theorem j_M_listens_120 {l : Launch} {μ0 : MM} {q : MM} {s0 : Nat} {s1 : Int64} {μ : MM} (h : f_M_listens_J120 s0 s1 μ = some q) : AWm l Y_M_listens 5 μ0 none q 120 [none, none, none, none, none, none, none, none, none, none] [.long s1, .ref s0] μ := by
  unfold f_M_listens_J120 at h
  obtain ⟨μ120, h120, h⟩ := bnd h
  refine aw_putL 123 false d_M_listens_120 rfl fp_M_474 (fun z => nomatch z) rfl h120 ?_
  cases h
  exact aw_return d_M_listens_123 rfl
theorem j_M_listens_99 {l : Launch} {μ0 : MM} {q : MM} {a0 : Nat} {x3 : Int64} {x5 : Int64} {s0 : Nat} {s1 : Int32} {μ : MM} (h : f_M_listens_J99 a0 x3 x5 s0 s1 μ = some q) : AWm l Y_M_listens 5 μ0 none q 99 [some (.ref a0), none, none, some (.long x3), none, some (.long x5), none, none, none, none] [.int s1, .ref s0] μ := by
  unfold f_M_listens_J99 at h
  obtain ⟨μ99, h99, h⟩ := bnd h
  refine aw_putZ 102 false d_M_listens_99 rfl fp_M_471 (fun z => nomatch z) rfl h99 ?_
  refine aw_aload_n 103 d_M_listens_102 rfl rfl ?_
  refine aw_aload_n 104 d_M_listens_103 rfl rfl ?_
  obtain ⟨y104, h104, h⟩ := bnd h
  refine aw_getI 107 d_M_listens_104 rfl fg_M_471 (Or.inr rfl) h104 ?_
  refine aw_if_eq 119 110 d_M_listens_107 (by decide) rfl (fun c107 => ?_) (fun c107 => ?_)
  · have h := (if_pos c107).symm.trans h
    refine aw_lconst (v := (0 : Int64)) 120 d_M_listens_119 rfl (by decide) ?_
    exact AW.wk [false, true, true, false, true, false, true, true, true, true] rfl (j_M_listens_120 h)
  · have h := (if_neg c107).symm.trans h
    refine aw_lload_n 111 d_M_listens_110 rfl rfl ?_
    refine aw_lload 113 d_M_listens_111 rfl rfl ?_
    obtain ⟨y113, h113, h⟩ := bnd h
    refine aw_invS (rest := [.ref a0]) (st' := [.long y113, .ref a0]) (As := [.long x3, .long x5]) 116 d_M_listens_113 rfl ls_M_446 (m_M_floor h113) (by decide) rfl rfl (Nat.le_of_ble_eq_true rfl) rfl ?_
    refine aw_goto 120 d_M_listens_116 (by decide) ?_
    exact AW.wk [false, true, true, false, true, false, true, true, true, true] rfl (j_M_listens_120 h)
theorem l_M_listens_8 {l : Launch} {μ0 : MM} {q : MM} {a0 : Nat} {x1 : Int32} {x2 : Int32} {μ : MM} : ∀ (n : Nat) (x3 : Int64) (x5 : Int64) (x7 : Int32), f_M_listens_L8 a0 x1 x2 μ n x3 x5 x7 = some q → AWm l Y_M_listens 5 μ0 none q 8 [some (.ref a0), some (.int x1), some (.int x2), some (.long x3), none, some (.long x5), none, some (.int x7), none, none] [] μ := by
  intro n
  induction n with
  | zero =>
    intro x3 x5 x7 h
    have h : (none : Option (MM)) = some q := h
    cases h
  | succ n ih =>
    intro x3 x5 x7 h
    rw [f_M_listens_L8] at h
    refine aw_iload 10 d_M_listens_8 rfl rfl ?_
    refine aw_iload_n 11 d_M_listens_10 rfl rfl ?_
    refine aw_icmp_ge 86 14 d_M_listens_11 (by decide) rfl (fun c11 => ?_) (fun c11 => ?_)
    · have h := (if_pos c11).symm.trans h
      refine aw_aload_n 87 d_M_listens_86 rfl rfl ?_
      refine aw_lload 89 d_M_listens_87 rfl rfl ?_
      refine aw_lconst (v := (0 : Int64)) 90 d_M_listens_89 rfl (by decide) ?_
      refine aw_lcmp 91 d_M_listens_90 rfl ?_
      refine aw_if_le 98 94 d_M_listens_91 (by decide) rfl (fun c91 => ?_) (fun c91 => ?_)
      · have h := (if_pos c91).symm.trans h
        refine aw_iconst (v := (0 : Int32)) 99 d_M_listens_98 rfl (by decide) ?_
        exact AW.wk [true, false, false, true, true, true, true, false, true, true] rfl (j_M_listens_99 h)
      · have h := (if_neg c91).symm.trans h
        refine aw_iconst (v := (1 : Int32)) 95 d_M_listens_94 rfl (by decide) ?_
        refine aw_goto 99 d_M_listens_95 (by decide) ?_
        exact AW.wk [true, false, false, true, true, true, true, false, true, true] rfl (j_M_listens_99 h)
    · have h := (if_neg c11).symm.trans h
      refine aw_aload_n 15 d_M_listens_14 rfl rfl ?_
      refine aw_iload 17 d_M_listens_15 rfl rfl ?_
      refine aw_iload_n 18 d_M_listens_17 rfl rfl ?_
      obtain ⟨y18, h18, h⟩ := bnd h
      refine aw_invV (rest := []) (st' := [.int y18]) (As := [.int x7, .int x2]) 21 d_M_listens_18 rfl lv_M_423 (m_M_sings h18) (by decide) (k_M_sings h18) rfl rfl rfl (Nat.le_of_ble_eq_true rfl) rfl ?_
      refine aw_if_ne 27 24 d_M_listens_21 (by decide) rfl (fun c21 => ?_) (fun c21 => ?_)
      · have h := (if_neg c21).symm.trans h
        refine aw_aload_n 28 d_M_listens_27 rfl rfl ?_
        refine aw_iload_n 29 d_M_listens_28 rfl rfl ?_
        refine aw_iload 31 d_M_listens_29 rfl rfl ?_
        obtain ⟨y31, h31, h⟩ := bnd h
        refine aw_invV (rest := []) (st' := [.int y31]) (As := [.int x1, .int x7]) 34 d_M_listens_31 rfl lv_M_465 (m_M_hearsOf h31) (by decide) (k_M_hearsOf h31) rfl rfl rfl (Nat.le_of_ble_eq_true rfl) rfl ?_
        refine aw_i2l 35 d_M_listens_34 rfl ?_
        refine aw_lstore (loc' := [some (.ref a0), some (.int x1), some (.int x2), some (.long x3), none, some (.long x5), none, some (.int x7), some (.long y31.toInt64), none]) 37 d_M_listens_35 rfl (by decide) rfl ?_
        refine aw_lload_n 38 d_M_listens_37 rfl rfl ?_
        refine aw_lload 40 d_M_listens_38 rfl rfl ?_
        refine aw_aload_n 41 d_M_listens_40 rfl rfl ?_
        obtain ⟨y41, h41, h⟩ := bnd h
        refine aw_getR 44 d_M_listens_41 rfl fg_M_116 rfl h41 ?_
        refine aw_bipush (v := (24 : Int32)) 46 d_M_listens_44 rfl (by decide) ?_
        refine aw_iload 48 d_M_listens_46 rfl rfl ?_
        refine aw_imul 49 d_M_listens_48 rfl ?_
        refine aw_iload_n 50 d_M_listens_49 rfl rfl ?_
        refine aw_iadd 51 d_M_listens_50 rfl ?_
        obtain ⟨y51, h51, h⟩ := bnd h
        refine aw_iald 52 d_M_listens_51 rfl h51 ?_
        refine aw_i2l 53 d_M_listens_52 rfl ?_
        refine aw_aload_n 54 d_M_listens_53 rfl rfl ?_
        refine aw_iload_n 55 d_M_listens_54 rfl rfl ?_
        refine aw_iload_n 56 d_M_listens_55 rfl rfl ?_
        obtain ⟨y56, h56, h⟩ := bnd h
        refine aw_invV (rest := [.long y51.toInt64, .long y31.toInt64, .long x3]) (st' := [.int y56, .long y51.toInt64, .long y31.toInt64, .long x3]) (As := [.int x1, .int x2]) 59 d_M_listens_56 rfl lv_M_468 (m_M_sizeFor h56) (by decide) (k_M_sizeFor h56) rfl rfl rfl (Nat.le_of_ble_eq_true rfl) rfl ?_
        refine aw_i2l 60 d_M_listens_59 rfl ?_
        refine aw_ladd 61 d_M_listens_60 rfl ?_
        refine aw_aload_n 62 d_M_listens_61 rfl rfl ?_
        refine aw_iload 64 d_M_listens_62 rfl rfl ?_
        refine aw_iload_n 65 d_M_listens_64 rfl rfl ?_
        obtain ⟨y65, h65, h⟩ := bnd h
        refine aw_invV (rest := [.long (y51.toInt64 + y56.toInt64), .long y31.toInt64, .long x3]) (st' := [.int y65, .long (y51.toInt64 + y56.toInt64), .long y31.toInt64, .long x3]) (As := [.int x7, .int x2]) 68 d_M_listens_65 rfl lv_M_468 (m_M_sizeFor h65) (by decide) (k_M_sizeFor h65) rfl rfl rfl (Nat.le_of_ble_eq_true rfl) rfl ?_
        refine aw_i2l 69 d_M_listens_68 rfl ?_
        refine aw_lsub 70 d_M_listens_69 rfl ?_
        refine aw_lmul 71 d_M_listens_70 rfl ?_
        refine aw_ladd 72 d_M_listens_71 rfl ?_
        refine aw_lstore_n (loc' := [some (.ref a0), some (.int x1), some (.int x2), some (.long (x3 + (y31.toInt64 * ((y51.toInt64 + y56.toInt64) - y65.toInt64)))), none, some (.long x5), none, some (.int x7), some (.long y31.toInt64), none]) 73 d_M_listens_72 rfl (by decide) rfl ?_
        refine aw_lload 75 d_M_listens_73 rfl rfl ?_
        refine aw_lload 77 d_M_listens_75 rfl rfl ?_
        refine aw_ladd 78 d_M_listens_77 rfl ?_
        refine aw_lstore (loc' := [some (.ref a0), some (.int x1), some (.int x2), some (.long (x3 + (y31.toInt64 * ((y51.toInt64 + y56.toInt64) - y65.toInt64)))), none, some (.long (x5 + y31.toInt64)), none, some (.int x7), some (.long y31.toInt64), none]) 80 d_M_listens_78 rfl (by decide) rfl ?_
        refine aw_iinc (v := (x7 + (1 : Int32))) (loc' := [some (.ref a0), some (.int x1), some (.int x2), some (.long (x3 + (y31.toInt64 * ((y51.toInt64 + y56.toInt64) - y65.toInt64)))), none, some (.long (x5 + y31.toInt64)), none, some (.int (x7 + (1 : Int32))), some (.long y31.toInt64), none]) 83 d_M_listens_80 rfl (by decide) rfl rfl rfl ?_
        refine aw_goto 8 d_M_listens_83 (by decide) ?_
        exact AW.wk [true, true, true, true, true, true, true, true, false, true] rfl (ih (x3 + (y31.toInt64 * ((y51.toInt64 + y56.toInt64) - y65.toInt64))) (x5 + y31.toInt64) (x7 + (1 : Int32)) h)
      · have h := (if_pos c21).symm.trans h
        refine aw_goto 80 d_M_listens_24 (by decide) ?_
        refine aw_iinc (v := (x7 + (1 : Int32))) (loc' := [some (.ref a0), some (.int x1), some (.int x2), some (.long x3), none, some (.long x5), none, some (.int (x7 + (1 : Int32))), none, none]) 83 d_M_listens_80 rfl (by decide) rfl rfl rfl ?_
        refine aw_goto 8 d_M_listens_83 (by decide) ?_
        exact (ih x3 x5 (x7 + (1 : Int32)) h)
theorem m_M_listens {l : Launch} {q : MM} {a0 : Nat} {x1 : Int32} {x2 : Int32} {μ : MM} (h : f_M_listens a0 x1 x2 μ = some q) : AMet l 5 Y_M_listens [.ref a0, .int x1, .int x2] μ none q := by
  refine AMet.of (loc := [some (.ref a0), some (.int x1), some (.int x2), none, none, none, none, none, none, none]) pn_M_listens (Nat.le_of_ble_eq_true rfl) rfl ?_
  unfold f_M_listens at h
  obtain ⟨_, hk, h⟩ := bnd h
  refine aw_lconst (v := (0 : Int64)) 1 d_M_listens_0 rfl (by decide) ?_
  refine aw_lstore_n (loc' := [some (.ref a0), some (.int x1), some (.int x2), some (.long (0 : Int64)), none, none, none, none, none, none]) 2 d_M_listens_1 rfl (by decide) rfl ?_
  refine aw_lconst (v := (0 : Int64)) 3 d_M_listens_2 rfl (by decide) ?_
  refine aw_lstore (loc' := [some (.ref a0), some (.int x1), some (.int x2), some (.long (0 : Int64)), none, some (.long (0 : Int64)), none, none, none, none]) 5 d_M_listens_3 rfl (by decide) rfl ?_
  refine aw_iconst (v := (0 : Int32)) 6 d_M_listens_5 rfl (by decide) ?_
  refine aw_istore (loc' := [some (.ref a0), some (.int x1), some (.int x2), some (.long (0 : Int64)), none, some (.long (0 : Int64)), none, some (.int (0 : Int32)), none, none]) 8 d_M_listens_6 rfl (by decide) rfl ?_
  exact (l_M_listens_8 FU _ _ _ h)
theorem k_M_listens {q : MM} {a0 : Nat} {x1 : Int32} {x2 : Int32} {μ : MM} (h : f_M_listens a0 x1 x2 μ = some q) : μ.1[a0]? = some (0, 1) := by
  unfold f_M_listens at h
  obtain ⟨_, h1, _⟩ := bnd h
  exact kO_some h1
theorem m_M_worked {l : Launch} {q : Int32} {x0 : Int32} {x1 : Int32} {x2 : Int32} {μ : MM} (h : f_M_worked x0 x1 x2 = some q) : AMet l 1 Y_M_worked [.int x0, .int x1, .int x2] μ (some (.int q)) μ := by
  refine AMet.of (loc := [some (.int x0), some (.int x1), some (.int x2)]) pn_M_worked (Nat.le_of_ble_eq_true rfl) rfl ?_
  unfold f_M_worked at h
  refine aw_iload_n 1 d_M_worked_0 rfl rfl ?_
  by_cases c1_0 : x0 = (37 : Int32)
  · have h := (if_pos c1_0).symm.trans h
    refine aw_lookup 92 d_M_worked_1 (by decide) (by rw [c1_0] <;> rfl) (by decide) ?_
    refine aw_iload_n 93 d_M_worked_92 rfl rfl ?_
    refine aw_if_ne 100 96 d_M_worked_93 (by decide) rfl (fun c93 => ?_) (fun c93 => ?_)
    · have h := (if_neg c93).symm.trans h
      refine aw_iload_n 101 d_M_worked_100 rfl rfl ?_
      refine aw_iload_n 102 d_M_worked_101 rfl rfl ?_
      obtain ⟨u102, h102, h⟩ := bnd h
      refine aw_irem 103 d_M_worked_102 rfl (gd_some h102) ?_
      cases h
      exact aw_ireturn d_M_worked_103 rfl rfl
    · have h := (if_pos c93).symm.trans h
      refine aw_iconst (v := (0 : Int32)) 97 d_M_worked_96 rfl (by decide) ?_
      refine aw_goto 103 d_M_worked_97 (by decide) ?_
      cases h
      exact aw_ireturn d_M_worked_103 rfl rfl
  · have h := (if_neg c1_0).symm.trans h
    by_cases c1_1 : x0 = (42 : Int32)
    · have h := (if_pos c1_1).symm.trans h
      refine aw_lookup 76 d_M_worked_1 (by decide) (by rw [c1_1] <;> rfl) (by decide) ?_
      refine aw_iload_n 77 d_M_worked_76 rfl rfl ?_
      refine aw_iload_n 78 d_M_worked_77 rfl rfl ?_
      refine aw_imul 79 d_M_worked_78 rfl ?_
      cases h
      exact aw_ireturn d_M_worked_79 rfl rfl
    · have h := (if_neg c1_1).symm.trans h
      by_cases c1_2 : x0 = (43 : Int32)
      · have h := (if_pos c1_2).symm.trans h
        refine aw_lookup 68 d_M_worked_1 (by decide) (by rw [c1_2] <;> rfl) (by decide) ?_
        refine aw_iload_n 69 d_M_worked_68 rfl rfl ?_
        refine aw_iload_n 70 d_M_worked_69 rfl rfl ?_
        refine aw_iadd 71 d_M_worked_70 rfl ?_
        cases h
        exact aw_ireturn d_M_worked_71 rfl rfl
      · have h := (if_neg c1_2).symm.trans h
        by_cases c1_3 : x0 = (45 : Int32)
        · have h := (if_pos c1_3).symm.trans h
          refine aw_lookup 72 d_M_worked_1 (by decide) (by rw [c1_3] <;> rfl) (by decide) ?_
          refine aw_iload_n 73 d_M_worked_72 rfl rfl ?_
          refine aw_iload_n 74 d_M_worked_73 rfl rfl ?_
          refine aw_isub 75 d_M_worked_74 rfl ?_
          cases h
          exact aw_ireturn d_M_worked_75 rfl rfl
        · have h := (if_neg c1_3).symm.trans h
          by_cases c1_4 : x0 = (47 : Int32)
          · have h := (if_pos c1_4).symm.trans h
            refine aw_lookup 80 d_M_worked_1 (by decide) (by rw [c1_4] <;> rfl) (by decide) ?_
            refine aw_iload_n 81 d_M_worked_80 rfl rfl ?_
            refine aw_if_ne 88 84 d_M_worked_81 (by decide) rfl (fun c81 => ?_) (fun c81 => ?_)
            · have h := (if_neg c81).symm.trans h
              refine aw_iload_n 89 d_M_worked_88 rfl rfl ?_
              refine aw_iload_n 90 d_M_worked_89 rfl rfl ?_
              obtain ⟨u90, h90, h⟩ := bnd h
              refine aw_idiv 91 d_M_worked_90 rfl (gd_some h90) ?_
              cases h
              exact aw_ireturn d_M_worked_91 rfl rfl
            · have h := (if_pos c81).symm.trans h
              refine aw_iconst (v := (0 : Int32)) 85 d_M_worked_84 rfl (by decide) ?_
              refine aw_goto 91 d_M_worked_85 (by decide) ?_
              cases h
              exact aw_ireturn d_M_worked_91 rfl rfl
          · have h := (if_neg c1_4).symm.trans h
            by_cases c1_5 : x0 = (60 : Int32)
            · have h := (if_pos c1_5).symm.trans h
              refine aw_lookup 104 d_M_worked_1 (by decide) (by rw [c1_5] <;> rfl) (by decide) ?_
              refine aw_iload_n 105 d_M_worked_104 rfl rfl ?_
              refine aw_iload_n 106 d_M_worked_105 rfl rfl ?_
              refine aw_icmp_ge 113 109 d_M_worked_106 (by decide) rfl (fun c106 => ?_) (fun c106 => ?_)
              · have h := (if_pos c106).symm.trans h
                refine aw_iconst (v := (0 : Int32)) 114 d_M_worked_113 rfl (by decide) ?_
                cases h
                exact aw_ireturn d_M_worked_114 rfl rfl
              · have h := (if_neg c106).symm.trans h
                refine aw_iconst (v := (1 : Int32)) 110 d_M_worked_109 rfl (by decide) ?_
                refine aw_goto 114 d_M_worked_110 (by decide) ?_
                cases h
                exact aw_ireturn d_M_worked_114 rfl rfl
            · have h := (if_neg c1_5).symm.trans h
              by_cases c1_6 : x0 = (62 : Int32)
              · have h := (if_pos c1_6).symm.trans h
                refine aw_lookup 115 d_M_worked_1 (by decide) (by rw [c1_6] <;> rfl) (by decide) ?_
                refine aw_iload_n 116 d_M_worked_115 rfl rfl ?_
                refine aw_iload_n 117 d_M_worked_116 rfl rfl ?_
                refine aw_icmp_le 124 120 d_M_worked_117 (by decide) rfl (fun c117 => ?_) (fun c117 => ?_)
                · have h := (if_pos c117).symm.trans h
                  refine aw_iconst (v := (0 : Int32)) 125 d_M_worked_124 rfl (by decide) ?_
                  cases h
                  exact aw_ireturn d_M_worked_125 rfl rfl
                · have h := (if_neg c117).symm.trans h
                  refine aw_iconst (v := (1 : Int32)) 121 d_M_worked_120 rfl (by decide) ?_
                  refine aw_goto 125 d_M_worked_121 (by decide) ?_
                  cases h
                  exact aw_ireturn d_M_worked_125 rfl rfl
              · have h := (if_neg c1_6).symm.trans h
                refine aw_lookup (off := 125) 126 d_M_worked_1 (by decide) (by show Op.lookupswitch.offset _ _ _ = _; rw [lv_osw c1_0 (by decide), lv_osw c1_1 (by decide), lv_osw c1_2 (by decide), lv_osw c1_3 (by decide), lv_osw c1_4 (by decide), lv_osw c1_5 (by decide), lv_osw c1_6 (by decide)] <;> rfl) (by decide) ?_
                refine aw_iload_n 127 d_M_worked_126 rfl rfl ?_
                refine aw_iload_n 128 d_M_worked_127 rfl rfl ?_
                refine aw_icmp_ne 135 131 d_M_worked_128 (by decide) rfl (fun c128 => ?_) (fun c128 => ?_)
                · have h := (if_neg c128).symm.trans h
                  refine aw_iconst (v := (0 : Int32)) 136 d_M_worked_135 rfl (by decide) ?_
                  cases h
                  exact aw_ireturn d_M_worked_136 rfl rfl
                · have h := (if_pos c128).symm.trans h
                  refine aw_iconst (v := (1 : Int32)) 132 d_M_worked_131 rfl (by decide) ?_
                  refine aw_goto 136 d_M_worked_132 (by decide) ?_
                  cases h
                  exact aw_ireturn d_M_worked_136 rfl rfl
theorem j_M_does_42 {l : Launch} {μ0 : MM} {q : MM} {a0 : Nat} {x2 : Int32} {x3 : Int32} {s0 : Int32} {s1 : Int32} {μ : MM} (h : f_M_does_J42 a0 x2 x3 s0 s1 μ = some q) : AWm l Y_M_does 2 μ0 none q 42 [some (.ref a0), none, some (.int x2), some (.int x3)] [.int s1, .int s0] μ := by
  unfold f_M_does_J42 at h
  refine aw_icmp_eq 46 45 d_M_does_42 (by decide) rfl (fun c42 => ?_) (fun c42 => ?_)
  · have h := (if_pos c42).symm.trans h
    refine aw_aload_n 47 d_M_does_46 rfl rfl ?_
    obtain ⟨y47, h47, h⟩ := bnd h
    refine aw_getR 50 d_M_does_47 rfl fg_M_128 rfl h47 ?_
    refine aw_iload_n 51 d_M_does_50 rfl rfl ?_
    refine aw_aload_n 52 d_M_does_51 rfl rfl ?_
    obtain ⟨y52, h52, h⟩ := bnd h
    refine aw_getR 55 d_M_does_52 rfl fg_M_128 rfl h52 ?_
    refine aw_iload_n 56 d_M_does_55 rfl rfl ?_
    obtain ⟨y56, h56, h⟩ := bnd h
    refine aw_iald 57 d_M_does_56 rfl h56 ?_
    obtain ⟨μ57, h57, h⟩ := bnd h
    refine aw_iast 58 d_M_does_57 rfl h57 ?_
    refine aw_aload_n 59 d_M_does_58 rfl rfl ?_
    obtain ⟨y59, h59, h⟩ := bnd h
    refine aw_getR 62 d_M_does_59 rfl fg_M_131 rfl h59 ?_
    refine aw_iload_n 63 d_M_does_62 rfl rfl ?_
    refine aw_aload_n 64 d_M_does_63 rfl rfl ?_
    obtain ⟨y64, h64, h⟩ := bnd h
    refine aw_getR 67 d_M_does_64 rfl fg_M_131 rfl h64 ?_
    refine aw_iload_n 68 d_M_does_67 rfl rfl ?_
    obtain ⟨y68, h68, h⟩ := bnd h
    refine aw_bald 69 d_M_does_68 rfl h68 ?_
    obtain ⟨μ69, h69, h⟩ := bnd h
    refine aw_bast 70 d_M_does_69 rfl h69 ?_
    cases h
    exact aw_return d_M_does_70 rfl
  · have h := (if_neg c42).symm.trans h
    cases h
    exact aw_return d_M_does_45 rfl
theorem j_M_does_16 {l : Launch} {μ0 : MM} {q : MM} {a0 : Nat} {x1 : Int32} {x2 : Int32} {x3 : Int32} {μ : MM} (h : f_M_does_J16 a0 x1 x2 x3 μ = some q) : AWm l Y_M_does 2 μ0 none q 16 [some (.ref a0), some (.int x1), some (.int x2), some (.int x3)] [] μ := by
  unfold f_M_does_J16 at h
  refine aw_aload_n 17 d_M_does_16 rfl rfl ?_
  obtain ⟨y17, h17, h⟩ := bnd h
  refine aw_getR 20 d_M_does_17 rfl fg_M_131 rfl h17 ?_
  refine aw_iload_n 21 d_M_does_20 rfl rfl ?_
  obtain ⟨y21, h21, h⟩ := bnd h
  refine aw_bald 22 d_M_does_21 rfl h21 ?_
  refine aw_if_ne 45 25 d_M_does_22 (by decide) rfl (fun c22 => ?_) (fun c22 => ?_)
  · have h := (if_neg c22).symm.trans h
    cases h
    exact aw_return d_M_does_45 rfl
  · have h := (if_pos c22).symm.trans h
    refine aw_aload_n 26 d_M_does_25 rfl rfl ?_
    obtain ⟨y26, h26, h⟩ := bnd h
    refine aw_getR 29 d_M_does_26 rfl fg_M_128 rfl h26 ?_
    refine aw_iload_n 30 d_M_does_29 rfl rfl ?_
    obtain ⟨y30, h30, h⟩ := bnd h
    refine aw_iald 31 d_M_does_30 rfl h30 ?_
    refine aw_iload_n 32 d_M_does_31 rfl rfl ?_
    refine aw_bipush (v := (38 : Int32)) 34 d_M_does_32 rfl (by decide) ?_
    refine aw_icmp_ne 41 37 d_M_does_34 (by decide) rfl (fun c34 => ?_) (fun c34 => ?_)
    · have h := (if_neg c34).symm.trans h
      refine aw_iconst (v := (0 : Int32)) 42 d_M_does_41 rfl (by decide) ?_
      exact AW.wk [true, false, true, true] rfl (j_M_does_42 h)
    · have h := (if_pos c34).symm.trans h
      refine aw_iconst (v := (1 : Int32)) 38 d_M_does_37 rfl (by decide) ?_
      refine aw_goto 42 d_M_does_38 (by decide) ?_
      exact AW.wk [true, false, true, true] rfl (j_M_does_42 h)
theorem j_M_does_120 {l : Launch} {μ0 : MM} {q : MM} {a0 : Nat} {x1 : Int32} {x2 : Int32} {x3 : Int32} {s0 : Nat} {s1 : Int32} {s2 : Int32} {μ : MM} (h : f_M_does_J120 a0 x1 x2 x3 s0 s1 s2 μ = some q) : AWm l Y_M_does 2 μ0 none q 120 [some (.ref a0), some (.int x1), some (.int x2), some (.int x3)] [.int s2, .int s1, .ref s0] μ := by
  unfold f_M_does_J120 at h
  obtain ⟨μ120, h120, h⟩ := bnd h
  refine aw_bast 121 d_M_does_120 rfl h120 ?_
  refine aw_aload_n 122 d_M_does_121 rfl rfl ?_
  obtain ⟨y122, h122, h⟩ := bnd h
  refine aw_getR 125 d_M_does_122 rfl fg_M_128 rfl h122 ?_
  refine aw_iload_n 126 d_M_does_125 rfl rfl ?_
  refine aw_iload_n 127 d_M_does_126 rfl rfl ?_
  refine aw_aload_n 128 d_M_does_127 rfl rfl ?_
  obtain ⟨y128, h128, h⟩ := bnd h
  refine aw_getR 131 d_M_does_128 rfl fg_M_128 rfl h128 ?_
  refine aw_iload_n 132 d_M_does_131 rfl rfl ?_
  obtain ⟨y132, h132, h⟩ := bnd h
  refine aw_iald 133 d_M_does_132 rfl h132 ?_
  refine aw_aload_n 134 d_M_does_133 rfl rfl ?_
  obtain ⟨y134, h134, h⟩ := bnd h
  refine aw_getR 137 d_M_does_134 rfl fg_M_128 rfl h134 ?_
  refine aw_iload_n 138 d_M_does_137 rfl rfl ?_
  obtain ⟨y138, h138, h⟩ := bnd h
  refine aw_iald 139 d_M_does_138 rfl h138 ?_
  obtain ⟨y139, h139, h⟩ := bnd h
  refine aw_invS (rest := [.int x2, .ref y122]) (st' := [.int y139, .int x2, .ref y122]) (As := [.int x1, .int y132, .int y138]) 142 d_M_does_139 rfl ls_M_453 (m_M_worked h139) (by decide) rfl rfl (Nat.le_of_ble_eq_true rfl) rfl ?_
  obtain ⟨μ142, h142, h⟩ := bnd h
  refine aw_iast 143 d_M_does_142 rfl h142 ?_
  cases h
  exact aw_return d_M_does_143 rfl
theorem j_M_does_115 {l : Launch} {μ0 : MM} {q : MM} {a0 : Nat} {x1 : Int32} {x2 : Int32} {x3 : Int32} {s0 : Nat} {s1 : Int32} {μ : MM} (h : f_M_does_J115 a0 x1 x2 x3 s0 s1 μ = some q) : AWm l Y_M_does 2 μ0 none q 115 [some (.ref a0), some (.int x1), some (.int x2), some (.int x3)] [.int s1, .ref s0] μ := by
  unfold f_M_does_J115 at h
  refine aw_iconst (v := (1 : Int32)) 116 d_M_does_115 rfl (by decide) ?_
  refine aw_goto 120 d_M_does_116 (by decide) ?_
  exact (j_M_does_120 h)
theorem j_M_does_119 {l : Launch} {μ0 : MM} {q : MM} {a0 : Nat} {x1 : Int32} {x2 : Int32} {x3 : Int32} {s0 : Nat} {s1 : Int32} {μ : MM} (h : f_M_does_J119 a0 x1 x2 x3 s0 s1 μ = some q) : AWm l Y_M_does 2 μ0 none q 119 [some (.ref a0), some (.int x1), some (.int x2), some (.int x3)] [.int s1, .ref s0] μ := by
  unfold f_M_does_J119 at h
  refine aw_iconst (v := (0 : Int32)) 120 d_M_does_119 rfl (by decide) ?_
  exact (j_M_does_120 h)
theorem j_M_does_106 {l : Launch} {μ0 : MM} {q : MM} {a0 : Nat} {x1 : Int32} {x2 : Int32} {x3 : Int32} {s0 : Nat} {s1 : Int32} {μ : MM} (h : f_M_does_J106 a0 x1 x2 x3 s0 s1 μ = some q) : AWm l Y_M_does 2 μ0 none q 106 [some (.ref a0), some (.int x1), some (.int x2), some (.int x3)] [.int s1, .ref s0] μ := by
  unfold f_M_does_J106 at h
  refine aw_aload_n 107 d_M_does_106 rfl rfl ?_
  obtain ⟨y107, h107, h⟩ := bnd h
  refine aw_getR 110 d_M_does_107 rfl fg_M_128 rfl h107 ?_
  refine aw_iload_n 111 d_M_does_110 rfl rfl ?_
  obtain ⟨y111, h111, h⟩ := bnd h
  refine aw_iald 112 d_M_does_111 rfl h111 ?_
  refine aw_if_ne 119 115 d_M_does_112 (by decide) rfl (fun c112 => ?_) (fun c112 => ?_)
  · have h := (if_neg c112).symm.trans h
    exact (j_M_does_119 h)
  · have h := (if_pos c112).symm.trans h
    exact (j_M_does_115 h)
theorem m_M_does {l : Launch} {q : MM} {a0 : Nat} {x1 : Int32} {x2 : Int32} {μ : MM} (h : f_M_does a0 x1 x2 μ = some q) : AMet l 2 Y_M_does [.ref a0, .int x1, .int x2] μ none q := by
  refine AMet.of (loc := [some (.ref a0), some (.int x1), some (.int x2), none]) pn_M_does (Nat.le_of_ble_eq_true rfl) rfl ?_
  unfold f_M_does at h
  obtain ⟨_, hk, h⟩ := bnd h
  refine aw_iload_n 1 d_M_does_0 rfl rfl ?_
  refine aw_iconst (v := (1 : Int32)) 2 d_M_does_1 rfl (by decide) ?_
  refine aw_iadd 3 d_M_does_2 rfl ?_
  refine aw_istore_n (loc' := [some (.ref a0), some (.int x1), some (.int x2), some (.int (x2 + (1 : Int32)))]) 4 d_M_does_3 rfl (by decide) rfl ?_
  refine aw_iload_n 5 d_M_does_4 rfl rfl ?_
  refine aw_bipush (v := (38 : Int32)) 7 d_M_does_5 rfl (by decide) ?_
  refine aw_icmp_eq 16 10 d_M_does_7 (by decide) rfl (fun c7 => ?_) (fun c7 => ?_)
  · have h := (if_pos c7).symm.trans h
    exact (j_M_does_16 h)
  · have h := (if_neg c7).symm.trans h
    refine aw_iload_n 11 d_M_does_10 rfl rfl ?_
    refine aw_bipush (v := (124 : Int32)) 13 d_M_does_11 rfl (by decide) ?_
    refine aw_icmp_ne 71 16 d_M_does_13 (by decide) rfl (fun c13 => ?_) (fun c13 => ?_)
    · have h := (if_neg c13).symm.trans h
      refine aw_aload_n 72 d_M_does_71 rfl rfl ?_
      obtain ⟨y72, h72, h⟩ := bnd h
      refine aw_getR 75 d_M_does_72 rfl fg_M_131 rfl h72 ?_
      refine aw_iload_n 76 d_M_does_75 rfl rfl ?_
      refine aw_aload_n 77 d_M_does_76 rfl rfl ?_
      obtain ⟨y77, h77, h⟩ := bnd h
      refine aw_getR 80 d_M_does_77 rfl fg_M_131 rfl h77 ?_
      refine aw_iload_n 81 d_M_does_80 rfl rfl ?_
      obtain ⟨y81, h81, h⟩ := bnd h
      refine aw_bald 82 d_M_does_81 rfl h81 ?_
      refine aw_if_ne 115 85 d_M_does_82 (by decide) rfl (fun c82 => ?_) (fun c82 => ?_)
      · have h := (if_neg c82).symm.trans h
        exact (j_M_does_115 h)
      · have h := (if_pos c82).symm.trans h
        refine aw_aload_n 86 d_M_does_85 rfl rfl ?_
        obtain ⟨y86, h86, h⟩ := bnd h
        refine aw_getR 89 d_M_does_86 rfl fg_M_131 rfl h86 ?_
        refine aw_iload_n 90 d_M_does_89 rfl rfl ?_
        obtain ⟨y90, h90, h⟩ := bnd h
        refine aw_bald 91 d_M_does_90 rfl h90 ?_
        refine aw_if_ne 115 94 d_M_does_91 (by decide) rfl (fun c91 => ?_) (fun c91 => ?_)
        · have h := (if_neg c91).symm.trans h
          exact (j_M_does_115 h)
        · have h := (if_pos c91).symm.trans h
          refine aw_iload_n 95 d_M_does_94 rfl rfl ?_
          refine aw_bipush (v := (47 : Int32)) 97 d_M_does_95 rfl (by decide) ?_
          refine aw_icmp_eq 106 100 d_M_does_97 (by decide) rfl (fun c97 => ?_) (fun c97 => ?_)
          · have h := (if_pos c97).symm.trans h
            exact (j_M_does_106 h)
          · have h := (if_neg c97).symm.trans h
            refine aw_iload_n 101 d_M_does_100 rfl rfl ?_
            refine aw_bipush (v := (37 : Int32)) 103 d_M_does_101 rfl (by decide) ?_
            refine aw_icmp_ne 119 106 d_M_does_103 (by decide) rfl (fun c103 => ?_) (fun c103 => ?_)
            · have h := (if_neg c103).symm.trans h
              exact (j_M_does_119 h)
            · have h := (if_pos c103).symm.trans h
              exact (j_M_does_106 h)
    · have h := (if_pos c13).symm.trans h
      exact (j_M_does_16 h)
theorem k_M_does {q : MM} {a0 : Nat} {x1 : Int32} {x2 : Int32} {μ : MM} (h : f_M_does a0 x1 x2 μ = some q) : μ.1[a0]? = some (0, 1) := by
  unfold f_M_does at h
  obtain ⟨_, h1, _⟩ := bnd h
  exact kO_some h1
theorem m_M_leapOf {l : Launch} {q : Int32} {a0 : Nat} {μ : MM} (h : f_M_leapOf a0 μ = some q) : AMet l 3 Y_M_leapOf [.ref a0] μ (some (.int q)) μ := by
  refine AMet.of (loc := [some (.ref a0), none]) pn_M_leapOf (Nat.le_of_ble_eq_true rfl) rfl ?_
  unfold f_M_leapOf at h
  obtain ⟨_, hk, h⟩ := bnd h
  refine aw_aload_n 1 d_M_leapOf_0 rfl rfl ?_
  obtain ⟨y1, h1, h⟩ := bnd h
  refine aw_getR 4 d_M_leapOf_1 rfl fg_M_122 rfl h1 ?_
  refine aw_aload_n 5 d_M_leapOf_4 rfl rfl ?_
  obtain ⟨y5, h5, h⟩ := bnd h
  refine aw_getI 8 d_M_leapOf_5 rfl fg_M_426 (Or.inl rfl) h5 ?_
  obtain ⟨y8, h8, h⟩ := bnd h
  refine aw_iald 9 d_M_leapOf_8 rfl h8 ?_
  refine aw_istore_n (loc' := [some (.ref a0), some (.int y8)]) 10 d_M_leapOf_9 rfl (by decide) rfl ?_
  refine aw_iload_n 11 d_M_leapOf_10 rfl rfl ?_
  refine aw_iconst (v := (-1 : Int32)) 12 d_M_leapOf_11 rfl (by decide) ?_
  refine aw_icmp_ne 19 15 d_M_leapOf_12 (by decide) rfl (fun c12 => ?_) (fun c12 => ?_)
  · have h := (if_neg c12).symm.trans h
    refine aw_aload_n 20 d_M_leapOf_19 rfl rfl ?_
    refine aw_aload_n 21 d_M_leapOf_20 rfl rfl ?_
    obtain ⟨y21, h21, h⟩ := bnd h
    refine aw_getI 24 d_M_leapOf_21 rfl fg_M_426 (Or.inl rfl) h21 ?_
    refine aw_aload_n 25 d_M_leapOf_24 rfl rfl ?_
    obtain ⟨y25, h25, h⟩ := bnd h
    refine aw_getI 28 d_M_leapOf_25 rfl fg_M_429 (Or.inl rfl) h25 ?_
    obtain ⟨y28, h28, h⟩ := bnd h
    refine aw_invV (rest := []) (st' := [.int y28]) (As := [.int y21, .int y25]) 31 d_M_leapOf_28 rfl lv_M_432 (m_M_keyOf h28) (by decide) (k_M_keyOf h28) rfl rfl rfl (Nat.le_of_ble_eq_true rfl) rfl ?_
    refine aw_aload_n 32 d_M_leapOf_31 rfl rfl ?_
    refine aw_aload_n 33 d_M_leapOf_32 rfl rfl ?_
    obtain ⟨y33, h33, h⟩ := bnd h
    refine aw_getI 36 d_M_leapOf_33 rfl fg_M_426 (Or.inl rfl) h33 ?_
    refine aw_iload_n 37 d_M_leapOf_36 rfl rfl ?_
    obtain ⟨y37, h37, h⟩ := bnd h
    refine aw_invV (rest := [.int y28]) (st' := [.int y37, .int y28]) (As := [.int y33, .int y8]) 40 d_M_leapOf_37 rfl lv_M_432 (m_M_keyOf h37) (by decide) (k_M_keyOf h37) rfl rfl rfl (Nat.le_of_ble_eq_true rfl) rfl ?_
    refine aw_isub 41 d_M_leapOf_40 rfl ?_
    cases h
    exact aw_ireturn d_M_leapOf_41 rfl rfl
  · have h := (if_pos c12).symm.trans h
    refine aw_iconst (v := (0 : Int32)) 16 d_M_leapOf_15 rfl (by decide) ?_
    refine aw_goto 41 d_M_leapOf_16 (by decide) ?_
    cases h
    exact aw_ireturn d_M_leapOf_41 rfl rfl
theorem k_M_leapOf {q : Int32} {a0 : Nat} {μ : MM} (h : f_M_leapOf a0 μ = some q) : μ.1[a0]? = some (0, 1) := by
  unfold f_M_leapOf at h
  obtain ⟨_, h1, _⟩ := bnd h
  exact kO_some h1
theorem l_M_singing_4 {l : Launch} {μ0 : MM} {q : Int32} {a0 : Nat} {x1 : Int32} {μ : MM} : ∀ (n : Nat) (x2 : Int32) (x3 : Int32), f_M_singing_L4 a0 x1 μ n x2 x3 = some q → AWm l Y_M_singing 5 μ0 (some (.int q)) μ 4 [some (.ref a0), some (.int x1), some (.int x2), some (.int x3)] [] μ := by
  intro n
  induction n with
  | zero =>
    intro x2 x3 h
    have h : (none : Option (Int32)) = some q := h
    cases h
  | succ n ih =>
    intro x2 x3 h
    rw [f_M_singing_L4] at h
    refine aw_iload_n 5 d_M_singing_4 rfl rfl ?_
    refine aw_aload_n 6 d_M_singing_5 rfl rfl ?_
    obtain ⟨y6, h6, h⟩ := bnd h
    refine aw_getI 9 d_M_singing_6 rfl fg_M_275 (Or.inl rfl) h6 ?_
    refine aw_icmp_ge 35 12 d_M_singing_9 (by decide) rfl (fun c9 => ?_) (fun c9 => ?_)
    · have h := (if_pos c9).symm.trans h
      refine aw_iload_n 36 d_M_singing_35 rfl rfl ?_
      cases h
      exact aw_ireturn d_M_singing_36 rfl rfl
    · have h := (if_neg c9).symm.trans h
      refine aw_iload_n 13 d_M_singing_12 rfl rfl ?_
      refine aw_aload_n 14 d_M_singing_13 rfl rfl ?_
      refine aw_iload_n 15 d_M_singing_14 rfl rfl ?_
      refine aw_iload_n 16 d_M_singing_15 rfl rfl ?_
      obtain ⟨y16, h16, h⟩ := bnd h
      refine aw_invV (rest := [.int x2]) (st' := [.int y16, .int x2]) (As := [.int x3, .int x1]) 19 d_M_singing_16 rfl lv_M_423 (m_M_sings h16) (by decide) (k_M_sings h16) rfl rfl rfl (Nat.le_of_ble_eq_true rfl) rfl ?_
      refine aw_if_eq 26 22 d_M_singing_19 (by decide) rfl (fun c19 => ?_) (fun c19 => ?_)
      · have h := (if_pos c19).symm.trans h
        refine aw_iconst (v := (0 : Int32)) 27 d_M_singing_26 rfl (by decide) ?_
        refine aw_iadd 28 d_M_singing_27 rfl ?_
        refine aw_istore_n (loc' := [some (.ref a0), some (.int x1), some (.int (x2 + (0 : Int32))), some (.int x3)]) 29 d_M_singing_28 rfl (by decide) rfl ?_
        refine aw_iinc (v := (x3 + (1 : Int32))) (loc' := [some (.ref a0), some (.int x1), some (.int (x2 + (0 : Int32))), some (.int (x3 + (1 : Int32)))]) 32 d_M_singing_29 rfl (by decide) rfl rfl rfl ?_
        refine aw_goto 4 d_M_singing_32 (by decide) ?_
        exact (ih (x2 + (0 : Int32)) (x3 + (1 : Int32)) h)
      · have h := (if_neg c19).symm.trans h
        refine aw_iconst (v := (1 : Int32)) 23 d_M_singing_22 rfl (by decide) ?_
        refine aw_goto 27 d_M_singing_23 (by decide) ?_
        refine aw_iadd 28 d_M_singing_27 rfl ?_
        refine aw_istore_n (loc' := [some (.ref a0), some (.int x1), some (.int (x2 + (1 : Int32))), some (.int x3)]) 29 d_M_singing_28 rfl (by decide) rfl ?_
        refine aw_iinc (v := (x3 + (1 : Int32))) (loc' := [some (.ref a0), some (.int x1), some (.int (x2 + (1 : Int32))), some (.int (x3 + (1 : Int32)))]) 32 d_M_singing_29 rfl (by decide) rfl rfl rfl ?_
        refine aw_goto 4 d_M_singing_32 (by decide) ?_
        exact (ih (x2 + (1 : Int32)) (x3 + (1 : Int32)) h)
theorem m_M_singing {l : Launch} {q : Int32} {a0 : Nat} {x1 : Int32} {μ : MM} (h : f_M_singing a0 x1 μ = some q) : AMet l 5 Y_M_singing [.ref a0, .int x1] μ (some (.int q)) μ := by
  refine AMet.of (loc := [some (.ref a0), some (.int x1), none, none]) pn_M_singing (Nat.le_of_ble_eq_true rfl) rfl ?_
  unfold f_M_singing at h
  obtain ⟨_, hk, h⟩ := bnd h
  refine aw_iconst (v := (0 : Int32)) 1 d_M_singing_0 rfl (by decide) ?_
  refine aw_istore_n (loc' := [some (.ref a0), some (.int x1), some (.int (0 : Int32)), none]) 2 d_M_singing_1 rfl (by decide) rfl ?_
  refine aw_iconst (v := (0 : Int32)) 3 d_M_singing_2 rfl (by decide) ?_
  refine aw_istore_n (loc' := [some (.ref a0), some (.int x1), some (.int (0 : Int32)), some (.int (0 : Int32))]) 4 d_M_singing_3 rfl (by decide) rfl ?_
  exact (l_M_singing_4 FU _ _ h)
theorem k_M_singing {q : Int32} {a0 : Nat} {x1 : Int32} {μ : MM} (h : f_M_singing a0 x1 μ = some q) : μ.1[a0]? = some (0, 1) := by
  unfold f_M_singing at h
  obtain ⟨_, h1, _⟩ := bnd h
  exact kO_some h1
