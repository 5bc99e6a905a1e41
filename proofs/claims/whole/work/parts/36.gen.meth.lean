/-! PRINTED by wip/gen/gen1.py: the bytecode does what the functions say -/
theorem m_In_bitCount {l : Launch} {q : Int32} {x0 : Int32} {μ : MM} (h : f_In_bitCount x0 = some q) : AMet l 1 Y_In_bitCount [.int x0] μ (some (.int q)) μ := by
  refine AMet.of (loc := [some (.int x0)]) pn_In_bitCount (Nat.le_of_ble_eq_true rfl) rfl ?_
  unfold f_In_bitCount at h
  refine aw_iload_n 1 d_In_bitCount_0 rfl rfl ?_
  refine aw_iload_n 2 d_In_bitCount_1 rfl rfl ?_
  refine aw_iconst (v := (1 : Int32)) 3 d_In_bitCount_2 rfl (by decide) ?_
  refine aw_iushr 4 d_In_bitCount_3 rfl ?_
  refine aw_ldc_w (v := (1431655765 : Int32)) 7 d_In_bitCount_4 rfl c_In_265 ?_
  refine aw_iand 8 d_In_bitCount_7 rfl ?_
  refine aw_isub 9 d_In_bitCount_8 rfl ?_
  refine aw_istore_n (loc' := [some (.int (x0 - ((iushr x0 (1 : Int32)) &&& (1431655765 : Int32))))]) 10 d_In_bitCount_9 rfl (by decide) rfl ?_
  refine aw_iload_n 11 d_In_bitCount_10 rfl rfl ?_
  refine aw_ldc_w (v := (858993459 : Int32)) 14 d_In_bitCount_11 rfl c_In_266 ?_
  refine aw_iand 15 d_In_bitCount_14 rfl ?_
  refine aw_iload_n 16 d_In_bitCount_15 rfl rfl ?_
  refine aw_iconst (v := (2 : Int32)) 17 d_In_bitCount_16 rfl (by decide) ?_
  refine aw_iushr 18 d_In_bitCount_17 rfl ?_
  refine aw_ldc_w (v := (858993459 : Int32)) 21 d_In_bitCount_18 rfl c_In_266 ?_
  refine aw_iand 22 d_In_bitCount_21 rfl ?_
  refine aw_iadd 23 d_In_bitCount_22 rfl ?_
  refine aw_istore_n (loc' := [some (.int (((x0 - ((iushr x0 (1 : Int32)) &&& (1431655765 : Int32))) &&& (858993459 : Int32)) + ((iushr (x0 - ((iushr x0 (1 : Int32)) &&& (1431655765 : Int32))) (2 : Int32)) &&& (858993459 : Int32))))]) 24 d_In_bitCount_23 rfl (by decide) rfl ?_
  refine aw_iload_n 25 d_In_bitCount_24 rfl rfl ?_
  refine aw_iload_n 26 d_In_bitCount_25 rfl rfl ?_
  refine aw_iconst (v := (4 : Int32)) 27 d_In_bitCount_26 rfl (by decide) ?_
  refine aw_iushr 28 d_In_bitCount_27 rfl ?_
  refine aw_iadd 29 d_In_bitCount_28 rfl ?_
  refine aw_ldc_w (v := (252645135 : Int32)) 32 d_In_bitCount_29 rfl c_In_267 ?_
  refine aw_iand 33 d_In_bitCount_32 rfl ?_
  refine aw_istore_n (loc' := [some (.int (((((x0 - ((iushr x0 (1 : Int32)) &&& (1431655765 : Int32))) &&& (858993459 : Int32)) + ((iushr (x0 - ((iushr x0 (1 : Int32)) &&& (1431655765 : Int32))) (2 : Int32)) &&& (858993459 : Int32))) + (iushr (((x0 - ((iushr x0 (1 : Int32)) &&& (1431655765 : Int32))) &&& (858993459 : Int32)) + ((iushr (x0 - ((iushr x0 (1 : Int32)) &&& (1431655765 : Int32))) (2 : Int32)) &&& (858993459 : Int32))) (4 : Int32))) &&& (252645135 : Int32)))]) 34 d_In_bitCount_33 rfl (by decide) rfl ?_
  refine aw_iload_n 35 d_In_bitCount_34 rfl rfl ?_
  refine aw_iload_n 36 d_In_bitCount_35 rfl rfl ?_
  refine aw_bipush (v := (8 : Int32)) 38 d_In_bitCount_36 rfl (by decide) ?_
  refine aw_iushr 39 d_In_bitCount_38 rfl ?_
  refine aw_iadd 40 d_In_bitCount_39 rfl ?_
  refine aw_istore_n (loc' := [some (.int ((((((x0 - ((iushr x0 (1 : Int32)) &&& (1431655765 : Int32))) &&& (858993459 : Int32)) + ((iushr (x0 - ((iushr x0 (1 : Int32)) &&& (1431655765 : Int32))) (2 : Int32)) &&& (858993459 : Int32))) + (iushr (((x0 - ((iushr x0 (1 : Int32)) &&& (1431655765 : Int32))) &&& (858993459 : Int32)) + ((iushr (x0 - ((iushr x0 (1 : Int32)) &&& (1431655765 : Int32))) (2 : Int32)) &&& (858993459 : Int32))) (4 : Int32))) &&& (252645135 : Int32)) + (iushr (((((x0 - ((iushr x0 (1 : Int32)) &&& (1431655765 : Int32))) &&& (858993459 : Int32)) + ((iushr (x0 - ((iushr x0 (1 : Int32)) &&& (1431655765 : Int32))) (2 : Int32)) &&& (858993459 : Int32))) + (iushr (((x0 - ((iushr x0 (1 : Int32)) &&& (1431655765 : Int32))) &&& (858993459 : Int32)) + ((iushr (x0 - ((iushr x0 (1 : Int32)) &&& (1431655765 : Int32))) (2 : Int32)) &&& (858993459 : Int32))) (4 : Int32))) &&& (252645135 : Int32)) (8 : Int32))))]) 41 d_In_bitCount_40 rfl (by decide) rfl ?_
  refine aw_iload_n 42 d_In_bitCount_41 rfl rfl ?_
  refine aw_iload_n 43 d_In_bitCount_42 rfl rfl ?_
  refine aw_bipush (v := (16 : Int32)) 45 d_In_bitCount_43 rfl (by decide) ?_
  refine aw_iushr 46 d_In_bitCount_45 rfl ?_
  refine aw_iadd 47 d_In_bitCount_46 rfl ?_
  refine aw_istore_n (loc' := [some (.int (((((((x0 - ((iushr x0 (1 : Int32)) &&& (1431655765 : Int32))) &&& (858993459 : Int32)) + ((iushr (x0 - ((iushr x0 (1 : Int32)) &&& (1431655765 : Int32))) (2 : Int32)) &&& (858993459 : Int32))) + (iushr (((x0 - ((iushr x0 (1 : Int32)) &&& (1431655765 : Int32))) &&& (858993459 : Int32)) + ((iushr (x0 - ((iushr x0 (1 : Int32)) &&& (1431655765 : Int32))) (2 : Int32)) &&& (858993459 : Int32))) (4 : Int32))) &&& (252645135 : Int32)) + (iushr (((((x0 - ((iushr x0 (1 : Int32)) &&& (1431655765 : Int32))) &&& (858993459 : Int32)) + ((iushr (x0 - ((iushr x0 (1 : Int32)) &&& (1431655765 : Int32))) (2 : Int32)) &&& (858993459 : Int32))) + (iushr (((x0 - ((iushr x0 (1 : Int32)) &&& (1431655765 : Int32))) &&& (858993459 : Int32)) + ((iushr (x0 - ((iushr x0 (1 : Int32)) &&& (1431655765 : Int32))) (2 : Int32)) &&& (858993459 : Int32))) (4 : Int32))) &&& (252645135 : Int32)) (8 : Int32))) + (iushr ((((((x0 - ((iushr x0 (1 : Int32)) &&& (1431655765 : Int32))) &&& (858993459 : Int32)) + ((iushr (x0 - ((iushr x0 (1 : Int32)) &&& (1431655765 : Int32))) (2 : Int32)) &&& (858993459 : Int32))) + (iushr (((x0 - ((iushr x0 (1 : Int32)) &&& (1431655765 : Int32))) &&& (858993459 : Int32)) + ((iushr (x0 - ((iushr x0 (1 : Int32)) &&& (1431655765 : Int32))) (2 : Int32)) &&& (858993459 : Int32))) (4 : Int32))) &&& (252645135 : Int32)) + (iushr (((((x0 - ((iushr x0 (1 : Int32)) &&& (1431655765 : Int32))) &&& (858993459 : Int32)) + ((iushr (x0 - ((iushr x0 (1 : Int32)) &&& (1431655765 : Int32))) (2 : Int32)) &&& (858993459 : Int32))) + (iushr (((x0 - ((iushr x0 (1 : Int32)) &&& (1431655765 : Int32))) &&& (858993459 : Int32)) + ((iushr (x0 - ((iushr x0 (1 : Int32)) &&& (1431655765 : Int32))) (2 : Int32)) &&& (858993459 : Int32))) (4 : Int32))) &&& (252645135 : Int32)) (8 : Int32))) (16 : Int32))))]) 48 d_In_bitCount_47 rfl (by decide) rfl ?_
  refine aw_iload_n 49 d_In_bitCount_48 rfl rfl ?_
  refine aw_bipush (v := (63 : Int32)) 51 d_In_bitCount_49 rfl (by decide) ?_
  refine aw_iand 52 d_In_bitCount_51 rfl ?_
  cases h
  exact aw_ireturn d_In_bitCount_52 rfl rfl
theorem m_X_count {l : Launch} {q : Int32} {a0 : Nat} {x1 : Int32} {μ : MM} (h : f_X_count a0 x1 μ = some q) : AMet l 2 Y_X_count [.ref a0, .int x1] μ (some (.int q)) μ := by
  refine AMet.of (loc := [some (.ref a0), some (.int x1)]) pn_X_count (Nat.le_of_ble_eq_true rfl) rfl ?_
  unfold f_X_count at h
  obtain ⟨_, hk, h⟩ := bnd h
  refine aw_iload_n 1 d_X_count_0 rfl rfl ?_
  by_cases c1_0 : x1 = (0 : Int32)
  · have h := (if_pos c1_0).symm.trans h
    refine aw_tableIn 48 d_X_count_1 (by rw [c1_0]; decide) (by rw [c1_0]; decide) (by rw [c1_0]; rfl) (by decide) ?_
    refine aw_aload_n 49 d_X_count_48 rfl rfl ?_
    obtain ⟨y49, h49, h⟩ := bnd h
    refine aw_getR 52 d_X_count_49 rfl fg_X_21 rfl h49 ?_
    obtain ⟨y52, h52, h⟩ := bnd h
    refine aw_getI 55 d_X_count_52 rfl fg_X_163 (Or.inl rfl) h52 ?_
    cases h
    exact aw_ireturn d_X_count_55 rfl rfl
  · have h := (if_neg c1_0).symm.trans h
    by_cases c1_1 : x1 = (1 : Int32)
    · have h := (if_pos c1_1).symm.trans h
      refine aw_tableIn 56 d_X_count_1 (by rw [c1_1]; decide) (by rw [c1_1]; decide) (by rw [c1_1]; rfl) (by decide) ?_
      refine aw_aload_n 57 d_X_count_56 rfl rfl ?_
      obtain ⟨y57, h57, h⟩ := bnd h
      refine aw_getR 60 d_X_count_57 rfl fg_X_62 rfl h57 ?_
      obtain ⟨y60, h60, h⟩ := bnd h
      refine aw_getI 63 d_X_count_60 rfl fg_X_206 (Or.inl rfl) h60 ?_
      cases h
      exact aw_ireturn d_X_count_63 rfl rfl
    · have h := (if_neg c1_1).symm.trans h
      by_cases c1_2 : x1 = (2 : Int32)
      · have h := (if_pos c1_2).symm.trans h
        refine aw_tableIn 64 d_X_count_1 (by rw [c1_2]; decide) (by rw [c1_2]; decide) (by rw [c1_2]; rfl) (by decide) ?_
        refine aw_aload_n 65 d_X_count_64 rfl rfl ?_
        obtain ⟨y65, h65, h⟩ := bnd h
        refine aw_getR 68 d_X_count_65 rfl fg_X_21 rfl h65 ?_
        obtain ⟨y68, h68, h⟩ := bnd h
        refine aw_getR 71 d_X_count_68 rfl fg_X_216 rfl h68 ?_
        obtain ⟨y71, h71, h⟩ := bnd h
        refine aw_getI 74 d_X_count_71 rfl fg_X_224 (Or.inl rfl) h71 ?_
        cases h
        exact aw_ireturn d_X_count_74 rfl rfl
      · have h := (if_neg c1_2).symm.trans h
        by_cases c1_3 : x1 = (3 : Int32)
        · have h := (if_pos c1_3).symm.trans h
          refine aw_tableIn 75 d_X_count_1 (by rw [c1_3]; decide) (by rw [c1_3]; decide) (by rw [c1_3]; rfl) (by decide) ?_
          refine aw_aload_n 76 d_X_count_75 rfl rfl ?_
          obtain ⟨y76, h76, h⟩ := bnd h
          refine aw_getR 79 d_X_count_76 rfl fg_X_10 rfl h76 ?_
          obtain ⟨y79, h79, h⟩ := bnd h
          refine aw_invV (rest := []) (st' := [.int y79]) (As := []) 82 d_X_count_79 rfl lv_X_321 (m_Sc_noteCount h79) (by decide) (k_Sc_noteCount h79) rfl rfl rfl (Nat.le_of_ble_eq_true rfl) rfl ?_
          cases h
          exact aw_ireturn d_X_count_82 rfl rfl
        · have h := (if_neg c1_3).symm.trans h
          by_cases c1_4 : x1 = (4 : Int32)
          · have h := (if_pos c1_4).symm.trans h
            refine aw_tableIn 83 d_X_count_1 (by rw [c1_4]; decide) (by rw [c1_4]; decide) (by rw [c1_4]; rfl) (by decide) ?_
            refine aw_aload_n 84 d_X_count_83 rfl rfl ?_
            obtain ⟨y84, h84, h⟩ := bnd h
            refine aw_getR 87 d_X_count_84 rfl fg_X_10 rfl h84 ?_
            obtain ⟨y87, h87, h⟩ := bnd h
            refine aw_invV (rest := []) (st' := [.int y87]) (As := []) 90 d_X_count_87 rfl lv_X_324 (m_Sc_linkCount h87) (by decide) (k_Sc_linkCount h87) rfl rfl rfl (Nat.le_of_ble_eq_true rfl) rfl ?_
            cases h
            exact aw_ireturn d_X_count_90 rfl rfl
          · have h := (if_neg c1_4).symm.trans h
            by_cases c1_5 : x1 = (5 : Int32)
            · have h := (if_pos c1_5).symm.trans h
              refine aw_tableIn 91 d_X_count_1 (by rw [c1_5]; decide) (by rw [c1_5]; decide) (by rw [c1_5]; rfl) (by decide) ?_
              refine aw_aload_n 92 d_X_count_91 rfl rfl ?_
              obtain ⟨y92, h92, h⟩ := bnd h
              refine aw_getR 95 d_X_count_92 rfl fg_X_21 rfl h92 ?_
              obtain ⟨y95, h95, h⟩ := bnd h
              refine aw_getI 98 d_X_count_95 rfl fg_X_187 (Or.inl rfl) h95 ?_
              cases h
              exact aw_ireturn d_X_count_98 rfl rfl
            · have h := (if_neg c1_5).symm.trans h
              by_cases c1_6 : x1 = (6 : Int32)
              · have h := (if_pos c1_6).symm.trans h
                refine aw_tableIn 99 d_X_count_1 (by rw [c1_6]; decide) (by rw [c1_6]; decide) (by rw [c1_6]; rfl) (by decide) ?_
                refine aw_aload_n 100 d_X_count_99 rfl rfl ?_
                obtain ⟨y100, h100, h⟩ := bnd h
                refine aw_getR 103 d_X_count_100 rfl fg_X_21 rfl h100 ?_
                obtain ⟨y103, h103, h⟩ := bnd h
                refine aw_getI 106 d_X_count_103 rfl fg_X_192 (Or.inl rfl) h103 ?_
                cases h
                exact aw_ireturn d_X_count_106 rfl rfl
              · have h := (if_neg c1_6).symm.trans h
                by_cases c1_7 : x1 = (7 : Int32)
                · have h := (if_pos c1_7).symm.trans h
                  refine aw_tableIn 107 d_X_count_1 (by rw [c1_7]; decide) (by rw [c1_7]; decide) (by rw [c1_7]; rfl) (by decide) ?_
                  refine aw_aload_n 108 d_X_count_107 rfl rfl ?_
                  obtain ⟨y108, h108, h⟩ := bnd h
                  refine aw_getR 111 d_X_count_108 rfl fg_X_21 rfl h108 ?_
                  obtain ⟨y111, h111, h⟩ := bnd h
                  refine aw_getI 114 d_X_count_111 rfl fg_X_196 (Or.inl rfl) h111 ?_
                  obtain ⟨y114, h114, h⟩ := bnd h
                  refine aw_invS (rest := []) (st' := [.int y114]) (As := [.int y111]) 117 d_X_count_114 rfl ls_X_327 (m_In_bitCount h114) (by decide) rfl rfl (Nat.le_of_ble_eq_true rfl) rfl ?_
                  cases h
                  exact aw_ireturn d_X_count_117 rfl rfl
                · have h := (if_neg c1_7).symm.trans h
                  have e1 : (x1).toInt < 0 ∨ 7 < (x1).toInt := by
                    have z0 := lv_neT (a := 0) c1_0 (by decide)
                    have z1 := lv_neT (a := 1) c1_1 (by decide)
                    have z2 := lv_neT (a := 2) c1_2 (by decide)
                    have z3 := lv_neT (a := 3) c1_3 (by decide)
                    have z4 := lv_neT (a := 4) c1_4 (by decide)
                    have z5 := lv_neT (a := 5) c1_5 (by decide)
                    have z6 := lv_neT (a := 6) c1_6 (by decide)
                    have z7 := lv_neT (a := 7) c1_7 (by decide)
                    omega
                  refine aw_tableOut 118 d_X_count_1 e1 (by decide) ?_
                  refine aw_iload_n 119 d_X_count_118 rfl rfl ?_
                  refine aw_bipush (v := (10 : Int32)) 121 d_X_count_119 rfl (by decide) ?_
                  refine aw_icmp_lt 153 124 d_X_count_121 (by decide) rfl (fun c121 => ?_) (fun c121 => ?_)
                  · have h := (if_pos c121).symm.trans h
                    refine aw_iconst (v := (-1 : Int32)) 154 d_X_count_153 rfl (by decide) ?_
                    cases h
                    exact aw_ireturn d_X_count_154 rfl rfl
                  · have h := (if_neg c121).symm.trans h
                    refine aw_aload_n 125 d_X_count_124 rfl rfl ?_
                    obtain ⟨y125, h125, h⟩ := bnd h
                    refine aw_getR 128 d_X_count_125 rfl fg_X_21 rfl h125 ?_
                    refine aw_iload_n 129 d_X_count_128 rfl rfl ?_
                    refine aw_bipush (v := (10 : Int32)) 131 d_X_count_129 rfl (by decide) ?_
                    refine aw_isub 132 d_X_count_131 rfl ?_
                    obtain ⟨y132, h132, h⟩ := bnd h
                    refine aw_invV (rest := []) (st' := [.int y132]) (As := [.int (x1 - (10 : Int32))]) 135 d_X_count_132 rfl lv_X_179 (m_Ch_has h132) (by decide) (k_Ch_has h132) rfl rfl rfl (Nat.le_of_ble_eq_true rfl) rfl ?_
                    refine aw_if_eq 153 138 d_X_count_135 (by decide) rfl (fun c135 => ?_) (fun c135 => ?_)
                    · have h := (if_pos c135).symm.trans h
                      refine aw_iconst (v := (-1 : Int32)) 154 d_X_count_153 rfl (by decide) ?_
                      cases h
                      exact aw_ireturn d_X_count_154 rfl rfl
                    · have h := (if_neg c135).symm.trans h
                      refine aw_aload_n 139 d_X_count_138 rfl rfl ?_
                      obtain ⟨y139, h139, h⟩ := bnd h
                      refine aw_getR 142 d_X_count_139 rfl fg_X_21 rfl h139 ?_
                      obtain ⟨y142, h142, h⟩ := bnd h
                      refine aw_getR 145 d_X_count_142 rfl fg_X_170 rfl h142 ?_
                      refine aw_iload_n 146 d_X_count_145 rfl rfl ?_
                      refine aw_bipush (v := (10 : Int32)) 148 d_X_count_146 rfl (by decide) ?_
                      refine aw_isub 149 d_X_count_148 rfl ?_
                      obtain ⟨y149, h149, h⟩ := bnd h
                      refine aw_iald 150 d_X_count_149 rfl h149 ?_
                      refine aw_goto 154 d_X_count_150 (by decide) ?_
                      cases h
                      exact aw_ireturn d_X_count_154 rfl rfl
theorem k_X_count {q : Int32} {a0 : Nat} {x1 : Int32} {μ : MM} (h : f_X_count a0 x1 μ = some q) : μ.1[a0]? = some (0, 0) := by
  unfold f_X_count at h
  obtain ⟨_, h1, _⟩ := bnd h
  exact kO_some h1
theorem l_M_sizeOf_4 {l : Launch} {μ0 : MM} {q : Int32} {μ : MM} : ∀ (n : Nat) (x1 : Int32) (x2 : Int32), f_M_sizeOf_L4 n x1 x2 = some q → AWm l Y_M_sizeOf 1 μ0 (some (.int q)) μ 4 [none, some (.int x1), some (.int x2)] [] μ := by
  intro n
  induction n with
  | zero =>
    intro x1 x2 h
    have h : (none : Option (Int32)) = some q := h
    cases h
  | succ n ih =>
    intro x1 x2 h
    rw [f_M_sizeOf_L4] at h
    refine aw_iload_n 5 d_M_sizeOf_4 rfl rfl ?_
    refine aw_if_eq 20 8 d_M_sizeOf_5 (by decide) rfl (fun c5 => ?_) (fun c5 => ?_)
    · have h := (if_pos c5).symm.trans h
      refine aw_iload_n 21 d_M_sizeOf_20 rfl rfl ?_
      cases h
      exact aw_ireturn d_M_sizeOf_21 rfl rfl
    · have h := (if_neg c5).symm.trans h
      refine aw_iinc (v := (x1 + (1 : Int32))) (loc' := [none, some (.int (x1 + (1 : Int32))), some (.int x2)]) 11 d_M_sizeOf_8 rfl (by decide) rfl rfl rfl ?_
      refine aw_iload_n 12 d_M_sizeOf_11 rfl rfl ?_
      refine aw_iload_n 13 d_M_sizeOf_12 rfl rfl ?_
      refine aw_iconst (v := (1 : Int32)) 14 d_M_sizeOf_13 rfl (by decide) ?_
      refine aw_isub 15 d_M_sizeOf_14 rfl ?_
      refine aw_iand 16 d_M_sizeOf_15 rfl ?_
      refine aw_istore_n (loc' := [none, some (.int (x1 + (1 : Int32))), some (.int (x2 &&& (x2 - (1 : Int32))))]) 17 d_M_sizeOf_16 rfl (by decide) rfl ?_
      refine aw_goto 4 d_M_sizeOf_17 (by decide) ?_
      exact (ih (x1 + (1 : Int32)) (x2 &&& (x2 - (1 : Int32))) h)
theorem m_M_sizeOf {l : Launch} {q : Int32} {x0 : Int32} {μ : MM} (h : f_M_sizeOf x0 = some q) : AMet l 1 Y_M_sizeOf [.int x0] μ (some (.int q)) μ := by
  refine AMet.of (loc := [some (.int x0), none, none]) pn_M_sizeOf (Nat.le_of_ble_eq_true rfl) rfl ?_
  unfold f_M_sizeOf at h
  refine aw_iconst (v := (0 : Int32)) 1 d_M_sizeOf_0 rfl (by decide) ?_
  refine aw_istore_n (loc' := [some (.int x0), some (.int (0 : Int32)), none]) 2 d_M_sizeOf_1 rfl (by decide) rfl ?_
  refine aw_iload_n 3 d_M_sizeOf_2 rfl rfl ?_
  refine aw_istore_n (loc' := [some (.int x0), some (.int (0 : Int32)), some (.int x0)]) 4 d_M_sizeOf_3 rfl (by decide) rfl ?_
  exact AW.wk [false, true, true] rfl (l_M_sizeOf_4 FU _ _ h)
theorem l_M_count_64 {l : Launch} {μ0 : MM} {q : Int32} {a0 : Nat} {x1 : Int32} {x2 : Int32} {μ : MM} : ∀ (n : Nat) (x3 : Int32) (x4 : Int32), f_M_count_L64 a0 x1 x2 μ n x3 x4 = some q → AWm l Y_M_count 3 μ0 (some (.int q)) μ 64 [some (.ref a0), some (.int x1), some (.int x2), some (.int x3), some (.int x4)] [] μ := by
  intro n
  induction n with
  | zero =>
    intro x3 x4 h
    have h : (none : Option (Int32)) = some q := h
    cases h
  | succ n ih =>
    intro x3 x4 h
    rw [f_M_count_L64] at h
    refine aw_iload 66 d_M_count_64 rfl rfl ?_
    refine aw_bipush (v := (24 : Int32)) 68 d_M_count_66 rfl (by decide) ?_
    refine aw_icmp_ge 96 71 d_M_count_68 (by decide) rfl (fun c68 => ?_) (fun c68 => ?_)
    · have h := (if_pos c68).symm.trans h
      refine aw_iload_n 97 d_M_count_96 rfl rfl ?_
      by_cases c97_0 : x1 = (0 : Int32)
      · have h := (if_pos c97_0).symm.trans h
        refine aw_tableIn 144 d_M_count_97 (by rw [c97_0]; decide) (by rw [c97_0]; decide) (by rw [c97_0]; rfl) (by decide) ?_
        refine aw_aload_n 145 d_M_count_144 rfl rfl ?_
        obtain ⟨y145, h145, h⟩ := bnd h
        refine aw_getI 148 d_M_count_145 rfl fg_M_275 (Or.inl rfl) h145 ?_
        cases h
        exact aw_ireturn d_M_count_148 rfl rfl
      · have h := (if_neg c97_0).symm.trans h
        by_cases c97_1 : x1 = (1 : Int32)
        · have h := (if_pos c97_1).symm.trans h
          refine aw_tableIn 149 d_M_count_97 (by rw [c97_1]; decide) (by rw [c97_1]; decide) (by rw [c97_1]; rfl) (by decide) ?_
          refine aw_aload_n 150 d_M_count_149 rfl rfl ?_
          obtain ⟨y150, h150, h⟩ := bnd h
          refine aw_getI 153 d_M_count_150 rfl fg_M_305 (Or.inl rfl) h150 ?_
          cases h
          exact aw_ireturn d_M_count_153 rfl rfl
        · have h := (if_neg c97_1).symm.trans h
          by_cases c97_2 : x1 = (2 : Int32)
          · have h := (if_pos c97_2).symm.trans h
            refine aw_tableIn 154 d_M_count_97 (by rw [c97_2]; decide) (by rw [c97_2]; decide) (by rw [c97_2]; rfl) (by decide) ?_
            refine aw_aload_n 155 d_M_count_154 rfl rfl ?_
            obtain ⟨y155, h155, h⟩ := bnd h
            refine aw_getI 158 d_M_count_155 rfl fg_M_416 (Or.inl rfl) h155 ?_
            cases h
            exact aw_ireturn d_M_count_158 rfl rfl
          · have h := (if_neg c97_2).symm.trans h
            by_cases c97_3 : x1 = (3 : Int32)
            · have h := (if_pos c97_3).symm.trans h
              refine aw_tableIn 159 d_M_count_97 (by rw [c97_3]; decide) (by rw [c97_3]; decide) (by rw [c97_3]; rfl) (by decide) ?_
              refine aw_iload_n 160 d_M_count_159 rfl rfl ?_
              cases h
              exact aw_ireturn d_M_count_160 rfl rfl
            · have h := (if_neg c97_3).symm.trans h
              by_cases c97_4 : x1 = (4 : Int32)
              · have h := (if_pos c97_4).symm.trans h
                refine aw_tableIn 161 d_M_count_97 (by rw [c97_4]; decide) (by rw [c97_4]; decide) (by rw [c97_4]; rfl) (by decide) ?_
                refine aw_iload_n 162 d_M_count_161 rfl rfl ?_
                cases h
                exact aw_ireturn d_M_count_162 rfl rfl
              · have h := (if_neg c97_4).symm.trans h
                by_cases c97_5 : x1 = (5 : Int32)
                · have h := (if_pos c97_5).symm.trans h
                  refine aw_tableIn 163 d_M_count_97 (by rw [c97_5]; decide) (by rw [c97_5]; decide) (by rw [c97_5]; rfl) (by decide) ?_
                  refine aw_aload_n 164 d_M_count_163 rfl rfl ?_
                  obtain ⟨y164, h164, h⟩ := bnd h
                  refine aw_getI 167 d_M_count_164 rfl fg_M_52 (Or.inl rfl) h164 ?_
                  cases h
                  exact aw_ireturn d_M_count_167 rfl rfl
                · have h := (if_neg c97_5).symm.trans h
                  by_cases c97_6 : x1 = (6 : Int32)
                  · have h := (if_pos c97_6).symm.trans h
                    refine aw_tableIn 168 d_M_count_97 (by rw [c97_6]; decide) (by rw [c97_6]; decide) (by rw [c97_6]; rfl) (by decide) ?_
                    refine aw_aload_n 169 d_M_count_168 rfl rfl ?_
                    obtain ⟨y169, h169, h⟩ := bnd h
                    refine aw_getI 172 d_M_count_169 rfl fg_M_297 (Or.inl rfl) h169 ?_
                    cases h
                    exact aw_ireturn d_M_count_172 rfl rfl
                  · have h := (if_neg c97_6).symm.trans h
                    by_cases c97_7 : x1 = (7 : Int32)
                    · have h := (if_pos c97_7).symm.trans h
                      refine aw_tableIn 173 d_M_count_97 (by rw [c97_7]; decide) (by rw [c97_7]; decide) (by rw [c97_7]; rfl) (by decide) ?_
                      refine aw_aload_n 174 d_M_count_173 rfl rfl ?_
                      obtain ⟨y174, h174, h⟩ := bnd h
                      refine aw_getI 177 d_M_count_174 rfl fg_M_302 (Or.inl rfl) h174 ?_
                      obtain ⟨y177, h177, h⟩ := bnd h
                      refine aw_invS (rest := []) (st' := [.int y177]) (As := [.int y174]) 180 d_M_count_177 rfl ls_M_583 (m_M_sizeOf h177) (by decide) rfl rfl (Nat.le_of_ble_eq_true rfl) rfl ?_
                      cases h
                      exact aw_ireturn d_M_count_180 rfl rfl
                    · have h := (if_neg c97_7).symm.trans h
                      have e97 : (x1).toInt < 0 ∨ 7 < (x1).toInt := by
                        have z0 := lv_neT (a := 0) c97_0 (by decide)
                        have z1 := lv_neT (a := 1) c97_1 (by decide)
                        have z2 := lv_neT (a := 2) c97_2 (by decide)
                        have z3 := lv_neT (a := 3) c97_3 (by decide)
                        have z4 := lv_neT (a := 4) c97_4 (by decide)
                        have z5 := lv_neT (a := 5) c97_5 (by decide)
                        have z6 := lv_neT (a := 6) c97_6 (by decide)
                        have z7 := lv_neT (a := 7) c97_7 (by decide)
                        omega
                      refine aw_tableOut 181 d_M_count_97 e97 (by decide) ?_
                      refine aw_iconst (v := (-1 : Int32)) 182 d_M_count_181 rfl (by decide) ?_
                      cases h
                      exact aw_ireturn d_M_count_182 rfl rfl
    · have h := (if_neg c68).symm.trans h
      refine aw_iload_n 72 d_M_count_71 rfl rfl ?_
      refine aw_aload_n 73 d_M_count_72 rfl rfl ?_
      obtain ⟨y73, h73, h⟩ := bnd h
      refine aw_getR 76 d_M_count_73 rfl fg_M_30 rfl h73 ?_
      refine aw_iload 78 d_M_count_76 rfl rfl ?_
      obtain ⟨y78, h78, h⟩ := bnd h
      refine aw_iald 79 d_M_count_78 rfl h78 ?_
      refine aw_iconst (v := (-1 : Int32)) 80 d_M_count_79 rfl (by decide) ?_
      refine aw_icmp_eq 87 83 d_M_count_80 (by decide) rfl (fun c80 => ?_) (fun c80 => ?_)
      · have h := (if_pos c80).symm.trans h
        refine aw_iconst (v := (0 : Int32)) 88 d_M_count_87 rfl (by decide) ?_
        refine aw_iadd 89 d_M_count_88 rfl ?_
        refine aw_istore_n (loc' := [some (.ref a0), some (.int x1), some (.int x2), some (.int (x3 + (0 : Int32))), some (.int x4)]) 90 d_M_count_89 rfl (by decide) rfl ?_
        refine aw_iinc (v := (x4 + (1 : Int32))) (loc' := [some (.ref a0), some (.int x1), some (.int x2), some (.int (x3 + (0 : Int32))), some (.int (x4 + (1 : Int32)))]) 93 d_M_count_90 rfl (by decide) rfl rfl rfl ?_
        refine aw_goto 64 d_M_count_93 (by decide) ?_
        exact (ih (x3 + (0 : Int32)) (x4 + (1 : Int32)) h)
      · have h := (if_neg c80).symm.trans h
        refine aw_iconst (v := (1 : Int32)) 84 d_M_count_83 rfl (by decide) ?_
        refine aw_goto 88 d_M_count_84 (by decide) ?_
        refine aw_iadd 89 d_M_count_88 rfl ?_
        refine aw_istore_n (loc' := [some (.ref a0), some (.int x1), some (.int x2), some (.int (x3 + (1 : Int32))), some (.int x4)]) 90 d_M_count_89 rfl (by decide) rfl ?_
        refine aw_iinc (v := (x4 + (1 : Int32))) (loc' := [some (.ref a0), some (.int x1), some (.int x2), some (.int (x3 + (1 : Int32))), some (.int (x4 + (1 : Int32)))]) 93 d_M_count_90 rfl (by decide) rfl rfl rfl ?_
        refine aw_goto 64 d_M_count_93 (by decide) ?_
        exact (ih (x3 + (1 : Int32)) (x4 + (1 : Int32)) h)
theorem l_M_count_28 {l : Launch} {μ0 : MM} {q : Int32} {a0 : Nat} {x1 : Int32} {x3 : Int32} {μ : MM} : ∀ (n : Nat) (x2 : Int32) (x4 : Int32), f_M_count_L28 a0 x1 x3 μ n x2 x4 = some q → AWm l Y_M_count 3 μ0 (some (.int q)) μ 28 [some (.ref a0), some (.int x1), some (.int x2), some (.int x3), some (.int x4)] [] μ := by
  intro n
  induction n with
  | zero =>
    intro x2 x4 h
    have h : (none : Option (Int32)) = some q := h
    cases h
  | succ n ih =>
    intro x2 x4 h
    rw [f_M_count_L28] at h
    refine aw_iload 30 d_M_count_28 rfl rfl ?_
    refine aw_sipush (v := (144 : Int32)) 33 d_M_count_30 rfl (by decide) ?_
    refine aw_icmp_ge 61 36 d_M_count_33 (by decide) rfl (fun c33 => ?_) (fun c33 => ?_)
    · have h := (if_pos c33).symm.trans h
      refine aw_iconst (v := (0 : Int32)) 62 d_M_count_61 rfl (by decide) ?_
      refine aw_istore (loc' := [some (.ref a0), some (.int x1), some (.int x2), some (.int x3), some (.int (0 : Int32))]) 64 d_M_count_62 rfl (by decide) rfl ?_
      exact (l_M_count_64 FU _ _ h)
    · have h := (if_neg c33).symm.trans h
      refine aw_iload_n 37 d_M_count_36 rfl rfl ?_
      refine aw_aload_n 38 d_M_count_37 rfl rfl ?_
      obtain ⟨y38, h38, h⟩ := bnd h
      refine aw_getR 41 d_M_count_38 rfl fg_M_13 rfl h38 ?_
      refine aw_iload 43 d_M_count_41 rfl rfl ?_
      obtain ⟨y43, h43, h⟩ := bnd h
      refine aw_iald 44 d_M_count_43 rfl h43 ?_
      refine aw_iconst (v := (-1 : Int32)) 45 d_M_count_44 rfl (by decide) ?_
      refine aw_icmp_eq 52 48 d_M_count_45 (by decide) rfl (fun c45 => ?_) (fun c45 => ?_)
      · have h := (if_pos c45).symm.trans h
        refine aw_iconst (v := (0 : Int32)) 53 d_M_count_52 rfl (by decide) ?_
        refine aw_iadd 54 d_M_count_53 rfl ?_
        refine aw_istore_n (loc' := [some (.ref a0), some (.int x1), some (.int (x2 + (0 : Int32))), some (.int x3), some (.int x4)]) 55 d_M_count_54 rfl (by decide) rfl ?_
        refine aw_iinc (v := (x4 + (1 : Int32))) (loc' := [some (.ref a0), some (.int x1), some (.int (x2 + (0 : Int32))), some (.int x3), some (.int (x4 + (1 : Int32)))]) 58 d_M_count_55 rfl (by decide) rfl rfl rfl ?_
        refine aw_goto 28 d_M_count_58 (by decide) ?_
        exact (ih (x2 + (0 : Int32)) (x4 + (1 : Int32)) h)
      · have h := (if_neg c45).symm.trans h
        refine aw_iconst (v := (1 : Int32)) 49 d_M_count_48 rfl (by decide) ?_
        refine aw_goto 53 d_M_count_49 (by decide) ?_
        refine aw_iadd 54 d_M_count_53 rfl ?_
        refine aw_istore_n (loc' := [some (.ref a0), some (.int x1), some (.int (x2 + (1 : Int32))), some (.int x3), some (.int x4)]) 55 d_M_count_54 rfl (by decide) rfl ?_
        refine aw_iinc (v := (x4 + (1 : Int32))) (loc' := [some (.ref a0), some (.int x1), some (.int (x2 + (1 : Int32))), some (.int x3), some (.int (x4 + (1 : Int32)))]) 58 d_M_count_55 rfl (by decide) rfl rfl rfl ?_
        refine aw_goto 28 d_M_count_58 (by decide) ?_
        exact (ih (x2 + (1 : Int32)) (x4 + (1 : Int32)) h)
theorem m_M_count {l : Launch} {q : Int32} {a0 : Nat} {x1 : Int32} {μ : MM} (h : f_M_count a0 x1 μ = some q) : AMet l 3 Y_M_count [.ref a0, .int x1] μ (some (.int q)) μ := by
  refine AMet.of (loc := [some (.ref a0), some (.int x1), none, none, none]) pn_M_count (Nat.le_of_ble_eq_true rfl) rfl ?_
  unfold f_M_count at h
  obtain ⟨_, hk, h⟩ := bnd h
  refine aw_aload_n 1 d_M_count_0 rfl rfl ?_
  refine aw_iload_n 2 d_M_count_1 rfl rfl ?_
  refine aw_bipush (v := (10 : Int32)) 4 d_M_count_2 rfl (by decide) ?_
  refine aw_isub 5 d_M_count_4 rfl ?_
  obtain ⟨y5, h5, h⟩ := bnd h
  refine aw_invV (rest := []) (st' := [.int y5]) (As := [.int (x1 - (10 : Int32))]) 8 d_M_count_5 rfl lv_M_282 (m_M_isSinger h5) (by decide) (k_M_isSinger h5) rfl rfl rfl (Nat.le_of_ble_eq_true rfl) rfl ?_
  refine aw_if_eq 21 11 d_M_count_8 (by decide) rfl (fun c8 => ?_) (fun c8 => ?_)
  · have h := (if_pos c8).symm.trans h
    refine aw_iconst (v := (0 : Int32)) 22 d_M_count_21 rfl (by decide) ?_
    refine aw_istore_n (loc' := [some (.ref a0), some (.int x1), some (.int (0 : Int32)), none, none]) 23 d_M_count_22 rfl (by decide) rfl ?_
    refine aw_iconst (v := (0 : Int32)) 24 d_M_count_23 rfl (by decide) ?_
    refine aw_istore_n (loc' := [some (.ref a0), some (.int x1), some (.int (0 : Int32)), some (.int (0 : Int32)), none]) 25 d_M_count_24 rfl (by decide) rfl ?_
    refine aw_iconst (v := (0 : Int32)) 26 d_M_count_25 rfl (by decide) ?_
    refine aw_istore (loc' := [some (.ref a0), some (.int x1), some (.int (0 : Int32)), some (.int (0 : Int32)), some (.int (0 : Int32))]) 28 d_M_count_26 rfl (by decide) rfl ?_
    exact (l_M_count_28 FU _ _ h)
  · have h := (if_neg c8).symm.trans h
    refine aw_aload_n 12 d_M_count_11 rfl rfl ?_
    obtain ⟨y12, h12, h⟩ := bnd h
    refine aw_getR 15 d_M_count_12 rfl fg_M_59 rfl h12 ?_
    refine aw_iload_n 16 d_M_count_15 rfl rfl ?_
    refine aw_bipush (v := (10 : Int32)) 18 d_M_count_16 rfl (by decide) ?_
    refine aw_isub 19 d_M_count_18 rfl ?_
    obtain ⟨y19, h19, h⟩ := bnd h
    refine aw_iald 20 d_M_count_19 rfl h19 ?_
    cases h
    exact aw_ireturn d_M_count_20 rfl rfl
theorem k_M_count {q : Int32} {a0 : Nat} {x1 : Int32} {μ : MM} (h : f_M_count a0 x1 μ = some q) : μ.1[a0]? = some (0, 1) := by
  unfold f_M_count at h
  obtain ⟨_, h1, _⟩ := bnd h
  exact kO_some h1
