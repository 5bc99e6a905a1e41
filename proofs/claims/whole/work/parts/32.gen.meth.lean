/-! PRINTED by wip/gen/gen1.py: the bytecode does what the functions say -/
theorem m_M_singer {l : Launch} {q : Int32 × MM} {a0 : Nat} {x1 : Int32} {x2 : Int32} {x3 : Int32} {x4 : Int32} {μ : MM} (h : f_M_singer a0 x1 x2 x3 x4 μ = some q) : AMet l 3 Y_M_singer [.ref a0, .int x1, .int x2, .int x3, .int x4] μ (some (.int q.1)) q.2 := by
  refine AMet.of (loc := [some (.ref a0), some (.int x1), some (.int x2), some (.int x3), some (.int x4)]) pn_M_singer (Nat.le_of_ble_eq_true rfl) rfl ?_
  unfold f_M_singer at h
  obtain ⟨_, hk, h⟩ := bnd h
  refine aw_aload_n 1 d_M_singer_0 rfl rfl ?_
  obtain ⟨y1, h1, h⟩ := bnd h
  refine aw_getI 4 d_M_singer_1 rfl fg_M_275 (Or.inl rfl) h1 ?_
  refine aw_bipush (v := (8 : Int32)) 6 d_M_singer_4 rfl (by decide) ?_
  refine aw_icmp_eq 51 9 d_M_singer_6 (by decide) rfl (fun c6 => ?_) (fun c6 => ?_)
  · have h := (if_pos c6).symm.trans h
    refine aw_iconst (v := (-1 : Int32)) 52 d_M_singer_51 rfl (by decide) ?_
    cases h
    exact aw_ireturn d_M_singer_52 rfl rfl
  · have h := (if_neg c6).symm.trans h
    refine aw_iload_n 10 d_M_singer_9 rfl rfl ?_
    obtain ⟨y10, h10, h⟩ := bnd h
    refine aw_invS (rest := []) (st' := [.int y10]) (As := [.int x1]) 13 d_M_singer_10 rfl ls_M_151 (m_M_isVoice h10) (by decide) rfl rfl (Nat.le_of_ble_eq_true rfl) rfl ?_
    refine aw_if_eq 51 16 d_M_singer_13 (by decide) rfl (fun c13 => ?_) (fun c13 => ?_)
    · have h := (if_pos c13).symm.trans h
      refine aw_iconst (v := (-1 : Int32)) 52 d_M_singer_51 rfl (by decide) ?_
      cases h
      exact aw_ireturn d_M_singer_52 rfl rfl
    · have h := (if_neg c13).symm.trans h
      refine aw_iload_n 17 d_M_singer_16 rfl rfl ?_
      refine aw_i2l 18 d_M_singer_17 rfl ?_
      refine aw_lconst (v := (0 : Int64)) 19 d_M_singer_18 rfl (by decide) ?_
      refine aw_ldc2 (v := (15 : Int64)) 22 d_M_singer_19 rfl c_M_278 ?_
      obtain ⟨y22, h22, h⟩ := bnd h
      refine aw_invS (rest := []) (st' := [.int y22]) (As := [.long x2.toInt64, .long (0 : Int64), .long (15 : Int64)]) 25 d_M_singer_22 rfl ls_M_145 (m_M_lies h22) (by decide) rfl rfl (Nat.le_of_ble_eq_true rfl) rfl ?_
      refine aw_if_eq 51 28 d_M_singer_25 (by decide) rfl (fun c25 => ?_) (fun c25 => ?_)
      · have h := (if_pos c25).symm.trans h
        refine aw_iconst (v := (-1 : Int32)) 52 d_M_singer_51 rfl (by decide) ?_
        cases h
        exact aw_ireturn d_M_singer_52 rfl rfl
      · have h := (if_neg c25).symm.trans h
        refine aw_iload_n 29 d_M_singer_28 rfl rfl ?_
        refine aw_i2l 30 d_M_singer_29 rfl ?_
        refine aw_lconst (v := (1 : Int64)) 31 d_M_singer_30 rfl (by decide) ?_
        refine aw_ldc2 (v := (9 : Int64)) 34 d_M_singer_31 rfl c_M_280 ?_
        obtain ⟨y34, h34, h⟩ := bnd h
        refine aw_invS (rest := []) (st' := [.int y34]) (As := [.long x3.toInt64, .long (1 : Int64), .long (9 : Int64)]) 37 d_M_singer_34 rfl ls_M_145 (m_M_lies h34) (by decide) rfl rfl (Nat.le_of_ble_eq_true rfl) rfl ?_
        refine aw_if_eq 51 40 d_M_singer_37 (by decide) rfl (fun c37 => ?_) (fun c37 => ?_)
        · have h := (if_pos c37).symm.trans h
          refine aw_iconst (v := (-1 : Int32)) 52 d_M_singer_51 rfl (by decide) ?_
          cases h
          exact aw_ireturn d_M_singer_52 rfl rfl
        · have h := (if_neg c37).symm.trans h
          refine aw_iload 42 d_M_singer_40 rfl rfl ?_
          refine aw_i2l 43 d_M_singer_42 rfl ?_
          refine aw_lconst (v := (0 : Int64)) 44 d_M_singer_43 rfl (by decide) ?_
          refine aw_lconst (v := (1 : Int64)) 45 d_M_singer_44 rfl (by decide) ?_
          obtain ⟨y45, h45, h⟩ := bnd h
          refine aw_invS (rest := []) (st' := [.int y45]) (As := [.long x4.toInt64, .long (0 : Int64), .long (1 : Int64)]) 48 d_M_singer_45 rfl ls_M_145 (m_M_lies h45) (by decide) rfl rfl (Nat.le_of_ble_eq_true rfl) rfl ?_
          refine aw_if_ne 53 51 d_M_singer_48 (by decide) rfl (fun c48 => ?_) (fun c48 => ?_)
          · have h := (if_neg c48).symm.trans h
            refine aw_aload_n 54 d_M_singer_53 rfl rfl ?_
            obtain ⟨y54, h54, h⟩ := bnd h
            refine aw_getR 57 d_M_singer_54 rfl fg_M_56 rfl h54 ?_
            refine aw_aload_n 58 d_M_singer_57 rfl rfl ?_
            obtain ⟨y58, h58, h⟩ := bnd h
            refine aw_getI 61 d_M_singer_58 rfl fg_M_275 (Or.inl rfl) h58 ?_
            refine aw_iload_n 62 d_M_singer_61 rfl rfl ?_
            obtain ⟨μ62, h62, h⟩ := bnd h
            refine aw_iast 63 d_M_singer_62 rfl h62 ?_
            refine aw_aload_n 64 d_M_singer_63 rfl rfl ?_
            obtain ⟨y64, h64, h⟩ := bnd h
            refine aw_getR 67 d_M_singer_64 rfl fg_M_59 rfl h64 ?_
            refine aw_aload_n 68 d_M_singer_67 rfl rfl ?_
            obtain ⟨y68, h68, h⟩ := bnd h
            refine aw_getI 71 d_M_singer_68 rfl fg_M_275 (Or.inl rfl) h68 ?_
            refine aw_iload_n 72 d_M_singer_71 rfl rfl ?_
            obtain ⟨μ72, h72, h⟩ := bnd h
            refine aw_iast 73 d_M_singer_72 rfl h72 ?_
            refine aw_aload_n 74 d_M_singer_73 rfl rfl ?_
            obtain ⟨y74, h74, h⟩ := bnd h
            refine aw_getR 77 d_M_singer_74 rfl fg_M_62 rfl h74 ?_
            refine aw_aload_n 78 d_M_singer_77 rfl rfl ?_
            obtain ⟨y78, h78, h⟩ := bnd h
            refine aw_getI 81 d_M_singer_78 rfl fg_M_275 (Or.inl rfl) h78 ?_
            refine aw_iload_n 82 d_M_singer_81 rfl rfl ?_
            obtain ⟨μ82, h82, h⟩ := bnd h
            refine aw_iast 83 d_M_singer_82 rfl h82 ?_
            refine aw_aload_n 84 d_M_singer_83 rfl rfl ?_
            obtain ⟨y84, h84, h⟩ := bnd h
            refine aw_getR 87 d_M_singer_84 rfl fg_M_65 rfl h84 ?_
            refine aw_aload_n 88 d_M_singer_87 rfl rfl ?_
            obtain ⟨y88, h88, h⟩ := bnd h
            refine aw_getI 91 d_M_singer_88 rfl fg_M_275 (Or.inl rfl) h88 ?_
            refine aw_iload 93 d_M_singer_91 rfl rfl ?_
            obtain ⟨μ93, h93, h⟩ := bnd h
            refine aw_iast 94 d_M_singer_93 rfl h93 ?_
            refine aw_aload_n 95 d_M_singer_94 rfl rfl ?_
            refine aw_dup 96 d_M_singer_95 rfl rfl ?_
            obtain ⟨y96, h96, h⟩ := bnd h
            refine aw_getI 99 d_M_singer_96 rfl fg_M_275 (Or.inl rfl) h96 ?_
            refine aw_iconst (v := (1 : Int32)) 100 d_M_singer_99 rfl (by decide) ?_
            refine aw_iadd 101 d_M_singer_100 rfl ?_
            obtain ⟨μ101, h101, h⟩ := bnd h
            refine aw_putI 104 false d_M_singer_101 rfl fp_M_275 (fun z => nomatch z) rfl h101 ?_
            refine aw_aload_n 105 d_M_singer_104 rfl rfl ?_
            obtain ⟨y105, h105, h⟩ := bnd h
            refine aw_getI 108 d_M_singer_105 rfl fg_M_275 (Or.inl rfl) h105 ?_
            refine aw_iconst (v := (1 : Int32)) 109 d_M_singer_108 rfl (by decide) ?_
            refine aw_isub 110 d_M_singer_109 rfl ?_
            cases h
            exact aw_ireturn d_M_singer_110 rfl rfl
          · have h := (if_pos c48).symm.trans h
            refine aw_iconst (v := (-1 : Int32)) 52 d_M_singer_51 rfl (by decide) ?_
            cases h
            exact aw_ireturn d_M_singer_52 rfl rfl
theorem k_M_singer {q : Int32 × MM} {a0 : Nat} {x1 : Int32} {x2 : Int32} {x3 : Int32} {x4 : Int32} {μ : MM} (h : f_M_singer a0 x1 x2 x3 x4 μ = some q) : μ.1[a0]? = some (0, 1) := by
  unfold f_M_singer at h
  obtain ⟨_, h1, _⟩ := bnd h
  exact kO_some h1
theorem m_Ch_has {l : Launch} {q : Int32} {a0 : Nat} {x1 : Int32} {μ : MM} (h : f_Ch_has a0 x1 μ = some q) : AMet l 1 Y_Ch_has [.ref a0, .int x1] μ (some (.int q)) μ := by
  refine AMet.of (loc := [some (.ref a0), some (.int x1)]) pn_Ch_has (Nat.le_of_ble_eq_true rfl) rfl ?_
  unfold f_Ch_has at h
  obtain ⟨_, hk, h⟩ := bnd h
  refine aw_iload_n 1 d_Ch_has_0 rfl rfl ?_
  refine aw_if_lt 22 4 d_Ch_has_1 (by decide) rfl (fun c1 => ?_) (fun c1 => ?_)
  · have h := (if_pos c1).symm.trans h
    refine aw_iconst (v := (0 : Int32)) 23 d_Ch_has_22 rfl (by decide) ?_
    cases h
    exact aw_ireturn d_Ch_has_23 rfl nar0
  · have h := (if_neg c1).symm.trans h
    refine aw_iload_n 5 d_Ch_has_4 rfl rfl ?_
    refine aw_aload_n 6 d_Ch_has_5 rfl rfl ?_
    obtain ⟨y6, h6, h⟩ := bnd h
    refine aw_getI 9 d_Ch_has_6 rfl fg_Ch_48 (Or.inl rfl) h6 ?_
    refine aw_icmp_ge 22 12 d_Ch_has_9 (by decide) rfl (fun c9 => ?_) (fun c9 => ?_)
    · have h := (if_pos c9).symm.trans h
      refine aw_iconst (v := (0 : Int32)) 23 d_Ch_has_22 rfl (by decide) ?_
      cases h
      exact aw_ireturn d_Ch_has_23 rfl nar0
    · have h := (if_neg c9).symm.trans h
      refine aw_iload_n 13 d_Ch_has_12 rfl rfl ?_
      refine aw_bipush (v := (8 : Int32)) 15 d_Ch_has_13 rfl (by decide) ?_
      refine aw_icmp_ge 22 18 d_Ch_has_15 (by decide) rfl (fun c15 => ?_) (fun c15 => ?_)
      · have h := (if_pos c15).symm.trans h
        refine aw_iconst (v := (0 : Int32)) 23 d_Ch_has_22 rfl (by decide) ?_
        cases h
        exact aw_ireturn d_Ch_has_23 rfl nar0
      · have h := (if_neg c15).symm.trans h
        refine aw_iconst (v := (1 : Int32)) 19 d_Ch_has_18 rfl (by decide) ?_
        refine aw_goto 23 d_Ch_has_19 (by decide) ?_
        cases h
        exact aw_ireturn d_Ch_has_23 rfl nar1
theorem k_Ch_has {q : Int32} {a0 : Nat} {x1 : Int32} {μ : MM} (h : f_Ch_has a0 x1 μ = some q) : μ.1[a0]? = some (0, 2) := by
  unfold f_Ch_has at h
  obtain ⟨_, h1, _⟩ := bnd h
  exact kO_some h1
theorem m_X_place {l : Launch} {q : Int32 × MM} {a0 : Nat} {x1 : Int32} {x2 : Int32} {μ : MM} (h : f_X_place a0 x1 x2 μ = some q) : AMet l 2 Y_X_place [.ref a0, .int x1, .int x2] μ (some (.int q.1)) q.2 := by
  refine AMet.of (loc := [some (.ref a0), some (.int x1), some (.int x2)]) pn_X_place (Nat.le_of_ble_eq_true rfl) rfl ?_
  unfold f_X_place at h
  obtain ⟨_, hk, h⟩ := bnd h
  refine aw_aload_n 1 d_X_place_0 rfl rfl ?_
  obtain ⟨y1, h1, h⟩ := bnd h
  refine aw_getR 4 d_X_place_1 rfl fg_X_21 rfl h1 ?_
  refine aw_iload_n 5 d_X_place_4 rfl rfl ?_
  obtain ⟨y5, h5, h⟩ := bnd h
  refine aw_invV (rest := []) (st' := [.int y5]) (As := [.int x1]) 8 d_X_place_5 rfl lv_X_179 (m_Ch_has h5) (by decide) (k_Ch_has h5) rfl rfl rfl (Nat.le_of_ble_eq_true rfl) rfl ?_
  refine aw_if_eq 21 11 d_X_place_8 (by decide) rfl (fun c8 => ?_) (fun c8 => ?_)
  · have h := (if_pos c8).symm.trans h
    refine aw_iconst (v := (0 : Int32)) 22 d_X_place_21 rfl (by decide) ?_
    cases h
    exact aw_ireturn d_X_place_22 rfl nar0
  · have h := (if_neg c8).symm.trans h
    refine aw_iload_n 12 d_X_place_11 rfl rfl ?_
    refine aw_if_lt 21 15 d_X_place_12 (by decide) rfl (fun c12 => ?_) (fun c12 => ?_)
    · have h := (if_pos c12).symm.trans h
      refine aw_iconst (v := (0 : Int32)) 22 d_X_place_21 rfl (by decide) ?_
      cases h
      exact aw_ireturn d_X_place_22 rfl nar0
    · have h := (if_neg c12).symm.trans h
      refine aw_iload_n 16 d_X_place_15 rfl rfl ?_
      refine aw_bipush (v := (16 : Int32)) 18 d_X_place_16 rfl (by decide) ?_
      refine aw_icmp_lt 23 21 d_X_place_18 (by decide) rfl (fun c18 => ?_) (fun c18 => ?_)
      · have h := (if_pos c18).symm.trans h
        refine aw_aload_n 24 d_X_place_23 rfl rfl ?_
        obtain ⟨y24, h24, h⟩ := bnd h
        refine aw_getR 27 d_X_place_24 rfl fg_X_21 rfl h24 ?_
        obtain ⟨y27, h27, h⟩ := bnd h
        refine aw_getR 30 d_X_place_27 rfl fg_X_170 rfl h27 ?_
        refine aw_iload_n 31 d_X_place_30 rfl rfl ?_
        refine aw_iload_n 32 d_X_place_31 rfl rfl ?_
        obtain ⟨μ32, h32, h⟩ := bnd h
        refine aw_iast 33 d_X_place_32 rfl h32 ?_
        refine aw_aload_n 34 d_X_place_33 rfl rfl ?_
        obtain ⟨q34, h34, h⟩ := bnd h
        refine aw_invV (rest := []) (st' := [.int q34.1]) (As := []) 37 d_X_place_34 rfl lv_X_88 (m_X_changed h34) (by decide) (k_X_changed h34) rfl rfl rfl (Nat.le_of_ble_eq_true rfl) rfl ?_
        obtain ⟨y37, h37, h⟩ := bnd h
        obtain ⟨e37, n37⟩ := rz_some h37
        rw [e37] at h
        cases h
        exact aw_ireturn d_X_place_37 rfl n37
      · have h := (if_neg c18).symm.trans h
        refine aw_iconst (v := (0 : Int32)) 22 d_X_place_21 rfl (by decide) ?_
        cases h
        exact aw_ireturn d_X_place_22 rfl nar0
theorem k_X_place {q : Int32 × MM} {a0 : Nat} {x1 : Int32} {x2 : Int32} {μ : MM} (h : f_X_place a0 x1 x2 μ = some q) : μ.1[a0]? = some (0, 0) := by
  unfold f_X_place at h
  obtain ⟨_, h1, _⟩ := bnd h
  exact kO_some h1
theorem m_M_isSinger {l : Launch} {q : Int32} {a0 : Nat} {x1 : Int32} {μ : MM} (h : f_M_isSinger a0 x1 μ = some q) : AMet l 2 Y_M_isSinger [.ref a0, .int x1] μ (some (.int q)) μ := by
  refine AMet.of (loc := [some (.ref a0), some (.int x1)]) pn_M_isSinger (Nat.le_of_ble_eq_true rfl) rfl ?_
  unfold f_M_isSinger at h
  obtain ⟨_, hk, h⟩ := bnd h
  refine aw_iload_n 1 d_M_isSinger_0 rfl rfl ?_
  refine aw_i2l 2 d_M_isSinger_1 rfl ?_
  refine aw_lconst (v := (0 : Int64)) 3 d_M_isSinger_2 rfl (by decide) ?_
  refine aw_aload_n 4 d_M_isSinger_3 rfl rfl ?_
  obtain ⟨y4, h4, h⟩ := bnd h
  refine aw_getI 7 d_M_isSinger_4 rfl fg_M_275 (Or.inl rfl) h4 ?_
  refine aw_iconst (v := (1 : Int32)) 8 d_M_isSinger_7 rfl (by decide) ?_
  refine aw_isub 9 d_M_isSinger_8 rfl ?_
  refine aw_i2l 10 d_M_isSinger_9 rfl ?_
  obtain ⟨y10, h10, h⟩ := bnd h
  refine aw_invS (rest := []) (st' := [.int y10]) (As := [.long x1.toInt64, .long (0 : Int64), .long ((y4 - (1 : Int32)).toInt64)]) 13 d_M_isSinger_10 rfl ls_M_145 (m_M_lies h10) (by decide) rfl rfl (Nat.le_of_ble_eq_true rfl) rfl ?_
  obtain ⟨y13, h13, h⟩ := bnd h
  obtain ⟨e13, n13⟩ := rz_some h13
  rw [e13] at h
  cases h
  exact aw_ireturn d_M_isSinger_13 rfl n13
theorem k_M_isSinger {q : Int32} {a0 : Nat} {x1 : Int32} {μ : MM} (h : f_M_isSinger a0 x1 μ = some q) : μ.1[a0]? = some (0, 1) := by
  unfold f_M_isSinger at h
  obtain ⟨_, h1, _⟩ := bnd h
  exact kO_some h1
theorem m_M_place {l : Launch} {q : Int32 × MM} {a0 : Nat} {x1 : Int32} {x2 : Int32} {μ : MM} (h : f_M_place a0 x1 x2 μ = some q) : AMet l 3 Y_M_place [.ref a0, .int x1, .int x2] μ (some (.int q.1)) q.2 := by
  refine AMet.of (loc := [some (.ref a0), some (.int x1), some (.int x2)]) pn_M_place (Nat.le_of_ble_eq_true rfl) rfl ?_
  unfold f_M_place at h
  obtain ⟨_, hk, h⟩ := bnd h
  refine aw_aload_n 1 d_M_place_0 rfl rfl ?_
  refine aw_iload_n 2 d_M_place_1 rfl rfl ?_
  obtain ⟨y2, h2, h⟩ := bnd h
  refine aw_invV (rest := []) (st' := [.int y2]) (As := [.int x1]) 5 d_M_place_2 rfl lv_M_282 (m_M_isSinger h2) (by decide) (k_M_isSinger h2) rfl rfl rfl (Nat.le_of_ble_eq_true rfl) rfl ?_
  refine aw_if_eq 20 8 d_M_place_5 (by decide) rfl (fun c5 => ?_) (fun c5 => ?_)
  · have h := (if_pos c5).symm.trans h
    refine aw_iconst (v := (0 : Int32)) 21 d_M_place_20 rfl (by decide) ?_
    cases h
    exact aw_ireturn d_M_place_21 rfl nar0
  · have h := (if_neg c5).symm.trans h
    refine aw_iload_n 9 d_M_place_8 rfl rfl ?_
    refine aw_i2l 10 d_M_place_9 rfl ?_
    refine aw_lconst (v := (0 : Int64)) 11 d_M_place_10 rfl (by decide) ?_
    refine aw_ldc2 (v := (15 : Int64)) 14 d_M_place_11 rfl c_M_278 ?_
    obtain ⟨y14, h14, h⟩ := bnd h
    refine aw_invS (rest := []) (st' := [.int y14]) (As := [.long x2.toInt64, .long (0 : Int64), .long (15 : Int64)]) 17 d_M_place_14 rfl ls_M_145 (m_M_lies h14) (by decide) rfl rfl (Nat.le_of_ble_eq_true rfl) rfl ?_
    refine aw_if_ne 22 20 d_M_place_17 (by decide) rfl (fun c17 => ?_) (fun c17 => ?_)
    · have h := (if_neg c17).symm.trans h
      refine aw_aload_n 23 d_M_place_22 rfl rfl ?_
      obtain ⟨y23, h23, h⟩ := bnd h
      refine aw_getR 26 d_M_place_23 rfl fg_M_59 rfl h23 ?_
      refine aw_iload_n 27 d_M_place_26 rfl rfl ?_
      refine aw_iload_n 28 d_M_place_27 rfl rfl ?_
      obtain ⟨μ28, h28, h⟩ := bnd h
      refine aw_iast 29 d_M_place_28 rfl h28 ?_
      refine aw_iconst (v := (1 : Int32)) 30 d_M_place_29 rfl (by decide) ?_
      cases h
      exact aw_ireturn d_M_place_30 rfl nar1
    · have h := (if_pos c17).symm.trans h
      refine aw_iconst (v := (0 : Int32)) 21 d_M_place_20 rfl (by decide) ?_
      cases h
      exact aw_ireturn d_M_place_21 rfl nar0
theorem k_M_place {q : Int32 × MM} {a0 : Nat} {x1 : Int32} {x2 : Int32} {μ : MM} (h : f_M_place a0 x1 x2 μ = some q) : μ.1[a0]? = some (0, 1) := by
  unfold f_M_place at h
  obtain ⟨_, h1, _⟩ := bnd h
  exact kO_some h1
theorem m_X_table {l : Launch} {q : Int32 × MM} {a0 : Nat} {x1 : Int32} {x2 : Int32} {μ : MM} (h : f_X_table a0 x1 x2 μ = some q) : AMet l 2 Y_X_table [.ref a0, .int x1, .int x2] μ (some (.int q.1)) q.2 := by
  refine AMet.of (loc := [some (.ref a0), some (.int x1), some (.int x2)]) pn_X_table (Nat.le_of_ble_eq_true rfl) rfl ?_
  unfold f_X_table at h
  obtain ⟨_, hk, h⟩ := bnd h
  refine aw_iload_n 1 d_X_table_0 rfl rfl ?_
  refine aw_if_lt 22 4 d_X_table_1 (by decide) rfl (fun c1 => ?_) (fun c1 => ?_)
  · have h := (if_pos c1).symm.trans h
    refine aw_iconst (v := (0 : Int32)) 23 d_X_table_22 rfl (by decide) ?_
    cases h
    exact aw_ireturn d_X_table_23 rfl nar0
  · have h := (if_neg c1).symm.trans h
    refine aw_iload_n 5 d_X_table_4 rfl rfl ?_
    refine aw_bipush (v := (12 : Int32)) 7 d_X_table_5 rfl (by decide) ?_
    refine aw_icmp_ge 22 10 d_X_table_7 (by decide) rfl (fun c7 => ?_) (fun c7 => ?_)
    · have h := (if_pos c7).symm.trans h
      refine aw_iconst (v := (0 : Int32)) 23 d_X_table_22 rfl (by decide) ?_
      cases h
      exact aw_ireturn d_X_table_23 rfl nar0
    · have h := (if_neg c7).symm.trans h
      refine aw_iload_n 11 d_X_table_10 rfl rfl ?_
      refine aw_ldc (v := (-60000 : Int32)) 13 d_X_table_11 rfl c_X_181 ?_
      refine aw_icmp_lt 22 16 d_X_table_13 (by decide) rfl (fun c13 => ?_) (fun c13 => ?_)
      · have h := (if_pos c13).symm.trans h
        refine aw_iconst (v := (0 : Int32)) 23 d_X_table_22 rfl (by decide) ?_
        cases h
        exact aw_ireturn d_X_table_23 rfl nar0
      · have h := (if_neg c13).symm.trans h
        refine aw_iload_n 17 d_X_table_16 rfl rfl ?_
        refine aw_ldc (v := (60000 : Int32)) 19 d_X_table_17 rfl c_X_182 ?_
        refine aw_icmp_le 24 22 d_X_table_19 (by decide) rfl (fun c19 => ?_) (fun c19 => ?_)
        · have h := (if_pos c19).symm.trans h
          refine aw_aload_n 25 d_X_table_24 rfl rfl ?_
          obtain ⟨y25, h25, h⟩ := bnd h
          refine aw_getR 28 d_X_table_25 rfl fg_X_21 rfl h25 ?_
          obtain ⟨y28, h28, h⟩ := bnd h
          refine aw_getR 31 d_X_table_28 rfl fg_X_183 rfl h28 ?_
          refine aw_iload_n 32 d_X_table_31 rfl rfl ?_
          refine aw_iload_n 33 d_X_table_32 rfl rfl ?_
          obtain ⟨μ33, h33, h⟩ := bnd h
          refine aw_iast 34 d_X_table_33 rfl h33 ?_
          refine aw_aload_n 35 d_X_table_34 rfl rfl ?_
          obtain ⟨q35, h35, h⟩ := bnd h
          refine aw_invV (rest := []) (st' := [.int q35.1]) (As := []) 38 d_X_table_35 rfl lv_X_88 (m_X_changed h35) (by decide) (k_X_changed h35) rfl rfl rfl (Nat.le_of_ble_eq_true rfl) rfl ?_
          obtain ⟨y38, h38, h⟩ := bnd h
          obtain ⟨e38, n38⟩ := rz_some h38
          rw [e38] at h
          cases h
          exact aw_ireturn d_X_table_38 rfl n38
        · have h := (if_neg c19).symm.trans h
          refine aw_iconst (v := (0 : Int32)) 23 d_X_table_22 rfl (by decide) ?_
          cases h
          exact aw_ireturn d_X_table_23 rfl nar0
theorem k_X_table {q : Int32 × MM} {a0 : Nat} {x1 : Int32} {x2 : Int32} {μ : MM} (h : f_X_table a0 x1 x2 μ = some q) : μ.1[a0]? = some (0, 0) := by
  unfold f_X_table at h
  obtain ⟨_, h1, _⟩ := bnd h
  exact kO_some h1
theorem m_M_table {l : Launch} {q : Int32 × MM} {a0 : Nat} {x1 : Int32} {x2 : Int32} {μ : MM} (h : f_M_table a0 x1 x2 μ = some q) : AMet l 2 Y_M_table [.ref a0, .int x1, .int x2] μ (some (.int q.1)) q.2 := by
  refine AMet.of (loc := [some (.ref a0), some (.int x1), some (.int x2)]) pn_M_table (Nat.le_of_ble_eq_true rfl) rfl ?_
  unfold f_M_table at h
  obtain ⟨_, hk, h⟩ := bnd h
  refine aw_iload_n 1 d_M_table_0 rfl rfl ?_
  refine aw_i2l 2 d_M_table_1 rfl ?_
  refine aw_lconst (v := (0 : Int64)) 3 d_M_table_2 rfl (by decide) ?_
  refine aw_ldc2 (v := (11 : Int64)) 6 d_M_table_3 rfl c_M_285 ?_
  obtain ⟨y6, h6, h⟩ := bnd h
  refine aw_invS (rest := []) (st' := [.int y6]) (As := [.long x1.toInt64, .long (0 : Int64), .long (11 : Int64)]) 9 d_M_table_6 rfl ls_M_145 (m_M_lies h6) (by decide) rfl rfl (Nat.le_of_ble_eq_true rfl) rfl ?_
  refine aw_if_eq 26 12 d_M_table_9 (by decide) rfl (fun c9 => ?_) (fun c9 => ?_)
  · have h := (if_pos c9).symm.trans h
    refine aw_iconst (v := (0 : Int32)) 27 d_M_table_26 rfl (by decide) ?_
    cases h
    exact aw_ireturn d_M_table_27 rfl nar0
  · have h := (if_neg c9).symm.trans h
    refine aw_iload_n 13 d_M_table_12 rfl rfl ?_
    refine aw_i2l 14 d_M_table_13 rfl ?_
    refine aw_ldc2 (v := (-60000 : Int64)) 17 d_M_table_14 rfl c_M_287 ?_
    refine aw_ldc2 (v := (60000 : Int64)) 20 d_M_table_17 rfl c_M_289 ?_
    obtain ⟨y20, h20, h⟩ := bnd h
    refine aw_invS (rest := []) (st' := [.int y20]) (As := [.long x2.toInt64, .long (-60000 : Int64), .long (60000 : Int64)]) 23 d_M_table_20 rfl ls_M_145 (m_M_lies h20) (by decide) rfl rfl (Nat.le_of_ble_eq_true rfl) rfl ?_
    refine aw_if_ne 28 26 d_M_table_23 (by decide) rfl (fun c23 => ?_) (fun c23 => ?_)
    · have h := (if_neg c23).symm.trans h
      refine aw_aload_n 29 d_M_table_28 rfl rfl ?_
      obtain ⟨y29, h29, h⟩ := bnd h
      refine aw_getR 32 d_M_table_29 rfl fg_M_68 rfl h29 ?_
      refine aw_iload_n 33 d_M_table_32 rfl rfl ?_
      refine aw_iload_n 34 d_M_table_33 rfl rfl ?_
      obtain ⟨μ34, h34, h⟩ := bnd h
      refine aw_iast 35 d_M_table_34 rfl h34 ?_
      refine aw_iconst (v := (1 : Int32)) 36 d_M_table_35 rfl (by decide) ?_
      cases h
      exact aw_ireturn d_M_table_36 rfl nar1
    · have h := (if_pos c23).symm.trans h
      refine aw_iconst (v := (0 : Int32)) 27 d_M_table_26 rfl (by decide) ?_
      cases h
      exact aw_ireturn d_M_table_27 rfl nar0
theorem k_M_table {q : Int32 × MM} {a0 : Nat} {x1 : Int32} {x2 : Int32} {μ : MM} (h : f_M_table a0 x1 x2 μ = some q) : μ.1[a0]? = some (0, 1) := by
  unfold f_M_table at h
  obtain ⟨_, h1, _⟩ := bnd h
  exact kO_some h1
theorem m_X_seed {l : Launch} {q : Int32 × MM} {a0 : Nat} {x1 : Int32} {μ : MM} (h : f_X_seed a0 x1 μ = some q) : AMet l 2 Y_X_seed [.ref a0, .int x1] μ (some (.int q.1)) q.2 := by
  refine AMet.of (loc := [some (.ref a0), some (.int x1)]) pn_X_seed (Nat.le_of_ble_eq_true rfl) rfl ?_
  unfold f_X_seed at h
  obtain ⟨_, hk, h⟩ := bnd h
  refine aw_iload_n 1 d_X_seed_0 rfl rfl ?_
  refine aw_if_lt 10 4 d_X_seed_1 (by decide) rfl (fun c1 => ?_) (fun c1 => ?_)
  · have h := (if_pos c1).symm.trans h
    refine aw_iconst (v := (0 : Int32)) 11 d_X_seed_10 rfl (by decide) ?_
    cases h
    exact aw_ireturn d_X_seed_11 rfl nar0
  · have h := (if_neg c1).symm.trans h
    refine aw_iload_n 5 d_X_seed_4 rfl rfl ?_
    refine aw_ldc (v := (65535 : Int32)) 7 d_X_seed_5 rfl c_X_186 ?_
    refine aw_icmp_le 12 10 d_X_seed_7 (by decide) rfl (fun c7 => ?_) (fun c7 => ?_)
    · have h := (if_pos c7).symm.trans h
      refine aw_aload_n 13 d_X_seed_12 rfl rfl ?_
      obtain ⟨y13, h13, h⟩ := bnd h
      refine aw_getR 16 d_X_seed_13 rfl fg_X_21 rfl h13 ?_
      refine aw_iload_n 17 d_X_seed_16 rfl rfl ?_
      obtain ⟨μ17, h17, h⟩ := bnd h
      refine aw_putI 20 false d_X_seed_17 rfl fp_X_187 (fun z => nomatch z) rfl h17 ?_
      refine aw_aload_n 21 d_X_seed_20 rfl rfl ?_
      obtain ⟨q21, h21, h⟩ := bnd h
      refine aw_invV (rest := []) (st' := [.int q21.1]) (As := []) 24 d_X_seed_21 rfl lv_X_88 (m_X_changed h21) (by decide) (k_X_changed h21) rfl rfl rfl (Nat.le_of_ble_eq_true rfl) rfl ?_
      obtain ⟨y24, h24, h⟩ := bnd h
      obtain ⟨e24, n24⟩ := rz_some h24
      rw [e24] at h
      cases h
      exact aw_ireturn d_X_seed_24 rfl n24
    · have h := (if_neg c7).symm.trans h
      refine aw_iconst (v := (0 : Int32)) 11 d_X_seed_10 rfl (by decide) ?_
      cases h
      exact aw_ireturn d_X_seed_11 rfl nar0
theorem k_X_seed {q : Int32 × MM} {a0 : Nat} {x1 : Int32} {μ : MM} (h : f_X_seed a0 x1 μ = some q) : μ.1[a0]? = some (0, 0) := by
  unfold f_X_seed at h
  obtain ⟨_, h1, _⟩ := bnd h
  exact kO_some h1
theorem m_M_seed {l : Launch} {q : Int32 × MM} {a0 : Nat} {x1 : Int32} {μ : MM} (h : f_M_seed a0 x1 μ = some q) : AMet l 2 Y_M_seed [.ref a0, .int x1] μ (some (.int q.1)) q.2 := by
  refine AMet.of (loc := [some (.ref a0), some (.int x1)]) pn_M_seed (Nat.le_of_ble_eq_true rfl) rfl ?_
  unfold f_M_seed at h
  obtain ⟨_, hk, h⟩ := bnd h
  refine aw_iload_n 1 d_M_seed_0 rfl rfl ?_
  refine aw_i2l 2 d_M_seed_1 rfl ?_
  refine aw_lconst (v := (0 : Int64)) 3 d_M_seed_2 rfl (by decide) ?_
  refine aw_ldc2 (v := (65535 : Int64)) 6 d_M_seed_3 rfl c_M_291 ?_
  obtain ⟨y6, h6, h⟩ := bnd h
  refine aw_invS (rest := []) (st' := [.int y6]) (As := [.long x1.toInt64, .long (0 : Int64), .long (65535 : Int64)]) 9 d_M_seed_6 rfl ls_M_145 (m_M_lies h6) (by decide) rfl rfl (Nat.le_of_ble_eq_true rfl) rfl ?_
  refine aw_if_ne 14 12 d_M_seed_9 (by decide) rfl (fun c9 => ?_) (fun c9 => ?_)
  · have h := (if_neg c9).symm.trans h
    refine aw_aload_n 15 d_M_seed_14 rfl rfl ?_
    refine aw_iload_n 16 d_M_seed_15 rfl rfl ?_
    obtain ⟨μ16, h16, h⟩ := bnd h
    refine aw_putI 19 false d_M_seed_16 rfl fp_M_52 (fun z => nomatch z) rfl h16 ?_
    refine aw_iconst (v := (1 : Int32)) 20 d_M_seed_19 rfl (by decide) ?_
    cases h
    exact aw_ireturn d_M_seed_20 rfl nar1
  · have h := (if_pos c9).symm.trans h
    refine aw_iconst (v := (0 : Int32)) 13 d_M_seed_12 rfl (by decide) ?_
    cases h
    exact aw_ireturn d_M_seed_13 rfl nar0
theorem k_M_seed {q : Int32 × MM} {a0 : Nat} {x1 : Int32} {μ : MM} (h : f_M_seed a0 x1 μ = some q) : μ.1[a0]? = some (0, 1) := by
  unfold f_M_seed at h
  obtain ⟨_, h1, _⟩ := bnd h
  exact kO_some h1
theorem m_X_blown {l : Launch} {q : Int32 × MM} {a0 : Nat} {x1 : Int32} {μ : MM} (h : f_X_blown a0 x1 μ = some q) : AMet l 2 Y_X_blown [.ref a0, .int x1] μ (some (.int q.1)) q.2 := by
  refine AMet.of (loc := [some (.ref a0), some (.int x1)]) pn_X_blown (Nat.le_of_ble_eq_true rfl) rfl ?_
  unfold f_X_blown at h
  obtain ⟨_, hk, h⟩ := bnd h
  refine aw_iload_n 1 d_X_blown_0 rfl rfl ?_
  refine aw_ldc (v := (-200000 : Int32)) 3 d_X_blown_1 rfl c_X_190 ?_
  refine aw_icmp_lt 12 6 d_X_blown_3 (by decide) rfl (fun c3 => ?_) (fun c3 => ?_)
  · have h := (if_pos c3).symm.trans h
    refine aw_iconst (v := (0 : Int32)) 13 d_X_blown_12 rfl (by decide) ?_
    cases h
    exact aw_ireturn d_X_blown_13 rfl nar0
  · have h := (if_neg c3).symm.trans h
    refine aw_iload_n 7 d_X_blown_6 rfl rfl ?_
    refine aw_ldc (v := (200000 : Int32)) 9 d_X_blown_7 rfl c_X_191 ?_
    refine aw_icmp_le 14 12 d_X_blown_9 (by decide) rfl (fun c9 => ?_) (fun c9 => ?_)
    · have h := (if_pos c9).symm.trans h
      refine aw_aload_n 15 d_X_blown_14 rfl rfl ?_
      obtain ⟨y15, h15, h⟩ := bnd h
      refine aw_getR 18 d_X_blown_15 rfl fg_X_21 rfl h15 ?_
      refine aw_iload_n 19 d_X_blown_18 rfl rfl ?_
      obtain ⟨μ19, h19, h⟩ := bnd h
      refine aw_putI 22 false d_X_blown_19 rfl fp_X_192 (fun z => nomatch z) rfl h19 ?_
      refine aw_aload_n 23 d_X_blown_22 rfl rfl ?_
      obtain ⟨q23, h23, h⟩ := bnd h
      refine aw_invV (rest := []) (st' := [.int q23.1]) (As := []) 26 d_X_blown_23 rfl lv_X_88 (m_X_changed h23) (by decide) (k_X_changed h23) rfl rfl rfl (Nat.le_of_ble_eq_true rfl) rfl ?_
      obtain ⟨y26, h26, h⟩ := bnd h
      obtain ⟨e26, n26⟩ := rz_some h26
      rw [e26] at h
      cases h
      exact aw_ireturn d_X_blown_26 rfl n26
    · have h := (if_neg c9).symm.trans h
      refine aw_iconst (v := (0 : Int32)) 13 d_X_blown_12 rfl (by decide) ?_
      cases h
      exact aw_ireturn d_X_blown_13 rfl nar0
theorem k_X_blown {q : Int32 × MM} {a0 : Nat} {x1 : Int32} {μ : MM} (h : f_X_blown a0 x1 μ = some q) : μ.1[a0]? = some (0, 0) := by
  unfold f_X_blown at h
  obtain ⟨_, h1, _⟩ := bnd h
  exact kO_some h1
theorem m_M_blown {l : Launch} {q : Int32 × MM} {a0 : Nat} {x1 : Int32} {μ : MM} (h : f_M_blown a0 x1 μ = some q) : AMet l 2 Y_M_blown [.ref a0, .int x1] μ (some (.int q.1)) q.2 := by
  refine AMet.of (loc := [some (.ref a0), some (.int x1)]) pn_M_blown (Nat.le_of_ble_eq_true rfl) rfl ?_
  unfold f_M_blown at h
  obtain ⟨_, hk, h⟩ := bnd h
  refine aw_iload_n 1 d_M_blown_0 rfl rfl ?_
  refine aw_i2l 2 d_M_blown_1 rfl ?_
  refine aw_ldc2 (v := (-200000 : Int64)) 5 d_M_blown_2 rfl c_M_293 ?_
  refine aw_ldc2 (v := (200000 : Int64)) 8 d_M_blown_5 rfl c_M_295 ?_
  obtain ⟨y8, h8, h⟩ := bnd h
  refine aw_invS (rest := []) (st' := [.int y8]) (As := [.long x1.toInt64, .long (-200000 : Int64), .long (200000 : Int64)]) 11 d_M_blown_8 rfl ls_M_145 (m_M_lies h8) (by decide) rfl rfl (Nat.le_of_ble_eq_true rfl) rfl ?_
  refine aw_if_ne 16 14 d_M_blown_11 (by decide) rfl (fun c11 => ?_) (fun c11 => ?_)
  · have h := (if_neg c11).symm.trans h
    refine aw_aload_n 17 d_M_blown_16 rfl rfl ?_
    refine aw_iload_n 18 d_M_blown_17 rfl rfl ?_
    obtain ⟨μ18, h18, h⟩ := bnd h
    refine aw_putI 21 false d_M_blown_18 rfl fp_M_297 (fun z => nomatch z) rfl h18 ?_
    refine aw_iconst (v := (1 : Int32)) 22 d_M_blown_21 rfl (by decide) ?_
    cases h
    exact aw_ireturn d_M_blown_22 rfl nar1
  · have h := (if_pos c11).symm.trans h
    refine aw_iconst (v := (0 : Int32)) 15 d_M_blown_14 rfl (by decide) ?_
    cases h
    exact aw_ireturn d_M_blown_15 rfl nar0
theorem k_M_blown {q : Int32 × MM} {a0 : Nat} {x1 : Int32} {μ : MM} (h : f_M_blown a0 x1 μ = some q) : μ.1[a0]? = some (0, 1) := by
  unfold f_M_blown at h
  obtain ⟨_, h1, _⟩ := bnd h
  exact kO_some h1
theorem m_X_given {l : Launch} {q : Int32 × MM} {a0 : Nat} {x1 : Int32} {μ : MM} (h : f_X_given a0 x1 μ = some q) : AMet l 2 Y_X_given [.ref a0, .int x1] μ (some (.int q.1)) q.2 := by
  refine AMet.of (loc := [some (.ref a0), some (.int x1)]) pn_X_given (Nat.le_of_ble_eq_true rfl) rfl ?_
  unfold f_X_given at h
  obtain ⟨_, hk, h⟩ := bnd h
  refine aw_iload_n 1 d_X_given_0 rfl rfl ?_
  refine aw_if_lt 10 4 d_X_given_1 (by decide) rfl (fun c1 => ?_) (fun c1 => ?_)
  · have h := (if_pos c1).symm.trans h
    refine aw_iconst (v := (0 : Int32)) 11 d_X_given_10 rfl (by decide) ?_
    cases h
    exact aw_ireturn d_X_given_11 rfl nar0
  · have h := (if_neg c1).symm.trans h
    refine aw_iload_n 5 d_X_given_4 rfl rfl ?_
    refine aw_ldc (v := (16777216 : Int32)) 7 d_X_given_5 rfl c_X_195 ?_
    refine aw_icmp_lt 12 10 d_X_given_7 (by decide) rfl (fun c7 => ?_) (fun c7 => ?_)
    · have h := (if_pos c7).symm.trans h
      refine aw_aload_n 13 d_X_given_12 rfl rfl ?_
      obtain ⟨y13, h13, h⟩ := bnd h
      refine aw_getR 16 d_X_given_13 rfl fg_X_21 rfl h13 ?_
      refine aw_iload_n 17 d_X_given_16 rfl rfl ?_
      obtain ⟨μ17, h17, h⟩ := bnd h
      refine aw_putI 20 false d_X_given_17 rfl fp_X_196 (fun z => nomatch z) rfl h17 ?_
      refine aw_aload_n 21 d_X_given_20 rfl rfl ?_
      obtain ⟨q21, h21, h⟩ := bnd h
      refine aw_invV (rest := []) (st' := [.int q21.1]) (As := []) 24 d_X_given_21 rfl lv_X_88 (m_X_changed h21) (by decide) (k_X_changed h21) rfl rfl rfl (Nat.le_of_ble_eq_true rfl) rfl ?_
      obtain ⟨y24, h24, h⟩ := bnd h
      obtain ⟨e24, n24⟩ := rz_some h24
      rw [e24] at h
      cases h
      exact aw_ireturn d_X_given_24 rfl n24
    · have h := (if_neg c7).symm.trans h
      refine aw_iconst (v := (0 : Int32)) 11 d_X_given_10 rfl (by decide) ?_
      cases h
      exact aw_ireturn d_X_given_11 rfl nar0
theorem k_X_given {q : Int32 × MM} {a0 : Nat} {x1 : Int32} {μ : MM} (h : f_X_given a0 x1 μ = some q) : μ.1[a0]? = some (0, 0) := by
  unfold f_X_given at h
  obtain ⟨_, h1, _⟩ := bnd h
  exact kO_some h1
theorem m_M_given {l : Launch} {q : Int32 × MM} {a0 : Nat} {x1 : Int32} {μ : MM} (h : f_M_given a0 x1 μ = some q) : AMet l 2 Y_M_given [.ref a0, .int x1] μ (some (.int q.1)) q.2 := by
  refine AMet.of (loc := [some (.ref a0), some (.int x1)]) pn_M_given (Nat.le_of_ble_eq_true rfl) rfl ?_
  unfold f_M_given at h
  obtain ⟨_, hk, h⟩ := bnd h
  refine aw_iload_n 1 d_M_given_0 rfl rfl ?_
  refine aw_i2l 2 d_M_given_1 rfl ?_
  refine aw_lconst (v := (0 : Int64)) 3 d_M_given_2 rfl (by decide) ?_
  refine aw_ldc2 (v := (16777215 : Int64)) 6 d_M_given_3 rfl c_M_300 ?_
  obtain ⟨y6, h6, h⟩ := bnd h
  refine aw_invS (rest := []) (st' := [.int y6]) (As := [.long x1.toInt64, .long (0 : Int64), .long (16777215 : Int64)]) 9 d_M_given_6 rfl ls_M_145 (m_M_lies h6) (by decide) rfl rfl (Nat.le_of_ble_eq_true rfl) rfl ?_
  refine aw_if_ne 14 12 d_M_given_9 (by decide) rfl (fun c9 => ?_) (fun c9 => ?_)
  · have h := (if_neg c9).symm.trans h
    refine aw_aload_n 15 d_M_given_14 rfl rfl ?_
    refine aw_iload_n 16 d_M_given_15 rfl rfl ?_
    obtain ⟨μ16, h16, h⟩ := bnd h
    refine aw_putI 19 false d_M_given_16 rfl fp_M_302 (fun z => nomatch z) rfl h16 ?_
    refine aw_iconst (v := (1 : Int32)) 20 d_M_given_19 rfl (by decide) ?_
    cases h
    exact aw_ireturn d_M_given_20 rfl nar1
  · have h := (if_pos c9).symm.trans h
    refine aw_iconst (v := (0 : Int32)) 13 d_M_given_12 rfl (by decide) ?_
    cases h
    exact aw_ireturn d_M_given_13 rfl nar0
theorem k_M_given {q : Int32 × MM} {a0 : Nat} {x1 : Int32} {μ : MM} (h : f_M_given a0 x1 μ = some q) : μ.1[a0]? = some (0, 1) := by
  unfold f_M_given at h
  obtain ⟨_, h1, _⟩ := bnd h
  exact kO_some h1
theorem m_Rl_hasRoom {l : Launch} {q : Int32} {a0 : Nat} {μ : MM} (h : f_Rl_hasRoom a0 μ = some q) : AMet l 1 Y_Rl_hasRoom [.ref a0] μ (some (.int q)) μ := by
  refine AMet.of (loc := [some (.ref a0)]) pn_Rl_hasRoom (Nat.le_of_ble_eq_true rfl) rfl ?_
  unfold f_Rl_hasRoom at h
  obtain ⟨_, hk, h⟩ := bnd h
  refine aw_aload_n 1 d_Rl_hasRoom_0 rfl rfl ?_
  obtain ⟨y1, h1, h⟩ := bnd h
  refine aw_getI 4 d_Rl_hasRoom_1 rfl fg_Rl_13 (Or.inl rfl) h1 ?_
  refine aw_sipush (v := (200 : Int32)) 7 d_Rl_hasRoom_4 rfl (by decide) ?_
  refine aw_icmp_gt 14 10 d_Rl_hasRoom_7 (by decide) rfl (fun c7 => ?_) (fun c7 => ?_)
  · have h := (if_pos c7).symm.trans h
    refine aw_iconst (v := (0 : Int32)) 15 d_Rl_hasRoom_14 rfl (by decide) ?_
    cases h
    exact aw_ireturn d_Rl_hasRoom_15 rfl nar0
  · have h := (if_neg c7).symm.trans h
    refine aw_iconst (v := (1 : Int32)) 11 d_Rl_hasRoom_10 rfl (by decide) ?_
    refine aw_goto 15 d_Rl_hasRoom_11 (by decide) ?_
    cases h
    exact aw_ireturn d_Rl_hasRoom_15 rfl nar1
theorem k_Rl_hasRoom {q : Int32} {a0 : Nat} {μ : MM} (h : f_Rl_hasRoom a0 μ = some q) : μ.1[a0]? = some (0, 7) := by
  unfold f_Rl_hasRoom at h
  obtain ⟨_, h1, _⟩ := bnd h
  exact kO_some h1
theorem l_Rl_add_3 {l : Launch} {μ0 : MM} {q : MM} {a0 : Nat} {x1 : Int32} : ∀ (n : Nat) (x2 : Int32) (μ : MM), f_Rl_add_L3 a0 x1 n x2 μ = some q → AWm l Y_Rl_add 1 μ0 none q 3 [some (.ref a0), some (.int x1), some (.int x2)] [] μ := by
  intro n
  induction n with
  | zero =>
    intro x2 μ h
    have h : (none : Option (MM)) = some q := h
    cases h
  | succ n ih =>
    intro x2 μ h
    rw [f_Rl_add_L3] at h
    refine aw_iload_n 4 d_Rl_add_3 rfl rfl ?_
    refine aw_if_lt 49 7 d_Rl_add_4 (by decide) rfl (fun c4 => ?_) (fun c4 => ?_)
    · have h := (if_pos c4).symm.trans h
      cases h
      exact aw_return d_Rl_add_49 rfl
    · have h := (if_neg c4).symm.trans h
      refine aw_aload_n 8 d_Rl_add_7 rfl rfl ?_
      obtain ⟨y8, h8, h⟩ := bnd h
      refine aw_getI 11 d_Rl_add_8 rfl fg_Rl_13 (Or.inl rfl) h8 ?_
      refine aw_sipush (v := (220 : Int32)) 14 d_Rl_add_11 rfl (by decide) ?_
      refine aw_icmp_ge 49 17 d_Rl_add_14 (by decide) rfl (fun c14 => ?_) (fun c14 => ?_)
      · have h := (if_pos c14).symm.trans h
        cases h
        exact aw_return d_Rl_add_49 rfl
      · have h := (if_neg c14).symm.trans h
        refine aw_aload_n 18 d_Rl_add_17 rfl rfl ?_
        obtain ⟨y18, h18, h⟩ := bnd h
        refine aw_getR 21 d_Rl_add_18 rfl fg_Rl_9 rfl h18 ?_
        refine aw_aload_n 22 d_Rl_add_21 rfl rfl ?_
        obtain ⟨y22, h22, h⟩ := bnd h
        refine aw_getI 25 d_Rl_add_22 rfl fg_Rl_13 (Or.inl rfl) h22 ?_
        refine aw_iload_n 26 d_Rl_add_25 rfl rfl ?_
        refine aw_iload_n 27 d_Rl_add_26 rfl rfl ?_
        refine aw_ishr 28 d_Rl_add_27 rfl ?_
        refine aw_sipush (v := (255 : Int32)) 31 d_Rl_add_28 rfl (by decide) ?_
        refine aw_iand 32 d_Rl_add_31 rfl ?_
        obtain ⟨μ32, h32, h⟩ := bnd h
        refine aw_iast 33 d_Rl_add_32 rfl h32 ?_
        refine aw_aload_n 34 d_Rl_add_33 rfl rfl ?_
        refine aw_dup 35 d_Rl_add_34 rfl rfl ?_
        obtain ⟨y35, h35, h⟩ := bnd h
        refine aw_getI 38 d_Rl_add_35 rfl fg_Rl_13 (Or.inl rfl) h35 ?_
        refine aw_iconst (v := (1 : Int32)) 39 d_Rl_add_38 rfl (by decide) ?_
        refine aw_iadd 40 d_Rl_add_39 rfl ?_
        obtain ⟨μ40, h40, h⟩ := bnd h
        refine aw_putI 43 false d_Rl_add_40 rfl fp_Rl_13 (fun z => nomatch z) rfl h40 ?_
        refine aw_iinc (v := (x2 + (-8 : Int32))) (loc' := [some (.ref a0), some (.int x1), some (.int (x2 + (-8 : Int32)))]) 46 d_Rl_add_43 rfl (by decide) rfl rfl rfl ?_
        refine aw_goto 3 d_Rl_add_46 (by decide) ?_
        exact (ih (x2 + (-8 : Int32)) μ40 h)
theorem m_Rl_add {l : Launch} {q : MM} {a0 : Nat} {x1 : Int32} {μ : MM} (h : f_Rl_add a0 x1 μ = some q) : AMet l 1 Y_Rl_add [.ref a0, .int x1] μ none q := by
  refine AMet.of (loc := [some (.ref a0), some (.int x1), none]) pn_Rl_add (Nat.le_of_ble_eq_true rfl) rfl ?_
  unfold f_Rl_add at h
  obtain ⟨_, hk, h⟩ := bnd h
  refine aw_bipush (v := (24 : Int32)) 2 d_Rl_add_0 rfl (by decide) ?_
  refine aw_istore_n (loc' := [some (.ref a0), some (.int x1), some (.int (24 : Int32))]) 3 d_Rl_add_2 rfl (by decide) rfl ?_
  exact (l_Rl_add_3 FU _ _ h)
theorem k_Rl_add {q : MM} {a0 : Nat} {x1 : Int32} {μ : MM} (h : f_Rl_add a0 x1 μ = some q) : μ.1[a0]? = some (0, 7) := by
  unfold f_Rl_add at h
  obtain ⟨_, h1, _⟩ := bnd h
  exact kO_some h1
theorem m_X_feed {l : Launch} {q : Int32 × MM} {a0 : Nat} {x1 : Int32} {x2 : Int32} {x3 : Int32} {x4 : Int32} {x5 : Int32} {μ : MM} (h : f_X_feed a0 x1 x2 x3 x4 x5 μ = some q) : AMet l 2 Y_X_feed [.ref a0, .int x1, .int x2, .int x3, .int x4, .int x5] μ (some (.int q.1)) q.2 := by
  refine AMet.of (loc := [some (.ref a0), some (.int x1), some (.int x2), some (.int x3), some (.int x4), some (.int x5)]) pn_X_feed (Nat.le_of_ble_eq_true rfl) rfl ?_
  unfold f_X_feed at h
  obtain ⟨_, hk, h⟩ := bnd h
  refine aw_aload_n 1 d_X_feed_0 rfl rfl ?_
  obtain ⟨y1, h1, h⟩ := bnd h
  refine aw_getR 4 d_X_feed_1 rfl fg_X_62 rfl h1 ?_
  obtain ⟨y4, h4, h⟩ := bnd h
  refine aw_invV (rest := []) (st' := [.int y4]) (As := []) 7 d_X_feed_4 rfl lv_X_199 (m_Rl_hasRoom h4) (by decide) (k_Rl_hasRoom h4) rfl rfl rfl (Nat.le_of_ble_eq_true rfl) rfl ?_
  refine aw_if_ne 12 10 d_X_feed_7 (by decide) rfl (fun c7 => ?_) (fun c7 => ?_)
  · have h := (if_neg c7).symm.trans h
    refine aw_aload_n 13 d_X_feed_12 rfl rfl ?_
    obtain ⟨y13, h13, h⟩ := bnd h
    refine aw_getR 16 d_X_feed_13 rfl fg_X_62 rfl h13 ?_
    refine aw_iload_n 17 d_X_feed_16 rfl rfl ?_
    obtain ⟨μ17, h17, h⟩ := bnd h
    refine aw_invV (rest := []) (st' := []) (As := [.int x1]) 20 d_X_feed_17 rfl lv_X_202 (m_Rl_add h17) (by decide) (k_Rl_add h17) rfl rfl rfl (Nat.le_of_ble_eq_true rfl) rfl ?_
    refine aw_aload_n 21 d_X_feed_20 rfl rfl ?_
    obtain ⟨y21, h21, h⟩ := bnd h
    refine aw_getR 24 d_X_feed_21 rfl fg_X_62 rfl h21 ?_
    refine aw_iload_n 25 d_X_feed_24 rfl rfl ?_
    obtain ⟨μ25, h25, h⟩ := bnd h
    refine aw_invV (rest := []) (st' := []) (As := [.int x2]) 28 d_X_feed_25 rfl lv_X_202 (m_Rl_add h25) (by decide) (k_Rl_add h25) rfl rfl rfl (Nat.le_of_ble_eq_true rfl) rfl ?_
    refine aw_aload_n 29 d_X_feed_28 rfl rfl ?_
    obtain ⟨y29, h29, h⟩ := bnd h
    refine aw_getR 32 d_X_feed_29 rfl fg_X_62 rfl h29 ?_
    refine aw_iload_n 33 d_X_feed_32 rfl rfl ?_
    obtain ⟨μ33, h33, h⟩ := bnd h
    refine aw_invV (rest := []) (st' := []) (As := [.int x3]) 36 d_X_feed_33 rfl lv_X_202 (m_Rl_add h33) (by decide) (k_Rl_add h33) rfl rfl rfl (Nat.le_of_ble_eq_true rfl) rfl ?_
    refine aw_aload_n 37 d_X_feed_36 rfl rfl ?_
    obtain ⟨y37, h37, h⟩ := bnd h
    refine aw_getR 40 d_X_feed_37 rfl fg_X_62 rfl h37 ?_
    refine aw_iload 42 d_X_feed_40 rfl rfl ?_
    obtain ⟨μ42, h42, h⟩ := bnd h
    refine aw_invV (rest := []) (st' := []) (As := [.int x4]) 45 d_X_feed_42 rfl lv_X_202 (m_Rl_add h42) (by decide) (k_Rl_add h42) rfl rfl rfl (Nat.le_of_ble_eq_true rfl) rfl ?_
    refine aw_aload_n 46 d_X_feed_45 rfl rfl ?_
    obtain ⟨y46, h46, h⟩ := bnd h
    refine aw_getR 49 d_X_feed_46 rfl fg_X_62 rfl h46 ?_
    refine aw_iload 51 d_X_feed_49 rfl rfl ?_
    obtain ⟨μ51, h51, h⟩ := bnd h
    refine aw_invV (rest := []) (st' := []) (As := [.int x5]) 54 d_X_feed_51 rfl lv_X_202 (m_Rl_add h51) (by decide) (k_Rl_add h51) rfl rfl rfl (Nat.le_of_ble_eq_true rfl) rfl ?_
    refine aw_aload_n 55 d_X_feed_54 rfl rfl ?_
    obtain ⟨y55, h55, h⟩ := bnd h
    refine aw_getR 58 d_X_feed_55 rfl fg_X_62 rfl h55 ?_
    obtain ⟨y58, h58, h⟩ := bnd h
    refine aw_getI 61 d_X_feed_58 rfl fg_X_206 (Or.inl rfl) h58 ?_
    cases h
    exact aw_ireturn d_X_feed_61 rfl rfl
  · have h := (if_pos c7).symm.trans h
    refine aw_iconst (v := (-1 : Int32)) 11 d_X_feed_10 rfl (by decide) ?_
    cases h
    exact aw_ireturn d_X_feed_11 rfl rfl
theorem k_X_feed {q : Int32 × MM} {a0 : Nat} {x1 : Int32} {x2 : Int32} {x3 : Int32} {x4 : Int32} {x5 : Int32} {μ : MM} (h : f_X_feed a0 x1 x2 x3 x4 x5 μ = some q) : μ.1[a0]? = some (0, 0) := by
  unfold f_X_feed at h
  obtain ⟨_, h1, _⟩ := bnd h
  exact kO_some h1
theorem l_M_push_3 {l : Launch} {μ0 : MM} {q : MM} {a0 : Nat} {x1 : Int32} : ∀ (n : Nat) (x2 : Int32) (μ : MM), f_M_push_L3 a0 x1 n x2 μ = some q → AWm l Y_M_push 1 μ0 none q 3 [some (.ref a0), some (.int x1), some (.int x2)] [] μ := by
  intro n
  induction n with
  | zero =>
    intro x2 μ h
    have h : (none : Option (MM)) = some q := h
    cases h
  | succ n ih =>
    intro x2 μ h
    rw [f_M_push_L3] at h
    refine aw_iload_n 4 d_M_push_3 rfl rfl ?_
    refine aw_if_lt 36 7 d_M_push_4 (by decide) rfl (fun c4 => ?_) (fun c4 => ?_)
    · have h := (if_pos c4).symm.trans h
      cases h
      exact aw_return d_M_push_36 rfl
    · have h := (if_neg c4).symm.trans h
      refine aw_aload_n 8 d_M_push_7 rfl rfl ?_
      obtain ⟨y8, h8, h⟩ := bnd h
      refine aw_getR 11 d_M_push_8 rfl fg_M_7 rfl h8 ?_
      refine aw_aload_n 12 d_M_push_11 rfl rfl ?_
      obtain ⟨y12, h12, h⟩ := bnd h
      refine aw_getI 15 d_M_push_12 rfl fg_M_305 (Or.inl rfl) h12 ?_
      refine aw_iload_n 16 d_M_push_15 rfl rfl ?_
      refine aw_iload_n 17 d_M_push_16 rfl rfl ?_
      refine aw_ishr 18 d_M_push_17 rfl ?_
      refine aw_i2b 19 d_M_push_18 rfl ?_
      obtain ⟨μ19, h19, h⟩ := bnd h
      refine aw_bast 20 d_M_push_19 rfl h19 ?_
      refine aw_aload_n 21 d_M_push_20 rfl rfl ?_
      refine aw_dup 22 d_M_push_21 rfl rfl ?_
      obtain ⟨y22, h22, h⟩ := bnd h
      refine aw_getI 25 d_M_push_22 rfl fg_M_305 (Or.inl rfl) h22 ?_
      refine aw_iconst (v := (1 : Int32)) 26 d_M_push_25 rfl (by decide) ?_
      refine aw_iadd 27 d_M_push_26 rfl ?_
      obtain ⟨μ27, h27, h⟩ := bnd h
      refine aw_putI 30 false d_M_push_27 rfl fp_M_305 (fun z => nomatch z) rfl h27 ?_
      refine aw_iinc (v := (x2 + (-8 : Int32))) (loc' := [some (.ref a0), some (.int x1), some (.int (x2 + (-8 : Int32)))]) 33 d_M_push_30 rfl (by decide) rfl rfl rfl ?_
      refine aw_goto 3 d_M_push_33 (by decide) ?_
      exact (ih (x2 + (-8 : Int32)) μ27 h)
theorem m_M_push {l : Launch} {q : MM} {a0 : Nat} {x1 : Int32} {μ : MM} (h : f_M_push a0 x1 μ = some q) : AMet l 1 Y_M_push [.ref a0, .int x1] μ none q := by
  refine AMet.of (loc := [some (.ref a0), some (.int x1), none]) pn_M_push (Nat.le_of_ble_eq_true rfl) rfl ?_
  unfold f_M_push at h
  obtain ⟨_, hk, h⟩ := bnd h
  refine aw_bipush (v := (24 : Int32)) 2 d_M_push_0 rfl (by decide) ?_
  refine aw_istore_n (loc' := [some (.ref a0), some (.int x1), some (.int (24 : Int32))]) 3 d_M_push_2 rfl (by decide) rfl ?_
  exact (l_M_push_3 FU _ _ h)
theorem k_M_push {q : MM} {a0 : Nat} {x1 : Int32} {μ : MM} (h : f_M_push a0 x1 μ = some q) : μ.1[a0]? = some (0, 1) := by
  unfold f_M_push at h
  obtain ⟨_, h1, _⟩ := bnd h
  exact kO_some h1
theorem m_M_feed {l : Launch} {q : Int32 × MM} {a0 : Nat} {x1 : Int32} {x2 : Int32} {x3 : Int32} {x4 : Int32} {x5 : Int32} {μ : MM} (h : f_M_feed a0 x1 x2 x3 x4 x5 μ = some q) : AMet l 2 Y_M_feed [.ref a0, .int x1, .int x2, .int x3, .int x4, .int x5] μ (some (.int q.1)) q.2 := by
  refine AMet.of (loc := [some (.ref a0), some (.int x1), some (.int x2), some (.int x3), some (.int x4), some (.int x5)]) pn_M_feed (Nat.le_of_ble_eq_true rfl) rfl ?_
  unfold f_M_feed at h
  obtain ⟨_, hk, h⟩ := bnd h
  refine aw_aload_n 1 d_M_feed_0 rfl rfl ?_
  obtain ⟨y1, h1, h⟩ := bnd h
  refine aw_getI 4 d_M_feed_1 rfl fg_M_305 (Or.inl rfl) h1 ?_
  refine aw_bipush (v := (20 : Int32)) 6 d_M_feed_4 rfl (by decide) ?_
  refine aw_iadd 7 d_M_feed_6 rfl ?_
  refine aw_sipush (v := (220 : Int32)) 10 d_M_feed_7 rfl (by decide) ?_
  refine aw_icmp_le 15 13 d_M_feed_10 (by decide) rfl (fun c10 => ?_) (fun c10 => ?_)
  · have h := (if_pos c10).symm.trans h
    refine aw_aload_n 16 d_M_feed_15 rfl rfl ?_
    refine aw_iload_n 17 d_M_feed_16 rfl rfl ?_
    obtain ⟨μ17, h17, h⟩ := bnd h
    refine aw_invV (rest := []) (st' := []) (As := [.int x1]) 20 d_M_feed_17 rfl lv_M_308 (m_M_push h17) (by decide) (k_M_push h17) rfl rfl rfl (Nat.le_of_ble_eq_true rfl) rfl ?_
    refine aw_aload_n 21 d_M_feed_20 rfl rfl ?_
    refine aw_iload_n 22 d_M_feed_21 rfl rfl ?_
    obtain ⟨μ22, h22, h⟩ := bnd h
    refine aw_invV (rest := []) (st' := []) (As := [.int x2]) 25 d_M_feed_22 rfl lv_M_308 (m_M_push h22) (by decide) (k_M_push h22) rfl rfl rfl (Nat.le_of_ble_eq_true rfl) rfl ?_
    refine aw_aload_n 26 d_M_feed_25 rfl rfl ?_
    refine aw_iload_n 27 d_M_feed_26 rfl rfl ?_
    obtain ⟨μ27, h27, h⟩ := bnd h
    refine aw_invV (rest := []) (st' := []) (As := [.int x3]) 30 d_M_feed_27 rfl lv_M_308 (m_M_push h27) (by decide) (k_M_push h27) rfl rfl rfl (Nat.le_of_ble_eq_true rfl) rfl ?_
    refine aw_aload_n 31 d_M_feed_30 rfl rfl ?_
    refine aw_iload 33 d_M_feed_31 rfl rfl ?_
    obtain ⟨μ33, h33, h⟩ := bnd h
    refine aw_invV (rest := []) (st' := []) (As := [.int x4]) 36 d_M_feed_33 rfl lv_M_308 (m_M_push h33) (by decide) (k_M_push h33) rfl rfl rfl (Nat.le_of_ble_eq_true rfl) rfl ?_
    refine aw_aload_n 37 d_M_feed_36 rfl rfl ?_
    refine aw_iload 39 d_M_feed_37 rfl rfl ?_
    obtain ⟨μ39, h39, h⟩ := bnd h
    refine aw_invV (rest := []) (st' := []) (As := [.int x5]) 42 d_M_feed_39 rfl lv_M_308 (m_M_push h39) (by decide) (k_M_push h39) rfl rfl rfl (Nat.le_of_ble_eq_true rfl) rfl ?_
    refine aw_aload_n 43 d_M_feed_42 rfl rfl ?_
    obtain ⟨y43, h43, h⟩ := bnd h
    refine aw_getI 46 d_M_feed_43 rfl fg_M_305 (Or.inl rfl) h43 ?_
    cases h
    exact aw_ireturn d_M_feed_46 rfl rfl
  · have h := (if_neg c10).symm.trans h
    refine aw_iconst (v := (-1 : Int32)) 14 d_M_feed_13 rfl (by decide) ?_
    cases h
    exact aw_ireturn d_M_feed_14 rfl rfl
theorem k_M_feed {q : Int32 × MM} {a0 : Nat} {x1 : Int32} {x2 : Int32} {x3 : Int32} {x4 : Int32} {x5 : Int32} {μ : MM} (h : f_M_feed a0 x1 x2 x3 x4 x5 μ = some q) : μ.1[a0]? = some (0, 1) := by
  unfold f_M_feed at h
  obtain ⟨_, h1, _⟩ := bnd h
  exact kO_some h1
theorem m_Pr_clear {l : Launch} {q : MM} {a0 : Nat} {μ : MM} (h : f_Pr_clear a0 μ = some q) : AMet l 1 Y_Pr_clear [.ref a0] μ none q := by
  refine AMet.of (loc := [some (.ref a0)]) pn_Pr_clear (Nat.le_of_ble_eq_true rfl) rfl ?_
  unfold f_Pr_clear at h
  obtain ⟨_, hk, h⟩ := bnd h
  refine aw_aload_n 1 d_Pr_clear_0 rfl rfl ?_
  refine aw_iconst (v := (0 : Int32)) 2 d_Pr_clear_1 rfl (by decide) ?_
  obtain ⟨μ2, h2, h⟩ := bnd h
  refine aw_putI 5 false d_Pr_clear_2 rfl fp_Pr_32 (fun z => nomatch z) rfl h2 ?_
  refine aw_aload_n 6 d_Pr_clear_5 rfl rfl ?_
  refine aw_iconst (v := (0 : Int32)) 7 d_Pr_clear_6 rfl (by decide) ?_
  obtain ⟨μ7, h7, h⟩ := bnd h
  refine aw_putI 10 false d_Pr_clear_7 rfl fp_Pr_36 (fun z => nomatch z) rfl h7 ?_
  cases h
  exact aw_return d_Pr_clear_10 rfl
theorem k_Pr_clear {q : MM} {a0 : Nat} {μ : MM} (h : f_Pr_clear a0 μ = some q) : μ.1[a0]? = some (0, 5) := by
  unfold f_Pr_clear at h
  obtain ⟨_, h1, _⟩ := bnd h
  exact kO_some h1
theorem m_Re_here {l : Launch} {q : Int32} {a0 : Nat} {μ : MM} (h : f_Re_here a0 μ = some q) : AMet l 1 Y_Re_here [.ref a0] μ (some (.int q)) μ := by
  refine AMet.of (loc := [some (.ref a0)]) pn_Re_here (Nat.le_of_ble_eq_true rfl) rfl ?_
  unfold f_Re_here at h
  obtain ⟨_, hk, h⟩ := bnd h
  refine aw_aload_n 1 d_Re_here_0 rfl rfl ?_
  obtain ⟨y1, h1, h⟩ := bnd h
  refine aw_getI 4 d_Re_here_1 rfl fg_Re_44 (Or.inl rfl) h1 ?_
  refine aw_if_ne 30 7 d_Re_here_4 (by decide) rfl (fun c4 => ?_) (fun c4 => ?_)
  · have h := (if_neg c4).symm.trans h
    refine aw_iconst (v := (-1 : Int32)) 31 d_Re_here_30 rfl (by decide) ?_
    cases h
    exact aw_ireturn d_Re_here_31 rfl rfl
  · have h := (if_pos c4).symm.trans h
    refine aw_aload_n 8 d_Re_here_7 rfl rfl ?_
    obtain ⟨y8, h8, h⟩ := bnd h
    refine aw_getI 11 d_Re_here_8 rfl fg_Re_41 (Or.inl rfl) h8 ?_
    refine aw_aload_n 12 d_Re_here_11 rfl rfl ?_
    obtain ⟨y12, h12, h⟩ := bnd h
    refine aw_getI 15 d_Re_here_12 rfl fg_Re_28 (Or.inl rfl) h12 ?_
    refine aw_icmp_ge 30 18 d_Re_here_15 (by decide) rfl (fun c15 => ?_) (fun c15 => ?_)
    · have h := (if_pos c15).symm.trans h
      refine aw_iconst (v := (-1 : Int32)) 31 d_Re_here_30 rfl (by decide) ?_
      cases h
      exact aw_ireturn d_Re_here_31 rfl rfl
    · have h := (if_neg c15).symm.trans h
      refine aw_aload_n 19 d_Re_here_18 rfl rfl ?_
      obtain ⟨y19, h19, h⟩ := bnd h
      refine aw_getR 22 d_Re_here_19 rfl fg_Re_11 rfl h19 ?_
      refine aw_aload_n 23 d_Re_here_22 rfl rfl ?_
      obtain ⟨y23, h23, h⟩ := bnd h
      refine aw_getI 26 d_Re_here_23 rfl fg_Re_41 (Or.inl rfl) h23 ?_
      obtain ⟨y26, h26, h⟩ := bnd h
      refine aw_iald 27 d_Re_here_26 rfl h26 ?_
      refine aw_goto 31 d_Re_here_27 (by decide) ?_
      cases h
      exact aw_ireturn d_Re_here_31 rfl rfl
theorem k_Re_here {q : Int32} {a0 : Nat} {μ : MM} (h : f_Re_here a0 μ = some q) : μ.1[a0]? = some (0, 6) := by
  unfold f_Re_here at h
  obtain ⟨_, h1, _⟩ := bnd h
  exact kO_some h1
theorem m_Str_isLatin1 {l : Launch} {q : Int32} {a0 : Nat} {μ : MM} (h : f_Str_isLatin1 a0 = some q) : AMet l 1 Y_Str_isLatin1 [.ref a0] μ (some (.int q)) μ := by
  refine AMet.of (loc := [some (.ref a0)]) pn_Str_isLatin1 (Nat.le_of_ble_eq_true rfl) rfl ?_
  unfold f_Str_isLatin1 at h
  obtain ⟨_, hk, h⟩ := bnd h
  refine aw_getCS 3 d_Str_isLatin1_0 rfl fs_Str_38 ?_
  refine aw_if_eq 17 6 d_Str_isLatin1_3 (by decide) rfl (fun c3 => ?_) (fun c3 => ?_)
  · have h := (if_pos c3).symm.trans h
    refine aw_iconst (v := (0 : Int32)) 18 d_Str_isLatin1_17 rfl (by decide) ?_
    cases h
    exact aw_ireturn d_Str_isLatin1_18 rfl nar0
  · have h := (if_neg c3).symm.trans h
    refine aw_aload_n 7 d_Str_isLatin1_6 rfl rfl ?_
    obtain ⟨y7, h7, h⟩ := bnd h
    refine aw_getSC 10 d_Str_isLatin1_7 rfl fs_Str_15 h7 ?_
    refine aw_if_ne 17 13 d_Str_isLatin1_10 (by decide) rfl (fun c10 => ?_) (fun c10 => ?_)
    · have h := (if_neg c10).symm.trans h
      refine aw_iconst (v := (0 : Int32)) 18 d_Str_isLatin1_17 rfl (by decide) ?_
      cases h
      exact aw_ireturn d_Str_isLatin1_18 rfl nar0
    · have h := (if_pos c10).symm.trans h
      refine aw_iconst (v := (1 : Int32)) 14 d_Str_isLatin1_13 rfl (by decide) ?_
      refine aw_goto 18 d_Str_isLatin1_14 (by decide) ?_
      cases h
      exact aw_ireturn d_Str_isLatin1_18 rfl nar1
theorem k_Str_isLatin1 {q : Int32} {a0 : Nat} (h : f_Str_isLatin1 a0 = some q) : a0 = LIM ∨ a0 = LIM + 1 := by
  unfold f_Str_isLatin1 at h
  obtain ⟨_, h1, _⟩ := bnd h
  exact kS_some h1
theorem m_SL_canEncode {l : Launch} {q : Int32} {x0 : Int32} {μ : MM} (h : f_SL_canEncode x0 = some q) : AMet l 1 Y_SL_canEncode [.int x0] μ (some (.int q)) μ := by
  refine AMet.of (loc := [some (.int x0)]) pn_SL_canEncode (Nat.le_of_ble_eq_true rfl) rfl ?_
  unfold f_SL_canEncode at h
  refine aw_iload_n 1 d_SL_canEncode_0 rfl rfl ?_
  refine aw_if_lt 15 4 d_SL_canEncode_1 (by decide) rfl (fun c1 => ?_) (fun c1 => ?_)
  · have h := (if_pos c1).symm.trans h
    refine aw_iconst (v := (0 : Int32)) 16 d_SL_canEncode_15 rfl (by decide) ?_
    cases h
    exact aw_ireturn d_SL_canEncode_16 rfl nar0
  · have h := (if_neg c1).symm.trans h
    refine aw_iload_n 5 d_SL_canEncode_4 rfl rfl ?_
    refine aw_sipush (v := (255 : Int32)) 8 d_SL_canEncode_5 rfl (by decide) ?_
    refine aw_icmp_gt 15 11 d_SL_canEncode_8 (by decide) rfl (fun c8 => ?_) (fun c8 => ?_)
    · have h := (if_pos c8).symm.trans h
      refine aw_iconst (v := (0 : Int32)) 16 d_SL_canEncode_15 rfl (by decide) ?_
      cases h
      exact aw_ireturn d_SL_canEncode_16 rfl nar0
    · have h := (if_neg c8).symm.trans h
      refine aw_iconst (v := (1 : Int32)) 12 d_SL_canEncode_11 rfl (by decide) ?_
      refine aw_goto 16 d_SL_canEncode_12 (by decide) ?_
      cases h
      exact aw_ireturn d_SL_canEncode_16 rfl nar1
theorem m_Mt_max_II {l : Launch} {q : Int32} {x0 : Int32} {x1 : Int32} {μ : MM} (h : f_Mt_max_II x0 x1 = some q) : AMet l 1 Y_Mt_max_II [.int x0, .int x1] μ (some (.int q)) μ := by
  refine AMet.of (loc := [some (.int x0), some (.int x1)]) pn_Mt_max_II (Nat.le_of_ble_eq_true rfl) rfl ?_
  unfold f_Mt_max_II at h
  refine aw_iload_n 1 d_Mt_max_II_0 rfl rfl ?_
  refine aw_iload_n 2 d_Mt_max_II_1 rfl rfl ?_
  refine aw_icmp_lt 9 5 d_Mt_max_II_2 (by decide) rfl (fun c2 => ?_) (fun c2 => ?_)
  · have h := (if_pos c2).symm.trans h
    refine aw_iload_n 10 d_Mt_max_II_9 rfl rfl ?_
    cases h
    exact aw_ireturn d_Mt_max_II_10 rfl rfl
  · have h := (if_neg c2).symm.trans h
    refine aw_iload_n 6 d_Mt_max_II_5 rfl rfl ?_
    refine aw_goto 10 d_Mt_max_II_6 (by decide) ?_
    cases h
    exact aw_ireturn d_Mt_max_II_10 rfl rfl
theorem l_SL_indexOfChar_7 {l : Launch} {μ0 : MM} {q : Int32} {a0 : Nat} {x3 : Int32} {x4 : Int32} {μ : MM} : ∀ (n : Nat) (x5 : Int32), f_SL_indexOfChar_L7 a0 x3 x4 n x5 = some q → AWm l Y_SL_indexOfChar 1 μ0 (some (.int q)) μ 7 [some (.ref a0), none, none, some (.int x3), some (.int x4), some (.int x5)] [] μ := by
  intro n
  induction n with
  | zero =>
    intro x5 h
    have h : (none : Option (Int32)) = some q := h
    cases h
  | succ n ih =>
    intro x5 h
    rw [f_SL_indexOfChar_L7] at h
    refine aw_iload 9 d_SL_indexOfChar_7 rfl rfl ?_
    refine aw_iload_n 10 d_SL_indexOfChar_9 rfl rfl ?_
    refine aw_icmp_ge 31 13 d_SL_indexOfChar_10 (by decide) rfl (fun c10 => ?_) (fun c10 => ?_)
    · have h := (if_pos c10).symm.trans h
      refine aw_iconst (v := (-1 : Int32)) 32 d_SL_indexOfChar_31 rfl (by decide) ?_
      cases h
      exact aw_ireturn d_SL_indexOfChar_32 rfl rfl
    · have h := (if_neg c10).symm.trans h
      refine aw_aload_n 14 d_SL_indexOfChar_13 rfl rfl ?_
      refine aw_iload 16 d_SL_indexOfChar_14 rfl rfl ?_
      obtain ⟨y16, h16, h⟩ := bnd h
      refine aw_sbald 17 d_SL_indexOfChar_16 rfl h16 ?_
      refine aw_iload 19 d_SL_indexOfChar_17 rfl rfl ?_
      refine aw_icmp_ne 25 22 d_SL_indexOfChar_19 (by decide) rfl (fun c19 => ?_) (fun c19 => ?_)
      · have h := (if_neg c19).symm.trans h
        refine aw_iinc (v := (x5 + (1 : Int32))) (loc' := [some (.ref a0), none, none, some (.int x3), some (.int x4), some (.int (x5 + (1 : Int32)))]) 28 d_SL_indexOfChar_25 rfl (by decide) rfl rfl rfl ?_
        refine aw_goto 7 d_SL_indexOfChar_28 (by decide) ?_
        exact (ih (x5 + (1 : Int32)) h)
      · have h := (if_pos c19).symm.trans h
        refine aw_iload 24 d_SL_indexOfChar_22 rfl rfl ?_
        cases h
        exact aw_ireturn d_SL_indexOfChar_24 rfl rfl
theorem m_SL_indexOfChar {l : Launch} {q : Int32} {a0 : Nat} {x1 : Int32} {x2 : Int32} {x3 : Int32} {μ : MM} (h : f_SL_indexOfChar a0 x1 x2 x3 = some q) : AMet l 1 Y_SL_indexOfChar [.ref a0, .int x1, .int x2, .int x3] μ (some (.int q)) μ := by
  refine AMet.of (loc := [some (.ref a0), some (.int x1), some (.int x2), some (.int x3), none, none]) pn_SL_indexOfChar (Nat.le_of_ble_eq_true rfl) rfl ?_
  unfold f_SL_indexOfChar at h
  refine aw_iload_n 1 d_SL_indexOfChar_0 rfl rfl ?_
  refine aw_i2b 2 d_SL_indexOfChar_1 rfl ?_
  refine aw_istore (loc' := [some (.ref a0), some (.int x1), some (.int x2), some (.int x3), some (.int x1.toInt8.toInt32), none]) 4 d_SL_indexOfChar_2 rfl (by decide) rfl ?_
  refine aw_iload_n 5 d_SL_indexOfChar_4 rfl rfl ?_
  refine aw_istore (loc' := [some (.ref a0), some (.int x1), some (.int x2), some (.int x3), some (.int x1.toInt8.toInt32), some (.int x2)]) 7 d_SL_indexOfChar_5 rfl (by decide) rfl ?_
  exact AW.wk [true, false, false, true, true, true] rfl (l_SL_indexOfChar_7 FU _ h)
theorem m_SL_indexOf {l : Launch} {q : Int32} {a0 : Nat} {x1 : Int32} {x2 : Int32} {x3 : Int32} {μ : MM} (h : f_SL_indexOf a0 x1 x2 x3 = some q) : AMet l 2 Y_SL_indexOf [.ref a0, .int x1, .int x2, .int x3] μ (some (.int q)) μ := by
  refine AMet.of (loc := [some (.ref a0), some (.int x1), some (.int x2), some (.int x3)]) pn_SL_indexOf (Nat.le_of_ble_eq_true rfl) rfl ?_
  unfold f_SL_indexOf at h
  refine aw_iload_n 1 d_SL_indexOf_0 rfl rfl ?_
  obtain ⟨y1, h1, h⟩ := bnd h
  refine aw_invS (rest := []) (st' := [.int y1]) (As := [.int x1]) 4 d_SL_indexOf_1 rfl ls_SL_88 (m_SL_canEncode h1) (by decide) rfl rfl (Nat.le_of_ble_eq_true rfl) rfl ?_
  refine aw_if_ne 9 7 d_SL_indexOf_4 (by decide) rfl (fun c4 => ?_) (fun c4 => ?_)
  · have h := (if_neg c4).symm.trans h
    refine aw_iload_n 10 d_SL_indexOf_9 rfl rfl ?_
    refine aw_iconst (v := (0 : Int32)) 11 d_SL_indexOf_10 rfl (by decide) ?_
    obtain ⟨y11, h11, h⟩ := bnd h
    refine aw_invS (rest := []) (st' := [.int y11]) (As := [.int x2, .int (0 : Int32)]) 14 d_SL_indexOf_11 rfl ls_SL_92 (m_Mt_max_II h11) (by decide) rfl rfl (Nat.le_of_ble_eq_true rfl) rfl ?_
    refine aw_istore_n (loc' := [some (.ref a0), some (.int x1), some (.int y11), some (.int x3)]) 15 d_SL_indexOf_14 rfl (by decide) rfl ?_
    refine aw_iload_n 16 d_SL_indexOf_15 rfl rfl ?_
    refine aw_aload_n 17 d_SL_indexOf_16 rfl rfl ?_
    obtain ⟨y17, h17, h⟩ := bnd h
    refine aw_salen 18 d_SL_indexOf_17 rfl h17 ?_
    obtain ⟨y18, h18, h⟩ := bnd h
    refine aw_invS (rest := []) (st' := [.int y18]) (As := [.int x3, .int y17]) 21 d_SL_indexOf_18 rfl ls_SL_38 (m_Mt_min h18) (by decide) rfl rfl (Nat.le_of_ble_eq_true rfl) rfl ?_
    refine aw_istore_n (loc' := [some (.ref a0), some (.int x1), some (.int y11), some (.int y18)]) 22 d_SL_indexOf_21 rfl (by decide) rfl ?_
    refine aw_iload_n 23 d_SL_indexOf_22 rfl rfl ?_
    refine aw_iload_n 24 d_SL_indexOf_23 rfl rfl ?_
    refine aw_icmp_lt 29 27 d_SL_indexOf_24 (by decide) rfl (fun c24 => ?_) (fun c24 => ?_)
    · have h := (if_pos c24).symm.trans h
      refine aw_aload_n 30 d_SL_indexOf_29 rfl rfl ?_
      refine aw_iload_n 31 d_SL_indexOf_30 rfl rfl ?_
      refine aw_iload_n 32 d_SL_indexOf_31 rfl rfl ?_
      refine aw_iload_n 33 d_SL_indexOf_32 rfl rfl ?_
      obtain ⟨y33, h33, h⟩ := bnd h
      refine aw_invS (rest := []) (st' := [.int y33]) (As := [.ref a0, .int x1, .int y11, .int y18]) 36 d_SL_indexOf_33 rfl ls_SL_95 (m_SL_indexOfChar h33) (by decide) rfl rfl (Nat.le_of_ble_eq_true rfl) rfl ?_
      cases h
      exact aw_ireturn d_SL_indexOf_36 rfl rfl
    · have h := (if_neg c24).symm.trans h
      refine aw_iconst (v := (-1 : Int32)) 28 d_SL_indexOf_27 rfl (by decide) ?_
      cases h
      exact aw_ireturn d_SL_indexOf_28 rfl rfl
  · have h := (if_pos c4).symm.trans h
    refine aw_iconst (v := (-1 : Int32)) 8 d_SL_indexOf_7 rfl (by decide) ?_
    cases h
    exact aw_ireturn d_SL_indexOf_8 rfl rfl
theorem m_Str_indexOf_II {l : Launch} {q : Int32} {a0 : Nat} {x1 : Int32} {x2 : Int32} {μ : MM} (h : f_Str_indexOf_II a0 x1 x2 = some q) : AMet l 3 Y_Str_indexOf_II [.ref a0, .int x1, .int x2] μ (some (.int q)) μ := by
  refine AMet.of (loc := [some (.ref a0), some (.int x1), some (.int x2)]) pn_Str_indexOf_II (Nat.le_of_ble_eq_true rfl) rfl ?_
  unfold f_Str_indexOf_II at h
  obtain ⟨_, hk, h⟩ := bnd h
  refine aw_aload_n 1 d_Str_indexOf_II_0 rfl rfl ?_
  obtain ⟨y1, h1, h⟩ := bnd h
  refine aw_invVS (rest := []) (st' := [.int y1]) (As := []) 4 d_Str_indexOf_II_1 rfl lv_Str_492 (m_Str_isLatin1 h1) (by decide) (k_Str_isLatin1 h1) rfl rfl rfl (Nat.le_of_ble_eq_true rfl) rfl ?_
  refine aw_if_eq 23 7 d_Str_indexOf_II_4 (by decide) rfl (fun c4 => ?_) (fun c4 => ?_)
  · have h := (if_pos c4).symm.trans h
    refine aw_aload_n 24 d_Str_indexOf_II_23 rfl rfl ?_
    obtain ⟨y24, h24, h⟩ := bnd h
    refine aw_getSV 27 d_Str_indexOf_II_24 rfl fs_Str_9 h24 ?_
    refine aw_iload_n 28 d_Str_indexOf_II_27 rfl rfl ?_
    refine aw_iload_n 29 d_Str_indexOf_II_28 rfl rfl ?_
    refine aw_aload_n 30 d_Str_indexOf_II_29 rfl rfl ?_
    obtain ⟨y30, h30, h⟩ := bnd h
    refine aw_invVS (rest := [.int x2, .int x1, .ref y24]) (st' := [.int y30, .int x2, .int x1, .ref y24]) (As := []) 33 d_Str_indexOf_II_30 rfl lv_Str_505 (m_Str_length h30) (by decide) (k_Str_length h30) rfl rfl rfl (Nat.le_of_ble_eq_true rfl) rfl ?_
    cases h
  · have h := (if_neg c4).symm.trans h
    refine aw_aload_n 8 d_Str_indexOf_II_7 rfl rfl ?_
    obtain ⟨y8, h8, h⟩ := bnd h
    refine aw_getSV 11 d_Str_indexOf_II_8 rfl fs_Str_9 h8 ?_
    refine aw_iload_n 12 d_Str_indexOf_II_11 rfl rfl ?_
    refine aw_iload_n 13 d_Str_indexOf_II_12 rfl rfl ?_
    refine aw_aload_n 14 d_Str_indexOf_II_13 rfl rfl ?_
    obtain ⟨y14, h14, h⟩ := bnd h
    refine aw_invVS (rest := [.int x2, .int x1, .ref y8]) (st' := [.int y14, .int x2, .int x1, .ref y8]) (As := []) 17 d_Str_indexOf_II_14 rfl lv_Str_505 (m_Str_length h14) (by decide) (k_Str_length h14) rfl rfl rfl (Nat.le_of_ble_eq_true rfl) rfl ?_
    obtain ⟨y17, h17, h⟩ := bnd h
    refine aw_invS (rest := []) (st' := [.int y17]) (As := [.ref y8, .int x1, .int x2, .int y14]) 20 d_Str_indexOf_II_17 rfl ls_Str_637 (m_SL_indexOf h17) (by decide) rfl rfl (Nat.le_of_ble_eq_true rfl) rfl ?_
    refine aw_goto 36 d_Str_indexOf_II_20 (by decide) ?_
    cases h
    exact aw_ireturn d_Str_indexOf_II_36 rfl rfl
theorem k_Str_indexOf_II {q : Int32} {a0 : Nat} {x1 : Int32} {x2 : Int32} (h : f_Str_indexOf_II a0 x1 x2 = some q) : a0 = LIM ∨ a0 = LIM + 1 := by
  unfold f_Str_indexOf_II at h
  obtain ⟨_, h1, _⟩ := bnd h
  exact kS_some h1
theorem m_Str_indexOf_I {l : Launch} {q : Int32} {a0 : Nat} {x1 : Int32} {μ : MM} (h : f_Str_indexOf_I a0 x1 = some q) : AMet l 4 Y_Str_indexOf_I [.ref a0, .int x1] μ (some (.int q)) μ := by
  refine AMet.of (loc := [some (.ref a0), some (.int x1)]) pn_Str_indexOf_I (Nat.le_of_ble_eq_true rfl) rfl ?_
  unfold f_Str_indexOf_I at h
  obtain ⟨_, hk, h⟩ := bnd h
  refine aw_aload_n 1 d_Str_indexOf_I_0 rfl rfl ?_
  refine aw_iload_n 2 d_Str_indexOf_I_1 rfl rfl ?_
  refine aw_iconst (v := (0 : Int32)) 3 d_Str_indexOf_I_2 rfl (by decide) ?_
  obtain ⟨y3, h3, h⟩ := bnd h
  refine aw_invVS (rest := []) (st' := [.int y3]) (As := [.int x1, .int (0 : Int32)]) 6 d_Str_indexOf_I_3 rfl lv_Str_633 (m_Str_indexOf_II h3) (by decide) (k_Str_indexOf_II h3) rfl rfl rfl (Nat.le_of_ble_eq_true rfl) rfl ?_
  cases h
  exact aw_ireturn d_Str_indexOf_I_6 rfl rfl
theorem k_Str_indexOf_I {q : Int32} {a0 : Nat} {x1 : Int32} (h : f_Str_indexOf_I a0 x1 = some q) : a0 = LIM ∨ a0 = LIM + 1 := by
  unfold f_Str_indexOf_I at h
  obtain ⟨_, h1, _⟩ := bnd h
  exact kS_some h1
theorem m_Re_indexIn {l : Launch} {q : Int32} {a0 : Nat} {x1 : Int32} {μ : MM} (h : f_Re_indexIn a0 x1 = some q) : AMet l 5 Y_Re_indexIn [.ref a0, .int x1] μ (some (.int q)) μ := by
  refine AMet.of (loc := [some (.ref a0), some (.int x1)]) pn_Re_indexIn (Nat.le_of_ble_eq_true rfl) rfl ?_
  unfold f_Re_indexIn at h
  refine aw_iload_n 1 d_Re_indexIn_0 rfl rfl ?_
  refine aw_iconst (v := (-1 : Int32)) 2 d_Re_indexIn_1 rfl (by decide) ?_
  refine aw_icmp_ne 9 5 d_Re_indexIn_2 (by decide) rfl (fun c2 => ?_) (fun c2 => ?_)
  · have h := (if_neg c2).symm.trans h
    refine aw_aload_n 10 d_Re_indexIn_9 rfl rfl ?_
    refine aw_iload_n 11 d_Re_indexIn_10 rfl rfl ?_
    refine aw_i2c 12 d_Re_indexIn_11 rfl ?_
    obtain ⟨y12, h12, h⟩ := bnd h
    refine aw_invVS (rest := []) (st' := [.int y12]) (As := [.int (i2c x1)]) 15 d_Re_indexIn_12 rfl lv_Re_61 (m_Str_indexOf_I h12) (by decide) (k_Str_indexOf_I h12) rfl rfl rfl (Nat.le_of_ble_eq_true rfl) rfl ?_
    cases h
    exact aw_ireturn d_Re_indexIn_15 rfl rfl
  · have h := (if_pos c2).symm.trans h
    refine aw_iconst (v := (-1 : Int32)) 6 d_Re_indexIn_5 rfl (by decide) ?_
    refine aw_goto 15 d_Re_indexIn_6 (by decide) ?_
    cases h
    exact aw_ireturn d_Re_indexIn_15 rfl rfl
theorem j_Re_fail_25 {l : Launch} {μ0 : MM} {q : MM} {s0 : Nat} {s1 : Int32} {μ : MM} (h : f_Re_fail_J25 s0 s1 μ = some q) : AWm l Y_Re_fail 1 μ0 none q 25 [none, none] [.int s1, .ref s0] μ := by
  unfold f_Re_fail_J25 at h
  obtain ⟨μ25, h25, h⟩ := bnd h
  refine aw_putI 28 false d_Re_fail_25 rfl fp_Re_44 (fun z => nomatch z) rfl h25 ?_
  cases h
  exact aw_return d_Re_fail_28 rfl
theorem m_Re_fail {l : Launch} {q : MM} {a0 : Nat} {x1 : Int32} {μ : MM} (h : f_Re_fail a0 x1 μ = some q) : AMet l 1 Y_Re_fail [.ref a0, .int x1] μ none q := by
  refine AMet.of (loc := [some (.ref a0), some (.int x1)]) pn_Re_fail (Nat.le_of_ble_eq_true rfl) rfl ?_
  unfold f_Re_fail at h
  obtain ⟨_, hk, h⟩ := bnd h
  refine aw_aload_n 1 d_Re_fail_0 rfl rfl ?_
  refine aw_aload_n 2 d_Re_fail_1 rfl rfl ?_
  obtain ⟨y2, h2, h⟩ := bnd h
  refine aw_getI 5 d_Re_fail_2 rfl fg_Re_44 (Or.inl rfl) h2 ?_
  refine aw_if_ne 21 8 d_Re_fail_5 (by decide) rfl (fun c5 => ?_) (fun c5 => ?_)
  · have h := (if_neg c5).symm.trans h
    refine aw_aload_n 22 d_Re_fail_21 rfl rfl ?_
    obtain ⟨y22, h22, h⟩ := bnd h
    refine aw_getI 25 d_Re_fail_22 rfl fg_Re_44 (Or.inl rfl) h22 ?_
    exact AW.wk [false, false] rfl (j_Re_fail_25 h)
  · have h := (if_pos c5).symm.trans h
    refine aw_sipush (v := (1000 : Int32)) 11 d_Re_fail_8 rfl (by decide) ?_
    refine aw_iload_n 12 d_Re_fail_11 rfl rfl ?_
    refine aw_imul 13 d_Re_fail_12 rfl ?_
    refine aw_aload_n 14 d_Re_fail_13 rfl rfl ?_
    obtain ⟨y14, h14, h⟩ := bnd h
    refine aw_getI 17 d_Re_fail_14 rfl fg_Re_41 (Or.inl rfl) h14 ?_
    refine aw_iadd 18 d_Re_fail_17 rfl ?_
    refine aw_goto 25 d_Re_fail_18 (by decide) ?_
    exact AW.wk [false, false] rfl (j_Re_fail_25 h)
theorem k_Re_fail {q : MM} {a0 : Nat} {x1 : Int32} {μ : MM} (h : f_Re_fail a0 x1 μ = some q) : μ.1[a0]? = some (0, 6) := by
  unfold f_Re_fail at h
  obtain ⟨_, h1, _⟩ := bnd h
  exact kO_some h1
theorem m_Pr_open {l : Launch} {q : MM} {a0 : Nat} {x1 : Int32} {μ : MM} (h : f_Pr_open a0 x1 μ = some q) : AMet l 1 Y_Pr_open [.ref a0, .int x1] μ none q := by
  refine AMet.of (loc := [some (.ref a0), some (.int x1)]) pn_Pr_open (Nat.le_of_ble_eq_true rfl) rfl ?_
  unfold f_Pr_open at h
  obtain ⟨_, hk, h⟩ := bnd h
  refine aw_aload_n 1 d_Pr_open_0 rfl rfl ?_
  obtain ⟨y1, h1, h⟩ := bnd h
  refine aw_getI 4 d_Pr_open_1 rfl fg_Pr_36 (Or.inl rfl) h1 ?_
  refine aw_bipush (v := (14 : Int32)) 6 d_Pr_open_4 rfl (by decide) ?_
  refine aw_icmp_ge 32 9 d_Pr_open_6 (by decide) rfl (fun c6 => ?_) (fun c6 => ?_)
  · have h := (if_pos c6).symm.trans h
    cases h
    exact aw_return d_Pr_open_32 rfl
  · have h := (if_neg c6).symm.trans h
    refine aw_aload_n 10 d_Pr_open_9 rfl rfl ?_
    obtain ⟨y10, h10, h⟩ := bnd h
    refine aw_getR 13 d_Pr_open_10 rfl fg_Pr_23 rfl h10 ?_
    refine aw_aload_n 14 d_Pr_open_13 rfl rfl ?_
    obtain ⟨y14, h14, h⟩ := bnd h
    refine aw_getI 17 d_Pr_open_14 rfl fg_Pr_36 (Or.inl rfl) h14 ?_
    refine aw_iload_n 18 d_Pr_open_17 rfl rfl ?_
    obtain ⟨μ18, h18, h⟩ := bnd h
    refine aw_iast 19 d_Pr_open_18 rfl h18 ?_
    refine aw_aload_n 20 d_Pr_open_19 rfl rfl ?_
    obtain ⟨y20, h20, h⟩ := bnd h
    refine aw_getR 23 d_Pr_open_20 rfl fg_Pr_26 rfl h20 ?_
    refine aw_aload_n 24 d_Pr_open_23 rfl rfl ?_
    obtain ⟨y24, h24, h⟩ := bnd h
    refine aw_getI 27 d_Pr_open_24 rfl fg_Pr_36 (Or.inl rfl) h24 ?_
    refine aw_aload_n 28 d_Pr_open_27 rfl rfl ?_
    obtain ⟨y28, h28, h⟩ := bnd h
    refine aw_getI 31 d_Pr_open_28 rfl fg_Pr_32 (Or.inl rfl) h28 ?_
    obtain ⟨μ31, h31, h⟩ := bnd h
    refine aw_iast 32 d_Pr_open_31 rfl h31 ?_
    cases h
    exact aw_return d_Pr_open_32 rfl
theorem k_Pr_open {q : MM} {a0 : Nat} {x1 : Int32} {μ : MM} (h : f_Pr_open a0 x1 μ = some q) : μ.1[a0]? = some (0, 5) := by
  unfold f_Pr_open at h
  obtain ⟨_, h1, _⟩ := bnd h
  exact kO_some h1
theorem j_Pr_add_42 {l : Launch} {μ0 : MM} {q : Int32 × MM} {a0 : Nat} {μ : MM} (h : f_Pr_add_J42 a0 μ = some q) : AWm l Y_Pr_add 1 μ0 (some (.int q.1)) q.2 42 [some (.ref a0), none, none] [] μ := by
  unfold f_Pr_add_J42 at h
  refine aw_aload_n 43 d_Pr_add_42 rfl rfl ?_
  obtain ⟨y43, h43, h⟩ := bnd h
  refine aw_getI 46 d_Pr_add_43 rfl fg_Pr_32 (Or.inl rfl) h43 ?_
  refine aw_iconst (v := (1 : Int32)) 47 d_Pr_add_46 rfl (by decide) ?_
  refine aw_isub 48 d_Pr_add_47 rfl ?_
  cases h
  exact aw_ireturn d_Pr_add_48 rfl rfl
theorem m_Pr_add {l : Launch} {q : Int32 × MM} {a0 : Nat} {x1 : Int32} {x2 : Int32} {μ : MM} (h : f_Pr_add a0 x1 x2 μ = some q) : AMet l 1 Y_Pr_add [.ref a0, .int x1, .int x2] μ (some (.int q.1)) q.2 := by
  refine AMet.of (loc := [some (.ref a0), some (.int x1), some (.int x2)]) pn_Pr_add (Nat.le_of_ble_eq_true rfl) rfl ?_
  unfold f_Pr_add at h
  obtain ⟨_, hk, h⟩ := bnd h
  refine aw_aload_n 1 d_Pr_add_0 rfl rfl ?_
  obtain ⟨y1, h1, h⟩ := bnd h
  refine aw_getI 4 d_Pr_add_1 rfl fg_Pr_32 (Or.inl rfl) h1 ?_
  refine aw_aload_n 5 d_Pr_add_4 rfl rfl ?_
  obtain ⟨y5, h5, h⟩ := bnd h
  refine aw_getR 8 d_Pr_add_5 rfl fg_Pr_11 rfl h5 ?_
  obtain ⟨y8, h8, h⟩ := bnd h
  refine aw_alen 9 d_Pr_add_8 rfl h8 ?_
  refine aw_icmp_ge 42 12 d_Pr_add_9 (by decide) rfl (fun c9 => ?_) (fun c9 => ?_)
  · have h := (if_pos c9).symm.trans h
    exact AW.wk [true, false, false] rfl (j_Pr_add_42 h)
  · have h := (if_neg c9).symm.trans h
    refine aw_aload_n 13 d_Pr_add_12 rfl rfl ?_
    obtain ⟨y13, h13, h⟩ := bnd h
    refine aw_getR 16 d_Pr_add_13 rfl fg_Pr_11 rfl h13 ?_
    refine aw_aload_n 17 d_Pr_add_16 rfl rfl ?_
    obtain ⟨y17, h17, h⟩ := bnd h
    refine aw_getI 20 d_Pr_add_17 rfl fg_Pr_32 (Or.inl rfl) h17 ?_
    refine aw_iload_n 21 d_Pr_add_20 rfl rfl ?_
    obtain ⟨μ21, h21, h⟩ := bnd h
    refine aw_iast 22 d_Pr_add_21 rfl h21 ?_
    refine aw_aload_n 23 d_Pr_add_22 rfl rfl ?_
    obtain ⟨y23, h23, h⟩ := bnd h
    refine aw_getR 26 d_Pr_add_23 rfl fg_Pr_17 rfl h23 ?_
    refine aw_aload_n 27 d_Pr_add_26 rfl rfl ?_
    obtain ⟨y27, h27, h⟩ := bnd h
    refine aw_getI 30 d_Pr_add_27 rfl fg_Pr_32 (Or.inl rfl) h27 ?_
    refine aw_iload_n 31 d_Pr_add_30 rfl rfl ?_
    obtain ⟨μ31, h31, h⟩ := bnd h
    refine aw_iast 32 d_Pr_add_31 rfl h31 ?_
    refine aw_aload_n 33 d_Pr_add_32 rfl rfl ?_
    refine aw_dup 34 d_Pr_add_33 rfl rfl ?_
    obtain ⟨y34, h34, h⟩ := bnd h
    refine aw_getI 37 d_Pr_add_34 rfl fg_Pr_32 (Or.inl rfl) h34 ?_
    refine aw_iconst (v := (1 : Int32)) 38 d_Pr_add_37 rfl (by decide) ?_
    refine aw_iadd 39 d_Pr_add_38 rfl ?_
    obtain ⟨μ39, h39, h⟩ := bnd h
    refine aw_putI 42 false d_Pr_add_39 rfl fp_Pr_32 (fun z => nomatch z) rfl h39 ?_
    exact AW.wk [true, false, false] rfl (j_Pr_add_42 h)
theorem k_Pr_add {q : Int32 × MM} {a0 : Nat} {x1 : Int32} {x2 : Int32} {μ : MM} (h : f_Pr_add a0 x1 x2 μ = some q) : μ.1[a0]? = some (0, 5) := by
  unfold f_Pr_add at h
  obtain ⟨_, h1, _⟩ := bnd h
  exact kO_some h1
theorem m_Pr_land {l : Launch} {q : MM} {a0 : Nat} {x1 : Int32} {μ : MM} (h : f_Pr_land a0 x1 μ = some q) : AMet l 1 Y_Pr_land [.ref a0, .int x1] μ none q := by
  refine AMet.of (loc := [some (.ref a0), some (.int x1)]) pn_Pr_land (Nat.le_of_ble_eq_true rfl) rfl ?_
  unfold f_Pr_land at h
  obtain ⟨_, hk, h⟩ := bnd h
  refine aw_iload_n 1 d_Pr_land_0 rfl rfl ?_
  refine aw_if_lt 22 4 d_Pr_land_1 (by decide) rfl (fun c1 => ?_) (fun c1 => ?_)
  · have h := (if_pos c1).symm.trans h
    cases h
    exact aw_return d_Pr_land_22 rfl
  · have h := (if_neg c1).symm.trans h
    refine aw_iload_n 5 d_Pr_land_4 rfl rfl ?_
    refine aw_aload_n 6 d_Pr_land_5 rfl rfl ?_
    obtain ⟨y6, h6, h⟩ := bnd h
    refine aw_getI 9 d_Pr_land_6 rfl fg_Pr_32 (Or.inl rfl) h6 ?_
    refine aw_icmp_ge 22 12 d_Pr_land_9 (by decide) rfl (fun c9 => ?_) (fun c9 => ?_)
    · have h := (if_pos c9).symm.trans h
      cases h
      exact aw_return d_Pr_land_22 rfl
    · have h := (if_neg c9).symm.trans h
      refine aw_aload_n 13 d_Pr_land_12 rfl rfl ?_
      obtain ⟨y13, h13, h⟩ := bnd h
      refine aw_getR 16 d_Pr_land_13 rfl fg_Pr_17 rfl h13 ?_
      refine aw_iload_n 17 d_Pr_land_16 rfl rfl ?_
      refine aw_aload_n 18 d_Pr_land_17 rfl rfl ?_
      obtain ⟨y18, h18, h⟩ := bnd h
      refine aw_getI 21 d_Pr_land_18 rfl fg_Pr_32 (Or.inl rfl) h18 ?_
      obtain ⟨μ21, h21, h⟩ := bnd h
      refine aw_iast 22 d_Pr_land_21 rfl h21 ?_
      cases h
      exact aw_return d_Pr_land_22 rfl
theorem k_Pr_land {q : MM} {a0 : Nat} {x1 : Int32} {μ : MM} (h : f_Pr_land a0 x1 μ = some q) : μ.1[a0]? = some (0, 5) := by
  unfold f_Pr_land at h
  obtain ⟨_, h1, _⟩ := bnd h
  exact kO_some h1
theorem j_Re_comparison_31 {l : Launch} {μ0 : MM} {q : Int32 × MM} {a0 : Nat} {x1 : Int32} {μ : MM} (h : f_Re_comparison_J31 a0 x1 μ = some q) : AWm l Y_Re_comparison 2 μ0 (some (.int q.1)) q.2 31 [some (.ref a0), some (.int x1)] [] μ := by
  unfold f_Re_comparison_J31 at h
  refine aw_aload_n 32 d_Re_comparison_31 rfl rfl ?_
  refine aw_dup 33 d_Re_comparison_32 rfl rfl ?_
  obtain ⟨y33, h33, h⟩ := bnd h
  refine aw_getI 36 d_Re_comparison_33 rfl fg_Re_41 (Or.inl rfl) h33 ?_
  refine aw_iconst (v := (1 : Int32)) 37 d_Re_comparison_36 rfl (by decide) ?_
  refine aw_iadd 38 d_Re_comparison_37 rfl ?_
  obtain ⟨μ38, h38, h⟩ := bnd h
  refine aw_putI 41 false d_Re_comparison_38 rfl fp_Re_41 (fun z => nomatch z) rfl h38 ?_
  refine aw_iload_n 42 d_Re_comparison_41 rfl rfl ?_
  refine aw_bipush (v := (60 : Int32)) 44 d_Re_comparison_42 rfl (by decide) ?_
  refine aw_icmp_ne 52 47 d_Re_comparison_44 (by decide) rfl (fun c44 => ?_) (fun c44 => ?_)
  · have h := (if_neg c44).symm.trans h
    refine aw_iload_n 53 d_Re_comparison_52 rfl rfl ?_
    refine aw_bipush (v := (62 : Int32)) 55 d_Re_comparison_53 rfl (by decide) ?_
    refine aw_icmp_ne 63 58 d_Re_comparison_55 (by decide) rfl (fun c55 => ?_) (fun c55 => ?_)
    · have h := (if_neg c55).symm.trans h
      refine aw_bipush (v := (9 : Int32)) 65 d_Re_comparison_63 rfl (by decide) ?_
      cases h
      exact aw_ireturn d_Re_comparison_65 rfl rfl
    · have h := (if_pos c55).symm.trans h
      refine aw_bipush (v := (8 : Int32)) 60 d_Re_comparison_58 rfl (by decide) ?_
      refine aw_goto 65 d_Re_comparison_60 (by decide) ?_
      cases h
      exact aw_ireturn d_Re_comparison_65 rfl rfl
  · have h := (if_pos c44).symm.trans h
    refine aw_bipush (v := (7 : Int32)) 49 d_Re_comparison_47 rfl (by decide) ?_
    refine aw_goto 65 d_Re_comparison_49 (by decide) ?_
    cases h
    exact aw_ireturn d_Re_comparison_65 rfl rfl
theorem m_Re_comparison {l : Launch} {q : Int32 × MM} {a0 : Nat} {μ : MM} (h : f_Re_comparison a0 μ = some q) : AMet l 2 Y_Re_comparison [.ref a0] μ (some (.int q.1)) q.2 := by
  refine AMet.of (loc := [some (.ref a0), none]) pn_Re_comparison (Nat.le_of_ble_eq_true rfl) rfl ?_
  unfold f_Re_comparison at h
  obtain ⟨_, hk, h⟩ := bnd h
  refine aw_aload_n 1 d_Re_comparison_0 rfl rfl ?_
  obtain ⟨y1, h1, h⟩ := bnd h
  refine aw_invV (rest := []) (st' := [.int y1]) (As := []) 4 d_Re_comparison_1 rfl lv_Re_54 (m_Re_here h1) (by decide) (k_Re_here h1) rfl rfl rfl (Nat.le_of_ble_eq_true rfl) rfl ?_
  refine aw_istore_n (loc' := [some (.ref a0), some (.int y1)]) 5 d_Re_comparison_4 rfl (by decide) rfl ?_
  refine aw_iload_n 6 d_Re_comparison_5 rfl rfl ?_
  refine aw_bipush (v := (60 : Int32)) 8 d_Re_comparison_6 rfl (by decide) ?_
  refine aw_icmp_eq 31 11 d_Re_comparison_8 (by decide) rfl (fun c8 => ?_) (fun c8 => ?_)
  · have h := (if_pos c8).symm.trans h
    exact (j_Re_comparison_31 h)
  · have h := (if_neg c8).symm.trans h
    refine aw_iload_n 12 d_Re_comparison_11 rfl rfl ?_
    refine aw_bipush (v := (62 : Int32)) 14 d_Re_comparison_12 rfl (by decide) ?_
    refine aw_icmp_eq 31 17 d_Re_comparison_14 (by decide) rfl (fun c14 => ?_) (fun c14 => ?_)
    · have h := (if_pos c14).symm.trans h
      exact (j_Re_comparison_31 h)
    · have h := (if_neg c14).symm.trans h
      refine aw_iload_n 18 d_Re_comparison_17 rfl rfl ?_
      refine aw_bipush (v := (61 : Int32)) 20 d_Re_comparison_18 rfl (by decide) ?_
      refine aw_icmp_eq 31 23 d_Re_comparison_20 (by decide) rfl (fun c20 => ?_) (fun c20 => ?_)
      · have h := (if_pos c20).symm.trans h
        exact (j_Re_comparison_31 h)
      · have h := (if_neg c20).symm.trans h
        refine aw_aload_n 24 d_Re_comparison_23 rfl rfl ?_
        refine aw_iconst (v := (1 : Int32)) 25 d_Re_comparison_24 rfl (by decide) ?_
        obtain ⟨μ25, h25, h⟩ := bnd h
        refine aw_invV (rest := []) (st' := []) (As := [.int (1 : Int32)]) 28 d_Re_comparison_25 rfl lv_Re_58 (m_Re_fail h25) (by decide) (k_Re_fail h25) rfl rfl rfl (Nat.le_of_ble_eq_true rfl) rfl ?_
        refine aw_bipush (v := (9 : Int32)) 30 d_Re_comparison_28 rfl (by decide) ?_
        cases h
        exact aw_ireturn d_Re_comparison_30 rfl rfl
theorem k_Re_comparison {q : Int32 × MM} {a0 : Nat} {μ : MM} (h : f_Re_comparison a0 μ = some q) : μ.1[a0]? = some (0, 6) := by
  unfold f_Re_comparison at h
  obtain ⟨_, h1, _⟩ := bnd h
  exact kO_some h1
theorem m_Re_take {l : Launch} {q : MM} {a0 : Nat} {x1 : Int32} {μ : MM} (h : f_Re_take a0 x1 μ = some q) : AMet l 2 Y_Re_take [.ref a0, .int x1] μ none q := by
  refine AMet.of (loc := [some (.ref a0), some (.int x1)]) pn_Re_take (Nat.le_of_ble_eq_true rfl) rfl ?_
  unfold f_Re_take at h
  obtain ⟨_, hk, h⟩ := bnd h
  refine aw_aload_n 1 d_Re_take_0 rfl rfl ?_
  obtain ⟨y1, h1, h⟩ := bnd h
  refine aw_invV (rest := []) (st' := [.int y1]) (As := []) 4 d_Re_take_1 rfl lv_Re_54 (m_Re_here h1) (by decide) (k_Re_here h1) rfl rfl rfl (Nat.le_of_ble_eq_true rfl) rfl ?_
  refine aw_iload_n 5 d_Re_take_4 rfl rfl ?_
  refine aw_icmp_ne 21 8 d_Re_take_5 (by decide) rfl (fun c5 => ?_) (fun c5 => ?_)
  · have h := (if_neg c5).symm.trans h
    refine aw_aload_n 22 d_Re_take_21 rfl rfl ?_
    refine aw_iconst (v := (1 : Int32)) 23 d_Re_take_22 rfl (by decide) ?_
    obtain ⟨μ23, h23, h⟩ := bnd h
    refine aw_invV (rest := []) (st' := []) (As := [.int (1 : Int32)]) 26 d_Re_take_23 rfl lv_Re_58 (m_Re_fail h23) (by decide) (k_Re_fail h23) rfl rfl rfl (Nat.le_of_ble_eq_true rfl) rfl ?_
    cases h
    exact aw_return d_Re_take_26 rfl
  · have h := (if_pos c5).symm.trans h
    refine aw_aload_n 9 d_Re_take_8 rfl rfl ?_
    refine aw_dup 10 d_Re_take_9 rfl rfl ?_
    obtain ⟨y10, h10, h⟩ := bnd h
    refine aw_getI 13 d_Re_take_10 rfl fg_Re_41 (Or.inl rfl) h10 ?_
    refine aw_iconst (v := (1 : Int32)) 14 d_Re_take_13 rfl (by decide) ?_
    refine aw_iadd 15 d_Re_take_14 rfl ?_
    obtain ⟨μ15, h15, h⟩ := bnd h
    refine aw_putI 18 false d_Re_take_15 rfl fp_Re_41 (fun z => nomatch z) rfl h15 ?_
    refine aw_goto 26 d_Re_take_18 (by decide) ?_
    cases h
    exact aw_return d_Re_take_26 rfl
theorem k_Re_take {q : MM} {a0 : Nat} {x1 : Int32} {μ : MM} (h : f_Re_take a0 x1 μ = some q) : μ.1[a0]? = some (0, 6) := by
  unfold f_Re_take at h
  obtain ⟨_, h1, _⟩ := bnd h
  exact kO_some h1
theorem m_Re_isDigit {l : Launch} {q : Int32} {x0 : Int32} {μ : MM} (h : f_Re_isDigit x0 = some q) : AMet l 1 Y_Re_isDigit [.int x0] μ (some (.int q)) μ := by
  refine AMet.of (loc := [some (.int x0)]) pn_Re_isDigit (Nat.le_of_ble_eq_true rfl) rfl ?_
  unfold f_Re_isDigit at h
  refine aw_iload_n 1 d_Re_isDigit_0 rfl rfl ?_
  refine aw_bipush (v := (48 : Int32)) 3 d_Re_isDigit_1 rfl (by decide) ?_
  refine aw_icmp_lt 16 6 d_Re_isDigit_3 (by decide) rfl (fun c3 => ?_) (fun c3 => ?_)
  · have h := (if_pos c3).symm.trans h
    refine aw_iconst (v := (0 : Int32)) 17 d_Re_isDigit_16 rfl (by decide) ?_
    cases h
    exact aw_ireturn d_Re_isDigit_17 rfl nar0
  · have h := (if_neg c3).symm.trans h
    refine aw_iload_n 7 d_Re_isDigit_6 rfl rfl ?_
    refine aw_bipush (v := (57 : Int32)) 9 d_Re_isDigit_7 rfl (by decide) ?_
    refine aw_icmp_gt 16 12 d_Re_isDigit_9 (by decide) rfl (fun c9 => ?_) (fun c9 => ?_)
    · have h := (if_pos c9).symm.trans h
      refine aw_iconst (v := (0 : Int32)) 17 d_Re_isDigit_16 rfl (by decide) ?_
      cases h
      exact aw_ireturn d_Re_isDigit_17 rfl nar0
    · have h := (if_neg c9).symm.trans h
      refine aw_iconst (v := (1 : Int32)) 13 d_Re_isDigit_12 rfl (by decide) ?_
      refine aw_goto 17 d_Re_isDigit_13 (by decide) ?_
      cases h
      exact aw_ireturn d_Re_isDigit_17 rfl nar1
theorem j_Re_number_63 {l : Launch} {μ0 : MM} {q : MM} {a0 : Nat} {x1 : Int32} {μ : MM} (h : f_Re_number_J63 a0 x1 μ = some q) : AWm l Y_Re_number 2 μ0 none q 63 [some (.ref a0), some (.int x1), none] [] μ := by
  unfold f_Re_number_J63 at h
  refine aw_aload_n 64 d_Re_number_63 rfl rfl ?_
  obtain ⟨y64, h64, h⟩ := bnd h
  refine aw_getR 67 d_Re_number_64 rfl fg_Re_18 rfl h64 ?_
  refine aw_iconst (v := (0 : Int32)) 68 d_Re_number_67 rfl (by decide) ?_
  refine aw_iload_n 69 d_Re_number_68 rfl rfl ?_
  obtain ⟨q69, h69, h⟩ := bnd h
  refine aw_invV (rest := []) (st' := [.int q69.1]) (As := [.int (0 : Int32), .int x1]) 72 d_Re_number_69 rfl lv_Re_91 (m_Pr_add h69) (by decide) (k_Pr_add h69) rfl rfl rfl (Nat.le_of_ble_eq_true rfl) rfl ?_
  refine aw_pop 73 d_Re_number_72 rfl rfl ?_
  cases h
  exact aw_return d_Re_number_73 rfl
theorem j_Re_number_48 {l : Launch} {μ0 : MM} {q : MM} {a0 : Nat} {x1 : Int32} {μ : MM} (h : f_Re_number_J48 a0 x1 μ = some q) : AWm l Y_Re_number 2 μ0 none q 48 [some (.ref a0), some (.int x1), none] [] μ := by
  unfold f_Re_number_J48 at h
  refine aw_aload_n 49 d_Re_number_48 rfl rfl ?_
  obtain ⟨y49, h49, h⟩ := bnd h
  refine aw_invV (rest := []) (st' := [.int y49]) (As := []) 52 d_Re_number_49 rfl lv_Re_54 (m_Re_here h49) (by decide) (k_Re_here h49) rfl rfl rfl (Nat.le_of_ble_eq_true rfl) rfl ?_
  obtain ⟨y52, h52, h⟩ := bnd h
  refine aw_invS (rest := []) (st' := [.int y52]) (As := [.int y49]) 55 d_Re_number_52 rfl ls_Re_111 (m_Re_isDigit h52) (by decide) rfl rfl (Nat.le_of_ble_eq_true rfl) rfl ?_
  refine aw_if_eq 63 58 d_Re_number_55 (by decide) rfl (fun c55 => ?_) (fun c55 => ?_)
  · have h := (if_pos c55).symm.trans h
    exact (j_Re_number_63 h)
  · have h := (if_neg c55).symm.trans h
    refine aw_aload_n 59 d_Re_number_58 rfl rfl ?_
    refine aw_iconst (v := (2 : Int32)) 60 d_Re_number_59 rfl (by decide) ?_
    obtain ⟨μ60, h60, h⟩ := bnd h
    refine aw_invV (rest := []) (st' := []) (As := [.int (2 : Int32)]) 63 d_Re_number_60 rfl lv_Re_58 (m_Re_fail h60) (by decide) (k_Re_fail h60) rfl rfl rfl (Nat.le_of_ble_eq_true rfl) rfl ?_
    exact (j_Re_number_63 h)
theorem l_Re_number_4 {l : Launch} {μ0 : MM} {q : MM} {a0 : Nat} : ∀ (n : Nat) (x1 : Int32) (x2 : Int32) (μ : MM), f_Re_number_L4 a0 n x1 x2 μ = some q → AWm l Y_Re_number 2 μ0 none q 4 [some (.ref a0), some (.int x1), some (.int x2)] [] μ := by
  intro n
  induction n with
  | zero =>
    intro x1 x2 μ h
    have h : (none : Option (MM)) = some q := h
    cases h
  | succ n ih =>
    intro x1 x2 μ h
    rw [f_Re_number_L4] at h
    refine aw_iload_n 5 d_Re_number_4 rfl rfl ?_
    refine aw_iconst (v := (5 : Int32)) 6 d_Re_number_5 rfl (by decide) ?_
    refine aw_icmp_ge 48 9 d_Re_number_6 (by decide) rfl (fun c6 => ?_) (fun c6 => ?_)
    · have h := (if_pos c6).symm.trans h
      exact AW.wk [true, true, false] rfl (j_Re_number_48 h)
    · have h := (if_neg c6).symm.trans h
      refine aw_aload_n 10 d_Re_number_9 rfl rfl ?_
      obtain ⟨y10, h10, h⟩ := bnd h
      refine aw_invV (rest := []) (st' := [.int y10]) (As := []) 13 d_Re_number_10 rfl lv_Re_54 (m_Re_here h10) (by decide) (k_Re_here h10) rfl rfl rfl (Nat.le_of_ble_eq_true rfl) rfl ?_
      obtain ⟨y13, h13, h⟩ := bnd h
      refine aw_invS (rest := []) (st' := [.int y13]) (As := [.int y10]) 16 d_Re_number_13 rfl ls_Re_111 (m_Re_isDigit h13) (by decide) rfl rfl (Nat.le_of_ble_eq_true rfl) rfl ?_
      refine aw_if_eq 48 19 d_Re_number_16 (by decide) rfl (fun c16 => ?_) (fun c16 => ?_)
      · have h := (if_pos c16).symm.trans h
        exact AW.wk [true, true, false] rfl (j_Re_number_48 h)
      · have h := (if_neg c16).symm.trans h
        refine aw_bipush (v := (10 : Int32)) 21 d_Re_number_19 rfl (by decide) ?_
        refine aw_iload_n 22 d_Re_number_21 rfl rfl ?_
        refine aw_imul 23 d_Re_number_22 rfl ?_
        refine aw_aload_n 24 d_Re_number_23 rfl rfl ?_
        obtain ⟨y24, h24, h⟩ := bnd h
        refine aw_invV (rest := [.int ((10 : Int32) * x1)]) (st' := [.int y24, .int ((10 : Int32) * x1)]) (As := []) 27 d_Re_number_24 rfl lv_Re_54 (m_Re_here h24) (by decide) (k_Re_here h24) rfl rfl rfl (Nat.le_of_ble_eq_true rfl) rfl ?_
        refine aw_iadd 28 d_Re_number_27 rfl ?_
        refine aw_bipush (v := (48 : Int32)) 30 d_Re_number_28 rfl (by decide) ?_
        refine aw_isub 31 d_Re_number_30 rfl ?_
        refine aw_istore_n (loc' := [some (.ref a0), some (.int ((((10 : Int32) * x1) + y24) - (48 : Int32))), some (.int x2)]) 32 d_Re_number_31 rfl (by decide) rfl ?_
        refine aw_aload_n 33 d_Re_number_32 rfl rfl ?_
        refine aw_dup 34 d_Re_number_33 rfl rfl ?_
        obtain ⟨y34, h34, h⟩ := bnd h
        refine aw_getI 37 d_Re_number_34 rfl fg_Re_41 (Or.inl rfl) h34 ?_
        refine aw_iconst (v := (1 : Int32)) 38 d_Re_number_37 rfl (by decide) ?_
        refine aw_iadd 39 d_Re_number_38 rfl ?_
        obtain ⟨μ39, h39, h⟩ := bnd h
        refine aw_putI 42 false d_Re_number_39 rfl fp_Re_41 (fun z => nomatch z) rfl h39 ?_
        refine aw_iinc (v := (x2 + (1 : Int32))) (loc' := [some (.ref a0), some (.int ((((10 : Int32) * x1) + y24) - (48 : Int32))), some (.int (x2 + (1 : Int32)))]) 45 d_Re_number_42 rfl (by decide) rfl rfl rfl ?_
        refine aw_goto 4 d_Re_number_45 (by decide) ?_
        exact (ih ((((10 : Int32) * x1) + y24) - (48 : Int32)) (x2 + (1 : Int32)) μ39 h)
theorem m_Re_number {l : Launch} {q : MM} {a0 : Nat} {μ : MM} (h : f_Re_number a0 μ = some q) : AMet l 2 Y_Re_number [.ref a0] μ none q := by
  refine AMet.of (loc := [some (.ref a0), none, none]) pn_Re_number (Nat.le_of_ble_eq_true rfl) rfl ?_
  unfold f_Re_number at h
  obtain ⟨_, hk, h⟩ := bnd h
  refine aw_iconst (v := (0 : Int32)) 1 d_Re_number_0 rfl (by decide) ?_
  refine aw_istore_n (loc' := [some (.ref a0), some (.int (0 : Int32)), none]) 2 d_Re_number_1 rfl (by decide) rfl ?_
  refine aw_iconst (v := (0 : Int32)) 3 d_Re_number_2 rfl (by decide) ?_
  refine aw_istore_n (loc' := [some (.ref a0), some (.int (0 : Int32)), some (.int (0 : Int32))]) 4 d_Re_number_3 rfl (by decide) rfl ?_
  exact (l_Re_number_4 FU _ _ _ h)
theorem k_Re_number {q : MM} {a0 : Nat} {μ : MM} (h : f_Re_number a0 μ = some q) : μ.1[a0]? = some (0, 6) := by
  unfold f_Re_number at h
  obtain ⟨_, h1, _⟩ := bnd h
  exact kO_some h1
def YR (t : Nat) : YT := match t with
  | 0 => Y_Re_either
  | 1 => Y_Re_all
  | 2 => Y_Re_piece
  | 3 => Y_Re_sum
  | 4 => Y_Re_product
  | _ => Y_Re_factor
/-- what the methods that call one another do, at a depth -/
def RCok (l : Launch) (rc : Nat → Nat → Int32 → MM → Option MM) (d : Nat) : Prop := ∀ t, t < 6 → ∀ (a : Nat) (x : Int32) (μ q : MM), rc t a x μ = some q → AMet l (6 + d) (YR t) [.ref a, .int x] μ none q ∧ μ.1[a]? = some (0, 6)
theorem RCok.met {l : Launch} {rc : Nat → Nat → Int32 → MM → Option MM} {d : Nat} (h : RCok l rc d) (t : Nat) (ht : t < 6) {a : Nat} {x : Int32} {μ q : MM} (hr : rc t a x μ = some q) : AMet l (6 + d) (YR t) [.ref a, .int x] μ none q := (h t ht a x μ q hr).1
theorem RCok.kind {l : Launch} {rc : Nat → Nat → Int32 → MM → Option MM} {d : Nat} (h : RCok l rc d) (t : Nat) (ht : t < 6) {a : Nat} {x : Int32} {μ q : MM} (hr : rc t a x μ = some q) : μ.1[a]? = some (0, 6) := (h t ht a x μ q hr).2

theorem l_Re_either_7 {l : Launch} {μ0 : MM} {d : Nat} {q : MM} {rc : Nat → Nat → Int32 → MM → Option MM} (hrc : RCok l rc d) {a0 : Nat} {x1 : Int32} : ∀ (n : Nat) (x2 : Int32) (μ : MM), f_Re_either_L7 rc a0 x1 n x2 μ = some q → AWm l Y_Re_either (7 + d) μ0 none q 7 [some (.ref a0), some (.int x1), some (.int x2), none] [] μ := by
  intro n
  induction n with
  | zero =>
    intro x2 μ h
    have h : (none : Option (MM)) = some q := h
    cases h
  | succ n ih =>
    intro x2 μ h
    rw [f_Re_either_L7] at h
    refine aw_iload_n 8 d_Re_either_7 rfl rfl ?_
    refine aw_sipush (v := (200 : Int32)) 11 d_Re_either_8 rfl (by decide) ?_
    refine aw_icmp_ge 63 14 d_Re_either_11 (by decide) rfl (fun c11 => ?_) (fun c11 => ?_)
    · have h := (if_pos c11).symm.trans h
      cases h
      exact aw_return d_Re_either_63 rfl
    · have h := (if_neg c11).symm.trans h
      refine aw_aload_n 15 d_Re_either_14 rfl rfl ?_
      obtain ⟨y15, h15, h⟩ := bnd h
      refine aw_invV (rest := []) (st' := [.int y15]) (As := []) 18 d_Re_either_15 rfl lv_Re_54 (m_Re_here h15) (by omega) (k_Re_here h15) rfl rfl rfl (Nat.le_of_ble_eq_true rfl) rfl ?_
      refine aw_bipush (v := (124 : Int32)) 20 d_Re_either_18 rfl (by decide) ?_
      refine aw_icmp_ne 63 23 d_Re_either_20 (by decide) rfl (fun c20 => ?_) (fun c20 => ?_)
      · have h := (if_neg c20).symm.trans h
        cases h
        exact aw_return d_Re_either_63 rfl
      · have h := (if_pos c20).symm.trans h
        refine aw_aload_n 24 d_Re_either_23 rfl rfl ?_
        refine aw_dup 25 d_Re_either_24 rfl rfl ?_
        obtain ⟨y25, h25, h⟩ := bnd h
        refine aw_getI 28 d_Re_either_25 rfl fg_Re_41 (Or.inl rfl) h25 ?_
        refine aw_iconst (v := (1 : Int32)) 29 d_Re_either_28 rfl (by decide) ?_
        refine aw_iadd 30 d_Re_either_29 rfl ?_
        obtain ⟨μ30, h30, h⟩ := bnd h
        refine aw_putI 33 false d_Re_either_30 rfl fp_Re_41 (fun z => nomatch z) rfl h30 ?_
        refine aw_aload_n 34 d_Re_either_33 rfl rfl ?_
        obtain ⟨y34, h34, h⟩ := bnd h
        refine aw_getR 37 d_Re_either_34 rfl fg_Re_18 rfl h34 ?_
        refine aw_bipush (v := (12 : Int32)) 39 d_Re_either_37 rfl (by decide) ?_
        refine aw_iconst (v := (0 : Int32)) 40 d_Re_either_39 rfl (by decide) ?_
        obtain ⟨q40, h40, h⟩ := bnd h
        refine aw_invV (rest := []) (st' := [.int q40.1]) (As := [.int (12 : Int32), .int (0 : Int32)]) 43 d_Re_either_40 rfl lv_Re_91 (m_Pr_add h40) (by omega) (k_Pr_add h40) rfl rfl rfl (Nat.le_of_ble_eq_true rfl) rfl ?_
        refine aw_istore_n (loc' := [some (.ref a0), some (.int x1), some (.int x2), some (.int q40.1)]) 44 d_Re_either_43 rfl (by decide) rfl ?_
        refine aw_aload_n 45 d_Re_either_44 rfl rfl ?_
        refine aw_iload_n 46 d_Re_either_45 rfl rfl ?_
        obtain ⟨μ46, h46, h⟩ := bnd h
        refine aw_invV (rest := []) (st' := []) (As := [.int x1]) 49 d_Re_either_46 rfl lv_Re_88 (hrc.met 1 (by decide) h46) (by omega) (hrc.kind 1 (by decide) h46) rfl rfl rfl (Nat.le_of_ble_eq_true rfl) rfl ?_
        refine aw_aload_n 50 d_Re_either_49 rfl rfl ?_
        obtain ⟨y50, h50, h⟩ := bnd h
        refine aw_getR 53 d_Re_either_50 rfl fg_Re_18 rfl h50 ?_
        refine aw_iload_n 54 d_Re_either_53 rfl rfl ?_
        obtain ⟨μ54, h54, h⟩ := bnd h
        refine aw_invV (rest := []) (st' := []) (As := [.int q40.1]) 57 d_Re_either_54 rfl lv_Re_94 (m_Pr_land h54) (by omega) (k_Pr_land h54) rfl rfl rfl (Nat.le_of_ble_eq_true rfl) rfl ?_
        refine aw_iinc (v := (x2 + (1 : Int32))) (loc' := [some (.ref a0), some (.int x1), some (.int (x2 + (1 : Int32))), some (.int q40.1)]) 60 d_Re_either_57 rfl (by decide) rfl rfl rfl ?_
        refine aw_goto 7 d_Re_either_60 (by decide) ?_
        exact AW.wk [true, true, true, false] rfl (ih (x2 + (1 : Int32)) μ54 h)
theorem m_Re_either {l : Launch} {d : Nat} {q : MM} {rc : Nat → Nat → Int32 → MM → Option MM} (hrc : RCok l rc d) {a0 : Nat} {x1 : Int32} {μ : MM} (h : f_Re_either rc a0 x1 μ = some q) : AMet l (7 + d) Y_Re_either [.ref a0, .int x1] μ none q := by
  refine AMet.of (loc := [some (.ref a0), some (.int x1), none, none]) pn_Re_either (Nat.le_of_ble_eq_true rfl) rfl ?_
  unfold f_Re_either at h
  obtain ⟨_, hk, h⟩ := bnd h
  refine aw_aload_n 1 d_Re_either_0 rfl rfl ?_
  refine aw_iload_n 2 d_Re_either_1 rfl rfl ?_
  obtain ⟨μ2, h2, h⟩ := bnd h
  refine aw_invV (rest := []) (st' := []) (As := [.int x1]) 5 d_Re_either_2 rfl lv_Re_88 (hrc.met 1 (by decide) h2) (by omega) (hrc.kind 1 (by decide) h2) rfl rfl rfl (Nat.le_of_ble_eq_true rfl) rfl ?_
  refine aw_iconst (v := (0 : Int32)) 6 d_Re_either_5 rfl (by decide) ?_
  refine aw_istore_n (loc' := [some (.ref a0), some (.int x1), some (.int (0 : Int32)), none]) 7 d_Re_either_6 rfl (by decide) rfl ?_
  exact (l_Re_either_7 hrc FU _ _ h)
theorem k_Re_either {rc : Nat → Nat → Int32 → MM → Option MM} {q : MM} {a0 : Nat} {x1 : Int32} {μ : MM} (h : f_Re_either rc a0 x1 μ = some q) : μ.1[a0]? = some (0, 6) := by
  unfold f_Re_either at h
  obtain ⟨_, h1, _⟩ := bnd h
  exact kO_some h1
theorem l_Re_all_7 {l : Launch} {μ0 : MM} {d : Nat} {q : MM} {rc : Nat → Nat → Int32 → MM → Option MM} (hrc : RCok l rc d) {a0 : Nat} {x1 : Int32} : ∀ (n : Nat) (x2 : Int32) (μ : MM), f_Re_all_L7 rc a0 x1 n x2 μ = some q → AWm l Y_Re_all (7 + d) μ0 none q 7 [some (.ref a0), some (.int x1), some (.int x2), none] [] μ := by
  intro n
  induction n with
  | zero =>
    intro x2 μ h
    have h : (none : Option (MM)) = some q := h
    cases h
  | succ n ih =>
    intro x2 μ h
    rw [f_Re_all_L7] at h
    refine aw_iload_n 8 d_Re_all_7 rfl rfl ?_
    refine aw_sipush (v := (200 : Int32)) 11 d_Re_all_8 rfl (by decide) ?_
    refine aw_icmp_ge 63 14 d_Re_all_11 (by decide) rfl (fun c11 => ?_) (fun c11 => ?_)
    · have h := (if_pos c11).symm.trans h
      cases h
      exact aw_return d_Re_all_63 rfl
    · have h := (if_neg c11).symm.trans h
      refine aw_aload_n 15 d_Re_all_14 rfl rfl ?_
      obtain ⟨y15, h15, h⟩ := bnd h
      refine aw_invV (rest := []) (st' := [.int y15]) (As := []) 18 d_Re_all_15 rfl lv_Re_54 (m_Re_here h15) (by omega) (k_Re_here h15) rfl rfl rfl (Nat.le_of_ble_eq_true rfl) rfl ?_
      refine aw_bipush (v := (38 : Int32)) 20 d_Re_all_18 rfl (by decide) ?_
      refine aw_icmp_ne 63 23 d_Re_all_20 (by decide) rfl (fun c20 => ?_) (fun c20 => ?_)
      · have h := (if_neg c20).symm.trans h
        cases h
        exact aw_return d_Re_all_63 rfl
      · have h := (if_pos c20).symm.trans h
        refine aw_aload_n 24 d_Re_all_23 rfl rfl ?_
        refine aw_dup 25 d_Re_all_24 rfl rfl ?_
        obtain ⟨y25, h25, h⟩ := bnd h
        refine aw_getI 28 d_Re_all_25 rfl fg_Re_41 (Or.inl rfl) h25 ?_
        refine aw_iconst (v := (1 : Int32)) 29 d_Re_all_28 rfl (by decide) ?_
        refine aw_iadd 30 d_Re_all_29 rfl ?_
        obtain ⟨μ30, h30, h⟩ := bnd h
        refine aw_putI 33 false d_Re_all_30 rfl fp_Re_41 (fun z => nomatch z) rfl h30 ?_
        refine aw_aload_n 34 d_Re_all_33 rfl rfl ?_
        obtain ⟨y34, h34, h⟩ := bnd h
        refine aw_getR 37 d_Re_all_34 rfl fg_Re_18 rfl h34 ?_
        refine aw_bipush (v := (11 : Int32)) 39 d_Re_all_37 rfl (by decide) ?_
        refine aw_iconst (v := (0 : Int32)) 40 d_Re_all_39 rfl (by decide) ?_
        obtain ⟨q40, h40, h⟩ := bnd h
        refine aw_invV (rest := []) (st' := [.int q40.1]) (As := [.int (11 : Int32), .int (0 : Int32)]) 43 d_Re_all_40 rfl lv_Re_91 (m_Pr_add h40) (by omega) (k_Pr_add h40) rfl rfl rfl (Nat.le_of_ble_eq_true rfl) rfl ?_
        refine aw_istore_n (loc' := [some (.ref a0), some (.int x1), some (.int x2), some (.int q40.1)]) 44 d_Re_all_43 rfl (by decide) rfl ?_
        refine aw_aload_n 45 d_Re_all_44 rfl rfl ?_
        refine aw_iload_n 46 d_Re_all_45 rfl rfl ?_
        obtain ⟨μ46, h46, h⟩ := bnd h
        refine aw_invV (rest := []) (st' := []) (As := [.int x1]) 49 d_Re_all_46 rfl lv_Re_97 (hrc.met 2 (by decide) h46) (by omega) (hrc.kind 2 (by decide) h46) rfl rfl rfl (Nat.le_of_ble_eq_true rfl) rfl ?_
        refine aw_aload_n 50 d_Re_all_49 rfl rfl ?_
        obtain ⟨y50, h50, h⟩ := bnd h
        refine aw_getR 53 d_Re_all_50 rfl fg_Re_18 rfl h50 ?_
        refine aw_iload_n 54 d_Re_all_53 rfl rfl ?_
        obtain ⟨μ54, h54, h⟩ := bnd h
        refine aw_invV (rest := []) (st' := []) (As := [.int q40.1]) 57 d_Re_all_54 rfl lv_Re_94 (m_Pr_land h54) (by omega) (k_Pr_land h54) rfl rfl rfl (Nat.le_of_ble_eq_true rfl) rfl ?_
        refine aw_iinc (v := (x2 + (1 : Int32))) (loc' := [some (.ref a0), some (.int x1), some (.int (x2 + (1 : Int32))), some (.int q40.1)]) 60 d_Re_all_57 rfl (by decide) rfl rfl rfl ?_
        refine aw_goto 7 d_Re_all_60 (by decide) ?_
        exact AW.wk [true, true, true, false] rfl (ih (x2 + (1 : Int32)) μ54 h)
theorem m_Re_all {l : Launch} {d : Nat} {q : MM} {rc : Nat → Nat → Int32 → MM → Option MM} (hrc : RCok l rc d) {a0 : Nat} {x1 : Int32} {μ : MM} (h : f_Re_all rc a0 x1 μ = some q) : AMet l (7 + d) Y_Re_all [.ref a0, .int x1] μ none q := by
  refine AMet.of (loc := [some (.ref a0), some (.int x1), none, none]) pn_Re_all (Nat.le_of_ble_eq_true rfl) rfl ?_
  unfold f_Re_all at h
  obtain ⟨_, hk, h⟩ := bnd h
  refine aw_aload_n 1 d_Re_all_0 rfl rfl ?_
  refine aw_iload_n 2 d_Re_all_1 rfl rfl ?_
  obtain ⟨μ2, h2, h⟩ := bnd h
  refine aw_invV (rest := []) (st' := []) (As := [.int x1]) 5 d_Re_all_2 rfl lv_Re_97 (hrc.met 2 (by decide) h2) (by omega) (hrc.kind 2 (by decide) h2) rfl rfl rfl (Nat.le_of_ble_eq_true rfl) rfl ?_
  refine aw_iconst (v := (0 : Int32)) 6 d_Re_all_5 rfl (by decide) ?_
  refine aw_istore_n (loc' := [some (.ref a0), some (.int x1), some (.int (0 : Int32)), none]) 7 d_Re_all_6 rfl (by decide) rfl ?_
  exact (l_Re_all_7 hrc FU _ _ h)
theorem k_Re_all {rc : Nat → Nat → Int32 → MM → Option MM} {q : MM} {a0 : Nat} {x1 : Int32} {μ : MM} (h : f_Re_all rc a0 x1 μ = some q) : μ.1[a0]? = some (0, 6) := by
  unfold f_Re_all at h
  obtain ⟨_, h1, _⟩ := bnd h
  exact kO_some h1
theorem j_Re_piece_45 {l : Launch} {μ0 : MM} {d : Nat} {q : MM} {rc : Nat → Nat → Int32 → MM → Option MM} (hrc : RCok l rc d) {a0 : Nat} {x1 : Int32} {x2 : Int32} {μ : MM} (h : f_Re_piece_J45 rc a0 x1 x2 μ = some q) : AWm l Y_Re_piece (7 + d) μ0 none q 45 [some (.ref a0), some (.int x1), some (.int x2), none] [] μ := by
  unfold f_Re_piece_J45 at h
  refine aw_iload_n 46 d_Re_piece_45 rfl rfl ?_
  refine aw_bipush (v := (6 : Int32)) 48 d_Re_piece_46 rfl (by decide) ?_
  refine aw_icmp_lt 59 51 d_Re_piece_48 (by decide) rfl (fun c48 => ?_) (fun c48 => ?_)
  · have h := (if_pos c48).symm.trans h
    refine aw_iload_n 60 d_Re_piece_59 rfl rfl ?_
    refine aw_bipush (v := (33 : Int32)) 62 d_Re_piece_60 rfl (by decide) ?_
    refine aw_icmp_ne 96 65 d_Re_piece_62 (by decide) rfl (fun c62 => ?_) (fun c62 => ?_)
    · have h := (if_neg c62).symm.trans h
      refine aw_aload_n 97 d_Re_piece_96 rfl rfl ?_
      refine aw_dup 98 d_Re_piece_97 rfl rfl ?_
      obtain ⟨y98, h98, h⟩ := bnd h
      refine aw_getI 101 d_Re_piece_98 rfl fg_Re_41 (Or.inl rfl) h98 ?_
      refine aw_iconst (v := (1 : Int32)) 102 d_Re_piece_101 rfl (by decide) ?_
      refine aw_iadd 103 d_Re_piece_102 rfl ?_
      obtain ⟨μ103, h103, h⟩ := bnd h
      refine aw_putI 106 false d_Re_piece_103 rfl fp_Re_41 (fun z => nomatch z) rfl h103 ?_
      refine aw_aload_n 107 d_Re_piece_106 rfl rfl ?_
      refine aw_iload_n 108 d_Re_piece_107 rfl rfl ?_
      refine aw_iconst (v := (1 : Int32)) 109 d_Re_piece_108 rfl (by decide) ?_
      refine aw_iadd 110 d_Re_piece_109 rfl ?_
      obtain ⟨μ110, h110, h⟩ := bnd h
      refine aw_invV (rest := []) (st' := []) (As := [.int (x1 + (1 : Int32))]) 113 d_Re_piece_110 rfl lv_Re_82 (hrc.met 0 (by decide) h110) (by omega) (hrc.kind 0 (by decide) h110) rfl rfl rfl (Nat.le_of_ble_eq_true rfl) rfl ?_
      refine aw_aload_n 114 d_Re_piece_113 rfl rfl ?_
      refine aw_bipush (v := (41 : Int32)) 116 d_Re_piece_114 rfl (by decide) ?_
      obtain ⟨μ116, h116, h⟩ := bnd h
      refine aw_invV (rest := []) (st' := []) (As := [.int (41 : Int32)]) 119 d_Re_piece_116 rfl lv_Re_51 (m_Re_take h116) (by omega) (k_Re_take h116) rfl rfl rfl (Nat.le_of_ble_eq_true rfl) rfl ?_
      cases h
      exact aw_return d_Re_piece_119 rfl
    · have h := (if_pos c62).symm.trans h
      refine aw_aload_n 66 d_Re_piece_65 rfl rfl ?_
      refine aw_dup 67 d_Re_piece_66 rfl rfl ?_
      obtain ⟨y67, h67, h⟩ := bnd h
      refine aw_getI 70 d_Re_piece_67 rfl fg_Re_41 (Or.inl rfl) h67 ?_
      refine aw_iconst (v := (1 : Int32)) 71 d_Re_piece_70 rfl (by decide) ?_
      refine aw_iadd 72 d_Re_piece_71 rfl ?_
      obtain ⟨μ72, h72, h⟩ := bnd h
      refine aw_putI 75 false d_Re_piece_72 rfl fp_Re_41 (fun z => nomatch z) rfl h72 ?_
      refine aw_aload_n 76 d_Re_piece_75 rfl rfl ?_
      refine aw_iload_n 77 d_Re_piece_76 rfl rfl ?_
      refine aw_iconst (v := (1 : Int32)) 78 d_Re_piece_77 rfl (by decide) ?_
      refine aw_iadd 79 d_Re_piece_78 rfl ?_
      obtain ⟨μ79, h79, h⟩ := bnd h
      refine aw_invV (rest := []) (st' := []) (As := [.int (x1 + (1 : Int32))]) 82 d_Re_piece_79 rfl lv_Re_97 (hrc.met 2 (by decide) h79) (by omega) (hrc.kind 2 (by decide) h79) rfl rfl rfl (Nat.le_of_ble_eq_true rfl) rfl ?_
      refine aw_aload_n 83 d_Re_piece_82 rfl rfl ?_
      obtain ⟨y83, h83, h⟩ := bnd h
      refine aw_getR 86 d_Re_piece_83 rfl fg_Re_18 rfl h83 ?_
      refine aw_bipush (v := (10 : Int32)) 88 d_Re_piece_86 rfl (by decide) ?_
      refine aw_iconst (v := (0 : Int32)) 89 d_Re_piece_88 rfl (by decide) ?_
      obtain ⟨q89, h89, h⟩ := bnd h
      refine aw_invV (rest := []) (st' := [.int q89.1]) (As := [.int (10 : Int32), .int (0 : Int32)]) 92 d_Re_piece_89 rfl lv_Re_91 (m_Pr_add h89) (by omega) (k_Pr_add h89) rfl rfl rfl (Nat.le_of_ble_eq_true rfl) rfl ?_
      refine aw_pop 93 d_Re_piece_92 rfl rfl ?_
      refine aw_goto 119 d_Re_piece_93 (by decide) ?_
      cases h
      exact aw_return d_Re_piece_119 rfl
  · have h := (if_neg c48).symm.trans h
    refine aw_aload_n 52 d_Re_piece_51 rfl rfl ?_
    refine aw_iconst (v := (5 : Int32)) 53 d_Re_piece_52 rfl (by decide) ?_
    obtain ⟨μ53, h53, h⟩ := bnd h
    refine aw_invV (rest := []) (st' := []) (As := [.int (5 : Int32)]) 56 d_Re_piece_53 rfl lv_Re_58 (m_Re_fail h53) (by omega) (k_Re_fail h53) rfl rfl rfl (Nat.le_of_ble_eq_true rfl) rfl ?_
    refine aw_goto 119 d_Re_piece_56 (by decide) ?_
    cases h
    exact aw_return d_Re_piece_119 rfl
theorem m_Re_piece {l : Launch} {d : Nat} {q : MM} {rc : Nat → Nat → Int32 → MM → Option MM} (hrc : RCok l rc d) {a0 : Nat} {x1 : Int32} {μ : MM} (h : f_Re_piece rc a0 x1 μ = some q) : AMet l (7 + d) Y_Re_piece [.ref a0, .int x1] μ none q := by
  refine AMet.of (loc := [some (.ref a0), some (.int x1), none, none]) pn_Re_piece (Nat.le_of_ble_eq_true rfl) rfl ?_
  unfold f_Re_piece at h
  obtain ⟨_, hk, h⟩ := bnd h
  refine aw_aload_n 1 d_Re_piece_0 rfl rfl ?_
  obtain ⟨y1, h1, h⟩ := bnd h
  refine aw_invV (rest := []) (st' := [.int y1]) (As := []) 4 d_Re_piece_1 rfl lv_Re_54 (m_Re_here h1) (by omega) (k_Re_here h1) rfl rfl rfl (Nat.le_of_ble_eq_true rfl) rfl ?_
  refine aw_istore_n (loc' := [some (.ref a0), some (.int x1), some (.int y1), none]) 5 d_Re_piece_4 rfl (by decide) rfl ?_
  refine aw_iload_n 6 d_Re_piece_5 rfl rfl ?_
  refine aw_bipush (v := (33 : Int32)) 8 d_Re_piece_6 rfl (by decide) ?_
  refine aw_icmp_eq 45 11 d_Re_piece_8 (by decide) rfl (fun c8 => ?_) (fun c8 => ?_)
  · have h := (if_pos c8).symm.trans h
    exact (j_Re_piece_45 hrc h)
  · have h := (if_neg c8).symm.trans h
    refine aw_iload_n 12 d_Re_piece_11 rfl rfl ?_
    refine aw_bipush (v := (40 : Int32)) 14 d_Re_piece_12 rfl (by decide) ?_
    refine aw_icmp_eq 45 17 d_Re_piece_14 (by decide) rfl (fun c14 => ?_) (fun c14 => ?_)
    · have h := (if_pos c14).symm.trans h
      exact (j_Re_piece_45 hrc h)
    · have h := (if_neg c14).symm.trans h
      refine aw_aload_n 18 d_Re_piece_17 rfl rfl ?_
      refine aw_iload_n 19 d_Re_piece_18 rfl rfl ?_
      obtain ⟨μ19, h19, h⟩ := bnd h
      refine aw_invV (rest := []) (st' := []) (As := [.int x1]) 22 d_Re_piece_19 rfl lv_Re_76 (hrc.met 3 (by decide) h19) (by omega) (hrc.kind 3 (by decide) h19) rfl rfl rfl (Nat.le_of_ble_eq_true rfl) rfl ?_
      refine aw_aload_n 23 d_Re_piece_22 rfl rfl ?_
      obtain ⟨q23, h23, h⟩ := bnd h
      refine aw_invV (rest := []) (st' := [.int q23.1]) (As := []) 26 d_Re_piece_23 rfl lv_Re_100 (m_Re_comparison h23) (by omega) (k_Re_comparison h23) rfl rfl rfl (Nat.le_of_ble_eq_true rfl) rfl ?_
      refine aw_istore_n (loc' := [some (.ref a0), some (.int x1), some (.int y1), some (.int q23.1)]) 27 d_Re_piece_26 rfl (by decide) rfl ?_
      refine aw_aload_n 28 d_Re_piece_27 rfl rfl ?_
      refine aw_iload_n 29 d_Re_piece_28 rfl rfl ?_
      obtain ⟨μ29, h29, h⟩ := bnd h
      refine aw_invV (rest := []) (st' := []) (As := [.int x1]) 32 d_Re_piece_29 rfl lv_Re_76 (hrc.met 3 (by decide) h29) (by omega) (hrc.kind 3 (by decide) h29) rfl rfl rfl (Nat.le_of_ble_eq_true rfl) rfl ?_
      refine aw_aload_n 33 d_Re_piece_32 rfl rfl ?_
      obtain ⟨y33, h33, h⟩ := bnd h
      refine aw_getR 36 d_Re_piece_33 rfl fg_Re_18 rfl h33 ?_
      refine aw_iload_n 37 d_Re_piece_36 rfl rfl ?_
      refine aw_iconst (v := (0 : Int32)) 38 d_Re_piece_37 rfl (by decide) ?_
      obtain ⟨q38, h38, h⟩ := bnd h
      refine aw_invV (rest := []) (st' := [.int q38.1]) (As := [.int q23.1, .int (0 : Int32)]) 41 d_Re_piece_38 rfl lv_Re_91 (m_Pr_add h38) (by omega) (k_Pr_add h38) rfl rfl rfl (Nat.le_of_ble_eq_true rfl) rfl ?_
      refine aw_pop 42 d_Re_piece_41 rfl rfl ?_
      refine aw_goto 119 d_Re_piece_42 (by decide) ?_
      cases h
      exact aw_return d_Re_piece_119 rfl
theorem k_Re_piece {rc : Nat → Nat → Int32 → MM → Option MM} {q : MM} {a0 : Nat} {x1 : Int32} {μ : MM} (h : f_Re_piece rc a0 x1 μ = some q) : μ.1[a0]? = some (0, 6) := by
  unfold f_Re_piece at h
  obtain ⟨_, h1, _⟩ := bnd h
  exact kO_some h1
theorem j_Re_sum_46 {l : Launch} {μ0 : MM} {d : Nat} {q : MM} {rc : Nat → Nat → Int32 → MM → Option MM} (hrc : RCok l rc d) {a0 : Nat} {x1 : Int32} {x2 : Int32} {s0 : Int32} {μ : MM} {k7 : Int32 → MM → Option (MM)} (hk7 : ∀ (x2 : Int32) (μ : MM), k7 x2 μ = some q → AWm l Y_Re_sum (7 + d) μ0 none q 7 [some (.ref a0), some (.int x1), some (.int x2), none] [] μ) (h : f_Re_sum_J46 rc k7 a0 x1 x2 s0 μ = some q) : AWm l Y_Re_sum (7 + d) μ0 none q 46 [some (.ref a0), some (.int x1), some (.int x2), none] [.int s0] μ := by
  unfold f_Re_sum_J46 at h
  refine aw_istore_n (loc' := [some (.ref a0), some (.int x1), some (.int x2), some (.int s0)]) 47 d_Re_sum_46 rfl (by decide) rfl ?_
  refine aw_aload_n 48 d_Re_sum_47 rfl rfl ?_
  refine aw_dup 49 d_Re_sum_48 rfl rfl ?_
  obtain ⟨y49, h49, h⟩ := bnd h
  refine aw_getI 52 d_Re_sum_49 rfl fg_Re_41 (Or.inl rfl) h49 ?_
  refine aw_iconst (v := (1 : Int32)) 53 d_Re_sum_52 rfl (by decide) ?_
  refine aw_iadd 54 d_Re_sum_53 rfl ?_
  obtain ⟨μ54, h54, h⟩ := bnd h
  refine aw_putI 57 false d_Re_sum_54 rfl fp_Re_41 (fun z => nomatch z) rfl h54 ?_
  refine aw_aload_n 58 d_Re_sum_57 rfl rfl ?_
  refine aw_iload_n 59 d_Re_sum_58 rfl rfl ?_
  obtain ⟨μ59, h59, h⟩ := bnd h
  refine aw_invV (rest := []) (st' := []) (As := [.int x1]) 62 d_Re_sum_59 rfl lv_Re_103 (hrc.met 4 (by decide) h59) (by omega) (hrc.kind 4 (by decide) h59) rfl rfl rfl (Nat.le_of_ble_eq_true rfl) rfl ?_
  refine aw_aload_n 63 d_Re_sum_62 rfl rfl ?_
  obtain ⟨y63, h63, h⟩ := bnd h
  refine aw_getR 66 d_Re_sum_63 rfl fg_Re_18 rfl h63 ?_
  refine aw_iload_n 67 d_Re_sum_66 rfl rfl ?_
  refine aw_iconst (v := (0 : Int32)) 68 d_Re_sum_67 rfl (by decide) ?_
  obtain ⟨q68, h68, h⟩ := bnd h
  refine aw_invV (rest := []) (st' := [.int q68.1]) (As := [.int s0, .int (0 : Int32)]) 71 d_Re_sum_68 rfl lv_Re_91 (m_Pr_add h68) (by omega) (k_Pr_add h68) rfl rfl rfl (Nat.le_of_ble_eq_true rfl) rfl ?_
  refine aw_pop 72 d_Re_sum_71 rfl rfl ?_
  refine aw_iinc (v := (x2 + (1 : Int32))) (loc' := [some (.ref a0), some (.int x1), some (.int (x2 + (1 : Int32))), some (.int s0)]) 75 d_Re_sum_72 rfl (by decide) rfl rfl rfl ?_
  refine aw_goto 7 d_Re_sum_75 (by decide) ?_
  exact AW.wk [true, true, true, false] rfl (hk7 (x2 + (1 : Int32)) q68.2 h)
theorem j_Re_sum_32 {l : Launch} {μ0 : MM} {d : Nat} {q : MM} {rc : Nat → Nat → Int32 → MM → Option MM} (hrc : RCok l rc d) {a0 : Nat} {x1 : Int32} {x2 : Int32} {μ : MM} {k7 : Int32 → MM → Option (MM)} (hk7 : ∀ (x2 : Int32) (μ : MM), k7 x2 μ = some q → AWm l Y_Re_sum (7 + d) μ0 none q 7 [some (.ref a0), some (.int x1), some (.int x2), none] [] μ) (h : f_Re_sum_J32 rc k7 a0 x1 x2 μ = some q) : AWm l Y_Re_sum (7 + d) μ0 none q 32 [some (.ref a0), some (.int x1), some (.int x2), none] [] μ := by
  unfold f_Re_sum_J32 at h
  refine aw_aload_n 33 d_Re_sum_32 rfl rfl ?_
  obtain ⟨y33, h33, h⟩ := bnd h
  refine aw_invV (rest := []) (st' := [.int y33]) (As := []) 36 d_Re_sum_33 rfl lv_Re_54 (m_Re_here h33) (by omega) (k_Re_here h33) rfl rfl rfl (Nat.le_of_ble_eq_true rfl) rfl ?_
  refine aw_bipush (v := (43 : Int32)) 38 d_Re_sum_36 rfl (by decide) ?_
  refine aw_icmp_ne 45 41 d_Re_sum_38 (by decide) rfl (fun c38 => ?_) (fun c38 => ?_)
  · have h := (if_neg c38).symm.trans h
    refine aw_iconst (v := (3 : Int32)) 46 d_Re_sum_45 rfl (by decide) ?_
    exact (j_Re_sum_46 hrc hk7 h)
  · have h := (if_pos c38).symm.trans h
    refine aw_iconst (v := (2 : Int32)) 42 d_Re_sum_41 rfl (by decide) ?_
    refine aw_goto 46 d_Re_sum_42 (by decide) ?_
    exact (j_Re_sum_46 hrc hk7 h)
theorem l_Re_sum_7 {l : Launch} {μ0 : MM} {d : Nat} {q : MM} {rc : Nat → Nat → Int32 → MM → Option MM} (hrc : RCok l rc d) {a0 : Nat} {x1 : Int32} : ∀ (n : Nat) (x2 : Int32) (μ : MM), f_Re_sum_L7 rc a0 x1 n x2 μ = some q → AWm l Y_Re_sum (7 + d) μ0 none q 7 [some (.ref a0), some (.int x1), some (.int x2), none] [] μ := by
  intro n
  induction n with
  | zero =>
    intro x2 μ h
    have h : (none : Option (MM)) = some q := h
    cases h
  | succ n ih =>
    intro x2 μ h
    rw [f_Re_sum_L7] at h
    refine aw_iload_n 8 d_Re_sum_7 rfl rfl ?_
    refine aw_sipush (v := (200 : Int32)) 11 d_Re_sum_8 rfl (by decide) ?_
    refine aw_icmp_ge 78 14 d_Re_sum_11 (by decide) rfl (fun c11 => ?_) (fun c11 => ?_)
    · have h := (if_pos c11).symm.trans h
      cases h
      exact aw_return d_Re_sum_78 rfl
    · have h := (if_neg c11).symm.trans h
      refine aw_aload_n 15 d_Re_sum_14 rfl rfl ?_
      obtain ⟨y15, h15, h⟩ := bnd h
      refine aw_invV (rest := []) (st' := [.int y15]) (As := []) 18 d_Re_sum_15 rfl lv_Re_54 (m_Re_here h15) (by omega) (k_Re_here h15) rfl rfl rfl (Nat.le_of_ble_eq_true rfl) rfl ?_
      refine aw_bipush (v := (43 : Int32)) 20 d_Re_sum_18 rfl (by decide) ?_
      refine aw_icmp_eq 32 23 d_Re_sum_20 (by decide) rfl (fun c20 => ?_) (fun c20 => ?_)
      · have h := (if_pos c20).symm.trans h
        exact (j_Re_sum_32 hrc ih h)
      · have h := (if_neg c20).symm.trans h
        refine aw_aload_n 24 d_Re_sum_23 rfl rfl ?_
        obtain ⟨y24, h24, h⟩ := bnd h
        refine aw_invV (rest := []) (st' := [.int y24]) (As := []) 27 d_Re_sum_24 rfl lv_Re_54 (m_Re_here h24) (by omega) (k_Re_here h24) rfl rfl rfl (Nat.le_of_ble_eq_true rfl) rfl ?_
        refine aw_bipush (v := (45 : Int32)) 29 d_Re_sum_27 rfl (by decide) ?_
        refine aw_icmp_ne 78 32 d_Re_sum_29 (by decide) rfl (fun c29 => ?_) (fun c29 => ?_)
        · have h := (if_neg c29).symm.trans h
          cases h
          exact aw_return d_Re_sum_78 rfl
        · have h := (if_pos c29).symm.trans h
          exact (j_Re_sum_32 hrc ih h)
theorem m_Re_sum {l : Launch} {d : Nat} {q : MM} {rc : Nat → Nat → Int32 → MM → Option MM} (hrc : RCok l rc d) {a0 : Nat} {x1 : Int32} {μ : MM} (h : f_Re_sum rc a0 x1 μ = some q) : AMet l (7 + d) Y_Re_sum [.ref a0, .int x1] μ none q := by
  refine AMet.of (loc := [some (.ref a0), some (.int x1), none, none]) pn_Re_sum (Nat.le_of_ble_eq_true rfl) rfl ?_
  unfold f_Re_sum at h
  obtain ⟨_, hk, h⟩ := bnd h
  refine aw_aload_n 1 d_Re_sum_0 rfl rfl ?_
  refine aw_iload_n 2 d_Re_sum_1 rfl rfl ?_
  obtain ⟨μ2, h2, h⟩ := bnd h
  refine aw_invV (rest := []) (st' := []) (As := [.int x1]) 5 d_Re_sum_2 rfl lv_Re_103 (hrc.met 4 (by decide) h2) (by omega) (hrc.kind 4 (by decide) h2) rfl rfl rfl (Nat.le_of_ble_eq_true rfl) rfl ?_
  refine aw_iconst (v := (0 : Int32)) 6 d_Re_sum_5 rfl (by decide) ?_
  refine aw_istore_n (loc' := [some (.ref a0), some (.int x1), some (.int (0 : Int32)), none]) 7 d_Re_sum_6 rfl (by decide) rfl ?_
  exact (l_Re_sum_7 hrc FU _ _ h)
theorem k_Re_sum {rc : Nat → Nat → Int32 → MM → Option MM} {q : MM} {a0 : Nat} {x1 : Int32} {μ : MM} (h : f_Re_sum rc a0 x1 μ = some q) : μ.1[a0]? = some (0, 6) := by
  unfold f_Re_sum at h
  obtain ⟨_, h1, _⟩ := bnd h
  exact kO_some h1
theorem j_Re_product_69 {l : Launch} {μ0 : MM} {d : Nat} {q : MM} {rc : Nat → Nat → Int32 → MM → Option MM} (hrc : RCok l rc d) {a0 : Nat} {x1 : Int32} {x2 : Int32} {s0 : Int32} {μ : MM} {k7 : Int32 → MM → Option (MM)} (hk7 : ∀ (x2 : Int32) (μ : MM), k7 x2 μ = some q → AWm l Y_Re_product (7 + d) μ0 none q 7 [some (.ref a0), some (.int x1), some (.int x2), none] [] μ) (h : f_Re_product_J69 rc k7 a0 x1 x2 s0 μ = some q) : AWm l Y_Re_product (7 + d) μ0 none q 69 [some (.ref a0), some (.int x1), some (.int x2), none] [.int s0] μ := by
  unfold f_Re_product_J69 at h
  refine aw_istore_n (loc' := [some (.ref a0), some (.int x1), some (.int x2), some (.int s0)]) 70 d_Re_product_69 rfl (by decide) rfl ?_
  refine aw_aload_n 71 d_Re_product_70 rfl rfl ?_
  refine aw_dup 72 d_Re_product_71 rfl rfl ?_
  obtain ⟨y72, h72, h⟩ := bnd h
  refine aw_getI 75 d_Re_product_72 rfl fg_Re_41 (Or.inl rfl) h72 ?_
  refine aw_iconst (v := (1 : Int32)) 76 d_Re_product_75 rfl (by decide) ?_
  refine aw_iadd 77 d_Re_product_76 rfl ?_
  obtain ⟨μ77, h77, h⟩ := bnd h
  refine aw_putI 80 false d_Re_product_77 rfl fp_Re_41 (fun z => nomatch z) rfl h77 ?_
  refine aw_aload_n 81 d_Re_product_80 rfl rfl ?_
  refine aw_iload_n 82 d_Re_product_81 rfl rfl ?_
  obtain ⟨μ82, h82, h⟩ := bnd h
  refine aw_invV (rest := []) (st' := []) (As := [.int x1]) 85 d_Re_product_82 rfl lv_Re_106 (hrc.met 5 (by decide) h82) (by omega) (hrc.kind 5 (by decide) h82) rfl rfl rfl (Nat.le_of_ble_eq_true rfl) rfl ?_
  refine aw_aload_n 86 d_Re_product_85 rfl rfl ?_
  obtain ⟨y86, h86, h⟩ := bnd h
  refine aw_getR 89 d_Re_product_86 rfl fg_Re_18 rfl h86 ?_
  refine aw_iload_n 90 d_Re_product_89 rfl rfl ?_
  refine aw_iconst (v := (0 : Int32)) 91 d_Re_product_90 rfl (by decide) ?_
  obtain ⟨q91, h91, h⟩ := bnd h
  refine aw_invV (rest := []) (st' := [.int q91.1]) (As := [.int s0, .int (0 : Int32)]) 94 d_Re_product_91 rfl lv_Re_91 (m_Pr_add h91) (by omega) (k_Pr_add h91) rfl rfl rfl (Nat.le_of_ble_eq_true rfl) rfl ?_
  refine aw_pop 95 d_Re_product_94 rfl rfl ?_
  refine aw_iinc (v := (x2 + (1 : Int32))) (loc' := [some (.ref a0), some (.int x1), some (.int (x2 + (1 : Int32))), some (.int s0)]) 98 d_Re_product_95 rfl (by decide) rfl rfl rfl ?_
  refine aw_goto 7 d_Re_product_98 (by decide) ?_
  exact AW.wk [true, true, true, false] rfl (hk7 (x2 + (1 : Int32)) q91.2 h)
theorem j_Re_product_41 {l : Launch} {μ0 : MM} {d : Nat} {q : MM} {rc : Nat → Nat → Int32 → MM → Option MM} (hrc : RCok l rc d) {a0 : Nat} {x1 : Int32} {x2 : Int32} {μ : MM} {k7 : Int32 → MM → Option (MM)} (hk7 : ∀ (x2 : Int32) (μ : MM), k7 x2 μ = some q → AWm l Y_Re_product (7 + d) μ0 none q 7 [some (.ref a0), some (.int x1), some (.int x2), none] [] μ) (h : f_Re_product_J41 rc k7 a0 x1 x2 μ = some q) : AWm l Y_Re_product (7 + d) μ0 none q 41 [some (.ref a0), some (.int x1), some (.int x2), none] [] μ := by
  unfold f_Re_product_J41 at h
  refine aw_aload_n 42 d_Re_product_41 rfl rfl ?_
  obtain ⟨y42, h42, h⟩ := bnd h
  refine aw_invV (rest := []) (st' := [.int y42]) (As := []) 45 d_Re_product_42 rfl lv_Re_54 (m_Re_here h42) (by omega) (k_Re_here h42) rfl rfl rfl (Nat.le_of_ble_eq_true rfl) rfl ?_
  refine aw_bipush (v := (42 : Int32)) 47 d_Re_product_45 rfl (by decide) ?_
  refine aw_icmp_ne 54 50 d_Re_product_47 (by decide) rfl (fun c47 => ?_) (fun c47 => ?_)
  · have h := (if_neg c47).symm.trans h
    refine aw_aload_n 55 d_Re_product_54 rfl rfl ?_
    obtain ⟨y55, h55, h⟩ := bnd h
    refine aw_invV (rest := []) (st' := [.int y55]) (As := []) 58 d_Re_product_55 rfl lv_Re_54 (m_Re_here h55) (by omega) (k_Re_here h55) rfl rfl rfl (Nat.le_of_ble_eq_true rfl) rfl ?_
    refine aw_bipush (v := (47 : Int32)) 60 d_Re_product_58 rfl (by decide) ?_
    refine aw_icmp_ne 67 63 d_Re_product_60 (by decide) rfl (fun c60 => ?_) (fun c60 => ?_)
    · have h := (if_neg c60).symm.trans h
      refine aw_bipush (v := (6 : Int32)) 69 d_Re_product_67 rfl (by decide) ?_
      exact (j_Re_product_69 hrc hk7 h)
    · have h := (if_pos c60).symm.trans h
      refine aw_iconst (v := (5 : Int32)) 64 d_Re_product_63 rfl (by decide) ?_
      refine aw_goto 69 d_Re_product_64 (by decide) ?_
      exact (j_Re_product_69 hrc hk7 h)
  · have h := (if_pos c47).symm.trans h
    refine aw_iconst (v := (4 : Int32)) 51 d_Re_product_50 rfl (by decide) ?_
    refine aw_goto 69 d_Re_product_51 (by decide) ?_
    exact (j_Re_product_69 hrc hk7 h)
theorem l_Re_product_7 {l : Launch} {μ0 : MM} {d : Nat} {q : MM} {rc : Nat → Nat → Int32 → MM → Option MM} (hrc : RCok l rc d) {a0 : Nat} {x1 : Int32} : ∀ (n : Nat) (x2 : Int32) (μ : MM), f_Re_product_L7 rc a0 x1 n x2 μ = some q → AWm l Y_Re_product (7 + d) μ0 none q 7 [some (.ref a0), some (.int x1), some (.int x2), none] [] μ := by
  intro n
  induction n with
  | zero =>
    intro x2 μ h
    have h : (none : Option (MM)) = some q := h
    cases h
  | succ n ih =>
    intro x2 μ h
    rw [f_Re_product_L7] at h
    refine aw_iload_n 8 d_Re_product_7 rfl rfl ?_
    refine aw_sipush (v := (200 : Int32)) 11 d_Re_product_8 rfl (by decide) ?_
    refine aw_icmp_ge 101 14 d_Re_product_11 (by decide) rfl (fun c11 => ?_) (fun c11 => ?_)
    · have h := (if_pos c11).symm.trans h
      cases h
      exact aw_return d_Re_product_101 rfl
    · have h := (if_neg c11).symm.trans h
      refine aw_aload_n 15 d_Re_product_14 rfl rfl ?_
      obtain ⟨y15, h15, h⟩ := bnd h
      refine aw_invV (rest := []) (st' := [.int y15]) (As := []) 18 d_Re_product_15 rfl lv_Re_54 (m_Re_here h15) (by omega) (k_Re_here h15) rfl rfl rfl (Nat.le_of_ble_eq_true rfl) rfl ?_
      refine aw_bipush (v := (42 : Int32)) 20 d_Re_product_18 rfl (by decide) ?_
      refine aw_icmp_eq 41 23 d_Re_product_20 (by decide) rfl (fun c20 => ?_) (fun c20 => ?_)
      · have h := (if_pos c20).symm.trans h
        exact (j_Re_product_41 hrc ih h)
      · have h := (if_neg c20).symm.trans h
        refine aw_aload_n 24 d_Re_product_23 rfl rfl ?_
        obtain ⟨y24, h24, h⟩ := bnd h
        refine aw_invV (rest := []) (st' := [.int y24]) (As := []) 27 d_Re_product_24 rfl lv_Re_54 (m_Re_here h24) (by omega) (k_Re_here h24) rfl rfl rfl (Nat.le_of_ble_eq_true rfl) rfl ?_
        refine aw_bipush (v := (47 : Int32)) 29 d_Re_product_27 rfl (by decide) ?_
        refine aw_icmp_eq 41 32 d_Re_product_29 (by decide) rfl (fun c29 => ?_) (fun c29 => ?_)
        · have h := (if_pos c29).symm.trans h
          exact (j_Re_product_41 hrc ih h)
        · have h := (if_neg c29).symm.trans h
          refine aw_aload_n 33 d_Re_product_32 rfl rfl ?_
          obtain ⟨y33, h33, h⟩ := bnd h
          refine aw_invV (rest := []) (st' := [.int y33]) (As := []) 36 d_Re_product_33 rfl lv_Re_54 (m_Re_here h33) (by omega) (k_Re_here h33) rfl rfl rfl (Nat.le_of_ble_eq_true rfl) rfl ?_
          refine aw_bipush (v := (37 : Int32)) 38 d_Re_product_36 rfl (by decide) ?_
          refine aw_icmp_ne 101 41 d_Re_product_38 (by decide) rfl (fun c38 => ?_) (fun c38 => ?_)
          · have h := (if_neg c38).symm.trans h
            cases h
            exact aw_return d_Re_product_101 rfl
          · have h := (if_pos c38).symm.trans h
            exact (j_Re_product_41 hrc ih h)
theorem m_Re_product {l : Launch} {d : Nat} {q : MM} {rc : Nat → Nat → Int32 → MM → Option MM} (hrc : RCok l rc d) {a0 : Nat} {x1 : Int32} {μ : MM} (h : f_Re_product rc a0 x1 μ = some q) : AMet l (7 + d) Y_Re_product [.ref a0, .int x1] μ none q := by
  refine AMet.of (loc := [some (.ref a0), some (.int x1), none, none]) pn_Re_product (Nat.le_of_ble_eq_true rfl) rfl ?_
  unfold f_Re_product at h
  obtain ⟨_, hk, h⟩ := bnd h
  refine aw_aload_n 1 d_Re_product_0 rfl rfl ?_
  refine aw_iload_n 2 d_Re_product_1 rfl rfl ?_
  obtain ⟨μ2, h2, h⟩ := bnd h
  refine aw_invV (rest := []) (st' := []) (As := [.int x1]) 5 d_Re_product_2 rfl lv_Re_106 (hrc.met 5 (by decide) h2) (by omega) (hrc.kind 5 (by decide) h2) rfl rfl rfl (Nat.le_of_ble_eq_true rfl) rfl ?_
  refine aw_iconst (v := (0 : Int32)) 6 d_Re_product_5 rfl (by decide) ?_
  refine aw_istore_n (loc' := [some (.ref a0), some (.int x1), some (.int (0 : Int32)), none]) 7 d_Re_product_6 rfl (by decide) rfl ?_
  exact (l_Re_product_7 hrc FU _ _ h)
theorem k_Re_product {rc : Nat → Nat → Int32 → MM → Option MM} {q : MM} {a0 : Nat} {x1 : Int32} {μ : MM} (h : f_Re_product rc a0 x1 μ = some q) : μ.1[a0]? = some (0, 6) := by
  unfold f_Re_product at h
  obtain ⟨_, h1, _⟩ := bnd h
  exact kO_some h1
theorem m_Re_factor {l : Launch} {d : Nat} {q : MM} {rc : Nat → Nat → Int32 → MM → Option MM} (hrc : RCok l rc d) {a0 : Nat} {x1 : Int32} {μ : MM} (h : f_Re_factor rc a0 x1 μ = some q) : AMet l (7 + d) Y_Re_factor [.ref a0, .int x1] μ none q := by
  refine AMet.of (loc := [some (.ref a0), some (.int x1), none, none]) pn_Re_factor (Nat.le_of_ble_eq_true rfl) rfl ?_
  unfold f_Re_factor at h
  obtain ⟨_, hk, h⟩ := bnd h
  refine aw_aload_n 1 d_Re_factor_0 rfl rfl ?_
  obtain ⟨y1, h1, h⟩ := bnd h
  refine aw_invV (rest := []) (st' := [.int y1]) (As := []) 4 d_Re_factor_1 rfl lv_Re_54 (m_Re_here h1) (by omega) (k_Re_here h1) rfl rfl rfl (Nat.le_of_ble_eq_true rfl) rfl ?_
  refine aw_istore_n (loc' := [some (.ref a0), some (.int x1), some (.int y1), none]) 5 d_Re_factor_4 rfl (by decide) rfl ?_
  refine aw_ldcS (i := 0) 7 d_Re_factor_5 rfl sr_Re_109 ?_
  refine aw_iload_n 8 d_Re_factor_7 rfl rfl ?_
  obtain ⟨y8, h8, h⟩ := bnd h
  refine aw_invS (rest := []) (st' := [.int y8]) (As := [.ref (LIM + 0), .int y1]) 11 d_Re_factor_8 rfl ls_Re_69 (m_Re_indexIn h8) (by omega) rfl rfl (Nat.le_of_ble_eq_true rfl) rfl ?_
  refine aw_istore_n (loc' := [some (.ref a0), some (.int x1), some (.int y1), some (.int y8)]) 12 d_Re_factor_11 rfl (by decide) rfl ?_
  refine aw_iload_n 13 d_Re_factor_12 rfl rfl ?_
  refine aw_iconst (v := (-1 : Int32)) 14 d_Re_factor_13 rfl (by decide) ?_
  refine aw_icmp_eq 40 17 d_Re_factor_14 (by decide) rfl (fun c14 => ?_) (fun c14 => ?_)
  · have h := (if_pos c14).symm.trans h
    refine aw_iload_n 41 d_Re_factor_40 rfl rfl ?_
    obtain ⟨y41, h41, h⟩ := bnd h
    refine aw_invS (rest := []) (st' := [.int y41]) (As := [.int y1]) 44 d_Re_factor_41 rfl ls_Re_111 (m_Re_isDigit h41) (by omega) rfl rfl (Nat.le_of_ble_eq_true rfl) rfl ?_
    refine aw_if_eq 54 47 d_Re_factor_44 (by decide) rfl (fun c44 => ?_) (fun c44 => ?_)
    · have h := (if_pos c44).symm.trans h
      refine aw_iload_n 55 d_Re_factor_54 rfl rfl ?_
      refine aw_bipush (v := (91 : Int32)) 57 d_Re_factor_55 rfl (by decide) ?_
      refine aw_icmp_eq 68 60 d_Re_factor_57 (by decide) rfl (fun c57 => ?_) (fun c57 => ?_)
      · have h := (if_pos c57).symm.trans h
        refine aw_iload_n 69 d_Re_factor_68 rfl rfl ?_
        refine aw_bipush (v := (6 : Int32)) 71 d_Re_factor_69 rfl (by decide) ?_
        refine aw_icmp_lt 82 74 d_Re_factor_71 (by decide) rfl (fun c71 => ?_) (fun c71 => ?_)
        · have h := (if_pos c71).symm.trans h
          refine aw_aload_n 83 d_Re_factor_82 rfl rfl ?_
          refine aw_dup 84 d_Re_factor_83 rfl rfl ?_
          obtain ⟨y84, h84, h⟩ := bnd h
          refine aw_getI 87 d_Re_factor_84 rfl fg_Re_41 (Or.inl rfl) h84 ?_
          refine aw_iconst (v := (1 : Int32)) 88 d_Re_factor_87 rfl (by decide) ?_
          refine aw_iadd 89 d_Re_factor_88 rfl ?_
          obtain ⟨μ89, h89, h⟩ := bnd h
          refine aw_putI 92 false d_Re_factor_89 rfl fp_Re_41 (fun z => nomatch z) rfl h89 ?_
          refine aw_aload_n 93 d_Re_factor_92 rfl rfl ?_
          refine aw_iload_n 94 d_Re_factor_93 rfl rfl ?_
          refine aw_iconst (v := (1 : Int32)) 95 d_Re_factor_94 rfl (by decide) ?_
          refine aw_iadd 96 d_Re_factor_95 rfl ?_
          obtain ⟨μ96, h96, h⟩ := bnd h
          refine aw_invV (rest := []) (st' := []) (As := [.int (x1 + (1 : Int32))]) 99 d_Re_factor_96 rfl lv_Re_76 (hrc.met 3 (by decide) h96) (by omega) (hrc.kind 3 (by decide) h96) rfl rfl rfl (Nat.le_of_ble_eq_true rfl) rfl ?_
          refine aw_aload_n 100 d_Re_factor_99 rfl rfl ?_
          refine aw_bipush (v := (93 : Int32)) 102 d_Re_factor_100 rfl (by decide) ?_
          obtain ⟨μ102, h102, h⟩ := bnd h
          refine aw_invV (rest := []) (st' := []) (As := [.int (93 : Int32)]) 105 d_Re_factor_102 rfl lv_Re_51 (m_Re_take h102) (by omega) (k_Re_take h102) rfl rfl rfl (Nat.le_of_ble_eq_true rfl) rfl ?_
          cases h
          exact aw_return d_Re_factor_105 rfl
        · have h := (if_neg c71).symm.trans h
          refine aw_aload_n 75 d_Re_factor_74 rfl rfl ?_
          refine aw_iconst (v := (5 : Int32)) 76 d_Re_factor_75 rfl (by decide) ?_
          obtain ⟨μ76, h76, h⟩ := bnd h
          refine aw_invV (rest := []) (st' := []) (As := [.int (5 : Int32)]) 79 d_Re_factor_76 rfl lv_Re_58 (m_Re_fail h76) (by omega) (k_Re_fail h76) rfl rfl rfl (Nat.le_of_ble_eq_true rfl) rfl ?_
          refine aw_goto 105 d_Re_factor_79 (by decide) ?_
          cases h
          exact aw_return d_Re_factor_105 rfl
      · have h := (if_neg c57).symm.trans h
        refine aw_aload_n 61 d_Re_factor_60 rfl rfl ?_
        refine aw_iconst (v := (1 : Int32)) 62 d_Re_factor_61 rfl (by decide) ?_
        obtain ⟨μ62, h62, h⟩ := bnd h
        refine aw_invV (rest := []) (st' := []) (As := [.int (1 : Int32)]) 65 d_Re_factor_62 rfl lv_Re_58 (m_Re_fail h62) (by omega) (k_Re_fail h62) rfl rfl rfl (Nat.le_of_ble_eq_true rfl) rfl ?_
        refine aw_goto 105 d_Re_factor_65 (by decide) ?_
        cases h
        exact aw_return d_Re_factor_105 rfl
    · have h := (if_neg c44).symm.trans h
      refine aw_aload_n 48 d_Re_factor_47 rfl rfl ?_
      obtain ⟨μ48, h48, h⟩ := bnd h
      refine aw_invV (rest := []) (st' := []) (As := []) 51 d_Re_factor_48 rfl lv_Re_115 (m_Re_number h48) (by omega) (k_Re_number h48) rfl rfl rfl (Nat.le_of_ble_eq_true rfl) rfl ?_
      refine aw_goto 105 d_Re_factor_51 (by decide) ?_
      cases h
      exact aw_return d_Re_factor_105 rfl
  · have h := (if_neg c14).symm.trans h
    refine aw_aload_n 18 d_Re_factor_17 rfl rfl ?_
    refine aw_dup 19 d_Re_factor_18 rfl rfl ?_
    obtain ⟨y19, h19, h⟩ := bnd h
    refine aw_getI 22 d_Re_factor_19 rfl fg_Re_41 (Or.inl rfl) h19 ?_
    refine aw_iconst (v := (1 : Int32)) 23 d_Re_factor_22 rfl (by decide) ?_
    refine aw_iadd 24 d_Re_factor_23 rfl ?_
    obtain ⟨μ24, h24, h⟩ := bnd h
    refine aw_putI 27 false d_Re_factor_24 rfl fp_Re_41 (fun z => nomatch z) rfl h24 ?_
    refine aw_aload_n 28 d_Re_factor_27 rfl rfl ?_
    obtain ⟨y28, h28, h⟩ := bnd h
    refine aw_getR 31 d_Re_factor_28 rfl fg_Re_18 rfl h28 ?_
    refine aw_iconst (v := (1 : Int32)) 32 d_Re_factor_31 rfl (by decide) ?_
    refine aw_iload_n 33 d_Re_factor_32 rfl rfl ?_
    obtain ⟨q33, h33, h⟩ := bnd h
    refine aw_invV (rest := []) (st' := [.int q33.1]) (As := [.int (1 : Int32), .int y8]) 36 d_Re_factor_33 rfl lv_Re_91 (m_Pr_add h33) (by omega) (k_Pr_add h33) rfl rfl rfl (Nat.le_of_ble_eq_true rfl) rfl ?_
    refine aw_pop 37 d_Re_factor_36 rfl rfl ?_
    refine aw_goto 105 d_Re_factor_37 (by decide) ?_
    cases h
    exact aw_return d_Re_factor_105 rfl
theorem k_Re_factor {rc : Nat → Nat → Int32 → MM → Option MM} {q : MM} {a0 : Nat} {x1 : Int32} {μ : MM} (h : f_Re_factor rc a0 x1 μ = some q) : μ.1[a0]? = some (0, 6) := by
  unfold f_Re_factor at h
  obtain ⟨_, h1, _⟩ := bnd h
  exact kO_some h1
theorem rec_ok {l : Launch} : ∀ d : Nat, RCok l (f_Re_rec d) d := by
  intro d
  induction d with
  | zero => intro t ht a x μ q h; cases (show (none : Option MM) = some q from h)
  | succ d ih =>
    intro t ht a x μ q h
    rw [f_Re_rec] at h
    rw [show 6 + (d + 1) = 7 + d by omega]
    match t, ht, h with
    | 0, _, h => exact ⟨m_Re_either ih h, k_Re_either h⟩
    | 1, _, h => exact ⟨m_Re_all ih h, k_Re_all h⟩
    | 2, _, h => exact ⟨m_Re_piece ih h, k_Re_piece h⟩
    | 3, _, h => exact ⟨m_Re_sum ih h, k_Re_sum h⟩
    | 4, _, h => exact ⟨m_Re_product ih h, k_Re_product h⟩
    | 5, _, h => exact ⟨m_Re_factor ih h, k_Re_factor h⟩
theorem m_Pr_divide {l : Launch} {q : MM} {a0 : Nat} {μ : MM} (h : f_Pr_divide a0 μ = some q) : AMet l 1 Y_Pr_divide [.ref a0] μ none q := by
  refine AMet.of (loc := [some (.ref a0)]) pn_Pr_divide (Nat.le_of_ble_eq_true rfl) rfl ?_
  unfold f_Pr_divide at h
  obtain ⟨_, hk, h⟩ := bnd h
  refine aw_aload_n 1 d_Pr_divide_0 rfl rfl ?_
  obtain ⟨y1, h1, h⟩ := bnd h
  refine aw_getI 4 d_Pr_divide_1 rfl fg_Pr_36 (Or.inl rfl) h1 ?_
  refine aw_bipush (v := (14 : Int32)) 6 d_Pr_divide_4 rfl (by decide) ?_
  refine aw_icmp_ge 22 9 d_Pr_divide_6 (by decide) rfl (fun c6 => ?_) (fun c6 => ?_)
  · have h := (if_pos c6).symm.trans h
    cases h
    exact aw_return d_Pr_divide_22 rfl
  · have h := (if_neg c6).symm.trans h
    refine aw_aload_n 10 d_Pr_divide_9 rfl rfl ?_
    obtain ⟨y10, h10, h⟩ := bnd h
    refine aw_getR 13 d_Pr_divide_10 rfl fg_Pr_29 rfl h10 ?_
    refine aw_aload_n 14 d_Pr_divide_13 rfl rfl ?_
    obtain ⟨y14, h14, h⟩ := bnd h
    refine aw_getI 17 d_Pr_divide_14 rfl fg_Pr_36 (Or.inl rfl) h14 ?_
    refine aw_aload_n 18 d_Pr_divide_17 rfl rfl ?_
    obtain ⟨y18, h18, h⟩ := bnd h
    refine aw_getI 21 d_Pr_divide_18 rfl fg_Pr_32 (Or.inl rfl) h18 ?_
    obtain ⟨μ21, h21, h⟩ := bnd h
    refine aw_iast 22 d_Pr_divide_21 rfl h21 ?_
    cases h
    exact aw_return d_Pr_divide_22 rfl
theorem k_Pr_divide {q : MM} {a0 : Nat} {μ : MM} (h : f_Pr_divide a0 μ = some q) : μ.1[a0]? = some (0, 5) := by
  unfold f_Pr_divide at h
  obtain ⟨_, h1, _⟩ := bnd h
  exact kO_some h1
theorem m_Pr_close {l : Launch} {q : MM} {a0 : Nat} {μ : MM} (h : f_Pr_close a0 μ = some q) : AMet l 1 Y_Pr_close [.ref a0] μ none q := by
  refine AMet.of (loc := [some (.ref a0)]) pn_Pr_close (Nat.le_of_ble_eq_true rfl) rfl ?_
  unfold f_Pr_close at h
  obtain ⟨_, hk, h⟩ := bnd h
  refine aw_aload_n 1 d_Pr_close_0 rfl rfl ?_
  obtain ⟨y1, h1, h⟩ := bnd h
  refine aw_getI 4 d_Pr_close_1 rfl fg_Pr_36 (Or.inl rfl) h1 ?_
  refine aw_bipush (v := (14 : Int32)) 6 d_Pr_close_4 rfl (by decide) ?_
  refine aw_icmp_ge 32 9 d_Pr_close_6 (by decide) rfl (fun c6 => ?_) (fun c6 => ?_)
  · have h := (if_pos c6).symm.trans h
    cases h
    exact aw_return d_Pr_close_32 rfl
  · have h := (if_neg c6).symm.trans h
    refine aw_aload_n 10 d_Pr_close_9 rfl rfl ?_
    refine aw_dup 11 d_Pr_close_10 rfl rfl ?_
    obtain ⟨y11, h11, h⟩ := bnd h
    refine aw_getI 14 d_Pr_close_11 rfl fg_Pr_36 (Or.inl rfl) h11 ?_
    refine aw_iconst (v := (1 : Int32)) 15 d_Pr_close_14 rfl (by decide) ?_
    refine aw_iadd 16 d_Pr_close_15 rfl ?_
    obtain ⟨μ16, h16, h⟩ := bnd h
    refine aw_putI 19 false d_Pr_close_16 rfl fp_Pr_36 (fun z => nomatch z) rfl h16 ?_
    refine aw_aload_n 20 d_Pr_close_19 rfl rfl ?_
    obtain ⟨y20, h20, h⟩ := bnd h
    refine aw_getR 23 d_Pr_close_20 rfl fg_Pr_26 rfl h20 ?_
    refine aw_aload_n 24 d_Pr_close_23 rfl rfl ?_
    obtain ⟨y24, h24, h⟩ := bnd h
    refine aw_getI 27 d_Pr_close_24 rfl fg_Pr_36 (Or.inl rfl) h24 ?_
    refine aw_aload_n 28 d_Pr_close_27 rfl rfl ?_
    obtain ⟨y28, h28, h⟩ := bnd h
    refine aw_getI 31 d_Pr_close_28 rfl fg_Pr_32 (Or.inl rfl) h28 ?_
    obtain ⟨μ31, h31, h⟩ := bnd h
    refine aw_iast 32 d_Pr_close_31 rfl h31 ?_
    cases h
    exact aw_return d_Pr_close_32 rfl
theorem k_Pr_close {q : MM} {a0 : Nat} {μ : MM} (h : f_Pr_close a0 μ = some q) : μ.1[a0]? = some (0, 5) := by
  unfold f_Pr_close at h
  obtain ⟨_, h1, _⟩ := bnd h
  exact kO_some h1
theorem m_Re_clause {l : Launch} {q : MM} {a0 : Nat} {x1 : Int32} {μ : MM} (h : f_Re_clause a0 x1 μ = some q) : AMet l 127 Y_Re_clause [.ref a0, .int x1] μ none q := by
  refine AMet.of (loc := [some (.ref a0), some (.int x1), none]) pn_Re_clause (Nat.le_of_ble_eq_true rfl) rfl ?_
  unfold f_Re_clause at h
  obtain ⟨_, hk, h⟩ := bnd h
  refine aw_ldcS (i := 1) 2 d_Re_clause_0 rfl sr_Re_67 ?_
  refine aw_aload_n 3 d_Re_clause_2 rfl rfl ?_
  obtain ⟨y3, h3, h⟩ := bnd h
  refine aw_invV (rest := [.ref (LIM + 1)]) (st' := [.int y3, .ref (LIM + 1)]) (As := []) 6 d_Re_clause_3 rfl lv_Re_54 (m_Re_here h3) (by decide) (k_Re_here h3) rfl rfl rfl (Nat.le_of_ble_eq_true rfl) rfl ?_
  obtain ⟨y6, h6, h⟩ := bnd h
  refine aw_invS (rest := []) (st' := [.int y6]) (As := [.ref (LIM + 1), .int y3]) 9 d_Re_clause_6 rfl ls_Re_69 (m_Re_indexIn h6) (by decide) rfl rfl (Nat.le_of_ble_eq_true rfl) rfl ?_
  refine aw_istore_n (loc' := [some (.ref a0), some (.int x1), some (.int y6)]) 10 d_Re_clause_9 rfl (by decide) rfl ?_
  refine aw_iload_n 11 d_Re_clause_10 rfl rfl ?_
  refine aw_iconst (v := (-1 : Int32)) 12 d_Re_clause_11 rfl (by decide) ?_
  refine aw_icmp_ne 21 15 d_Re_clause_12 (by decide) rfl (fun c12 => ?_) (fun c12 => ?_)
  · have h := (if_neg c12).symm.trans h
    refine aw_iload_n 22 d_Re_clause_21 rfl rfl ?_
    refine aw_bipush (v := (14 : Int32)) 24 d_Re_clause_22 rfl (by decide) ?_
    refine aw_icmp_ne 33 27 d_Re_clause_24 (by decide) rfl (fun c24 => ?_) (fun c24 => ?_)
    · have h := (if_neg c24).symm.trans h
      refine aw_aload_n 34 d_Re_clause_33 rfl rfl ?_
      refine aw_dup 35 d_Re_clause_34 rfl rfl ?_
      obtain ⟨y35, h35, h⟩ := bnd h
      refine aw_getI 38 d_Re_clause_35 rfl fg_Re_41 (Or.inl rfl) h35 ?_
      refine aw_iconst (v := (1 : Int32)) 39 d_Re_clause_38 rfl (by decide) ?_
      refine aw_iadd 40 d_Re_clause_39 rfl ?_
      obtain ⟨μ40, h40, h⟩ := bnd h
      refine aw_putI 43 false d_Re_clause_40 rfl fp_Re_41 (fun z => nomatch z) rfl h40 ?_
      refine aw_aload_n 44 d_Re_clause_43 rfl rfl ?_
      obtain ⟨y44, h44, h⟩ := bnd h
      refine aw_getR 47 d_Re_clause_44 rfl fg_Re_18 rfl h44 ?_
      refine aw_iload_n 48 d_Re_clause_47 rfl rfl ?_
      obtain ⟨μ48, h48, h⟩ := bnd h
      refine aw_invV (rest := []) (st' := []) (As := [.int y6]) 51 d_Re_clause_48 rfl lv_Re_73 (m_Pr_open h48) (by decide) (k_Pr_open h48) rfl rfl rfl (Nat.le_of_ble_eq_true rfl) rfl ?_
      refine aw_aload_n 52 d_Re_clause_51 rfl rfl ?_
      refine aw_iconst (v := (0 : Int32)) 53 d_Re_clause_52 rfl (by decide) ?_
      obtain ⟨μ53, h53, h⟩ := bnd h
      refine aw_invV (rest := []) (st' := []) (As := [.int (0 : Int32)]) 56 d_Re_clause_53 rfl lv_Re_76 ((rec_ok 120).met 3 (by decide) h53) (by decide) ((rec_ok (l := l) 120).kind 3 (by decide) h53) rfl rfl rfl (Nat.le_of_ble_eq_true rfl) rfl ?_
      refine aw_aload_n 57 d_Re_clause_56 rfl rfl ?_
      obtain ⟨y57, h57, h⟩ := bnd h
      refine aw_getR 60 d_Re_clause_57 rfl fg_Re_18 rfl h57 ?_
      obtain ⟨μ60, h60, h⟩ := bnd h
      refine aw_invV (rest := []) (st' := []) (As := []) 63 d_Re_clause_60 rfl lv_Re_79 (m_Pr_divide h60) (by decide) (k_Pr_divide h60) rfl rfl rfl (Nat.le_of_ble_eq_true rfl) rfl ?_
      refine aw_aload_n 64 d_Re_clause_63 rfl rfl ?_
      refine aw_bipush (v := (40 : Int32)) 66 d_Re_clause_64 rfl (by decide) ?_
      obtain ⟨μ66, h66, h⟩ := bnd h
      refine aw_invV (rest := []) (st' := []) (As := [.int (40 : Int32)]) 69 d_Re_clause_66 rfl lv_Re_51 (m_Re_take h66) (by decide) (k_Re_take h66) rfl rfl rfl (Nat.le_of_ble_eq_true rfl) rfl ?_
      refine aw_aload_n 70 d_Re_clause_69 rfl rfl ?_
      refine aw_iconst (v := (1 : Int32)) 71 d_Re_clause_70 rfl (by decide) ?_
      obtain ⟨μ71, h71, h⟩ := bnd h
      refine aw_invV (rest := []) (st' := []) (As := [.int (1 : Int32)]) 74 d_Re_clause_71 rfl lv_Re_82 ((rec_ok 120).met 0 (by decide) h71) (by decide) ((rec_ok (l := l) 120).kind 0 (by decide) h71) rfl rfl rfl (Nat.le_of_ble_eq_true rfl) rfl ?_
      refine aw_aload_n 75 d_Re_clause_74 rfl rfl ?_
      refine aw_bipush (v := (41 : Int32)) 77 d_Re_clause_75 rfl (by decide) ?_
      obtain ⟨μ77, h77, h⟩ := bnd h
      refine aw_invV (rest := []) (st' := []) (As := [.int (41 : Int32)]) 80 d_Re_clause_77 rfl lv_Re_51 (m_Re_take h77) (by decide) (k_Re_take h77) rfl rfl rfl (Nat.le_of_ble_eq_true rfl) rfl ?_
      refine aw_aload_n 81 d_Re_clause_80 rfl rfl ?_
      obtain ⟨y81, h81, h⟩ := bnd h
      refine aw_getR 84 d_Re_clause_81 rfl fg_Re_18 rfl h81 ?_
      obtain ⟨μ84, h84, h⟩ := bnd h
      refine aw_invV (rest := []) (st' := []) (As := []) 87 d_Re_clause_84 rfl lv_Re_85 (m_Pr_close h84) (by decide) (k_Pr_close h84) rfl rfl rfl (Nat.le_of_ble_eq_true rfl) rfl ?_
      cases h
      exact aw_return d_Re_clause_87 rfl
    · have h := (if_pos c24).symm.trans h
      refine aw_aload_n 28 d_Re_clause_27 rfl rfl ?_
      refine aw_iconst (v := (4 : Int32)) 29 d_Re_clause_28 rfl (by decide) ?_
      obtain ⟨μ29, h29, h⟩ := bnd h
      refine aw_invV (rest := []) (st' := []) (As := [.int (4 : Int32)]) 32 d_Re_clause_29 rfl lv_Re_58 (m_Re_fail h29) (by decide) (k_Re_fail h29) rfl rfl rfl (Nat.le_of_ble_eq_true rfl) rfl ?_
      cases h
      exact aw_return d_Re_clause_32 rfl
  · have h := (if_pos c12).symm.trans h
    refine aw_aload_n 16 d_Re_clause_15 rfl rfl ?_
    refine aw_iconst (v := (1 : Int32)) 17 d_Re_clause_16 rfl (by decide) ?_
    obtain ⟨μ17, h17, h⟩ := bnd h
    refine aw_invV (rest := []) (st' := []) (As := [.int (1 : Int32)]) 20 d_Re_clause_17 rfl lv_Re_58 (m_Re_fail h17) (by decide) (k_Re_fail h17) rfl rfl rfl (Nat.le_of_ble_eq_true rfl) rfl ?_
    cases h
    exact aw_return d_Re_clause_20 rfl
theorem k_Re_clause {q : MM} {a0 : Nat} {x1 : Int32} {μ : MM} (h : f_Re_clause a0 x1 μ = some q) : μ.1[a0]? = some (0, 6) := by
  unfold f_Re_clause at h
  obtain ⟨_, h1, _⟩ := bnd h
  exact kO_some h1
theorem j_Re_read_95 {l : Launch} {μ0 : MM} {q : Int32 × MM} {a0 : Nat} {μ : MM} (h : f_Re_read_J95 a0 μ = some q) : AWm l Y_Re_read 128 μ0 (some (.int q.1)) q.2 95 [some (.ref a0), none, none, none] [] μ := by
  unfold f_Re_read_J95 at h
  refine aw_aload_n 96 d_Re_read_95 rfl rfl ?_
  obtain ⟨y96, h96, h⟩ := bnd h
  refine aw_getI 99 d_Re_read_96 rfl fg_Re_44 (Or.inl rfl) h96 ?_
  cases h
  exact aw_ireturn d_Re_read_99 rfl rfl
theorem l_Re_read_54 {l : Launch} {μ0 : MM} {q : Int32 × MM} {a0 : Nat} : ∀ (n : Nat) (x3 : Int32) (μ : MM), f_Re_read_L54 a0 n x3 μ = some q → AWm l Y_Re_read 128 μ0 (some (.int q.1)) q.2 54 [some (.ref a0), none, none, some (.int x3)] [] μ := by
  intro n
  induction n with
  | zero =>
    intro x3 μ h
    have h : (none : Option (Int32 × MM)) = some q := h
    cases h
  | succ n ih =>
    intro x3 μ h
    rw [f_Re_read_L54] at h
    refine aw_iload_n 55 d_Re_read_54 rfl rfl ?_
    refine aw_bipush (v := (14 : Int32)) 57 d_Re_read_55 rfl (by decide) ?_
    refine aw_icmp_gt 95 60 d_Re_read_57 (by decide) rfl (fun c57 => ?_) (fun c57 => ?_)
    · have h := (if_pos c57).symm.trans h
      exact AW.wk [true, true, true, false] rfl (j_Re_read_95 h)
    · have h := (if_neg c57).symm.trans h
      refine aw_aload_n 61 d_Re_read_60 rfl rfl ?_
      obtain ⟨y61, h61, h⟩ := bnd h
      refine aw_getI 64 d_Re_read_61 rfl fg_Re_44 (Or.inl rfl) h61 ?_
      refine aw_if_ne 95 67 d_Re_read_64 (by decide) rfl (fun c64 => ?_) (fun c64 => ?_)
      · have h := (if_neg c64).symm.trans h
        exact AW.wk [true, true, true, false] rfl (j_Re_read_95 h)
      · have h := (if_pos c64).symm.trans h
        refine aw_aload_n 68 d_Re_read_67 rfl rfl ?_
        obtain ⟨y68, h68, h⟩ := bnd h
        refine aw_getI 71 d_Re_read_68 rfl fg_Re_41 (Or.inl rfl) h68 ?_
        refine aw_aload_n 72 d_Re_read_71 rfl rfl ?_
        obtain ⟨y72, h72, h⟩ := bnd h
        refine aw_getI 75 d_Re_read_72 rfl fg_Re_28 (Or.inl rfl) h72 ?_
        refine aw_icmp_ge 95 78 d_Re_read_75 (by decide) rfl (fun c75 => ?_) (fun c75 => ?_)
        · have h := (if_pos c75).symm.trans h
          exact AW.wk [true, true, true, false] rfl (j_Re_read_95 h)
        · have h := (if_neg c75).symm.trans h
          refine aw_aload_n 79 d_Re_read_78 rfl rfl ?_
          refine aw_bipush (v := (59 : Int32)) 81 d_Re_read_79 rfl (by decide) ?_
          obtain ⟨μ81, h81, h⟩ := bnd h
          refine aw_invV (rest := []) (st' := []) (As := [.int (59 : Int32)]) 84 d_Re_read_81 rfl lv_Re_51 (m_Re_take h81) (by decide) (k_Re_take h81) rfl rfl rfl (Nat.le_of_ble_eq_true rfl) rfl ?_
          refine aw_aload_n 85 d_Re_read_84 rfl rfl ?_
          refine aw_iload_n 86 d_Re_read_85 rfl rfl ?_
          obtain ⟨μ86, h86, h⟩ := bnd h
          refine aw_invV (rest := []) (st' := []) (As := [.int x3]) 89 d_Re_read_86 rfl lv_Re_47 (m_Re_clause h86) (by decide) (k_Re_clause h86) rfl rfl rfl (Nat.le_of_ble_eq_true rfl) rfl ?_
          refine aw_iinc (v := (x3 + (1 : Int32))) (loc' := [some (.ref a0), none, none, some (.int (x3 + (1 : Int32)))]) 92 d_Re_read_89 rfl (by decide) rfl rfl rfl ?_
          refine aw_goto 54 d_Re_read_92 (by decide) ?_
          exact (ih (x3 + (1 : Int32)) μ86 h)
theorem m_Re_read {l : Launch} {q : Int32 × MM} {a0 : Nat} {a1 : Nat} {x2 : Int32} {μ : MM} (h : f_Re_read a0 a1 x2 μ = some q) : AMet l 128 Y_Re_read [.ref a0, .ref a1, .int x2] μ (some (.int q.1)) q.2 := by
  refine AMet.of (loc := [some (.ref a0), some (.ref a1), some (.int x2), none]) pn_Re_read (Nat.le_of_ble_eq_true rfl) rfl ?_
  unfold f_Re_read at h
  obtain ⟨_, hk, h⟩ := bnd h
  refine aw_aload_n 1 d_Re_read_0 rfl rfl ?_
  refine aw_iload_n 2 d_Re_read_1 rfl rfl ?_
  refine aw_aload_n 3 d_Re_read_2 rfl rfl ?_
  obtain ⟨y3, h3, h⟩ := bnd h
  refine aw_alen 4 d_Re_read_3 rfl h3 ?_
  refine aw_sipush (v := (200 : Int32)) 7 d_Re_read_4 rfl (by decide) ?_
  obtain ⟨y7, h7, h⟩ := bnd h
  refine aw_invS (rest := [.int x2, .ref a0]) (st' := [.int y7, .int x2, .ref a0]) (As := [.int y3, .int (200 : Int32)]) 10 d_Re_read_7 rfl ls_Re_22 (m_Mt_min h7) (by decide) rfl rfl (Nat.le_of_ble_eq_true rfl) rfl ?_
  obtain ⟨y10, h10, h⟩ := bnd h
  refine aw_invS (rest := [.ref a0]) (st' := [.int y10, .ref a0]) (As := [.int x2, .int y7]) 13 d_Re_read_10 rfl ls_Re_22 (m_Mt_min h10) (by decide) rfl rfl (Nat.le_of_ble_eq_true rfl) rfl ?_
  obtain ⟨μ13, h13, h⟩ := bnd h
  refine aw_putI 16 false d_Re_read_13 rfl fp_Re_28 (fun z => nomatch z) rfl h13 ?_
  refine aw_aload_n 17 d_Re_read_16 rfl rfl ?_
  refine aw_iconst (v := (0 : Int32)) 18 d_Re_read_17 rfl (by decide) ?_
  refine aw_aload_n 19 d_Re_read_18 rfl rfl ?_
  obtain ⟨y19, h19, h⟩ := bnd h
  refine aw_getR 22 d_Re_read_19 rfl fg_Re_11 rfl h19 ?_
  refine aw_iconst (v := (0 : Int32)) 23 d_Re_read_22 rfl (by decide) ?_
  refine aw_aload_n 24 d_Re_read_23 rfl rfl ?_
  obtain ⟨y24, h24, h⟩ := bnd h
  refine aw_getI 27 d_Re_read_24 rfl fg_Re_28 (Or.inl rfl) h24 ?_
  obtain ⟨μ27, h27, h⟩ := bnd h
  refine aw_copy 30 d_Re_read_27 rfl cp_Re_32 (Nat.le_of_ble_eq_true rfl) (Nat.le_of_ble_eq_true rfl) h27 ?_
  refine aw_aload_n 31 d_Re_read_30 rfl rfl ?_
  obtain ⟨y31, h31, h⟩ := bnd h
  refine aw_getR 34 d_Re_read_31 rfl fg_Re_18 rfl h31 ?_
  obtain ⟨μ34, h34, h⟩ := bnd h
  refine aw_invV (rest := []) (st' := []) (As := []) 37 d_Re_read_34 rfl lv_Re_38 (m_Pr_clear h34) (by decide) (k_Pr_clear h34) rfl rfl rfl (Nat.le_of_ble_eq_true rfl) rfl ?_
  refine aw_aload_n 38 d_Re_read_37 rfl rfl ?_
  refine aw_iconst (v := (0 : Int32)) 39 d_Re_read_38 rfl (by decide) ?_
  obtain ⟨μ39, h39, h⟩ := bnd h
  refine aw_putI 42 false d_Re_read_39 rfl fp_Re_41 (fun z => nomatch z) rfl h39 ?_
  refine aw_aload_n 43 d_Re_read_42 rfl rfl ?_
  refine aw_iconst (v := (0 : Int32)) 44 d_Re_read_43 rfl (by decide) ?_
  obtain ⟨μ44, h44, h⟩ := bnd h
  refine aw_putI 47 false d_Re_read_44 rfl fp_Re_44 (fun z => nomatch z) rfl h44 ?_
  refine aw_aload_n 48 d_Re_read_47 rfl rfl ?_
  refine aw_iconst (v := (0 : Int32)) 49 d_Re_read_48 rfl (by decide) ?_
  obtain ⟨μ49, h49, h⟩ := bnd h
  refine aw_invV (rest := []) (st' := []) (As := [.int (0 : Int32)]) 52 d_Re_read_49 rfl lv_Re_47 (m_Re_clause h49) (by decide) (k_Re_clause h49) rfl rfl rfl (Nat.le_of_ble_eq_true rfl) rfl ?_
  refine aw_iconst (v := (1 : Int32)) 53 d_Re_read_52 rfl (by decide) ?_
  refine aw_istore_n (loc' := [some (.ref a0), some (.ref a1), some (.int x2), some (.int (1 : Int32))]) 54 d_Re_read_53 rfl (by decide) rfl ?_
  exact AW.wk [true, false, false, true] rfl (l_Re_read_54 FU _ _ h)
theorem k_Re_read {q : Int32 × MM} {a0 : Nat} {a1 : Nat} {x2 : Int32} {μ : MM} (h : f_Re_read a0 a1 x2 μ = some q) : μ.1[a0]? = some (0, 6) := by
  unfold f_Re_read at h
  obtain ⟨_, h1, _⟩ := bnd h
  exact kO_some h1
theorem m_Re_exchange {l : Launch} {q : Nat × MM} {a0 : Nat} {a1 : Nat} {μ : MM} (h : f_Re_exchange a0 a1 μ = some q) : AMet l 1 Y_Re_exchange [.ref a0, .ref a1] μ (some (.ref q.1)) q.2 := by
  refine AMet.of (loc := [some (.ref a0), some (.ref a1), none]) pn_Re_exchange (Nat.le_of_ble_eq_true rfl) rfl ?_
  unfold f_Re_exchange at h
  obtain ⟨_, hk, h⟩ := bnd h
  refine aw_aload_n 1 d_Re_exchange_0 rfl rfl ?_
  obtain ⟨y1, h1, h⟩ := bnd h
  refine aw_getR 4 d_Re_exchange_1 rfl fg_Re_18 rfl h1 ?_
  refine aw_astore_n (loc' := [some (.ref a0), some (.ref a1), some (.ref y1)]) 5 d_Re_exchange_4 rfl (by decide) rfl ?_
  refine aw_aload_n 6 d_Re_exchange_5 rfl rfl ?_
  refine aw_aload_n 7 d_Re_exchange_6 rfl rfl ?_
  obtain ⟨μ7, h7, h⟩ := bnd h
  refine aw_putR 10 false d_Re_exchange_7 rfl fp_Re_18 (fun z => nomatch z) rfl h7 ?_
  refine aw_aload_n 11 d_Re_exchange_10 rfl rfl ?_
  cases h
  exact aw_areturn (x := (some y1)) d_Re_exchange_11 rfl
theorem k_Re_exchange {q : Nat × MM} {a0 : Nat} {a1 : Nat} {μ : MM} (h : f_Re_exchange a0 a1 μ = some q) : μ.1[a0]? = some (0, 6) := by
  unfold f_Re_exchange at h
  obtain ⟨_, h1, _⟩ := bnd h
  exact kO_some h1
theorem m_X_text {l : Launch} {q : Int32 × MM} {a0 : Nat} {x1 : Int32} {μ : MM} (h : f_X_text a0 x1 μ = some q) : AMet l 129 Y_X_text [.ref a0, .int x1] μ (some (.int q.1)) q.2 := by
  refine AMet.of (loc := [some (.ref a0), some (.int x1), none]) pn_X_text (Nat.le_of_ble_eq_true rfl) rfl ?_
  unfold f_X_text at h
  obtain ⟨_, hk, h⟩ := bnd h
  refine aw_iload_n 1 d_X_text_0 rfl rfl ?_
  refine aw_iconst (v := (1 : Int32)) 2 d_X_text_1 rfl (by decide) ?_
  refine aw_icmp_lt 23 5 d_X_text_2 (by decide) rfl (fun c2 => ?_) (fun c2 => ?_)
  · have h := (if_pos c2).symm.trans h
    refine aw_iconst (v := (-1 : Int32)) 24 d_X_text_23 rfl (by decide) ?_
    cases h
    exact aw_ireturn d_X_text_24 rfl rfl
  · have h := (if_neg c2).symm.trans h
    refine aw_iload_n 6 d_X_text_5 rfl rfl ?_
    refine aw_sipush (v := (200 : Int32)) 9 d_X_text_6 rfl (by decide) ?_
    refine aw_icmp_gt 23 12 d_X_text_9 (by decide) rfl (fun c9 => ?_) (fun c9 => ?_)
    · have h := (if_pos c9).symm.trans h
      refine aw_iconst (v := (-1 : Int32)) 24 d_X_text_23 rfl (by decide) ?_
      cases h
      exact aw_ireturn d_X_text_24 rfl rfl
    · have h := (if_neg c9).symm.trans h
      refine aw_iload_n 13 d_X_text_12 rfl rfl ?_
      refine aw_aload_n 14 d_X_text_13 rfl rfl ?_
      obtain ⟨y14, h14, h⟩ := bnd h
      refine aw_getR 17 d_X_text_14 rfl fg_X_62 rfl h14 ?_
      obtain ⟨y17, h17, h⟩ := bnd h
      refine aw_getI 20 d_X_text_17 rfl fg_X_206 (Or.inl rfl) h17 ?_
      refine aw_icmp_le 25 23 d_X_text_20 (by decide) rfl (fun c20 => ?_) (fun c20 => ?_)
      · have h := (if_pos c20).symm.trans h
        refine aw_aload_n 26 d_X_text_25 rfl rfl ?_
        obtain ⟨y26, h26, h⟩ := bnd h
        refine aw_getR 29 d_X_text_26 rfl fg_X_69 rfl h26 ?_
        refine aw_aload_n 30 d_X_text_29 rfl rfl ?_
        obtain ⟨y30, h30, h⟩ := bnd h
        refine aw_getR 33 d_X_text_30 rfl fg_X_62 rfl h30 ?_
        obtain ⟨y33, h33, h⟩ := bnd h
        refine aw_getR 36 d_X_text_33 rfl fg_X_209 rfl h33 ?_
        refine aw_iload_n 37 d_X_text_36 rfl rfl ?_
        obtain ⟨q37, h37, h⟩ := bnd h
        refine aw_invV (rest := []) (st' := [.int q37.1]) (As := [.ref y33, .int x1]) 40 d_X_text_37 rfl lv_X_212 (m_Re_read h37) (by decide) (k_Re_read h37) rfl rfl rfl (Nat.le_of_ble_eq_true rfl) rfl ?_
        refine aw_istore_n (loc' := [some (.ref a0), some (.int x1), some (.int q37.1)]) 41 d_X_text_40 rfl (by decide) rfl ?_
        refine aw_aload_n 42 d_X_text_41 rfl rfl ?_
        obtain ⟨y42, h42, h⟩ := bnd h
        refine aw_getR 45 d_X_text_42 rfl fg_X_62 rfl h42 ?_
        refine aw_iconst (v := (0 : Int32)) 46 d_X_text_45 rfl (by decide) ?_
        obtain ⟨μ46, h46, h⟩ := bnd h
        refine aw_putI 49 false d_X_text_46 rfl fp_X_206 (fun z => nomatch z) rfl h46 ?_
        refine aw_iload_n 50 d_X_text_49 rfl rfl ?_
        refine aw_if_eq 56 53 d_X_text_50 (by decide) rfl (fun c50 => ?_) (fun c50 => ?_)
        · have h := (if_pos c50).symm.trans h
          refine aw_aload_n 57 d_X_text_56 rfl rfl ?_
          obtain ⟨y57, h57, h⟩ := bnd h
          refine aw_getR 60 d_X_text_57 rfl fg_X_21 rfl h57 ?_
          refine aw_aload_n 61 d_X_text_60 rfl rfl ?_
          obtain ⟨y61, h61, h⟩ := bnd h
          refine aw_getR 64 d_X_text_61 rfl fg_X_69 rfl h61 ?_
          refine aw_aload_n 65 d_X_text_64 rfl rfl ?_
          obtain ⟨y65, h65, h⟩ := bnd h
          refine aw_getR 68 d_X_text_65 rfl fg_X_21 rfl h65 ?_
          obtain ⟨y68, h68, h⟩ := bnd h
          refine aw_getR 71 d_X_text_68 rfl fg_X_216 rfl h68 ?_
          obtain ⟨q71, h71, h⟩ := bnd h
          refine aw_invV (rest := [.ref y57]) (st' := [.ref q71.1, .ref y57]) (As := [.ref y68]) 74 d_X_text_71 rfl lv_X_220 (m_Re_exchange h71) (by decide) (k_Re_exchange h71) rfl rfl rfl (Nat.le_of_ble_eq_true rfl) rfl ?_
          obtain ⟨μ74, h74, h⟩ := bnd h
          refine aw_putR 77 false d_X_text_74 rfl fp_X_216 (fun z => nomatch z) rfl h74 ?_
          refine aw_aload_n 78 d_X_text_77 rfl rfl ?_
          obtain ⟨q78, h78, h⟩ := bnd h
          refine aw_invV (rest := []) (st' := [.int q78.1]) (As := []) 81 d_X_text_78 rfl lv_X_88 (m_X_changed h78) (by decide) (k_X_changed h78) rfl rfl rfl (Nat.le_of_ble_eq_true rfl) rfl ?_
          refine aw_pop 82 d_X_text_81 rfl rfl ?_
          refine aw_aload_n 83 d_X_text_82 rfl rfl ?_
          obtain ⟨y83, h83, h⟩ := bnd h
          refine aw_getR 86 d_X_text_83 rfl fg_X_21 rfl h83 ?_
          obtain ⟨y86, h86, h⟩ := bnd h
          refine aw_getR 89 d_X_text_86 rfl fg_X_216 rfl h86 ?_
          obtain ⟨y89, h89, h⟩ := bnd h
          refine aw_getI 92 d_X_text_89 rfl fg_X_224 (Or.inl rfl) h89 ?_
          cases h
          exact aw_ireturn d_X_text_92 rfl rfl
        · have h := (if_neg c50).symm.trans h
          refine aw_iload_n 54 d_X_text_53 rfl rfl ?_
          refine aw_ineg 55 d_X_text_54 rfl ?_
          cases h
          exact aw_ireturn d_X_text_55 rfl rfl
      · have h := (if_neg c20).symm.trans h
        refine aw_iconst (v := (-1 : Int32)) 24 d_X_text_23 rfl (by decide) ?_
        cases h
        exact aw_ireturn d_X_text_24 rfl rfl
theorem k_X_text {q : Int32 × MM} {a0 : Nat} {x1 : Int32} {μ : MM} (h : f_X_text a0 x1 μ = some q) : μ.1[a0]? = some (0, 0) := by
  unfold f_X_text at h
  obtain ⟨_, h1, _⟩ := bnd h
  exact kO_some h1
theorem m_M_isGood {l : Launch} {q : Int32} {a0 : Nat} {μ : MM} (h : f_M_isGood a0 μ = some q) : AMet l 1 Y_M_isGood [.ref a0] μ (some (.int q)) μ := by
  refine AMet.of (loc := [some (.ref a0)]) pn_M_isGood (Nat.le_of_ble_eq_true rfl) rfl ?_
  unfold f_M_isGood at h
  obtain ⟨_, hk, h⟩ := bnd h
  refine aw_aload_n 1 d_M_isGood_0 rfl rfl ?_
  obtain ⟨y1, h1, h⟩ := bnd h
  refine aw_getI 4 d_M_isGood_1 rfl fg_M_317 (Or.inl rfl) h1 ?_
  refine aw_if_ne 11 7 d_M_isGood_4 (by decide) rfl (fun c4 => ?_) (fun c4 => ?_)
  · have h := (if_neg c4).symm.trans h
    refine aw_iconst (v := (0 : Int32)) 12 d_M_isGood_11 rfl (by decide) ?_
    cases h
    exact aw_ireturn d_M_isGood_12 rfl nar0
  · have h := (if_pos c4).symm.trans h
    refine aw_iconst (v := (1 : Int32)) 8 d_M_isGood_7 rfl (by decide) ?_
    refine aw_goto 12 d_M_isGood_8 (by decide) ?_
    cases h
    exact aw_ireturn d_M_isGood_12 rfl nar1
theorem k_M_isGood {q : Int32} {a0 : Nat} {μ : MM} (h : f_M_isGood a0 μ = some q) : μ.1[a0]? = some (0, 1) := by
  unfold f_M_isGood at h
  obtain ⟨_, h1, _⟩ := bnd h
  exact kO_some h1
theorem m_M_here {l : Launch} {q : Int32} {a0 : Nat} {μ : MM} (h : f_M_here a0 μ = some q) : AMet l 1 Y_M_here [.ref a0] μ (some (.int q)) μ := by
  refine AMet.of (loc := [some (.ref a0)]) pn_M_here (Nat.le_of_ble_eq_true rfl) rfl ?_
  unfold f_M_here at h
  obtain ⟨_, hk, h⟩ := bnd h
  refine aw_aload_n 1 d_M_here_0 rfl rfl ?_
  obtain ⟨y1, h1, h⟩ := bnd h
  refine aw_getI 4 d_M_here_1 rfl fg_M_311 (Or.inl rfl) h1 ?_
  refine aw_aload_n 5 d_M_here_4 rfl rfl ?_
  obtain ⟨y5, h5, h⟩ := bnd h
  refine aw_getI 8 d_M_here_5 rfl fg_M_314 (Or.inl rfl) h5 ?_
  refine aw_icmp_ge 27 11 d_M_here_8 (by decide) rfl (fun c8 => ?_) (fun c8 => ?_)
  · have h := (if_pos c8).symm.trans h
    refine aw_iconst (v := (0 : Int32)) 28 d_M_here_27 rfl (by decide) ?_
    cases h
    exact aw_ireturn d_M_here_28 rfl rfl
  · have h := (if_neg c8).symm.trans h
    refine aw_aload_n 12 d_M_here_11 rfl rfl ?_
    obtain ⟨y12, h12, h⟩ := bnd h
    refine aw_getR 15 d_M_here_12 rfl fg_M_7 rfl h12 ?_
    refine aw_aload_n 16 d_M_here_15 rfl rfl ?_
    obtain ⟨y16, h16, h⟩ := bnd h
    refine aw_getI 19 d_M_here_16 rfl fg_M_311 (Or.inl rfl) h16 ?_
    obtain ⟨y19, h19, h⟩ := bnd h
    refine aw_bald 20 d_M_here_19 rfl h19 ?_
    refine aw_sipush (v := (255 : Int32)) 23 d_M_here_20 rfl (by decide) ?_
    refine aw_iand 24 d_M_here_23 rfl ?_
    refine aw_goto 28 d_M_here_24 (by decide) ?_
    cases h
    exact aw_ireturn d_M_here_28 rfl rfl
theorem k_M_here {q : Int32} {a0 : Nat} {μ : MM} (h : f_M_here a0 μ = some q) : μ.1[a0]? = some (0, 1) := by
  unfold f_M_here at h
  obtain ⟨_, h1, _⟩ := bnd h
  exact kO_some h1
theorem j_M_wrongs_22 {l : Launch} {μ0 : MM} {q : MM} {s0 : Nat} {s1 : Int32} {μ : MM} (h : f_M_wrongs_J22 s0 s1 μ = some q) : AWm l Y_M_wrongs 1 μ0 none q 22 [none, none, none] [.int s1, .ref s0] μ := by
  unfold f_M_wrongs_J22 at h
  obtain ⟨μ22, h22, h⟩ := bnd h
  refine aw_putI 25 false d_M_wrongs_22 rfl fp_M_317 (fun z => nomatch z) rfl h22 ?_
  cases h
  exact aw_return d_M_wrongs_25 rfl
theorem m_M_wrongs {l : Launch} {q : MM} {a0 : Nat} {x1 : Int32} {x2 : Int32} {μ : MM} (h : f_M_wrongs a0 x1 x2 μ = some q) : AMet l 1 Y_M_wrongs [.ref a0, .int x1, .int x2] μ none q := by
  refine AMet.of (loc := [some (.ref a0), some (.int x1), some (.int x2)]) pn_M_wrongs (Nat.le_of_ble_eq_true rfl) rfl ?_
  unfold f_M_wrongs at h
  obtain ⟨_, hk, h⟩ := bnd h
  refine aw_aload_n 1 d_M_wrongs_0 rfl rfl ?_
  refine aw_aload_n 2 d_M_wrongs_1 rfl rfl ?_
  obtain ⟨y2, h2, h⟩ := bnd h
  refine aw_getI 5 d_M_wrongs_2 rfl fg_M_317 (Or.inl rfl) h2 ?_
  refine aw_if_ge 15 8 d_M_wrongs_5 (by decide) rfl (fun c5 => ?_) (fun c5 => ?_)
  · have h := (if_pos c5).symm.trans h
    refine aw_sipush (v := (-1000 : Int32)) 18 d_M_wrongs_15 rfl (by decide) ?_
    refine aw_iload_n 19 d_M_wrongs_18 rfl rfl ?_
    refine aw_imul 20 d_M_wrongs_19 rfl ?_
    refine aw_iload_n 21 d_M_wrongs_20 rfl rfl ?_
    refine aw_isub 22 d_M_wrongs_21 rfl ?_
    exact AW.wk [false, false, false] rfl (j_M_wrongs_22 h)
  · have h := (if_neg c5).symm.trans h
    refine aw_aload_n 9 d_M_wrongs_8 rfl rfl ?_
    obtain ⟨y9, h9, h⟩ := bnd h
    refine aw_getI 12 d_M_wrongs_9 rfl fg_M_317 (Or.inl rfl) h9 ?_
    refine aw_goto 22 d_M_wrongs_12 (by decide) ?_
    exact AW.wk [false, false, false] rfl (j_M_wrongs_22 h)
theorem k_M_wrongs {q : MM} {a0 : Nat} {x1 : Int32} {x2 : Int32} {μ : MM} (h : f_M_wrongs a0 x1 x2 μ = some q) : μ.1[a0]? = some (0, 1) := by
  unfold f_M_wrongs at h
  obtain ⟨_, h1, _⟩ := bnd h
  exact kO_some h1
theorem m_M_puts {l : Launch} {q : MM} {a0 : Nat} {x1 : Int32} {μ : MM} (h : f_M_puts a0 x1 μ = some q) : AMet l 1 Y_M_puts [.ref a0, .int x1] μ none q := by
  refine AMet.of (loc := [some (.ref a0), some (.int x1)]) pn_M_puts (Nat.le_of_ble_eq_true rfl) rfl ?_
  unfold f_M_puts at h
  obtain ⟨_, hk, h⟩ := bnd h
  refine aw_aload_n 1 d_M_puts_0 rfl rfl ?_
  obtain ⟨y1, h1, h⟩ := bnd h
  refine aw_getR 4 d_M_puts_1 rfl fg_M_107 rfl h1 ?_
  refine aw_aload_n 5 d_M_puts_4 rfl rfl ?_
  obtain ⟨y5, h5, h⟩ := bnd h
  refine aw_getI 8 d_M_puts_5 rfl fg_M_327 (Or.inl rfl) h5 ?_
  refine aw_iload_n 9 d_M_puts_8 rfl rfl ?_
  obtain ⟨μ9, h9, h⟩ := bnd h
  refine aw_iast 10 d_M_puts_9 rfl h9 ?_
  refine aw_aload_n 11 d_M_puts_10 rfl rfl ?_
  refine aw_dup 12 d_M_puts_11 rfl rfl ?_
  obtain ⟨y12, h12, h⟩ := bnd h
  refine aw_getI 15 d_M_puts_12 rfl fg_M_327 (Or.inl rfl) h12 ?_
  refine aw_iconst (v := (1 : Int32)) 16 d_M_puts_15 rfl (by decide) ?_
  refine aw_iadd 17 d_M_puts_16 rfl ?_
  obtain ⟨μ17, h17, h⟩ := bnd h
  refine aw_putI 20 false d_M_puts_17 rfl fp_M_327 (fun z => nomatch z) rfl h17 ?_
  refine aw_aload_n 21 d_M_puts_20 rfl rfl ?_
  refine aw_dup 22 d_M_puts_21 rfl rfl ?_
  obtain ⟨y22, h22, h⟩ := bnd h
  refine aw_getI 25 d_M_puts_22 rfl fg_M_311 (Or.inl rfl) h22 ?_
  refine aw_iconst (v := (1 : Int32)) 26 d_M_puts_25 rfl (by decide) ?_
  refine aw_iadd 27 d_M_puts_26 rfl ?_
  obtain ⟨μ27, h27, h⟩ := bnd h
  refine aw_putI 30 false d_M_puts_27 rfl fp_M_311 (fun z => nomatch z) rfl h27 ?_
  cases h
  exact aw_return d_M_puts_30 rfl
theorem k_M_puts {q : MM} {a0 : Nat} {x1 : Int32} {μ : MM} (h : f_M_puts a0 x1 μ = some q) : μ.1[a0]? = some (0, 1) := by
  unfold f_M_puts at h
  obtain ⟨_, h1, _⟩ := bnd h
  exact kO_some h1
theorem j_M_opens_18 {l : Launch} {μ0 : MM} {q : MM} {a0 : Nat} {μ : MM} (h : f_M_opens_J18 a0 μ = some q) : AWm l Y_M_opens 2 μ0 none q 18 [some (.ref a0)] [] μ := by
  unfold f_M_opens_J18 at h
  refine aw_aload_n 19 d_M_opens_18 rfl rfl ?_
  refine aw_dup 20 d_M_opens_19 rfl rfl ?_
  obtain ⟨y20, h20, h⟩ := bnd h
  refine aw_getI 23 d_M_opens_20 rfl fg_M_330 (Or.inl rfl) h20 ?_
  refine aw_iconst (v := (1 : Int32)) 24 d_M_opens_23 rfl (by decide) ?_
  refine aw_iadd 25 d_M_opens_24 rfl ?_
  obtain ⟨μ25, h25, h⟩ := bnd h
  refine aw_putI 28 false d_M_opens_25 rfl fp_M_330 (fun z => nomatch z) rfl h25 ?_
  refine aw_aload_n 29 d_M_opens_28 rfl rfl ?_
  refine aw_aload_n 30 d_M_opens_29 rfl rfl ?_
  obtain ⟨y30, h30, h⟩ := bnd h
  refine aw_invV (rest := [.ref a0]) (st' := [.int y30, .ref a0]) (As := []) 33 d_M_opens_30 rfl lv_M_336 (m_M_here h30) (by decide) (k_M_here h30) rfl rfl rfl (Nat.le_of_ble_eq_true rfl) rfl ?_
  obtain ⟨μ33, h33, h⟩ := bnd h
  refine aw_invV (rest := []) (st' := []) (As := [.int y30]) 36 d_M_opens_33 rfl lv_M_339 (m_M_puts h33) (by decide) (k_M_puts h33) rfl rfl rfl (Nat.le_of_ble_eq_true rfl) rfl ?_
  cases h
  exact aw_return d_M_opens_36 rfl
theorem m_M_opens {l : Launch} {q : MM} {a0 : Nat} {μ : MM} (h : f_M_opens a0 μ = some q) : AMet l 2 Y_M_opens [.ref a0] μ none q := by
  refine AMet.of (loc := [some (.ref a0)]) pn_M_opens (Nat.le_of_ble_eq_true rfl) rfl ?_
  unfold f_M_opens at h
  obtain ⟨_, hk, h⟩ := bnd h
  refine aw_aload_n 1 d_M_opens_0 rfl rfl ?_
  obtain ⟨y1, h1, h⟩ := bnd h
  refine aw_getI 4 d_M_opens_1 rfl fg_M_330 (Or.inl rfl) h1 ?_
  refine aw_bipush (v := (6 : Int32)) 6 d_M_opens_4 rfl (by decide) ?_
  refine aw_icmp_ne 18 9 d_M_opens_6 (by decide) rfl (fun c6 => ?_) (fun c6 => ?_)
  · have h := (if_neg c6).symm.trans h
    exact (j_M_opens_18 h)
  · have h := (if_pos c6).symm.trans h
    refine aw_aload_n 10 d_M_opens_9 rfl rfl ?_
    refine aw_iconst (v := (5 : Int32)) 11 d_M_opens_10 rfl (by decide) ?_
    refine aw_aload_n 12 d_M_opens_11 rfl rfl ?_
    obtain ⟨y12, h12, h⟩ := bnd h
    refine aw_getI 15 d_M_opens_12 rfl fg_M_311 (Or.inl rfl) h12 ?_
    obtain ⟨μ15, h15, h⟩ := bnd h
    refine aw_invV (rest := []) (st' := []) (As := [.int (5 : Int32), .int y12]) 18 d_M_opens_15 rfl lv_M_333 (m_M_wrongs h15) (by decide) (k_M_wrongs h15) rfl rfl rfl (Nat.le_of_ble_eq_true rfl) rfl ?_
    exact (j_M_opens_18 h)
theorem k_M_opens {q : MM} {a0 : Nat} {μ : MM} (h : f_M_opens a0 μ = some q) : μ.1[a0]? = some (0, 1) := by
  unfold f_M_opens at h
  obtain ⟨_, h1, _⟩ := bnd h
  exact kO_some h1
theorem m_M_seesDigit {l : Launch} {q : Int32} {a0 : Nat} {μ : MM} (h : f_M_seesDigit a0 μ = some q) : AMet l 2 Y_M_seesDigit [.ref a0] μ (some (.int q)) μ := by
  refine AMet.of (loc := [some (.ref a0)]) pn_M_seesDigit (Nat.le_of_ble_eq_true rfl) rfl ?_
  unfold f_M_seesDigit at h
  obtain ⟨_, hk, h⟩ := bnd h
  refine aw_aload_n 1 d_M_seesDigit_0 rfl rfl ?_
  obtain ⟨y1, h1, h⟩ := bnd h
  refine aw_invV (rest := []) (st' := [.int y1]) (As := []) 4 d_M_seesDigit_1 rfl lv_M_336 (m_M_here h1) (by decide) (k_M_here h1) rfl rfl rfl (Nat.le_of_ble_eq_true rfl) rfl ?_
  refine aw_i2l 5 d_M_seesDigit_4 rfl ?_
  refine aw_ldc2 (v := (48 : Int64)) 8 d_M_seesDigit_5 rfl c_M_342 ?_
  refine aw_ldc2 (v := (57 : Int64)) 11 d_M_seesDigit_8 rfl c_M_344 ?_
  obtain ⟨y11, h11, h⟩ := bnd h
  refine aw_invS (rest := []) (st' := [.int y11]) (As := [.long y1.toInt64, .long (48 : Int64), .long (57 : Int64)]) 14 d_M_seesDigit_11 rfl ls_M_145 (m_M_lies h11) (by decide) rfl rfl (Nat.le_of_ble_eq_true rfl) rfl ?_
  obtain ⟨y14, h14, h⟩ := bnd h
  obtain ⟨e14, n14⟩ := rz_some h14
  rw [e14] at h
  cases h
  exact aw_ireturn d_M_seesDigit_14 rfl n14
theorem k_M_seesDigit {q : Int32} {a0 : Nat} {μ : MM} (h : f_M_seesDigit a0 μ = some q) : μ.1[a0]? = some (0, 1) := by
  unfold f_M_seesDigit at h
  obtain ⟨_, h1, _⟩ := bnd h
  exact kO_some h1
theorem j_M_reads_40 {l : Launch} {μ0 : MM} {q : Int32 × MM} {a0 : Nat} {x1 : Int32} {x2 : Int32} {μ : MM} {k7 : Int32 → MM → Option (Int32 × MM)} (hk7 : ∀ (x2 : Int32) (μ : MM), k7 x2 μ = some q → AWm l Y_M_reads 3 μ0 (some (.int q.1)) q.2 7 [some (.ref a0), some (.int x1), some (.int x2)] [] μ) (h : f_M_reads_J40 k7 a0 x1 x2 μ = some q) : AWm l Y_M_reads 3 μ0 (some (.int q.1)) q.2 40 [some (.ref a0), some (.int x1), some (.int x2)] [] μ := by
  unfold f_M_reads_J40 at h
  refine aw_bipush (v := (10 : Int32)) 42 d_M_reads_40 rfl (by decide) ?_
  refine aw_iload_n 43 d_M_reads_42 rfl rfl ?_
  refine aw_imul 44 d_M_reads_43 rfl ?_
  refine aw_aload_n 45 d_M_reads_44 rfl rfl ?_
  obtain ⟨y45, h45, h⟩ := bnd h
  refine aw_invV (rest := [.int ((10 : Int32) * x2)]) (st' := [.int y45, .int ((10 : Int32) * x2)]) (As := []) 48 d_M_reads_45 rfl lv_M_336 (m_M_here h45) (by decide) (k_M_here h45) rfl rfl rfl (Nat.le_of_ble_eq_true rfl) rfl ?_
  refine aw_iadd 49 d_M_reads_48 rfl ?_
  refine aw_bipush (v := (48 : Int32)) 51 d_M_reads_49 rfl (by decide) ?_
  refine aw_isub 52 d_M_reads_51 rfl ?_
  refine aw_istore_n (loc' := [some (.ref a0), some (.int x1), some (.int ((((10 : Int32) * x2) + y45) - (48 : Int32)))]) 53 d_M_reads_52 rfl (by decide) rfl ?_
  refine aw_aload_n 54 d_M_reads_53 rfl rfl ?_
  refine aw_dup 55 d_M_reads_54 rfl rfl ?_
  obtain ⟨y55, h55, h⟩ := bnd h
  refine aw_getI 58 d_M_reads_55 rfl fg_M_311 (Or.inl rfl) h55 ?_
  refine aw_iconst (v := (1 : Int32)) 59 d_M_reads_58 rfl (by decide) ?_
  refine aw_iadd 60 d_M_reads_59 rfl ?_
  obtain ⟨μ60, h60, h⟩ := bnd h
  refine aw_putI 63 false d_M_reads_60 rfl fp_M_311 (fun z => nomatch z) rfl h60 ?_
  refine aw_goto 7 d_M_reads_63 (by decide) ?_
  exact (hk7 ((((10 : Int32) * x2) + y45) - (48 : Int32)) μ60 h)
theorem l_M_reads_7 {l : Launch} {μ0 : MM} {q : Int32 × MM} {a0 : Nat} {x1 : Int32} : ∀ (n : Nat) (x2 : Int32) (μ : MM), f_M_reads_L7 a0 x1 n x2 μ = some q → AWm l Y_M_reads 3 μ0 (some (.int q.1)) q.2 7 [some (.ref a0), some (.int x1), some (.int x2)] [] μ := by
  intro n
  induction n with
  | zero =>
    intro x2 μ h
    have h : (none : Option (Int32 × MM)) = some q := h
    cases h
  | succ n ih =>
    intro x2 μ h
    rw [f_M_reads_L7] at h
    refine aw_aload_n 8 d_M_reads_7 rfl rfl ?_
    obtain ⟨y8, h8, h⟩ := bnd h
    refine aw_invV (rest := []) (st' := [.int y8]) (As := []) 11 d_M_reads_8 rfl lv_M_320 (m_M_isGood h8) (by decide) (k_M_isGood h8) rfl rfl rfl (Nat.le_of_ble_eq_true rfl) rfl ?_
    refine aw_if_eq 66 14 d_M_reads_11 (by decide) rfl (fun c11 => ?_) (fun c11 => ?_)
    · have h := (if_pos c11).symm.trans h
      refine aw_iload_n 67 d_M_reads_66 rfl rfl ?_
      cases h
      exact aw_ireturn d_M_reads_67 rfl rfl
    · have h := (if_neg c11).symm.trans h
      refine aw_aload_n 15 d_M_reads_14 rfl rfl ?_
      obtain ⟨y15, h15, h⟩ := bnd h
      refine aw_invV (rest := []) (st' := [.int y15]) (As := []) 18 d_M_reads_15 rfl lv_M_346 (m_M_seesDigit h15) (by decide) (k_M_seesDigit h15) rfl rfl rfl (Nat.le_of_ble_eq_true rfl) rfl ?_
      refine aw_if_eq 66 21 d_M_reads_18 (by decide) rfl (fun c18 => ?_) (fun c18 => ?_)
      · have h := (if_pos c18).symm.trans h
        refine aw_iload_n 67 d_M_reads_66 rfl rfl ?_
        cases h
        exact aw_ireturn d_M_reads_67 rfl rfl
      · have h := (if_neg c18).symm.trans h
        refine aw_aload_n 22 d_M_reads_21 rfl rfl ?_
        obtain ⟨y22, h22, h⟩ := bnd h
        refine aw_getI 25 d_M_reads_22 rfl fg_M_311 (Or.inl rfl) h22 ?_
        refine aw_iload_n 26 d_M_reads_25 rfl rfl ?_
        refine aw_iconst (v := (5 : Int32)) 27 d_M_reads_26 rfl (by decide) ?_
        refine aw_iadd 28 d_M_reads_27 rfl ?_
        refine aw_icmp_ne 40 31 d_M_reads_28 (by decide) rfl (fun c28 => ?_) (fun c28 => ?_)
        · have h := (if_neg c28).symm.trans h
          exact (j_M_reads_40 ih h)
        · have h := (if_pos c28).symm.trans h
          refine aw_aload_n 32 d_M_reads_31 rfl rfl ?_
          refine aw_iconst (v := (2 : Int32)) 33 d_M_reads_32 rfl (by decide) ?_
          refine aw_aload_n 34 d_M_reads_33 rfl rfl ?_
          obtain ⟨y34, h34, h⟩ := bnd h
          refine aw_getI 37 d_M_reads_34 rfl fg_M_311 (Or.inl rfl) h34 ?_
          obtain ⟨μ37, h37, h⟩ := bnd h
          refine aw_invV (rest := []) (st' := []) (As := [.int (2 : Int32), .int y34]) 40 d_M_reads_37 rfl lv_M_333 (m_M_wrongs h37) (by decide) (k_M_wrongs h37) rfl rfl rfl (Nat.le_of_ble_eq_true rfl) rfl ?_
          exact (j_M_reads_40 ih h)
theorem m_M_reads {l : Launch} {q : Int32 × MM} {a0 : Nat} {μ : MM} (h : f_M_reads a0 μ = some q) : AMet l 3 Y_M_reads [.ref a0] μ (some (.int q.1)) q.2 := by
  refine AMet.of (loc := [some (.ref a0), none, none]) pn_M_reads (Nat.le_of_ble_eq_true rfl) rfl ?_
  unfold f_M_reads at h
  obtain ⟨_, hk, h⟩ := bnd h
  refine aw_aload_n 1 d_M_reads_0 rfl rfl ?_
  obtain ⟨y1, h1, h⟩ := bnd h
  refine aw_getI 4 d_M_reads_1 rfl fg_M_311 (Or.inl rfl) h1 ?_
  refine aw_istore_n (loc' := [some (.ref a0), some (.int y1), none]) 5 d_M_reads_4 rfl (by decide) rfl ?_
  refine aw_iconst (v := (0 : Int32)) 6 d_M_reads_5 rfl (by decide) ?_
  refine aw_istore_n (loc' := [some (.ref a0), some (.int y1), some (.int (0 : Int32))]) 7 d_M_reads_6 rfl (by decide) rfl ?_
  exact (l_M_reads_7 FU _ _ h)
theorem k_M_reads {q : Int32 × MM} {a0 : Nat} {μ : MM} (h : f_M_reads a0 μ = some q) : μ.1[a0]? = some (0, 1) := by
  unfold f_M_reads at h
  obtain ⟨_, h1, _⟩ := bnd h
  exact kO_some h1
theorem m_M_emit {l : Launch} {q : MM} {a0 : Nat} {x1 : Int32} {x2 : Int32} {μ : MM} (h : f_M_emit a0 x1 x2 μ = some q) : AMet l 2 Y_M_emit [.ref a0, .int x1, .int x2] μ none q := by
  refine AMet.of (loc := [some (.ref a0), some (.int x1), some (.int x2)]) pn_M_emit (Nat.le_of_ble_eq_true rfl) rfl ?_
  unfold f_M_emit at h
  obtain ⟨_, hk, h⟩ := bnd h
  refine aw_aload_n 1 d_M_emit_0 rfl rfl ?_
  obtain ⟨y1, h1, h⟩ := bnd h
  refine aw_invV (rest := []) (st' := [.int y1]) (As := []) 4 d_M_emit_1 rfl lv_M_320 (m_M_isGood h1) (by decide) (k_M_isGood h1) rfl rfl rfl (Nat.le_of_ble_eq_true rfl) rfl ?_
  refine aw_if_ne 8 7 d_M_emit_4 (by decide) rfl (fun c4 => ?_) (fun c4 => ?_)
  · have h := (if_neg c4).symm.trans h
    refine aw_aload_n 9 d_M_emit_8 rfl rfl ?_
    obtain ⟨y9, h9, h⟩ := bnd h
    refine aw_getR 12 d_M_emit_9 rfl fg_M_101 rfl h9 ?_
    refine aw_aload_n 13 d_M_emit_12 rfl rfl ?_
    obtain ⟨y13, h13, h⟩ := bnd h
    refine aw_getI 16 d_M_emit_13 rfl fg_M_324 (Or.inl rfl) h13 ?_
    refine aw_iload_n 17 d_M_emit_16 rfl rfl ?_
    obtain ⟨μ17, h17, h⟩ := bnd h
    refine aw_iast 18 d_M_emit_17 rfl h17 ?_
    refine aw_aload_n 19 d_M_emit_18 rfl rfl ?_
    obtain ⟨y19, h19, h⟩ := bnd h
    refine aw_getR 22 d_M_emit_19 rfl fg_M_104 rfl h19 ?_
    refine aw_aload_n 23 d_M_emit_22 rfl rfl ?_
    obtain ⟨y23, h23, h⟩ := bnd h
    refine aw_getI 26 d_M_emit_23 rfl fg_M_324 (Or.inl rfl) h23 ?_
    refine aw_iload_n 27 d_M_emit_26 rfl rfl ?_
    obtain ⟨μ27, h27, h⟩ := bnd h
    refine aw_iast 28 d_M_emit_27 rfl h27 ?_
    refine aw_aload_n 29 d_M_emit_28 rfl rfl ?_
    refine aw_dup 30 d_M_emit_29 rfl rfl ?_
    obtain ⟨y30, h30, h⟩ := bnd h
    refine aw_getI 33 d_M_emit_30 rfl fg_M_324 (Or.inl rfl) h30 ?_
    refine aw_iconst (v := (1 : Int32)) 34 d_M_emit_33 rfl (by decide) ?_
    refine aw_iadd 35 d_M_emit_34 rfl ?_
    obtain ⟨μ35, h35, h⟩ := bnd h
    refine aw_putI 38 false d_M_emit_35 rfl fp_M_324 (fun z => nomatch z) rfl h35 ?_
    cases h
    exact aw_return d_M_emit_38 rfl
  · have h := (if_pos c4).symm.trans h
    cases h
    exact aw_return d_M_emit_7 rfl
theorem k_M_emit {q : MM} {a0 : Nat} {x1 : Int32} {x2 : Int32} {μ : MM} (h : f_M_emit a0 x1 x2 μ = some q) : μ.1[a0]? = some (0, 1) := by
  unfold f_M_emit at h
  obtain ⟨_, h1, _⟩ := bnd h
  exact kO_some h1
theorem m_M_isValue {l : Launch} {q : Int32} {x0 : Int32} {μ : MM} (h : f_M_isValue x0 = some q) : AMet l 1 Y_M_isValue [.int x0] μ (some (.int q)) μ := by
  refine AMet.of (loc := [some (.int x0)]) pn_M_isValue (Nat.le_of_ble_eq_true rfl) rfl ?_
  unfold f_M_isValue at h
  refine aw_iload_n 1 d_M_isValue_0 rfl rfl ?_
  refine aw_bipush (v := (98 : Int32)) 3 d_M_isValue_1 rfl (by decide) ?_
  refine aw_icmp_eq 72 6 d_M_isValue_3 (by decide) rfl (fun c3 => ?_) (fun c3 => ?_)
  · have h := (if_pos c3).symm.trans h
    refine aw_iconst (v := (1 : Int32)) 73 d_M_isValue_72 rfl (by decide) ?_
    refine aw_goto 77 d_M_isValue_73 (by decide) ?_
    cases h
    exact aw_ireturn d_M_isValue_77 rfl nar1
  · have h := (if_neg c3).symm.trans h
    refine aw_iload_n 7 d_M_isValue_6 rfl rfl ?_
    refine aw_bipush (v := (118 : Int32)) 9 d_M_isValue_7 rfl (by decide) ?_
    refine aw_icmp_eq 72 12 d_M_isValue_9 (by decide) rfl (fun c9 => ?_) (fun c9 => ?_)
    · have h := (if_pos c9).symm.trans h
      refine aw_iconst (v := (1 : Int32)) 73 d_M_isValue_72 rfl (by decide) ?_
      refine aw_goto 77 d_M_isValue_73 (by decide) ?_
      cases h
      exact aw_ireturn d_M_isValue_77 rfl nar1
    · have h := (if_neg c9).symm.trans h
      refine aw_iload_n 13 d_M_isValue_12 rfl rfl ?_
      refine aw_bipush (v := (105 : Int32)) 15 d_M_isValue_13 rfl (by decide) ?_
      refine aw_icmp_eq 72 18 d_M_isValue_15 (by decide) rfl (fun c15 => ?_) (fun c15 => ?_)
      · have h := (if_pos c15).symm.trans h
        refine aw_iconst (v := (1 : Int32)) 73 d_M_isValue_72 rfl (by decide) ?_
        refine aw_goto 77 d_M_isValue_73 (by decide) ?_
        cases h
        exact aw_ireturn d_M_isValue_77 rfl nar1
      · have h := (if_neg c15).symm.trans h
        refine aw_iload_n 19 d_M_isValue_18 rfl rfl ?_
        refine aw_bipush (v := (107 : Int32)) 21 d_M_isValue_19 rfl (by decide) ?_
        refine aw_icmp_eq 72 24 d_M_isValue_21 (by decide) rfl (fun c21 => ?_) (fun c21 => ?_)
        · have h := (if_pos c21).symm.trans h
          refine aw_iconst (v := (1 : Int32)) 73 d_M_isValue_72 rfl (by decide) ?_
          refine aw_goto 77 d_M_isValue_73 (by decide) ?_
          cases h
          exact aw_ireturn d_M_isValue_77 rfl nar1
        · have h := (if_neg c21).symm.trans h
          refine aw_iload_n 25 d_M_isValue_24 rfl rfl ?_
          refine aw_bipush (v := (102 : Int32)) 27 d_M_isValue_25 rfl (by decide) ?_
          refine aw_icmp_eq 72 30 d_M_isValue_27 (by decide) rfl (fun c27 => ?_) (fun c27 => ?_)
          · have h := (if_pos c27).symm.trans h
            refine aw_iconst (v := (1 : Int32)) 73 d_M_isValue_72 rfl (by decide) ?_
            refine aw_goto 77 d_M_isValue_73 (by decide) ?_
            cases h
            exact aw_ireturn d_M_isValue_77 rfl nar1
          · have h := (if_neg c27).symm.trans h
            refine aw_iload_n 31 d_M_isValue_30 rfl rfl ?_
            refine aw_bipush (v := (104 : Int32)) 33 d_M_isValue_31 rfl (by decide) ?_
            refine aw_icmp_eq 72 36 d_M_isValue_33 (by decide) rfl (fun c33 => ?_) (fun c33 => ?_)
            · have h := (if_pos c33).symm.trans h
              refine aw_iconst (v := (1 : Int32)) 73 d_M_isValue_72 rfl (by decide) ?_
              refine aw_goto 77 d_M_isValue_73 (by decide) ?_
              cases h
              exact aw_ireturn d_M_isValue_77 rfl nar1
            · have h := (if_neg c33).symm.trans h
              refine aw_iload_n 37 d_M_isValue_36 rfl rfl ?_
              refine aw_bipush (v := (106 : Int32)) 39 d_M_isValue_37 rfl (by decide) ?_
              refine aw_icmp_eq 72 42 d_M_isValue_39 (by decide) rfl (fun c39 => ?_) (fun c39 => ?_)
              · have h := (if_pos c39).symm.trans h
                refine aw_iconst (v := (1 : Int32)) 73 d_M_isValue_72 rfl (by decide) ?_
                refine aw_goto 77 d_M_isValue_73 (by decide) ?_
                cases h
                exact aw_ireturn d_M_isValue_77 rfl nar1
              · have h := (if_neg c39).symm.trans h
                refine aw_iload_n 43 d_M_isValue_42 rfl rfl ?_
                refine aw_bipush (v := (117 : Int32)) 45 d_M_isValue_43 rfl (by decide) ?_
                refine aw_icmp_eq 72 48 d_M_isValue_45 (by decide) rfl (fun c45 => ?_) (fun c45 => ?_)
                · have h := (if_pos c45).symm.trans h
                  refine aw_iconst (v := (1 : Int32)) 73 d_M_isValue_72 rfl (by decide) ?_
                  refine aw_goto 77 d_M_isValue_73 (by decide) ?_
                  cases h
                  exact aw_ireturn d_M_isValue_77 rfl nar1
                · have h := (if_neg c45).symm.trans h
                  refine aw_iload_n 49 d_M_isValue_48 rfl rfl ?_
                  refine aw_bipush (v := (114 : Int32)) 51 d_M_isValue_49 rfl (by decide) ?_
                  refine aw_icmp_eq 72 54 d_M_isValue_51 (by decide) rfl (fun c51 => ?_) (fun c51 => ?_)
                  · have h := (if_pos c51).symm.trans h
                    refine aw_iconst (v := (1 : Int32)) 73 d_M_isValue_72 rfl (by decide) ?_
                    refine aw_goto 77 d_M_isValue_73 (by decide) ?_
                    cases h
                    exact aw_ireturn d_M_isValue_77 rfl nar1
                  · have h := (if_neg c51).symm.trans h
                    refine aw_iload_n 55 d_M_isValue_54 rfl rfl ?_
                    refine aw_bipush (v := (110 : Int32)) 57 d_M_isValue_55 rfl (by decide) ?_
                    refine aw_icmp_eq 72 60 d_M_isValue_57 (by decide) rfl (fun c57 => ?_) (fun c57 => ?_)
                    · have h := (if_pos c57).symm.trans h
                      refine aw_iconst (v := (1 : Int32)) 73 d_M_isValue_72 rfl (by decide) ?_
                      refine aw_goto 77 d_M_isValue_73 (by decide) ?_
                      cases h
                      exact aw_ireturn d_M_isValue_77 rfl nar1
                    · have h := (if_neg c57).symm.trans h
                      refine aw_iload_n 61 d_M_isValue_60 rfl rfl ?_
                      refine aw_bipush (v := (111 : Int32)) 63 d_M_isValue_61 rfl (by decide) ?_
                      refine aw_icmp_eq 72 66 d_M_isValue_63 (by decide) rfl (fun c63 => ?_) (fun c63 => ?_)
                      · have h := (if_pos c63).symm.trans h
                        refine aw_iconst (v := (1 : Int32)) 73 d_M_isValue_72 rfl (by decide) ?_
                        refine aw_goto 77 d_M_isValue_73 (by decide) ?_
                        cases h
                        exact aw_ireturn d_M_isValue_77 rfl nar1
                      · have h := (if_neg c63).symm.trans h
                        refine aw_iload_n 67 d_M_isValue_66 rfl rfl ?_
                        refine aw_bipush (v := (120 : Int32)) 69 d_M_isValue_67 rfl (by decide) ?_
                        refine aw_icmp_ne 76 72 d_M_isValue_69 (by decide) rfl (fun c69 => ?_) (fun c69 => ?_)
                        · have h := (if_neg c69).symm.trans h
                          refine aw_iconst (v := (0 : Int32)) 77 d_M_isValue_76 rfl (by decide) ?_
                          cases h
                          exact aw_ireturn d_M_isValue_77 rfl nar0
                        · have h := (if_pos c69).symm.trans h
                          refine aw_iconst (v := (1 : Int32)) 73 d_M_isValue_72 rfl (by decide) ?_
                          refine aw_goto 77 d_M_isValue_73 (by decide) ?_
                          cases h
                          exact aw_ireturn d_M_isValue_77 rfl nar1
theorem j_M_factor_23 {l : Launch} {μ0 : MM} {q : MM} {a0 : Nat} {μ : MM} (h : f_M_factor_J23 a0 μ = some q) : AWm l Y_M_factor 4 μ0 none q 23 [some (.ref a0)] [] μ := by
  unfold f_M_factor_J23 at h
  refine aw_aload_n 24 d_M_factor_23 rfl rfl ?_
  obtain ⟨y24, h24, h⟩ := bnd h
  refine aw_invV (rest := []) (st' := [.int y24]) (As := []) 27 d_M_factor_24 rfl lv_M_320 (m_M_isGood h24) (by decide) (k_M_isGood h24) rfl rfl rfl (Nat.le_of_ble_eq_true rfl) rfl ?_
  refine aw_if_ne 31 30 d_M_factor_27 (by decide) rfl (fun c27 => ?_) (fun c27 => ?_)
  · have h := (if_neg c27).symm.trans h
    refine aw_aload_n 32 d_M_factor_31 rfl rfl ?_
    obtain ⟨y32, h32, h⟩ := bnd h
    refine aw_invV (rest := []) (st' := [.int y32]) (As := []) 35 d_M_factor_32 rfl lv_M_346 (m_M_seesDigit h32) (by decide) (k_M_seesDigit h32) rfl rfl rfl (Nat.le_of_ble_eq_true rfl) rfl ?_
    refine aw_if_eq 50 38 d_M_factor_35 (by decide) rfl (fun c35 => ?_) (fun c35 => ?_)
    · have h := (if_pos c35).symm.trans h
      refine aw_aload_n 51 d_M_factor_50 rfl rfl ?_
      obtain ⟨y51, h51, h⟩ := bnd h
      refine aw_invV (rest := []) (st' := [.int y51]) (As := []) 54 d_M_factor_51 rfl lv_M_336 (m_M_here h51) (by decide) (k_M_here h51) rfl rfl rfl (Nat.le_of_ble_eq_true rfl) rfl ?_
      obtain ⟨y54, h54, h⟩ := bnd h
      refine aw_invS (rest := []) (st' := [.int y54]) (As := [.int y51]) 57 d_M_factor_54 rfl ls_M_367 (m_M_isValue h54) (by decide) rfl rfl (Nat.le_of_ble_eq_true rfl) rfl ?_
      refine aw_if_eq 82 60 d_M_factor_57 (by decide) rfl (fun c57 => ?_) (fun c57 => ?_)
      · have h := (if_pos c57).symm.trans h
        refine aw_aload_n 83 d_M_factor_82 rfl rfl ?_
        refine aw_iconst (v := (1 : Int32)) 84 d_M_factor_83 rfl (by decide) ?_
        refine aw_aload_n 85 d_M_factor_84 rfl rfl ?_
        obtain ⟨y85, h85, h⟩ := bnd h
        refine aw_getI 88 d_M_factor_85 rfl fg_M_311 (Or.inl rfl) h85 ?_
        obtain ⟨μ88, h88, h⟩ := bnd h
        refine aw_invV (rest := []) (st' := []) (As := [.int (1 : Int32), .int y85]) 91 d_M_factor_88 rfl lv_M_333 (m_M_wrongs h88) (by decide) (k_M_wrongs h88) rfl rfl rfl (Nat.le_of_ble_eq_true rfl) rfl ?_
        cases h
        exact aw_return d_M_factor_91 rfl
      · have h := (if_neg c57).symm.trans h
        refine aw_aload_n 61 d_M_factor_60 rfl rfl ?_
        refine aw_iconst (v := (1 : Int32)) 62 d_M_factor_61 rfl (by decide) ?_
        refine aw_aload_n 63 d_M_factor_62 rfl rfl ?_
        obtain ⟨y63, h63, h⟩ := bnd h
        refine aw_invV (rest := [.int (1 : Int32), .ref a0]) (st' := [.int y63, .int (1 : Int32), .ref a0]) (As := []) 66 d_M_factor_63 rfl lv_M_336 (m_M_here h63) (by decide) (k_M_here h63) rfl rfl rfl (Nat.le_of_ble_eq_true rfl) rfl ?_
        obtain ⟨μ66, h66, h⟩ := bnd h
        refine aw_invV (rest := []) (st' := []) (As := [.int (1 : Int32), .int y63]) 69 d_M_factor_66 rfl lv_M_358 (m_M_emit h66) (by decide) (k_M_emit h66) rfl rfl rfl (Nat.le_of_ble_eq_true rfl) rfl ?_
        refine aw_aload_n 70 d_M_factor_69 rfl rfl ?_
        refine aw_dup 71 d_M_factor_70 rfl rfl ?_
        obtain ⟨y71, h71, h⟩ := bnd h
        refine aw_getI 74 d_M_factor_71 rfl fg_M_311 (Or.inl rfl) h71 ?_
        refine aw_iconst (v := (1 : Int32)) 75 d_M_factor_74 rfl (by decide) ?_
        refine aw_iadd 76 d_M_factor_75 rfl ?_
        obtain ⟨μ76, h76, h⟩ := bnd h
        refine aw_putI 79 false d_M_factor_76 rfl fp_M_311 (fun z => nomatch z) rfl h76 ?_
        refine aw_goto 91 d_M_factor_79 (by decide) ?_
        cases h
        exact aw_return d_M_factor_91 rfl
    · have h := (if_neg c35).symm.trans h
      refine aw_aload_n 39 d_M_factor_38 rfl rfl ?_
      refine aw_iconst (v := (0 : Int32)) 40 d_M_factor_39 rfl (by decide) ?_
      refine aw_aload_n 41 d_M_factor_40 rfl rfl ?_
      obtain ⟨q41, h41, h⟩ := bnd h
      refine aw_invV (rest := [.int (0 : Int32), .ref a0]) (st' := [.int q41.1, .int (0 : Int32), .ref a0]) (As := []) 44 d_M_factor_41 rfl lv_M_364 (m_M_reads h41) (by decide) (k_M_reads h41) rfl rfl rfl (Nat.le_of_ble_eq_true rfl) rfl ?_
      obtain ⟨μ44, h44, h⟩ := bnd h
      refine aw_invV (rest := []) (st' := []) (As := [.int (0 : Int32), .int q41.1]) 47 d_M_factor_44 rfl lv_M_358 (m_M_emit h44) (by decide) (k_M_emit h44) rfl rfl rfl (Nat.le_of_ble_eq_true rfl) rfl ?_
      refine aw_goto 91 d_M_factor_47 (by decide) ?_
      cases h
      exact aw_return d_M_factor_91 rfl
  · have h := (if_pos c27).symm.trans h
    cases h
    exact aw_return d_M_factor_30 rfl
theorem l_M_factor_0 {l : Launch} {μ0 : MM} {q : MM} {a0 : Nat} : ∀ (n : Nat) (μ : MM), f_M_factor_L0 a0 n μ = some q → AWm l Y_M_factor 4 μ0 none q 0 [some (.ref a0)] [] μ := by
  intro n
  induction n with
  | zero =>
    intro μ h
    have h : (none : Option (MM)) = some q := h
    cases h
  | succ n ih =>
    intro μ h
    rw [f_M_factor_L0] at h
    refine aw_aload_n 1 d_M_factor_0 rfl rfl ?_
    obtain ⟨y1, h1, h⟩ := bnd h
    refine aw_invV (rest := []) (st' := [.int y1]) (As := []) 4 d_M_factor_1 rfl lv_M_320 (m_M_isGood h1) (by decide) (k_M_isGood h1) rfl rfl rfl (Nat.le_of_ble_eq_true rfl) rfl ?_
    refine aw_if_eq 23 7 d_M_factor_4 (by decide) rfl (fun c4 => ?_) (fun c4 => ?_)
    · have h := (if_pos c4).symm.trans h
      exact (j_M_factor_23 h)
    · have h := (if_neg c4).symm.trans h
      refine aw_aload_n 8 d_M_factor_7 rfl rfl ?_
      obtain ⟨y8, h8, h⟩ := bnd h
      refine aw_invV (rest := []) (st' := [.int y8]) (As := []) 11 d_M_factor_8 rfl lv_M_336 (m_M_here h8) (by decide) (k_M_here h8) rfl rfl rfl (Nat.le_of_ble_eq_true rfl) rfl ?_
      refine aw_bipush (v := (91 : Int32)) 13 d_M_factor_11 rfl (by decide) ?_
      refine aw_icmp_ne 23 16 d_M_factor_13 (by decide) rfl (fun c13 => ?_) (fun c13 => ?_)
      · have h := (if_neg c13).symm.trans h
        exact (j_M_factor_23 h)
      · have h := (if_pos c13).symm.trans h
        refine aw_aload_n 17 d_M_factor_16 rfl rfl ?_
        obtain ⟨μ17, h17, h⟩ := bnd h
        refine aw_invV (rest := []) (st' := []) (As := []) 20 d_M_factor_17 rfl lv_M_361 (m_M_opens h17) (by decide) (k_M_opens h17) rfl rfl rfl (Nat.le_of_ble_eq_true rfl) rfl ?_
        refine aw_goto 0 d_M_factor_20 (by decide) ?_
        exact (ih μ17 h)
theorem m_M_factor {l : Launch} {q : MM} {a0 : Nat} {μ : MM} (h : f_M_factor a0 μ = some q) : AMet l 4 Y_M_factor [.ref a0] μ none q := by
  refine AMet.of (loc := [some (.ref a0)]) pn_M_factor (Nat.le_of_ble_eq_true rfl) rfl ?_
  unfold f_M_factor at h
  obtain ⟨_, hk, h⟩ := bnd h
  exact (l_M_factor_0 FU _ h)
theorem k_M_factor {q : MM} {a0 : Nat} {μ : MM} (h : f_M_factor a0 μ = some q) : μ.1[a0]? = some (0, 1) := by
  unfold f_M_factor at h
  obtain ⟨_, h1, _⟩ := bnd h
  exact kO_some h1
theorem m_M_isTimes {l : Launch} {q : Int32} {x0 : Int32} {μ : MM} (h : f_M_isTimes x0 = some q) : AMet l 1 Y_M_isTimes [.int x0] μ (some (.int q)) μ := by
  refine AMet.of (loc := [some (.int x0)]) pn_M_isTimes (Nat.le_of_ble_eq_true rfl) rfl ?_
  unfold f_M_isTimes at h
  refine aw_iload_n 1 d_M_isTimes_0 rfl rfl ?_
  refine aw_bipush (v := (42 : Int32)) 3 d_M_isTimes_1 rfl (by decide) ?_
  refine aw_icmp_eq 18 6 d_M_isTimes_3 (by decide) rfl (fun c3 => ?_) (fun c3 => ?_)
  · have h := (if_pos c3).symm.trans h
    refine aw_iconst (v := (1 : Int32)) 19 d_M_isTimes_18 rfl (by decide) ?_
    refine aw_goto 23 d_M_isTimes_19 (by decide) ?_
    cases h
    exact aw_ireturn d_M_isTimes_23 rfl nar1
  · have h := (if_neg c3).symm.trans h
    refine aw_iload_n 7 d_M_isTimes_6 rfl rfl ?_
    refine aw_bipush (v := (47 : Int32)) 9 d_M_isTimes_7 rfl (by decide) ?_
    refine aw_icmp_eq 18 12 d_M_isTimes_9 (by decide) rfl (fun c9 => ?_) (fun c9 => ?_)
    · have h := (if_pos c9).symm.trans h
      refine aw_iconst (v := (1 : Int32)) 19 d_M_isTimes_18 rfl (by decide) ?_
      refine aw_goto 23 d_M_isTimes_19 (by decide) ?_
      cases h
      exact aw_ireturn d_M_isTimes_23 rfl nar1
    · have h := (if_neg c9).symm.trans h
      refine aw_iload_n 13 d_M_isTimes_12 rfl rfl ?_
      refine aw_bipush (v := (37 : Int32)) 15 d_M_isTimes_13 rfl (by decide) ?_
      refine aw_icmp_ne 22 18 d_M_isTimes_15 (by decide) rfl (fun c15 => ?_) (fun c15 => ?_)
      · have h := (if_neg c15).symm.trans h
        refine aw_iconst (v := (0 : Int32)) 23 d_M_isTimes_22 rfl (by decide) ?_
        cases h
        exact aw_ireturn d_M_isTimes_23 rfl nar0
      · have h := (if_pos c15).symm.trans h
        refine aw_iconst (v := (1 : Int32)) 19 d_M_isTimes_18 rfl (by decide) ?_
        refine aw_goto 23 d_M_isTimes_19 (by decide) ?_
        cases h
        exact aw_ireturn d_M_isTimes_23 rfl nar1
theorem m_M_isPlus {l : Launch} {q : Int32} {x0 : Int32} {μ : MM} (h : f_M_isPlus x0 = some q) : AMet l 1 Y_M_isPlus [.int x0] μ (some (.int q)) μ := by
  refine AMet.of (loc := [some (.int x0)]) pn_M_isPlus (Nat.le_of_ble_eq_true rfl) rfl ?_
  unfold f_M_isPlus at h
  refine aw_iload_n 1 d_M_isPlus_0 rfl rfl ?_
  refine aw_bipush (v := (43 : Int32)) 3 d_M_isPlus_1 rfl (by decide) ?_
  refine aw_icmp_eq 12 6 d_M_isPlus_3 (by decide) rfl (fun c3 => ?_) (fun c3 => ?_)
  · have h := (if_pos c3).symm.trans h
    refine aw_iconst (v := (1 : Int32)) 13 d_M_isPlus_12 rfl (by decide) ?_
    refine aw_goto 17 d_M_isPlus_13 (by decide) ?_
    cases h
    exact aw_ireturn d_M_isPlus_17 rfl nar1
  · have h := (if_neg c3).symm.trans h
    refine aw_iload_n 7 d_M_isPlus_6 rfl rfl ?_
    refine aw_bipush (v := (45 : Int32)) 9 d_M_isPlus_7 rfl (by decide) ?_
    refine aw_icmp_ne 16 12 d_M_isPlus_9 (by decide) rfl (fun c9 => ?_) (fun c9 => ?_)
    · have h := (if_neg c9).symm.trans h
      refine aw_iconst (v := (0 : Int32)) 17 d_M_isPlus_16 rfl (by decide) ?_
      cases h
      exact aw_ireturn d_M_isPlus_17 rfl nar0
    · have h := (if_pos c9).symm.trans h
      refine aw_iconst (v := (1 : Int32)) 13 d_M_isPlus_12 rfl (by decide) ?_
      refine aw_goto 17 d_M_isPlus_13 (by decide) ?_
      cases h
      exact aw_ireturn d_M_isPlus_17 rfl nar1
theorem m_M_top {l : Launch} {q : Int32} {a0 : Nat} {μ : MM} (h : f_M_top a0 μ = some q) : AMet l 1 Y_M_top [.ref a0] μ (some (.int q)) μ := by
  refine AMet.of (loc := [some (.ref a0)]) pn_M_top (Nat.le_of_ble_eq_true rfl) rfl ?_
  unfold f_M_top at h
  obtain ⟨_, hk, h⟩ := bnd h
  refine aw_aload_n 1 d_M_top_0 rfl rfl ?_
  obtain ⟨y1, h1, h⟩ := bnd h
  refine aw_getI 4 d_M_top_1 rfl fg_M_327 (Or.inl rfl) h1 ?_
  refine aw_if_le 21 7 d_M_top_4 (by decide) rfl (fun c4 => ?_) (fun c4 => ?_)
  · have h := (if_pos c4).symm.trans h
    refine aw_iconst (v := (0 : Int32)) 22 d_M_top_21 rfl (by decide) ?_
    cases h
    exact aw_ireturn d_M_top_22 rfl rfl
  · have h := (if_neg c4).symm.trans h
    refine aw_aload_n 8 d_M_top_7 rfl rfl ?_
    obtain ⟨y8, h8, h⟩ := bnd h
    refine aw_getR 11 d_M_top_8 rfl fg_M_107 rfl h8 ?_
    refine aw_aload_n 12 d_M_top_11 rfl rfl ?_
    obtain ⟨y12, h12, h⟩ := bnd h
    refine aw_getI 15 d_M_top_12 rfl fg_M_327 (Or.inl rfl) h12 ?_
    refine aw_iconst (v := (1 : Int32)) 16 d_M_top_15 rfl (by decide) ?_
    refine aw_isub 17 d_M_top_16 rfl ?_
    obtain ⟨y17, h17, h⟩ := bnd h
    refine aw_iald 18 d_M_top_17 rfl h17 ?_
    refine aw_goto 22 d_M_top_18 (by decide) ?_
    cases h
    exact aw_ireturn d_M_top_22 rfl rfl
theorem k_M_top {q : Int32} {a0 : Nat} {μ : MM} (h : f_M_top a0 μ = some q) : μ.1[a0]? = some (0, 1) := by
  unfold f_M_top at h
  obtain ⟨_, h1, _⟩ := bnd h
  exact kO_some h1
theorem j_M_sums_24 {l : Launch} {μ0 : MM} {q : MM} {a0 : Nat} {x1 : Int32} {μ : MM} {k0 : MM → Option (MM)} (hk0 : ∀ (μ : MM), k0 μ = some q → AWm l Y_M_sums 3 μ0 none q 0 [some (.ref a0), some (.int x1)] [] μ) (h : f_M_sums_J24 k0 a0 x1 μ = some q) : AWm l Y_M_sums 3 μ0 none q 24 [some (.ref a0), some (.int x1)] [] μ := by
  unfold f_M_sums_J24 at h
  refine aw_aload_n 25 d_M_sums_24 rfl rfl ?_
  refine aw_aload_n 26 d_M_sums_25 rfl rfl ?_
  obtain ⟨y26, h26, h⟩ := bnd h
  refine aw_invV (rest := [.ref a0]) (st' := [.int y26, .ref a0]) (As := []) 29 d_M_sums_26 rfl lv_M_349 (m_M_top h26) (by decide) (k_M_top h26) rfl rfl rfl (Nat.le_of_ble_eq_true rfl) rfl ?_
  refine aw_iconst (v := (0 : Int32)) 30 d_M_sums_29 rfl (by decide) ?_
  obtain ⟨μ30, h30, h⟩ := bnd h
  refine aw_invV (rest := []) (st' := []) (As := [.int y26, .int (0 : Int32)]) 33 d_M_sums_30 rfl lv_M_358 (m_M_emit h30) (by decide) (k_M_emit h30) rfl rfl rfl (Nat.le_of_ble_eq_true rfl) rfl ?_
  refine aw_aload_n 34 d_M_sums_33 rfl rfl ?_
  refine aw_dup 35 d_M_sums_34 rfl rfl ?_
  obtain ⟨y35, h35, h⟩ := bnd h
  refine aw_getI 38 d_M_sums_35 rfl fg_M_327 (Or.inl rfl) h35 ?_
  refine aw_iconst (v := (1 : Int32)) 39 d_M_sums_38 rfl (by decide) ?_
  refine aw_isub 40 d_M_sums_39 rfl ?_
  obtain ⟨μ40, h40, h⟩ := bnd h
  refine aw_putI 43 false d_M_sums_40 rfl fp_M_327 (fun z => nomatch z) rfl h40 ?_
  refine aw_goto 0 d_M_sums_43 (by decide) ?_
  exact (hk0 μ40 h)
theorem l_M_sums_0 {l : Launch} {μ0 : MM} {q : MM} {a0 : Nat} {x1 : Int32} : ∀ (n : Nat) (μ : MM), f_M_sums_L0 a0 x1 n μ = some q → AWm l Y_M_sums 3 μ0 none q 0 [some (.ref a0), some (.int x1)] [] μ := by
  intro n
  induction n with
  | zero =>
    intro μ h
    have h : (none : Option (MM)) = some q := h
    cases h
  | succ n ih =>
    intro μ h
    rw [f_M_sums_L0] at h
    refine aw_aload_n 1 d_M_sums_0 rfl rfl ?_
    obtain ⟨y1, h1, h⟩ := bnd h
    refine aw_invV (rest := []) (st' := [.int y1]) (As := []) 4 d_M_sums_1 rfl lv_M_349 (m_M_top h1) (by decide) (k_M_top h1) rfl rfl rfl (Nat.le_of_ble_eq_true rfl) rfl ?_
    obtain ⟨y4, h4, h⟩ := bnd h
    refine aw_invS (rest := []) (st' := [.int y4]) (As := [.int y1]) 7 d_M_sums_4 rfl ls_M_352 (m_M_isTimes h4) (by decide) rfl rfl (Nat.le_of_ble_eq_true rfl) rfl ?_
    refine aw_if_ne 24 10 d_M_sums_7 (by decide) rfl (fun c7 => ?_) (fun c7 => ?_)
    · have h := (if_neg c7).symm.trans h
      exact (j_M_sums_24 ih h)
    · have h := (if_pos c7).symm.trans h
      refine aw_iload_n 11 d_M_sums_10 rfl rfl ?_
      refine aw_if_eq 46 14 d_M_sums_11 (by decide) rfl (fun c11 => ?_) (fun c11 => ?_)
      · have h := (if_pos c11).symm.trans h
        cases h
        exact aw_return d_M_sums_46 rfl
      · have h := (if_neg c11).symm.trans h
        refine aw_aload_n 15 d_M_sums_14 rfl rfl ?_
        obtain ⟨y15, h15, h⟩ := bnd h
        refine aw_invV (rest := []) (st' := [.int y15]) (As := []) 18 d_M_sums_15 rfl lv_M_349 (m_M_top h15) (by decide) (k_M_top h15) rfl rfl rfl (Nat.le_of_ble_eq_true rfl) rfl ?_
        obtain ⟨y18, h18, h⟩ := bnd h
        refine aw_invS (rest := []) (st' := [.int y18]) (As := [.int y15]) 21 d_M_sums_18 rfl ls_M_355 (m_M_isPlus h18) (by decide) rfl rfl (Nat.le_of_ble_eq_true rfl) rfl ?_
        refine aw_if_eq 46 24 d_M_sums_21 (by decide) rfl (fun c21 => ?_) (fun c21 => ?_)
        · have h := (if_pos c21).symm.trans h
          cases h
          exact aw_return d_M_sums_46 rfl
        · have h := (if_neg c21).symm.trans h
          exact (j_M_sums_24 ih h)
theorem m_M_sums {l : Launch} {q : MM} {a0 : Nat} {x1 : Int32} {μ : MM} (h : f_M_sums a0 x1 μ = some q) : AMet l 3 Y_M_sums [.ref a0, .int x1] μ none q := by
  refine AMet.of (loc := [some (.ref a0), some (.int x1)]) pn_M_sums (Nat.le_of_ble_eq_true rfl) rfl ?_
  unfold f_M_sums at h
  obtain ⟨_, hk, h⟩ := bnd h
  exact (l_M_sums_0 FU _ h)
theorem k_M_sums {q : MM} {a0 : Nat} {x1 : Int32} {μ : MM} (h : f_M_sums a0 x1 μ = some q) : μ.1[a0]? = some (0, 1) := by
  unfold f_M_sums at h
  obtain ⟨_, h1, _⟩ := bnd h
  exact kO_some h1
theorem j_M_stays_19 {l : Launch} {μ0 : MM} {q : Int32 × MM} {a0 : Nat} {x1 : Int32} {μ : MM} (h : f_M_stays_J19 a0 x1 μ = some q) : AWm l Y_M_stays 4 μ0 (some (.int q.1)) q.2 19 [some (.ref a0), some (.int x1)] [] μ := by
  unfold f_M_stays_J19 at h
  refine aw_aload_n 20 d_M_stays_19 rfl rfl ?_
  refine aw_iload_n 21 d_M_stays_20 rfl rfl ?_
  obtain ⟨y21, h21, h⟩ := bnd h
  refine aw_invS (rest := [.ref a0]) (st' := [.int y21, .ref a0]) (As := [.int x1]) 24 d_M_stays_21 rfl ls_M_355 (m_M_isPlus h21) (by decide) rfl rfl (Nat.le_of_ble_eq_true rfl) rfl ?_
  obtain ⟨μ24, h24, h⟩ := bnd h
  refine aw_invV (rest := []) (st' := []) (As := [.int y21]) 27 d_M_stays_24 rfl lv_M_370 (m_M_sums h24) (by decide) (k_M_sums h24) rfl rfl rfl (Nat.le_of_ble_eq_true rfl) rfl ?_
  refine aw_aload_n 28 d_M_stays_27 rfl rfl ?_
  refine aw_iload_n 29 d_M_stays_28 rfl rfl ?_
  obtain ⟨μ29, h29, h⟩ := bnd h
  refine aw_invV (rest := []) (st' := []) (As := [.int x1]) 32 d_M_stays_29 rfl lv_M_339 (m_M_puts h29) (by decide) (k_M_puts h29) rfl rfl rfl (Nat.le_of_ble_eq_true rfl) rfl ?_
  refine aw_iconst (v := (1 : Int32)) 33 d_M_stays_32 rfl (by decide) ?_
  cases h
  exact aw_ireturn d_M_stays_33 rfl nar1
theorem m_M_stays {l : Launch} {q : Int32 × MM} {a0 : Nat} {μ : MM} (h : f_M_stays a0 μ = some q) : AMet l 4 Y_M_stays [.ref a0] μ (some (.int q.1)) q.2 := by
  refine AMet.of (loc := [some (.ref a0), none]) pn_M_stays (Nat.le_of_ble_eq_true rfl) rfl ?_
  unfold f_M_stays at h
  obtain ⟨_, hk, h⟩ := bnd h
  refine aw_aload_n 1 d_M_stays_0 rfl rfl ?_
  obtain ⟨y1, h1, h⟩ := bnd h
  refine aw_invV (rest := []) (st' := [.int y1]) (As := []) 4 d_M_stays_1 rfl lv_M_336 (m_M_here h1) (by decide) (k_M_here h1) rfl rfl rfl (Nat.le_of_ble_eq_true rfl) rfl ?_
  refine aw_istore_n (loc' := [some (.ref a0), some (.int y1)]) 5 d_M_stays_4 rfl (by decide) rfl ?_
  refine aw_iload_n 6 d_M_stays_5 rfl rfl ?_
  obtain ⟨y6, h6, h⟩ := bnd h
  refine aw_invS (rest := []) (st' := [.int y6]) (As := [.int y1]) 9 d_M_stays_6 rfl ls_M_352 (m_M_isTimes h6) (by decide) rfl rfl (Nat.le_of_ble_eq_true rfl) rfl ?_
  refine aw_if_ne 19 12 d_M_stays_9 (by decide) rfl (fun c9 => ?_) (fun c9 => ?_)
  · have h := (if_neg c9).symm.trans h
    exact (j_M_stays_19 h)
  · have h := (if_pos c9).symm.trans h
    refine aw_iload_n 13 d_M_stays_12 rfl rfl ?_
    obtain ⟨y13, h13, h⟩ := bnd h
    refine aw_invS (rest := []) (st' := [.int y13]) (As := [.int y1]) 16 d_M_stays_13 rfl ls_M_355 (m_M_isPlus h13) (by decide) rfl rfl (Nat.le_of_ble_eq_true rfl) rfl ?_
    refine aw_if_eq 34 19 d_M_stays_16 (by decide) rfl (fun c16 => ?_) (fun c16 => ?_)
    · have h := (if_pos c16).symm.trans h
      refine aw_aload_n 35 d_M_stays_34 rfl rfl ?_
      refine aw_iconst (v := (1 : Int32)) 36 d_M_stays_35 rfl (by decide) ?_
      obtain ⟨μ36, h36, h⟩ := bnd h
      refine aw_invV (rest := []) (st' := []) (As := [.int (1 : Int32)]) 39 d_M_stays_36 rfl lv_M_370 (m_M_sums h36) (by decide) (k_M_sums h36) rfl rfl rfl (Nat.le_of_ble_eq_true rfl) rfl ?_
      refine aw_iload_n 40 d_M_stays_39 rfl rfl ?_
      refine aw_bipush (v := (93 : Int32)) 42 d_M_stays_40 rfl (by decide) ?_
      refine aw_icmp_eq 47 45 d_M_stays_42 (by decide) rfl (fun c42 => ?_) (fun c42 => ?_)
      · have h := (if_pos c42).symm.trans h
        refine aw_aload_n 48 d_M_stays_47 rfl rfl ?_
        obtain ⟨y48, h48, h⟩ := bnd h
        refine aw_invV (rest := []) (st' := [.int y48]) (As := []) 51 d_M_stays_48 rfl lv_M_349 (m_M_top h48) (by decide) (k_M_top h48) rfl rfl rfl (Nat.le_of_ble_eq_true rfl) rfl ?_
        refine aw_bipush (v := (91 : Int32)) 53 d_M_stays_51 rfl (by decide) ?_
        refine aw_icmp_eq 67 56 d_M_stays_53 (by decide) rfl (fun c53 => ?_) (fun c53 => ?_)
        · have h := (if_pos c53).symm.trans h
          refine aw_aload_n 68 d_M_stays_67 rfl rfl ?_
          refine aw_dup 69 d_M_stays_68 rfl rfl ?_
          obtain ⟨y69, h69, h⟩ := bnd h
          refine aw_getI 72 d_M_stays_69 rfl fg_M_327 (Or.inl rfl) h69 ?_
          refine aw_iconst (v := (1 : Int32)) 73 d_M_stays_72 rfl (by decide) ?_
          refine aw_isub 74 d_M_stays_73 rfl ?_
          obtain ⟨μ74, h74, h⟩ := bnd h
          refine aw_putI 77 false d_M_stays_74 rfl fp_M_327 (fun z => nomatch z) rfl h74 ?_
          refine aw_aload_n 78 d_M_stays_77 rfl rfl ?_
          refine aw_dup 79 d_M_stays_78 rfl rfl ?_
          obtain ⟨y79, h79, h⟩ := bnd h
          refine aw_getI 82 d_M_stays_79 rfl fg_M_330 (Or.inl rfl) h79 ?_
          refine aw_iconst (v := (1 : Int32)) 83 d_M_stays_82 rfl (by decide) ?_
          refine aw_isub 84 d_M_stays_83 rfl ?_
          obtain ⟨μ84, h84, h⟩ := bnd h
          refine aw_putI 87 false d_M_stays_84 rfl fp_M_330 (fun z => nomatch z) rfl h84 ?_
          refine aw_aload_n 88 d_M_stays_87 rfl rfl ?_
          refine aw_dup 89 d_M_stays_88 rfl rfl ?_
          obtain ⟨y89, h89, h⟩ := bnd h
          refine aw_getI 92 d_M_stays_89 rfl fg_M_311 (Or.inl rfl) h89 ?_
          refine aw_iconst (v := (1 : Int32)) 93 d_M_stays_92 rfl (by decide) ?_
          refine aw_iadd 94 d_M_stays_93 rfl ?_
          obtain ⟨μ94, h94, h⟩ := bnd h
          refine aw_putI 97 false d_M_stays_94 rfl fp_M_311 (fun z => nomatch z) rfl h94 ?_
          refine aw_aload_n 98 d_M_stays_97 rfl rfl ?_
          refine aw_iconst (v := (1 : Int32)) 99 d_M_stays_98 rfl (by decide) ?_
          obtain ⟨μ99, h99, h⟩ := bnd h
          refine aw_putZ 102 false d_M_stays_99 rfl fp_M_374 (fun z => nomatch z) rfl h99 ?_
          refine aw_iconst (v := (1 : Int32)) 103 d_M_stays_102 rfl (by decide) ?_
          cases h
          exact aw_ireturn d_M_stays_103 rfl nar1
        · have h := (if_neg c53).symm.trans h
          refine aw_aload_n 57 d_M_stays_56 rfl rfl ?_
          refine aw_iconst (v := (1 : Int32)) 58 d_M_stays_57 rfl (by decide) ?_
          refine aw_aload_n 59 d_M_stays_58 rfl rfl ?_
          obtain ⟨y59, h59, h⟩ := bnd h
          refine aw_getI 62 d_M_stays_59 rfl fg_M_311 (Or.inl rfl) h59 ?_
          obtain ⟨μ62, h62, h⟩ := bnd h
          refine aw_invV (rest := []) (st' := []) (As := [.int (1 : Int32), .int y59]) 65 d_M_stays_62 rfl lv_M_333 (m_M_wrongs h62) (by decide) (k_M_wrongs h62) rfl rfl rfl (Nat.le_of_ble_eq_true rfl) rfl ?_
          refine aw_iconst (v := (0 : Int32)) 66 d_M_stays_65 rfl (by decide) ?_
          cases h
          exact aw_ireturn d_M_stays_66 rfl nar0
      · have h := (if_neg c42).symm.trans h
        refine aw_iconst (v := (0 : Int32)) 46 d_M_stays_45 rfl (by decide) ?_
        cases h
        exact aw_ireturn d_M_stays_46 rfl nar0
    · have h := (if_neg c16).symm.trans h
      exact (j_M_stays_19 h)
theorem k_M_stays {q : Int32 × MM} {a0 : Nat} {μ : MM} (h : f_M_stays a0 μ = some q) : μ.1[a0]? = some (0, 1) := by
  unfold f_M_stays at h
  obtain ⟨_, h1, _⟩ := bnd h
  exact kO_some h1
theorem j_M_value_57 {l : Launch} {μ0 : MM} {q : MM} {a0 : Nat} {μ : MM} (h : f_M_value_J57 a0 μ = some q) : AWm l Y_M_value 5 μ0 none q 57 [some (.ref a0), none] [] μ := by
  unfold f_M_value_J57 at h
  refine aw_aload_n 58 d_M_value_57 rfl rfl ?_
  obtain ⟨y58, h58, h⟩ := bnd h
  refine aw_invV (rest := []) (st' := [.int y58]) (As := []) 61 d_M_value_58 rfl lv_M_320 (m_M_isGood h58) (by decide) (k_M_isGood h58) rfl rfl rfl (Nat.le_of_ble_eq_true rfl) rfl ?_
  refine aw_if_eq 82 64 d_M_value_61 (by decide) rfl (fun c61 => ?_) (fun c61 => ?_)
  · have h := (if_pos c61).symm.trans h
    cases h
    exact aw_return d_M_value_82 rfl
  · have h := (if_neg c61).symm.trans h
    refine aw_aload_n 65 d_M_value_64 rfl rfl ?_
    obtain ⟨y65, h65, h⟩ := bnd h
    refine aw_invV (rest := []) (st' := [.int y65]) (As := []) 68 d_M_value_65 rfl lv_M_349 (m_M_top h65) (by decide) (k_M_top h65) rfl rfl rfl (Nat.le_of_ble_eq_true rfl) rfl ?_
    refine aw_bipush (v := (91 : Int32)) 70 d_M_value_68 rfl (by decide) ?_
    refine aw_icmp_ne 82 73 d_M_value_70 (by decide) rfl (fun c70 => ?_) (fun c70 => ?_)
    · have h := (if_neg c70).symm.trans h
      cases h
      exact aw_return d_M_value_82 rfl
    · have h := (if_pos c70).symm.trans h
      refine aw_aload_n 74 d_M_value_73 rfl rfl ?_
      refine aw_iconst (v := (1 : Int32)) 75 d_M_value_74 rfl (by decide) ?_
      refine aw_aload_n 76 d_M_value_75 rfl rfl ?_
      obtain ⟨y76, h76, h⟩ := bnd h
      refine aw_getI 79 d_M_value_76 rfl fg_M_311 (Or.inl rfl) h76 ?_
      obtain ⟨μ79, h79, h⟩ := bnd h
      refine aw_invV (rest := []) (st' := []) (As := [.int (1 : Int32), .int y76]) 82 d_M_value_79 rfl lv_M_333 (m_M_wrongs h79) (by decide) (k_M_wrongs h79) rfl rfl rfl (Nat.le_of_ble_eq_true rfl) rfl ?_
      cases h
      exact aw_return d_M_value_82 rfl
theorem j_M_value_29 {l : Launch} {μ0 : MM} {q : MM} {a0 : Nat} {μ : MM} {k7 : Int32 → MM → Option (MM)} (hk7 : ∀ (x1 : Int32) (μ : MM), k7 x1 μ = some q → AWm l Y_M_value 5 μ0 none q 7 [some (.ref a0), some (.int x1)] [] μ) (h : f_M_value_J29 k7 a0 μ = some q) : AWm l Y_M_value 5 μ0 none q 29 [some (.ref a0), none] [] μ := by
  unfold f_M_value_J29 at h
  refine aw_aload_n 30 d_M_value_29 rfl rfl ?_
  refine aw_iconst (v := (0 : Int32)) 31 d_M_value_30 rfl (by decide) ?_
  obtain ⟨μ31, h31, h⟩ := bnd h
  refine aw_putZ 34 false d_M_value_31 rfl fp_M_374 (fun z => nomatch z) rfl h31 ?_
  refine aw_aload_n 35 d_M_value_34 rfl rfl ?_
  obtain ⟨y35, h35, h⟩ := bnd h
  refine aw_invV (rest := []) (st' := [.int y35]) (As := []) 38 d_M_value_35 rfl lv_M_320 (m_M_isGood h35) (by decide) (k_M_isGood h35) rfl rfl rfl (Nat.le_of_ble_eq_true rfl) rfl ?_
  refine aw_if_eq 52 41 d_M_value_38 (by decide) rfl (fun c38 => ?_) (fun c38 => ?_)
  · have h := (if_pos c38).symm.trans h
    refine aw_iconst (v := (0 : Int32)) 53 d_M_value_52 rfl (by decide) ?_
    refine aw_istore_n (loc' := [some (.ref a0), some (.int (0 : Int32))]) 54 d_M_value_53 rfl (by decide) rfl ?_
    refine aw_goto 7 d_M_value_54 (by decide) ?_
    exact (hk7 (0 : Int32) μ31 h)
  · have h := (if_neg c38).symm.trans h
    refine aw_aload_n 42 d_M_value_41 rfl rfl ?_
    obtain ⟨q42, h42, h⟩ := bnd h
    refine aw_invV (rest := []) (st' := [.int q42.1]) (As := []) 45 d_M_value_42 rfl lv_M_381 (m_M_stays h42) (by decide) (k_M_stays h42) rfl rfl rfl (Nat.le_of_ble_eq_true rfl) rfl ?_
    refine aw_if_eq 52 48 d_M_value_45 (by decide) rfl (fun c45 => ?_) (fun c45 => ?_)
    · have h := (if_pos c45).symm.trans h
      refine aw_iconst (v := (0 : Int32)) 53 d_M_value_52 rfl (by decide) ?_
      refine aw_istore_n (loc' := [some (.ref a0), some (.int (0 : Int32))]) 54 d_M_value_53 rfl (by decide) rfl ?_
      refine aw_goto 7 d_M_value_54 (by decide) ?_
      exact (hk7 (0 : Int32) q42.2 h)
    · have h := (if_neg c45).symm.trans h
      refine aw_iconst (v := (1 : Int32)) 49 d_M_value_48 rfl (by decide) ?_
      refine aw_goto 53 d_M_value_49 (by decide) ?_
      refine aw_istore_n (loc' := [some (.ref a0), some (.int (1 : Int32))]) 54 d_M_value_53 rfl (by decide) rfl ?_
      refine aw_goto 7 d_M_value_54 (by decide) ?_
      exact (hk7 (1 : Int32) q42.2 h)
theorem l_M_value_7 {l : Launch} {μ0 : MM} {q : MM} {a0 : Nat} : ∀ (n : Nat) (x1 : Int32) (μ : MM), f_M_value_L7 a0 n x1 μ = some q → AWm l Y_M_value 5 μ0 none q 7 [some (.ref a0), some (.int x1)] [] μ := by
  intro n
  induction n with
  | zero =>
    intro x1 μ h
    have h : (none : Option (MM)) = some q := h
    cases h
  | succ n ih =>
    intro x1 μ h
    rw [f_M_value_L7] at h
    refine aw_iload_n 8 d_M_value_7 rfl rfl ?_
    refine aw_if_eq 57 11 d_M_value_8 (by decide) rfl (fun c8 => ?_) (fun c8 => ?_)
    · have h := (if_pos c8).symm.trans h
      exact AW.wk [true, false] rfl (j_M_value_57 h)
    · have h := (if_neg c8).symm.trans h
      refine aw_aload_n 12 d_M_value_11 rfl rfl ?_
      obtain ⟨y12, h12, h⟩ := bnd h
      refine aw_invV (rest := []) (st' := [.int y12]) (As := []) 15 d_M_value_12 rfl lv_M_320 (m_M_isGood h12) (by decide) (k_M_isGood h12) rfl rfl rfl (Nat.le_of_ble_eq_true rfl) rfl ?_
      refine aw_if_eq 57 18 d_M_value_15 (by decide) rfl (fun c15 => ?_) (fun c15 => ?_)
      · have h := (if_pos c15).symm.trans h
        exact AW.wk [true, false] rfl (j_M_value_57 h)
      · have h := (if_neg c15).symm.trans h
        refine aw_aload_n 19 d_M_value_18 rfl rfl ?_
        obtain ⟨y19, h19, h⟩ := bnd h
        refine aw_getI 22 d_M_value_19 rfl fg_M_374 (Or.inr rfl) h19 ?_
        refine aw_if_ne 29 25 d_M_value_22 (by decide) rfl (fun c22 => ?_) (fun c22 => ?_)
        · have h := (if_neg c22).symm.trans h
          exact AW.wk [true, false] rfl (j_M_value_29 ih h)
        · have h := (if_pos c22).symm.trans h
          refine aw_aload_n 26 d_M_value_25 rfl rfl ?_
          obtain ⟨μ26, h26, h⟩ := bnd h
          refine aw_invV (rest := []) (st' := []) (As := []) 29 d_M_value_26 rfl lv_M_378 (m_M_factor h26) (by decide) (k_M_factor h26) rfl rfl rfl (Nat.le_of_ble_eq_true rfl) rfl ?_
          exact AW.wk [true, false] rfl (j_M_value_29 ih h)
theorem m_M_value {l : Launch} {q : MM} {a0 : Nat} {μ : MM} (h : f_M_value a0 μ = some q) : AMet l 5 Y_M_value [.ref a0] μ none q := by
  refine AMet.of (loc := [some (.ref a0), none]) pn_M_value (Nat.le_of_ble_eq_true rfl) rfl ?_
  unfold f_M_value at h
  obtain ⟨_, hk, h⟩ := bnd h
  refine aw_iconst (v := (1 : Int32)) 1 d_M_value_0 rfl (by decide) ?_
  refine aw_istore_n (loc' := [some (.ref a0), some (.int (1 : Int32))]) 2 d_M_value_1 rfl (by decide) rfl ?_
  refine aw_aload_n 3 d_M_value_2 rfl rfl ?_
  refine aw_iconst (v := (0 : Int32)) 4 d_M_value_3 rfl (by decide) ?_
  obtain ⟨μ4, h4, h⟩ := bnd h
  refine aw_putZ 7 false d_M_value_4 rfl fp_M_374 (fun z => nomatch z) rfl h4 ?_
  exact (l_M_value_7 FU _ _ h)
theorem k_M_value {q : MM} {a0 : Nat} {μ : MM} (h : f_M_value a0 μ = some q) : μ.1[a0]? = some (0, 1) := by
  unfold f_M_value at h
  obtain ⟨_, h1, _⟩ := bnd h
  exact kO_some h1
theorem m_M_isSign {l : Launch} {q : Int32} {x0 : Int32} {μ : MM} (h : f_M_isSign x0 = some q) : AMet l 1 Y_M_isSign [.int x0] μ (some (.int q)) μ := by
  refine AMet.of (loc := [some (.int x0)]) pn_M_isSign (Nat.le_of_ble_eq_true rfl) rfl ?_
  unfold f_M_isSign at h
  refine aw_iload_n 1 d_M_isSign_0 rfl rfl ?_
  refine aw_bipush (v := (60 : Int32)) 3 d_M_isSign_1 rfl (by decide) ?_
  refine aw_icmp_eq 18 6 d_M_isSign_3 (by decide) rfl (fun c3 => ?_) (fun c3 => ?_)
  · have h := (if_pos c3).symm.trans h
    refine aw_iconst (v := (1 : Int32)) 19 d_M_isSign_18 rfl (by decide) ?_
    refine aw_goto 23 d_M_isSign_19 (by decide) ?_
    cases h
    exact aw_ireturn d_M_isSign_23 rfl nar1
  · have h := (if_neg c3).symm.trans h
    refine aw_iload_n 7 d_M_isSign_6 rfl rfl ?_
    refine aw_bipush (v := (62 : Int32)) 9 d_M_isSign_7 rfl (by decide) ?_
    refine aw_icmp_eq 18 12 d_M_isSign_9 (by decide) rfl (fun c9 => ?_) (fun c9 => ?_)
    · have h := (if_pos c9).symm.trans h
      refine aw_iconst (v := (1 : Int32)) 19 d_M_isSign_18 rfl (by decide) ?_
      refine aw_goto 23 d_M_isSign_19 (by decide) ?_
      cases h
      exact aw_ireturn d_M_isSign_23 rfl nar1
    · have h := (if_neg c9).symm.trans h
      refine aw_iload_n 13 d_M_isSign_12 rfl rfl ?_
      refine aw_bipush (v := (61 : Int32)) 15 d_M_isSign_13 rfl (by decide) ?_
      refine aw_icmp_ne 22 18 d_M_isSign_15 (by decide) rfl (fun c15 => ?_) (fun c15 => ?_)
      · have h := (if_neg c15).symm.trans h
        refine aw_iconst (v := (0 : Int32)) 23 d_M_isSign_22 rfl (by decide) ?_
        cases h
        exact aw_ireturn d_M_isSign_23 rfl nar0
      · have h := (if_pos c15).symm.trans h
        refine aw_iconst (v := (1 : Int32)) 19 d_M_isSign_18 rfl (by decide) ?_
        refine aw_goto 23 d_M_isSign_19 (by decide) ?_
        cases h
        exact aw_ireturn d_M_isSign_23 rfl nar1
theorem l_M_ends_0 {l : Launch} {μ0 : MM} {q : MM} {a0 : Nat} : ∀ (n : Nat) (μ : MM), f_M_ends_L0 a0 n μ = some q → AWm l Y_M_ends 3 μ0 none q 0 [some (.ref a0)] [] μ := by
  intro n
  induction n with
  | zero =>
    intro μ h
    have h : (none : Option (MM)) = some q := h
    cases h
  | succ n ih =>
    intro μ h
    rw [f_M_ends_L0] at h
    refine aw_aload_n 1 d_M_ends_0 rfl rfl ?_
    obtain ⟨y1, h1, h⟩ := bnd h
    refine aw_invV (rest := []) (st' := [.int y1]) (As := []) 4 d_M_ends_1 rfl lv_M_349 (m_M_top h1) (by decide) (k_M_top h1) rfl rfl rfl (Nat.le_of_ble_eq_true rfl) rfl ?_
    refine aw_bipush (v := (33 : Int32)) 6 d_M_ends_4 rfl (by decide) ?_
    refine aw_icmp_ne 38 9 d_M_ends_6 (by decide) rfl (fun c6 => ?_) (fun c6 => ?_)
    · have h := (if_neg c6).symm.trans h
      cases h
      exact aw_return d_M_ends_38 rfl
    · have h := (if_pos c6).symm.trans h
      refine aw_aload_n 10 d_M_ends_9 rfl rfl ?_
      refine aw_iconst (v := (2 : Int32)) 11 d_M_ends_10 rfl (by decide) ?_
      refine aw_iconst (v := (0 : Int32)) 12 d_M_ends_11 rfl (by decide) ?_
      obtain ⟨μ12, h12, h⟩ := bnd h
      refine aw_invV (rest := []) (st' := []) (As := [.int (2 : Int32), .int (0 : Int32)]) 15 d_M_ends_12 rfl lv_M_358 (m_M_emit h12) (by decide) (k_M_emit h12) rfl rfl rfl (Nat.le_of_ble_eq_true rfl) rfl ?_
      refine aw_aload_n 16 d_M_ends_15 rfl rfl ?_
      refine aw_dup 17 d_M_ends_16 rfl rfl ?_
      obtain ⟨y17, h17, h⟩ := bnd h
      refine aw_getI 20 d_M_ends_17 rfl fg_M_327 (Or.inl rfl) h17 ?_
      refine aw_iconst (v := (1 : Int32)) 21 d_M_ends_20 rfl (by decide) ?_
      refine aw_isub 22 d_M_ends_21 rfl ?_
      obtain ⟨μ22, h22, h⟩ := bnd h
      refine aw_putI 25 false d_M_ends_22 rfl fp_M_327 (fun z => nomatch z) rfl h22 ?_
      refine aw_aload_n 26 d_M_ends_25 rfl rfl ?_
      refine aw_dup 27 d_M_ends_26 rfl rfl ?_
      obtain ⟨y27, h27, h⟩ := bnd h
      refine aw_getI 30 d_M_ends_27 rfl fg_M_330 (Or.inl rfl) h27 ?_
      refine aw_iconst (v := (1 : Int32)) 31 d_M_ends_30 rfl (by decide) ?_
      refine aw_isub 32 d_M_ends_31 rfl ?_
      obtain ⟨μ32, h32, h⟩ := bnd h
      refine aw_putI 35 false d_M_ends_32 rfl fp_M_330 (fun z => nomatch z) rfl h32 ?_
      refine aw_goto 0 d_M_ends_35 (by decide) ?_
      exact (ih μ32 h)
theorem m_M_ends {l : Launch} {q : MM} {a0 : Nat} {μ : MM} (h : f_M_ends a0 μ = some q) : AMet l 3 Y_M_ends [.ref a0] μ none q := by
  refine AMet.of (loc := [some (.ref a0)]) pn_M_ends (Nat.le_of_ble_eq_true rfl) rfl ?_
  unfold f_M_ends at h
  obtain ⟨_, hk, h⟩ := bnd h
  exact (l_M_ends_0 FU _ h)
theorem k_M_ends {q : MM} {a0 : Nat} {μ : MM} (h : f_M_ends a0 μ = some q) : μ.1[a0]? = some (0, 1) := by
  unfold f_M_ends at h
  obtain ⟨_, h1, _⟩ := bnd h
  exact kO_some h1
theorem j_M_pieceOfC_43 {l : Launch} {μ0 : MM} {q : MM} {a0 : Nat} {μ : MM} (h : f_M_pieceOfC_J43 a0 μ = some q) : AWm l Y_M_pieceOfC 6 μ0 none q 43 [some (.ref a0), none] [] μ := by
  unfold f_M_pieceOfC_J43 at h
  refine aw_aload_n 44 d_M_pieceOfC_43 rfl rfl ?_
  obtain ⟨y44, h44, h⟩ := bnd h
  refine aw_invV (rest := []) (st' := [.int y44]) (As := []) 47 d_M_pieceOfC_44 rfl lv_M_320 (m_M_isGood h44) (by decide) (k_M_isGood h44) rfl rfl rfl (Nat.le_of_ble_eq_true rfl) rfl ?_
  refine aw_if_ne 51 50 d_M_pieceOfC_47 (by decide) rfl (fun c47 => ?_) (fun c47 => ?_)
  · have h := (if_neg c47).symm.trans h
    refine aw_aload_n 52 d_M_pieceOfC_51 rfl rfl ?_
    obtain ⟨y52, h52, h⟩ := bnd h
    refine aw_invV (rest := []) (st' := [.int y52]) (As := []) 55 d_M_pieceOfC_52 rfl lv_M_336 (m_M_here h52) (by decide) (k_M_here h52) rfl rfl rfl (Nat.le_of_ble_eq_true rfl) rfl ?_
    refine aw_istore_n (loc' := [some (.ref a0), some (.int y52)]) 56 d_M_pieceOfC_55 rfl (by decide) rfl ?_
    refine aw_iload_n 57 d_M_pieceOfC_56 rfl rfl ?_
    obtain ⟨y57, h57, h⟩ := bnd h
    refine aw_invS (rest := []) (st' := [.int y57]) (As := [.int y52]) 60 d_M_pieceOfC_57 rfl ls_M_387 (m_M_isSign h57) (by decide) rfl rfl (Nat.le_of_ble_eq_true rfl) rfl ?_
    refine aw_if_ne 73 63 d_M_pieceOfC_60 (by decide) rfl (fun c60 => ?_) (fun c60 => ?_)
    · have h := (if_neg c60).symm.trans h
      refine aw_aload_n 74 d_M_pieceOfC_73 rfl rfl ?_
      refine aw_iload_n 75 d_M_pieceOfC_74 rfl rfl ?_
      obtain ⟨μ75, h75, h⟩ := bnd h
      refine aw_invV (rest := []) (st' := []) (As := [.int y52]) 78 d_M_pieceOfC_75 rfl lv_M_339 (m_M_puts h75) (by decide) (k_M_puts h75) rfl rfl rfl (Nat.le_of_ble_eq_true rfl) rfl ?_
      refine aw_aload_n 79 d_M_pieceOfC_78 rfl rfl ?_
      obtain ⟨μ79, h79, h⟩ := bnd h
      refine aw_invV (rest := []) (st' := []) (As := []) 82 d_M_pieceOfC_79 rfl lv_M_384 (m_M_value h79) (by decide) (k_M_value h79) rfl rfl rfl (Nat.le_of_ble_eq_true rfl) rfl ?_
      refine aw_aload_n 83 d_M_pieceOfC_82 rfl rfl ?_
      obtain ⟨y83, h83, h⟩ := bnd h
      refine aw_invV (rest := []) (st' := [.int y83]) (As := []) 86 d_M_pieceOfC_83 rfl lv_M_320 (m_M_isGood h83) (by decide) (k_M_isGood h83) rfl rfl rfl (Nat.le_of_ble_eq_true rfl) rfl ?_
      refine aw_if_ne 90 89 d_M_pieceOfC_86 (by decide) rfl (fun c86 => ?_) (fun c86 => ?_)
      · have h := (if_neg c86).symm.trans h
        refine aw_aload_n 91 d_M_pieceOfC_90 rfl rfl ?_
        refine aw_aload_n 92 d_M_pieceOfC_91 rfl rfl ?_
        obtain ⟨y92, h92, h⟩ := bnd h
        refine aw_invV (rest := [.ref a0]) (st' := [.int y92, .ref a0]) (As := []) 95 d_M_pieceOfC_92 rfl lv_M_349 (m_M_top h92) (by decide) (k_M_top h92) rfl rfl rfl (Nat.le_of_ble_eq_true rfl) rfl ?_
        refine aw_iconst (v := (0 : Int32)) 96 d_M_pieceOfC_95 rfl (by decide) ?_
        obtain ⟨μ96, h96, h⟩ := bnd h
        refine aw_invV (rest := []) (st' := []) (As := [.int y92, .int (0 : Int32)]) 99 d_M_pieceOfC_96 rfl lv_M_358 (m_M_emit h96) (by decide) (k_M_emit h96) rfl rfl rfl (Nat.le_of_ble_eq_true rfl) rfl ?_
        refine aw_aload_n 100 d_M_pieceOfC_99 rfl rfl ?_
        refine aw_dup 101 d_M_pieceOfC_100 rfl rfl ?_
        obtain ⟨y101, h101, h⟩ := bnd h
        refine aw_getI 104 d_M_pieceOfC_101 rfl fg_M_327 (Or.inl rfl) h101 ?_
        refine aw_iconst (v := (1 : Int32)) 105 d_M_pieceOfC_104 rfl (by decide) ?_
        refine aw_isub 106 d_M_pieceOfC_105 rfl ?_
        obtain ⟨μ106, h106, h⟩ := bnd h
        refine aw_putI 109 false d_M_pieceOfC_106 rfl fp_M_327 (fun z => nomatch z) rfl h106 ?_
        refine aw_aload_n 110 d_M_pieceOfC_109 rfl rfl ?_
        obtain ⟨μ110, h110, h⟩ := bnd h
        refine aw_invV (rest := []) (st' := []) (As := []) 113 d_M_pieceOfC_110 rfl lv_M_390 (m_M_ends h110) (by decide) (k_M_ends h110) rfl rfl rfl (Nat.le_of_ble_eq_true rfl) rfl ?_
        cases h
        exact aw_return d_M_pieceOfC_113 rfl
      · have h := (if_pos c86).symm.trans h
        cases h
        exact aw_return d_M_pieceOfC_89 rfl
    · have h := (if_pos c60).symm.trans h
      refine aw_aload_n 64 d_M_pieceOfC_63 rfl rfl ?_
      refine aw_iconst (v := (1 : Int32)) 65 d_M_pieceOfC_64 rfl (by decide) ?_
      refine aw_aload_n 66 d_M_pieceOfC_65 rfl rfl ?_
      obtain ⟨y66, h66, h⟩ := bnd h
      refine aw_getI 69 d_M_pieceOfC_66 rfl fg_M_311 (Or.inl rfl) h66 ?_
      obtain ⟨μ69, h69, h⟩ := bnd h
      refine aw_invV (rest := []) (st' := []) (As := [.int (1 : Int32), .int y66]) 72 d_M_pieceOfC_69 rfl lv_M_333 (m_M_wrongs h69) (by decide) (k_M_wrongs h69) rfl rfl rfl (Nat.le_of_ble_eq_true rfl) rfl ?_
      cases h
      exact aw_return d_M_pieceOfC_72 rfl
  · have h := (if_pos c47).symm.trans h
    cases h
    exact aw_return d_M_pieceOfC_50 rfl
theorem j_M_pieceOfC_32 {l : Launch} {μ0 : MM} {q : MM} {a0 : Nat} {μ : MM} (h : f_M_pieceOfC_J32 a0 μ = some q) : AWm l Y_M_pieceOfC 6 μ0 none q 32 [some (.ref a0), none] [] μ := by
  unfold f_M_pieceOfC_J32 at h
  refine aw_aload_n 33 d_M_pieceOfC_32 rfl rfl ?_
  obtain ⟨y33, h33, h⟩ := bnd h
  refine aw_invV (rest := []) (st' := [.int y33]) (As := []) 36 d_M_pieceOfC_33 rfl lv_M_320 (m_M_isGood h33) (by decide) (k_M_isGood h33) rfl rfl rfl (Nat.le_of_ble_eq_true rfl) rfl ?_
  refine aw_if_eq 43 39 d_M_pieceOfC_36 (by decide) rfl (fun c36 => ?_) (fun c36 => ?_)
  · have h := (if_pos c36).symm.trans h
    exact (j_M_pieceOfC_43 h)
  · have h := (if_neg c36).symm.trans h
    refine aw_aload_n 40 d_M_pieceOfC_39 rfl rfl ?_
    obtain ⟨μ40, h40, h⟩ := bnd h
    refine aw_invV (rest := []) (st' := []) (As := []) 43 d_M_pieceOfC_40 rfl lv_M_384 (m_M_value h40) (by decide) (k_M_value h40) rfl rfl rfl (Nat.le_of_ble_eq_true rfl) rfl ?_
    exact (j_M_pieceOfC_43 h)
theorem j_M_pieceOfC_25 {l : Launch} {μ0 : MM} {q : MM} {a0 : Nat} {μ : MM} {k0 : MM → Option (MM)} (hk0 : ∀ (μ : MM), k0 μ = some q → AWm l Y_M_pieceOfC 6 μ0 none q 0 [some (.ref a0), none] [] μ) (h : f_M_pieceOfC_J25 k0 a0 μ = some q) : AWm l Y_M_pieceOfC 6 μ0 none q 25 [some (.ref a0), none] [] μ := by
  unfold f_M_pieceOfC_J25 at h
  refine aw_aload_n 26 d_M_pieceOfC_25 rfl rfl ?_
  obtain ⟨μ26, h26, h⟩ := bnd h
  refine aw_invV (rest := []) (st' := []) (As := []) 29 d_M_pieceOfC_26 rfl lv_M_361 (m_M_opens h26) (by decide) (k_M_opens h26) rfl rfl rfl (Nat.le_of_ble_eq_true rfl) rfl ?_
  refine aw_goto 0 d_M_pieceOfC_29 (by decide) ?_
  exact (hk0 μ26 h)
theorem l_M_pieceOfC_0 {l : Launch} {μ0 : MM} {q : MM} {a0 : Nat} : ∀ (n : Nat) (μ : MM), f_M_pieceOfC_L0 a0 n μ = some q → AWm l Y_M_pieceOfC 6 μ0 none q 0 [some (.ref a0), none] [] μ := by
  intro n
  induction n with
  | zero =>
    intro μ h
    have h : (none : Option (MM)) = some q := h
    cases h
  | succ n ih =>
    intro μ h
    rw [f_M_pieceOfC_L0] at h
    refine aw_aload_n 1 d_M_pieceOfC_0 rfl rfl ?_
    obtain ⟨y1, h1, h⟩ := bnd h
    refine aw_invV (rest := []) (st' := [.int y1]) (As := []) 4 d_M_pieceOfC_1 rfl lv_M_320 (m_M_isGood h1) (by decide) (k_M_isGood h1) rfl rfl rfl (Nat.le_of_ble_eq_true rfl) rfl ?_
    refine aw_if_eq 32 7 d_M_pieceOfC_4 (by decide) rfl (fun c4 => ?_) (fun c4 => ?_)
    · have h := (if_pos c4).symm.trans h
      exact (j_M_pieceOfC_32 h)
    · have h := (if_neg c4).symm.trans h
      refine aw_aload_n 8 d_M_pieceOfC_7 rfl rfl ?_
      obtain ⟨y8, h8, h⟩ := bnd h
      refine aw_invV (rest := []) (st' := [.int y8]) (As := []) 11 d_M_pieceOfC_8 rfl lv_M_336 (m_M_here h8) (by decide) (k_M_here h8) rfl rfl rfl (Nat.le_of_ble_eq_true rfl) rfl ?_
      refine aw_bipush (v := (33 : Int32)) 13 d_M_pieceOfC_11 rfl (by decide) ?_
      refine aw_icmp_eq 25 16 d_M_pieceOfC_13 (by decide) rfl (fun c13 => ?_) (fun c13 => ?_)
      · have h := (if_pos c13).symm.trans h
        exact (j_M_pieceOfC_25 ih h)
      · have h := (if_neg c13).symm.trans h
        refine aw_aload_n 17 d_M_pieceOfC_16 rfl rfl ?_
        obtain ⟨y17, h17, h⟩ := bnd h
        refine aw_invV (rest := []) (st' := [.int y17]) (As := []) 20 d_M_pieceOfC_17 rfl lv_M_336 (m_M_here h17) (by decide) (k_M_here h17) rfl rfl rfl (Nat.le_of_ble_eq_true rfl) rfl ?_
        refine aw_bipush (v := (40 : Int32)) 22 d_M_pieceOfC_20 rfl (by decide) ?_
        refine aw_icmp_ne 32 25 d_M_pieceOfC_22 (by decide) rfl (fun c22 => ?_) (fun c22 => ?_)
        · have h := (if_neg c22).symm.trans h
          exact (j_M_pieceOfC_32 h)
        · have h := (if_pos c22).symm.trans h
          exact (j_M_pieceOfC_25 ih h)
theorem m_M_pieceOfC {l : Launch} {q : MM} {a0 : Nat} {μ : MM} (h : f_M_pieceOfC a0 μ = some q) : AMet l 6 Y_M_pieceOfC [.ref a0] μ none q := by
  refine AMet.of (loc := [some (.ref a0), none]) pn_M_pieceOfC (Nat.le_of_ble_eq_true rfl) rfl ?_
  unfold f_M_pieceOfC at h
  obtain ⟨_, hk, h⟩ := bnd h
  exact (l_M_pieceOfC_0 FU _ h)
theorem k_M_pieceOfC {q : MM} {a0 : Nat} {μ : MM} (h : f_M_pieceOfC a0 μ = some q) : μ.1[a0]? = some (0, 1) := by
  unfold f_M_pieceOfC at h
  obtain ⟨_, h1, _⟩ := bnd h
  exact kO_some h1
theorem j_M_joins_22 {l : Launch} {μ0 : MM} {q : MM} {a0 : Nat} {x1 : Int32} {μ : MM} {k0 : MM → Option (MM)} (hk0 : ∀ (μ : MM), k0 μ = some q → AWm l Y_M_joins 3 μ0 none q 0 [some (.ref a0), some (.int x1)] [] μ) (h : f_M_joins_J22 k0 a0 x1 μ = some q) : AWm l Y_M_joins 3 μ0 none q 22 [some (.ref a0), some (.int x1)] [] μ := by
  unfold f_M_joins_J22 at h
  refine aw_aload_n 23 d_M_joins_22 rfl rfl ?_
  refine aw_aload_n 24 d_M_joins_23 rfl rfl ?_
  obtain ⟨y24, h24, h⟩ := bnd h
  refine aw_invV (rest := [.ref a0]) (st' := [.int y24, .ref a0]) (As := []) 27 d_M_joins_24 rfl lv_M_349 (m_M_top h24) (by decide) (k_M_top h24) rfl rfl rfl (Nat.le_of_ble_eq_true rfl) rfl ?_
  refine aw_iconst (v := (0 : Int32)) 28 d_M_joins_27 rfl (by decide) ?_
  obtain ⟨μ28, h28, h⟩ := bnd h
  refine aw_invV (rest := []) (st' := []) (As := [.int y24, .int (0 : Int32)]) 31 d_M_joins_28 rfl lv_M_358 (m_M_emit h28) (by decide) (k_M_emit h28) rfl rfl rfl (Nat.le_of_ble_eq_true rfl) rfl ?_
  refine aw_aload_n 32 d_M_joins_31 rfl rfl ?_
  refine aw_dup 33 d_M_joins_32 rfl rfl ?_
  obtain ⟨y33, h33, h⟩ := bnd h
  refine aw_getI 36 d_M_joins_33 rfl fg_M_327 (Or.inl rfl) h33 ?_
  refine aw_iconst (v := (1 : Int32)) 37 d_M_joins_36 rfl (by decide) ?_
  refine aw_isub 38 d_M_joins_37 rfl ?_
  obtain ⟨μ38, h38, h⟩ := bnd h
  refine aw_putI 41 false d_M_joins_38 rfl fp_M_327 (fun z => nomatch z) rfl h38 ?_
  refine aw_goto 0 d_M_joins_41 (by decide) ?_
  exact (hk0 μ38 h)
theorem l_M_joins_0 {l : Launch} {μ0 : MM} {q : MM} {a0 : Nat} {x1 : Int32} : ∀ (n : Nat) (μ : MM), f_M_joins_L0 a0 x1 n μ = some q → AWm l Y_M_joins 3 μ0 none q 0 [some (.ref a0), some (.int x1)] [] μ := by
  intro n
  induction n with
  | zero =>
    intro μ h
    have h : (none : Option (MM)) = some q := h
    cases h
  | succ n ih =>
    intro μ h
    rw [f_M_joins_L0] at h
    refine aw_aload_n 1 d_M_joins_0 rfl rfl ?_
    obtain ⟨y1, h1, h⟩ := bnd h
    refine aw_invV (rest := []) (st' := [.int y1]) (As := []) 4 d_M_joins_1 rfl lv_M_349 (m_M_top h1) (by decide) (k_M_top h1) rfl rfl rfl (Nat.le_of_ble_eq_true rfl) rfl ?_
    refine aw_bipush (v := (38 : Int32)) 6 d_M_joins_4 rfl (by decide) ?_
    refine aw_icmp_eq 22 9 d_M_joins_6 (by decide) rfl (fun c6 => ?_) (fun c6 => ?_)
    · have h := (if_pos c6).symm.trans h
      exact (j_M_joins_22 ih h)
    · have h := (if_neg c6).symm.trans h
      refine aw_iload_n 10 d_M_joins_9 rfl rfl ?_
      refine aw_if_eq 44 13 d_M_joins_10 (by decide) rfl (fun c10 => ?_) (fun c10 => ?_)
      · have h := (if_pos c10).symm.trans h
        cases h
        exact aw_return d_M_joins_44 rfl
      · have h := (if_neg c10).symm.trans h
        refine aw_aload_n 14 d_M_joins_13 rfl rfl ?_
        obtain ⟨y14, h14, h⟩ := bnd h
        refine aw_invV (rest := []) (st' := [.int y14]) (As := []) 17 d_M_joins_14 rfl lv_M_349 (m_M_top h14) (by decide) (k_M_top h14) rfl rfl rfl (Nat.le_of_ble_eq_true rfl) rfl ?_
        refine aw_bipush (v := (124 : Int32)) 19 d_M_joins_17 rfl (by decide) ?_
        refine aw_icmp_ne 44 22 d_M_joins_19 (by decide) rfl (fun c19 => ?_) (fun c19 => ?_)
        · have h := (if_neg c19).symm.trans h
          cases h
          exact aw_return d_M_joins_44 rfl
        · have h := (if_pos c19).symm.trans h
          exact (j_M_joins_22 ih h)
theorem m_M_joins {l : Launch} {q : MM} {a0 : Nat} {x1 : Int32} {μ : MM} (h : f_M_joins a0 x1 μ = some q) : AMet l 3 Y_M_joins [.ref a0, .int x1] μ none q := by
  refine AMet.of (loc := [some (.ref a0), some (.int x1)]) pn_M_joins (Nat.le_of_ble_eq_true rfl) rfl ?_
  unfold f_M_joins at h
  obtain ⟨_, hk, h⟩ := bnd h
  exact (l_M_joins_0 FU _ h)
theorem k_M_joins {q : MM} {a0 : Nat} {x1 : Int32} {μ : MM} (h : f_M_joins a0 x1 μ = some q) : μ.1[a0]? = some (0, 1) := by
  unfold f_M_joins at h
  obtain ⟨_, h1, _⟩ := bnd h
  exact kO_some h1
theorem j_M_goesBehind_29 {l : Launch} {μ0 : MM} {q : Int32 × MM} {a0 : Nat} {x1 : Int32} {s0 : Nat} {s1 : Int32} {μ : MM} (h : f_M_goesBehind_J29 a0 x1 s0 s1 μ = some q) : AWm l Y_M_goesBehind 4 μ0 (some (.int q.1)) q.2 29 [some (.ref a0), some (.int x1)] [.int s1, .ref s0] μ := by
  unfold f_M_goesBehind_J29 at h
  obtain ⟨μ29, h29, h⟩ := bnd h
  refine aw_invV (rest := []) (st' := []) (As := [.int s1]) 32 d_M_goesBehind_29 rfl lv_M_393 (m_M_joins h29) (by decide) (k_M_joins h29) rfl rfl rfl (Nat.le_of_ble_eq_true rfl) rfl ?_
  refine aw_aload_n 33 d_M_goesBehind_32 rfl rfl ?_
  refine aw_iload_n 34 d_M_goesBehind_33 rfl rfl ?_
  obtain ⟨μ34, h34, h⟩ := bnd h
  refine aw_invV (rest := []) (st' := []) (As := [.int x1]) 37 d_M_goesBehind_34 rfl lv_M_339 (m_M_puts h34) (by decide) (k_M_puts h34) rfl rfl rfl (Nat.le_of_ble_eq_true rfl) rfl ?_
  refine aw_iconst (v := (1 : Int32)) 38 d_M_goesBehind_37 rfl (by decide) ?_
  cases h
  exact aw_ireturn d_M_goesBehind_38 rfl nar1
theorem j_M_goesBehind_17 {l : Launch} {μ0 : MM} {q : Int32 × MM} {a0 : Nat} {x1 : Int32} {μ : MM} (h : f_M_goesBehind_J17 a0 x1 μ = some q) : AWm l Y_M_goesBehind 4 μ0 (some (.int q.1)) q.2 17 [some (.ref a0), some (.int x1)] [] μ := by
  unfold f_M_goesBehind_J17 at h
  refine aw_aload_n 18 d_M_goesBehind_17 rfl rfl ?_
  refine aw_iload_n 19 d_M_goesBehind_18 rfl rfl ?_
  refine aw_bipush (v := (124 : Int32)) 21 d_M_goesBehind_19 rfl (by decide) ?_
  refine aw_icmp_ne 28 24 d_M_goesBehind_21 (by decide) rfl (fun c21 => ?_) (fun c21 => ?_)
  · have h := (if_neg c21).symm.trans h
    refine aw_iconst (v := (0 : Int32)) 29 d_M_goesBehind_28 rfl (by decide) ?_
    exact (j_M_goesBehind_29 h)
  · have h := (if_pos c21).symm.trans h
    refine aw_iconst (v := (1 : Int32)) 25 d_M_goesBehind_24 rfl (by decide) ?_
    refine aw_goto 29 d_M_goesBehind_25 (by decide) ?_
    exact (j_M_goesBehind_29 h)
theorem j_M_goesBehind_104 {l : Launch} {μ0 : MM} {q : Int32 × MM} {a0 : Nat} {s0 : Nat} {s1 : Int32} {μ : MM} (h : f_M_goesBehind_J104 a0 s0 s1 μ = some q) : AWm l Y_M_goesBehind 4 μ0 (some (.int q.1)) q.2 104 [some (.ref a0), none] [.int s1, .ref s0] μ := by
  unfold f_M_goesBehind_J104 at h
  obtain ⟨μ104, h104, h⟩ := bnd h
  refine aw_putZ 107 false d_M_goesBehind_104 rfl fp_M_396 (fun z => nomatch z) rfl h104 ?_
  refine aw_aload_n 108 d_M_goesBehind_107 rfl rfl ?_
  obtain ⟨y108, h108, h⟩ := bnd h
  refine aw_getI 111 d_M_goesBehind_108 rfl fg_M_396 (Or.inr rfl) h108 ?_
  refine aw_if_ne 118 114 d_M_goesBehind_111 (by decide) rfl (fun c111 => ?_) (fun c111 => ?_)
  · have h := (if_neg c111).symm.trans h
    refine aw_iconst (v := (0 : Int32)) 119 d_M_goesBehind_118 rfl (by decide) ?_
    cases h
    exact aw_ireturn d_M_goesBehind_119 rfl nar0
  · have h := (if_pos c111).symm.trans h
    refine aw_aload_n 115 d_M_goesBehind_114 rfl rfl ?_
    obtain ⟨μ115, h115, h⟩ := bnd h
    refine aw_invV (rest := []) (st' := []) (As := []) 118 d_M_goesBehind_115 rfl lv_M_390 (m_M_ends h115) (by decide) (k_M_ends h115) rfl rfl rfl (Nat.le_of_ble_eq_true rfl) rfl ?_
    refine aw_iconst (v := (0 : Int32)) 119 d_M_goesBehind_118 rfl (by decide) ?_
    cases h
    exact aw_ireturn d_M_goesBehind_119 rfl nar0
theorem m_M_goesBehind {l : Launch} {q : Int32 × MM} {a0 : Nat} {μ : MM} (h : f_M_goesBehind a0 μ = some q) : AMet l 4 Y_M_goesBehind [.ref a0] μ (some (.int q.1)) q.2 := by
  refine AMet.of (loc := [some (.ref a0), none]) pn_M_goesBehind (Nat.le_of_ble_eq_true rfl) rfl ?_
  unfold f_M_goesBehind at h
  obtain ⟨_, hk, h⟩ := bnd h
  refine aw_aload_n 1 d_M_goesBehind_0 rfl rfl ?_
  obtain ⟨y1, h1, h⟩ := bnd h
  refine aw_invV (rest := []) (st' := [.int y1]) (As := []) 4 d_M_goesBehind_1 rfl lv_M_336 (m_M_here h1) (by decide) (k_M_here h1) rfl rfl rfl (Nat.le_of_ble_eq_true rfl) rfl ?_
  refine aw_istore_n (loc' := [some (.ref a0), some (.int y1)]) 5 d_M_goesBehind_4 rfl (by decide) rfl ?_
  refine aw_iload_n 6 d_M_goesBehind_5 rfl rfl ?_
  refine aw_bipush (v := (38 : Int32)) 8 d_M_goesBehind_6 rfl (by decide) ?_
  refine aw_icmp_eq 17 11 d_M_goesBehind_8 (by decide) rfl (fun c8 => ?_) (fun c8 => ?_)
  · have h := (if_pos c8).symm.trans h
    exact (j_M_goesBehind_17 h)
  · have h := (if_neg c8).symm.trans h
    refine aw_iload_n 12 d_M_goesBehind_11 rfl rfl ?_
    refine aw_bipush (v := (124 : Int32)) 14 d_M_goesBehind_12 rfl (by decide) ?_
    refine aw_icmp_ne 39 17 d_M_goesBehind_14 (by decide) rfl (fun c14 => ?_) (fun c14 => ?_)
    · have h := (if_neg c14).symm.trans h
      refine aw_iload_n 40 d_M_goesBehind_39 rfl rfl ?_
      refine aw_bipush (v := (41 : Int32)) 42 d_M_goesBehind_40 rfl (by decide) ?_
      refine aw_icmp_eq 56 45 d_M_goesBehind_42 (by decide) rfl (fun c42 => ?_) (fun c42 => ?_)
      · have h := (if_pos c42).symm.trans h
        refine aw_aload_n 57 d_M_goesBehind_56 rfl rfl ?_
        refine aw_iconst (v := (1 : Int32)) 58 d_M_goesBehind_57 rfl (by decide) ?_
        obtain ⟨μ58, h58, h⟩ := bnd h
        refine aw_invV (rest := []) (st' := []) (As := [.int (1 : Int32)]) 61 d_M_goesBehind_58 rfl lv_M_393 (m_M_joins h58) (by decide) (k_M_joins h58) rfl rfl rfl (Nat.le_of_ble_eq_true rfl) rfl ?_
        refine aw_aload_n 62 d_M_goesBehind_61 rfl rfl ?_
        refine aw_dup 63 d_M_goesBehind_62 rfl rfl ?_
        obtain ⟨y63, h63, h⟩ := bnd h
        refine aw_getI 66 d_M_goesBehind_63 rfl fg_M_327 (Or.inl rfl) h63 ?_
        refine aw_iconst (v := (1 : Int32)) 67 d_M_goesBehind_66 rfl (by decide) ?_
        refine aw_isub 68 d_M_goesBehind_67 rfl ?_
        obtain ⟨μ68, h68, h⟩ := bnd h
        refine aw_putI 71 false d_M_goesBehind_68 rfl fp_M_327 (fun z => nomatch z) rfl h68 ?_
        refine aw_aload_n 72 d_M_goesBehind_71 rfl rfl ?_
        refine aw_dup 73 d_M_goesBehind_72 rfl rfl ?_
        obtain ⟨y73, h73, h⟩ := bnd h
        refine aw_getI 76 d_M_goesBehind_73 rfl fg_M_330 (Or.inl rfl) h73 ?_
        refine aw_iconst (v := (1 : Int32)) 77 d_M_goesBehind_76 rfl (by decide) ?_
        refine aw_isub 78 d_M_goesBehind_77 rfl ?_
        obtain ⟨μ78, h78, h⟩ := bnd h
        refine aw_putI 81 false d_M_goesBehind_78 rfl fp_M_330 (fun z => nomatch z) rfl h78 ?_
        refine aw_aload_n 82 d_M_goesBehind_81 rfl rfl ?_
        refine aw_dup 83 d_M_goesBehind_82 rfl rfl ?_
        obtain ⟨y83, h83, h⟩ := bnd h
        refine aw_getI 86 d_M_goesBehind_83 rfl fg_M_311 (Or.inl rfl) h83 ?_
        refine aw_iconst (v := (1 : Int32)) 87 d_M_goesBehind_86 rfl (by decide) ?_
        refine aw_iadd 88 d_M_goesBehind_87 rfl ?_
        obtain ⟨μ88, h88, h⟩ := bnd h
        refine aw_putI 91 false d_M_goesBehind_88 rfl fp_M_311 (fun z => nomatch z) rfl h88 ?_
        refine aw_aload_n 92 d_M_goesBehind_91 rfl rfl ?_
        refine aw_aload_n 93 d_M_goesBehind_92 rfl rfl ?_
        obtain ⟨y93, h93, h⟩ := bnd h
        refine aw_getI 96 d_M_goesBehind_93 rfl fg_M_327 (Or.inl rfl) h93 ?_
        refine aw_if_ne 103 99 d_M_goesBehind_96 (by decide) rfl (fun c96 => ?_) (fun c96 => ?_)
        · have h := (if_neg c96).symm.trans h
          refine aw_iconst (v := (0 : Int32)) 104 d_M_goesBehind_103 rfl (by decide) ?_
          exact AW.wk [true, false] rfl (j_M_goesBehind_104 h)
        · have h := (if_pos c96).symm.trans h
          refine aw_iconst (v := (1 : Int32)) 100 d_M_goesBehind_99 rfl (by decide) ?_
          refine aw_goto 104 d_M_goesBehind_100 (by decide) ?_
          exact AW.wk [true, false] rfl (j_M_goesBehind_104 h)
      · have h := (if_neg c42).symm.trans h
        refine aw_aload_n 46 d_M_goesBehind_45 rfl rfl ?_
        refine aw_iconst (v := (1 : Int32)) 47 d_M_goesBehind_46 rfl (by decide) ?_
        refine aw_aload_n 48 d_M_goesBehind_47 rfl rfl ?_
        obtain ⟨y48, h48, h⟩ := bnd h
        refine aw_getI 51 d_M_goesBehind_48 rfl fg_M_311 (Or.inl rfl) h48 ?_
        obtain ⟨μ51, h51, h⟩ := bnd h
        refine aw_invV (rest := []) (st' := []) (As := [.int (1 : Int32), .int y48]) 54 d_M_goesBehind_51 rfl lv_M_333 (m_M_wrongs h51) (by decide) (k_M_wrongs h51) rfl rfl rfl (Nat.le_of_ble_eq_true rfl) rfl ?_
        refine aw_iconst (v := (0 : Int32)) 55 d_M_goesBehind_54 rfl (by decide) ?_
        cases h
        exact aw_ireturn d_M_goesBehind_55 rfl nar0
    · have h := (if_pos c14).symm.trans h
      exact (j_M_goesBehind_17 h)
theorem k_M_goesBehind {q : Int32 × MM} {a0 : Nat} {μ : MM} (h : f_M_goesBehind a0 μ = some q) : μ.1[a0]? = some (0, 1) := by
  unfold f_M_goesBehind at h
  obtain ⟨_, h1, _⟩ := bnd h
  exact kO_some h1
theorem j_M_condition_59 {l : Launch} {μ0 : MM} {q : MM} {a0 : Nat} {x1 : Int32} {μ : MM} {k37 : Int32 → MM → Option (MM)} (hk37 : ∀ (x1 : Int32) (μ : MM), k37 x1 μ = some q → AWm l Y_M_condition 7 μ0 none q 37 [some (.ref a0), some (.int x1)] [] μ) (h : f_M_condition_J59 k37 a0 x1 μ = some q) : AWm l Y_M_condition 7 μ0 none q 59 [some (.ref a0), some (.int x1)] [] μ := by
  unfold f_M_condition_J59 at h
  refine aw_aload_n 60 d_M_condition_59 rfl rfl ?_
  obtain ⟨y60, h60, h⟩ := bnd h
  refine aw_invV (rest := []) (st' := [.int y60]) (As := []) 63 d_M_condition_60 rfl lv_M_320 (m_M_isGood h60) (by decide) (k_M_isGood h60) rfl rfl rfl (Nat.le_of_ble_eq_true rfl) rfl ?_
  refine aw_if_eq 37 66 d_M_condition_63 (by decide) rfl (fun c63 => ?_) (fun c63 => ?_)
  · have h := (if_pos c63).symm.trans h
    exact (hk37 x1 μ h)
  · have h := (if_neg c63).symm.trans h
    refine aw_aload_n 67 d_M_condition_66 rfl rfl ?_
    obtain ⟨q67, h67, h⟩ := bnd h
    refine aw_invV (rest := []) (st' := [.int q67.1]) (As := []) 70 d_M_condition_67 rfl lv_M_402 (m_M_goesBehind h67) (by decide) (k_M_goesBehind h67) rfl rfl rfl (Nat.le_of_ble_eq_true rfl) rfl ?_
    refine aw_istore_n (loc' := [some (.ref a0), some (.int q67.1)]) 71 d_M_condition_70 rfl (by decide) rfl ?_
    refine aw_goto 37 d_M_condition_71 (by decide) ?_
    exact (hk37 q67.1 q67.2 h)
theorem l_M_condition_37 {l : Launch} {μ0 : MM} {q : MM} {a0 : Nat} : ∀ (n : Nat) (x1 : Int32) (μ : MM), f_M_condition_L37 a0 n x1 μ = some q → AWm l Y_M_condition 7 μ0 none q 37 [some (.ref a0), some (.int x1)] [] μ := by
  intro n
  induction n with
  | zero =>
    intro x1 μ h
    have h : (none : Option (MM)) = some q := h
    cases h
  | succ n ih =>
    intro x1 μ h
    rw [f_M_condition_L37] at h
    refine aw_aload_n 38 d_M_condition_37 rfl rfl ?_
    obtain ⟨y38, h38, h⟩ := bnd h
    refine aw_invV (rest := []) (st' := [.int y38]) (As := []) 41 d_M_condition_38 rfl lv_M_320 (m_M_isGood h38) (by decide) (k_M_isGood h38) rfl rfl rfl (Nat.le_of_ble_eq_true rfl) rfl ?_
    refine aw_if_eq 74 44 d_M_condition_41 (by decide) rfl (fun c41 => ?_) (fun c41 => ?_)
    · have h := (if_pos c41).symm.trans h
      cases h
      exact aw_return d_M_condition_74 rfl
    · have h := (if_neg c41).symm.trans h
      refine aw_aload_n 45 d_M_condition_44 rfl rfl ?_
      obtain ⟨y45, h45, h⟩ := bnd h
      refine aw_getI 48 d_M_condition_45 rfl fg_M_396 (Or.inr rfl) h45 ?_
      refine aw_if_ne 74 51 d_M_condition_48 (by decide) rfl (fun c48 => ?_) (fun c48 => ?_)
      · have h := (if_neg c48).symm.trans h
        cases h
        exact aw_return d_M_condition_74 rfl
      · have h := (if_pos c48).symm.trans h
        refine aw_iload_n 52 d_M_condition_51 rfl rfl ?_
        refine aw_if_eq 59 55 d_M_condition_52 (by decide) rfl (fun c52 => ?_) (fun c52 => ?_)
        · have h := (if_pos c52).symm.trans h
          exact (j_M_condition_59 ih h)
        · have h := (if_neg c52).symm.trans h
          refine aw_aload_n 56 d_M_condition_55 rfl rfl ?_
          obtain ⟨μ56, h56, h⟩ := bnd h
          refine aw_invV (rest := []) (st' := []) (As := []) 59 d_M_condition_56 rfl lv_M_399 (m_M_pieceOfC h56) (by decide) (k_M_pieceOfC h56) rfl rfl rfl (Nat.le_of_ble_eq_true rfl) rfl ?_
          exact (j_M_condition_59 ih h)
theorem j_M_condition_23 {l : Launch} {μ0 : MM} {q : MM} {a0 : Nat} {μ : MM} (h : f_M_condition_J23 a0 μ = some q) : AWm l Y_M_condition 7 μ0 none q 23 [some (.ref a0), none] [] μ := by
  unfold f_M_condition_J23 at h
  refine aw_aload_n 24 d_M_condition_23 rfl rfl ?_
  obtain ⟨y24, h24, h⟩ := bnd h
  refine aw_invV (rest := []) (st' := [.int y24]) (As := []) 27 d_M_condition_24 rfl lv_M_320 (m_M_isGood h24) (by decide) (k_M_isGood h24) rfl rfl rfl (Nat.le_of_ble_eq_true rfl) rfl ?_
  refine aw_if_ne 31 30 d_M_condition_27 (by decide) rfl (fun c27 => ?_) (fun c27 => ?_)
  · have h := (if_neg c27).symm.trans h
    refine aw_aload_n 32 d_M_condition_31 rfl rfl ?_
    obtain ⟨μ32, h32, h⟩ := bnd h
    refine aw_invV (rest := []) (st' := []) (As := []) 35 d_M_condition_32 rfl lv_M_361 (m_M_opens h32) (by decide) (k_M_opens h32) rfl rfl rfl (Nat.le_of_ble_eq_true rfl) rfl ?_
    refine aw_iconst (v := (1 : Int32)) 36 d_M_condition_35 rfl (by decide) ?_
    refine aw_istore_n (loc' := [some (.ref a0), some (.int (1 : Int32))]) 37 d_M_condition_36 rfl (by decide) rfl ?_
    exact (l_M_condition_37 FU _ _ h)
  · have h := (if_pos c27).symm.trans h
    cases h
    exact aw_return d_M_condition_30 rfl
theorem m_M_condition {l : Launch} {q : MM} {a0 : Nat} {μ : MM} (h : f_M_condition a0 μ = some q) : AMet l 7 Y_M_condition [.ref a0] μ none q := by
  refine AMet.of (loc := [some (.ref a0), none]) pn_M_condition (Nat.le_of_ble_eq_true rfl) rfl ?_
  unfold f_M_condition at h
  obtain ⟨_, hk, h⟩ := bnd h
  refine aw_aload_n 1 d_M_condition_0 rfl rfl ?_
  refine aw_iconst (v := (0 : Int32)) 2 d_M_condition_1 rfl (by decide) ?_
  obtain ⟨μ2, h2, h⟩ := bnd h
  refine aw_putZ 5 false d_M_condition_2 rfl fp_M_396 (fun z => nomatch z) rfl h2 ?_
  refine aw_aload_n 6 d_M_condition_5 rfl rfl ?_
  obtain ⟨y6, h6, h⟩ := bnd h
  refine aw_invV (rest := []) (st' := [.int y6]) (As := []) 9 d_M_condition_6 rfl lv_M_336 (m_M_here h6) (by decide) (k_M_here h6) rfl rfl rfl (Nat.le_of_ble_eq_true rfl) rfl ?_
  refine aw_bipush (v := (40 : Int32)) 11 d_M_condition_9 rfl (by decide) ?_
  refine aw_icmp_eq 23 14 d_M_condition_11 (by decide) rfl (fun c11 => ?_) (fun c11 => ?_)
  · have h := (if_pos c11).symm.trans h
    exact (j_M_condition_23 h)
  · have h := (if_neg c11).symm.trans h
    refine aw_aload_n 15 d_M_condition_14 rfl rfl ?_
    refine aw_iconst (v := (1 : Int32)) 16 d_M_condition_15 rfl (by decide) ?_
    refine aw_aload_n 17 d_M_condition_16 rfl rfl ?_
    obtain ⟨y17, h17, h⟩ := bnd h
    refine aw_getI 20 d_M_condition_17 rfl fg_M_311 (Or.inl rfl) h17 ?_
    obtain ⟨μ20, h20, h⟩ := bnd h
    refine aw_invV (rest := []) (st' := []) (As := [.int (1 : Int32), .int y17]) 23 d_M_condition_20 rfl lv_M_333 (m_M_wrongs h20) (by decide) (k_M_wrongs h20) rfl rfl rfl (Nat.le_of_ble_eq_true rfl) rfl ?_
    exact (j_M_condition_23 h)
theorem k_M_condition {q : MM} {a0 : Nat} {μ : MM} (h : f_M_condition a0 μ = some q) : μ.1[a0]? = some (0, 1) := by
  unfold f_M_condition at h
  obtain ⟨_, h1, _⟩ := bnd h
  exact kO_some h1
