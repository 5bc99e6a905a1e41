/-! PRINTED by wip/gen/gen1.py: the bytecode does what the functions say -/
theorem l_Ar_fill_AI_5 {l : Launch} {μ0 : MM} {q : MM} {a0 : Nat} {x1 : Int32} {x3 : Int32} : ∀ (n : Nat) (x2 : Int32) (μ : MM), f_Ar_fill_AI_L5 a0 x1 x3 n x2 μ = some q → AWm l Y_Ar_fill_AI 1 μ0 none q 5 [some (.ref a0), some (.int x1), some (.int x2), some (.int x3)] [] μ := by
  intro n
  induction n with
  | zero =>
    intro x2 μ h
    have h : (none : Option (MM)) = some q := h
    cases h
  | succ n ih =>
    intro x2 μ h
    rw [f_Ar_fill_AI_L5] at h
    refine aw_iload_n 6 d_Ar_fill_AI_5 rfl rfl ?_
    refine aw_iload_n 7 d_Ar_fill_AI_6 rfl rfl ?_
    refine aw_icmp_ge 20 10 d_Ar_fill_AI_7 (by decide) rfl (fun c7 => ?_) (fun c7 => ?_)
    · have h := (if_pos c7).symm.trans h
      cases h
      exact aw_return d_Ar_fill_AI_20 rfl
    · have h := (if_neg c7).symm.trans h
      refine aw_aload_n 11 d_Ar_fill_AI_10 rfl rfl ?_
      refine aw_iload_n 12 d_Ar_fill_AI_11 rfl rfl ?_
      refine aw_iload_n 13 d_Ar_fill_AI_12 rfl rfl ?_
      obtain ⟨μ13, h13, h⟩ := bnd h
      refine aw_iast 14 d_Ar_fill_AI_13 rfl h13 ?_
      refine aw_iinc (v := (x2 + (1 : Int32))) (loc' := [some (.ref a0), some (.int x1), some (.int (x2 + (1 : Int32))), some (.int x3)]) 17 d_Ar_fill_AI_14 rfl (by decide) rfl rfl rfl ?_
      refine aw_goto 5 d_Ar_fill_AI_17 (by decide) ?_
      exact (ih (x2 + (1 : Int32)) μ13 h)
theorem m_Ar_fill_AI {l : Launch} {q : MM} {a0 : Nat} {x1 : Int32} {μ : MM} (h : f_Ar_fill_AI a0 x1 μ = some q) : AMet l 1 Y_Ar_fill_AI [.ref a0, .int x1] μ none q := by
  refine AMet.of (loc := [some (.ref a0), some (.int x1), none, none]) pn_Ar_fill_AI (Nat.le_of_ble_eq_true rfl) rfl ?_
  unfold f_Ar_fill_AI at h
  refine aw_iconst (v := (0 : Int32)) 1 d_Ar_fill_AI_0 rfl (by decide) ?_
  refine aw_istore_n (loc' := [some (.ref a0), some (.int x1), some (.int (0 : Int32)), none]) 2 d_Ar_fill_AI_1 rfl (by decide) rfl ?_
  refine aw_aload_n 3 d_Ar_fill_AI_2 rfl rfl ?_
  obtain ⟨y3, h3, h⟩ := bnd h
  refine aw_alen 4 d_Ar_fill_AI_3 rfl h3 ?_
  refine aw_istore_n (loc' := [some (.ref a0), some (.int x1), some (.int (0 : Int32)), some (.int y3)]) 5 d_Ar_fill_AI_4 rfl (by decide) rfl ?_
  exact (l_Ar_fill_AI_5 FU _ _ h)
theorem m_Sc_init {l : Launch} {q : MM} {a0 : Nat} {μ : MM} (h : f_Sc_init a0 μ = some q) : AMet l 2 Y_Sc_init [.ref a0] μ none q := by
  refine AMet.of (loc := [some (.ref a0)]) pn_Sc_init (Nat.le_of_ble_eq_true rfl) rfl ?_
  unfold f_Sc_init at h
  obtain ⟨_, hk, h⟩ := bnd h
  refine aw_aload_n 1 d_Sc_init_0 rfl rfl ?_
  refine aw_objInit 4 d_Sc_init_1 rfl oi_Sc_3 (Nat.le_of_ble_eq_true rfl) (Nat.le_of_ble_eq_true rfl) ?_
  refine aw_aload_n 5 d_Sc_init_4 rfl rfl ?_
  refine aw_sipush (v := (144 : Int32)) 8 d_Sc_init_5 rfl (by decide) ?_
  obtain ⟨μ8, h8, h⟩ := bnd h
  refine aw_newa (t := 1) (ty := .int) 10 d_Sc_init_8 rfl rfl (by simp) ac_int h8 ?_
  obtain ⟨μ10, h10, h⟩ := bnd h
  refine aw_putR 13 true d_Sc_init_10 rfl fp_Sc_9 (fun _ => rfl) rfl h10 ?_
  refine aw_aload_n 14 d_Sc_init_13 rfl rfl ?_
  refine aw_sipush (v := (144 : Int32)) 17 d_Sc_init_14 rfl (by decide) ?_
  obtain ⟨μ17, h17, h⟩ := bnd h
  refine aw_newa (t := 1) (ty := .int) 19 d_Sc_init_17 rfl rfl (by simp) ac_int h17 ?_
  obtain ⟨μ19, h19, h⟩ := bnd h
  refine aw_putR 22 true d_Sc_init_19 rfl fp_Sc_15 (fun _ => rfl) rfl h19 ?_
  refine aw_aload_n 23 d_Sc_init_22 rfl rfl ?_
  refine aw_sipush (v := (144 : Int32)) 26 d_Sc_init_23 rfl (by decide) ?_
  obtain ⟨μ26, h26, h⟩ := bnd h
  refine aw_newa (t := 1) (ty := .int) 28 d_Sc_init_26 rfl rfl (by simp) ac_int h26 ?_
  obtain ⟨μ28, h28, h⟩ := bnd h
  refine aw_putR 31 true d_Sc_init_28 rfl fp_Sc_18 (fun _ => rfl) rfl h28 ?_
  refine aw_aload_n 32 d_Sc_init_31 rfl rfl ?_
  refine aw_bipush (v := (6 : Int32)) 34 d_Sc_init_32 rfl (by decide) ?_
  obtain ⟨μ34, h34, h⟩ := bnd h
  refine aw_newa (t := 1) (ty := .int) 36 d_Sc_init_34 rfl rfl (by simp) ac_int h34 ?_
  obtain ⟨μ36, h36, h⟩ := bnd h
  refine aw_putR 39 true d_Sc_init_36 rfl fp_Sc_21 (fun _ => rfl) rfl h36 ?_
  refine aw_aload_n 40 d_Sc_init_39 rfl rfl ?_
  refine aw_bipush (v := (24 : Int32)) 42 d_Sc_init_40 rfl (by decide) ?_
  obtain ⟨μ42, h42, h⟩ := bnd h
  refine aw_newa (t := 1) (ty := .int) 44 d_Sc_init_42 rfl rfl (by simp) ac_int h42 ?_
  obtain ⟨μ44, h44, h⟩ := bnd h
  refine aw_putR 47 true d_Sc_init_44 rfl fp_Sc_24 (fun _ => rfl) rfl h44 ?_
  refine aw_aload_n 48 d_Sc_init_47 rfl rfl ?_
  refine aw_bipush (v := (24 : Int32)) 50 d_Sc_init_48 rfl (by decide) ?_
  obtain ⟨μ50, h50, h⟩ := bnd h
  refine aw_newa (t := 1) (ty := .int) 52 d_Sc_init_50 rfl rfl (by simp) ac_int h50 ?_
  obtain ⟨μ52, h52, h⟩ := bnd h
  refine aw_putR 55 true d_Sc_init_52 rfl fp_Sc_27 (fun _ => rfl) rfl h52 ?_
  refine aw_aload_n 56 d_Sc_init_55 rfl rfl ?_
  refine aw_bipush (v := (24 : Int32)) 58 d_Sc_init_56 rfl (by decide) ?_
  obtain ⟨μ58, h58, h⟩ := bnd h
  refine aw_newa (t := 1) (ty := .int) 60 d_Sc_init_58 rfl rfl (by simp) ac_int h58 ?_
  obtain ⟨μ60, h60, h⟩ := bnd h
  refine aw_putR 63 true d_Sc_init_60 rfl fp_Sc_30 (fun _ => rfl) rfl h60 ?_
  refine aw_aload_n 64 d_Sc_init_63 rfl rfl ?_
  obtain ⟨y64, h64, h⟩ := bnd h
  refine aw_getR 67 d_Sc_init_64 rfl fg_Sc_9 rfl h64 ?_
  refine aw_iconst (v := (-1 : Int32)) 68 d_Sc_init_67 rfl (by decide) ?_
  obtain ⟨μ68, h68, h⟩ := bnd h
  refine aw_invS (rest := []) (st' := []) (As := [.ref y64, .int (-1 : Int32)]) 71 d_Sc_init_68 rfl ls_Sc_33 (m_Ar_fill_AI h68) (by decide) rfl rfl (Nat.le_of_ble_eq_true rfl) rfl ?_
  refine aw_aload_n 72 d_Sc_init_71 rfl rfl ?_
  obtain ⟨y72, h72, h⟩ := bnd h
  refine aw_getR 75 d_Sc_init_72 rfl fg_Sc_24 rfl h72 ?_
  refine aw_iconst (v := (-1 : Int32)) 76 d_Sc_init_75 rfl (by decide) ?_
  obtain ⟨μ76, h76, h⟩ := bnd h
  refine aw_invS (rest := []) (st' := []) (As := [.ref y72, .int (-1 : Int32)]) 79 d_Sc_init_76 rfl ls_Sc_33 (m_Ar_fill_AI h76) (by decide) rfl rfl (Nat.le_of_ble_eq_true rfl) rfl ?_
  cases h
  exact aw_return d_Sc_init_79 rfl
theorem k_Sc_init {q : MM} {a0 : Nat} {μ : MM} (h : f_Sc_init a0 μ = some q) : μ.1[a0]? = some (0, 8) := by
  unfold f_Sc_init at h
  obtain ⟨_, h1, _⟩ := bnd h
  exact kO_some h1
theorem m_Pr_init {l : Launch} {q : MM} {a0 : Nat} {μ : MM} (h : f_Pr_init a0 μ = some q) : AMet l 1 Y_Pr_init [.ref a0] μ none q := by
  refine AMet.of (loc := [some (.ref a0)]) pn_Pr_init (Nat.le_of_ble_eq_true rfl) rfl ?_
  unfold f_Pr_init at h
  obtain ⟨_, hk, h⟩ := bnd h
  refine aw_aload_n 1 d_Pr_init_0 rfl rfl ?_
  refine aw_objInit 4 d_Pr_init_1 rfl oi_Pr_3 (Nat.le_of_ble_eq_true rfl) (Nat.le_of_ble_eq_true rfl) ?_
  refine aw_aload_n 5 d_Pr_init_4 rfl rfl ?_
  refine aw_sipush (v := (200 : Int32)) 8 d_Pr_init_5 rfl (by decide) ?_
  obtain ⟨μ8, h8, h⟩ := bnd h
  refine aw_newa (t := 1) (ty := .int) 10 d_Pr_init_8 rfl rfl (by simp) ac_int h8 ?_
  obtain ⟨μ10, h10, h⟩ := bnd h
  refine aw_putR 13 true d_Pr_init_10 rfl fp_Pr_11 (fun _ => rfl) rfl h10 ?_
  refine aw_aload_n 14 d_Pr_init_13 rfl rfl ?_
  refine aw_sipush (v := (200 : Int32)) 17 d_Pr_init_14 rfl (by decide) ?_
  obtain ⟨μ17, h17, h⟩ := bnd h
  refine aw_newa (t := 1) (ty := .int) 19 d_Pr_init_17 rfl rfl (by simp) ac_int h17 ?_
  obtain ⟨μ19, h19, h⟩ := bnd h
  refine aw_putR 22 true d_Pr_init_19 rfl fp_Pr_17 (fun _ => rfl) rfl h19 ?_
  refine aw_aload_n 23 d_Pr_init_22 rfl rfl ?_
  refine aw_bipush (v := (64 : Int32)) 25 d_Pr_init_23 rfl (by decide) ?_
  obtain ⟨μ25, h25, h⟩ := bnd h
  refine aw_newa (t := 1) (ty := .int) 27 d_Pr_init_25 rfl rfl (by simp) ac_int h25 ?_
  obtain ⟨μ27, h27, h⟩ := bnd h
  refine aw_putR 30 true d_Pr_init_27 rfl fp_Pr_20 (fun _ => rfl) rfl h27 ?_
  refine aw_aload_n 31 d_Pr_init_30 rfl rfl ?_
  refine aw_bipush (v := (14 : Int32)) 33 d_Pr_init_31 rfl (by decide) ?_
  obtain ⟨μ33, h33, h⟩ := bnd h
  refine aw_newa (t := 1) (ty := .int) 35 d_Pr_init_33 rfl rfl (by simp) ac_int h33 ?_
  obtain ⟨μ35, h35, h⟩ := bnd h
  refine aw_putR 38 true d_Pr_init_35 rfl fp_Pr_23 (fun _ => rfl) rfl h35 ?_
  refine aw_aload_n 39 d_Pr_init_38 rfl rfl ?_
  refine aw_bipush (v := (15 : Int32)) 41 d_Pr_init_39 rfl (by decide) ?_
  obtain ⟨μ41, h41, h⟩ := bnd h
  refine aw_newa (t := 1) (ty := .int) 43 d_Pr_init_41 rfl rfl (by simp) ac_int h41 ?_
  obtain ⟨μ43, h43, h⟩ := bnd h
  refine aw_putR 46 true d_Pr_init_43 rfl fp_Pr_26 (fun _ => rfl) rfl h43 ?_
  refine aw_aload_n 47 d_Pr_init_46 rfl rfl ?_
  refine aw_bipush (v := (14 : Int32)) 49 d_Pr_init_47 rfl (by decide) ?_
  obtain ⟨μ49, h49, h⟩ := bnd h
  refine aw_newa (t := 1) (ty := .int) 51 d_Pr_init_49 rfl rfl (by simp) ac_int h49 ?_
  obtain ⟨μ51, h51, h⟩ := bnd h
  refine aw_putR 54 true d_Pr_init_51 rfl fp_Pr_29 (fun _ => rfl) rfl h51 ?_
  cases h
  exact aw_return d_Pr_init_54 rfl
theorem k_Pr_init {q : MM} {a0 : Nat} {μ : MM} (h : f_Pr_init a0 μ = some q) : μ.1[a0]? = some (0, 5) := by
  unfold f_Pr_init at h
  obtain ⟨_, h1, _⟩ := bnd h
  exact kO_some h1
theorem m_Ch_init {l : Launch} {q : MM} {a0 : Nat} {a1 : Nat} {μ : MM} (h : f_Ch_init a0 a1 μ = some q) : AMet l 2 Y_Ch_init [.ref a0, .ref a1] μ none q := by
  refine AMet.of (loc := [some (.ref a0), some (.ref a1)]) pn_Ch_init (Nat.le_of_ble_eq_true rfl) rfl ?_
  unfold f_Ch_init at h
  obtain ⟨_, hk, h⟩ := bnd h
  refine aw_aload_n 1 d_Ch_init_0 rfl rfl ?_
  refine aw_objInit 4 d_Ch_init_1 rfl oi_Ch_3 (Nat.le_of_ble_eq_true rfl) (Nat.le_of_ble_eq_true rfl) ?_
  refine aw_aload_n 5 d_Ch_init_4 rfl rfl ?_
  refine aw_bipush (v := (8 : Int32)) 7 d_Ch_init_5 rfl (by decide) ?_
  obtain ⟨μ7, h7, h⟩ := bnd h
  refine aw_newa (t := 1) (ty := .int) 9 d_Ch_init_7 rfl rfl (by simp) ac_int h7 ?_
  obtain ⟨μ9, h9, h⟩ := bnd h
  refine aw_putR 12 true d_Ch_init_9 rfl fp_Ch_9 (fun _ => rfl) rfl h9 ?_
  refine aw_aload_n 13 d_Ch_init_12 rfl rfl ?_
  refine aw_bipush (v := (8 : Int32)) 15 d_Ch_init_13 rfl (by decide) ?_
  obtain ⟨μ15, h15, h⟩ := bnd h
  refine aw_newa (t := 1) (ty := .int) 17 d_Ch_init_15 rfl rfl (by simp) ac_int h15 ?_
  obtain ⟨μ17, h17, h⟩ := bnd h
  refine aw_putR 20 true d_Ch_init_17 rfl fp_Ch_15 (fun _ => rfl) rfl h17 ?_
  refine aw_aload_n 21 d_Ch_init_20 rfl rfl ?_
  refine aw_bipush (v := (8 : Int32)) 23 d_Ch_init_21 rfl (by decide) ?_
  obtain ⟨μ23, h23, h⟩ := bnd h
  refine aw_newa (t := 1) (ty := .int) 25 d_Ch_init_23 rfl rfl (by simp) ac_int h23 ?_
  obtain ⟨μ25, h25, h⟩ := bnd h
  refine aw_putR 28 true d_Ch_init_25 rfl fp_Ch_18 (fun _ => rfl) rfl h25 ?_
  refine aw_aload_n 29 d_Ch_init_28 rfl rfl ?_
  refine aw_bipush (v := (8 : Int32)) 31 d_Ch_init_29 rfl (by decide) ?_
  obtain ⟨μ31, h31, h⟩ := bnd h
  refine aw_newa (t := 1) (ty := .int) 33 d_Ch_init_31 rfl rfl (by simp) ac_int h31 ?_
  obtain ⟨μ33, h33, h⟩ := bnd h
  refine aw_putR 36 true d_Ch_init_33 rfl fp_Ch_21 (fun _ => rfl) rfl h33 ?_
  refine aw_aload_n 37 d_Ch_init_36 rfl rfl ?_
  refine aw_sipush (v := (192 : Int32)) 40 d_Ch_init_37 rfl (by decide) ?_
  obtain ⟨μ40, h40, h⟩ := bnd h
  refine aw_newa (t := 1) (ty := .int) 42 d_Ch_init_40 rfl rfl (by simp) ac_int h40 ?_
  obtain ⟨μ42, h42, h⟩ := bnd h
  refine aw_putR 45 true d_Ch_init_42 rfl fp_Ch_24 (fun _ => rfl) rfl h42 ?_
  refine aw_aload_n 46 d_Ch_init_45 rfl rfl ?_
  refine aw_bipush (v := (8 : Int32)) 48 d_Ch_init_46 rfl (by decide) ?_
  obtain ⟨μ48, h48, h⟩ := bnd h
  refine aw_newa (t := 1) (ty := .int) 50 d_Ch_init_48 rfl rfl (by simp) ac_int h48 ?_
  obtain ⟨μ50, h50, h⟩ := bnd h
  refine aw_putR 53 true d_Ch_init_50 rfl fp_Ch_27 (fun _ => rfl) rfl h50 ?_
  refine aw_aload_n 54 d_Ch_init_53 rfl rfl ?_
  refine aw_bipush (v := (12 : Int32)) 56 d_Ch_init_54 rfl (by decide) ?_
  obtain ⟨μ56, h56, h⟩ := bnd h
  refine aw_newa (t := 1) (ty := .int) 58 d_Ch_init_56 rfl rfl (by simp) ac_int h56 ?_
  obtain ⟨μ58, h58, h⟩ := bnd h
  refine aw_putR 61 true d_Ch_init_58 rfl fp_Ch_30 (fun _ => rfl) rfl h58 ?_
  refine aw_aload_n 62 d_Ch_init_61 rfl rfl ?_
  refine aw_aload_n 63 d_Ch_init_62 rfl rfl ?_
  obtain ⟨μ63, h63, h⟩ := bnd h
  refine aw_putR 66 true d_Ch_init_63 rfl fp_Ch_33 (fun _ => rfl) rfl h63 ?_
  refine aw_aload_n 67 d_Ch_init_66 rfl rfl ?_
  obtain ⟨μ67, h67, h⟩ := bnd h
  refine aw_new 70 d_Ch_init_67 rfl cf5 cl_Ch_37 h67 ?_
  refine aw_dup 71 d_Ch_init_70 rfl rfl ?_
  obtain ⟨μ71, h71, h⟩ := bnd h
  refine aw_invI (rest := [.ref (nc μ63), .ref a0]) (st' := [.ref (nc μ63), .ref a0]) (As := []) 74 d_Ch_init_71 rfl li_Ch_39 (m_Pr_init h71) (by decide) rfl rfl (Nat.le_of_ble_eq_true rfl) rfl ?_
  obtain ⟨μ74, h74, h⟩ := bnd h
  refine aw_putR 77 false d_Ch_init_74 rfl fp_Ch_40 (fun z => nomatch z) rfl h74 ?_
  refine aw_aload_n 78 d_Ch_init_77 rfl rfl ?_
  refine aw_iconst (v := (1 : Int32)) 79 d_Ch_init_78 rfl (by decide) ?_
  obtain ⟨μ79, h79, h⟩ := bnd h
  refine aw_putI 82 false d_Ch_init_79 rfl fp_Ch_44 (fun z => nomatch z) rfl h79 ?_
  cases h
  exact aw_return d_Ch_init_82 rfl
theorem k_Ch_init {q : MM} {a0 : Nat} {a1 : Nat} {μ : MM} (h : f_Ch_init a0 a1 μ = some q) : μ.1[a0]? = some (0, 2) := by
  unfold f_Ch_init at h
  obtain ⟨_, h1, _⟩ := bnd h
  exact kO_some h1
theorem m_Str_coder {l : Launch} {q : Int32} {a0 : Nat} {μ : MM} (h : f_Str_coder a0 = some q) : AMet l 1 Y_Str_coder [.ref a0] μ (some (.int q)) μ := by
  refine AMet.of (loc := [some (.ref a0)]) pn_Str_coder (Nat.le_of_ble_eq_true rfl) rfl ?_
  unfold f_Str_coder at h
  obtain ⟨_, hk, h⟩ := bnd h
  refine aw_getCS 3 d_Str_coder_0 rfl fs_Str_38 ?_
  refine aw_if_eq 13 6 d_Str_coder_3 (by decide) rfl (fun c3 => ?_) (fun c3 => ?_)
  · have h := (if_pos c3).symm.trans h
    refine aw_iconst (v := (1 : Int32)) 14 d_Str_coder_13 rfl (by decide) ?_
    obtain ⟨y14, h14, h⟩ := bnd h
    obtain ⟨e14, n14⟩ := rb_some h14
    rw [e14] at h
    cases h
    exact aw_ireturn d_Str_coder_14 rfl n14
  · have h := (if_neg c3).symm.trans h
    refine aw_aload_n 7 d_Str_coder_6 rfl rfl ?_
    obtain ⟨y7, h7, h⟩ := bnd h
    refine aw_getSC 10 d_Str_coder_7 rfl fs_Str_15 h7 ?_
    refine aw_goto 14 d_Str_coder_10 (by decide) ?_
    obtain ⟨y14, h14, h⟩ := bnd h
    obtain ⟨e14, n14⟩ := rb_some h14
    rw [e14] at h
    cases h
    exact aw_ireturn d_Str_coder_14 rfl n14
theorem k_Str_coder {q : Int32} {a0 : Nat} (h : f_Str_coder a0 = some q) : a0 = LIM ∨ a0 = LIM + 1 := by
  unfold f_Str_coder at h
  obtain ⟨_, h1, _⟩ := bnd h
  exact kS_some h1
theorem m_Str_length {l : Launch} {q : Int32} {a0 : Nat} {μ : MM} (h : f_Str_length a0 = some q) : AMet l 2 Y_Str_length [.ref a0] μ (some (.int q)) μ := by
  refine AMet.of (loc := [some (.ref a0)]) pn_Str_length (Nat.le_of_ble_eq_true rfl) rfl ?_
  unfold f_Str_length at h
  obtain ⟨_, hk, h⟩ := bnd h
  refine aw_aload_n 1 d_Str_length_0 rfl rfl ?_
  obtain ⟨y1, h1, h⟩ := bnd h
  refine aw_getSV 4 d_Str_length_1 rfl fs_Str_9 h1 ?_
  obtain ⟨y4, h4, h⟩ := bnd h
  refine aw_salen 5 d_Str_length_4 rfl h4 ?_
  refine aw_aload_n 6 d_Str_length_5 rfl rfl ?_
  obtain ⟨y6, h6, h⟩ := bnd h
  refine aw_invVS (rest := [.int y4]) (st' := [.int y6, .int y4]) (As := []) 9 d_Str_length_6 rfl lv_Str_335 (m_Str_coder h6) (by decide) (k_Str_coder h6) rfl rfl rfl (Nat.le_of_ble_eq_true rfl) rfl ?_
  refine aw_ishr 10 d_Str_length_9 rfl ?_
  cases h
  exact aw_ireturn d_Str_length_10 rfl rfl
theorem k_Str_length {q : Int32} {a0 : Nat} (h : f_Str_length a0 = some q) : a0 = LIM ∨ a0 = LIM + 1 := by
  unfold f_Str_length at h
  obtain ⟨_, h1, _⟩ := bnd h
  exact kS_some h1
theorem m_Si_init {l : Launch} {q : MM} {a0 : Nat} {a1 : Nat} {a2 : Nat} {μ : MM} (h : f_Si_init a0 a1 a2 μ = some q) : AMet l 3 Y_Si_init [.ref a0, .ref a1, .ref a2] μ none q := by
  refine AMet.of (loc := [some (.ref a0), some (.ref a1), some (.ref a2)]) pn_Si_init (Nat.le_of_ble_eq_true rfl) rfl ?_
  unfold f_Si_init at h
  obtain ⟨_, hk, h⟩ := bnd h
  refine aw_aload_n 1 d_Si_init_0 rfl rfl ?_
  refine aw_objInit 4 d_Si_init_1 rfl oi_Si_3 (Nat.le_of_ble_eq_true rfl) (Nat.le_of_ble_eq_true rfl) ?_
  refine aw_aload_n 5 d_Si_init_4 rfl rfl ?_
  refine aw_sipush (v := (192 : Int32)) 8 d_Si_init_5 rfl (by decide) ?_
  obtain ⟨μ8, h8, h⟩ := bnd h
  refine aw_newa (t := 4) (ty := .long) 10 d_Si_init_8 rfl rfl (by simp) ac_long h8 ?_
  obtain ⟨μ10, h10, h⟩ := bnd h
  refine aw_putR 13 true d_Si_init_10 rfl fp_Si_9 (fun _ => rfl) rfl h10 ?_
  refine aw_aload_n 14 d_Si_init_13 rfl rfl ?_
  refine aw_bipush (v := (8 : Int32)) 16 d_Si_init_14 rfl (by decide) ?_
  obtain ⟨μ16, h16, h⟩ := bnd h
  refine aw_newa (t := 4) (ty := .long) 18 d_Si_init_16 rfl rfl (by simp) ac_long h16 ?_
  obtain ⟨μ18, h18, h⟩ := bnd h
  refine aw_putR 21 true d_Si_init_18 rfl fp_Si_15 (fun _ => rfl) rfl h18 ?_
  refine aw_aload_n 22 d_Si_init_21 rfl rfl ?_
  refine aw_ldcS (i := 0) 24 d_Si_init_22 rfl sr_Si_20 ?_
  obtain ⟨y24, h24, h⟩ := bnd h
  refine aw_invVS (rest := [.ref a0]) (st' := [.int y24, .ref a0]) (As := []) 27 d_Si_init_24 rfl lv_Si_22 (m_Str_length h24) (by decide) (k_Str_length h24) rfl rfl rfl (Nat.le_of_ble_eq_true rfl) rfl ?_
  obtain ⟨μ27, h27, h⟩ := bnd h
  refine aw_newa (t := 1) (ty := .int) 29 d_Si_init_27 rfl rfl (by simp) ac_int h27 ?_
  obtain ⟨μ29, h29, h⟩ := bnd h
  refine aw_putR 32 true d_Si_init_29 rfl fp_Si_28 (fun _ => rfl) rfl h29 ?_
  refine aw_aload_n 33 d_Si_init_32 rfl rfl ?_
  refine aw_iconst (v := (5 : Int32)) 34 d_Si_init_33 rfl (by decide) ?_
  obtain ⟨μ34, h34, h⟩ := bnd h
  refine aw_newa (t := 1) (ty := .int) 36 d_Si_init_34 rfl rfl (by simp) ac_int h34 ?_
  obtain ⟨μ36, h36, h⟩ := bnd h
  refine aw_putR 39 true d_Si_init_36 rfl fp_Si_32 (fun _ => rfl) rfl h36 ?_
  refine aw_aload_n 40 d_Si_init_39 rfl rfl ?_
  refine aw_iconst (v := (4 : Int32)) 41 d_Si_init_40 rfl (by decide) ?_
  obtain ⟨μ41, h41, h⟩ := bnd h
  refine aw_newa (t := 4) (ty := .long) 43 d_Si_init_41 rfl rfl (by simp) ac_long h41 ?_
  obtain ⟨μ43, h43, h⟩ := bnd h
  refine aw_putR 46 true d_Si_init_43 rfl fp_Si_35 (fun _ => rfl) rfl h43 ?_
  refine aw_aload_n 47 d_Si_init_46 rfl rfl ?_
  refine aw_iconst (v := (4 : Int32)) 48 d_Si_init_47 rfl (by decide) ?_
  obtain ⟨μ48, h48, h⟩ := bnd h
  refine aw_newa (t := 3) (ty := .boolean) 50 d_Si_init_48 rfl rfl (by simp) ac_boolean h48 ?_
  obtain ⟨μ50, h50, h⟩ := bnd h
  refine aw_putR 53 true d_Si_init_50 rfl fp_Si_38 (fun _ => rfl) rfl h50 ?_
  refine aw_aload_n 54 d_Si_init_53 rfl rfl ?_
  refine aw_aload_n 55 d_Si_init_54 rfl rfl ?_
  obtain ⟨μ55, h55, h⟩ := bnd h
  refine aw_putR 58 true d_Si_init_55 rfl fp_Si_42 (fun _ => rfl) rfl h55 ?_
  refine aw_aload_n 59 d_Si_init_58 rfl rfl ?_
  refine aw_aload_n 60 d_Si_init_59 rfl rfl ?_
  obtain ⟨μ60, h60, h⟩ := bnd h
  refine aw_putR 63 true d_Si_init_60 rfl fp_Si_46 (fun _ => rfl) rfl h60 ?_
  refine aw_aload_n 64 d_Si_init_63 rfl rfl ?_
  refine aw_aload_n 65 d_Si_init_64 rfl rfl ?_
  obtain ⟨y65, h65, h⟩ := bnd h
  refine aw_getR 68 d_Si_init_65 rfl fg_Si_50 rfl h65 ?_
  obtain ⟨μ68, h68, h⟩ := bnd h
  refine aw_putR 71 false d_Si_init_68 rfl fp_Si_55 (fun z => nomatch z) rfl h68 ?_
  cases h
  exact aw_return d_Si_init_71 rfl
theorem k_Si_init {q : MM} {a0 : Nat} {a1 : Nat} {a2 : Nat} {μ : MM} (h : f_Si_init a0 a1 a2 μ = some q) : μ.1[a0]? = some (0, 9) := by
  unfold f_Si_init at h
  obtain ⟨_, h1, _⟩ := bnd h
  exact kO_some h1
theorem m_St_init {l : Launch} {q : MM} {a0 : Nat} {a1 : Nat} {a2 : Nat} {μ : MM} (h : f_St_init a0 a1 a2 μ = some q) : AMet l 1 Y_St_init [.ref a0, .ref a1, .ref a2] μ none q := by
  refine AMet.of (loc := [some (.ref a0), some (.ref a1), some (.ref a2)]) pn_St_init (Nat.le_of_ble_eq_true rfl) rfl ?_
  unfold f_St_init at h
  obtain ⟨_, hk, h⟩ := bnd h
  refine aw_aload_n 1 d_St_init_0 rfl rfl ?_
  refine aw_objInit 4 d_St_init_1 rfl oi_St_3 (Nat.le_of_ble_eq_true rfl) (Nat.le_of_ble_eq_true rfl) ?_
  refine aw_aload_n 5 d_St_init_4 rfl rfl ?_
  refine aw_bipush (v := (8 : Int32)) 7 d_St_init_5 rfl (by decide) ?_
  obtain ⟨μ7, h7, h⟩ := bnd h
  refine aw_newa (t := 1) (ty := .int) 9 d_St_init_7 rfl rfl (by simp) ac_int h7 ?_
  obtain ⟨μ9, h9, h⟩ := bnd h
  refine aw_putR 12 true d_St_init_9 rfl fp_St_9 (fun _ => rfl) rfl h9 ?_
  refine aw_aload_n 13 d_St_init_12 rfl rfl ?_
  refine aw_bipush (v := (8 : Int32)) 15 d_St_init_13 rfl (by decide) ?_
  obtain ⟨μ15, h15, h⟩ := bnd h
  refine aw_newa (t := 1) (ty := .int) 17 d_St_init_15 rfl rfl (by simp) ac_int h15 ?_
  obtain ⟨μ17, h17, h⟩ := bnd h
  refine aw_putR 20 true d_St_init_17 rfl fp_St_15 (fun _ => rfl) rfl h17 ?_
  refine aw_aload_n 21 d_St_init_20 rfl rfl ?_
  refine aw_aload_n 22 d_St_init_21 rfl rfl ?_
  obtain ⟨μ22, h22, h⟩ := bnd h
  refine aw_putR 25 true d_St_init_22 rfl fp_St_18 (fun _ => rfl) rfl h22 ?_
  refine aw_aload_n 26 d_St_init_25 rfl rfl ?_
  refine aw_aload_n 27 d_St_init_26 rfl rfl ?_
  obtain ⟨μ27, h27, h⟩ := bnd h
  refine aw_putR 30 true d_St_init_27 rfl fp_St_22 (fun _ => rfl) rfl h27 ?_
  refine aw_aload_n 31 d_St_init_30 rfl rfl ?_
  refine aw_iconst (v := (-1 : Int32)) 32 d_St_init_31 rfl (by decide) ?_
  obtain ⟨μ32, h32, h⟩ := bnd h
  refine aw_putI 35 false d_St_init_32 rfl fp_St_26 (fun z => nomatch z) rfl h32 ?_
  cases h
  exact aw_return d_St_init_35 rfl
theorem k_St_init {q : MM} {a0 : Nat} {a1 : Nat} {a2 : Nat} {μ : MM} (h : f_St_init a0 a1 a2 μ = some q) : μ.1[a0]? = some (0, 10) := by
  unfold f_St_init at h
  obtain ⟨_, h1, _⟩ := bnd h
  exact kO_some h1
theorem m_Le_init {l : Launch} {q : MM} {a0 : Nat} {a1 : Nat} {a2 : Nat} {μ : MM} (h : f_Le_init a0 a1 a2 μ = some q) : AMet l 1 Y_Le_init [.ref a0, .ref a1, .ref a2] μ none q := by
  refine AMet.of (loc := [some (.ref a0), some (.ref a1), some (.ref a2)]) pn_Le_init (Nat.le_of_ble_eq_true rfl) rfl ?_
  unfold f_Le_init at h
  obtain ⟨_, hk, h⟩ := bnd h
  refine aw_aload_n 1 d_Le_init_0 rfl rfl ?_
  refine aw_objInit 4 d_Le_init_1 rfl oi_Le_3 (Nat.le_of_ble_eq_true rfl) (Nat.le_of_ble_eq_true rfl) ?_
  refine aw_aload_n 5 d_Le_init_4 rfl rfl ?_
  refine aw_sipush (v := (576 : Int32)) 8 d_Le_init_5 rfl (by decide) ?_
  obtain ⟨μ8, h8, h⟩ := bnd h
  refine aw_newa (t := 4) (ty := .long) 10 d_Le_init_8 rfl rfl (by simp) ac_long h8 ?_
  obtain ⟨μ10, h10, h⟩ := bnd h
  refine aw_putR 13 true d_Le_init_10 rfl fp_Le_9 (fun _ => rfl) rfl h10 ?_
  refine aw_aload_n 14 d_Le_init_13 rfl rfl ?_
  refine aw_aload_n 15 d_Le_init_14 rfl rfl ?_
  obtain ⟨μ15, h15, h⟩ := bnd h
  refine aw_putR 18 true d_Le_init_15 rfl fp_Le_15 (fun _ => rfl) rfl h15 ?_
  refine aw_aload_n 19 d_Le_init_18 rfl rfl ?_
  refine aw_aload_n 20 d_Le_init_19 rfl rfl ?_
  obtain ⟨μ20, h20, h⟩ := bnd h
  refine aw_putR 23 true d_Le_init_20 rfl fp_Le_19 (fun _ => rfl) rfl h20 ?_
  cases h
  exact aw_return d_Le_init_23 rfl
theorem k_Le_init {q : MM} {a0 : Nat} {a1 : Nat} {a2 : Nat} {μ : MM} (h : f_Le_init a0 a1 a2 μ = some q) : μ.1[a0]? = some (0, 4) := by
  unfold f_Le_init at h
  obtain ⟨_, h1, _⟩ := bnd h
  exact kO_some h1
theorem m_Fi_init {l : Launch} {q : MM} {a0 : Nat} {a1 : Nat} {a2 : Nat} {a3 : Nat} {μ : MM} (h : f_Fi_init a0 a1 a2 a3 μ = some q) : AMet l 1 Y_Fi_init [.ref a0, .ref a1, .ref a2, .ref a3] μ none q := by
  refine AMet.of (loc := [some (.ref a0), some (.ref a1), some (.ref a2), some (.ref a3)]) pn_Fi_init (Nat.le_of_ble_eq_true rfl) rfl ?_
  unfold f_Fi_init at h
  obtain ⟨_, hk, h⟩ := bnd h
  refine aw_aload_n 1 d_Fi_init_0 rfl rfl ?_
  refine aw_objInit 4 d_Fi_init_1 rfl oi_Fi_3 (Nat.le_of_ble_eq_true rfl) (Nat.le_of_ble_eq_true rfl) ?_
  refine aw_aload_n 5 d_Fi_init_4 rfl rfl ?_
  refine aw_bipush (v := (64 : Int32)) 7 d_Fi_init_5 rfl (by decide) ?_
  obtain ⟨μ7, h7, h⟩ := bnd h
  refine aw_newa (t := 4) (ty := .long) 9 d_Fi_init_7 rfl rfl (by simp) ac_long h7 ?_
  obtain ⟨μ9, h9, h⟩ := bnd h
  refine aw_putR 12 true d_Fi_init_9 rfl fp_Fi_11 (fun _ => rfl) rfl h9 ?_
  refine aw_aload_n 13 d_Fi_init_12 rfl rfl ?_
  refine aw_aload_n 14 d_Fi_init_13 rfl rfl ?_
  obtain ⟨μ14, h14, h⟩ := bnd h
  refine aw_putR 17 true d_Fi_init_14 rfl fp_Fi_15 (fun _ => rfl) rfl h14 ?_
  refine aw_aload_n 18 d_Fi_init_17 rfl rfl ?_
  refine aw_aload_n 19 d_Fi_init_18 rfl rfl ?_
  obtain ⟨μ19, h19, h⟩ := bnd h
  refine aw_putR 22 true d_Fi_init_19 rfl fp_Fi_19 (fun _ => rfl) rfl h19 ?_
  refine aw_aload_n 23 d_Fi_init_22 rfl rfl ?_
  refine aw_aload_n 24 d_Fi_init_23 rfl rfl ?_
  obtain ⟨μ24, h24, h⟩ := bnd h
  refine aw_putR 27 true d_Fi_init_24 rfl fp_Fi_23 (fun _ => rfl) rfl h24 ?_
  cases h
  exact aw_return d_Fi_init_27 rfl
theorem k_Fi_init {q : MM} {a0 : Nat} {a1 : Nat} {a2 : Nat} {a3 : Nat} {μ : MM} (h : f_Fi_init a0 a1 a2 a3 μ = some q) : μ.1[a0]? = some (0, 3) := by
  unfold f_Fi_init at h
  obtain ⟨_, h1, _⟩ := bnd h
  exact kO_some h1
theorem m_Rl_init {l : Launch} {q : MM} {a0 : Nat} {μ : MM} (h : f_Rl_init a0 μ = some q) : AMet l 1 Y_Rl_init [.ref a0] μ none q := by
  refine AMet.of (loc := [some (.ref a0)]) pn_Rl_init (Nat.le_of_ble_eq_true rfl) rfl ?_
  unfold f_Rl_init at h
  obtain ⟨_, hk, h⟩ := bnd h
  refine aw_aload_n 1 d_Rl_init_0 rfl rfl ?_
  refine aw_objInit 4 d_Rl_init_1 rfl oi_Rl_1 (Nat.le_of_ble_eq_true rfl) (Nat.le_of_ble_eq_true rfl) ?_
  refine aw_aload_n 5 d_Rl_init_4 rfl rfl ?_
  refine aw_sipush (v := (220 : Int32)) 8 d_Rl_init_5 rfl (by decide) ?_
  obtain ⟨μ8, h8, h⟩ := bnd h
  refine aw_newa (t := 1) (ty := .int) 10 d_Rl_init_8 rfl rfl (by simp) ac_int h8 ?_
  obtain ⟨μ10, h10, h⟩ := bnd h
  refine aw_putR 13 true d_Rl_init_10 rfl fp_Rl_9 (fun _ => rfl) rfl h10 ?_
  cases h
  exact aw_return d_Rl_init_13 rfl
theorem k_Rl_init {q : MM} {a0 : Nat} {μ : MM} (h : f_Rl_init a0 μ = some q) : μ.1[a0]? = some (0, 7) := by
  unfold f_Rl_init at h
  obtain ⟨_, h1, _⟩ := bnd h
  exact kO_some h1
theorem m_Re_init {l : Launch} {q : MM} {a0 : Nat} {μ : MM} (h : f_Re_init a0 μ = some q) : AMet l 2 Y_Re_init [.ref a0] μ none q := by
  refine AMet.of (loc := [some (.ref a0)]) pn_Re_init (Nat.le_of_ble_eq_true rfl) rfl ?_
  unfold f_Re_init at h
  obtain ⟨_, hk, h⟩ := bnd h
  refine aw_aload_n 1 d_Re_init_0 rfl rfl ?_
  refine aw_objInit 4 d_Re_init_1 rfl oi_Re_3 (Nat.le_of_ble_eq_true rfl) (Nat.le_of_ble_eq_true rfl) ?_
  refine aw_aload_n 5 d_Re_init_4 rfl rfl ?_
  refine aw_sipush (v := (200 : Int32)) 8 d_Re_init_5 rfl (by decide) ?_
  obtain ⟨μ8, h8, h⟩ := bnd h
  refine aw_newa (t := 1) (ty := .int) 10 d_Re_init_8 rfl rfl (by simp) ac_int h8 ?_
  obtain ⟨μ10, h10, h⟩ := bnd h
  refine aw_putR 13 true d_Re_init_10 rfl fp_Re_11 (fun _ => rfl) rfl h10 ?_
  refine aw_aload_n 14 d_Re_init_13 rfl rfl ?_
  obtain ⟨μ14, h14, h⟩ := bnd h
  refine aw_new 17 d_Re_init_14 rfl cf5 cl_Re_15 h14 ?_
  refine aw_dup 18 d_Re_init_17 rfl rfl ?_
  obtain ⟨μ18, h18, h⟩ := bnd h
  refine aw_invI (rest := [.ref (nc μ10), .ref a0]) (st' := [.ref (nc μ10), .ref a0]) (As := []) 21 d_Re_init_18 rfl li_Re_17 (m_Pr_init h18) (by decide) rfl rfl (Nat.le_of_ble_eq_true rfl) rfl ?_
  obtain ⟨μ21, h21, h⟩ := bnd h
  refine aw_putR 24 false d_Re_init_21 rfl fp_Re_18 (fun z => nomatch z) rfl h21 ?_
  cases h
  exact aw_return d_Re_init_24 rfl
theorem k_Re_init {q : MM} {a0 : Nat} {μ : MM} (h : f_Re_init a0 μ = some q) : μ.1[a0]? = some (0, 6) := by
  unfold f_Re_init at h
  obtain ⟨_, h1, _⟩ := bnd h
  exact kO_some h1
theorem m_X_init {l : Launch} {q : MM} {a0 : Nat} {μ : MM} (h : f_X_init a0 μ = some q) : AMet l 4 Y_X_init [.ref a0] μ none q := by
  refine AMet.of (loc := [some (.ref a0)]) pn_X_init (Nat.le_of_ble_eq_true rfl) rfl ?_
  unfold f_X_init at h
  obtain ⟨_, hk, h⟩ := bnd h
  refine aw_aload_n 1 d_X_init_0 rfl rfl ?_
  refine aw_objInit 4 d_X_init_1 rfl oi_X_1 (Nat.le_of_ble_eq_true rfl) (Nat.le_of_ble_eq_true rfl) ?_
  refine aw_aload_n 5 d_X_init_4 rfl rfl ?_
  obtain ⟨μ5, h5, h⟩ := bnd h
  refine aw_new 8 d_X_init_5 rfl cf8 cl_X_7 h5 ?_
  refine aw_dup 9 d_X_init_8 rfl rfl ?_
  obtain ⟨μ9, h9, h⟩ := bnd h
  refine aw_invI (rest := [.ref (nc μ), .ref a0]) (st' := [.ref (nc μ), .ref a0]) (As := []) 12 d_X_init_9 rfl li_X_9 (m_Sc_init h9) (by decide) rfl rfl (Nat.le_of_ble_eq_true rfl) rfl ?_
  obtain ⟨μ12, h12, h⟩ := bnd h
  refine aw_putR 15 true d_X_init_12 rfl fp_X_10 (fun _ => rfl) rfl h12 ?_
  refine aw_aload_n 16 d_X_init_15 rfl rfl ?_
  obtain ⟨μ16, h16, h⟩ := bnd h
  refine aw_new 19 d_X_init_16 rfl cf2 cl_X_16 h16 ?_
  refine aw_dup 20 d_X_init_19 rfl rfl ?_
  refine aw_aload_n 21 d_X_init_20 rfl rfl ?_
  obtain ⟨y21, h21, h⟩ := bnd h
  refine aw_getR 24 d_X_init_21 rfl fg_X_10 rfl h21 ?_
  obtain ⟨μ24, h24, h⟩ := bnd h
  refine aw_invI (rest := [.ref (nc μ12), .ref a0]) (st' := [.ref (nc μ12), .ref a0]) (As := [.ref y21]) 27 d_X_init_24 rfl li_X_18 (m_Ch_init h24) (by decide) rfl rfl (Nat.le_of_ble_eq_true rfl) rfl ?_
  obtain ⟨μ27, h27, h⟩ := bnd h
  refine aw_putR 30 true d_X_init_27 rfl fp_X_21 (fun _ => rfl) rfl h27 ?_
  refine aw_aload_n 31 d_X_init_30 rfl rfl ?_
  obtain ⟨μ31, h31, h⟩ := bnd h
  refine aw_new 34 d_X_init_31 rfl cf9 cl_X_25 h31 ?_
  refine aw_dup 35 d_X_init_34 rfl rfl ?_
  refine aw_aload_n 36 d_X_init_35 rfl rfl ?_
  obtain ⟨y36, h36, h⟩ := bnd h
  refine aw_getR 39 d_X_init_36 rfl fg_X_10 rfl h36 ?_
  refine aw_aload_n 40 d_X_init_39 rfl rfl ?_
  obtain ⟨y40, h40, h⟩ := bnd h
  refine aw_getR 43 d_X_init_40 rfl fg_X_21 rfl h40 ?_
  obtain ⟨μ43, h43, h⟩ := bnd h
  refine aw_invI (rest := [.ref (nc μ27), .ref a0]) (st' := [.ref (nc μ27), .ref a0]) (As := [.ref y36, .ref y40]) 46 d_X_init_43 rfl li_X_27 (m_Si_init h43) (by decide) rfl rfl (Nat.le_of_ble_eq_true rfl) rfl ?_
  obtain ⟨μ46, h46, h⟩ := bnd h
  refine aw_putR 49 true d_X_init_46 rfl fp_X_30 (fun _ => rfl) rfl h46 ?_
  refine aw_aload_n 50 d_X_init_49 rfl rfl ?_
  obtain ⟨μ50, h50, h⟩ := bnd h
  refine aw_new 53 d_X_init_50 rfl cf10 cl_X_34 h50 ?_
  refine aw_dup 54 d_X_init_53 rfl rfl ?_
  refine aw_aload_n 55 d_X_init_54 rfl rfl ?_
  obtain ⟨y55, h55, h⟩ := bnd h
  refine aw_getR 58 d_X_init_55 rfl fg_X_21 rfl h55 ?_
  refine aw_aload_n 59 d_X_init_58 rfl rfl ?_
  obtain ⟨y59, h59, h⟩ := bnd h
  refine aw_getR 62 d_X_init_59 rfl fg_X_30 rfl h59 ?_
  obtain ⟨μ62, h62, h⟩ := bnd h
  refine aw_invI (rest := [.ref (nc μ46), .ref a0]) (st' := [.ref (nc μ46), .ref a0]) (As := [.ref y55, .ref y59]) 65 d_X_init_62 rfl li_X_36 (m_St_init h62) (by decide) rfl rfl (Nat.le_of_ble_eq_true rfl) rfl ?_
  obtain ⟨μ65, h65, h⟩ := bnd h
  refine aw_putR 68 true d_X_init_65 rfl fp_X_39 (fun _ => rfl) rfl h65 ?_
  refine aw_aload_n 69 d_X_init_68 rfl rfl ?_
  obtain ⟨μ69, h69, h⟩ := bnd h
  refine aw_new 72 d_X_init_69 rfl cf4 cl_X_43 h69 ?_
  refine aw_dup 73 d_X_init_72 rfl rfl ?_
  refine aw_aload_n 74 d_X_init_73 rfl rfl ?_
  obtain ⟨y74, h74, h⟩ := bnd h
  refine aw_getR 77 d_X_init_74 rfl fg_X_21 rfl h74 ?_
  refine aw_aload_n 78 d_X_init_77 rfl rfl ?_
  obtain ⟨y78, h78, h⟩ := bnd h
  refine aw_getR 81 d_X_init_78 rfl fg_X_30 rfl h78 ?_
  obtain ⟨μ81, h81, h⟩ := bnd h
  refine aw_invI (rest := [.ref (nc μ65), .ref a0]) (st' := [.ref (nc μ65), .ref a0]) (As := [.ref y74, .ref y78]) 84 d_X_init_81 rfl li_X_45 (m_Le_init h81) (by decide) rfl rfl (Nat.le_of_ble_eq_true rfl) rfl ?_
  obtain ⟨μ84, h84, h⟩ := bnd h
  refine aw_putR 87 true d_X_init_84 rfl fp_X_46 (fun _ => rfl) rfl h84 ?_
  refine aw_aload_n 88 d_X_init_87 rfl rfl ?_
  obtain ⟨μ88, h88, h⟩ := bnd h
  refine aw_new 91 d_X_init_88 rfl cf3 cl_X_50 h88 ?_
  refine aw_dup 92 d_X_init_91 rfl rfl ?_
  refine aw_aload_n 93 d_X_init_92 rfl rfl ?_
  obtain ⟨y93, h93, h⟩ := bnd h
  refine aw_getR 96 d_X_init_93 rfl fg_X_10 rfl h93 ?_
  refine aw_aload_n 97 d_X_init_96 rfl rfl ?_
  obtain ⟨y97, h97, h⟩ := bnd h
  refine aw_getR 100 d_X_init_97 rfl fg_X_21 rfl h97 ?_
  refine aw_aload_n 101 d_X_init_100 rfl rfl ?_
  obtain ⟨y101, h101, h⟩ := bnd h
  refine aw_getR 104 d_X_init_101 rfl fg_X_30 rfl h101 ?_
  obtain ⟨μ104, h104, h⟩ := bnd h
  refine aw_invI (rest := [.ref (nc μ84), .ref a0]) (st' := [.ref (nc μ84), .ref a0]) (As := [.ref y93, .ref y97, .ref y101]) 107 d_X_init_104 rfl li_X_52 (m_Fi_init h104) (by decide) rfl rfl (Nat.le_of_ble_eq_true rfl) rfl ?_
  obtain ⟨μ107, h107, h⟩ := bnd h
  refine aw_putR 110 true d_X_init_107 rfl fp_X_55 (fun _ => rfl) rfl h107 ?_
  refine aw_aload_n 111 d_X_init_110 rfl rfl ?_
  obtain ⟨μ111, h111, h⟩ := bnd h
  refine aw_new 114 d_X_init_111 rfl cf7 cl_X_59 h111 ?_
  refine aw_dup 115 d_X_init_114 rfl rfl ?_
  obtain ⟨μ115, h115, h⟩ := bnd h
  refine aw_invI (rest := [.ref (nc μ107), .ref a0]) (st' := [.ref (nc μ107), .ref a0]) (As := []) 118 d_X_init_115 rfl li_X_61 (m_Rl_init h115) (by decide) rfl rfl (Nat.le_of_ble_eq_true rfl) rfl ?_
  obtain ⟨μ118, h118, h⟩ := bnd h
  refine aw_putR 121 true d_X_init_118 rfl fp_X_62 (fun _ => rfl) rfl h118 ?_
  refine aw_aload_n 122 d_X_init_121 rfl rfl ?_
  obtain ⟨μ122, h122, h⟩ := bnd h
  refine aw_new 125 d_X_init_122 rfl cf6 cl_X_66 h122 ?_
  refine aw_dup 126 d_X_init_125 rfl rfl ?_
  obtain ⟨μ126, h126, h⟩ := bnd h
  refine aw_invI (rest := [.ref (nc μ118), .ref a0]) (st' := [.ref (nc μ118), .ref a0]) (As := []) 129 d_X_init_126 rfl li_X_68 (m_Re_init h126) (by decide) rfl rfl (Nat.le_of_ble_eq_true rfl) rfl ?_
  obtain ⟨μ129, h129, h⟩ := bnd h
  refine aw_putR 132 true d_X_init_129 rfl fp_X_69 (fun _ => rfl) rfl h129 ?_
  cases h
  exact aw_return d_X_init_132 rfl
theorem k_X_init {q : MM} {a0 : Nat} {μ : MM} (h : f_X_init a0 μ = some q) : μ.1[a0]? = some (0, 0) := by
  unfold f_X_init at h
  obtain ⟨_, h1, _⟩ := bnd h
  exact kO_some h1
theorem l_M_init_410 {l : Launch} {μ0 : MM} {q : MM} {a0 : Nat} : ∀ (n : Nat) (x1 : Int32) (μ : MM), f_M_init_L410 a0 n x1 μ = some q → AWm l Y_M_init 1 μ0 none q 410 [some (.ref a0), some (.int x1)] [] μ := by
  intro n
  induction n with
  | zero =>
    intro x1 μ h
    have h : (none : Option (MM)) = some q := h
    cases h
  | succ n ih =>
    intro x1 μ h
    rw [f_M_init_L410] at h
    refine aw_iload_n 411 d_M_init_410 rfl rfl ?_
    refine aw_sipush (v := (192 : Int32)) 414 d_M_init_411 rfl (by decide) ?_
    refine aw_icmp_ge 430 417 d_M_init_414 (by decide) rfl (fun c414 => ?_) (fun c414 => ?_)
    · have h := (if_pos c414).symm.trans h
      cases h
      exact aw_return d_M_init_430 rfl
    · have h := (if_neg c414).symm.trans h
      refine aw_aload_n 418 d_M_init_417 rfl rfl ?_
      obtain ⟨y418, h418, h⟩ := bnd h
      refine aw_getR 421 d_M_init_418 rfl fg_M_140 rfl h418 ?_
      refine aw_iload_n 422 d_M_init_421 rfl rfl ?_
      refine aw_iconst (v := (0 : Int32)) 423 d_M_init_422 rfl (by decide) ?_
      obtain ⟨μ423, h423, h⟩ := bnd h
      refine aw_bast 424 d_M_init_423 rfl h423 ?_
      refine aw_iinc (v := (x1 + (1 : Int32))) (loc' := [some (.ref a0), some (.int (x1 + (1 : Int32)))]) 427 d_M_init_424 rfl (by decide) rfl rfl rfl ?_
      refine aw_goto 410 d_M_init_427 (by decide) ?_
      exact (ih (x1 + (1 : Int32)) μ423 h)
theorem l_M_init_389 {l : Launch} {μ0 : MM} {q : MM} {a0 : Nat} : ∀ (n : Nat) (x1 : Int32) (μ : MM), f_M_init_L389 a0 n x1 μ = some q → AWm l Y_M_init 1 μ0 none q 389 [some (.ref a0), some (.int x1)] [] μ := by
  intro n
  induction n with
  | zero =>
    intro x1 μ h
    have h : (none : Option (MM)) = some q := h
    cases h
  | succ n ih =>
    intro x1 μ h
    rw [f_M_init_L389] at h
    refine aw_iload_n 390 d_M_init_389 rfl rfl ?_
    refine aw_bipush (v := (24 : Int32)) 392 d_M_init_390 rfl (by decide) ?_
    refine aw_icmp_ge 408 395 d_M_init_392 (by decide) rfl (fun c392 => ?_) (fun c392 => ?_)
    · have h := (if_pos c392).symm.trans h
      refine aw_iconst (v := (0 : Int32)) 409 d_M_init_408 rfl (by decide) ?_
      refine aw_istore_n (loc' := [some (.ref a0), some (.int (0 : Int32))]) 410 d_M_init_409 rfl (by decide) rfl ?_
      exact (l_M_init_410 FU _ _ h)
    · have h := (if_neg c392).symm.trans h
      refine aw_aload_n 396 d_M_init_395 rfl rfl ?_
      obtain ⟨y396, h396, h⟩ := bnd h
      refine aw_getR 399 d_M_init_396 rfl fg_M_30 rfl h396 ?_
      refine aw_iload_n 400 d_M_init_399 rfl rfl ?_
      refine aw_iconst (v := (-1 : Int32)) 401 d_M_init_400 rfl (by decide) ?_
      obtain ⟨μ401, h401, h⟩ := bnd h
      refine aw_iast 402 d_M_init_401 rfl h401 ?_
      refine aw_iinc (v := (x1 + (1 : Int32))) (loc' := [some (.ref a0), some (.int (x1 + (1 : Int32)))]) 405 d_M_init_402 rfl (by decide) rfl rfl rfl ?_
      refine aw_goto 389 d_M_init_405 (by decide) ?_
      exact (ih (x1 + (1 : Int32)) μ401 h)
theorem l_M_init_367 {l : Launch} {μ0 : MM} {q : MM} {a0 : Nat} : ∀ (n : Nat) (x1 : Int32) (μ : MM), f_M_init_L367 a0 n x1 μ = some q → AWm l Y_M_init 1 μ0 none q 367 [some (.ref a0), some (.int x1)] [] μ := by
  intro n
  induction n with
  | zero =>
    intro x1 μ h
    have h : (none : Option (MM)) = some q := h
    cases h
  | succ n ih =>
    intro x1 μ h
    rw [f_M_init_L367] at h
    refine aw_iload_n 368 d_M_init_367 rfl rfl ?_
    refine aw_sipush (v := (144 : Int32)) 371 d_M_init_368 rfl (by decide) ?_
    refine aw_icmp_ge 387 374 d_M_init_371 (by decide) rfl (fun c371 => ?_) (fun c371 => ?_)
    · have h := (if_pos c371).symm.trans h
      refine aw_iconst (v := (0 : Int32)) 388 d_M_init_387 rfl (by decide) ?_
      refine aw_istore_n (loc' := [some (.ref a0), some (.int (0 : Int32))]) 389 d_M_init_388 rfl (by decide) rfl ?_
      exact (l_M_init_389 FU _ _ h)
    · have h := (if_neg c371).symm.trans h
      refine aw_aload_n 375 d_M_init_374 rfl rfl ?_
      obtain ⟨y375, h375, h⟩ := bnd h
      refine aw_getR 378 d_M_init_375 rfl fg_M_13 rfl h375 ?_
      refine aw_iload_n 379 d_M_init_378 rfl rfl ?_
      refine aw_iconst (v := (-1 : Int32)) 380 d_M_init_379 rfl (by decide) ?_
      obtain ⟨μ380, h380, h⟩ := bnd h
      refine aw_iast 381 d_M_init_380 rfl h380 ?_
      refine aw_iinc (v := (x1 + (1 : Int32))) (loc' := [some (.ref a0), some (.int (x1 + (1 : Int32)))]) 384 d_M_init_381 rfl (by decide) rfl rfl rfl ?_
      refine aw_goto 367 d_M_init_384 (by decide) ?_
      exact (ih (x1 + (1 : Int32)) μ380 h)
theorem m_M_init {l : Launch} {q : MM} {a0 : Nat} {μ : MM} (h : f_M_init a0 μ = some q) : AMet l 1 Y_M_init [.ref a0] μ none q := by
  refine AMet.of (loc := [some (.ref a0), none]) pn_M_init (Nat.le_of_ble_eq_true rfl) rfl ?_
  unfold f_M_init at h
  obtain ⟨_, hk, h⟩ := bnd h
  refine aw_aload_n 1 d_M_init_0 rfl rfl ?_
  refine aw_objInit 4 d_M_init_1 rfl oi_M_1 (Nat.le_of_ble_eq_true rfl) (Nat.le_of_ble_eq_true rfl) ?_
  refine aw_aload_n 5 d_M_init_4 rfl rfl ?_
  refine aw_sipush (v := (220 : Int32)) 8 d_M_init_5 rfl (by decide) ?_
  obtain ⟨μ8, h8, h⟩ := bnd h
  refine aw_newa (t := 2) (ty := .byte) 10 d_M_init_8 rfl rfl (by simp) ac_byte h8 ?_
  obtain ⟨μ10, h10, h⟩ := bnd h
  refine aw_putR 13 true d_M_init_10 rfl fp_M_7 (fun _ => rfl) rfl h10 ?_
  refine aw_aload_n 14 d_M_init_13 rfl rfl ?_
  refine aw_sipush (v := (144 : Int32)) 17 d_M_init_14 rfl (by decide) ?_
  obtain ⟨μ17, h17, h⟩ := bnd h
  refine aw_newa (t := 1) (ty := .int) 19 d_M_init_17 rfl rfl (by simp) ac_int h17 ?_
  obtain ⟨μ19, h19, h⟩ := bnd h
  refine aw_putR 22 true d_M_init_19 rfl fp_M_13 (fun _ => rfl) rfl h19 ?_
  refine aw_aload_n 23 d_M_init_22 rfl rfl ?_
  refine aw_sipush (v := (144 : Int32)) 26 d_M_init_23 rfl (by decide) ?_
  obtain ⟨μ26, h26, h⟩ := bnd h
  refine aw_newa (t := 1) (ty := .int) 28 d_M_init_26 rfl rfl (by simp) ac_int h26 ?_
  obtain ⟨μ28, h28, h⟩ := bnd h
  refine aw_putR 31 true d_M_init_28 rfl fp_M_17 (fun _ => rfl) rfl h28 ?_
  refine aw_aload_n 32 d_M_init_31 rfl rfl ?_
  refine aw_sipush (v := (144 : Int32)) 35 d_M_init_32 rfl (by decide) ?_
  obtain ⟨μ35, h35, h⟩ := bnd h
  refine aw_newa (t := 1) (ty := .int) 37 d_M_init_35 rfl rfl (by simp) ac_int h35 ?_
  obtain ⟨μ37, h37, h⟩ := bnd h
  refine aw_putR 40 true d_M_init_37 rfl fp_M_20 (fun _ => rfl) rfl h37 ?_
  refine aw_aload_n 41 d_M_init_40 rfl rfl ?_
  refine aw_sipush (v := (144 : Int32)) 44 d_M_init_41 rfl (by decide) ?_
  obtain ⟨μ44, h44, h⟩ := bnd h
  refine aw_newa (t := 1) (ty := .int) 46 d_M_init_44 rfl rfl (by simp) ac_int h44 ?_
  obtain ⟨μ46, h46, h⟩ := bnd h
  refine aw_putR 49 true d_M_init_46 rfl fp_M_23 (fun _ => rfl) rfl h46 ?_
  refine aw_aload_n 50 d_M_init_49 rfl rfl ?_
  refine aw_sipush (v := (144 : Int32)) 53 d_M_init_50 rfl (by decide) ?_
  obtain ⟨μ53, h53, h⟩ := bnd h
  refine aw_newa (t := 3) (ty := .boolean) 55 d_M_init_53 rfl rfl (by simp) ac_boolean h53 ?_
  obtain ⟨μ55, h55, h⟩ := bnd h
  refine aw_putR 58 true d_M_init_55 rfl fp_M_26 (fun _ => rfl) rfl h55 ?_
  refine aw_aload_n 59 d_M_init_58 rfl rfl ?_
  refine aw_bipush (v := (24 : Int32)) 61 d_M_init_59 rfl (by decide) ?_
  obtain ⟨μ61, h61, h⟩ := bnd h
  refine aw_newa (t := 1) (ty := .int) 63 d_M_init_61 rfl rfl (by simp) ac_int h61 ?_
  obtain ⟨μ63, h63, h⟩ := bnd h
  refine aw_putR 66 true d_M_init_63 rfl fp_M_30 (fun _ => rfl) rfl h63 ?_
  refine aw_aload_n 67 d_M_init_66 rfl rfl ?_
  refine aw_bipush (v := (24 : Int32)) 69 d_M_init_67 rfl (by decide) ?_
  obtain ⟨μ69, h69, h⟩ := bnd h
  refine aw_newa (t := 1) (ty := .int) 71 d_M_init_69 rfl rfl (by simp) ac_int h69 ?_
  obtain ⟨μ71, h71, h⟩ := bnd h
  refine aw_putR 74 true d_M_init_71 rfl fp_M_33 (fun _ => rfl) rfl h71 ?_
  refine aw_aload_n 75 d_M_init_74 rfl rfl ?_
  refine aw_sipush (v := (7200 : Int32)) 78 d_M_init_75 rfl (by decide) ?_
  obtain ⟨μ78, h78, h⟩ := bnd h
  refine aw_newa (t := 1) (ty := .int) 80 d_M_init_78 rfl rfl (by simp) ac_int h78 ?_
  obtain ⟨μ80, h80, h⟩ := bnd h
  refine aw_putR 83 true d_M_init_80 rfl fp_M_36 (fun _ => rfl) rfl h80 ?_
  refine aw_aload_n 84 d_M_init_83 rfl rfl ?_
  refine aw_sipush (v := (7200 : Int32)) 87 d_M_init_84 rfl (by decide) ?_
  obtain ⟨μ87, h87, h⟩ := bnd h
  refine aw_newa (t := 1) (ty := .int) 89 d_M_init_87 rfl rfl (by simp) ac_int h87 ?_
  obtain ⟨μ89, h89, h⟩ := bnd h
  refine aw_putR 92 true d_M_init_89 rfl fp_M_39 (fun _ => rfl) rfl h89 ?_
  refine aw_aload_n 93 d_M_init_92 rfl rfl ?_
  refine aw_sipush (v := (7200 : Int32)) 96 d_M_init_93 rfl (by decide) ?_
  obtain ⟨μ96, h96, h⟩ := bnd h
  refine aw_newa (t := 1) (ty := .int) 98 d_M_init_96 rfl rfl (by simp) ac_int h96 ?_
  obtain ⟨μ98, h98, h⟩ := bnd h
  refine aw_putR 101 true d_M_init_98 rfl fp_M_42 (fun _ => rfl) rfl h98 ?_
  refine aw_aload_n 102 d_M_init_101 rfl rfl ?_
  refine aw_sipush (v := (7200 : Int32)) 105 d_M_init_102 rfl (by decide) ?_
  obtain ⟨μ105, h105, h⟩ := bnd h
  refine aw_newa (t := 4) (ty := .long) 107 d_M_init_105 rfl rfl (by simp) ac_long h105 ?_
  obtain ⟨μ107, h107, h⟩ := bnd h
  refine aw_putR 110 true d_M_init_107 rfl fp_M_45 (fun _ => rfl) rfl h107 ?_
  refine aw_aload_n 111 d_M_init_110 rfl rfl ?_
  refine aw_bipush (v := (24 : Int32)) 113 d_M_init_111 rfl (by decide) ?_
  obtain ⟨μ113, h113, h⟩ := bnd h
  refine aw_newa (t := 1) (ty := .int) 115 d_M_init_113 rfl rfl (by simp) ac_int h113 ?_
  obtain ⟨μ115, h115, h⟩ := bnd h
  refine aw_putR 118 true d_M_init_115 rfl fp_M_49 (fun _ => rfl) rfl h115 ?_
  refine aw_aload_n 119 d_M_init_118 rfl rfl ?_
  refine aw_iconst (v := (1 : Int32)) 120 d_M_init_119 rfl (by decide) ?_
  obtain ⟨μ120, h120, h⟩ := bnd h
  refine aw_putI 123 false d_M_init_120 rfl fp_M_52 (fun z => nomatch z) rfl h120 ?_
  refine aw_aload_n 124 d_M_init_123 rfl rfl ?_
  refine aw_bipush (v := (8 : Int32)) 126 d_M_init_124 rfl (by decide) ?_
  obtain ⟨μ126, h126, h⟩ := bnd h
  refine aw_newa (t := 1) (ty := .int) 128 d_M_init_126 rfl rfl (by simp) ac_int h126 ?_
  obtain ⟨μ128, h128, h⟩ := bnd h
  refine aw_putR 131 true d_M_init_128 rfl fp_M_56 (fun _ => rfl) rfl h128 ?_
  refine aw_aload_n 132 d_M_init_131 rfl rfl ?_
  refine aw_bipush (v := (8 : Int32)) 134 d_M_init_132 rfl (by decide) ?_
  obtain ⟨μ134, h134, h⟩ := bnd h
  refine aw_newa (t := 1) (ty := .int) 136 d_M_init_134 rfl rfl (by simp) ac_int h134 ?_
  obtain ⟨μ136, h136, h⟩ := bnd h
  refine aw_putR 139 true d_M_init_136 rfl fp_M_59 (fun _ => rfl) rfl h136 ?_
  refine aw_aload_n 140 d_M_init_139 rfl rfl ?_
  refine aw_bipush (v := (8 : Int32)) 142 d_M_init_140 rfl (by decide) ?_
  obtain ⟨μ142, h142, h⟩ := bnd h
  refine aw_newa (t := 1) (ty := .int) 144 d_M_init_142 rfl rfl (by simp) ac_int h142 ?_
  obtain ⟨μ144, h144, h⟩ := bnd h
  refine aw_putR 147 true d_M_init_144 rfl fp_M_62 (fun _ => rfl) rfl h144 ?_
  refine aw_aload_n 148 d_M_init_147 rfl rfl ?_
  refine aw_bipush (v := (8 : Int32)) 150 d_M_init_148 rfl (by decide) ?_
  obtain ⟨μ150, h150, h⟩ := bnd h
  refine aw_newa (t := 1) (ty := .int) 152 d_M_init_150 rfl rfl (by simp) ac_int h150 ?_
  obtain ⟨μ152, h152, h⟩ := bnd h
  refine aw_putR 155 true d_M_init_152 rfl fp_M_65 (fun _ => rfl) rfl h152 ?_
  refine aw_aload_n 156 d_M_init_155 rfl rfl ?_
  refine aw_bipush (v := (12 : Int32)) 158 d_M_init_156 rfl (by decide) ?_
  obtain ⟨μ158, h158, h⟩ := bnd h
  refine aw_newa (t := 1) (ty := .int) 160 d_M_init_158 rfl rfl (by simp) ac_int h158 ?_
  obtain ⟨μ160, h160, h⟩ := bnd h
  refine aw_putR 163 true d_M_init_160 rfl fp_M_68 (fun _ => rfl) rfl h160 ?_
  refine aw_aload_n 164 d_M_init_163 rfl rfl ?_
  refine aw_bipush (v := (14 : Int32)) 166 d_M_init_164 rfl (by decide) ?_
  obtain ⟨μ166, h166, h⟩ := bnd h
  refine aw_newa (t := 1) (ty := .int) 168 d_M_init_166 rfl rfl (by simp) ac_int h166 ?_
  obtain ⟨μ168, h168, h⟩ := bnd h
  refine aw_putR 171 true d_M_init_168 rfl fp_M_71 (fun _ => rfl) rfl h168 ?_
  refine aw_aload_n 172 d_M_init_171 rfl rfl ?_
  refine aw_bipush (v := (14 : Int32)) 174 d_M_init_172 rfl (by decide) ?_
  obtain ⟨μ174, h174, h⟩ := bnd h
  refine aw_newa (t := 1) (ty := .int) 176 d_M_init_174 rfl rfl (by simp) ac_int h174 ?_
  obtain ⟨μ176, h176, h⟩ := bnd h
  refine aw_putR 179 true d_M_init_176 rfl fp_M_74 (fun _ => rfl) rfl h176 ?_
  refine aw_aload_n 180 d_M_init_179 rfl rfl ?_
  refine aw_bipush (v := (14 : Int32)) 182 d_M_init_180 rfl (by decide) ?_
  obtain ⟨μ182, h182, h⟩ := bnd h
  refine aw_newa (t := 1) (ty := .int) 184 d_M_init_182 rfl rfl (by simp) ac_int h182 ?_
  obtain ⟨μ184, h184, h⟩ := bnd h
  refine aw_putR 187 true d_M_init_184 rfl fp_M_77 (fun _ => rfl) rfl h184 ?_
  refine aw_aload_n 188 d_M_init_187 rfl rfl ?_
  refine aw_bipush (v := (14 : Int32)) 190 d_M_init_188 rfl (by decide) ?_
  obtain ⟨μ190, h190, h⟩ := bnd h
  refine aw_newa (t := 1) (ty := .int) 192 d_M_init_190 rfl rfl (by simp) ac_int h190 ?_
  obtain ⟨μ192, h192, h⟩ := bnd h
  refine aw_putR 195 true d_M_init_192 rfl fp_M_80 (fun _ => rfl) rfl h192 ?_
  refine aw_aload_n 196 d_M_init_195 rfl rfl ?_
  refine aw_sipush (v := (200 : Int32)) 199 d_M_init_196 rfl (by decide) ?_
  obtain ⟨μ199, h199, h⟩ := bnd h
  refine aw_newa (t := 1) (ty := .int) 201 d_M_init_199 rfl rfl (by simp) ac_int h199 ?_
  obtain ⟨μ201, h201, h⟩ := bnd h
  refine aw_putR 204 true d_M_init_201 rfl fp_M_83 (fun _ => rfl) rfl h201 ?_
  refine aw_aload_n 205 d_M_init_204 rfl rfl ?_
  refine aw_sipush (v := (200 : Int32)) 208 d_M_init_205 rfl (by decide) ?_
  obtain ⟨μ208, h208, h⟩ := bnd h
  refine aw_newa (t := 1) (ty := .int) 210 d_M_init_208 rfl rfl (by simp) ac_int h208 ?_
  obtain ⟨μ210, h210, h⟩ := bnd h
  refine aw_putR 213 true d_M_init_210 rfl fp_M_86 (fun _ => rfl) rfl h210 ?_
  refine aw_aload_n 214 d_M_init_213 rfl rfl ?_
  refine aw_bipush (v := (14 : Int32)) 216 d_M_init_214 rfl (by decide) ?_
  obtain ⟨μ216, h216, h⟩ := bnd h
  refine aw_newa (t := 1) (ty := .int) 218 d_M_init_216 rfl rfl (by simp) ac_int h216 ?_
  obtain ⟨μ218, h218, h⟩ := bnd h
  refine aw_putR 221 true d_M_init_218 rfl fp_M_89 (fun _ => rfl) rfl h218 ?_
  refine aw_aload_n 222 d_M_init_221 rfl rfl ?_
  refine aw_bipush (v := (14 : Int32)) 224 d_M_init_222 rfl (by decide) ?_
  obtain ⟨μ224, h224, h⟩ := bnd h
  refine aw_newa (t := 1) (ty := .int) 226 d_M_init_224 rfl rfl (by simp) ac_int h224 ?_
  obtain ⟨μ226, h226, h⟩ := bnd h
  refine aw_putR 229 true d_M_init_226 rfl fp_M_92 (fun _ => rfl) rfl h226 ?_
  refine aw_aload_n 230 d_M_init_229 rfl rfl ?_
  refine aw_bipush (v := (14 : Int32)) 232 d_M_init_230 rfl (by decide) ?_
  obtain ⟨μ232, h232, h⟩ := bnd h
  refine aw_newa (t := 1) (ty := .int) 234 d_M_init_232 rfl rfl (by simp) ac_int h232 ?_
  obtain ⟨μ234, h234, h⟩ := bnd h
  refine aw_putR 237 true d_M_init_234 rfl fp_M_95 (fun _ => rfl) rfl h234 ?_
  refine aw_aload_n 238 d_M_init_237 rfl rfl ?_
  refine aw_bipush (v := (14 : Int32)) 240 d_M_init_238 rfl (by decide) ?_
  obtain ⟨μ240, h240, h⟩ := bnd h
  refine aw_newa (t := 1) (ty := .int) 242 d_M_init_240 rfl rfl (by simp) ac_int h240 ?_
  obtain ⟨μ242, h242, h⟩ := bnd h
  refine aw_putR 245 true d_M_init_242 rfl fp_M_98 (fun _ => rfl) rfl h242 ?_
  refine aw_aload_n 246 d_M_init_245 rfl rfl ?_
  refine aw_sipush (v := (200 : Int32)) 249 d_M_init_246 rfl (by decide) ?_
  obtain ⟨μ249, h249, h⟩ := bnd h
  refine aw_newa (t := 1) (ty := .int) 251 d_M_init_249 rfl rfl (by simp) ac_int h249 ?_
  obtain ⟨μ251, h251, h⟩ := bnd h
  refine aw_putR 254 true d_M_init_251 rfl fp_M_101 (fun _ => rfl) rfl h251 ?_
  refine aw_aload_n 255 d_M_init_254 rfl rfl ?_
  refine aw_sipush (v := (200 : Int32)) 258 d_M_init_255 rfl (by decide) ?_
  obtain ⟨μ258, h258, h⟩ := bnd h
  refine aw_newa (t := 1) (ty := .int) 260 d_M_init_258 rfl rfl (by simp) ac_int h258 ?_
  obtain ⟨μ260, h260, h⟩ := bnd h
  refine aw_putR 263 true d_M_init_260 rfl fp_M_104 (fun _ => rfl) rfl h260 ?_
  refine aw_aload_n 264 d_M_init_263 rfl rfl ?_
  refine aw_sipush (v := (240 : Int32)) 267 d_M_init_264 rfl (by decide) ?_
  obtain ⟨μ267, h267, h⟩ := bnd h
  refine aw_newa (t := 1) (ty := .int) 269 d_M_init_267 rfl rfl (by simp) ac_int h267 ?_
  obtain ⟨μ269, h269, h⟩ := bnd h
  refine aw_putR 272 true d_M_init_269 rfl fp_M_107 (fun _ => rfl) rfl h269 ?_
  refine aw_aload_n 273 d_M_init_272 rfl rfl ?_
  refine aw_bipush (v := (8 : Int32)) 275 d_M_init_273 rfl (by decide) ?_
  obtain ⟨μ275, h275, h⟩ := bnd h
  refine aw_newa (t := 1) (ty := .int) 277 d_M_init_275 rfl rfl (by simp) ac_int h275 ?_
  obtain ⟨μ277, h277, h⟩ := bnd h
  refine aw_putR 280 true d_M_init_277 rfl fp_M_110 (fun _ => rfl) rfl h277 ?_
  refine aw_aload_n 281 d_M_init_280 rfl rfl ?_
  refine aw_bipush (v := (8 : Int32)) 283 d_M_init_281 rfl (by decide) ?_
  obtain ⟨μ283, h283, h⟩ := bnd h
  refine aw_newa (t := 1) (ty := .int) 285 d_M_init_283 rfl rfl (by simp) ac_int h283 ?_
  obtain ⟨μ285, h285, h⟩ := bnd h
  refine aw_putR 288 true d_M_init_285 rfl fp_M_113 (fun _ => rfl) rfl h285 ?_
  refine aw_aload_n 289 d_M_init_288 rfl rfl ?_
  refine aw_sipush (v := (192 : Int32)) 292 d_M_init_289 rfl (by decide) ?_
  obtain ⟨μ292, h292, h⟩ := bnd h
  refine aw_newa (t := 1) (ty := .int) 294 d_M_init_292 rfl rfl (by simp) ac_int h292 ?_
  obtain ⟨μ294, h294, h⟩ := bnd h
  refine aw_putR 297 true d_M_init_294 rfl fp_M_116 (fun _ => rfl) rfl h294 ?_
  refine aw_aload_n 298 d_M_init_297 rfl rfl ?_
  refine aw_bipush (v := (8 : Int32)) 300 d_M_init_298 rfl (by decide) ?_
  obtain ⟨μ300, h300, h⟩ := bnd h
  refine aw_newa (t := 1) (ty := .int) 302 d_M_init_300 rfl rfl (by simp) ac_int h300 ?_
  obtain ⟨μ302, h302, h⟩ := bnd h
  refine aw_putR 305 true d_M_init_302 rfl fp_M_119 (fun _ => rfl) rfl h302 ?_
  refine aw_aload_n 306 d_M_init_305 rfl rfl ?_
  refine aw_bipush (v := (8 : Int32)) 308 d_M_init_306 rfl (by decide) ?_
  obtain ⟨μ308, h308, h⟩ := bnd h
  refine aw_newa (t := 1) (ty := .int) 310 d_M_init_308 rfl rfl (by simp) ac_int h308 ?_
  obtain ⟨μ310, h310, h⟩ := bnd h
  refine aw_putR 313 true d_M_init_310 rfl fp_M_122 (fun _ => rfl) rfl h310 ?_
  refine aw_aload_n 314 d_M_init_313 rfl rfl ?_
  refine aw_bipush (v := (24 : Int32)) 316 d_M_init_314 rfl (by decide) ?_
  obtain ⟨μ316, h316, h⟩ := bnd h
  refine aw_newa (t := 1) (ty := .int) 318 d_M_init_316 rfl rfl (by simp) ac_int h316 ?_
  obtain ⟨μ318, h318, h⟩ := bnd h
  refine aw_putR 321 true d_M_init_318 rfl fp_M_125 (fun _ => rfl) rfl h318 ?_
  refine aw_aload_n 322 d_M_init_321 rfl rfl ?_
  refine aw_sipush (v := (240 : Int32)) 325 d_M_init_322 rfl (by decide) ?_
  obtain ⟨μ325, h325, h⟩ := bnd h
  refine aw_newa (t := 1) (ty := .int) 327 d_M_init_325 rfl rfl (by simp) ac_int h325 ?_
  obtain ⟨μ327, h327, h⟩ := bnd h
  refine aw_putR 330 true d_M_init_327 rfl fp_M_128 (fun _ => rfl) rfl h327 ?_
  refine aw_aload_n 331 d_M_init_330 rfl rfl ?_
  refine aw_sipush (v := (240 : Int32)) 334 d_M_init_331 rfl (by decide) ?_
  obtain ⟨μ334, h334, h⟩ := bnd h
  refine aw_newa (t := 3) (ty := .boolean) 336 d_M_init_334 rfl rfl (by simp) ac_boolean h334 ?_
  obtain ⟨μ336, h336, h⟩ := bnd h
  refine aw_putR 339 true d_M_init_336 rfl fp_M_131 (fun _ => rfl) rfl h336 ?_
  refine aw_aload_n 340 d_M_init_339 rfl rfl ?_
  refine aw_bipush (v := (8 : Int32)) 342 d_M_init_340 rfl (by decide) ?_
  obtain ⟨μ342, h342, h⟩ := bnd h
  refine aw_newa (t := 1) (ty := .int) 344 d_M_init_342 rfl rfl (by simp) ac_int h342 ?_
  obtain ⟨μ344, h344, h⟩ := bnd h
  refine aw_putR 347 true d_M_init_344 rfl fp_M_134 (fun _ => rfl) rfl h344 ?_
  refine aw_aload_n 348 d_M_init_347 rfl rfl ?_
  refine aw_sipush (v := (192 : Int32)) 351 d_M_init_348 rfl (by decide) ?_
  obtain ⟨μ351, h351, h⟩ := bnd h
  refine aw_newa (t := 1) (ty := .int) 353 d_M_init_351 rfl rfl (by simp) ac_int h351 ?_
  obtain ⟨μ353, h353, h⟩ := bnd h
  refine aw_putR 356 true d_M_init_353 rfl fp_M_137 (fun _ => rfl) rfl h353 ?_
  refine aw_aload_n 357 d_M_init_356 rfl rfl ?_
  refine aw_sipush (v := (192 : Int32)) 360 d_M_init_357 rfl (by decide) ?_
  obtain ⟨μ360, h360, h⟩ := bnd h
  refine aw_newa (t := 3) (ty := .boolean) 362 d_M_init_360 rfl rfl (by simp) ac_boolean h360 ?_
  obtain ⟨μ362, h362, h⟩ := bnd h
  refine aw_putR 365 true d_M_init_362 rfl fp_M_140 (fun _ => rfl) rfl h362 ?_
  refine aw_iconst (v := (0 : Int32)) 366 d_M_init_365 rfl (by decide) ?_
  refine aw_istore_n (loc' := [some (.ref a0), some (.int (0 : Int32))]) 367 d_M_init_366 rfl (by decide) rfl ?_
  exact (l_M_init_367 FU _ _ h)
theorem k_M_init {q : MM} {a0 : Nat} {μ : MM} (h : f_M_init a0 μ = some q) : μ.1[a0]? = some (0, 1) := by
  unfold f_M_init at h
  obtain ⟨_, h1, _⟩ := bnd h
  exact kO_some h1
theorem l_Fr_ofNumber_21 {l : Launch} {μ0 : MM} {q : Int32} {μ : MM} : ∀ (n : Nat) (x1 : Int32) (x2 : Int32) (x3 : Int32), f_Fr_ofNumber_L21 n x1 x2 x3 = some q → AWm l Y_Fr_ofNumber 1 μ0 (some (.int q)) μ 21 [none, some (.int x1), some (.int x2), some (.int x3)] [] μ := by
  intro n
  induction n with
  | zero =>
    intro x1 x2 x3 h
    have h : (none : Option (Int32)) = some q := h
    cases h
  | succ n ih =>
    intro x1 x2 x3 h
    rw [f_Fr_ofNumber_L21] at h
    refine aw_iload_n 22 d_Fr_ofNumber_21 rfl rfl ?_
    refine aw_sipush (v := (2000 : Int32)) 25 d_Fr_ofNumber_22 rfl (by decide) ?_
    refine aw_icmp_ge 95 28 d_Fr_ofNumber_25 (by decide) rfl (fun c25 => ?_) (fun c25 => ?_)
    · have h := (if_pos c25).symm.trans h
      refine aw_iload_n 96 d_Fr_ofNumber_95 rfl rfl ?_
      cases h
      exact aw_ireturn d_Fr_ofNumber_96 rfl rfl
    · have h := (if_neg c25).symm.trans h
      refine aw_iload_n 29 d_Fr_ofNumber_28 rfl rfl ?_
      refine aw_iconst (v := (1 : Int32)) 30 d_Fr_ofNumber_29 rfl (by decide) ?_
      refine aw_icmp_le 95 33 d_Fr_ofNumber_30 (by decide) rfl (fun c30 => ?_) (fun c30 => ?_)
      · have h := (if_pos c30).symm.trans h
        refine aw_iload_n 96 d_Fr_ofNumber_95 rfl rfl ?_
        cases h
        exact aw_ireturn d_Fr_ofNumber_96 rfl rfl
      · have h := (if_neg c30).symm.trans h
        refine aw_iload_n 34 d_Fr_ofNumber_33 rfl rfl ?_
        refine aw_iconst (v := (2 : Int32)) 35 d_Fr_ofNumber_34 rfl (by decide) ?_
        refine aw_irem 36 d_Fr_ofNumber_35 rfl (by decide) ?_
        refine aw_if_ne 51 39 d_Fr_ofNumber_36 (by decide) rfl (fun c36 => ?_) (fun c36 => ?_)
        · have h := (if_neg c36).symm.trans h
          refine aw_iload_n 52 d_Fr_ofNumber_51 rfl rfl ?_
          refine aw_iconst (v := (3 : Int32)) 53 d_Fr_ofNumber_52 rfl (by decide) ?_
          refine aw_irem 54 d_Fr_ofNumber_53 rfl (by decide) ?_
          refine aw_if_ne 70 57 d_Fr_ofNumber_54 (by decide) rfl (fun c54 => ?_) (fun c54 => ?_)
          · have h := (if_neg c54).symm.trans h
            refine aw_iload_n 71 d_Fr_ofNumber_70 rfl rfl ?_
            refine aw_iconst (v := (5 : Int32)) 72 d_Fr_ofNumber_71 rfl (by decide) ?_
            refine aw_irem 73 d_Fr_ofNumber_72 rfl (by decide) ?_
            refine aw_if_ne 86 76 d_Fr_ofNumber_73 (by decide) rfl (fun c73 => ?_) (fun c73 => ?_)
            · have h := (if_neg c73).symm.trans h
              refine aw_ldc (v := (-2147483648 : Int32)) 88 d_Fr_ofNumber_86 rfl c_Fr_15 ?_
              cases h
              exact aw_ireturn d_Fr_ofNumber_88 rfl rfl
            · have h := (if_pos c73).symm.trans h
              refine aw_iload_n 77 d_Fr_ofNumber_76 rfl rfl ?_
              refine aw_iconst (v := (5 : Int32)) 78 d_Fr_ofNumber_77 rfl (by decide) ?_
              refine aw_idiv 79 d_Fr_ofNumber_78 rfl (by decide) ?_
              refine aw_istore_n (loc' := [none, some (.int (x1 / (5 : Int32))), some (.int x2), some (.int x3)]) 80 d_Fr_ofNumber_79 rfl (by decide) rfl ?_
              refine aw_iinc (v := (x2 + (1 : Int32))) (loc' := [none, some (.int (x1 / (5 : Int32))), some (.int (x2 + (1 : Int32))), some (.int x3)]) 83 d_Fr_ofNumber_80 rfl (by decide) rfl rfl rfl ?_
              refine aw_goto 89 d_Fr_ofNumber_83 (by decide) ?_
              refine aw_iinc (v := (x3 + (1 : Int32))) (loc' := [none, some (.int (x1 / (5 : Int32))), some (.int (x2 + (1 : Int32))), some (.int (x3 + (1 : Int32)))]) 92 d_Fr_ofNumber_89 rfl (by decide) rfl rfl rfl ?_
              refine aw_goto 21 d_Fr_ofNumber_92 (by decide) ?_
              exact (ih (x1 / (5 : Int32)) (x2 + (1 : Int32)) (x3 + (1 : Int32)) h)
          · have h := (if_pos c54).symm.trans h
            refine aw_iload_n 58 d_Fr_ofNumber_57 rfl rfl ?_
            refine aw_iconst (v := (3 : Int32)) 59 d_Fr_ofNumber_58 rfl (by decide) ?_
            refine aw_idiv 60 d_Fr_ofNumber_59 rfl (by decide) ?_
            refine aw_istore_n (loc' := [none, some (.int (x1 / (3 : Int32))), some (.int x2), some (.int x3)]) 61 d_Fr_ofNumber_60 rfl (by decide) rfl ?_
            refine aw_iincW (v := (x2 + (1024 : Int32))) (loc' := [none, some (.int (x1 / (3 : Int32))), some (.int (x2 + (1024 : Int32))), some (.int x3)]) 67 d_Fr_ofNumber_61 rfl (by decide) rfl rfl rfl ?_
            refine aw_goto 89 d_Fr_ofNumber_67 (by decide) ?_
            refine aw_iinc (v := (x3 + (1 : Int32))) (loc' := [none, some (.int (x1 / (3 : Int32))), some (.int (x2 + (1024 : Int32))), some (.int (x3 + (1 : Int32)))]) 92 d_Fr_ofNumber_89 rfl (by decide) rfl rfl rfl ?_
            refine aw_goto 21 d_Fr_ofNumber_92 (by decide) ?_
            exact (ih (x1 / (3 : Int32)) (x2 + (1024 : Int32)) (x3 + (1 : Int32)) h)
        · have h := (if_pos c36).symm.trans h
          refine aw_iload_n 40 d_Fr_ofNumber_39 rfl rfl ?_
          refine aw_iconst (v := (2 : Int32)) 41 d_Fr_ofNumber_40 rfl (by decide) ?_
          refine aw_idiv 42 d_Fr_ofNumber_41 rfl (by decide) ?_
          refine aw_istore_n (loc' := [none, some (.int (x1 / (2 : Int32))), some (.int x2), some (.int x3)]) 43 d_Fr_ofNumber_42 rfl (by decide) rfl ?_
          refine aw_iload_n 44 d_Fr_ofNumber_43 rfl rfl ?_
          refine aw_ldc (v := (1048576 : Int32)) 46 d_Fr_ofNumber_44 rfl c_Fr_29 ?_
          refine aw_iadd 47 d_Fr_ofNumber_46 rfl ?_
          refine aw_istore_n (loc' := [none, some (.int (x1 / (2 : Int32))), some (.int (x2 + (1048576 : Int32))), some (.int x3)]) 48 d_Fr_ofNumber_47 rfl (by decide) rfl ?_
          refine aw_goto 89 d_Fr_ofNumber_48 (by decide) ?_
          refine aw_iinc (v := (x3 + (1 : Int32))) (loc' := [none, some (.int (x1 / (2 : Int32))), some (.int (x2 + (1048576 : Int32))), some (.int (x3 + (1 : Int32)))]) 92 d_Fr_ofNumber_89 rfl (by decide) rfl rfl rfl ?_
          refine aw_goto 21 d_Fr_ofNumber_92 (by decide) ?_
          exact (ih (x1 / (2 : Int32)) (x2 + (1048576 : Int32)) (x3 + (1 : Int32)) h)
theorem m_Fr_ofNumber {l : Launch} {q : Int32} {x0 : Int32} {μ : MM} (h : f_Fr_ofNumber x0 = some q) : AMet l 1 Y_Fr_ofNumber [.int x0] μ (some (.int q)) μ := by
  refine AMet.of (loc := [some (.int x0), none, none, none]) pn_Fr_ofNumber (Nat.le_of_ble_eq_true rfl) rfl ?_
  unfold f_Fr_ofNumber at h
  refine aw_iload_n 1 d_Fr_ofNumber_0 rfl rfl ?_
  refine aw_iconst (v := (1 : Int32)) 2 d_Fr_ofNumber_1 rfl (by decide) ?_
  refine aw_icmp_lt 12 5 d_Fr_ofNumber_2 (by decide) rfl (fun c2 => ?_) (fun c2 => ?_)
  · have h := (if_pos c2).symm.trans h
    refine aw_ldc (v := (-2147483648 : Int32)) 14 d_Fr_ofNumber_12 rfl c_Fr_15 ?_
    cases h
    exact aw_ireturn d_Fr_ofNumber_14 rfl rfl
  · have h := (if_neg c2).symm.trans h
    refine aw_iload_n 6 d_Fr_ofNumber_5 rfl rfl ?_
    refine aw_sipush (v := (2000 : Int32)) 9 d_Fr_ofNumber_6 rfl (by decide) ?_
    refine aw_icmp_le 15 12 d_Fr_ofNumber_9 (by decide) rfl (fun c9 => ?_) (fun c9 => ?_)
    · have h := (if_pos c9).symm.trans h
      refine aw_iload_n 16 d_Fr_ofNumber_15 rfl rfl ?_
      refine aw_istore_n (loc' := [some (.int x0), some (.int x0), none, none]) 17 d_Fr_ofNumber_16 rfl (by decide) rfl ?_
      refine aw_iconst (v := (0 : Int32)) 18 d_Fr_ofNumber_17 rfl (by decide) ?_
      refine aw_istore_n (loc' := [some (.int x0), some (.int x0), some (.int (0 : Int32)), none]) 19 d_Fr_ofNumber_18 rfl (by decide) rfl ?_
      refine aw_iconst (v := (0 : Int32)) 20 d_Fr_ofNumber_19 rfl (by decide) ?_
      refine aw_istore_n (loc' := [some (.int x0), some (.int x0), some (.int (0 : Int32)), some (.int (0 : Int32))]) 21 d_Fr_ofNumber_20 rfl (by decide) rfl ?_
      exact AW.wk [false, true, true, true] rfl (l_Fr_ofNumber_21 FU _ _ _ h)
    · have h := (if_neg c9).symm.trans h
      refine aw_ldc (v := (-2147483648 : Int32)) 14 d_Fr_ofNumber_12 rfl c_Fr_15 ?_
      cases h
      exact aw_ireturn d_Fr_ofNumber_14 rfl rfl
theorem m_Fr_exponent {l : Launch} {q : Int32} {x0 : Int32} {x1 : Int32} {μ : MM} (h : f_Fr_exponent x0 x1 = some q) : AMet l 1 Y_Fr_exponent [.int x0, .int x1] μ (some (.int q)) μ := by
  refine AMet.of (loc := [some (.int x0), some (.int x1), none]) pn_Fr_exponent (Nat.le_of_ble_eq_true rfl) rfl ?_
  unfold f_Fr_exponent at h
  refine aw_iload_n 1 d_Fr_exponent_0 rfl rfl ?_
  refine aw_ldc (v := (537395712 : Int32)) 3 d_Fr_exponent_1 rfl c_Fr_21 ?_
  refine aw_iadd 4 d_Fr_exponent_3 rfl ?_
  refine aw_bipush (v := (10 : Int32)) 6 d_Fr_exponent_4 rfl (by decide) ?_
  refine aw_iconst (v := (3 : Int32)) 7 d_Fr_exponent_6 rfl (by decide) ?_
  refine aw_iload_n 8 d_Fr_exponent_7 rfl rfl ?_
  refine aw_isub 9 d_Fr_exponent_8 rfl ?_
  refine aw_imul 10 d_Fr_exponent_9 rfl ?_
  refine aw_ishr 11 d_Fr_exponent_10 rfl ?_
  refine aw_istore_n (loc' := [some (.int x0), some (.int x1), some (.int (ishr (x0 + (537395712 : Int32)) ((10 : Int32) * ((3 : Int32) - x1))))]) 12 d_Fr_exponent_11 rfl (by decide) rfl ?_
  refine aw_iload_n 13 d_Fr_exponent_12 rfl rfl ?_
  refine aw_sipush (v := (1023 : Int32)) 16 d_Fr_exponent_13 rfl (by decide) ?_
  refine aw_iand 17 d_Fr_exponent_16 rfl ?_
  refine aw_sipush (v := (512 : Int32)) 20 d_Fr_exponent_17 rfl (by decide) ?_
  refine aw_isub 21 d_Fr_exponent_20 rfl ?_
  cases h
  exact aw_ireturn d_Fr_exponent_21 rfl rfl
theorem m_Fr_mills {l : Launch} {q : Int32} {x0 : Int32} {μ : MM} (h : f_Fr_mills x0 = some q) : AMet l 2 Y_Fr_mills [.int x0] μ (some (.int q)) μ := by
  refine AMet.of (loc := [some (.int x0)]) pn_Fr_mills (Nat.le_of_ble_eq_true rfl) rfl ?_
  unfold f_Fr_mills at h
  refine aw_ldc (v := (1200000 : Int32)) 2 d_Fr_mills_0 rfl c_Fr_22 ?_
  refine aw_iload_n 3 d_Fr_mills_2 rfl rfl ?_
  refine aw_iconst (v := (1 : Int32)) 4 d_Fr_mills_3 rfl (by decide) ?_
  obtain ⟨y4, h4, h⟩ := bnd h
  refine aw_invS (rest := [.int (1200000 : Int32)]) (st' := [.int y4, .int (1200000 : Int32)]) (As := [.int x0, .int (1 : Int32)]) 7 d_Fr_mills_4 rfl ls_Fr_23 (m_Fr_exponent h4) (by decide) rfl rfl (Nat.le_of_ble_eq_true rfl) rfl ?_
  refine aw_imul 8 d_Fr_mills_7 rfl ?_
  refine aw_ldc (v := (1901955 : Int32)) 10 d_Fr_mills_8 rfl c_Fr_27 ?_
  refine aw_iload_n 11 d_Fr_mills_10 rfl rfl ?_
  refine aw_iconst (v := (2 : Int32)) 12 d_Fr_mills_11 rfl (by decide) ?_
  obtain ⟨y12, h12, h⟩ := bnd h
  refine aw_invS (rest := [.int (1901955 : Int32), .int ((1200000 : Int32) * y4)]) (st' := [.int y12, .int (1901955 : Int32), .int ((1200000 : Int32) * y4)]) (As := [.int x0, .int (2 : Int32)]) 15 d_Fr_mills_12 rfl ls_Fr_23 (m_Fr_exponent h12) (by decide) rfl rfl (Nat.le_of_ble_eq_true rfl) rfl ?_
  refine aw_imul 16 d_Fr_mills_15 rfl ?_
  refine aw_iadd 17 d_Fr_mills_16 rfl ?_
  refine aw_ldc (v := (2786314 : Int32)) 19 d_Fr_mills_17 rfl c_Fr_28 ?_
  refine aw_iload_n 20 d_Fr_mills_19 rfl rfl ?_
  refine aw_iconst (v := (3 : Int32)) 21 d_Fr_mills_20 rfl (by decide) ?_
  obtain ⟨y21, h21, h⟩ := bnd h
  refine aw_invS (rest := [.int (2786314 : Int32), .int (((1200000 : Int32) * y4) + ((1901955 : Int32) * y12))]) (st' := [.int y21, .int (2786314 : Int32), .int (((1200000 : Int32) * y4) + ((1901955 : Int32) * y12))]) (As := [.int x0, .int (3 : Int32)]) 24 d_Fr_mills_21 rfl ls_Fr_23 (m_Fr_exponent h21) (by decide) rfl rfl (Nat.le_of_ble_eq_true rfl) rfl ?_
  refine aw_imul 25 d_Fr_mills_24 rfl ?_
  refine aw_iadd 26 d_Fr_mills_25 rfl ?_
  cases h
  exact aw_ireturn d_Fr_mills_26 rfl rfl
theorem m_Fr_of {l : Launch} {q : Int32} {x0 : Int32} {x1 : Int32} {μ : MM} (h : f_Fr_of x0 x1 = some q) : AMet l 3 Y_Fr_of [.int x0, .int x1] μ (some (.int q)) μ := by
  refine AMet.of (loc := [some (.int x0), some (.int x1), none, none, none, none]) pn_Fr_of (Nat.le_of_ble_eq_true rfl) rfl ?_
  unfold f_Fr_of at h
  refine aw_iload_n 1 d_Fr_of_0 rfl rfl ?_
  obtain ⟨y1, h1, h⟩ := bnd h
  refine aw_invS (rest := []) (st' := [.int y1]) (As := [.int x0]) 4 d_Fr_of_1 rfl ls_Fr_11 (m_Fr_ofNumber h1) (by decide) rfl rfl (Nat.le_of_ble_eq_true rfl) rfl ?_
  refine aw_istore_n (loc' := [some (.int x0), some (.int x1), some (.int y1), none, none, none]) 5 d_Fr_of_4 rfl (by decide) rfl ?_
  refine aw_iload_n 6 d_Fr_of_5 rfl rfl ?_
  obtain ⟨y6, h6, h⟩ := bnd h
  refine aw_invS (rest := []) (st' := [.int y6]) (As := [.int x1]) 9 d_Fr_of_6 rfl ls_Fr_11 (m_Fr_ofNumber h6) (by decide) rfl rfl (Nat.le_of_ble_eq_true rfl) rfl ?_
  refine aw_istore_n (loc' := [some (.int x0), some (.int x1), some (.int y1), some (.int y6), none, none]) 10 d_Fr_of_9 rfl (by decide) rfl ?_
  refine aw_iload_n 11 d_Fr_of_10 rfl rfl ?_
  refine aw_ldc (v := (-2147483648 : Int32)) 13 d_Fr_of_11 rfl c_Fr_15 ?_
  refine aw_icmp_eq 22 16 d_Fr_of_13 (by decide) rfl (fun c13 => ?_) (fun c13 => ?_)
  · have h := (if_pos c13).symm.trans h
    refine aw_ldc (v := (-2147483648 : Int32)) 24 d_Fr_of_22 rfl c_Fr_15 ?_
    cases h
    exact aw_ireturn d_Fr_of_24 rfl rfl
  · have h := (if_neg c13).symm.trans h
    refine aw_iload_n 17 d_Fr_of_16 rfl rfl ?_
    refine aw_ldc (v := (-2147483648 : Int32)) 19 d_Fr_of_17 rfl c_Fr_15 ?_
    refine aw_icmp_ne 25 22 d_Fr_of_19 (by decide) rfl (fun c19 => ?_) (fun c19 => ?_)
    · have h := (if_neg c19).symm.trans h
      refine aw_iload_n 26 d_Fr_of_25 rfl rfl ?_
      refine aw_iload_n 27 d_Fr_of_26 rfl rfl ?_
      refine aw_isub 28 d_Fr_of_27 rfl ?_
      refine aw_istore (loc' := [some (.int x0), some (.int x1), some (.int y1), some (.int y6), some (.int (y1 - y6)), none]) 30 d_Fr_of_28 rfl (by decide) rfl ?_
      refine aw_iload 32 d_Fr_of_30 rfl rfl ?_
      obtain ⟨y32, h32, h⟩ := bnd h
      refine aw_invS (rest := []) (st' := [.int y32]) (As := [.int (y1 - y6)]) 35 d_Fr_of_32 rfl ls_Fr_16 (m_Fr_mills h32) (by decide) rfl rfl (Nat.le_of_ble_eq_true rfl) rfl ?_
      refine aw_istore (loc' := [some (.int x0), some (.int x1), some (.int y1), some (.int y6), some (.int (y1 - y6)), some (.int y32)]) 37 d_Fr_of_35 rfl (by decide) rfl ?_
      refine aw_iload 39 d_Fr_of_37 rfl rfl ?_
      refine aw_ldc (v := (-3000000 : Int32)) 41 d_Fr_of_39 rfl c_Fr_19 ?_
      refine aw_icmp_lt 51 44 d_Fr_of_41 (by decide) rfl (fun c41 => ?_) (fun c41 => ?_)
      · have h := (if_pos c41).symm.trans h
        refine aw_ldc (v := (-2147483648 : Int32)) 53 d_Fr_of_51 rfl c_Fr_15 ?_
        refine aw_goto 58 d_Fr_of_53 (by decide) ?_
        cases h
        exact aw_ireturn d_Fr_of_58 rfl rfl
      · have h := (if_neg c41).symm.trans h
        refine aw_iload 46 d_Fr_of_44 rfl rfl ?_
        refine aw_ldc (v := (3000000 : Int32)) 48 d_Fr_of_46 rfl c_Fr_20 ?_
        refine aw_icmp_le 56 51 d_Fr_of_48 (by decide) rfl (fun c48 => ?_) (fun c48 => ?_)
        · have h := (if_pos c48).symm.trans h
          refine aw_iload 58 d_Fr_of_56 rfl rfl ?_
          cases h
          exact aw_ireturn d_Fr_of_58 rfl rfl
        · have h := (if_neg c48).symm.trans h
          refine aw_ldc (v := (-2147483648 : Int32)) 53 d_Fr_of_51 rfl c_Fr_15 ?_
          refine aw_goto 58 d_Fr_of_53 (by decide) ?_
          cases h
          exact aw_ireturn d_Fr_of_58 rfl rfl
    · have h := (if_pos c19).symm.trans h
      refine aw_ldc (v := (-2147483648 : Int32)) 24 d_Fr_of_22 rfl c_Fr_15 ?_
      cases h
      exact aw_ireturn d_Fr_of_24 rfl rfl
theorem m_Sc_has {l : Launch} {q : Int32} {x0 : Int32} {x1 : Int32} {μ : MM} (h : f_Sc_has x0 x1 = some q) : AMet l 1 Y_Sc_has [.int x0, .int x1] μ (some (.int q)) μ := by
  refine AMet.of (loc := [some (.int x0), some (.int x1)]) pn_Sc_has (Nat.le_of_ble_eq_true rfl) rfl ?_
  unfold f_Sc_has at h
  refine aw_iload_n 1 d_Sc_has_0 rfl rfl ?_
  refine aw_if_lt 24 4 d_Sc_has_1 (by decide) rfl (fun c1 => ?_) (fun c1 => ?_)
  · have h := (if_pos c1).symm.trans h
    refine aw_iconst (v := (0 : Int32)) 25 d_Sc_has_24 rfl (by decide) ?_
    cases h
    exact aw_ireturn d_Sc_has_25 rfl nar0
  · have h := (if_neg c1).symm.trans h
    refine aw_iload_n 5 d_Sc_has_4 rfl rfl ?_
    refine aw_bipush (v := (6 : Int32)) 7 d_Sc_has_5 rfl (by decide) ?_
    refine aw_icmp_ge 24 10 d_Sc_has_7 (by decide) rfl (fun c7 => ?_) (fun c7 => ?_)
    · have h := (if_pos c7).symm.trans h
      refine aw_iconst (v := (0 : Int32)) 25 d_Sc_has_24 rfl (by decide) ?_
      cases h
      exact aw_ireturn d_Sc_has_25 rfl nar0
    · have h := (if_neg c7).symm.trans h
      refine aw_iload_n 11 d_Sc_has_10 rfl rfl ?_
      refine aw_if_lt 24 14 d_Sc_has_11 (by decide) rfl (fun c11 => ?_) (fun c11 => ?_)
      · have h := (if_pos c11).symm.trans h
        refine aw_iconst (v := (0 : Int32)) 25 d_Sc_has_24 rfl (by decide) ?_
        cases h
        exact aw_ireturn d_Sc_has_25 rfl nar0
      · have h := (if_neg c11).symm.trans h
        refine aw_iload_n 15 d_Sc_has_14 rfl rfl ?_
        refine aw_bipush (v := (24 : Int32)) 17 d_Sc_has_15 rfl (by decide) ?_
        refine aw_icmp_ge 24 20 d_Sc_has_17 (by decide) rfl (fun c17 => ?_) (fun c17 => ?_)
        · have h := (if_pos c17).symm.trans h
          refine aw_iconst (v := (0 : Int32)) 25 d_Sc_has_24 rfl (by decide) ?_
          cases h
          exact aw_ireturn d_Sc_has_25 rfl nar0
        · have h := (if_neg c17).symm.trans h
          refine aw_iconst (v := (1 : Int32)) 21 d_Sc_has_20 rfl (by decide) ?_
          refine aw_goto 25 d_Sc_has_21 (by decide) ?_
          cases h
          exact aw_ireturn d_Sc_has_25 rfl nar1
theorem m_Sc_cell {l : Launch} {q : Int32} {x0 : Int32} {x1 : Int32} {μ : MM} (h : f_Sc_cell x0 x1 = some q) : AMet l 1 Y_Sc_cell [.int x0, .int x1] μ (some (.int q)) μ := by
  refine AMet.of (loc := [some (.int x0), some (.int x1)]) pn_Sc_cell (Nat.le_of_ble_eq_true rfl) rfl ?_
  unfold f_Sc_cell at h
  refine aw_iload_n 1 d_Sc_cell_0 rfl rfl ?_
  refine aw_bipush (v := (24 : Int32)) 3 d_Sc_cell_1 rfl (by decide) ?_
  refine aw_imul 4 d_Sc_cell_3 rfl ?_
  refine aw_iload_n 5 d_Sc_cell_4 rfl rfl ?_
  refine aw_iadd 6 d_Sc_cell_5 rfl ?_
  cases h
  exact aw_ireturn d_Sc_cell_6 rfl rfl
theorem m_Sc_sounds {l : Launch} {q : Int32} {a0 : Nat} {x1 : Int32} {x2 : Int32} {μ : MM} (h : f_Sc_sounds a0 x1 x2 μ = some q) : AMet l 1 Y_Sc_sounds [.ref a0, .int x1, .int x2] μ (some (.int q)) μ := by
  refine AMet.of (loc := [some (.ref a0), some (.int x1), some (.int x2)]) pn_Sc_sounds (Nat.le_of_ble_eq_true rfl) rfl ?_
  unfold f_Sc_sounds at h
  obtain ⟨_, hk, h⟩ := bnd h
  refine aw_iload_n 1 d_Sc_sounds_0 rfl rfl ?_
  refine aw_if_lt 39 4 d_Sc_sounds_1 (by decide) rfl (fun c1 => ?_) (fun c1 => ?_)
  · have h := (if_pos c1).symm.trans h
    refine aw_iconst (v := (0 : Int32)) 40 d_Sc_sounds_39 rfl (by decide) ?_
    cases h
    exact aw_ireturn d_Sc_sounds_40 rfl nar0
  · have h := (if_neg c1).symm.trans h
    refine aw_iload_n 5 d_Sc_sounds_4 rfl rfl ?_
    refine aw_bipush (v := (6 : Int32)) 7 d_Sc_sounds_5 rfl (by decide) ?_
    refine aw_icmp_ge 39 10 d_Sc_sounds_7 (by decide) rfl (fun c7 => ?_) (fun c7 => ?_)
    · have h := (if_pos c7).symm.trans h
      refine aw_iconst (v := (0 : Int32)) 40 d_Sc_sounds_39 rfl (by decide) ?_
      cases h
      exact aw_ireturn d_Sc_sounds_40 rfl nar0
    · have h := (if_neg c7).symm.trans h
      refine aw_iload_n 11 d_Sc_sounds_10 rfl rfl ?_
      refine aw_if_lt 39 14 d_Sc_sounds_11 (by decide) rfl (fun c11 => ?_) (fun c11 => ?_)
      · have h := (if_pos c11).symm.trans h
        refine aw_iconst (v := (0 : Int32)) 40 d_Sc_sounds_39 rfl (by decide) ?_
        cases h
        exact aw_ireturn d_Sc_sounds_40 rfl nar0
      · have h := (if_neg c11).symm.trans h
        refine aw_iload_n 15 d_Sc_sounds_14 rfl rfl ?_
        refine aw_bipush (v := (24 : Int32)) 17 d_Sc_sounds_15 rfl (by decide) ?_
        refine aw_icmp_ge 39 20 d_Sc_sounds_17 (by decide) rfl (fun c17 => ?_) (fun c17 => ?_)
        · have h := (if_pos c17).symm.trans h
          refine aw_iconst (v := (0 : Int32)) 40 d_Sc_sounds_39 rfl (by decide) ?_
          cases h
          exact aw_ireturn d_Sc_sounds_40 rfl nar0
        · have h := (if_neg c17).symm.trans h
          refine aw_aload_n 21 d_Sc_sounds_20 rfl rfl ?_
          obtain ⟨y21, h21, h⟩ := bnd h
          refine aw_getR 24 d_Sc_sounds_21 rfl fg_Sc_9 rfl h21 ?_
          refine aw_iload_n 25 d_Sc_sounds_24 rfl rfl ?_
          refine aw_bipush (v := (24 : Int32)) 27 d_Sc_sounds_25 rfl (by decide) ?_
          refine aw_imul 28 d_Sc_sounds_27 rfl ?_
          refine aw_iload_n 29 d_Sc_sounds_28 rfl rfl ?_
          refine aw_iadd 30 d_Sc_sounds_29 rfl ?_
          obtain ⟨y30, h30, h⟩ := bnd h
          refine aw_iald 31 d_Sc_sounds_30 rfl h30 ?_
          refine aw_iconst (v := (-1 : Int32)) 32 d_Sc_sounds_31 rfl (by decide) ?_
          refine aw_icmp_eq 39 35 d_Sc_sounds_32 (by decide) rfl (fun c32 => ?_) (fun c32 => ?_)
          · have h := (if_pos c32).symm.trans h
            refine aw_iconst (v := (0 : Int32)) 40 d_Sc_sounds_39 rfl (by decide) ?_
            cases h
            exact aw_ireturn d_Sc_sounds_40 rfl nar0
          · have h := (if_neg c32).symm.trans h
            refine aw_iconst (v := (1 : Int32)) 36 d_Sc_sounds_35 rfl (by decide) ?_
            refine aw_goto 40 d_Sc_sounds_36 (by decide) ?_
            cases h
            exact aw_ireturn d_Sc_sounds_40 rfl nar1
theorem k_Sc_sounds {q : Int32} {a0 : Nat} {x1 : Int32} {x2 : Int32} {μ : MM} (h : f_Sc_sounds a0 x1 x2 μ = some q) : μ.1[a0]? = some (0, 8) := by
  unfold f_Sc_sounds at h
  obtain ⟨_, h1, _⟩ := bnd h
  exact kO_some h1
theorem m_Sc_holds {l : Launch} {q : Int32} {a0 : Nat} {x1 : Int32} {x2 : Int32} {μ : MM} (h : f_Sc_holds a0 x1 x2 μ = some q) : AMet l 2 Y_Sc_holds [.ref a0, .int x1, .int x2] μ (some (.int q)) μ := by
  refine AMet.of (loc := [some (.ref a0), some (.int x1), some (.int x2)]) pn_Sc_holds (Nat.le_of_ble_eq_true rfl) rfl ?_
  unfold f_Sc_holds at h
  obtain ⟨_, hk, h⟩ := bnd h
  refine aw_aload_n 1 d_Sc_holds_0 rfl rfl ?_
  refine aw_iload_n 2 d_Sc_holds_1 rfl rfl ?_
  refine aw_iload_n 3 d_Sc_holds_2 rfl rfl ?_
  obtain ⟨y3, h3, h⟩ := bnd h
  refine aw_invV (rest := []) (st' := [.int y3]) (As := [.int x1, .int x2]) 6 d_Sc_holds_3 rfl lv_Sc_39 (m_Sc_sounds h3) (by decide) (k_Sc_sounds h3) rfl rfl rfl (Nat.le_of_ble_eq_true rfl) rfl ?_
  refine aw_if_eq 51 9 d_Sc_holds_6 (by decide) rfl (fun c6 => ?_) (fun c6 => ?_)
  · have h := (if_pos c6).symm.trans h
    refine aw_iconst (v := (0 : Int32)) 52 d_Sc_holds_51 rfl (by decide) ?_
    cases h
    exact aw_ireturn d_Sc_holds_52 rfl nar0
  · have h := (if_neg c6).symm.trans h
    refine aw_aload_n 10 d_Sc_holds_9 rfl rfl ?_
    refine aw_iload_n 11 d_Sc_holds_10 rfl rfl ?_
    refine aw_iload_n 12 d_Sc_holds_11 rfl rfl ?_
    refine aw_iconst (v := (1 : Int32)) 13 d_Sc_holds_12 rfl (by decide) ?_
    refine aw_isub 14 d_Sc_holds_13 rfl ?_
    obtain ⟨y14, h14, h⟩ := bnd h
    refine aw_invV (rest := []) (st' := [.int y14]) (As := [.int x1, .int (x2 - (1 : Int32))]) 17 d_Sc_holds_14 rfl lv_Sc_39 (m_Sc_sounds h14) (by decide) (k_Sc_sounds h14) rfl rfl rfl (Nat.le_of_ble_eq_true rfl) rfl ?_
    refine aw_if_eq 51 20 d_Sc_holds_17 (by decide) rfl (fun c17 => ?_) (fun c17 => ?_)
    · have h := (if_pos c17).symm.trans h
      refine aw_iconst (v := (0 : Int32)) 52 d_Sc_holds_51 rfl (by decide) ?_
      cases h
      exact aw_ireturn d_Sc_holds_52 rfl nar0
    · have h := (if_neg c17).symm.trans h
      refine aw_aload_n 21 d_Sc_holds_20 rfl rfl ?_
      obtain ⟨y21, h21, h⟩ := bnd h
      refine aw_getR 24 d_Sc_holds_21 rfl fg_Sc_9 rfl h21 ?_
      refine aw_iload_n 25 d_Sc_holds_24 rfl rfl ?_
      refine aw_bipush (v := (24 : Int32)) 27 d_Sc_holds_25 rfl (by decide) ?_
      refine aw_imul 28 d_Sc_holds_27 rfl ?_
      refine aw_iload_n 29 d_Sc_holds_28 rfl rfl ?_
      refine aw_iadd 30 d_Sc_holds_29 rfl ?_
      obtain ⟨y30, h30, h⟩ := bnd h
      refine aw_iald 31 d_Sc_holds_30 rfl h30 ?_
      refine aw_aload_n 32 d_Sc_holds_31 rfl rfl ?_
      obtain ⟨y32, h32, h⟩ := bnd h
      refine aw_getR 35 d_Sc_holds_32 rfl fg_Sc_9 rfl h32 ?_
      refine aw_iload_n 36 d_Sc_holds_35 rfl rfl ?_
      refine aw_bipush (v := (24 : Int32)) 38 d_Sc_holds_36 rfl (by decide) ?_
      refine aw_imul 39 d_Sc_holds_38 rfl ?_
      refine aw_iload_n 40 d_Sc_holds_39 rfl rfl ?_
      refine aw_iadd 41 d_Sc_holds_40 rfl ?_
      refine aw_iconst (v := (1 : Int32)) 42 d_Sc_holds_41 rfl (by decide) ?_
      refine aw_isub 43 d_Sc_holds_42 rfl ?_
      obtain ⟨y43, h43, h⟩ := bnd h
      refine aw_iald 44 d_Sc_holds_43 rfl h43 ?_
      refine aw_icmp_ne 51 47 d_Sc_holds_44 (by decide) rfl (fun c44 => ?_) (fun c44 => ?_)
      · have h := (if_neg c44).symm.trans h
        refine aw_iconst (v := (0 : Int32)) 52 d_Sc_holds_51 rfl (by decide) ?_
        cases h
        exact aw_ireturn d_Sc_holds_52 rfl nar0
      · have h := (if_pos c44).symm.trans h
        refine aw_iconst (v := (1 : Int32)) 48 d_Sc_holds_47 rfl (by decide) ?_
        refine aw_goto 52 d_Sc_holds_48 (by decide) ?_
        cases h
        exact aw_ireturn d_Sc_holds_52 rfl nar1
theorem k_Sc_holds {q : Int32} {a0 : Nat} {x1 : Int32} {x2 : Int32} {μ : MM} (h : f_Sc_holds a0 x1 x2 μ = some q) : μ.1[a0]? = some (0, 8) := by
  unfold f_Sc_holds at h
  obtain ⟨_, h1, _⟩ := bnd h
  exact kO_some h1
theorem m_Sc_shift {l : Launch} {q : Int32} {a0 : Nat} {x1 : Int32} {x2 : Int32} {μ : MM} (h : f_Sc_shift a0 x1 x2 μ = some q) : AMet l 3 Y_Sc_shift [.ref a0, .int x1, .int x2] μ (some (.int q)) μ := by
  refine AMet.of (loc := [some (.ref a0), some (.int x1), some (.int x2)]) pn_Sc_shift (Nat.le_of_ble_eq_true rfl) rfl ?_
  unfold f_Sc_shift at h
  obtain ⟨_, hk, h⟩ := bnd h
  refine aw_aload_n 1 d_Sc_shift_0 rfl rfl ?_
  refine aw_iload_n 2 d_Sc_shift_1 rfl rfl ?_
  refine aw_iload_n 3 d_Sc_shift_2 rfl rfl ?_
  obtain ⟨y3, h3, h⟩ := bnd h
  refine aw_invV (rest := []) (st' := [.int y3]) (As := [.int x1, .int x2]) 6 d_Sc_shift_3 rfl lv_Sc_55 (m_Sc_holds h3) (by decide) (k_Sc_holds h3) rfl rfl rfl (Nat.le_of_ble_eq_true rfl) rfl ?_
  refine aw_if_eq 35 9 d_Sc_shift_6 (by decide) rfl (fun c6 => ?_) (fun c6 => ?_)
  · have h := (if_pos c6).symm.trans h
    refine aw_iconst (v := (0 : Int32)) 36 d_Sc_shift_35 rfl (by decide) ?_
    cases h
    exact aw_ireturn d_Sc_shift_36 rfl rfl
  · have h := (if_neg c6).symm.trans h
    refine aw_aload_n 10 d_Sc_shift_9 rfl rfl ?_
    obtain ⟨y10, h10, h⟩ := bnd h
    refine aw_getR 13 d_Sc_shift_10 rfl fg_Sc_15 rfl h10 ?_
    refine aw_iload_n 14 d_Sc_shift_13 rfl rfl ?_
    refine aw_iload_n 15 d_Sc_shift_14 rfl rfl ?_
    refine aw_iconst (v := (1 : Int32)) 16 d_Sc_shift_15 rfl (by decide) ?_
    refine aw_isub 17 d_Sc_shift_16 rfl ?_
    obtain ⟨y17, h17, h⟩ := bnd h
    refine aw_invS (rest := [.ref y10]) (st' := [.int y17, .ref y10]) (As := [.int x1, .int (x2 - (1 : Int32))]) 20 d_Sc_shift_17 rfl ls_Sc_46 (m_Sc_cell h17) (by decide) rfl rfl (Nat.le_of_ble_eq_true rfl) rfl ?_
    obtain ⟨y20, h20, h⟩ := bnd h
    refine aw_iald 21 d_Sc_shift_20 rfl h20 ?_
    refine aw_aload_n 22 d_Sc_shift_21 rfl rfl ?_
    obtain ⟨y22, h22, h⟩ := bnd h
    refine aw_getR 25 d_Sc_shift_22 rfl fg_Sc_15 rfl h22 ?_
    refine aw_iload_n 26 d_Sc_shift_25 rfl rfl ?_
    refine aw_iload_n 27 d_Sc_shift_26 rfl rfl ?_
    obtain ⟨y27, h27, h⟩ := bnd h
    refine aw_invS (rest := [.ref y22, .int y20]) (st' := [.int y27, .ref y22, .int y20]) (As := [.int x1, .int x2]) 30 d_Sc_shift_27 rfl ls_Sc_46 (m_Sc_cell h27) (by decide) rfl rfl (Nat.le_of_ble_eq_true rfl) rfl ?_
    obtain ⟨y30, h30, h⟩ := bnd h
    refine aw_iald 31 d_Sc_shift_30 rfl h30 ?_
    refine aw_isub 32 d_Sc_shift_31 rfl ?_
    refine aw_goto 36 d_Sc_shift_32 (by decide) ?_
    cases h
    exact aw_ireturn d_Sc_shift_36 rfl rfl
theorem k_Sc_shift {q : Int32} {a0 : Nat} {x1 : Int32} {x2 : Int32} {μ : MM} (h : f_Sc_shift a0 x1 x2 μ = some q) : μ.1[a0]? = some (0, 8) := by
  unfold f_Sc_shift at h
  obtain ⟨_, h1, _⟩ := bnd h
  exact kO_some h1
theorem l_Sc_tune_2 {l : Launch} {μ0 : MM} {q : MM} {a0 : Nat} : ∀ (n : Nat) (x1 : Int32) (μ : MM), f_Sc_tune_L2 a0 n x1 μ = some q → AWm l Y_Sc_tune 4 μ0 none q 2 [some (.ref a0), some (.int x1)] [] μ := by
  intro n
  induction n with
  | zero =>
    intro x1 μ h
    have h : (none : Option (MM)) = some q := h
    cases h
  | succ n ih =>
    intro x1 μ h
    rw [f_Sc_tune_L2] at h
    refine aw_iload_n 3 d_Sc_tune_2 rfl rfl ?_
    refine aw_bipush (v := (24 : Int32)) 5 d_Sc_tune_3 rfl (by decide) ?_
    refine aw_icmp_ge 55 8 d_Sc_tune_5 (by decide) rfl (fun c5 => ?_) (fun c5 => ?_)
    · have h := (if_pos c5).symm.trans h
      cases h
      exact aw_return d_Sc_tune_55 rfl
    · have h := (if_neg c5).symm.trans h
      refine aw_aload_n 9 d_Sc_tune_8 rfl rfl ?_
      obtain ⟨y9, h9, h⟩ := bnd h
      refine aw_getR 12 d_Sc_tune_9 rfl fg_Sc_30 rfl h9 ?_
      refine aw_iload_n 13 d_Sc_tune_12 rfl rfl ?_
      refine aw_aload_n 14 d_Sc_tune_13 rfl rfl ?_
      obtain ⟨y14, h14, h⟩ := bnd h
      refine aw_getR 17 d_Sc_tune_14 rfl fg_Sc_30 rfl h14 ?_
      refine aw_iload_n 18 d_Sc_tune_17 rfl rfl ?_
      refine aw_iconst (v := (1 : Int32)) 19 d_Sc_tune_18 rfl (by decide) ?_
      refine aw_isub 20 d_Sc_tune_19 rfl ?_
      obtain ⟨y20, h20, h⟩ := bnd h
      refine aw_iald 21 d_Sc_tune_20 rfl h20 ?_
      refine aw_aload_n 22 d_Sc_tune_21 rfl rfl ?_
      refine aw_aload_n 23 d_Sc_tune_22 rfl rfl ?_
      obtain ⟨y23, h23, h⟩ := bnd h
      refine aw_getR 26 d_Sc_tune_23 rfl fg_Sc_24 rfl h23 ?_
      refine aw_iload_n 27 d_Sc_tune_26 rfl rfl ?_
      obtain ⟨y27, h27, h⟩ := bnd h
      refine aw_iald 28 d_Sc_tune_27 rfl h27 ?_
      refine aw_iload_n 29 d_Sc_tune_28 rfl rfl ?_
      obtain ⟨y29, h29, h⟩ := bnd h
      refine aw_invV (rest := [.int y20, .int x1, .ref y9]) (st' := [.int y29, .int y20, .int x1, .ref y9]) (As := [.int y27, .int x1]) 32 d_Sc_tune_29 rfl lv_Sc_61 (m_Sc_shift h29) (by decide) (k_Sc_shift h29) rfl rfl rfl (Nat.le_of_ble_eq_true rfl) rfl ?_
      refine aw_iadd 33 d_Sc_tune_32 rfl ?_
      obtain ⟨μ33, h33, h⟩ := bnd h
      refine aw_iast 34 d_Sc_tune_33 rfl h33 ?_
      refine aw_aload_n 35 d_Sc_tune_34 rfl rfl ?_
      obtain ⟨y35, h35, h⟩ := bnd h
      refine aw_getR 38 d_Sc_tune_35 rfl fg_Sc_27 rfl h35 ?_
      refine aw_iload_n 39 d_Sc_tune_38 rfl rfl ?_
      refine aw_aload_n 40 d_Sc_tune_39 rfl rfl ?_
      obtain ⟨y40, h40, h⟩ := bnd h
      refine aw_getR 43 d_Sc_tune_40 rfl fg_Sc_30 rfl h40 ?_
      refine aw_iload_n 44 d_Sc_tune_43 rfl rfl ?_
      obtain ⟨y44, h44, h⟩ := bnd h
      refine aw_iald 45 d_Sc_tune_44 rfl h44 ?_
      obtain ⟨y45, h45, h⟩ := bnd h
      refine aw_invS (rest := [.int x1, .ref y35]) (st' := [.int y45, .int x1, .ref y35]) (As := [.int y44]) 48 d_Sc_tune_45 rfl ls_Sc_50 (m_Fr_mills h45) (by decide) rfl rfl (Nat.le_of_ble_eq_true rfl) rfl ?_
      obtain ⟨μ48, h48, h⟩ := bnd h
      refine aw_iast 49 d_Sc_tune_48 rfl h48 ?_
      refine aw_iinc (v := (x1 + (1 : Int32))) (loc' := [some (.ref a0), some (.int (x1 + (1 : Int32)))]) 52 d_Sc_tune_49 rfl (by decide) rfl rfl rfl ?_
      refine aw_goto 2 d_Sc_tune_52 (by decide) ?_
      exact (ih (x1 + (1 : Int32)) μ48 h)
theorem m_Sc_tune {l : Launch} {q : MM} {a0 : Nat} {μ : MM} (h : f_Sc_tune a0 μ = some q) : AMet l 4 Y_Sc_tune [.ref a0] μ none q := by
  refine AMet.of (loc := [some (.ref a0), none]) pn_Sc_tune (Nat.le_of_ble_eq_true rfl) rfl ?_
  unfold f_Sc_tune at h
  obtain ⟨_, hk, h⟩ := bnd h
  refine aw_iconst (v := (1 : Int32)) 1 d_Sc_tune_0 rfl (by decide) ?_
  refine aw_istore_n (loc' := [some (.ref a0), some (.int (1 : Int32))]) 2 d_Sc_tune_1 rfl (by decide) rfl ?_
  exact (l_Sc_tune_2 FU _ _ h)
theorem k_Sc_tune {q : MM} {a0 : Nat} {μ : MM} (h : f_Sc_tune a0 μ = some q) : μ.1[a0]? = some (0, 8) := by
  unfold f_Sc_tune at h
  obtain ⟨_, h1, _⟩ := bnd h
  exact kO_some h1
theorem j_Sc_put_100 {l : Launch} {μ0 : MM} {q : MM} {a0 : Nat} {μ : MM} (h : f_Sc_put_J100 a0 μ = some q) : AWm l Y_Sc_put 5 μ0 none q 100 [some (.ref a0), none, none, none, none, none] [] μ := by
  unfold f_Sc_put_J100 at h
  refine aw_aload_n 101 d_Sc_put_100 rfl rfl ?_
  obtain ⟨μ101, h101, h⟩ := bnd h
  refine aw_invV (rest := []) (st' := []) (As := []) 104 d_Sc_put_101 rfl lv_Sc_58 (m_Sc_tune h101) (by decide) (k_Sc_tune h101) rfl rfl rfl (Nat.le_of_ble_eq_true rfl) rfl ?_
  cases h
  exact aw_return d_Sc_put_104 rfl
theorem l_Sc_put_50 {l : Launch} {μ0 : MM} {q : MM} {a0 : Nat} {x1 : Int32} {x2 : Int32} : ∀ (n : Nat) (x5 : Int32) (μ : MM), f_Sc_put_L50 a0 x1 x2 n x5 μ = some q → AWm l Y_Sc_put 5 μ0 none q 50 [some (.ref a0), some (.int x1), some (.int x2), none, none, some (.int x5)] [] μ := by
  intro n
  induction n with
  | zero =>
    intro x5 μ h
    have h : (none : Option (MM)) = some q := h
    cases h
  | succ n ih =>
    intro x5 μ h
    rw [f_Sc_put_L50] at h
    refine aw_iload 52 d_Sc_put_50 rfl rfl ?_
    refine aw_iload_n 53 d_Sc_put_52 rfl rfl ?_
    refine aw_iconst (v := (1 : Int32)) 54 d_Sc_put_53 rfl (by decide) ?_
    refine aw_iadd 55 d_Sc_put_54 rfl ?_
    refine aw_icmp_gt 100 58 d_Sc_put_55 (by decide) rfl (fun c55 => ?_) (fun c55 => ?_)
    · have h := (if_pos c55).symm.trans h
      exact AW.wk [true, false, false, true, true, false] rfl (j_Sc_put_100 h)
    · have h := (if_neg c55).symm.trans h
      refine aw_iload 60 d_Sc_put_58 rfl rfl ?_
      refine aw_bipush (v := (24 : Int32)) 62 d_Sc_put_60 rfl (by decide) ?_
      refine aw_icmp_ge 100 65 d_Sc_put_62 (by decide) rfl (fun c62 => ?_) (fun c62 => ?_)
      · have h := (if_pos c62).symm.trans h
        exact AW.wk [true, false, false, true, true, false] rfl (j_Sc_put_100 h)
      · have h := (if_neg c62).symm.trans h
        refine aw_aload_n 66 d_Sc_put_65 rfl rfl ?_
        obtain ⟨y66, h66, h⟩ := bnd h
        refine aw_getR 69 d_Sc_put_66 rfl fg_Sc_24 rfl h66 ?_
        refine aw_iload 71 d_Sc_put_69 rfl rfl ?_
        obtain ⟨y71, h71, h⟩ := bnd h
        refine aw_iald 72 d_Sc_put_71 rfl h71 ?_
        refine aw_iload_n 73 d_Sc_put_72 rfl rfl ?_
        refine aw_icmp_ne 94 76 d_Sc_put_73 (by decide) rfl (fun c73 => ?_) (fun c73 => ?_)
        · have h := (if_neg c73).symm.trans h
          refine aw_iinc (v := (x5 + (1 : Int32))) (loc' := [some (.ref a0), some (.int x1), some (.int x2), none, none, some (.int (x5 + (1 : Int32)))]) 97 d_Sc_put_94 rfl (by decide) rfl rfl rfl ?_
          refine aw_goto 50 d_Sc_put_97 (by decide) ?_
          exact (ih (x5 + (1 : Int32)) μ h)
        · have h := (if_pos c73).symm.trans h
          refine aw_aload_n 77 d_Sc_put_76 rfl rfl ?_
          refine aw_iload_n 78 d_Sc_put_77 rfl rfl ?_
          refine aw_iload 80 d_Sc_put_78 rfl rfl ?_
          obtain ⟨y80, h80, h⟩ := bnd h
          refine aw_invV (rest := []) (st' := [.int y80]) (As := [.int x1, .int x5]) 83 d_Sc_put_80 rfl lv_Sc_55 (m_Sc_holds h80) (by decide) (k_Sc_holds h80) rfl rfl rfl (Nat.le_of_ble_eq_true rfl) rfl ?_
          refine aw_if_ne 94 86 d_Sc_put_83 (by decide) rfl (fun c83 => ?_) (fun c83 => ?_)
          · have h := (if_neg c83).symm.trans h
            refine aw_iinc (v := (x5 + (1 : Int32))) (loc' := [some (.ref a0), some (.int x1), some (.int x2), none, none, some (.int (x5 + (1 : Int32)))]) 97 d_Sc_put_94 rfl (by decide) rfl rfl rfl ?_
            refine aw_goto 50 d_Sc_put_97 (by decide) ?_
            exact (ih (x5 + (1 : Int32)) μ h)
          · have h := (if_pos c83).symm.trans h
            refine aw_aload_n 87 d_Sc_put_86 rfl rfl ?_
            obtain ⟨y87, h87, h⟩ := bnd h
            refine aw_getR 90 d_Sc_put_87 rfl fg_Sc_24 rfl h87 ?_
            refine aw_iload 92 d_Sc_put_90 rfl rfl ?_
            refine aw_iconst (v := (-1 : Int32)) 93 d_Sc_put_92 rfl (by decide) ?_
            obtain ⟨μ93, h93, h⟩ := bnd h
            refine aw_iast 94 d_Sc_put_93 rfl h93 ?_
            refine aw_iinc (v := (x5 + (1 : Int32))) (loc' := [some (.ref a0), some (.int x1), some (.int x2), none, none, some (.int (x5 + (1 : Int32)))]) 97 d_Sc_put_94 rfl (by decide) rfl rfl rfl ?_
            refine aw_goto 50 d_Sc_put_97 (by decide) ?_
            exact (ih (x5 + (1 : Int32)) μ93 h)
theorem m_Sc_put {l : Launch} {q : MM} {a0 : Nat} {x1 : Int32} {x2 : Int32} {x3 : Int32} {x4 : Int32} {μ : MM} (h : f_Sc_put a0 x1 x2 x3 x4 μ = some q) : AMet l 5 Y_Sc_put [.ref a0, .int x1, .int x2, .int x3, .int x4] μ none q := by
  refine AMet.of (loc := [some (.ref a0), some (.int x1), some (.int x2), some (.int x3), some (.int x4), none]) pn_Sc_put (Nat.le_of_ble_eq_true rfl) rfl ?_
  unfold f_Sc_put at h
  obtain ⟨_, hk, h⟩ := bnd h
  refine aw_iload_n 1 d_Sc_put_0 rfl rfl ?_
  refine aw_iload_n 2 d_Sc_put_1 rfl rfl ?_
  obtain ⟨y2, h2, h⟩ := bnd h
  refine aw_invS (rest := []) (st' := [.int y2]) (As := [.int x1, .int x2]) 5 d_Sc_put_2 rfl ls_Sc_43 (m_Sc_has h2) (by decide) rfl rfl (Nat.le_of_ble_eq_true rfl) rfl ?_
  refine aw_if_ne 9 8 d_Sc_put_5 (by decide) rfl (fun c5 => ?_) (fun c5 => ?_)
  · have h := (if_neg c5).symm.trans h
    refine aw_aload_n 10 d_Sc_put_9 rfl rfl ?_
    obtain ⟨y10, h10, h⟩ := bnd h
    refine aw_getR 13 d_Sc_put_10 rfl fg_Sc_9 rfl h10 ?_
    refine aw_iload_n 14 d_Sc_put_13 rfl rfl ?_
    refine aw_iload_n 15 d_Sc_put_14 rfl rfl ?_
    obtain ⟨y15, h15, h⟩ := bnd h
    refine aw_invS (rest := [.ref y10]) (st' := [.int y15, .ref y10]) (As := [.int x1, .int x2]) 18 d_Sc_put_15 rfl ls_Sc_46 (m_Sc_cell h15) (by decide) rfl rfl (Nat.le_of_ble_eq_true rfl) rfl ?_
    refine aw_iload_n 19 d_Sc_put_18 rfl rfl ?_
    obtain ⟨μ19, h19, h⟩ := bnd h
    refine aw_iast 20 d_Sc_put_19 rfl h19 ?_
    refine aw_aload_n 21 d_Sc_put_20 rfl rfl ?_
    obtain ⟨y21, h21, h⟩ := bnd h
    refine aw_getR 24 d_Sc_put_21 rfl fg_Sc_15 rfl h21 ?_
    refine aw_iload_n 25 d_Sc_put_24 rfl rfl ?_
    refine aw_iload_n 26 d_Sc_put_25 rfl rfl ?_
    obtain ⟨y26, h26, h⟩ := bnd h
    refine aw_invS (rest := [.ref y21]) (st' := [.int y26, .ref y21]) (As := [.int x1, .int x2]) 29 d_Sc_put_26 rfl ls_Sc_46 (m_Sc_cell h26) (by decide) rfl rfl (Nat.le_of_ble_eq_true rfl) rfl ?_
    refine aw_iload 31 d_Sc_put_29 rfl rfl ?_
    obtain ⟨μ31, h31, h⟩ := bnd h
    refine aw_iast 32 d_Sc_put_31 rfl h31 ?_
    refine aw_aload_n 33 d_Sc_put_32 rfl rfl ?_
    obtain ⟨y33, h33, h⟩ := bnd h
    refine aw_getR 36 d_Sc_put_33 rfl fg_Sc_18 rfl h33 ?_
    refine aw_iload_n 37 d_Sc_put_36 rfl rfl ?_
    refine aw_iload_n 38 d_Sc_put_37 rfl rfl ?_
    obtain ⟨y38, h38, h⟩ := bnd h
    refine aw_invS (rest := [.ref y33]) (st' := [.int y38, .ref y33]) (As := [.int x1, .int x2]) 41 d_Sc_put_38 rfl ls_Sc_46 (m_Sc_cell h38) (by decide) rfl rfl (Nat.le_of_ble_eq_true rfl) rfl ?_
    refine aw_iload 43 d_Sc_put_41 rfl rfl ?_
    obtain ⟨y43, h43, h⟩ := bnd h
    refine aw_invS (rest := [.int y38, .ref y33]) (st' := [.int y43, .int y38, .ref y33]) (As := [.int x4]) 46 d_Sc_put_43 rfl ls_Sc_50 (m_Fr_mills h43) (by decide) rfl rfl (Nat.le_of_ble_eq_true rfl) rfl ?_
    obtain ⟨μ46, h46, h⟩ := bnd h
    refine aw_iast 47 d_Sc_put_46 rfl h46 ?_
    refine aw_iload_n 48 d_Sc_put_47 rfl rfl ?_
    refine aw_istore (loc' := [some (.ref a0), some (.int x1), some (.int x2), some (.int x3), some (.int x4), some (.int x2)]) 50 d_Sc_put_48 rfl (by decide) rfl ?_
    exact AW.wk [true, true, true, false, false, true] rfl (l_Sc_put_50 FU _ _ h)
  · have h := (if_pos c5).symm.trans h
    cases h
    exact aw_return d_Sc_put_8 rfl
theorem k_Sc_put {q : MM} {a0 : Nat} {x1 : Int32} {x2 : Int32} {x3 : Int32} {x4 : Int32} {μ : MM} (h : f_Sc_put a0 x1 x2 x3 x4 μ = some q) : μ.1[a0]? = some (0, 8) := by
  unfold f_Sc_put at h
  obtain ⟨_, h1, _⟩ := bnd h
  exact kO_some h1
theorem m_X_changed {l : Launch} {q : Int32 × MM} {a0 : Nat} {μ : MM} (h : f_X_changed a0 μ = some q) : AMet l 1 Y_X_changed [.ref a0] μ (some (.int q.1)) q.2 := by
  refine AMet.of (loc := [some (.ref a0)]) pn_X_changed (Nat.le_of_ble_eq_true rfl) rfl ?_
  unfold f_X_changed at h
  obtain ⟨_, hk, h⟩ := bnd h
  refine aw_aload_n 1 d_X_changed_0 rfl rfl ?_
  refine aw_dup 2 d_X_changed_1 rfl rfl ?_
  obtain ⟨y2, h2, h⟩ := bnd h
  refine aw_getI 5 d_X_changed_2 rfl fg_X_274 (Or.inl rfl) h2 ?_
  refine aw_iconst (v := (1 : Int32)) 6 d_X_changed_5 rfl (by decide) ?_
  refine aw_iadd 7 d_X_changed_6 rfl ?_
  obtain ⟨μ7, h7, h⟩ := bnd h
  refine aw_putI 10 false d_X_changed_7 rfl fp_X_274 (fun z => nomatch z) rfl h7 ?_
  refine aw_iconst (v := (1 : Int32)) 11 d_X_changed_10 rfl (by decide) ?_
  cases h
  exact aw_ireturn d_X_changed_11 rfl nar1
theorem k_X_changed {q : Int32 × MM} {a0 : Nat} {μ : MM} (h : f_X_changed a0 μ = some q) : μ.1[a0]? = some (0, 0) := by
  unfold f_X_changed at h
  obtain ⟨_, h1, _⟩ := bnd h
  exact kO_some h1
theorem m_X_note {l : Launch} {q : Int32 × MM} {a0 : Nat} {x1 : Int32} {x2 : Int32} {x3 : Int32} {x4 : Int32} {x5 : Int32} {μ : MM} (h : f_X_note a0 x1 x2 x3 x4 x5 μ = some q) : AMet l 6 Y_X_note [.ref a0, .int x1, .int x2, .int x3, .int x4, .int x5] μ (some (.int q.1)) q.2 := by
  refine AMet.of (loc := [some (.ref a0), some (.int x1), some (.int x2), some (.int x3), some (.int x4), some (.int x5), none]) pn_X_note (Nat.le_of_ble_eq_true rfl) rfl ?_
  unfold f_X_note at h
  obtain ⟨_, hk, h⟩ := bnd h
  refine aw_iload 2 d_X_note_0 rfl rfl ?_
  refine aw_iload 4 d_X_note_2 rfl rfl ?_
  obtain ⟨y4, h4, h⟩ := bnd h
  refine aw_invS (rest := []) (st' := [.int y4]) (As := [.int x4, .int x5]) 7 d_X_note_4 rfl ls_X_73 (m_Fr_of h4) (by decide) rfl rfl (Nat.le_of_ble_eq_true rfl) rfl ?_
  refine aw_istore (loc' := [some (.ref a0), some (.int x1), some (.int x2), some (.int x3), some (.int x4), some (.int x5), some (.int y4)]) 9 d_X_note_7 rfl (by decide) rfl ?_
  refine aw_iload_n 10 d_X_note_9 rfl rfl ?_
  refine aw_iload_n 11 d_X_note_10 rfl rfl ?_
  obtain ⟨y11, h11, h⟩ := bnd h
  refine aw_invS (rest := []) (st' := [.int y11]) (As := [.int x1, .int x2]) 14 d_X_note_11 rfl ls_X_79 (m_Sc_has h11) (by decide) rfl rfl (Nat.le_of_ble_eq_true rfl) rfl ?_
  refine aw_if_eq 34 17 d_X_note_14 (by decide) rfl (fun c14 => ?_) (fun c14 => ?_)
  · have h := (if_pos c14).symm.trans h
    refine aw_iconst (v := (0 : Int32)) 35 d_X_note_34 rfl (by decide) ?_
    cases h
    exact aw_ireturn d_X_note_35 rfl nar0
  · have h := (if_neg c14).symm.trans h
    refine aw_iload_n 18 d_X_note_17 rfl rfl ?_
    refine aw_if_lt 34 21 d_X_note_18 (by decide) rfl (fun c18 => ?_) (fun c18 => ?_)
    · have h := (if_pos c18).symm.trans h
      refine aw_iconst (v := (0 : Int32)) 35 d_X_note_34 rfl (by decide) ?_
      cases h
      exact aw_ireturn d_X_note_35 rfl nar0
    · have h := (if_neg c18).symm.trans h
      refine aw_iload_n 22 d_X_note_21 rfl rfl ?_
      refine aw_bipush (v := (60 : Int32)) 24 d_X_note_22 rfl (by decide) ?_
      refine aw_icmp_gt 34 27 d_X_note_24 (by decide) rfl (fun c24 => ?_) (fun c24 => ?_)
      · have h := (if_pos c24).symm.trans h
        refine aw_iconst (v := (0 : Int32)) 35 d_X_note_34 rfl (by decide) ?_
        cases h
        exact aw_ireturn d_X_note_35 rfl nar0
      · have h := (if_neg c24).symm.trans h
        refine aw_iload 29 d_X_note_27 rfl rfl ?_
        refine aw_ldc (v := (-2147483648 : Int32)) 31 d_X_note_29 rfl c_X_83 ?_
        refine aw_icmp_ne 36 34 d_X_note_31 (by decide) rfl (fun c31 => ?_) (fun c31 => ?_)
        · have h := (if_neg c31).symm.trans h
          refine aw_aload_n 37 d_X_note_36 rfl rfl ?_
          obtain ⟨y37, h37, h⟩ := bnd h
          refine aw_getR 40 d_X_note_37 rfl fg_X_10 rfl h37 ?_
          refine aw_iload_n 41 d_X_note_40 rfl rfl ?_
          refine aw_iload_n 42 d_X_note_41 rfl rfl ?_
          refine aw_iload_n 43 d_X_note_42 rfl rfl ?_
          refine aw_iload 45 d_X_note_43 rfl rfl ?_
          obtain ⟨μ45, h45, h⟩ := bnd h
          refine aw_invV (rest := []) (st' := []) (As := [.int x1, .int x2, .int x3, .int y4]) 48 d_X_note_45 rfl lv_X_84 (m_Sc_put h45) (by decide) (k_Sc_put h45) rfl rfl rfl (Nat.le_of_ble_eq_true rfl) rfl ?_
          refine aw_aload_n 49 d_X_note_48 rfl rfl ?_
          obtain ⟨q49, h49, h⟩ := bnd h
          refine aw_invV (rest := []) (st' := [.int q49.1]) (As := []) 52 d_X_note_49 rfl lv_X_88 (m_X_changed h49) (by decide) (k_X_changed h49) rfl rfl rfl (Nat.le_of_ble_eq_true rfl) rfl ?_
          obtain ⟨y52, h52, h⟩ := bnd h
          obtain ⟨e52, n52⟩ := rz_some h52
          rw [e52] at h
          cases h
          exact aw_ireturn d_X_note_52 rfl n52
        · have h := (if_pos c31).symm.trans h
          refine aw_iconst (v := (0 : Int32)) 35 d_X_note_34 rfl (by decide) ?_
          cases h
          exact aw_ireturn d_X_note_35 rfl nar0
theorem k_X_note {q : Int32 × MM} {a0 : Nat} {x1 : Int32} {x2 : Int32} {x3 : Int32} {x4 : Int32} {x5 : Int32} {μ : MM} (h : f_X_note a0 x1 x2 x3 x4 x5 μ = some q) : μ.1[a0]? = some (0, 0) := by
  unfold f_X_note at h
  obtain ⟨_, h1, _⟩ := bnd h
  exact kO_some h1
theorem m_M_lies {l : Launch} {q : Int32} {x0 : Int64} {x2 : Int64} {x4 : Int64} {μ : MM} (h : f_M_lies x0 x2 x4 = some q) : AMet l 1 Y_M_lies [.long x0, .long x2, .long x4] μ (some (.int q)) μ := by
  refine AMet.of (loc := [some (.long x0), none, some (.long x2), none, some (.long x4), none]) pn_M_lies (Nat.le_of_ble_eq_true rfl) rfl ?_
  unfold f_M_lies at h
  refine aw_lload_n 1 d_M_lies_0 rfl rfl ?_
  refine aw_lload_n 2 d_M_lies_1 rfl rfl ?_
  refine aw_lcmp 3 d_M_lies_2 rfl ?_
  refine aw_if_lt 17 6 d_M_lies_3 (by decide) rfl (fun c3 => ?_) (fun c3 => ?_)
  · have h := (if_pos c3).symm.trans h
    refine aw_iconst (v := (0 : Int32)) 18 d_M_lies_17 rfl (by decide) ?_
    cases h
    exact aw_ireturn d_M_lies_18 rfl nar0
  · have h := (if_neg c3).symm.trans h
    refine aw_lload_n 7 d_M_lies_6 rfl rfl ?_
    refine aw_lload 9 d_M_lies_7 rfl rfl ?_
    refine aw_lcmp 10 d_M_lies_9 rfl ?_
    refine aw_if_gt 17 13 d_M_lies_10 (by decide) rfl (fun c10 => ?_) (fun c10 => ?_)
    · have h := (if_pos c10).symm.trans h
      refine aw_iconst (v := (0 : Int32)) 18 d_M_lies_17 rfl (by decide) ?_
      cases h
      exact aw_ireturn d_M_lies_18 rfl nar0
    · have h := (if_neg c10).symm.trans h
      refine aw_iconst (v := (1 : Int32)) 14 d_M_lies_13 rfl (by decide) ?_
      refine aw_goto 18 d_M_lies_14 (by decide) ?_
      cases h
      exact aw_ireturn d_M_lies_18 rfl nar1
theorem m_M_isVoice {l : Launch} {q : Int32} {x0 : Int32} {μ : MM} (h : f_M_isVoice x0 = some q) : AMet l 2 Y_M_isVoice [.int x0] μ (some (.int q)) μ := by
  refine AMet.of (loc := [some (.int x0)]) pn_M_isVoice (Nat.le_of_ble_eq_true rfl) rfl ?_
  unfold f_M_isVoice at h
  refine aw_iload_n 1 d_M_isVoice_0 rfl rfl ?_
  refine aw_i2l 2 d_M_isVoice_1 rfl ?_
  refine aw_lconst (v := (0 : Int64)) 3 d_M_isVoice_2 rfl (by decide) ?_
  refine aw_ldc2 (v := (5 : Int64)) 6 d_M_isVoice_3 rfl c_M_143 ?_
  obtain ⟨y6, h6, h⟩ := bnd h
  refine aw_invS (rest := []) (st' := [.int y6]) (As := [.long x0.toInt64, .long (0 : Int64), .long (5 : Int64)]) 9 d_M_isVoice_6 rfl ls_M_145 (m_M_lies h6) (by decide) rfl rfl (Nat.le_of_ble_eq_true rfl) rfl ?_
  obtain ⟨y9, h9, h⟩ := bnd h
  obtain ⟨e9, n9⟩ := rz_some h9
  rw [e9] at h
  cases h
  exact aw_ireturn d_M_isVoice_9 rfl n9
theorem m_M_isBeat {l : Launch} {q : Int32} {x0 : Int32} {μ : MM} (h : f_M_isBeat x0 = some q) : AMet l 2 Y_M_isBeat [.int x0] μ (some (.int q)) μ := by
  refine AMet.of (loc := [some (.int x0)]) pn_M_isBeat (Nat.le_of_ble_eq_true rfl) rfl ?_
  unfold f_M_isBeat at h
  refine aw_iload_n 1 d_M_isBeat_0 rfl rfl ?_
  refine aw_i2l 2 d_M_isBeat_1 rfl ?_
  refine aw_lconst (v := (0 : Int64)) 3 d_M_isBeat_2 rfl (by decide) ?_
  refine aw_ldc2 (v := (23 : Int64)) 6 d_M_isBeat_3 rfl c_M_149 ?_
  obtain ⟨y6, h6, h⟩ := bnd h
  refine aw_invS (rest := []) (st' := [.int y6]) (As := [.long x0.toInt64, .long (0 : Int64), .long (23 : Int64)]) 9 d_M_isBeat_6 rfl ls_M_145 (m_M_lies h6) (by decide) rfl rfl (Nat.le_of_ble_eq_true rfl) rfl ?_
  obtain ⟨y9, h9, h⟩ := bnd h
  obtain ⟨e9, n9⟩ := rz_some h9
  rw [e9] at h
  cases h
  exact aw_ireturn d_M_isBeat_9 rfl n9
theorem l_M_bare_28 {l : Launch} {μ0 : MM} {q : Int32} {μ : MM} : ∀ (n : Nat) (x1 : Int32), f_M_bare_L28 n x1 = some q → AWm l Y_M_bare 1 μ0 (some (.int q)) μ 28 [none, some (.int x1)] [] μ := by
  intro n
  induction n with
  | zero =>
    intro x1 h
    have h : (none : Option (Int32)) = some q := h
    cases h
  | succ n ih =>
    intro x1 h
    rw [f_M_bare_L28] at h
    refine aw_iload_n 29 d_M_bare_28 rfl rfl ?_
    refine aw_iconst (v := (5 : Int32)) 30 d_M_bare_29 rfl (by decide) ?_
    refine aw_irem 31 d_M_bare_30 rfl (by decide) ?_
    refine aw_if_ne 41 34 d_M_bare_31 (by decide) rfl (fun c31 => ?_) (fun c31 => ?_)
    · have h := (if_neg c31).symm.trans h
      refine aw_iload_n 42 d_M_bare_41 rfl rfl ?_
      cases h
      exact aw_ireturn d_M_bare_42 rfl rfl
    · have h := (if_pos c31).symm.trans h
      refine aw_iload_n 35 d_M_bare_34 rfl rfl ?_
      refine aw_iconst (v := (5 : Int32)) 36 d_M_bare_35 rfl (by decide) ?_
      refine aw_idiv 37 d_M_bare_36 rfl (by decide) ?_
      refine aw_istore_n (loc' := [none, some (.int (x1 / (5 : Int32)))]) 38 d_M_bare_37 rfl (by decide) rfl ?_
      refine aw_goto 28 d_M_bare_38 (by decide) ?_
      exact (ih (x1 / (5 : Int32)) h)
theorem l_M_bare_15 {l : Launch} {μ0 : MM} {q : Int32} {μ : MM} : ∀ (n : Nat) (x1 : Int32), f_M_bare_L15 n x1 = some q → AWm l Y_M_bare 1 μ0 (some (.int q)) μ 15 [none, some (.int x1)] [] μ := by
  intro n
  induction n with
  | zero =>
    intro x1 h
    have h : (none : Option (Int32)) = some q := h
    cases h
  | succ n ih =>
    intro x1 h
    rw [f_M_bare_L15] at h
    refine aw_iload_n 16 d_M_bare_15 rfl rfl ?_
    refine aw_iconst (v := (3 : Int32)) 17 d_M_bare_16 rfl (by decide) ?_
    refine aw_irem 18 d_M_bare_17 rfl (by decide) ?_
    refine aw_if_ne 28 21 d_M_bare_18 (by decide) rfl (fun c18 => ?_) (fun c18 => ?_)
    · have h := (if_neg c18).symm.trans h
      exact (l_M_bare_28 FU _ h)
    · have h := (if_pos c18).symm.trans h
      refine aw_iload_n 22 d_M_bare_21 rfl rfl ?_
      refine aw_iconst (v := (3 : Int32)) 23 d_M_bare_22 rfl (by decide) ?_
      refine aw_idiv 24 d_M_bare_23 rfl (by decide) ?_
      refine aw_istore_n (loc' := [none, some (.int (x1 / (3 : Int32)))]) 25 d_M_bare_24 rfl (by decide) rfl ?_
      refine aw_goto 15 d_M_bare_25 (by decide) ?_
      exact (ih (x1 / (3 : Int32)) h)
theorem l_M_bare_2 {l : Launch} {μ0 : MM} {q : Int32} {μ : MM} : ∀ (n : Nat) (x1 : Int32), f_M_bare_L2 n x1 = some q → AWm l Y_M_bare 1 μ0 (some (.int q)) μ 2 [none, some (.int x1)] [] μ := by
  intro n
  induction n with
  | zero =>
    intro x1 h
    have h : (none : Option (Int32)) = some q := h
    cases h
  | succ n ih =>
    intro x1 h
    rw [f_M_bare_L2] at h
    refine aw_iload_n 3 d_M_bare_2 rfl rfl ?_
    refine aw_iconst (v := (2 : Int32)) 4 d_M_bare_3 rfl (by decide) ?_
    refine aw_irem 5 d_M_bare_4 rfl (by decide) ?_
    refine aw_if_ne 15 8 d_M_bare_5 (by decide) rfl (fun c5 => ?_) (fun c5 => ?_)
    · have h := (if_neg c5).symm.trans h
      exact (l_M_bare_15 FU _ h)
    · have h := (if_pos c5).symm.trans h
      refine aw_iload_n 9 d_M_bare_8 rfl rfl ?_
      refine aw_iconst (v := (2 : Int32)) 10 d_M_bare_9 rfl (by decide) ?_
      refine aw_idiv 11 d_M_bare_10 rfl (by decide) ?_
      refine aw_istore_n (loc' := [none, some (.int (x1 / (2 : Int32)))]) 12 d_M_bare_11 rfl (by decide) rfl ?_
      refine aw_goto 2 d_M_bare_12 (by decide) ?_
      exact (ih (x1 / (2 : Int32)) h)
theorem m_M_bare {l : Launch} {q : Int32} {x0 : Int32} {μ : MM} (h : f_M_bare x0 = some q) : AMet l 1 Y_M_bare [.int x0] μ (some (.int q)) μ := by
  refine AMet.of (loc := [some (.int x0), none]) pn_M_bare (Nat.le_of_ble_eq_true rfl) rfl ?_
  unfold f_M_bare at h
  refine aw_iload_n 1 d_M_bare_0 rfl rfl ?_
  refine aw_istore_n (loc' := [some (.int x0), some (.int x0)]) 2 d_M_bare_1 rfl (by decide) rfl ?_
  exact AW.wk [false, true] rfl (l_M_bare_2 FU _ h)
theorem l_M_powerOf_4 {l : Launch} {μ0 : MM} {q : Int32} {x1 : Int32} {μ : MM} : ∀ (n : Nat) (x2 : Int32) (x3 : Int32), f_M_powerOf_L4 x1 n x2 x3 = some q → AWm l Y_M_powerOf 1 μ0 (some (.int q)) μ 4 [none, some (.int x1), some (.int x2), some (.int x3)] [] μ := by
  intro n
  induction n with
  | zero =>
    intro x2 x3 h
    have h : (none : Option (Int32)) = some q := h
    cases h
  | succ n ih =>
    intro x2 x3 h
    rw [f_M_powerOf_L4] at h
    refine aw_iload_n 5 d_M_powerOf_4 rfl rfl ?_
    refine aw_iload_n 6 d_M_powerOf_5 rfl rfl ?_
    obtain ⟨u6, h6, h⟩ := bnd h
    refine aw_irem 7 d_M_powerOf_6 rfl (gd_some h6) ?_
    refine aw_if_ne 20 10 d_M_powerOf_7 (by decide) rfl (fun c7 => ?_) (fun c7 => ?_)
    · have h := (if_neg c7).symm.trans h
      refine aw_iload_n 21 d_M_powerOf_20 rfl rfl ?_
      cases h
      exact aw_ireturn d_M_powerOf_21 rfl rfl
    · have h := (if_pos c7).symm.trans h
      refine aw_iload_n 11 d_M_powerOf_10 rfl rfl ?_
      refine aw_iload_n 12 d_M_powerOf_11 rfl rfl ?_
      obtain ⟨u12, h12, h⟩ := bnd h
      refine aw_idiv 13 d_M_powerOf_12 rfl (gd_some h12) ?_
      refine aw_istore_n (loc' := [none, some (.int x1), some (.int x2), some (.int (x3 / x1))]) 14 d_M_powerOf_13 rfl (by decide) rfl ?_
      refine aw_iinc (v := (x2 + (1 : Int32))) (loc' := [none, some (.int x1), some (.int (x2 + (1 : Int32))), some (.int (x3 / x1))]) 17 d_M_powerOf_14 rfl (by decide) rfl rfl rfl ?_
      refine aw_goto 4 d_M_powerOf_17 (by decide) ?_
      exact (ih (x2 + (1 : Int32)) (x3 / x1) h)
theorem m_M_powerOf {l : Launch} {q : Int32} {x0 : Int32} {x1 : Int32} {μ : MM} (h : f_M_powerOf x0 x1 = some q) : AMet l 1 Y_M_powerOf [.int x0, .int x1] μ (some (.int q)) μ := by
  refine AMet.of (loc := [some (.int x0), some (.int x1), none, none]) pn_M_powerOf (Nat.le_of_ble_eq_true rfl) rfl ?_
  unfold f_M_powerOf at h
  refine aw_iconst (v := (0 : Int32)) 1 d_M_powerOf_0 rfl (by decide) ?_
  refine aw_istore_n (loc' := [some (.int x0), some (.int x1), some (.int (0 : Int32)), none]) 2 d_M_powerOf_1 rfl (by decide) rfl ?_
  refine aw_iload_n 3 d_M_powerOf_2 rfl rfl ?_
  refine aw_istore_n (loc' := [some (.int x0), some (.int x1), some (.int (0 : Int32)), some (.int x0)]) 4 d_M_powerOf_3 rfl (by decide) rfl ?_
  exact AW.wk [false, true, true, true] rfl (l_M_powerOf_4 FU _ _ h)
theorem m_M_mills {l : Launch} {q : Int32} {x0 : Int32} {x1 : Int32} {x2 : Int32} {μ : MM} (h : f_M_mills x0 x1 x2 = some q) : AMet l 1 Y_M_mills [.int x0, .int x1, .int x2] μ (some (.int q)) μ := by
  refine AMet.of (loc := [some (.int x0), some (.int x1), some (.int x2)]) pn_M_mills (Nat.le_of_ble_eq_true rfl) rfl ?_
  unfold f_M_mills at h
  refine aw_ldc (v := (1200000 : Int32)) 2 d_M_mills_0 rfl c_M_166 ?_
  refine aw_iload_n 3 d_M_mills_2 rfl rfl ?_
  refine aw_imul 4 d_M_mills_3 rfl ?_
  refine aw_ldc (v := (1901955 : Int32)) 6 d_M_mills_4 rfl c_M_167 ?_
  refine aw_iload_n 7 d_M_mills_6 rfl rfl ?_
  refine aw_imul 8 d_M_mills_7 rfl ?_
  refine aw_iadd 9 d_M_mills_8 rfl ?_
  refine aw_ldc (v := (2786314 : Int32)) 11 d_M_mills_9 rfl c_M_168 ?_
  refine aw_iload_n 12 d_M_mills_11 rfl rfl ?_
  refine aw_imul 13 d_M_mills_12 rfl ?_
  refine aw_iadd 14 d_M_mills_13 rfl ?_
  cases h
  exact aw_ireturn d_M_mills_14 rfl rfl
theorem m_M_fraction {l : Launch} {q : Int32} {x0 : Int32} {x1 : Int32} {μ : MM} (h : f_M_fraction x0 x1 = some q) : AMet l 2 Y_M_fraction [.int x0, .int x1] μ (some (.int q)) μ := by
  refine AMet.of (loc := [some (.int x0), some (.int x1)]) pn_M_fraction (Nat.le_of_ble_eq_true rfl) rfl ?_
  unfold f_M_fraction at h
  refine aw_iload_n 1 d_M_fraction_0 rfl rfl ?_
  refine aw_iconst (v := (2 : Int32)) 2 d_M_fraction_1 rfl (by decide) ?_
  obtain ⟨y2, h2, h⟩ := bnd h
  refine aw_invS (rest := []) (st' := [.int y2]) (As := [.int x0, .int (2 : Int32)]) 5 d_M_fraction_2 rfl ls_M_169 (m_M_powerOf h2) (by decide) rfl rfl (Nat.le_of_ble_eq_true rfl) rfl ?_
  refine aw_iload_n 6 d_M_fraction_5 rfl rfl ?_
  refine aw_iconst (v := (2 : Int32)) 7 d_M_fraction_6 rfl (by decide) ?_
  obtain ⟨y7, h7, h⟩ := bnd h
  refine aw_invS (rest := [.int y2]) (st' := [.int y7, .int y2]) (As := [.int x1, .int (2 : Int32)]) 10 d_M_fraction_7 rfl ls_M_169 (m_M_powerOf h7) (by decide) rfl rfl (Nat.le_of_ble_eq_true rfl) rfl ?_
  refine aw_isub 11 d_M_fraction_10 rfl ?_
  refine aw_iload_n 12 d_M_fraction_11 rfl rfl ?_
  refine aw_iconst (v := (3 : Int32)) 13 d_M_fraction_12 rfl (by decide) ?_
  obtain ⟨y13, h13, h⟩ := bnd h
  refine aw_invS (rest := [.int (y2 - y7)]) (st' := [.int y13, .int (y2 - y7)]) (As := [.int x0, .int (3 : Int32)]) 16 d_M_fraction_13 rfl ls_M_169 (m_M_powerOf h13) (by decide) rfl rfl (Nat.le_of_ble_eq_true rfl) rfl ?_
  refine aw_iload_n 17 d_M_fraction_16 rfl rfl ?_
  refine aw_iconst (v := (3 : Int32)) 18 d_M_fraction_17 rfl (by decide) ?_
  obtain ⟨y18, h18, h⟩ := bnd h
  refine aw_invS (rest := [.int y13, .int (y2 - y7)]) (st' := [.int y18, .int y13, .int (y2 - y7)]) (As := [.int x1, .int (3 : Int32)]) 21 d_M_fraction_18 rfl ls_M_169 (m_M_powerOf h18) (by decide) rfl rfl (Nat.le_of_ble_eq_true rfl) rfl ?_
  refine aw_isub 22 d_M_fraction_21 rfl ?_
  refine aw_iload_n 23 d_M_fraction_22 rfl rfl ?_
  refine aw_iconst (v := (5 : Int32)) 24 d_M_fraction_23 rfl (by decide) ?_
  obtain ⟨y24, h24, h⟩ := bnd h
  refine aw_invS (rest := [.int (y13 - y18), .int (y2 - y7)]) (st' := [.int y24, .int (y13 - y18), .int (y2 - y7)]) (As := [.int x0, .int (5 : Int32)]) 27 d_M_fraction_24 rfl ls_M_169 (m_M_powerOf h24) (by decide) rfl rfl (Nat.le_of_ble_eq_true rfl) rfl ?_
  refine aw_iload_n 28 d_M_fraction_27 rfl rfl ?_
  refine aw_iconst (v := (5 : Int32)) 29 d_M_fraction_28 rfl (by decide) ?_
  obtain ⟨y29, h29, h⟩ := bnd h
  refine aw_invS (rest := [.int y24, .int (y13 - y18), .int (y2 - y7)]) (st' := [.int y29, .int y24, .int (y13 - y18), .int (y2 - y7)]) (As := [.int x1, .int (5 : Int32)]) 32 d_M_fraction_29 rfl ls_M_169 (m_M_powerOf h29) (by decide) rfl rfl (Nat.le_of_ble_eq_true rfl) rfl ?_
  refine aw_isub 33 d_M_fraction_32 rfl ?_
  obtain ⟨y33, h33, h⟩ := bnd h
  refine aw_invS (rest := []) (st' := [.int y33]) (As := [.int (y2 - y7), .int (y13 - y18), .int (y24 - y29)]) 36 d_M_fraction_33 rfl ls_M_172 (m_M_mills h33) (by decide) rfl rfl (Nat.le_of_ble_eq_true rfl) rfl ?_
  cases h
  exact aw_ireturn d_M_fraction_36 rfl rfl
theorem m_M_isFraction {l : Launch} {q : Int32} {x0 : Int32} {x1 : Int32} {μ : MM} (h : f_M_isFraction x0 x1 = some q) : AMet l 3 Y_M_isFraction [.int x0, .int x1] μ (some (.int q)) μ := by
  refine AMet.of (loc := [some (.int x0), some (.int x1)]) pn_M_isFraction (Nat.le_of_ble_eq_true rfl) rfl ?_
  unfold f_M_isFraction at h
  refine aw_iload_n 1 d_M_isFraction_0 rfl rfl ?_
  refine aw_i2l 2 d_M_isFraction_1 rfl ?_
  refine aw_lconst (v := (1 : Int64)) 3 d_M_isFraction_2 rfl (by decide) ?_
  refine aw_ldc2 (v := (2000 : Int64)) 6 d_M_isFraction_3 rfl c_M_176 ?_
  obtain ⟨y6, h6, h⟩ := bnd h
  refine aw_invS (rest := []) (st' := [.int y6]) (As := [.long x0.toInt64, .long (1 : Int64), .long (2000 : Int64)]) 9 d_M_isFraction_6 rfl ls_M_145 (m_M_lies h6) (by decide) rfl rfl (Nat.le_of_ble_eq_true rfl) rfl ?_
  refine aw_if_eq 62 12 d_M_isFraction_9 (by decide) rfl (fun c9 => ?_) (fun c9 => ?_)
  · have h := (if_pos c9).symm.trans h
    refine aw_iconst (v := (0 : Int32)) 63 d_M_isFraction_62 rfl (by decide) ?_
    cases h
    exact aw_ireturn d_M_isFraction_63 rfl nar0
  · have h := (if_neg c9).symm.trans h
    refine aw_iload_n 13 d_M_isFraction_12 rfl rfl ?_
    refine aw_i2l 14 d_M_isFraction_13 rfl ?_
    refine aw_lconst (v := (1 : Int64)) 15 d_M_isFraction_14 rfl (by decide) ?_
    refine aw_ldc2 (v := (2000 : Int64)) 18 d_M_isFraction_15 rfl c_M_176 ?_
    obtain ⟨y18, h18, h⟩ := bnd h
    refine aw_invS (rest := []) (st' := [.int y18]) (As := [.long x1.toInt64, .long (1 : Int64), .long (2000 : Int64)]) 21 d_M_isFraction_18 rfl ls_M_145 (m_M_lies h18) (by decide) rfl rfl (Nat.le_of_ble_eq_true rfl) rfl ?_
    refine aw_if_eq 62 24 d_M_isFraction_21 (by decide) rfl (fun c21 => ?_) (fun c21 => ?_)
    · have h := (if_pos c21).symm.trans h
      refine aw_iconst (v := (0 : Int32)) 63 d_M_isFraction_62 rfl (by decide) ?_
      cases h
      exact aw_ireturn d_M_isFraction_63 rfl nar0
    · have h := (if_neg c21).symm.trans h
      refine aw_iload_n 25 d_M_isFraction_24 rfl rfl ?_
      obtain ⟨y25, h25, h⟩ := bnd h
      refine aw_invS (rest := []) (st' := [.int y25]) (As := [.int x0]) 28 d_M_isFraction_25 rfl ls_M_178 (m_M_bare h25) (by decide) rfl rfl (Nat.le_of_ble_eq_true rfl) rfl ?_
      refine aw_iconst (v := (1 : Int32)) 29 d_M_isFraction_28 rfl (by decide) ?_
      refine aw_icmp_ne 62 32 d_M_isFraction_29 (by decide) rfl (fun c29 => ?_) (fun c29 => ?_)
      · have h := (if_neg c29).symm.trans h
        refine aw_iconst (v := (0 : Int32)) 63 d_M_isFraction_62 rfl (by decide) ?_
        cases h
        exact aw_ireturn d_M_isFraction_63 rfl nar0
      · have h := (if_pos c29).symm.trans h
        refine aw_iload_n 33 d_M_isFraction_32 rfl rfl ?_
        obtain ⟨y33, h33, h⟩ := bnd h
        refine aw_invS (rest := []) (st' := [.int y33]) (As := [.int x1]) 36 d_M_isFraction_33 rfl ls_M_178 (m_M_bare h33) (by decide) rfl rfl (Nat.le_of_ble_eq_true rfl) rfl ?_
        refine aw_iconst (v := (1 : Int32)) 37 d_M_isFraction_36 rfl (by decide) ?_
        refine aw_icmp_ne 62 40 d_M_isFraction_37 (by decide) rfl (fun c37 => ?_) (fun c37 => ?_)
        · have h := (if_neg c37).symm.trans h
          refine aw_iconst (v := (0 : Int32)) 63 d_M_isFraction_62 rfl (by decide) ?_
          cases h
          exact aw_ireturn d_M_isFraction_63 rfl nar0
        · have h := (if_pos c37).symm.trans h
          refine aw_iload_n 41 d_M_isFraction_40 rfl rfl ?_
          refine aw_iload_n 42 d_M_isFraction_41 rfl rfl ?_
          obtain ⟨y42, h42, h⟩ := bnd h
          refine aw_invS (rest := []) (st' := [.int y42]) (As := [.int x0, .int x1]) 45 d_M_isFraction_42 rfl ls_M_182 (m_M_fraction h42) (by decide) rfl rfl (Nat.le_of_ble_eq_true rfl) rfl ?_
          refine aw_i2l 46 d_M_isFraction_45 rfl ?_
          refine aw_ldc2 (v := (-3000000 : Int64)) 49 d_M_isFraction_46 rfl c_M_185 ?_
          refine aw_ldc2 (v := (3000000 : Int64)) 52 d_M_isFraction_49 rfl c_M_187 ?_
          obtain ⟨y52, h52, h⟩ := bnd h
          refine aw_invS (rest := []) (st' := [.int y52]) (As := [.long y42.toInt64, .long (-3000000 : Int64), .long (3000000 : Int64)]) 55 d_M_isFraction_52 rfl ls_M_145 (m_M_lies h52) (by decide) rfl rfl (Nat.le_of_ble_eq_true rfl) rfl ?_
          refine aw_if_eq 62 58 d_M_isFraction_55 (by decide) rfl (fun c55 => ?_) (fun c55 => ?_)
          · have h := (if_pos c55).symm.trans h
            refine aw_iconst (v := (0 : Int32)) 63 d_M_isFraction_62 rfl (by decide) ?_
            cases h
            exact aw_ireturn d_M_isFraction_63 rfl nar0
          · have h := (if_neg c55).symm.trans h
            refine aw_iconst (v := (1 : Int32)) 59 d_M_isFraction_58 rfl (by decide) ?_
            refine aw_goto 63 d_M_isFraction_59 (by decide) ?_
            cases h
            exact aw_ireturn d_M_isFraction_63 rfl nar1
theorem m_M_cellOf {l : Launch} {q : Int32} {x0 : Int32} {x1 : Int32} {μ : MM} (h : f_M_cellOf x0 x1 = some q) : AMet l 1 Y_M_cellOf [.int x0, .int x1] μ (some (.int q)) μ := by
  refine AMet.of (loc := [some (.int x0), some (.int x1)]) pn_M_cellOf (Nat.le_of_ble_eq_true rfl) rfl ?_
  unfold f_M_cellOf at h
  refine aw_bipush (v := (24 : Int32)) 2 d_M_cellOf_0 rfl (by decide) ?_
  refine aw_iload_n 3 d_M_cellOf_2 rfl rfl ?_
  refine aw_imul 4 d_M_cellOf_3 rfl ?_
  refine aw_iload_n 5 d_M_cellOf_4 rfl rfl ?_
  refine aw_iadd 6 d_M_cellOf_5 rfl ?_
  cases h
  exact aw_ireturn d_M_cellOf_6 rfl rfl
theorem m_M_isNote {l : Launch} {q : Int32} {a0 : Nat} {x1 : Int32} {x2 : Int32} {μ : MM} (h : f_M_isNote a0 x1 x2 μ = some q) : AMet l 3 Y_M_isNote [.ref a0, .int x1, .int x2] μ (some (.int q)) μ := by
  refine AMet.of (loc := [some (.ref a0), some (.int x1), some (.int x2)]) pn_M_isNote (Nat.le_of_ble_eq_true rfl) rfl ?_
  unfold f_M_isNote at h
  obtain ⟨_, hk, h⟩ := bnd h
  refine aw_iload_n 1 d_M_isNote_0 rfl rfl ?_
  obtain ⟨y1, h1, h⟩ := bnd h
  refine aw_invS (rest := []) (st' := [.int y1]) (As := [.int x1]) 4 d_M_isNote_1 rfl ls_M_151 (m_M_isVoice h1) (by decide) rfl rfl (Nat.le_of_ble_eq_true rfl) rfl ?_
  refine aw_if_eq 32 7 d_M_isNote_4 (by decide) rfl (fun c4 => ?_) (fun c4 => ?_)
  · have h := (if_pos c4).symm.trans h
    refine aw_iconst (v := (0 : Int32)) 33 d_M_isNote_32 rfl (by decide) ?_
    cases h
    exact aw_ireturn d_M_isNote_33 rfl nar0
  · have h := (if_neg c4).symm.trans h
    refine aw_iload_n 8 d_M_isNote_7 rfl rfl ?_
    obtain ⟨y8, h8, h⟩ := bnd h
    refine aw_invS (rest := []) (st' := [.int y8]) (As := [.int x2]) 11 d_M_isNote_8 rfl ls_M_155 (m_M_isBeat h8) (by decide) rfl rfl (Nat.le_of_ble_eq_true rfl) rfl ?_
    refine aw_if_eq 32 14 d_M_isNote_11 (by decide) rfl (fun c11 => ?_) (fun c11 => ?_)
    · have h := (if_pos c11).symm.trans h
      refine aw_iconst (v := (0 : Int32)) 33 d_M_isNote_32 rfl (by decide) ?_
      cases h
      exact aw_ireturn d_M_isNote_33 rfl nar0
    · have h := (if_neg c11).symm.trans h
      refine aw_aload_n 15 d_M_isNote_14 rfl rfl ?_
      obtain ⟨y15, h15, h⟩ := bnd h
      refine aw_getR 18 d_M_isNote_15 rfl fg_M_13 rfl h15 ?_
      refine aw_iload_n 19 d_M_isNote_18 rfl rfl ?_
      refine aw_iload_n 20 d_M_isNote_19 rfl rfl ?_
      obtain ⟨y20, h20, h⟩ := bnd h
      refine aw_invS (rest := [.ref y15]) (st' := [.int y20, .ref y15]) (As := [.int x1, .int x2]) 23 d_M_isNote_20 rfl ls_M_158 (m_M_cellOf h20) (by decide) rfl rfl (Nat.le_of_ble_eq_true rfl) rfl ?_
      obtain ⟨y23, h23, h⟩ := bnd h
      refine aw_iald 24 d_M_isNote_23 rfl h23 ?_
      refine aw_iconst (v := (-1 : Int32)) 25 d_M_isNote_24 rfl (by decide) ?_
      refine aw_icmp_eq 32 28 d_M_isNote_25 (by decide) rfl (fun c25 => ?_) (fun c25 => ?_)
      · have h := (if_pos c25).symm.trans h
        refine aw_iconst (v := (0 : Int32)) 33 d_M_isNote_32 rfl (by decide) ?_
        cases h
        exact aw_ireturn d_M_isNote_33 rfl nar0
      · have h := (if_neg c25).symm.trans h
        refine aw_iconst (v := (1 : Int32)) 29 d_M_isNote_28 rfl (by decide) ?_
        refine aw_goto 33 d_M_isNote_29 (by decide) ?_
        cases h
        exact aw_ireturn d_M_isNote_33 rfl nar1
theorem k_M_isNote {q : Int32} {a0 : Nat} {x1 : Int32} {x2 : Int32} {μ : MM} (h : f_M_isNote a0 x1 x2 μ = some q) : μ.1[a0]? = some (0, 1) := by
  unfold f_M_isNote at h
  obtain ⟨_, h1, _⟩ := bnd h
  exact kO_some h1
theorem m_M_isHeld {l : Launch} {q : Int32} {a0 : Nat} {x1 : Int32} {x2 : Int32} {μ : MM} (h : f_M_isHeld a0 x1 x2 μ = some q) : AMet l 4 Y_M_isHeld [.ref a0, .int x1, .int x2] μ (some (.int q)) μ := by
  refine AMet.of (loc := [some (.ref a0), some (.int x1), some (.int x2)]) pn_M_isHeld (Nat.le_of_ble_eq_true rfl) rfl ?_
  unfold f_M_isHeld at h
  obtain ⟨_, hk, h⟩ := bnd h
  refine aw_aload_n 1 d_M_isHeld_0 rfl rfl ?_
  refine aw_iload_n 2 d_M_isHeld_1 rfl rfl ?_
  refine aw_iload_n 3 d_M_isHeld_2 rfl rfl ?_
  obtain ⟨y3, h3, h⟩ := bnd h
  refine aw_invV (rest := []) (st' := [.int y3]) (As := [.int x1, .int x2]) 6 d_M_isHeld_3 rfl lv_M_162 (m_M_isNote h3) (by decide) (k_M_isNote h3) rfl rfl rfl (Nat.le_of_ble_eq_true rfl) rfl ?_
  refine aw_if_eq 49 9 d_M_isHeld_6 (by decide) rfl (fun c6 => ?_) (fun c6 => ?_)
  · have h := (if_pos c6).symm.trans h
    refine aw_iconst (v := (0 : Int32)) 50 d_M_isHeld_49 rfl (by decide) ?_
    cases h
    exact aw_ireturn d_M_isHeld_50 rfl nar0
  · have h := (if_neg c6).symm.trans h
    refine aw_aload_n 10 d_M_isHeld_9 rfl rfl ?_
    refine aw_iload_n 11 d_M_isHeld_10 rfl rfl ?_
    refine aw_iload_n 12 d_M_isHeld_11 rfl rfl ?_
    refine aw_iconst (v := (1 : Int32)) 13 d_M_isHeld_12 rfl (by decide) ?_
    refine aw_isub 14 d_M_isHeld_13 rfl ?_
    obtain ⟨y14, h14, h⟩ := bnd h
    refine aw_invV (rest := []) (st' := [.int y14]) (As := [.int x1, .int (x2 - (1 : Int32))]) 17 d_M_isHeld_14 rfl lv_M_162 (m_M_isNote h14) (by decide) (k_M_isNote h14) rfl rfl rfl (Nat.le_of_ble_eq_true rfl) rfl ?_
    refine aw_if_eq 49 20 d_M_isHeld_17 (by decide) rfl (fun c17 => ?_) (fun c17 => ?_)
    · have h := (if_pos c17).symm.trans h
      refine aw_iconst (v := (0 : Int32)) 50 d_M_isHeld_49 rfl (by decide) ?_
      cases h
      exact aw_ireturn d_M_isHeld_50 rfl nar0
    · have h := (if_neg c17).symm.trans h
      refine aw_aload_n 21 d_M_isHeld_20 rfl rfl ?_
      obtain ⟨y21, h21, h⟩ := bnd h
      refine aw_getR 24 d_M_isHeld_21 rfl fg_M_13 rfl h21 ?_
      refine aw_iload_n 25 d_M_isHeld_24 rfl rfl ?_
      refine aw_iload_n 26 d_M_isHeld_25 rfl rfl ?_
      obtain ⟨y26, h26, h⟩ := bnd h
      refine aw_invS (rest := [.ref y21]) (st' := [.int y26, .ref y21]) (As := [.int x1, .int x2]) 29 d_M_isHeld_26 rfl ls_M_158 (m_M_cellOf h26) (by decide) rfl rfl (Nat.le_of_ble_eq_true rfl) rfl ?_
      obtain ⟨y29, h29, h⟩ := bnd h
      refine aw_iald 30 d_M_isHeld_29 rfl h29 ?_
      refine aw_aload_n 31 d_M_isHeld_30 rfl rfl ?_
      obtain ⟨y31, h31, h⟩ := bnd h
      refine aw_getR 34 d_M_isHeld_31 rfl fg_M_13 rfl h31 ?_
      refine aw_iload_n 35 d_M_isHeld_34 rfl rfl ?_
      refine aw_iload_n 36 d_M_isHeld_35 rfl rfl ?_
      refine aw_iconst (v := (1 : Int32)) 37 d_M_isHeld_36 rfl (by decide) ?_
      refine aw_isub 38 d_M_isHeld_37 rfl ?_
      obtain ⟨y38, h38, h⟩ := bnd h
      refine aw_invS (rest := [.ref y31, .int y29]) (st' := [.int y38, .ref y31, .int y29]) (As := [.int x1, .int (x2 - (1 : Int32))]) 41 d_M_isHeld_38 rfl ls_M_158 (m_M_cellOf h38) (by decide) rfl rfl (Nat.le_of_ble_eq_true rfl) rfl ?_
      obtain ⟨y41, h41, h⟩ := bnd h
      refine aw_iald 42 d_M_isHeld_41 rfl h41 ?_
      refine aw_icmp_ne 49 45 d_M_isHeld_42 (by decide) rfl (fun c42 => ?_) (fun c42 => ?_)
      · have h := (if_neg c42).symm.trans h
        refine aw_iconst (v := (0 : Int32)) 50 d_M_isHeld_49 rfl (by decide) ?_
        cases h
        exact aw_ireturn d_M_isHeld_50 rfl nar0
      · have h := (if_pos c42).symm.trans h
        refine aw_iconst (v := (1 : Int32)) 46 d_M_isHeld_45 rfl (by decide) ?_
        refine aw_goto 50 d_M_isHeld_46 (by decide) ?_
        cases h
        exact aw_ireturn d_M_isHeld_50 rfl nar1
theorem k_M_isHeld {q : Int32} {a0 : Nat} {x1 : Int32} {x2 : Int32} {μ : MM} (h : f_M_isHeld a0 x1 x2 μ = some q) : μ.1[a0]? = some (0, 1) := by
  unfold f_M_isHeld at h
  obtain ⟨_, h1, _⟩ := bnd h
  exact kO_some h1
theorem l_M_falls_2 {l : Launch} {μ0 : MM} {q : MM} {a0 : Nat} {x1 : Int32} {x2 : Int32} : ∀ (n : Nat) (x3 : Int32) (μ : MM), f_M_falls_L2 a0 x1 x2 n x3 μ = some q → AWm l Y_M_falls 5 μ0 none q 2 [some (.ref a0), some (.int x1), some (.int x2), some (.int x3)] [] μ := by
  intro n
  induction n with
  | zero =>
    intro x3 μ h
    have h : (none : Option (MM)) = some q := h
    cases h
  | succ n ih =>
    intro x3 μ h
    rw [f_M_falls_L2] at h
    refine aw_iload_n 3 d_M_falls_2 rfl rfl ?_
    refine aw_bipush (v := (24 : Int32)) 5 d_M_falls_3 rfl (by decide) ?_
    refine aw_icmp_ge 47 8 d_M_falls_5 (by decide) rfl (fun c5 => ?_) (fun c5 => ?_)
    · have h := (if_pos c5).symm.trans h
      cases h
      exact aw_return d_M_falls_47 rfl
    · have h := (if_neg c5).symm.trans h
      refine aw_iload_n 9 d_M_falls_8 rfl rfl ?_
      refine aw_iload_n 10 d_M_falls_9 rfl rfl ?_
      refine aw_iconst (v := (1 : Int32)) 11 d_M_falls_10 rfl (by decide) ?_
      refine aw_iadd 12 d_M_falls_11 rfl ?_
      refine aw_icmp_gt 47 15 d_M_falls_12 (by decide) rfl (fun c12 => ?_) (fun c12 => ?_)
      · have h := (if_pos c12).symm.trans h
        cases h
        exact aw_return d_M_falls_47 rfl
      · have h := (if_neg c12).symm.trans h
        refine aw_aload_n 16 d_M_falls_15 rfl rfl ?_
        obtain ⟨y16, h16, h⟩ := bnd h
        refine aw_getR 19 d_M_falls_16 rfl fg_M_30 rfl h16 ?_
        refine aw_iload_n 20 d_M_falls_19 rfl rfl ?_
        obtain ⟨y20, h20, h⟩ := bnd h
        refine aw_iald 21 d_M_falls_20 rfl h20 ?_
        refine aw_iload_n 22 d_M_falls_21 rfl rfl ?_
        refine aw_icmp_ne 41 25 d_M_falls_22 (by decide) rfl (fun c22 => ?_) (fun c22 => ?_)
        · have h := (if_neg c22).symm.trans h
          refine aw_iinc (v := (x3 + (1 : Int32))) (loc' := [some (.ref a0), some (.int x1), some (.int x2), some (.int (x3 + (1 : Int32)))]) 44 d_M_falls_41 rfl (by decide) rfl rfl rfl ?_
          refine aw_goto 2 d_M_falls_44 (by decide) ?_
          exact (ih (x3 + (1 : Int32)) μ h)
        · have h := (if_pos c22).symm.trans h
          refine aw_aload_n 26 d_M_falls_25 rfl rfl ?_
          refine aw_iload_n 27 d_M_falls_26 rfl rfl ?_
          refine aw_iload_n 28 d_M_falls_27 rfl rfl ?_
          obtain ⟨y28, h28, h⟩ := bnd h
          refine aw_invV (rest := []) (st' := [.int y28]) (As := [.int x1, .int x3]) 31 d_M_falls_28 rfl lv_M_193 (m_M_isHeld h28) (by decide) (k_M_isHeld h28) rfl rfl rfl (Nat.le_of_ble_eq_true rfl) rfl ?_
          refine aw_if_ne 41 34 d_M_falls_31 (by decide) rfl (fun c31 => ?_) (fun c31 => ?_)
          · have h := (if_neg c31).symm.trans h
            refine aw_iinc (v := (x3 + (1 : Int32))) (loc' := [some (.ref a0), some (.int x1), some (.int x2), some (.int (x3 + (1 : Int32)))]) 44 d_M_falls_41 rfl (by decide) rfl rfl rfl ?_
            refine aw_goto 2 d_M_falls_44 (by decide) ?_
            exact (ih (x3 + (1 : Int32)) μ h)
          · have h := (if_pos c31).symm.trans h
            refine aw_aload_n 35 d_M_falls_34 rfl rfl ?_
            obtain ⟨y35, h35, h⟩ := bnd h
            refine aw_getR 38 d_M_falls_35 rfl fg_M_30 rfl h35 ?_
            refine aw_iload_n 39 d_M_falls_38 rfl rfl ?_
            refine aw_iconst (v := (-1 : Int32)) 40 d_M_falls_39 rfl (by decide) ?_
            obtain ⟨μ40, h40, h⟩ := bnd h
            refine aw_iast 41 d_M_falls_40 rfl h40 ?_
            refine aw_iinc (v := (x3 + (1 : Int32))) (loc' := [some (.ref a0), some (.int x1), some (.int x2), some (.int (x3 + (1 : Int32)))]) 44 d_M_falls_41 rfl (by decide) rfl rfl rfl ?_
            refine aw_goto 2 d_M_falls_44 (by decide) ?_
            exact (ih (x3 + (1 : Int32)) μ40 h)
theorem m_M_falls {l : Launch} {q : MM} {a0 : Nat} {x1 : Int32} {x2 : Int32} {μ : MM} (h : f_M_falls a0 x1 x2 μ = some q) : AMet l 5 Y_M_falls [.ref a0, .int x1, .int x2] μ none q := by
  refine AMet.of (loc := [some (.ref a0), some (.int x1), some (.int x2), none]) pn_M_falls (Nat.le_of_ble_eq_true rfl) rfl ?_
  unfold f_M_falls at h
  obtain ⟨_, hk, h⟩ := bnd h
  refine aw_iload_n 1 d_M_falls_0 rfl rfl ?_
  refine aw_istore_n (loc' := [some (.ref a0), some (.int x1), some (.int x2), some (.int x2)]) 2 d_M_falls_1 rfl (by decide) rfl ?_
  exact (l_M_falls_2 FU _ _ h)
theorem k_M_falls {q : MM} {a0 : Nat} {x1 : Int32} {x2 : Int32} {μ : MM} (h : f_M_falls a0 x1 x2 μ = some q) : μ.1[a0]? = some (0, 1) := by
  unfold f_M_falls at h
  obtain ⟨_, h1, _⟩ := bnd h
  exact kO_some h1
theorem m_M_note {l : Launch} {q : Int32 × MM} {a0 : Nat} {x1 : Int32} {x2 : Int32} {x3 : Int32} {x4 : Int32} {x5 : Int32} {μ : MM} (h : f_M_note a0 x1 x2 x3 x4 x5 μ = some q) : AMet l 6 Y_M_note [.ref a0, .int x1, .int x2, .int x3, .int x4, .int x5] μ (some (.int q.1)) q.2 := by
  refine AMet.of (loc := [some (.ref a0), some (.int x1), some (.int x2), some (.int x3), some (.int x4), some (.int x5), none]) pn_M_note (Nat.le_of_ble_eq_true rfl) rfl ?_
  unfold f_M_note at h
  obtain ⟨_, hk, h⟩ := bnd h
  refine aw_iload_n 1 d_M_note_0 rfl rfl ?_
  obtain ⟨y1, h1, h⟩ := bnd h
  refine aw_invS (rest := []) (st' := [.int y1]) (As := [.int x1]) 4 d_M_note_1 rfl ls_M_151 (m_M_isVoice h1) (by decide) rfl rfl (Nat.le_of_ble_eq_true rfl) rfl ?_
  refine aw_if_eq 36 7 d_M_note_4 (by decide) rfl (fun c4 => ?_) (fun c4 => ?_)
  · have h := (if_pos c4).symm.trans h
    refine aw_iconst (v := (0 : Int32)) 37 d_M_note_36 rfl (by decide) ?_
    cases h
    exact aw_ireturn d_M_note_37 rfl nar0
  · have h := (if_neg c4).symm.trans h
    refine aw_iload_n 8 d_M_note_7 rfl rfl ?_
    obtain ⟨y8, h8, h⟩ := bnd h
    refine aw_invS (rest := []) (st' := [.int y8]) (As := [.int x2]) 11 d_M_note_8 rfl ls_M_155 (m_M_isBeat h8) (by decide) rfl rfl (Nat.le_of_ble_eq_true rfl) rfl ?_
    refine aw_if_eq 36 14 d_M_note_11 (by decide) rfl (fun c11 => ?_) (fun c11 => ?_)
    · have h := (if_pos c11).symm.trans h
      refine aw_iconst (v := (0 : Int32)) 37 d_M_note_36 rfl (by decide) ?_
      cases h
      exact aw_ireturn d_M_note_37 rfl nar0
    · have h := (if_neg c11).symm.trans h
      refine aw_iload_n 15 d_M_note_14 rfl rfl ?_
      refine aw_i2l 16 d_M_note_15 rfl ?_
      refine aw_lconst (v := (0 : Int64)) 17 d_M_note_16 rfl (by decide) ?_
      refine aw_ldc2 (v := (60 : Int64)) 20 d_M_note_17 rfl c_M_196 ?_
      obtain ⟨y20, h20, h⟩ := bnd h
      refine aw_invS (rest := []) (st' := [.int y20]) (As := [.long x3.toInt64, .long (0 : Int64), .long (60 : Int64)]) 23 d_M_note_20 rfl ls_M_145 (m_M_lies h20) (by decide) rfl rfl (Nat.le_of_ble_eq_true rfl) rfl ?_
      refine aw_if_eq 36 26 d_M_note_23 (by decide) rfl (fun c23 => ?_) (fun c23 => ?_)
      · have h := (if_pos c23).symm.trans h
        refine aw_iconst (v := (0 : Int32)) 37 d_M_note_36 rfl (by decide) ?_
        cases h
        exact aw_ireturn d_M_note_37 rfl nar0
      · have h := (if_neg c23).symm.trans h
        refine aw_iload 28 d_M_note_26 rfl rfl ?_
        refine aw_iload 30 d_M_note_28 rfl rfl ?_
        obtain ⟨y30, h30, h⟩ := bnd h
        refine aw_invS (rest := []) (st' := [.int y30]) (As := [.int x4, .int x5]) 33 d_M_note_30 rfl ls_M_189 (m_M_isFraction h30) (by decide) rfl rfl (Nat.le_of_ble_eq_true rfl) rfl ?_
        refine aw_if_ne 38 36 d_M_note_33 (by decide) rfl (fun c33 => ?_) (fun c33 => ?_)
        · have h := (if_neg c33).symm.trans h
          refine aw_iload_n 39 d_M_note_38 rfl rfl ?_
          refine aw_iload_n 40 d_M_note_39 rfl rfl ?_
          obtain ⟨y40, h40, h⟩ := bnd h
          refine aw_invS (rest := []) (st' := [.int y40]) (As := [.int x1, .int x2]) 43 d_M_note_40 rfl ls_M_158 (m_M_cellOf h40) (by decide) rfl rfl (Nat.le_of_ble_eq_true rfl) rfl ?_
          refine aw_istore (loc' := [some (.ref a0), some (.int x1), some (.int x2), some (.int x3), some (.int x4), some (.int x5), some (.int y40)]) 45 d_M_note_43 rfl (by decide) rfl ?_
          refine aw_aload_n 46 d_M_note_45 rfl rfl ?_
          obtain ⟨y46, h46, h⟩ := bnd h
          refine aw_getR 49 d_M_note_46 rfl fg_M_13 rfl h46 ?_
          refine aw_iload 51 d_M_note_49 rfl rfl ?_
          refine aw_iload_n 52 d_M_note_51 rfl rfl ?_
          obtain ⟨μ52, h52, h⟩ := bnd h
          refine aw_iast 53 d_M_note_52 rfl h52 ?_
          refine aw_aload_n 54 d_M_note_53 rfl rfl ?_
          obtain ⟨y54, h54, h⟩ := bnd h
          refine aw_getR 57 d_M_note_54 rfl fg_M_17 rfl h54 ?_
          refine aw_iload 59 d_M_note_57 rfl rfl ?_
          refine aw_iload 61 d_M_note_59 rfl rfl ?_
          refine aw_iconst (v := (2 : Int32)) 62 d_M_note_61 rfl (by decide) ?_
          obtain ⟨y62, h62, h⟩ := bnd h
          refine aw_invS (rest := [.int y40, .ref y54]) (st' := [.int y62, .int y40, .ref y54]) (As := [.int x4, .int (2 : Int32)]) 65 d_M_note_62 rfl ls_M_169 (m_M_powerOf h62) (by decide) rfl rfl (Nat.le_of_ble_eq_true rfl) rfl ?_
          refine aw_iload 67 d_M_note_65 rfl rfl ?_
          refine aw_iconst (v := (2 : Int32)) 68 d_M_note_67 rfl (by decide) ?_
          obtain ⟨y68, h68, h⟩ := bnd h
          refine aw_invS (rest := [.int y62, .int y40, .ref y54]) (st' := [.int y68, .int y62, .int y40, .ref y54]) (As := [.int x5, .int (2 : Int32)]) 71 d_M_note_68 rfl ls_M_169 (m_M_powerOf h68) (by decide) rfl rfl (Nat.le_of_ble_eq_true rfl) rfl ?_
          refine aw_isub 72 d_M_note_71 rfl ?_
          obtain ⟨μ72, h72, h⟩ := bnd h
          refine aw_iast 73 d_M_note_72 rfl h72 ?_
          refine aw_aload_n 74 d_M_note_73 rfl rfl ?_
          obtain ⟨y74, h74, h⟩ := bnd h
          refine aw_getR 77 d_M_note_74 rfl fg_M_20 rfl h74 ?_
          refine aw_iload 79 d_M_note_77 rfl rfl ?_
          refine aw_iload 81 d_M_note_79 rfl rfl ?_
          refine aw_iconst (v := (3 : Int32)) 82 d_M_note_81 rfl (by decide) ?_
          obtain ⟨y82, h82, h⟩ := bnd h
          refine aw_invS (rest := [.int y40, .ref y74]) (st' := [.int y82, .int y40, .ref y74]) (As := [.int x4, .int (3 : Int32)]) 85 d_M_note_82 rfl ls_M_169 (m_M_powerOf h82) (by decide) rfl rfl (Nat.le_of_ble_eq_true rfl) rfl ?_
          refine aw_iload 87 d_M_note_85 rfl rfl ?_
          refine aw_iconst (v := (3 : Int32)) 88 d_M_note_87 rfl (by decide) ?_
          obtain ⟨y88, h88, h⟩ := bnd h
          refine aw_invS (rest := [.int y82, .int y40, .ref y74]) (st' := [.int y88, .int y82, .int y40, .ref y74]) (As := [.int x5, .int (3 : Int32)]) 91 d_M_note_88 rfl ls_M_169 (m_M_powerOf h88) (by decide) rfl rfl (Nat.le_of_ble_eq_true rfl) rfl ?_
          refine aw_isub 92 d_M_note_91 rfl ?_
          obtain ⟨μ92, h92, h⟩ := bnd h
          refine aw_iast 93 d_M_note_92 rfl h92 ?_
          refine aw_aload_n 94 d_M_note_93 rfl rfl ?_
          obtain ⟨y94, h94, h⟩ := bnd h
          refine aw_getR 97 d_M_note_94 rfl fg_M_23 rfl h94 ?_
          refine aw_iload 99 d_M_note_97 rfl rfl ?_
          refine aw_iload 101 d_M_note_99 rfl rfl ?_
          refine aw_iconst (v := (5 : Int32)) 102 d_M_note_101 rfl (by decide) ?_
          obtain ⟨y102, h102, h⟩ := bnd h
          refine aw_invS (rest := [.int y40, .ref y94]) (st' := [.int y102, .int y40, .ref y94]) (As := [.int x4, .int (5 : Int32)]) 105 d_M_note_102 rfl ls_M_169 (m_M_powerOf h102) (by decide) rfl rfl (Nat.le_of_ble_eq_true rfl) rfl ?_
          refine aw_iload 107 d_M_note_105 rfl rfl ?_
          refine aw_iconst (v := (5 : Int32)) 108 d_M_note_107 rfl (by decide) ?_
          obtain ⟨y108, h108, h⟩ := bnd h
          refine aw_invS (rest := [.int y102, .int y40, .ref y94]) (st' := [.int y108, .int y102, .int y40, .ref y94]) (As := [.int x5, .int (5 : Int32)]) 111 d_M_note_108 rfl ls_M_169 (m_M_powerOf h108) (by decide) rfl rfl (Nat.le_of_ble_eq_true rfl) rfl ?_
          refine aw_isub 112 d_M_note_111 rfl ?_
          obtain ⟨μ112, h112, h⟩ := bnd h
          refine aw_iast 113 d_M_note_112 rfl h112 ?_
          refine aw_aload_n 114 d_M_note_113 rfl rfl ?_
          refine aw_iload_n 115 d_M_note_114 rfl rfl ?_
          refine aw_iload_n 116 d_M_note_115 rfl rfl ?_
          obtain ⟨μ116, h116, h⟩ := bnd h
          refine aw_invV (rest := []) (st' := []) (As := [.int x1, .int x2]) 119 d_M_note_116 rfl lv_M_198 (m_M_falls h116) (by decide) (k_M_falls h116) rfl rfl rfl (Nat.le_of_ble_eq_true rfl) rfl ?_
          refine aw_iconst (v := (1 : Int32)) 120 d_M_note_119 rfl (by decide) ?_
          cases h
          exact aw_ireturn d_M_note_120 rfl nar1
        · have h := (if_pos c33).symm.trans h
          refine aw_iconst (v := (0 : Int32)) 37 d_M_note_36 rfl (by decide) ?_
          cases h
          exact aw_ireturn d_M_note_37 rfl nar0
theorem k_M_note {q : Int32 × MM} {a0 : Nat} {x1 : Int32} {x2 : Int32} {x3 : Int32} {x4 : Int32} {x5 : Int32} {μ : MM} (h : f_M_note a0 x1 x2 x3 x4 x5 μ = some q) : μ.1[a0]? = some (0, 1) := by
  unfold f_M_note at h
  obtain ⟨_, h1, _⟩ := bnd h
  exact kO_some h1
theorem m_X_silent {l : Launch} {q : Int32 × MM} {a0 : Nat} {x1 : Int32} {x2 : Int32} {μ : MM} (h : f_X_silent a0 x1 x2 μ = some q) : AMet l 6 Y_X_silent [.ref a0, .int x1, .int x2] μ (some (.int q.1)) q.2 := by
  refine AMet.of (loc := [some (.ref a0), some (.int x1), some (.int x2)]) pn_X_silent (Nat.le_of_ble_eq_true rfl) rfl ?_
  unfold f_X_silent at h
  obtain ⟨_, hk, h⟩ := bnd h
  refine aw_aload_n 1 d_X_silent_0 rfl rfl ?_
  obtain ⟨y1, h1, h⟩ := bnd h
  refine aw_getR 4 d_X_silent_1 rfl fg_X_10 rfl h1 ?_
  refine aw_iload_n 5 d_X_silent_4 rfl rfl ?_
  refine aw_iload_n 6 d_X_silent_5 rfl rfl ?_
  obtain ⟨y6, h6, h⟩ := bnd h
  refine aw_invV (rest := []) (st' := [.int y6]) (As := [.int x1, .int x2]) 9 d_X_silent_6 rfl lv_X_92 (m_Sc_sounds h6) (by decide) (k_Sc_sounds h6) rfl rfl rfl (Nat.le_of_ble_eq_true rfl) rfl ?_
  refine aw_if_ne 14 12 d_X_silent_9 (by decide) rfl (fun c9 => ?_) (fun c9 => ?_)
  · have h := (if_neg c9).symm.trans h
    refine aw_aload_n 15 d_X_silent_14 rfl rfl ?_
    obtain ⟨y15, h15, h⟩ := bnd h
    refine aw_getR 18 d_X_silent_15 rfl fg_X_10 rfl h15 ?_
    refine aw_iload_n 19 d_X_silent_18 rfl rfl ?_
    refine aw_iload_n 20 d_X_silent_19 rfl rfl ?_
    refine aw_iconst (v := (-1 : Int32)) 21 d_X_silent_20 rfl (by decide) ?_
    refine aw_iconst (v := (0 : Int32)) 22 d_X_silent_21 rfl (by decide) ?_
    obtain ⟨μ22, h22, h⟩ := bnd h
    refine aw_invV (rest := []) (st' := []) (As := [.int x1, .int x2, .int (-1 : Int32), .int (0 : Int32)]) 25 d_X_silent_22 rfl lv_X_84 (m_Sc_put h22) (by decide) (k_Sc_put h22) rfl rfl rfl (Nat.le_of_ble_eq_true rfl) rfl ?_
    refine aw_aload_n 26 d_X_silent_25 rfl rfl ?_
    obtain ⟨q26, h26, h⟩ := bnd h
    refine aw_invV (rest := []) (st' := [.int q26.1]) (As := []) 29 d_X_silent_26 rfl lv_X_88 (m_X_changed h26) (by decide) (k_X_changed h26) rfl rfl rfl (Nat.le_of_ble_eq_true rfl) rfl ?_
    obtain ⟨y29, h29, h⟩ := bnd h
    obtain ⟨e29, n29⟩ := rz_some h29
    rw [e29] at h
    cases h
    exact aw_ireturn d_X_silent_29 rfl n29
  · have h := (if_pos c9).symm.trans h
    refine aw_iconst (v := (0 : Int32)) 13 d_X_silent_12 rfl (by decide) ?_
    cases h
    exact aw_ireturn d_X_silent_13 rfl nar0
theorem k_X_silent {q : Int32 × MM} {a0 : Nat} {x1 : Int32} {x2 : Int32} {μ : MM} (h : f_X_silent a0 x1 x2 μ = some q) : μ.1[a0]? = some (0, 0) := by
  unfold f_X_silent at h
  obtain ⟨_, h1, _⟩ := bnd h
  exact kO_some h1
theorem m_M_silent {l : Launch} {q : Int32 × MM} {a0 : Nat} {x1 : Int32} {x2 : Int32} {μ : MM} (h : f_M_silent a0 x1 x2 μ = some q) : AMet l 6 Y_M_silent [.ref a0, .int x1, .int x2] μ (some (.int q.1)) q.2 := by
  refine AMet.of (loc := [some (.ref a0), some (.int x1), some (.int x2)]) pn_M_silent (Nat.le_of_ble_eq_true rfl) rfl ?_
  unfold f_M_silent at h
  obtain ⟨_, hk, h⟩ := bnd h
  refine aw_aload_n 1 d_M_silent_0 rfl rfl ?_
  refine aw_iload_n 2 d_M_silent_1 rfl rfl ?_
  refine aw_iload_n 3 d_M_silent_2 rfl rfl ?_
  obtain ⟨y3, h3, h⟩ := bnd h
  refine aw_invV (rest := []) (st' := [.int y3]) (As := [.int x1, .int x2]) 6 d_M_silent_3 rfl lv_M_162 (m_M_isNote h3) (by decide) (k_M_isNote h3) rfl rfl rfl (Nat.le_of_ble_eq_true rfl) rfl ?_
  refine aw_if_ne 11 9 d_M_silent_6 (by decide) rfl (fun c6 => ?_) (fun c6 => ?_)
  · have h := (if_neg c6).symm.trans h
    refine aw_aload_n 12 d_M_silent_11 rfl rfl ?_
    obtain ⟨y12, h12, h⟩ := bnd h
    refine aw_getR 15 d_M_silent_12 rfl fg_M_13 rfl h12 ?_
    refine aw_iload_n 16 d_M_silent_15 rfl rfl ?_
    refine aw_iload_n 17 d_M_silent_16 rfl rfl ?_
    obtain ⟨y17, h17, h⟩ := bnd h
    refine aw_invS (rest := [.ref y12]) (st' := [.int y17, .ref y12]) (As := [.int x1, .int x2]) 20 d_M_silent_17 rfl ls_M_158 (m_M_cellOf h17) (by decide) rfl rfl (Nat.le_of_ble_eq_true rfl) rfl ?_
    refine aw_iconst (v := (-1 : Int32)) 21 d_M_silent_20 rfl (by decide) ?_
    obtain ⟨μ21, h21, h⟩ := bnd h
    refine aw_iast 22 d_M_silent_21 rfl h21 ?_
    refine aw_aload_n 23 d_M_silent_22 rfl rfl ?_
    refine aw_iload_n 24 d_M_silent_23 rfl rfl ?_
    refine aw_iload_n 25 d_M_silent_24 rfl rfl ?_
    obtain ⟨μ25, h25, h⟩ := bnd h
    refine aw_invV (rest := []) (st' := []) (As := [.int x1, .int x2]) 28 d_M_silent_25 rfl lv_M_198 (m_M_falls h25) (by decide) (k_M_falls h25) rfl rfl rfl (Nat.le_of_ble_eq_true rfl) rfl ?_
    refine aw_iconst (v := (1 : Int32)) 29 d_M_silent_28 rfl (by decide) ?_
    cases h
    exact aw_ireturn d_M_silent_29 rfl nar1
  · have h := (if_pos c6).symm.trans h
    refine aw_iconst (v := (0 : Int32)) 10 d_M_silent_9 rfl (by decide) ?_
    cases h
    exact aw_ireturn d_M_silent_10 rfl nar0
theorem k_M_silent {q : Int32 × MM} {a0 : Nat} {x1 : Int32} {x2 : Int32} {μ : MM} (h : f_M_silent a0 x1 x2 μ = some q) : μ.1[a0]? = some (0, 1) := by
  unfold f_M_silent at h
  obtain ⟨_, h1, _⟩ := bnd h
  exact kO_some h1
theorem m_Sc_breathes {l : Launch} {q : Int32} {a0 : Nat} {x1 : Int32} {x2 : Int32} {μ : MM} (h : f_Sc_breathes a0 x1 x2 μ = some q) : AMet l 2 Y_Sc_breathes [.ref a0, .int x1, .int x2] μ (some (.int q)) μ := by
  refine AMet.of (loc := [some (.ref a0), some (.int x1), some (.int x2)]) pn_Sc_breathes (Nat.le_of_ble_eq_true rfl) rfl ?_
  unfold f_Sc_breathes at h
  obtain ⟨_, hk, h⟩ := bnd h
  refine aw_iload_n 1 d_Sc_breathes_0 rfl rfl ?_
  refine aw_iload_n 2 d_Sc_breathes_1 rfl rfl ?_
  obtain ⟨y2, h2, h⟩ := bnd h
  refine aw_invS (rest := []) (st' := [.int y2]) (As := [.int x1, .int x2]) 5 d_Sc_breathes_2 rfl ls_Sc_43 (m_Sc_has h2) (by decide) rfl rfl (Nat.le_of_ble_eq_true rfl) rfl ?_
  refine aw_if_eq 26 8 d_Sc_breathes_5 (by decide) rfl (fun c5 => ?_) (fun c5 => ?_)
  · have h := (if_pos c5).symm.trans h
    refine aw_iconst (v := (0 : Int32)) 27 d_Sc_breathes_26 rfl (by decide) ?_
    cases h
    exact aw_ireturn d_Sc_breathes_27 rfl nar0
  · have h := (if_neg c5).symm.trans h
    refine aw_aload_n 9 d_Sc_breathes_8 rfl rfl ?_
    obtain ⟨y9, h9, h⟩ := bnd h
    refine aw_getR 12 d_Sc_breathes_9 rfl fg_Sc_21 rfl h9 ?_
    refine aw_iload_n 13 d_Sc_breathes_12 rfl rfl ?_
    obtain ⟨y13, h13, h⟩ := bnd h
    refine aw_iald 14 d_Sc_breathes_13 rfl h13 ?_
    refine aw_iload_n 15 d_Sc_breathes_14 rfl rfl ?_
    refine aw_ishr 16 d_Sc_breathes_15 rfl ?_
    refine aw_iconst (v := (1 : Int32)) 17 d_Sc_breathes_16 rfl (by decide) ?_
    refine aw_iand 18 d_Sc_breathes_17 rfl ?_
    refine aw_iconst (v := (1 : Int32)) 19 d_Sc_breathes_18 rfl (by decide) ?_
    refine aw_icmp_ne 26 22 d_Sc_breathes_19 (by decide) rfl (fun c19 => ?_) (fun c19 => ?_)
    · have h := (if_neg c19).symm.trans h
      refine aw_iconst (v := (0 : Int32)) 27 d_Sc_breathes_26 rfl (by decide) ?_
      cases h
      exact aw_ireturn d_Sc_breathes_27 rfl nar0
    · have h := (if_pos c19).symm.trans h
      refine aw_iconst (v := (1 : Int32)) 23 d_Sc_breathes_22 rfl (by decide) ?_
      refine aw_goto 27 d_Sc_breathes_23 (by decide) ?_
      cases h
      exact aw_ireturn d_Sc_breathes_27 rfl nar1
theorem k_Sc_breathes {q : Int32} {a0 : Nat} {x1 : Int32} {x2 : Int32} {μ : MM} (h : f_Sc_breathes a0 x1 x2 μ = some q) : μ.1[a0]? = some (0, 8) := by
  unfold f_Sc_breathes at h
  obtain ⟨_, h1, _⟩ := bnd h
  exact kO_some h1
theorem m_X_breath {l : Launch} {q : Int32 × MM} {a0 : Nat} {x1 : Int32} {x2 : Int32} {x3 : Int32} {μ : MM} (h : f_X_breath a0 x1 x2 x3 μ = some q) : AMet l 3 Y_X_breath [.ref a0, .int x1, .int x2, .int x3] μ (some (.int q.1)) q.2 := by
  refine AMet.of (loc := [some (.ref a0), some (.int x1), some (.int x2), some (.int x3)]) pn_X_breath (Nat.le_of_ble_eq_true rfl) rfl ?_
  unfold f_X_breath at h
  obtain ⟨_, hk, h⟩ := bnd h
  refine aw_iload_n 1 d_X_breath_0 rfl rfl ?_
  refine aw_iload_n 2 d_X_breath_1 rfl rfl ?_
  obtain ⟨y2, h2, h⟩ := bnd h
  refine aw_invS (rest := []) (st' := [.int y2]) (As := [.int x1, .int x2]) 5 d_X_breath_2 rfl ls_X_79 (m_Sc_has h2) (by decide) rfl rfl (Nat.le_of_ble_eq_true rfl) rfl ?_
  refine aw_if_eq 21 8 d_X_breath_5 (by decide) rfl (fun c5 => ?_) (fun c5 => ?_)
  · have h := (if_pos c5).symm.trans h
    refine aw_iconst (v := (0 : Int32)) 22 d_X_breath_21 rfl (by decide) ?_
    cases h
    exact aw_ireturn d_X_breath_22 rfl nar0
  · have h := (if_neg c5).symm.trans h
    refine aw_aload_n 9 d_X_breath_8 rfl rfl ?_
    obtain ⟨y9, h9, h⟩ := bnd h
    refine aw_getR 12 d_X_breath_9 rfl fg_X_10 rfl h9 ?_
    refine aw_iload_n 13 d_X_breath_12 rfl rfl ?_
    refine aw_iload_n 14 d_X_breath_13 rfl rfl ?_
    obtain ⟨y14, h14, h⟩ := bnd h
    refine aw_invV (rest := []) (st' := [.int y14]) (As := [.int x1, .int x2]) 17 d_X_breath_14 rfl lv_X_95 (m_Sc_breathes h14) (by decide) (k_Sc_breathes h14) rfl rfl rfl (Nat.le_of_ble_eq_true rfl) rfl ?_
    refine aw_iload_n 18 d_X_breath_17 rfl rfl ?_
    refine aw_icmp_ne 23 21 d_X_breath_18 (by decide) rfl (fun c18 => ?_) (fun c18 => ?_)
    · have h := (if_neg c18).symm.trans h
      refine aw_aload_n 24 d_X_breath_23 rfl rfl ?_
      obtain ⟨y24, h24, h⟩ := bnd h
      refine aw_getR 27 d_X_breath_24 rfl fg_X_10 rfl h24 ?_
      obtain ⟨y27, h27, h⟩ := bnd h
      refine aw_getR 30 d_X_breath_27 rfl fg_X_98 rfl h27 ?_
      refine aw_iload_n 31 d_X_breath_30 rfl rfl ?_
      refine aw_dup2 32 d_X_breath_31 rfl rfl rfl ?_
      obtain ⟨y32, h32, h⟩ := bnd h
      refine aw_iald 33 d_X_breath_32 rfl h32 ?_
      refine aw_iconst (v := (1 : Int32)) 34 d_X_breath_33 rfl (by decide) ?_
      refine aw_iload_n 35 d_X_breath_34 rfl rfl ?_
      refine aw_ishl 36 d_X_breath_35 rfl ?_
      refine aw_ixor 37 d_X_breath_36 rfl ?_
      obtain ⟨μ37, h37, h⟩ := bnd h
      refine aw_iast 38 d_X_breath_37 rfl h37 ?_
      refine aw_aload_n 39 d_X_breath_38 rfl rfl ?_
      obtain ⟨q39, h39, h⟩ := bnd h
      refine aw_invV (rest := []) (st' := [.int q39.1]) (As := []) 42 d_X_breath_39 rfl lv_X_88 (m_X_changed h39) (by decide) (k_X_changed h39) rfl rfl rfl (Nat.le_of_ble_eq_true rfl) rfl ?_
      obtain ⟨y42, h42, h⟩ := bnd h
      obtain ⟨e42, n42⟩ := rz_some h42
      rw [e42] at h
      cases h
      exact aw_ireturn d_X_breath_42 rfl n42
    · have h := (if_pos c18).symm.trans h
      refine aw_iconst (v := (0 : Int32)) 22 d_X_breath_21 rfl (by decide) ?_
      cases h
      exact aw_ireturn d_X_breath_22 rfl nar0
theorem k_X_breath {q : Int32 × MM} {a0 : Nat} {x1 : Int32} {x2 : Int32} {x3 : Int32} {μ : MM} (h : f_X_breath a0 x1 x2 x3 μ = some q) : μ.1[a0]? = some (0, 0) := by
  unfold f_X_breath at h
  obtain ⟨_, h1, _⟩ := bnd h
  exact kO_some h1
theorem m_M_breath {l : Launch} {q : Int32 × MM} {a0 : Nat} {x1 : Int32} {x2 : Int32} {x3 : Int32} {μ : MM} (h : f_M_breath a0 x1 x2 x3 μ = some q) : AMet l 3 Y_M_breath [.ref a0, .int x1, .int x2, .int x3] μ (some (.int q.1)) q.2 := by
  refine AMet.of (loc := [some (.ref a0), some (.int x1), some (.int x2), some (.int x3)]) pn_M_breath (Nat.le_of_ble_eq_true rfl) rfl ?_
  unfold f_M_breath at h
  obtain ⟨_, hk, h⟩ := bnd h
  refine aw_iload_n 1 d_M_breath_0 rfl rfl ?_
  obtain ⟨y1, h1, h⟩ := bnd h
  refine aw_invS (rest := []) (st' := [.int y1]) (As := [.int x1]) 4 d_M_breath_1 rfl ls_M_151 (m_M_isVoice h1) (by decide) rfl rfl (Nat.le_of_ble_eq_true rfl) rfl ?_
  refine aw_if_eq 28 7 d_M_breath_4 (by decide) rfl (fun c4 => ?_) (fun c4 => ?_)
  · have h := (if_pos c4).symm.trans h
    refine aw_iconst (v := (0 : Int32)) 29 d_M_breath_28 rfl (by decide) ?_
    cases h
    exact aw_ireturn d_M_breath_29 rfl nar0
  · have h := (if_neg c4).symm.trans h
    refine aw_iload_n 8 d_M_breath_7 rfl rfl ?_
    obtain ⟨y8, h8, h⟩ := bnd h
    refine aw_invS (rest := []) (st' := [.int y8]) (As := [.int x2]) 11 d_M_breath_8 rfl ls_M_155 (m_M_isBeat h8) (by decide) rfl rfl (Nat.le_of_ble_eq_true rfl) rfl ?_
    refine aw_if_eq 28 14 d_M_breath_11 (by decide) rfl (fun c11 => ?_) (fun c11 => ?_)
    · have h := (if_pos c11).symm.trans h
      refine aw_iconst (v := (0 : Int32)) 29 d_M_breath_28 rfl (by decide) ?_
      cases h
      exact aw_ireturn d_M_breath_29 rfl nar0
    · have h := (if_neg c11).symm.trans h
      refine aw_aload_n 15 d_M_breath_14 rfl rfl ?_
      obtain ⟨y15, h15, h⟩ := bnd h
      refine aw_getR 18 d_M_breath_15 rfl fg_M_26 rfl h15 ?_
      refine aw_iload_n 19 d_M_breath_18 rfl rfl ?_
      refine aw_iload_n 20 d_M_breath_19 rfl rfl ?_
      obtain ⟨y20, h20, h⟩ := bnd h
      refine aw_invS (rest := [.ref y15]) (st' := [.int y20, .ref y15]) (As := [.int x1, .int x2]) 23 d_M_breath_20 rfl ls_M_158 (m_M_cellOf h20) (by decide) rfl rfl (Nat.le_of_ble_eq_true rfl) rfl ?_
      obtain ⟨y23, h23, h⟩ := bnd h
      refine aw_bald 24 d_M_breath_23 rfl h23 ?_
      refine aw_iload_n 25 d_M_breath_24 rfl rfl ?_
      refine aw_icmp_ne 30 28 d_M_breath_25 (by decide) rfl (fun c25 => ?_) (fun c25 => ?_)
      · have h := (if_neg c25).symm.trans h
        refine aw_aload_n 31 d_M_breath_30 rfl rfl ?_
        obtain ⟨y31, h31, h⟩ := bnd h
        refine aw_getR 34 d_M_breath_31 rfl fg_M_26 rfl h31 ?_
        refine aw_iload_n 35 d_M_breath_34 rfl rfl ?_
        refine aw_iload_n 36 d_M_breath_35 rfl rfl ?_
        obtain ⟨y36, h36, h⟩ := bnd h
        refine aw_invS (rest := [.ref y31]) (st' := [.int y36, .ref y31]) (As := [.int x1, .int x2]) 39 d_M_breath_36 rfl ls_M_158 (m_M_cellOf h36) (by decide) rfl rfl (Nat.le_of_ble_eq_true rfl) rfl ?_
        refine aw_iload_n 40 d_M_breath_39 rfl rfl ?_
        obtain ⟨μ40, h40, h⟩ := bnd h
        refine aw_bast 41 d_M_breath_40 rfl h40 ?_
        refine aw_iconst (v := (1 : Int32)) 42 d_M_breath_41 rfl (by decide) ?_
        cases h
        exact aw_ireturn d_M_breath_42 rfl nar1
      · have h := (if_pos c25).symm.trans h
        refine aw_iconst (v := (0 : Int32)) 29 d_M_breath_28 rfl (by decide) ?_
        cases h
        exact aw_ireturn d_M_breath_29 rfl nar0
theorem k_M_breath {q : Int32 × MM} {a0 : Nat} {x1 : Int32} {x2 : Int32} {x3 : Int32} {μ : MM} (h : f_M_breath a0 x1 x2 x3 μ = some q) : μ.1[a0]? = some (0, 1) := by
  unfold f_M_breath at h
  obtain ⟨_, h1, _⟩ := bnd h
  exact kO_some h1
theorem m_X_size {l : Launch} {q : Int32} {a0 : Nat} {x1 : Int32} {x2 : Int32} {μ : MM} (h : f_X_size a0 x1 x2 μ = some q) : AMet l 4 Y_X_size [.ref a0, .int x1, .int x2] μ (some (.int q)) μ := by
  refine AMet.of (loc := [some (.ref a0), some (.int x1), some (.int x2), none]) pn_X_size (Nat.le_of_ble_eq_true rfl) rfl ?_
  unfold f_X_size at h
  obtain ⟨_, hk, h⟩ := bnd h
  refine aw_iload_n 1 d_X_size_0 rfl rfl ?_
  refine aw_iload_n 2 d_X_size_1 rfl rfl ?_
  obtain ⟨y2, h2, h⟩ := bnd h
  refine aw_invS (rest := []) (st' := [.int y2]) (As := [.int x1, .int x2]) 5 d_X_size_2 rfl ls_X_73 (m_Fr_of h2) (by decide) rfl rfl (Nat.le_of_ble_eq_true rfl) rfl ?_
  refine aw_istore_n (loc' := [some (.ref a0), some (.int x1), some (.int x2), some (.int y2)]) 6 d_X_size_5 rfl (by decide) rfl ?_
  refine aw_iload_n 7 d_X_size_6 rfl rfl ?_
  refine aw_ldc (v := (-2147483648 : Int32)) 9 d_X_size_7 rfl c_X_83 ?_
  refine aw_icmp_ne 17 12 d_X_size_9 (by decide) rfl (fun c9 => ?_) (fun c9 => ?_)
  · have h := (if_neg c9).symm.trans h
    refine aw_iload_n 18 d_X_size_17 rfl rfl ?_
    obtain ⟨y18, h18, h⟩ := bnd h
    refine aw_invS (rest := []) (st' := [.int y18]) (As := [.int y2]) 21 d_X_size_18 rfl ls_X_103 (m_Fr_mills h18) (by decide) rfl rfl (Nat.le_of_ble_eq_true rfl) rfl ?_
    cases h
    exact aw_ireturn d_X_size_21 rfl rfl
  · have h := (if_pos c9).symm.trans h
    refine aw_ldc (v := (-1000000000 : Int32)) 14 d_X_size_12 rfl c_X_102 ?_
    refine aw_goto 21 d_X_size_14 (by decide) ?_
    cases h
    exact aw_ireturn d_X_size_21 rfl rfl
theorem k_X_size {q : Int32} {a0 : Nat} {x1 : Int32} {x2 : Int32} {μ : MM} (h : f_X_size a0 x1 x2 μ = some q) : μ.1[a0]? = some (0, 0) := by
  unfold f_X_size at h
  obtain ⟨_, h1, _⟩ := bnd h
  exact kO_some h1
theorem m_M_size {l : Launch} {q : Int32} {a0 : Nat} {x1 : Int32} {x2 : Int32} {μ : MM} (h : f_M_size a0 x1 x2 μ = some q) : AMet l 4 Y_M_size [.ref a0, .int x1, .int x2] μ (some (.int q)) μ := by
  refine AMet.of (loc := [some (.ref a0), some (.int x1), some (.int x2)]) pn_M_size (Nat.le_of_ble_eq_true rfl) rfl ?_
  unfold f_M_size at h
  obtain ⟨_, hk, h⟩ := bnd h
  refine aw_iload_n 1 d_M_size_0 rfl rfl ?_
  refine aw_iload_n 2 d_M_size_1 rfl rfl ?_
  obtain ⟨y2, h2, h⟩ := bnd h
  refine aw_invS (rest := []) (st' := [.int y2]) (As := [.int x1, .int x2]) 5 d_M_size_2 rfl ls_M_189 (m_M_isFraction h2) (by decide) rfl rfl (Nat.le_of_ble_eq_true rfl) rfl ?_
  refine aw_if_eq 16 8 d_M_size_5 (by decide) rfl (fun c5 => ?_) (fun c5 => ?_)
  · have h := (if_pos c5).symm.trans h
    refine aw_ldc (v := (-1000000000 : Int32)) 18 d_M_size_16 rfl c_M_192 ?_
    cases h
    exact aw_ireturn d_M_size_18 rfl rfl
  · have h := (if_neg c5).symm.trans h
    refine aw_iload_n 9 d_M_size_8 rfl rfl ?_
    refine aw_iload_n 10 d_M_size_9 rfl rfl ?_
    obtain ⟨y10, h10, h⟩ := bnd h
    refine aw_invS (rest := []) (st' := [.int y10]) (As := [.int x1, .int x2]) 13 d_M_size_10 rfl ls_M_182 (m_M_fraction h10) (by decide) rfl rfl (Nat.le_of_ble_eq_true rfl) rfl ?_
    refine aw_goto 18 d_M_size_13 (by decide) ?_
    cases h
    exact aw_ireturn d_M_size_18 rfl rfl
theorem k_M_size {q : Int32} {a0 : Nat} {x1 : Int32} {x2 : Int32} {μ : MM} (h : f_M_size a0 x1 x2 μ = some q) : μ.1[a0]? = some (0, 1) := by
  unfold f_M_size at h
  obtain ⟨_, h1, _⟩ := bnd h
  exact kO_some h1
theorem m_Sc_bind {l : Launch} {q : MM} {a0 : Nat} {x1 : Int32} {x2 : Int32} {μ : MM} (h : f_Sc_bind a0 x1 x2 μ = some q) : AMet l 5 Y_Sc_bind [.ref a0, .int x1, .int x2] μ none q := by
  refine AMet.of (loc := [some (.ref a0), some (.int x1), some (.int x2)]) pn_Sc_bind (Nat.le_of_ble_eq_true rfl) rfl ?_
  unfold f_Sc_bind at h
  obtain ⟨_, hk, h⟩ := bnd h
  refine aw_iload_n 1 d_Sc_bind_0 rfl rfl ?_
  refine aw_if_le 21 4 d_Sc_bind_1 (by decide) rfl (fun c1 => ?_) (fun c1 => ?_)
  · have h := (if_pos c1).symm.trans h
    cases h
    exact aw_return d_Sc_bind_21 rfl
  · have h := (if_neg c1).symm.trans h
    refine aw_iload_n 5 d_Sc_bind_4 rfl rfl ?_
    refine aw_bipush (v := (24 : Int32)) 7 d_Sc_bind_5 rfl (by decide) ?_
    refine aw_icmp_ge 21 10 d_Sc_bind_7 (by decide) rfl (fun c7 => ?_) (fun c7 => ?_)
    · have h := (if_pos c7).symm.trans h
      cases h
      exact aw_return d_Sc_bind_21 rfl
    · have h := (if_neg c7).symm.trans h
      refine aw_aload_n 11 d_Sc_bind_10 rfl rfl ?_
      obtain ⟨y11, h11, h⟩ := bnd h
      refine aw_getR 14 d_Sc_bind_11 rfl fg_Sc_24 rfl h11 ?_
      refine aw_iload_n 15 d_Sc_bind_14 rfl rfl ?_
      refine aw_iload_n 16 d_Sc_bind_15 rfl rfl ?_
      obtain ⟨μ16, h16, h⟩ := bnd h
      refine aw_iast 17 d_Sc_bind_16 rfl h16 ?_
      refine aw_aload_n 18 d_Sc_bind_17 rfl rfl ?_
      obtain ⟨μ18, h18, h⟩ := bnd h
      refine aw_invV (rest := []) (st' := []) (As := []) 21 d_Sc_bind_18 rfl lv_Sc_58 (m_Sc_tune h18) (by decide) (k_Sc_tune h18) rfl rfl rfl (Nat.le_of_ble_eq_true rfl) rfl ?_
      cases h
      exact aw_return d_Sc_bind_21 rfl
theorem k_Sc_bind {q : MM} {a0 : Nat} {x1 : Int32} {x2 : Int32} {μ : MM} (h : f_Sc_bind a0 x1 x2 μ = some q) : μ.1[a0]? = some (0, 8) := by
  unfold f_Sc_bind at h
  obtain ⟨_, h1, _⟩ := bnd h
  exact kO_some h1
theorem j_X_link_30 {l : Launch} {μ0 : MM} {q : Int32 × MM} {a0 : Nat} {x1 : Int32} {x2 : Int32} {μ : MM} (h : f_X_link_J30 a0 x1 x2 μ = some q) : AWm l Y_X_link 6 μ0 (some (.int q.1)) q.2 30 [some (.ref a0), some (.int x1), some (.int x2)] [] μ := by
  unfold f_X_link_J30 at h
  refine aw_aload_n 31 d_X_link_30 rfl rfl ?_
  obtain ⟨y31, h31, h⟩ := bnd h
  refine aw_getR 34 d_X_link_31 rfl fg_X_10 rfl h31 ?_
  refine aw_iload_n 35 d_X_link_34 rfl rfl ?_
  refine aw_iload_n 36 d_X_link_35 rfl rfl ?_
  obtain ⟨μ36, h36, h⟩ := bnd h
  refine aw_invV (rest := []) (st' := []) (As := [.int x1, .int x2]) 39 d_X_link_36 rfl lv_X_110 (m_Sc_bind h36) (by decide) (k_Sc_bind h36) rfl rfl rfl (Nat.le_of_ble_eq_true rfl) rfl ?_
  refine aw_aload_n 40 d_X_link_39 rfl rfl ?_
  obtain ⟨q40, h40, h⟩ := bnd h
  refine aw_invV (rest := []) (st' := [.int q40.1]) (As := []) 43 d_X_link_40 rfl lv_X_88 (m_X_changed h40) (by decide) (k_X_changed h40) rfl rfl rfl (Nat.le_of_ble_eq_true rfl) rfl ?_
  obtain ⟨y43, h43, h⟩ := bnd h
  obtain ⟨e43, n43⟩ := rz_some h43
  rw [e43] at h
  cases h
  exact aw_ireturn d_X_link_43 rfl n43
theorem m_X_link {l : Launch} {q : Int32 × MM} {a0 : Nat} {x1 : Int32} {x2 : Int32} {μ : MM} (h : f_X_link a0 x1 x2 μ = some q) : AMet l 6 Y_X_link [.ref a0, .int x1, .int x2] μ (some (.int q.1)) q.2 := by
  refine AMet.of (loc := [some (.ref a0), some (.int x1), some (.int x2)]) pn_X_link (Nat.le_of_ble_eq_true rfl) rfl ?_
  unfold f_X_link at h
  obtain ⟨_, hk, h⟩ := bnd h
  refine aw_iload_n 1 d_X_link_0 rfl rfl ?_
  refine aw_iconst (v := (1 : Int32)) 2 d_X_link_1 rfl (by decide) ?_
  refine aw_icmp_lt 28 5 d_X_link_2 (by decide) rfl (fun c2 => ?_) (fun c2 => ?_)
  · have h := (if_pos c2).symm.trans h
    refine aw_iconst (v := (0 : Int32)) 29 d_X_link_28 rfl (by decide) ?_
    cases h
    exact aw_ireturn d_X_link_29 rfl nar0
  · have h := (if_neg c2).symm.trans h
    refine aw_iload_n 6 d_X_link_5 rfl rfl ?_
    refine aw_bipush (v := (24 : Int32)) 8 d_X_link_6 rfl (by decide) ?_
    refine aw_icmp_ge 28 11 d_X_link_8 (by decide) rfl (fun c8 => ?_) (fun c8 => ?_)
    · have h := (if_pos c8).symm.trans h
      refine aw_iconst (v := (0 : Int32)) 29 d_X_link_28 rfl (by decide) ?_
      cases h
      exact aw_ireturn d_X_link_29 rfl nar0
    · have h := (if_neg c8).symm.trans h
      refine aw_iload_n 12 d_X_link_11 rfl rfl ?_
      refine aw_iconst (v := (-1 : Int32)) 13 d_X_link_12 rfl (by decide) ?_
      refine aw_icmp_eq 30 16 d_X_link_13 (by decide) rfl (fun c13 => ?_) (fun c13 => ?_)
      · have h := (if_pos c13).symm.trans h
        exact (j_X_link_30 h)
      · have h := (if_neg c13).symm.trans h
        refine aw_aload_n 17 d_X_link_16 rfl rfl ?_
        obtain ⟨y17, h17, h⟩ := bnd h
        refine aw_getR 20 d_X_link_17 rfl fg_X_10 rfl h17 ?_
        refine aw_iload_n 21 d_X_link_20 rfl rfl ?_
        refine aw_iload_n 22 d_X_link_21 rfl rfl ?_
        obtain ⟨y22, h22, h⟩ := bnd h
        refine aw_invV (rest := []) (st' := [.int y22]) (As := [.int x2, .int x1]) 25 d_X_link_22 rfl lv_X_107 (m_Sc_holds h22) (by decide) (k_Sc_holds h22) rfl rfl rfl (Nat.le_of_ble_eq_true rfl) rfl ?_
        refine aw_if_ne 30 28 d_X_link_25 (by decide) rfl (fun c25 => ?_) (fun c25 => ?_)
        · have h := (if_neg c25).symm.trans h
          exact (j_X_link_30 h)
        · have h := (if_pos c25).symm.trans h
          refine aw_iconst (v := (0 : Int32)) 29 d_X_link_28 rfl (by decide) ?_
          cases h
          exact aw_ireturn d_X_link_29 rfl nar0
theorem k_X_link {q : Int32 × MM} {a0 : Nat} {x1 : Int32} {x2 : Int32} {μ : MM} (h : f_X_link a0 x1 x2 μ = some q) : μ.1[a0]? = some (0, 0) := by
  unfold f_X_link at h
  obtain ⟨_, h1, _⟩ := bnd h
  exact kO_some h1
theorem j_M_link_28 {l : Launch} {μ0 : MM} {q : Int32 × MM} {a0 : Nat} {x1 : Int32} {x2 : Int32} {μ : MM} (h : f_M_link_J28 a0 x1 x2 μ = some q) : AWm l Y_M_link 5 μ0 (some (.int q.1)) q.2 28 [some (.ref a0), some (.int x1), some (.int x2)] [] μ := by
  unfold f_M_link_J28 at h
  refine aw_aload_n 29 d_M_link_28 rfl rfl ?_
  obtain ⟨y29, h29, h⟩ := bnd h
  refine aw_getR 32 d_M_link_29 rfl fg_M_30 rfl h29 ?_
  refine aw_iload_n 33 d_M_link_32 rfl rfl ?_
  refine aw_iload_n 34 d_M_link_33 rfl rfl ?_
  obtain ⟨μ34, h34, h⟩ := bnd h
  refine aw_iast 35 d_M_link_34 rfl h34 ?_
  refine aw_iconst (v := (1 : Int32)) 36 d_M_link_35 rfl (by decide) ?_
  cases h
  exact aw_ireturn d_M_link_36 rfl nar1
theorem m_M_link {l : Launch} {q : Int32 × MM} {a0 : Nat} {x1 : Int32} {x2 : Int32} {μ : MM} (h : f_M_link a0 x1 x2 μ = some q) : AMet l 5 Y_M_link [.ref a0, .int x1, .int x2] μ (some (.int q.1)) q.2 := by
  refine AMet.of (loc := [some (.ref a0), some (.int x1), some (.int x2)]) pn_M_link (Nat.le_of_ble_eq_true rfl) rfl ?_
  unfold f_M_link at h
  obtain ⟨_, hk, h⟩ := bnd h
  refine aw_iload_n 1 d_M_link_0 rfl rfl ?_
  refine aw_i2l 2 d_M_link_1 rfl ?_
  refine aw_lconst (v := (1 : Int64)) 3 d_M_link_2 rfl (by decide) ?_
  refine aw_ldc2 (v := (23 : Int64)) 6 d_M_link_3 rfl c_M_149 ?_
  obtain ⟨y6, h6, h⟩ := bnd h
  refine aw_invS (rest := []) (st' := [.int y6]) (As := [.long x1.toInt64, .long (1 : Int64), .long (23 : Int64)]) 9 d_M_link_6 rfl ls_M_145 (m_M_lies h6) (by decide) rfl rfl (Nat.le_of_ble_eq_true rfl) rfl ?_
  refine aw_if_eq 26 12 d_M_link_9 (by decide) rfl (fun c9 => ?_) (fun c9 => ?_)
  · have h := (if_pos c9).symm.trans h
    refine aw_iconst (v := (0 : Int32)) 27 d_M_link_26 rfl (by decide) ?_
    cases h
    exact aw_ireturn d_M_link_27 rfl nar0
  · have h := (if_neg c9).symm.trans h
    refine aw_iload_n 13 d_M_link_12 rfl rfl ?_
    refine aw_iconst (v := (-1 : Int32)) 14 d_M_link_13 rfl (by decide) ?_
    refine aw_icmp_eq 28 17 d_M_link_14 (by decide) rfl (fun c14 => ?_) (fun c14 => ?_)
    · have h := (if_pos c14).symm.trans h
      exact (j_M_link_28 h)
    · have h := (if_neg c14).symm.trans h
      refine aw_aload_n 18 d_M_link_17 rfl rfl ?_
      refine aw_iload_n 19 d_M_link_18 rfl rfl ?_
      refine aw_iload_n 20 d_M_link_19 rfl rfl ?_
      obtain ⟨y20, h20, h⟩ := bnd h
      refine aw_invV (rest := []) (st' := [.int y20]) (As := [.int x2, .int x1]) 23 d_M_link_20 rfl lv_M_193 (m_M_isHeld h20) (by decide) (k_M_isHeld h20) rfl rfl rfl (Nat.le_of_ble_eq_true rfl) rfl ?_
      refine aw_if_ne 28 26 d_M_link_23 (by decide) rfl (fun c23 => ?_) (fun c23 => ?_)
      · have h := (if_neg c23).symm.trans h
        exact (j_M_link_28 h)
      · have h := (if_pos c23).symm.trans h
        refine aw_iconst (v := (0 : Int32)) 27 d_M_link_26 rfl (by decide) ?_
        cases h
        exact aw_ireturn d_M_link_27 rfl nar0
theorem k_M_link {q : Int32 × MM} {a0 : Nat} {x1 : Int32} {x2 : Int32} {μ : MM} (h : f_M_link a0 x1 x2 μ = some q) : μ.1[a0]? = some (0, 1) := by
  unfold f_M_link at h
  obtain ⟨_, h1, _⟩ := bnd h
  exact kO_some h1
theorem j_Sc_heldIn_27 {l : Launch} {μ0 : MM} {q : Int32} {a0 : Nat} {x1 : Int32} {x3 : Int32} {s0 : Int32} {s1 : Int32} {μ : MM} {k4 : Int32 → Int32 → Option (Int32)} (hk4 : ∀ (x2 : Int32) (x3 : Int32), k4 x2 x3 = some q → AWm l Y_Sc_heldIn 3 μ0 (some (.int q)) μ 4 [some (.ref a0), some (.int x1), some (.int x2), some (.int x3)] [] μ) (h : f_Sc_heldIn_J27 k4 a0 x1 x3 s0 s1 μ = some q) : AWm l Y_Sc_heldIn 3 μ0 (some (.int q)) μ 27 [some (.ref a0), some (.int x1), none, some (.int x3)] [.int s1, .int s0] μ := by
  unfold f_Sc_heldIn_J27 at h
  refine aw_ior 28 d_Sc_heldIn_27 rfl ?_
  refine aw_istore_n (loc' := [some (.ref a0), some (.int x1), some (.int (s0 ||| s1)), some (.int x3)]) 29 d_Sc_heldIn_28 rfl (by decide) rfl ?_
  refine aw_iinc (v := (x3 + (1 : Int32))) (loc' := [some (.ref a0), some (.int x1), some (.int (s0 ||| s1)), some (.int (x3 + (1 : Int32)))]) 32 d_Sc_heldIn_29 rfl (by decide) rfl rfl rfl ?_
  refine aw_goto 4 d_Sc_heldIn_32 (by decide) ?_
  exact (hk4 (s0 ||| s1) (x3 + (1 : Int32)) h)
theorem l_Sc_heldIn_4 {l : Launch} {μ0 : MM} {q : Int32} {a0 : Nat} {x1 : Int32} {μ : MM} : ∀ (n : Nat) (x2 : Int32) (x3 : Int32), f_Sc_heldIn_L4 a0 x1 μ n x2 x3 = some q → AWm l Y_Sc_heldIn 3 μ0 (some (.int q)) μ 4 [some (.ref a0), some (.int x1), some (.int x2), some (.int x3)] [] μ := by
  intro n
  induction n with
  | zero =>
    intro x2 x3 h
    have h : (none : Option (Int32)) = some q := h
    cases h
  | succ n ih =>
    intro x2 x3 h
    rw [f_Sc_heldIn_L4] at h
    refine aw_iload_n 5 d_Sc_heldIn_4 rfl rfl ?_
    refine aw_bipush (v := (6 : Int32)) 7 d_Sc_heldIn_5 rfl (by decide) ?_
    refine aw_icmp_ge 35 10 d_Sc_heldIn_7 (by decide) rfl (fun c7 => ?_) (fun c7 => ?_)
    · have h := (if_pos c7).symm.trans h
      refine aw_iload_n 36 d_Sc_heldIn_35 rfl rfl ?_
      cases h
      exact aw_ireturn d_Sc_heldIn_36 rfl rfl
    · have h := (if_neg c7).symm.trans h
      refine aw_iload_n 11 d_Sc_heldIn_10 rfl rfl ?_
      refine aw_aload_n 12 d_Sc_heldIn_11 rfl rfl ?_
      refine aw_iload_n 13 d_Sc_heldIn_12 rfl rfl ?_
      refine aw_iload_n 14 d_Sc_heldIn_13 rfl rfl ?_
      obtain ⟨y14, h14, h⟩ := bnd h
      refine aw_invV (rest := [.int x2]) (st' := [.int y14, .int x2]) (As := [.int x3, .int x1]) 17 d_Sc_heldIn_14 rfl lv_Sc_55 (m_Sc_holds h14) (by decide) (k_Sc_holds h14) rfl rfl rfl (Nat.le_of_ble_eq_true rfl) rfl ?_
      refine aw_if_eq 26 20 d_Sc_heldIn_17 (by decide) rfl (fun c17 => ?_) (fun c17 => ?_)
      · have h := (if_pos c17).symm.trans h
        refine aw_iconst (v := (0 : Int32)) 27 d_Sc_heldIn_26 rfl (by decide) ?_
        exact AW.wk [true, true, false, true] rfl (j_Sc_heldIn_27 ih h)
      · have h := (if_neg c17).symm.trans h
        refine aw_iconst (v := (1 : Int32)) 21 d_Sc_heldIn_20 rfl (by decide) ?_
        refine aw_iload_n 22 d_Sc_heldIn_21 rfl rfl ?_
        refine aw_ishl 23 d_Sc_heldIn_22 rfl ?_
        refine aw_goto 27 d_Sc_heldIn_23 (by decide) ?_
        exact AW.wk [true, true, false, true] rfl (j_Sc_heldIn_27 ih h)
theorem m_Sc_heldIn {l : Launch} {q : Int32} {a0 : Nat} {x1 : Int32} {μ : MM} (h : f_Sc_heldIn a0 x1 μ = some q) : AMet l 3 Y_Sc_heldIn [.ref a0, .int x1] μ (some (.int q)) μ := by
  refine AMet.of (loc := [some (.ref a0), some (.int x1), none, none]) pn_Sc_heldIn (Nat.le_of_ble_eq_true rfl) rfl ?_
  unfold f_Sc_heldIn at h
  obtain ⟨_, hk, h⟩ := bnd h
  refine aw_iconst (v := (0 : Int32)) 1 d_Sc_heldIn_0 rfl (by decide) ?_
  refine aw_istore_n (loc' := [some (.ref a0), some (.int x1), some (.int (0 : Int32)), none]) 2 d_Sc_heldIn_1 rfl (by decide) rfl ?_
  refine aw_iconst (v := (0 : Int32)) 3 d_Sc_heldIn_2 rfl (by decide) ?_
  refine aw_istore_n (loc' := [some (.ref a0), some (.int x1), some (.int (0 : Int32)), some (.int (0 : Int32))]) 4 d_Sc_heldIn_3 rfl (by decide) rfl ?_
  exact (l_Sc_heldIn_4 FU _ _ h)
theorem k_Sc_heldIn {q : Int32} {a0 : Nat} {x1 : Int32} {μ : MM} (h : f_Sc_heldIn a0 x1 μ = some q) : μ.1[a0]? = some (0, 8) := by
  unfold f_Sc_heldIn at h
  obtain ⟨_, h1, _⟩ := bnd h
  exact kO_some h1
theorem m_Sc_tearBy {l : Launch} {q : Int32} {a0 : Nat} {x1 : Int32} {x2 : Int32} {x3 : Int32} {μ : MM} (h : f_Sc_tearBy a0 x1 x2 x3 μ = some q) : AMet l 3 Y_Sc_tearBy [.ref a0, .int x1, .int x2, .int x3] μ (some (.int q)) μ := by
  refine AMet.of (loc := [some (.ref a0), some (.int x1), some (.int x2), some (.int x3)]) pn_Sc_tearBy (Nat.le_of_ble_eq_true rfl) rfl ?_
  unfold f_Sc_tearBy at h
  obtain ⟨_, hk, h⟩ := bnd h
  refine aw_aload_n 1 d_Sc_tearBy_0 rfl rfl ?_
  refine aw_iload_n 2 d_Sc_tearBy_1 rfl rfl ?_
  refine aw_iload_n 3 d_Sc_tearBy_2 rfl rfl ?_
  obtain ⟨y3, h3, h⟩ := bnd h
  refine aw_invV (rest := []) (st' := [.int y3]) (As := [.int x1, .int x2]) 6 d_Sc_tearBy_3 rfl lv_Sc_55 (m_Sc_holds h3) (by decide) (k_Sc_holds h3) rfl rfl rfl (Nat.le_of_ble_eq_true rfl) rfl ?_
  refine aw_if_eq 37 9 d_Sc_tearBy_6 (by decide) rfl (fun c6 => ?_) (fun c6 => ?_)
  · have h := (if_pos c6).symm.trans h
    refine aw_iconst (v := (0 : Int32)) 38 d_Sc_tearBy_37 rfl (by decide) ?_
    cases h
    exact aw_ireturn d_Sc_tearBy_38 rfl rfl
  · have h := (if_neg c6).symm.trans h
    refine aw_aload_n 10 d_Sc_tearBy_9 rfl rfl ?_
    obtain ⟨y10, h10, h⟩ := bnd h
    refine aw_getR 13 d_Sc_tearBy_10 rfl fg_Sc_18 rfl h10 ?_
    refine aw_iload_n 14 d_Sc_tearBy_13 rfl rfl ?_
    refine aw_iload_n 15 d_Sc_tearBy_14 rfl rfl ?_
    obtain ⟨y15, h15, h⟩ := bnd h
    refine aw_invS (rest := [.ref y10]) (st' := [.int y15, .ref y10]) (As := [.int x1, .int x2]) 18 d_Sc_tearBy_15 rfl ls_Sc_46 (m_Sc_cell h15) (by decide) rfl rfl (Nat.le_of_ble_eq_true rfl) rfl ?_
    obtain ⟨y18, h18, h⟩ := bnd h
    refine aw_iald 19 d_Sc_tearBy_18 rfl h18 ?_
    refine aw_aload_n 20 d_Sc_tearBy_19 rfl rfl ?_
    obtain ⟨y20, h20, h⟩ := bnd h
    refine aw_getR 23 d_Sc_tearBy_20 rfl fg_Sc_18 rfl h20 ?_
    refine aw_iload_n 24 d_Sc_tearBy_23 rfl rfl ?_
    refine aw_iload_n 25 d_Sc_tearBy_24 rfl rfl ?_
    refine aw_iconst (v := (1 : Int32)) 26 d_Sc_tearBy_25 rfl (by decide) ?_
    refine aw_isub 27 d_Sc_tearBy_26 rfl ?_
    obtain ⟨y27, h27, h⟩ := bnd h
    refine aw_invS (rest := [.ref y20, .int y18]) (st' := [.int y27, .ref y20, .int y18]) (As := [.int x1, .int (x2 - (1 : Int32))]) 30 d_Sc_tearBy_27 rfl ls_Sc_46 (m_Sc_cell h27) (by decide) rfl rfl (Nat.le_of_ble_eq_true rfl) rfl ?_
    obtain ⟨y30, h30, h⟩ := bnd h
    refine aw_iald 31 d_Sc_tearBy_30 rfl h30 ?_
    refine aw_isub 32 d_Sc_tearBy_31 rfl ?_
    refine aw_iload_n 33 d_Sc_tearBy_32 rfl rfl ?_
    refine aw_iadd 34 d_Sc_tearBy_33 rfl ?_
    refine aw_goto 38 d_Sc_tearBy_34 (by decide) ?_
    cases h
    exact aw_ireturn d_Sc_tearBy_38 rfl rfl
theorem k_Sc_tearBy {q : Int32} {a0 : Nat} {x1 : Int32} {x2 : Int32} {x3 : Int32} {μ : MM} (h : f_Sc_tearBy a0 x1 x2 x3 μ = some q) : μ.1[a0]? = some (0, 8) := by
  unfold f_Sc_tearBy at h
  obtain ⟨_, h1, _⟩ := bnd h
  exact kO_some h1
theorem m_Sc_tear {l : Launch} {q : Int32} {a0 : Nat} {x1 : Int32} {x2 : Int32} {μ : MM} (h : f_Sc_tear a0 x1 x2 μ = some q) : AMet l 4 Y_Sc_tear [.ref a0, .int x1, .int x2] μ (some (.int q)) μ := by
  refine AMet.of (loc := [some (.ref a0), some (.int x1), some (.int x2)]) pn_Sc_tear (Nat.le_of_ble_eq_true rfl) rfl ?_
  unfold f_Sc_tear at h
  obtain ⟨_, hk, h⟩ := bnd h
  refine aw_aload_n 1 d_Sc_tear_0 rfl rfl ?_
  refine aw_iload_n 2 d_Sc_tear_1 rfl rfl ?_
  refine aw_iload_n 3 d_Sc_tear_2 rfl rfl ?_
  obtain ⟨y3, h3, h⟩ := bnd h
  refine aw_invV (rest := []) (st' := [.int y3]) (As := [.int x1, .int x2]) 6 d_Sc_tear_3 rfl lv_Sc_55 (m_Sc_holds h3) (by decide) (k_Sc_holds h3) rfl rfl rfl (Nat.le_of_ble_eq_true rfl) rfl ?_
  refine aw_if_eq 33 9 d_Sc_tear_6 (by decide) rfl (fun c6 => ?_) (fun c6 => ?_)
  · have h := (if_pos c6).symm.trans h
    refine aw_iconst (v := (0 : Int32)) 34 d_Sc_tear_33 rfl (by decide) ?_
    cases h
    exact aw_ireturn d_Sc_tear_34 rfl rfl
  · have h := (if_neg c6).symm.trans h
    refine aw_aload_n 10 d_Sc_tear_9 rfl rfl ?_
    refine aw_iload_n 11 d_Sc_tear_10 rfl rfl ?_
    refine aw_iload_n 12 d_Sc_tear_11 rfl rfl ?_
    refine aw_aload_n 13 d_Sc_tear_12 rfl rfl ?_
    obtain ⟨y13, h13, h⟩ := bnd h
    refine aw_getR 16 d_Sc_tear_13 rfl fg_Sc_27 rfl h13 ?_
    refine aw_iload_n 17 d_Sc_tear_16 rfl rfl ?_
    obtain ⟨y17, h17, h⟩ := bnd h
    refine aw_iald 18 d_Sc_tear_17 rfl h17 ?_
    refine aw_aload_n 19 d_Sc_tear_18 rfl rfl ?_
    obtain ⟨y19, h19, h⟩ := bnd h
    refine aw_getR 22 d_Sc_tear_19 rfl fg_Sc_27 rfl h19 ?_
    refine aw_iload_n 23 d_Sc_tear_22 rfl rfl ?_
    refine aw_iconst (v := (1 : Int32)) 24 d_Sc_tear_23 rfl (by decide) ?_
    refine aw_isub 25 d_Sc_tear_24 rfl ?_
    obtain ⟨y25, h25, h⟩ := bnd h
    refine aw_iald 26 d_Sc_tear_25 rfl h25 ?_
    refine aw_isub 27 d_Sc_tear_26 rfl ?_
    obtain ⟨y27, h27, h⟩ := bnd h
    refine aw_invV (rest := []) (st' := [.int y27]) (As := [.int x1, .int x2, .int (y17 - y25)]) 30 d_Sc_tear_27 rfl lv_Sc_64 (m_Sc_tearBy h27) (by decide) (k_Sc_tearBy h27) rfl rfl rfl (Nat.le_of_ble_eq_true rfl) rfl ?_
    refine aw_goto 34 d_Sc_tear_30 (by decide) ?_
    cases h
    exact aw_ireturn d_Sc_tear_34 rfl rfl
theorem k_Sc_tear {q : Int32} {a0 : Nat} {x1 : Int32} {x2 : Int32} {μ : MM} (h : f_Sc_tear a0 x1 x2 μ = some q) : μ.1[a0]? = some (0, 8) := by
  unfold f_Sc_tear at h
  obtain ⟨_, h1, _⟩ := bnd h
  exact kO_some h1
theorem j_Sc_tornIn_27 {l : Launch} {μ0 : MM} {q : Int32} {a0 : Nat} {x1 : Int32} {x3 : Int32} {s0 : Int32} {s1 : Int32} {μ : MM} {k4 : Int32 → Int32 → Option (Int32)} (hk4 : ∀ (x2 : Int32) (x3 : Int32), k4 x2 x3 = some q → AWm l Y_Sc_tornIn 5 μ0 (some (.int q)) μ 4 [some (.ref a0), some (.int x1), some (.int x2), some (.int x3)] [] μ) (h : f_Sc_tornIn_J27 k4 a0 x1 x3 s0 s1 μ = some q) : AWm l Y_Sc_tornIn 5 μ0 (some (.int q)) μ 27 [some (.ref a0), some (.int x1), none, some (.int x3)] [.int s1, .int s0] μ := by
  unfold f_Sc_tornIn_J27 at h
  refine aw_ior 28 d_Sc_tornIn_27 rfl ?_
  refine aw_istore_n (loc' := [some (.ref a0), some (.int x1), some (.int (s0 ||| s1)), some (.int x3)]) 29 d_Sc_tornIn_28 rfl (by decide) rfl ?_
  refine aw_iinc (v := (x3 + (1 : Int32))) (loc' := [some (.ref a0), some (.int x1), some (.int (s0 ||| s1)), some (.int (x3 + (1 : Int32)))]) 32 d_Sc_tornIn_29 rfl (by decide) rfl rfl rfl ?_
  refine aw_goto 4 d_Sc_tornIn_32 (by decide) ?_
  exact (hk4 (s0 ||| s1) (x3 + (1 : Int32)) h)
theorem l_Sc_tornIn_4 {l : Launch} {μ0 : MM} {q : Int32} {a0 : Nat} {x1 : Int32} {μ : MM} : ∀ (n : Nat) (x2 : Int32) (x3 : Int32), f_Sc_tornIn_L4 a0 x1 μ n x2 x3 = some q → AWm l Y_Sc_tornIn 5 μ0 (some (.int q)) μ 4 [some (.ref a0), some (.int x1), some (.int x2), some (.int x3)] [] μ := by
  intro n
  induction n with
  | zero =>
    intro x2 x3 h
    have h : (none : Option (Int32)) = some q := h
    cases h
  | succ n ih =>
    intro x2 x3 h
    rw [f_Sc_tornIn_L4] at h
    refine aw_iload_n 5 d_Sc_tornIn_4 rfl rfl ?_
    refine aw_bipush (v := (6 : Int32)) 7 d_Sc_tornIn_5 rfl (by decide) ?_
    refine aw_icmp_ge 35 10 d_Sc_tornIn_7 (by decide) rfl (fun c7 => ?_) (fun c7 => ?_)
    · have h := (if_pos c7).symm.trans h
      refine aw_iload_n 36 d_Sc_tornIn_35 rfl rfl ?_
      cases h
      exact aw_ireturn d_Sc_tornIn_36 rfl rfl
    · have h := (if_neg c7).symm.trans h
      refine aw_iload_n 11 d_Sc_tornIn_10 rfl rfl ?_
      refine aw_aload_n 12 d_Sc_tornIn_11 rfl rfl ?_
      refine aw_iload_n 13 d_Sc_tornIn_12 rfl rfl ?_
      refine aw_iload_n 14 d_Sc_tornIn_13 rfl rfl ?_
      obtain ⟨y14, h14, h⟩ := bnd h
      refine aw_invV (rest := [.int x2]) (st' := [.int y14, .int x2]) (As := [.int x3, .int x1]) 17 d_Sc_tornIn_14 rfl lv_Sc_76 (m_Sc_tear h14) (by decide) (k_Sc_tear h14) rfl rfl rfl (Nat.le_of_ble_eq_true rfl) rfl ?_
      refine aw_if_eq 26 20 d_Sc_tornIn_17 (by decide) rfl (fun c17 => ?_) (fun c17 => ?_)
      · have h := (if_pos c17).symm.trans h
        refine aw_iconst (v := (0 : Int32)) 27 d_Sc_tornIn_26 rfl (by decide) ?_
        exact AW.wk [true, true, false, true] rfl (j_Sc_tornIn_27 ih h)
      · have h := (if_neg c17).symm.trans h
        refine aw_iconst (v := (1 : Int32)) 21 d_Sc_tornIn_20 rfl (by decide) ?_
        refine aw_iload_n 22 d_Sc_tornIn_21 rfl rfl ?_
        refine aw_ishl 23 d_Sc_tornIn_22 rfl ?_
        refine aw_goto 27 d_Sc_tornIn_23 (by decide) ?_
        exact AW.wk [true, true, false, true] rfl (j_Sc_tornIn_27 ih h)
theorem m_Sc_tornIn {l : Launch} {q : Int32} {a0 : Nat} {x1 : Int32} {μ : MM} (h : f_Sc_tornIn a0 x1 μ = some q) : AMet l 5 Y_Sc_tornIn [.ref a0, .int x1] μ (some (.int q)) μ := by
  refine AMet.of (loc := [some (.ref a0), some (.int x1), none, none]) pn_Sc_tornIn (Nat.le_of_ble_eq_true rfl) rfl ?_
  unfold f_Sc_tornIn at h
  obtain ⟨_, hk, h⟩ := bnd h
  refine aw_iconst (v := (0 : Int32)) 1 d_Sc_tornIn_0 rfl (by decide) ?_
  refine aw_istore_n (loc' := [some (.ref a0), some (.int x1), some (.int (0 : Int32)), none]) 2 d_Sc_tornIn_1 rfl (by decide) rfl ?_
  refine aw_iconst (v := (0 : Int32)) 3 d_Sc_tornIn_2 rfl (by decide) ?_
  refine aw_istore_n (loc' := [some (.ref a0), some (.int x1), some (.int (0 : Int32)), some (.int (0 : Int32))]) 4 d_Sc_tornIn_3 rfl (by decide) rfl ?_
  exact (l_Sc_tornIn_4 FU _ _ h)
theorem k_Sc_tornIn {q : Int32} {a0 : Nat} {x1 : Int32} {μ : MM} (h : f_Sc_tornIn a0 x1 μ = some q) : μ.1[a0]? = some (0, 8) := by
  unfold f_Sc_tornIn at h
  obtain ⟨_, h1, _⟩ := bnd h
  exact kO_some h1
theorem j_X_keynote_66 {l : Launch} {μ0 : MM} {q : Int32} {a0 : Nat} {x1 : Int32} {x2 : Int32} {μ : MM} (h : f_X_keynote_J66 a0 x1 x2 μ = some q) : AWm l Y_X_keynote 6 μ0 (some (.int q)) μ 66 [some (.ref a0), some (.int x1), some (.int x2)] [] μ := by
  unfold f_X_keynote_J66 at h
  refine aw_aload_n 67 d_X_keynote_66 rfl rfl ?_
  obtain ⟨y67, h67, h⟩ := bnd h
  refine aw_getR 70 d_X_keynote_67 rfl fg_X_10 rfl h67 ?_
  obtain ⟨y70, h70, h⟩ := bnd h
  refine aw_getR 73 d_X_keynote_70 rfl fg_X_117 rfl h70 ?_
  refine aw_iload_n 74 d_X_keynote_73 rfl rfl ?_
  obtain ⟨y74, h74, h⟩ := bnd h
  refine aw_iald 75 d_X_keynote_74 rfl h74 ?_
  refine aw_iload_n 76 d_X_keynote_75 rfl rfl ?_
  obtain ⟨y76, h76, h⟩ := bnd h
  refine aw_invS (rest := []) (st' := [.int y76]) (As := [.int y74, .int x2]) 79 d_X_keynote_76 rfl ls_X_120 (m_Fr_exponent h76) (by decide) rfl rfl (Nat.le_of_ble_eq_true rfl) rfl ?_
  cases h
  exact aw_ireturn d_X_keynote_79 rfl rfl
theorem m_X_keynote {l : Launch} {q : Int32} {a0 : Nat} {x1 : Int32} {x2 : Int32} {μ : MM} (h : f_X_keynote a0 x1 x2 μ = some q) : AMet l 6 Y_X_keynote [.ref a0, .int x1, .int x2] μ (some (.int q)) μ := by
  refine AMet.of (loc := [some (.ref a0), some (.int x1), some (.int x2)]) pn_X_keynote (Nat.le_of_ble_eq_true rfl) rfl ?_
  unfold f_X_keynote at h
  obtain ⟨_, hk, h⟩ := bnd h
  refine aw_iload_n 1 d_X_keynote_0 rfl rfl ?_
  refine aw_if_lt 10 4 d_X_keynote_1 (by decide) rfl (fun c1 => ?_) (fun c1 => ?_)
  · have h := (if_pos c1).symm.trans h
    refine aw_ldc (v := (-1000000000 : Int32)) 12 d_X_keynote_10 rfl c_X_102 ?_
    cases h
    exact aw_ireturn d_X_keynote_12 rfl rfl
  · have h := (if_neg c1).symm.trans h
    refine aw_iload_n 5 d_X_keynote_4 rfl rfl ?_
    refine aw_bipush (v := (24 : Int32)) 7 d_X_keynote_5 rfl (by decide) ?_
    refine aw_icmp_lt 13 10 d_X_keynote_7 (by decide) rfl (fun c7 => ?_) (fun c7 => ?_)
    · have h := (if_pos c7).symm.trans h
      refine aw_iload_n 14 d_X_keynote_13 rfl rfl ?_
      by_cases c14_0 : x2 = (0 : Int32)
      · have h := (if_pos c14_0).symm.trans h
        refine aw_tableIn 56 d_X_keynote_14 (by rw [c14_0]; decide) (by rw [c14_0]; decide) (by rw [c14_0]; rfl) (by decide) ?_
        refine aw_aload_n 57 d_X_keynote_56 rfl rfl ?_
        obtain ⟨y57, h57, h⟩ := bnd h
        refine aw_getR 60 d_X_keynote_57 rfl fg_X_10 rfl h57 ?_
        obtain ⟨y60, h60, h⟩ := bnd h
        refine aw_getR 63 d_X_keynote_60 rfl fg_X_114 rfl h60 ?_
        refine aw_iload_n 64 d_X_keynote_63 rfl rfl ?_
        obtain ⟨y64, h64, h⟩ := bnd h
        refine aw_iald 65 d_X_keynote_64 rfl h64 ?_
        cases h
        exact aw_ireturn d_X_keynote_65 rfl rfl
      · have h := (if_neg c14_0).symm.trans h
        by_cases c14_1 : x2 = (1 : Int32)
        · have h := (if_pos c14_1).symm.trans h
          refine aw_tableIn 66 d_X_keynote_14 (by rw [c14_1]; decide) (by rw [c14_1]; decide) (by rw [c14_1]; rfl) (by decide) ?_
          exact (j_X_keynote_66 h)
        · have h := (if_neg c14_1).symm.trans h
          by_cases c14_2 : x2 = (2 : Int32)
          · have h := (if_pos c14_2).symm.trans h
            refine aw_tableIn 66 d_X_keynote_14 (by rw [c14_2]; decide) (by rw [c14_2]; decide) (by rw [c14_2]; rfl) (by decide) ?_
            exact (j_X_keynote_66 h)
          · have h := (if_neg c14_2).symm.trans h
            by_cases c14_3 : x2 = (3 : Int32)
            · have h := (if_pos c14_3).symm.trans h
              refine aw_tableIn 66 d_X_keynote_14 (by rw [c14_3]; decide) (by rw [c14_3]; decide) (by rw [c14_3]; rfl) (by decide) ?_
              exact (j_X_keynote_66 h)
            · have h := (if_neg c14_3).symm.trans h
              by_cases c14_4 : x2 = (4 : Int32)
              · have h := (if_pos c14_4).symm.trans h
                refine aw_tableIn 80 d_X_keynote_14 (by rw [c14_4]; decide) (by rw [c14_4]; decide) (by rw [c14_4]; rfl) (by decide) ?_
                refine aw_aload_n 81 d_X_keynote_80 rfl rfl ?_
                obtain ⟨y81, h81, h⟩ := bnd h
                refine aw_getR 84 d_X_keynote_81 rfl fg_X_10 rfl h81 ?_
                obtain ⟨y84, h84, h⟩ := bnd h
                refine aw_getR 87 d_X_keynote_84 rfl fg_X_123 rfl h84 ?_
                refine aw_iload_n 88 d_X_keynote_87 rfl rfl ?_
                obtain ⟨y88, h88, h⟩ := bnd h
                refine aw_iald 89 d_X_keynote_88 rfl h88 ?_
                cases h
                exact aw_ireturn d_X_keynote_89 rfl rfl
              · have h := (if_neg c14_4).symm.trans h
                by_cases c14_5 : x2 = (5 : Int32)
                · have h := (if_pos c14_5).symm.trans h
                  refine aw_tableIn 90 d_X_keynote_14 (by rw [c14_5]; decide) (by rw [c14_5]; decide) (by rw [c14_5]; rfl) (by decide) ?_
                  refine aw_aload_n 91 d_X_keynote_90 rfl rfl ?_
                  obtain ⟨y91, h91, h⟩ := bnd h
                  refine aw_getR 94 d_X_keynote_91 rfl fg_X_10 rfl h91 ?_
                  refine aw_iload_n 95 d_X_keynote_94 rfl rfl ?_
                  obtain ⟨y95, h95, h⟩ := bnd h
                  refine aw_invV (rest := []) (st' := [.int y95]) (As := [.int x1]) 98 d_X_keynote_95 rfl lv_X_126 (m_Sc_heldIn h95) (by decide) (k_Sc_heldIn h95) rfl rfl rfl (Nat.le_of_ble_eq_true rfl) rfl ?_
                  cases h
                  exact aw_ireturn d_X_keynote_98 rfl rfl
                · have h := (if_neg c14_5).symm.trans h
                  by_cases c14_6 : x2 = (6 : Int32)
                  · have h := (if_pos c14_6).symm.trans h
                    refine aw_tableIn 99 d_X_keynote_14 (by rw [c14_6]; decide) (by rw [c14_6]; decide) (by rw [c14_6]; rfl) (by decide) ?_
                    refine aw_aload_n 100 d_X_keynote_99 rfl rfl ?_
                    obtain ⟨y100, h100, h⟩ := bnd h
                    refine aw_getR 103 d_X_keynote_100 rfl fg_X_10 rfl h100 ?_
                    refine aw_iload_n 104 d_X_keynote_103 rfl rfl ?_
                    obtain ⟨y104, h104, h⟩ := bnd h
                    refine aw_invV (rest := []) (st' := [.int y104]) (As := [.int x1]) 107 d_X_keynote_104 rfl lv_X_129 (m_Sc_tornIn h104) (by decide) (k_Sc_tornIn h104) rfl rfl rfl (Nat.le_of_ble_eq_true rfl) rfl ?_
                    cases h
                    exact aw_ireturn d_X_keynote_107 rfl rfl
                  · have h := (if_neg c14_6).symm.trans h
                    have e14 : (x2).toInt < 0 ∨ 6 < (x2).toInt := by
                      have z0 := lv_neT (a := 0) c14_0 (by decide)
                      have z1 := lv_neT (a := 1) c14_1 (by decide)
                      have z2 := lv_neT (a := 2) c14_2 (by decide)
                      have z3 := lv_neT (a := 3) c14_3 (by decide)
                      have z4 := lv_neT (a := 4) c14_4 (by decide)
                      have z5 := lv_neT (a := 5) c14_5 (by decide)
                      have z6 := lv_neT (a := 6) c14_6 (by decide)
                      omega
                    refine aw_tableOut 108 d_X_keynote_14 e14 (by decide) ?_
                    refine aw_ldc (v := (-1000000000 : Int32)) 110 d_X_keynote_108 rfl c_X_102 ?_
                    cases h
                    exact aw_ireturn d_X_keynote_110 rfl rfl
    · have h := (if_neg c7).symm.trans h
      refine aw_ldc (v := (-1000000000 : Int32)) 12 d_X_keynote_10 rfl c_X_102 ?_
      cases h
      exact aw_ireturn d_X_keynote_12 rfl rfl
theorem k_X_keynote {q : Int32} {a0 : Nat} {x1 : Int32} {x2 : Int32} {μ : MM} (h : f_X_keynote a0 x1 x2 μ = some q) : μ.1[a0]? = some (0, 0) := by
  unfold f_X_keynote at h
  obtain ⟨_, h1, _⟩ := bnd h
  exact kO_some h1
theorem m_M_leap {l : Launch} {q : Int32} {a0 : Nat} {a1 : Nat} {x2 : Int32} {x3 : Int32} {μ : MM} (h : f_M_leap a0 a1 x2 x3 μ = some q) : AMet l 2 Y_M_leap [.ref a0, .ref a1, .int x2, .int x3] μ (some (.int q)) μ := by
  refine AMet.of (loc := [some (.ref a0), some (.ref a1), some (.int x2), some (.int x3)]) pn_M_leap (Nat.le_of_ble_eq_true rfl) rfl ?_
  unfold f_M_leap at h
  obtain ⟨_, hk, h⟩ := bnd h
  refine aw_iload_n 1 d_M_leap_0 rfl rfl ?_
  refine aw_iconst (v := (-1 : Int32)) 2 d_M_leap_1 rfl (by decide) ?_
  refine aw_icmp_ne 9 5 d_M_leap_2 (by decide) rfl (fun c2 => ?_) (fun c2 => ?_)
  · have h := (if_neg c2).symm.trans h
    refine aw_aload_n 10 d_M_leap_9 rfl rfl ?_
    refine aw_iload_n 11 d_M_leap_10 rfl rfl ?_
    refine aw_iload_n 12 d_M_leap_11 rfl rfl ?_
    refine aw_iconst (v := (1 : Int32)) 13 d_M_leap_12 rfl (by decide) ?_
    refine aw_isub 14 d_M_leap_13 rfl ?_
    obtain ⟨y14, h14, h⟩ := bnd h
    refine aw_invS (rest := [.ref a1]) (st' := [.int y14, .ref a1]) (As := [.int x2, .int (x3 - (1 : Int32))]) 17 d_M_leap_14 rfl ls_M_158 (m_M_cellOf h14) (by decide) rfl rfl (Nat.le_of_ble_eq_true rfl) rfl ?_
    obtain ⟨y17, h17, h⟩ := bnd h
    refine aw_iald 18 d_M_leap_17 rfl h17 ?_
    refine aw_aload_n 19 d_M_leap_18 rfl rfl ?_
    refine aw_iload_n 20 d_M_leap_19 rfl rfl ?_
    refine aw_iload_n 21 d_M_leap_20 rfl rfl ?_
    obtain ⟨y21, h21, h⟩ := bnd h
    refine aw_invS (rest := [.ref a1, .int y17]) (st' := [.int y21, .ref a1, .int y17]) (As := [.int x2, .int x3]) 24 d_M_leap_21 rfl ls_M_158 (m_M_cellOf h21) (by decide) rfl rfl (Nat.le_of_ble_eq_true rfl) rfl ?_
    obtain ⟨y24, h24, h⟩ := bnd h
    refine aw_iald 25 d_M_leap_24 rfl h24 ?_
    refine aw_isub 26 d_M_leap_25 rfl ?_
    cases h
    exact aw_ireturn d_M_leap_26 rfl rfl
  · have h := (if_pos c2).symm.trans h
    refine aw_iconst (v := (0 : Int32)) 6 d_M_leap_5 rfl (by decide) ?_
    refine aw_goto 26 d_M_leap_6 (by decide) ?_
    cases h
    exact aw_ireturn d_M_leap_26 rfl rfl
theorem k_M_leap {q : Int32} {a0 : Nat} {a1 : Nat} {x2 : Int32} {x3 : Int32} {μ : MM} (h : f_M_leap a0 a1 x2 x3 μ = some q) : μ.1[a0]? = some (0, 1) := by
  unfold f_M_leap at h
  obtain ⟨_, h1, _⟩ := bnd h
  exact kO_some h1
theorem l_M_goesTo_17 {l : Launch} {μ0 : MM} {q : MM} {a0 : Nat} {x1 : Int32} : ∀ (n : Nat) (x2 : Int32) (μ : MM), f_M_goesTo_L17 a0 x1 n x2 μ = some q → AWm l Y_M_goesTo 3 μ0 none q 17 [some (.ref a0), some (.int x1), some (.int x2)] [] μ := by
  intro n
  induction n with
  | zero =>
    intro x2 μ h
    have h : (none : Option (MM)) = some q := h
    cases h
  | succ n ih =>
    intro x2 μ h
    rw [f_M_goesTo_L17] at h
    refine aw_iload_n 18 d_M_goesTo_17 rfl rfl ?_
    refine aw_iload_n 19 d_M_goesTo_18 rfl rfl ?_
    refine aw_icmp_gt 100 22 d_M_goesTo_19 (by decide) rfl (fun c19 => ?_) (fun c19 => ?_)
    · have h := (if_pos c19).symm.trans h
      cases h
      exact aw_return d_M_goesTo_100 rfl
    · have h := (if_neg c19).symm.trans h
      refine aw_aload_n 23 d_M_goesTo_22 rfl rfl ?_
      refine aw_dup 24 d_M_goesTo_23 rfl rfl ?_
      obtain ⟨y24, h24, h⟩ := bnd h
      refine aw_getI 27 d_M_goesTo_24 rfl fg_M_202 (Or.inl rfl) h24 ?_
      refine aw_aload_n 28 d_M_goesTo_27 rfl rfl ?_
      refine aw_aload_n 29 d_M_goesTo_28 rfl rfl ?_
      obtain ⟨y29, h29, h⟩ := bnd h
      refine aw_getR 32 d_M_goesTo_29 rfl fg_M_17 rfl h29 ?_
      refine aw_aload_n 33 d_M_goesTo_32 rfl rfl ?_
      obtain ⟨y33, h33, h⟩ := bnd h
      refine aw_getR 36 d_M_goesTo_33 rfl fg_M_30 rfl h33 ?_
      refine aw_iload_n 37 d_M_goesTo_36 rfl rfl ?_
      obtain ⟨y37, h37, h⟩ := bnd h
      refine aw_iald 38 d_M_goesTo_37 rfl h37 ?_
      refine aw_iload_n 39 d_M_goesTo_38 rfl rfl ?_
      obtain ⟨y39, h39, h⟩ := bnd h
      refine aw_invV (rest := [.int y24, .ref a0]) (st' := [.int y39, .int y24, .ref a0]) (As := [.ref y29, .int y37, .int x2]) 42 d_M_goesTo_39 rfl lv_M_211 (m_M_leap h39) (by decide) (k_M_leap h39) rfl rfl rfl (Nat.le_of_ble_eq_true rfl) rfl ?_
      refine aw_iadd 43 d_M_goesTo_42 rfl ?_
      obtain ⟨μ43, h43, h⟩ := bnd h
      refine aw_putI 46 false d_M_goesTo_43 rfl fp_M_202 (fun z => nomatch z) rfl h43 ?_
      refine aw_aload_n 47 d_M_goesTo_46 rfl rfl ?_
      refine aw_dup 48 d_M_goesTo_47 rfl rfl ?_
      obtain ⟨y48, h48, h⟩ := bnd h
      refine aw_getI 51 d_M_goesTo_48 rfl fg_M_205 (Or.inl rfl) h48 ?_
      refine aw_aload_n 52 d_M_goesTo_51 rfl rfl ?_
      refine aw_aload_n 53 d_M_goesTo_52 rfl rfl ?_
      obtain ⟨y53, h53, h⟩ := bnd h
      refine aw_getR 56 d_M_goesTo_53 rfl fg_M_20 rfl h53 ?_
      refine aw_aload_n 57 d_M_goesTo_56 rfl rfl ?_
      obtain ⟨y57, h57, h⟩ := bnd h
      refine aw_getR 60 d_M_goesTo_57 rfl fg_M_30 rfl h57 ?_
      refine aw_iload_n 61 d_M_goesTo_60 rfl rfl ?_
      obtain ⟨y61, h61, h⟩ := bnd h
      refine aw_iald 62 d_M_goesTo_61 rfl h61 ?_
      refine aw_iload_n 63 d_M_goesTo_62 rfl rfl ?_
      obtain ⟨y63, h63, h⟩ := bnd h
      refine aw_invV (rest := [.int y48, .ref a0]) (st' := [.int y63, .int y48, .ref a0]) (As := [.ref y53, .int y61, .int x2]) 66 d_M_goesTo_63 rfl lv_M_211 (m_M_leap h63) (by decide) (k_M_leap h63) rfl rfl rfl (Nat.le_of_ble_eq_true rfl) rfl ?_
      refine aw_iadd 67 d_M_goesTo_66 rfl ?_
      obtain ⟨μ67, h67, h⟩ := bnd h
      refine aw_putI 70 false d_M_goesTo_67 rfl fp_M_205 (fun z => nomatch z) rfl h67 ?_
      refine aw_aload_n 71 d_M_goesTo_70 rfl rfl ?_
      refine aw_dup 72 d_M_goesTo_71 rfl rfl ?_
      obtain ⟨y72, h72, h⟩ := bnd h
      refine aw_getI 75 d_M_goesTo_72 rfl fg_M_208 (Or.inl rfl) h72 ?_
      refine aw_aload_n 76 d_M_goesTo_75 rfl rfl ?_
      refine aw_aload_n 77 d_M_goesTo_76 rfl rfl ?_
      obtain ⟨y77, h77, h⟩ := bnd h
      refine aw_getR 80 d_M_goesTo_77 rfl fg_M_23 rfl h77 ?_
      refine aw_aload_n 81 d_M_goesTo_80 rfl rfl ?_
      obtain ⟨y81, h81, h⟩ := bnd h
      refine aw_getR 84 d_M_goesTo_81 rfl fg_M_30 rfl h81 ?_
      refine aw_iload_n 85 d_M_goesTo_84 rfl rfl ?_
      obtain ⟨y85, h85, h⟩ := bnd h
      refine aw_iald 86 d_M_goesTo_85 rfl h85 ?_
      refine aw_iload_n 87 d_M_goesTo_86 rfl rfl ?_
      obtain ⟨y87, h87, h⟩ := bnd h
      refine aw_invV (rest := [.int y72, .ref a0]) (st' := [.int y87, .int y72, .ref a0]) (As := [.ref y77, .int y85, .int x2]) 90 d_M_goesTo_87 rfl lv_M_211 (m_M_leap h87) (by decide) (k_M_leap h87) rfl rfl rfl (Nat.le_of_ble_eq_true rfl) rfl ?_
      refine aw_iadd 91 d_M_goesTo_90 rfl ?_
      obtain ⟨μ91, h91, h⟩ := bnd h
      refine aw_putI 94 false d_M_goesTo_91 rfl fp_M_208 (fun z => nomatch z) rfl h91 ?_
      refine aw_iinc (v := (x2 + (1 : Int32))) (loc' := [some (.ref a0), some (.int x1), some (.int (x2 + (1 : Int32)))]) 97 d_M_goesTo_94 rfl (by decide) rfl rfl rfl ?_
      refine aw_goto 17 d_M_goesTo_97 (by decide) ?_
      exact (ih (x2 + (1 : Int32)) μ91 h)
theorem m_M_goesTo {l : Launch} {q : MM} {a0 : Nat} {x1 : Int32} {μ : MM} (h : f_M_goesTo a0 x1 μ = some q) : AMet l 3 Y_M_goesTo [.ref a0, .int x1] μ none q := by
  refine AMet.of (loc := [some (.ref a0), some (.int x1), none]) pn_M_goesTo (Nat.le_of_ble_eq_true rfl) rfl ?_
  unfold f_M_goesTo at h
  obtain ⟨_, hk, h⟩ := bnd h
  refine aw_aload_n 1 d_M_goesTo_0 rfl rfl ?_
  refine aw_iconst (v := (0 : Int32)) 2 d_M_goesTo_1 rfl (by decide) ?_
  obtain ⟨μ2, h2, h⟩ := bnd h
  refine aw_putI 5 false d_M_goesTo_2 rfl fp_M_202 (fun z => nomatch z) rfl h2 ?_
  refine aw_aload_n 6 d_M_goesTo_5 rfl rfl ?_
  refine aw_iconst (v := (0 : Int32)) 7 d_M_goesTo_6 rfl (by decide) ?_
  obtain ⟨μ7, h7, h⟩ := bnd h
  refine aw_putI 10 false d_M_goesTo_7 rfl fp_M_205 (fun z => nomatch z) rfl h7 ?_
  refine aw_aload_n 11 d_M_goesTo_10 rfl rfl ?_
  refine aw_iconst (v := (0 : Int32)) 12 d_M_goesTo_11 rfl (by decide) ?_
  obtain ⟨μ12, h12, h⟩ := bnd h
  refine aw_putI 15 false d_M_goesTo_12 rfl fp_M_208 (fun z => nomatch z) rfl h12 ?_
  refine aw_iconst (v := (1 : Int32)) 16 d_M_goesTo_15 rfl (by decide) ?_
  refine aw_istore_n (loc' := [some (.ref a0), some (.int x1), some (.int (1 : Int32))]) 17 d_M_goesTo_16 rfl (by decide) rfl ?_
  exact (l_M_goesTo_17 FU _ _ h)
theorem k_M_goesTo {q : MM} {a0 : Nat} {x1 : Int32} {μ : MM} (h : f_M_goesTo a0 x1 μ = some q) : μ.1[a0]? = some (0, 1) := by
  unfold f_M_goesTo at h
  obtain ⟨_, h1, _⟩ := bnd h
  exact kO_some h1
theorem m_M_keynoteOf {l : Launch} {q : Int32 × MM} {a0 : Nat} {x1 : Int32} {μ : MM} (h : f_M_keynoteOf a0 x1 μ = some q) : AMet l 4 Y_M_keynoteOf [.ref a0, .int x1] μ (some (.int q.1)) q.2 := by
  refine AMet.of (loc := [some (.ref a0), some (.int x1)]) pn_M_keynoteOf (Nat.le_of_ble_eq_true rfl) rfl ?_
  unfold f_M_keynoteOf at h
  obtain ⟨_, hk, h⟩ := bnd h
  refine aw_aload_n 1 d_M_keynoteOf_0 rfl rfl ?_
  refine aw_iload_n 2 d_M_keynoteOf_1 rfl rfl ?_
  obtain ⟨μ2, h2, h⟩ := bnd h
  refine aw_invV (rest := []) (st' := []) (As := [.int x1]) 5 d_M_keynoteOf_2 rfl lv_M_215 (m_M_goesTo h2) (by decide) (k_M_goesTo h2) rfl rfl rfl (Nat.le_of_ble_eq_true rfl) rfl ?_
  refine aw_aload_n 6 d_M_keynoteOf_5 rfl rfl ?_
  obtain ⟨y6, h6, h⟩ := bnd h
  refine aw_getI 9 d_M_keynoteOf_6 rfl fg_M_202 (Or.inl rfl) h6 ?_
  refine aw_aload_n 10 d_M_keynoteOf_9 rfl rfl ?_
  obtain ⟨y10, h10, h⟩ := bnd h
  refine aw_getI 13 d_M_keynoteOf_10 rfl fg_M_205 (Or.inl rfl) h10 ?_
  refine aw_aload_n 14 d_M_keynoteOf_13 rfl rfl ?_
  obtain ⟨y14, h14, h⟩ := bnd h
  refine aw_getI 17 d_M_keynoteOf_14 rfl fg_M_208 (Or.inl rfl) h14 ?_
  obtain ⟨y17, h17, h⟩ := bnd h
  refine aw_invS (rest := []) (st' := [.int y17]) (As := [.int y6, .int y10, .int y14]) 20 d_M_keynoteOf_17 rfl ls_M_172 (m_M_mills h17) (by decide) rfl rfl (Nat.le_of_ble_eq_true rfl) rfl ?_
  cases h
  exact aw_ireturn d_M_keynoteOf_20 rfl rfl
theorem k_M_keynoteOf {q : Int32 × MM} {a0 : Nat} {x1 : Int32} {μ : MM} (h : f_M_keynoteOf a0 x1 μ = some q) : μ.1[a0]? = some (0, 1) := by
  unfold f_M_keynoteOf at h
  obtain ⟨_, h1, _⟩ := bnd h
  exact kO_some h1
theorem m_M_sizeAt {l : Launch} {q : Int32} {a0 : Nat} {x1 : Int32} {x2 : Int32} {μ : MM} (h : f_M_sizeAt a0 x1 x2 μ = some q) : AMet l 2 Y_M_sizeAt [.ref a0, .int x1, .int x2] μ (some (.int q)) μ := by
  refine AMet.of (loc := [some (.ref a0), some (.int x1), some (.int x2)]) pn_M_sizeAt (Nat.le_of_ble_eq_true rfl) rfl ?_
  unfold f_M_sizeAt at h
  obtain ⟨_, hk, h⟩ := bnd h
  refine aw_aload_n 1 d_M_sizeAt_0 rfl rfl ?_
  obtain ⟨y1, h1, h⟩ := bnd h
  refine aw_getR 4 d_M_sizeAt_1 rfl fg_M_17 rfl h1 ?_
  refine aw_iload_n 5 d_M_sizeAt_4 rfl rfl ?_
  refine aw_iload_n 6 d_M_sizeAt_5 rfl rfl ?_
  obtain ⟨y6, h6, h⟩ := bnd h
  refine aw_invS (rest := [.ref y1]) (st' := [.int y6, .ref y1]) (As := [.int x1, .int x2]) 9 d_M_sizeAt_6 rfl ls_M_158 (m_M_cellOf h6) (by decide) rfl rfl (Nat.le_of_ble_eq_true rfl) rfl ?_
  obtain ⟨y9, h9, h⟩ := bnd h
  refine aw_iald 10 d_M_sizeAt_9 rfl h9 ?_
  refine aw_aload_n 11 d_M_sizeAt_10 rfl rfl ?_
  obtain ⟨y11, h11, h⟩ := bnd h
  refine aw_getR 14 d_M_sizeAt_11 rfl fg_M_20 rfl h11 ?_
  refine aw_iload_n 15 d_M_sizeAt_14 rfl rfl ?_
  refine aw_iload_n 16 d_M_sizeAt_15 rfl rfl ?_
  obtain ⟨y16, h16, h⟩ := bnd h
  refine aw_invS (rest := [.ref y11, .int y9]) (st' := [.int y16, .ref y11, .int y9]) (As := [.int x1, .int x2]) 19 d_M_sizeAt_16 rfl ls_M_158 (m_M_cellOf h16) (by decide) rfl rfl (Nat.le_of_ble_eq_true rfl) rfl ?_
  obtain ⟨y19, h19, h⟩ := bnd h
  refine aw_iald 20 d_M_sizeAt_19 rfl h19 ?_
  refine aw_aload_n 21 d_M_sizeAt_20 rfl rfl ?_
  obtain ⟨y21, h21, h⟩ := bnd h
  refine aw_getR 24 d_M_sizeAt_21 rfl fg_M_23 rfl h21 ?_
  refine aw_iload_n 25 d_M_sizeAt_24 rfl rfl ?_
  refine aw_iload_n 26 d_M_sizeAt_25 rfl rfl ?_
  obtain ⟨y26, h26, h⟩ := bnd h
  refine aw_invS (rest := [.ref y21, .int y19, .int y9]) (st' := [.int y26, .ref y21, .int y19, .int y9]) (As := [.int x1, .int x2]) 29 d_M_sizeAt_26 rfl ls_M_158 (m_M_cellOf h26) (by decide) rfl rfl (Nat.le_of_ble_eq_true rfl) rfl ?_
  obtain ⟨y29, h29, h⟩ := bnd h
  refine aw_iald 30 d_M_sizeAt_29 rfl h29 ?_
  obtain ⟨y30, h30, h⟩ := bnd h
  refine aw_invS (rest := []) (st' := [.int y30]) (As := [.int y9, .int y19, .int y29]) 33 d_M_sizeAt_30 rfl ls_M_172 (m_M_mills h30) (by decide) rfl rfl (Nat.le_of_ble_eq_true rfl) rfl ?_
  cases h
  exact aw_ireturn d_M_sizeAt_33 rfl rfl
theorem k_M_sizeAt {q : Int32} {a0 : Nat} {x1 : Int32} {x2 : Int32} {μ : MM} (h : f_M_sizeAt a0 x1 x2 μ = some q) : μ.1[a0]? = some (0, 1) := by
  unfold f_M_sizeAt at h
  obtain ⟨_, h1, _⟩ := bnd h
  exact kO_some h1
theorem j_M_tornBy_24 {l : Launch} {μ0 : MM} {q : Int32} {a0 : Nat} {x1 : Int32} {x2 : Int32} {s0 : Int32} {μ : MM} (h : f_M_tornBy_J24 a0 x1 x2 s0 μ = some q) : AWm l Y_M_tornBy 3 μ0 (some (.int q)) μ 24 [some (.ref a0), some (.int x1), some (.int x2), none, none] [.int s0] μ := by
  unfold f_M_tornBy_J24 at h
  refine aw_istore (loc' := [some (.ref a0), some (.int x1), some (.int x2), none, some (.int s0)]) 26 d_M_tornBy_24 rfl (by decide) rfl ?_
  refine aw_aload_n 27 d_M_tornBy_26 rfl rfl ?_
  refine aw_iload_n 28 d_M_tornBy_27 rfl rfl ?_
  refine aw_iload_n 29 d_M_tornBy_28 rfl rfl ?_
  obtain ⟨y29, h29, h⟩ := bnd h
  refine aw_invV (rest := []) (st' := [.int y29]) (As := [.int x1, .int x2]) 32 d_M_tornBy_29 rfl lv_M_219 (m_M_sizeAt h29) (by decide) (k_M_sizeAt h29) rfl rfl rfl (Nat.le_of_ble_eq_true rfl) rfl ?_
  refine aw_aload_n 33 d_M_tornBy_32 rfl rfl ?_
  refine aw_iload_n 34 d_M_tornBy_33 rfl rfl ?_
  refine aw_iload_n 35 d_M_tornBy_34 rfl rfl ?_
  refine aw_iconst (v := (1 : Int32)) 36 d_M_tornBy_35 rfl (by decide) ?_
  refine aw_isub 37 d_M_tornBy_36 rfl ?_
  obtain ⟨y37, h37, h⟩ := bnd h
  refine aw_invV (rest := [.int y29]) (st' := [.int y37, .int y29]) (As := [.int x1, .int (x2 - (1 : Int32))]) 40 d_M_tornBy_37 rfl lv_M_219 (m_M_sizeAt h37) (by decide) (k_M_sizeAt h37) rfl rfl rfl (Nat.le_of_ble_eq_true rfl) rfl ?_
  refine aw_isub 41 d_M_tornBy_40 rfl ?_
  refine aw_iload 43 d_M_tornBy_41 rfl rfl ?_
  refine aw_iadd 44 d_M_tornBy_43 rfl ?_
  cases h
  exact aw_ireturn d_M_tornBy_44 rfl rfl
theorem m_M_tornBy {l : Launch} {q : Int32} {a0 : Nat} {x1 : Int32} {x2 : Int32} {x3 : Int32} {μ : MM} (h : f_M_tornBy a0 x1 x2 x3 μ = some q) : AMet l 3 Y_M_tornBy [.ref a0, .int x1, .int x2, .int x3] μ (some (.int q)) μ := by
  refine AMet.of (loc := [some (.ref a0), some (.int x1), some (.int x2), some (.int x3), none]) pn_M_tornBy (Nat.le_of_ble_eq_true rfl) rfl ?_
  unfold f_M_tornBy at h
  obtain ⟨_, hk, h⟩ := bnd h
  refine aw_iload_n 1 d_M_tornBy_0 rfl rfl ?_
  refine aw_iconst (v := (-1 : Int32)) 2 d_M_tornBy_1 rfl (by decide) ?_
  refine aw_icmp_ne 9 5 d_M_tornBy_2 (by decide) rfl (fun c2 => ?_) (fun c2 => ?_)
  · have h := (if_neg c2).symm.trans h
    refine aw_aload_n 10 d_M_tornBy_9 rfl rfl ?_
    refine aw_iload_n 11 d_M_tornBy_10 rfl rfl ?_
    refine aw_iload_n 12 d_M_tornBy_11 rfl rfl ?_
    refine aw_iconst (v := (1 : Int32)) 13 d_M_tornBy_12 rfl (by decide) ?_
    refine aw_isub 14 d_M_tornBy_13 rfl ?_
    obtain ⟨y14, h14, h⟩ := bnd h
    refine aw_invV (rest := []) (st' := [.int y14]) (As := [.int x3, .int (x2 - (1 : Int32))]) 17 d_M_tornBy_14 rfl lv_M_219 (m_M_sizeAt h14) (by decide) (k_M_sizeAt h14) rfl rfl rfl (Nat.le_of_ble_eq_true rfl) rfl ?_
    refine aw_aload_n 18 d_M_tornBy_17 rfl rfl ?_
    refine aw_iload_n 19 d_M_tornBy_18 rfl rfl ?_
    refine aw_iload_n 20 d_M_tornBy_19 rfl rfl ?_
    obtain ⟨y20, h20, h⟩ := bnd h
    refine aw_invV (rest := [.int y14]) (st' := [.int y20, .int y14]) (As := [.int x3, .int x2]) 23 d_M_tornBy_20 rfl lv_M_219 (m_M_sizeAt h20) (by decide) (k_M_sizeAt h20) rfl rfl rfl (Nat.le_of_ble_eq_true rfl) rfl ?_
    refine aw_isub 24 d_M_tornBy_23 rfl ?_
    exact AW.wk [true, true, true, false, true] rfl (j_M_tornBy_24 h)
  · have h := (if_pos c2).symm.trans h
    refine aw_iconst (v := (0 : Int32)) 6 d_M_tornBy_5 rfl (by decide) ?_
    refine aw_goto 24 d_M_tornBy_6 (by decide) ?_
    exact AW.wk [true, true, true, false, true] rfl (j_M_tornBy_24 h)
theorem k_M_tornBy {q : Int32} {a0 : Nat} {x1 : Int32} {x2 : Int32} {x3 : Int32} {μ : MM} (h : f_M_tornBy a0 x1 x2 x3 μ = some q) : μ.1[a0]? = some (0, 1) := by
  unfold f_M_tornBy at h
  obtain ⟨_, h1, _⟩ := bnd h
  exact kO_some h1
theorem j_M_keynote_92 {l : Launch} {μ0 : MM} {q : Int32 × MM} {a0 : Nat} {x1 : Int32} {x2 : Int32} {x3 : Int32} {x4 : Int32} {x6 : Int32} {s0 : Int32} {s1 : Int32} {μ : MM} {k37 : Int32 → Int32 → Int32 → Option (Int32 × MM)} (hk37 : ∀ (x4 : Int32) (x5 : Int32) (x6 : Int32), k37 x4 x5 x6 = some q → AWm l Y_M_keynote 5 μ0 (some (.int q.1)) q.2 37 [some (.ref a0), some (.int x1), some (.int x2), some (.int x3), some (.int x4), some (.int x5), some (.int x6)] [] μ) (h : f_M_keynote_J92 k37 a0 x1 x2 x3 x4 x6 s0 s1 μ = some q) : AWm l Y_M_keynote 5 μ0 (some (.int q.1)) q.2 92 [some (.ref a0), some (.int x1), some (.int x2), some (.int x3), some (.int x4), none, some (.int x6)] [.int s1, .int s0] μ := by
  unfold f_M_keynote_J92 at h
  refine aw_ior 93 d_M_keynote_92 rfl ?_
  refine aw_istore (loc' := [some (.ref a0), some (.int x1), some (.int x2), some (.int x3), some (.int x4), some (.int (s0 ||| s1)), some (.int x6)]) 95 d_M_keynote_93 rfl (by decide) rfl ?_
  refine aw_iinc (v := (x6 + (1 : Int32))) (loc' := [some (.ref a0), some (.int x1), some (.int x2), some (.int x3), some (.int x4), some (.int (s0 ||| s1)), some (.int (x6 + (1 : Int32)))]) 98 d_M_keynote_95 rfl (by decide) rfl rfl rfl ?_
  refine aw_goto 37 d_M_keynote_98 (by decide) ?_
  exact (hk37 x4 (s0 ||| s1) (x6 + (1 : Int32)) h)
theorem l_M_keynote_37 {l : Launch} {μ0 : MM} {q : Int32 × MM} {a0 : Nat} {x1 : Int32} {x2 : Int32} {x3 : Int32} {μ : MM} : ∀ (n : Nat) (x4 : Int32) (x5 : Int32) (x6 : Int32), f_M_keynote_L37 a0 x1 x2 x3 μ n x4 x5 x6 = some q → AWm l Y_M_keynote 5 μ0 (some (.int q.1)) q.2 37 [some (.ref a0), some (.int x1), some (.int x2), some (.int x3), some (.int x4), some (.int x5), some (.int x6)] [] μ := by
  intro n
  induction n with
  | zero =>
    intro x4 x5 x6 h
    have h : (none : Option (Int32 × MM)) = some q := h
    cases h
  | succ n ih =>
    intro x4 x5 x6 h
    rw [f_M_keynote_L37] at h
    refine aw_iload 39 d_M_keynote_37 rfl rfl ?_
    refine aw_bipush (v := (6 : Int32)) 41 d_M_keynote_39 rfl (by decide) ?_
    refine aw_icmp_ge 101 44 d_M_keynote_41 (by decide) rfl (fun c41 => ?_) (fun c41 => ?_)
    · have h := (if_pos c41).symm.trans h
      refine aw_iload_n 102 d_M_keynote_101 rfl rfl ?_
      by_cases c102_0 : x2 = (0 : Int32)
      · have h := (if_pos c102_0).symm.trans h
        refine aw_tableIn 140 d_M_keynote_102 (by rw [c102_0]; decide) (by rw [c102_0]; decide) (by rw [c102_0]; rfl) (by decide) ?_
        refine aw_iload_n 141 d_M_keynote_140 rfl rfl ?_
        cases h
        exact aw_ireturn d_M_keynote_141 rfl rfl
      · have h := (if_neg c102_0).symm.trans h
        by_cases c102_1 : x2 = (1 : Int32)
        · have h := (if_pos c102_1).symm.trans h
          refine aw_tableIn 142 d_M_keynote_102 (by rw [c102_1]; decide) (by rw [c102_1]; decide) (by rw [c102_1]; rfl) (by decide) ?_
          refine aw_aload_n 143 d_M_keynote_142 rfl rfl ?_
          obtain ⟨y143, h143, h⟩ := bnd h
          refine aw_getI 146 d_M_keynote_143 rfl fg_M_202 (Or.inl rfl) h143 ?_
          cases h
          exact aw_ireturn d_M_keynote_146 rfl rfl
        · have h := (if_neg c102_1).symm.trans h
          by_cases c102_2 : x2 = (2 : Int32)
          · have h := (if_pos c102_2).symm.trans h
            refine aw_tableIn 147 d_M_keynote_102 (by rw [c102_2]; decide) (by rw [c102_2]; decide) (by rw [c102_2]; rfl) (by decide) ?_
            refine aw_aload_n 148 d_M_keynote_147 rfl rfl ?_
            obtain ⟨y148, h148, h⟩ := bnd h
            refine aw_getI 151 d_M_keynote_148 rfl fg_M_205 (Or.inl rfl) h148 ?_
            cases h
            exact aw_ireturn d_M_keynote_151 rfl rfl
          · have h := (if_neg c102_2).symm.trans h
            by_cases c102_3 : x2 = (3 : Int32)
            · have h := (if_pos c102_3).symm.trans h
              refine aw_tableIn 152 d_M_keynote_102 (by rw [c102_3]; decide) (by rw [c102_3]; decide) (by rw [c102_3]; rfl) (by decide) ?_
              refine aw_aload_n 153 d_M_keynote_152 rfl rfl ?_
              obtain ⟨y153, h153, h⟩ := bnd h
              refine aw_getI 156 d_M_keynote_153 rfl fg_M_208 (Or.inl rfl) h153 ?_
              cases h
              exact aw_ireturn d_M_keynote_156 rfl rfl
            · have h := (if_neg c102_3).symm.trans h
              by_cases c102_4 : x2 = (4 : Int32)
              · have h := (if_pos c102_4).symm.trans h
                refine aw_tableIn 157 d_M_keynote_102 (by rw [c102_4]; decide) (by rw [c102_4]; decide) (by rw [c102_4]; rfl) (by decide) ?_
                refine aw_aload_n 158 d_M_keynote_157 rfl rfl ?_
                obtain ⟨y158, h158, h⟩ := bnd h
                refine aw_getR 161 d_M_keynote_158 rfl fg_M_30 rfl h158 ?_
                refine aw_iload_n 162 d_M_keynote_161 rfl rfl ?_
                obtain ⟨y162, h162, h⟩ := bnd h
                refine aw_iald 163 d_M_keynote_162 rfl h162 ?_
                cases h
                exact aw_ireturn d_M_keynote_163 rfl rfl
              · have h := (if_neg c102_4).symm.trans h
                by_cases c102_5 : x2 = (5 : Int32)
                · have h := (if_pos c102_5).symm.trans h
                  refine aw_tableIn 164 d_M_keynote_102 (by rw [c102_5]; decide) (by rw [c102_5]; decide) (by rw [c102_5]; rfl) (by decide) ?_
                  refine aw_iload 166 d_M_keynote_164 rfl rfl ?_
                  cases h
                  exact aw_ireturn d_M_keynote_166 rfl rfl
                · have h := (if_neg c102_5).symm.trans h
                  have e102 : (x2).toInt < 0 ∨ 5 < (x2).toInt := by
                    have z0 := lv_neT (a := 0) c102_0 (by decide)
                    have z1 := lv_neT (a := 1) c102_1 (by decide)
                    have z2 := lv_neT (a := 2) c102_2 (by decide)
                    have z3 := lv_neT (a := 3) c102_3 (by decide)
                    have z4 := lv_neT (a := 4) c102_4 (by decide)
                    have z5 := lv_neT (a := 5) c102_5 (by decide)
                    omega
                  refine aw_tableOut 167 d_M_keynote_102 e102 (by decide) ?_
                  refine aw_iload 169 d_M_keynote_167 rfl rfl ?_
                  cases h
                  exact aw_ireturn d_M_keynote_169 rfl rfl
    · have h := (if_neg c41).symm.trans h
      refine aw_aload_n 45 d_M_keynote_44 rfl rfl ?_
      refine aw_iload 47 d_M_keynote_45 rfl rfl ?_
      refine aw_iload_n 48 d_M_keynote_47 rfl rfl ?_
      obtain ⟨y48, h48, h⟩ := bnd h
      refine aw_invV (rest := []) (st' := [.int y48]) (As := [.int x6, .int x1]) 51 d_M_keynote_48 rfl lv_M_193 (m_M_isHeld h48) (by decide) (k_M_isHeld h48) rfl rfl rfl (Nat.le_of_ble_eq_true rfl) rfl ?_
      refine aw_if_ne 57 54 d_M_keynote_51 (by decide) rfl (fun c51 => ?_) (fun c51 => ?_)
      · have h := (if_neg c51).symm.trans h
        refine aw_iload 59 d_M_keynote_57 rfl rfl ?_
        refine aw_iconst (v := (1 : Int32)) 60 d_M_keynote_59 rfl (by decide) ?_
        refine aw_iload 62 d_M_keynote_60 rfl rfl ?_
        refine aw_ishl 63 d_M_keynote_62 rfl ?_
        refine aw_ior 64 d_M_keynote_63 rfl ?_
        refine aw_istore (loc' := [some (.ref a0), some (.int x1), some (.int x2), some (.int x3), some (.int (x4 ||| (ishl (1 : Int32) x6))), some (.int x5), some (.int x6)]) 66 d_M_keynote_64 rfl (by decide) rfl ?_
        refine aw_iload 68 d_M_keynote_66 rfl rfl ?_
        refine aw_aload_n 69 d_M_keynote_68 rfl rfl ?_
        refine aw_iload 71 d_M_keynote_69 rfl rfl ?_
        refine aw_iload_n 72 d_M_keynote_71 rfl rfl ?_
        refine aw_aload_n 73 d_M_keynote_72 rfl rfl ?_
        obtain ⟨y73, h73, h⟩ := bnd h
        refine aw_getR 76 d_M_keynote_73 rfl fg_M_30 rfl h73 ?_
        refine aw_iload_n 77 d_M_keynote_76 rfl rfl ?_
        obtain ⟨y77, h77, h⟩ := bnd h
        refine aw_iald 78 d_M_keynote_77 rfl h77 ?_
        obtain ⟨y78, h78, h⟩ := bnd h
        refine aw_invV (rest := [.int x5]) (st' := [.int y78, .int x5]) (As := [.int x6, .int x1, .int y77]) 81 d_M_keynote_78 rfl lv_M_222 (m_M_tornBy h78) (by decide) (k_M_tornBy h78) rfl rfl rfl (Nat.le_of_ble_eq_true rfl) rfl ?_
        refine aw_if_eq 91 84 d_M_keynote_81 (by decide) rfl (fun c81 => ?_) (fun c81 => ?_)
        · have h := (if_pos c81).symm.trans h
          refine aw_iconst (v := (0 : Int32)) 92 d_M_keynote_91 rfl (by decide) ?_
          exact AW.wk [true, true, true, true, true, false, true] rfl (j_M_keynote_92 ih h)
        · have h := (if_neg c81).symm.trans h
          refine aw_iconst (v := (1 : Int32)) 85 d_M_keynote_84 rfl (by decide) ?_
          refine aw_iload 87 d_M_keynote_85 rfl rfl ?_
          refine aw_ishl 88 d_M_keynote_87 rfl ?_
          refine aw_goto 92 d_M_keynote_88 (by decide) ?_
          exact AW.wk [true, true, true, true, true, false, true] rfl (j_M_keynote_92 ih h)
      · have h := (if_pos c51).symm.trans h
        refine aw_goto 95 d_M_keynote_54 (by decide) ?_
        refine aw_iinc (v := (x6 + (1 : Int32))) (loc' := [some (.ref a0), some (.int x1), some (.int x2), some (.int x3), some (.int x4), some (.int x5), some (.int (x6 + (1 : Int32)))]) 98 d_M_keynote_95 rfl (by decide) rfl rfl rfl ?_
        refine aw_goto 37 d_M_keynote_98 (by decide) ?_
        exact (ih x4 x5 (x6 + (1 : Int32)) h)
theorem m_M_keynote {l : Launch} {q : Int32 × MM} {a0 : Nat} {x1 : Int32} {x2 : Int32} {μ : MM} (h : f_M_keynote a0 x1 x2 μ = some q) : AMet l 5 Y_M_keynote [.ref a0, .int x1, .int x2] μ (some (.int q.1)) q.2 := by
  refine AMet.of (loc := [some (.ref a0), some (.int x1), some (.int x2), none, none, none, none]) pn_M_keynote (Nat.le_of_ble_eq_true rfl) rfl ?_
  unfold f_M_keynote at h
  obtain ⟨_, hk, h⟩ := bnd h
  refine aw_iload_n 1 d_M_keynote_0 rfl rfl ?_
  obtain ⟨y1, h1, h⟩ := bnd h
  refine aw_invS (rest := []) (st' := [.int y1]) (As := [.int x1]) 4 d_M_keynote_1 rfl ls_M_155 (m_M_isBeat h1) (by decide) rfl rfl (Nat.le_of_ble_eq_true rfl) rfl ?_
  refine aw_if_eq 19 7 d_M_keynote_4 (by decide) rfl (fun c4 => ?_) (fun c4 => ?_)
  · have h := (if_pos c4).symm.trans h
    refine aw_ldc (v := (-1000000000 : Int32)) 21 d_M_keynote_19 rfl c_M_192 ?_
    cases h
    exact aw_ireturn d_M_keynote_21 rfl rfl
  · have h := (if_neg c4).symm.trans h
    refine aw_iload_n 8 d_M_keynote_7 rfl rfl ?_
    refine aw_i2l 9 d_M_keynote_8 rfl ?_
    refine aw_lconst (v := (0 : Int64)) 10 d_M_keynote_9 rfl (by decide) ?_
    refine aw_ldc2 (v := (6 : Int64)) 13 d_M_keynote_10 rfl c_M_229 ?_
    obtain ⟨y13, h13, h⟩ := bnd h
    refine aw_invS (rest := []) (st' := [.int y13]) (As := [.long x2.toInt64, .long (0 : Int64), .long (6 : Int64)]) 16 d_M_keynote_13 rfl ls_M_145 (m_M_lies h13) (by decide) rfl rfl (Nat.le_of_ble_eq_true rfl) rfl ?_
    refine aw_if_ne 22 19 d_M_keynote_16 (by decide) rfl (fun c16 => ?_) (fun c16 => ?_)
    · have h := (if_neg c16).symm.trans h
      refine aw_aload_n 23 d_M_keynote_22 rfl rfl ?_
      refine aw_iload_n 24 d_M_keynote_23 rfl rfl ?_
      obtain ⟨q24, h24, h⟩ := bnd h
      refine aw_invV (rest := []) (st' := [.int q24.1]) (As := [.int x1]) 27 d_M_keynote_24 rfl lv_M_231 (m_M_keynoteOf h24) (by decide) (k_M_keynoteOf h24) rfl rfl rfl (Nat.le_of_ble_eq_true rfl) rfl ?_
      refine aw_istore_n (loc' := [some (.ref a0), some (.int x1), some (.int x2), some (.int q24.1), none, none, none]) 28 d_M_keynote_27 rfl (by decide) rfl ?_
      refine aw_iconst (v := (0 : Int32)) 29 d_M_keynote_28 rfl (by decide) ?_
      refine aw_istore (loc' := [some (.ref a0), some (.int x1), some (.int x2), some (.int q24.1), some (.int (0 : Int32)), none, none]) 31 d_M_keynote_29 rfl (by decide) rfl ?_
      refine aw_iconst (v := (0 : Int32)) 32 d_M_keynote_31 rfl (by decide) ?_
      refine aw_istore (loc' := [some (.ref a0), some (.int x1), some (.int x2), some (.int q24.1), some (.int (0 : Int32)), some (.int (0 : Int32)), none]) 34 d_M_keynote_32 rfl (by decide) rfl ?_
      refine aw_iconst (v := (0 : Int32)) 35 d_M_keynote_34 rfl (by decide) ?_
      refine aw_istore (loc' := [some (.ref a0), some (.int x1), some (.int x2), some (.int q24.1), some (.int (0 : Int32)), some (.int (0 : Int32)), some (.int (0 : Int32))]) 37 d_M_keynote_35 rfl (by decide) rfl ?_
      exact (l_M_keynote_37 FU _ _ _ h)
    · have h := (if_pos c16).symm.trans h
      refine aw_ldc (v := (-1000000000 : Int32)) 21 d_M_keynote_19 rfl c_M_192 ?_
      cases h
      exact aw_ireturn d_M_keynote_21 rfl rfl
theorem k_M_keynote {q : Int32 × MM} {a0 : Nat} {x1 : Int32} {x2 : Int32} {μ : MM} (h : f_M_keynote a0 x1 x2 μ = some q) : μ.1[a0]? = some (0, 1) := by
  unfold f_M_keynote at h
  obtain ⟨_, h1, _⟩ := bnd h
  exact kO_some h1
theorem m_X_torn {l : Launch} {q : Int32} {a0 : Nat} {x1 : Int32} {x2 : Int32} {μ : MM} (h : f_X_torn a0 x1 x2 μ = some q) : AMet l 5 Y_X_torn [.ref a0, .int x1, .int x2] μ (some (.int q)) μ := by
  refine AMet.of (loc := [some (.ref a0), some (.int x1), some (.int x2)]) pn_X_torn (Nat.le_of_ble_eq_true rfl) rfl ?_
  unfold f_X_torn at h
  obtain ⟨_, hk, h⟩ := bnd h
  refine aw_aload_n 1 d_X_torn_0 rfl rfl ?_
  obtain ⟨y1, h1, h⟩ := bnd h
  refine aw_getR 4 d_X_torn_1 rfl fg_X_10 rfl h1 ?_
  refine aw_iload_n 5 d_X_torn_4 rfl rfl ?_
  refine aw_iload_n 6 d_X_torn_5 rfl rfl ?_
  obtain ⟨y6, h6, h⟩ := bnd h
  refine aw_invV (rest := []) (st' := [.int y6]) (As := [.int x1, .int x2]) 9 d_X_torn_6 rfl lv_X_107 (m_Sc_holds h6) (by decide) (k_Sc_holds h6) rfl rfl rfl (Nat.le_of_ble_eq_true rfl) rfl ?_
  refine aw_if_eq 24 12 d_X_torn_9 (by decide) rfl (fun c9 => ?_) (fun c9 => ?_)
  · have h := (if_pos c9).symm.trans h
    refine aw_ldc (v := (-1000000000 : Int32)) 26 d_X_torn_24 rfl c_X_102 ?_
    cases h
    exact aw_ireturn d_X_torn_26 rfl rfl
  · have h := (if_neg c9).symm.trans h
    refine aw_aload_n 13 d_X_torn_12 rfl rfl ?_
    obtain ⟨y13, h13, h⟩ := bnd h
    refine aw_getR 16 d_X_torn_13 rfl fg_X_10 rfl h13 ?_
    refine aw_iload_n 17 d_X_torn_16 rfl rfl ?_
    refine aw_iload_n 18 d_X_torn_17 rfl rfl ?_
    obtain ⟨y18, h18, h⟩ := bnd h
    refine aw_invV (rest := []) (st' := [.int y18]) (As := [.int x1, .int x2]) 21 d_X_torn_18 rfl lv_X_132 (m_Sc_tear h18) (by decide) (k_Sc_tear h18) rfl rfl rfl (Nat.le_of_ble_eq_true rfl) rfl ?_
    refine aw_goto 26 d_X_torn_21 (by decide) ?_
    cases h
    exact aw_ireturn d_X_torn_26 rfl rfl
theorem k_X_torn {q : Int32} {a0 : Nat} {x1 : Int32} {x2 : Int32} {μ : MM} (h : f_X_torn a0 x1 x2 μ = some q) : μ.1[a0]? = some (0, 0) := by
  unfold f_X_torn at h
  obtain ⟨_, h1, _⟩ := bnd h
  exact kO_some h1
theorem m_M_torn {l : Launch} {q : Int32} {a0 : Nat} {x1 : Int32} {x2 : Int32} {μ : MM} (h : f_M_torn a0 x1 x2 μ = some q) : AMet l 5 Y_M_torn [.ref a0, .int x1, .int x2] μ (some (.int q)) μ := by
  refine AMet.of (loc := [some (.ref a0), some (.int x1), some (.int x2)]) pn_M_torn (Nat.le_of_ble_eq_true rfl) rfl ?_
  unfold f_M_torn at h
  obtain ⟨_, hk, h⟩ := bnd h
  refine aw_aload_n 1 d_M_torn_0 rfl rfl ?_
  refine aw_iload_n 2 d_M_torn_1 rfl rfl ?_
  refine aw_iload_n 3 d_M_torn_2 rfl rfl ?_
  obtain ⟨y3, h3, h⟩ := bnd h
  refine aw_invV (rest := []) (st' := [.int y3]) (As := [.int x1, .int x2]) 6 d_M_torn_3 rfl lv_M_193 (m_M_isHeld h3) (by decide) (k_M_isHeld h3) rfl rfl rfl (Nat.le_of_ble_eq_true rfl) rfl ?_
  refine aw_if_eq 24 9 d_M_torn_6 (by decide) rfl (fun c6 => ?_) (fun c6 => ?_)
  · have h := (if_pos c6).symm.trans h
    refine aw_ldc (v := (-1000000000 : Int32)) 26 d_M_torn_24 rfl c_M_192 ?_
    cases h
    exact aw_ireturn d_M_torn_26 rfl rfl
  · have h := (if_neg c6).symm.trans h
    refine aw_aload_n 10 d_M_torn_9 rfl rfl ?_
    refine aw_iload_n 11 d_M_torn_10 rfl rfl ?_
    refine aw_iload_n 12 d_M_torn_11 rfl rfl ?_
    refine aw_aload_n 13 d_M_torn_12 rfl rfl ?_
    obtain ⟨y13, h13, h⟩ := bnd h
    refine aw_getR 16 d_M_torn_13 rfl fg_M_30 rfl h13 ?_
    refine aw_iload_n 17 d_M_torn_16 rfl rfl ?_
    obtain ⟨y17, h17, h⟩ := bnd h
    refine aw_iald 18 d_M_torn_17 rfl h17 ?_
    obtain ⟨y18, h18, h⟩ := bnd h
    refine aw_invV (rest := []) (st' := [.int y18]) (As := [.int x1, .int x2, .int y17]) 21 d_M_torn_18 rfl lv_M_222 (m_M_tornBy h18) (by decide) (k_M_tornBy h18) rfl rfl rfl (Nat.le_of_ble_eq_true rfl) rfl ?_
    refine aw_goto 26 d_M_torn_21 (by decide) ?_
    cases h
    exact aw_ireturn d_M_torn_26 rfl rfl
theorem k_M_torn {q : Int32} {a0 : Nat} {x1 : Int32} {x2 : Int32} {μ : MM} (h : f_M_torn a0 x1 x2 μ = some q) : μ.1[a0]? = some (0, 1) := by
  unfold f_M_torn at h
  obtain ⟨_, h1, _⟩ := bnd h
  exact kO_some h1
theorem l_Sc_soundsIn_2 {l : Launch} {μ0 : MM} {q : Int32} {a0 : Nat} {x1 : Int32} {μ : MM} : ∀ (n : Nat) (x2 : Int32), f_Sc_soundsIn_L2 a0 x1 μ n x2 = some q → AWm l Y_Sc_soundsIn 2 μ0 (some (.int q)) μ 2 [some (.ref a0), some (.int x1), some (.int x2)] [] μ := by
  intro n
  induction n with
  | zero =>
    intro x2 h
    have h : (none : Option (Int32)) = some q := h
    cases h
  | succ n ih =>
    intro x2 h
    rw [f_Sc_soundsIn_L2] at h
    refine aw_iload_n 3 d_Sc_soundsIn_2 rfl rfl ?_
    refine aw_bipush (v := (6 : Int32)) 5 d_Sc_soundsIn_3 rfl (by decide) ?_
    refine aw_icmp_ge 25 8 d_Sc_soundsIn_5 (by decide) rfl (fun c5 => ?_) (fun c5 => ?_)
    · have h := (if_pos c5).symm.trans h
      refine aw_iconst (v := (0 : Int32)) 26 d_Sc_soundsIn_25 rfl (by decide) ?_
      cases h
      exact aw_ireturn d_Sc_soundsIn_26 rfl nar0
    · have h := (if_neg c5).symm.trans h
      refine aw_aload_n 9 d_Sc_soundsIn_8 rfl rfl ?_
      refine aw_iload_n 10 d_Sc_soundsIn_9 rfl rfl ?_
      refine aw_iload_n 11 d_Sc_soundsIn_10 rfl rfl ?_
      obtain ⟨y11, h11, h⟩ := bnd h
      refine aw_invV (rest := []) (st' := [.int y11]) (As := [.int x2, .int x1]) 14 d_Sc_soundsIn_11 rfl lv_Sc_39 (m_Sc_sounds h11) (by decide) (k_Sc_sounds h11) rfl rfl rfl (Nat.le_of_ble_eq_true rfl) rfl ?_
      refine aw_if_eq 19 17 d_Sc_soundsIn_14 (by decide) rfl (fun c14 => ?_) (fun c14 => ?_)
      · have h := (if_pos c14).symm.trans h
        refine aw_iinc (v := (x2 + (1 : Int32))) (loc' := [some (.ref a0), some (.int x1), some (.int (x2 + (1 : Int32)))]) 22 d_Sc_soundsIn_19 rfl (by decide) rfl rfl rfl ?_
        refine aw_goto 2 d_Sc_soundsIn_22 (by decide) ?_
        exact (ih (x2 + (1 : Int32)) h)
      · have h := (if_neg c14).symm.trans h
        refine aw_iconst (v := (1 : Int32)) 18 d_Sc_soundsIn_17 rfl (by decide) ?_
        cases h
        exact aw_ireturn d_Sc_soundsIn_18 rfl nar1
theorem m_Sc_soundsIn {l : Launch} {q : Int32} {a0 : Nat} {x1 : Int32} {μ : MM} (h : f_Sc_soundsIn a0 x1 μ = some q) : AMet l 2 Y_Sc_soundsIn [.ref a0, .int x1] μ (some (.int q)) μ := by
  refine AMet.of (loc := [some (.ref a0), some (.int x1), none]) pn_Sc_soundsIn (Nat.le_of_ble_eq_true rfl) rfl ?_
  unfold f_Sc_soundsIn at h
  obtain ⟨_, hk, h⟩ := bnd h
  refine aw_iconst (v := (0 : Int32)) 1 d_Sc_soundsIn_0 rfl (by decide) ?_
  refine aw_istore_n (loc' := [some (.ref a0), some (.int x1), some (.int (0 : Int32))]) 2 d_Sc_soundsIn_1 rfl (by decide) rfl ?_
  exact (l_Sc_soundsIn_2 FU _ h)
theorem k_Sc_soundsIn {q : Int32} {a0 : Nat} {x1 : Int32} {μ : MM} (h : f_Sc_soundsIn a0 x1 μ = some q) : μ.1[a0]? = some (0, 8) := by
  unfold f_Sc_soundsIn at h
  obtain ⟨_, h1, _⟩ := bnd h
  exact kO_some h1
theorem l_Sc_lastBeat_3 {l : Launch} {μ0 : MM} {q : Int32} {a0 : Nat} {μ : MM} : ∀ (n : Nat) (x1 : Int32), f_Sc_lastBeat_L3 a0 μ n x1 = some q → AWm l Y_Sc_lastBeat 3 μ0 (some (.int q)) μ 3 [some (.ref a0), some (.int x1)] [] μ := by
  intro n
  induction n with
  | zero =>
    intro x1 h
    have h : (none : Option (Int32)) = some q := h
    cases h
  | succ n ih =>
    intro x1 h
    rw [f_Sc_lastBeat_L3] at h
    refine aw_iload_n 4 d_Sc_lastBeat_3 rfl rfl ?_
    refine aw_if_lt 23 7 d_Sc_lastBeat_4 (by decide) rfl (fun c4 => ?_) (fun c4 => ?_)
    · have h := (if_pos c4).symm.trans h
      refine aw_iconst (v := (-1 : Int32)) 24 d_Sc_lastBeat_23 rfl (by decide) ?_
      cases h
      exact aw_ireturn d_Sc_lastBeat_24 rfl rfl
    · have h := (if_neg c4).symm.trans h
      refine aw_aload_n 8 d_Sc_lastBeat_7 rfl rfl ?_
      refine aw_iload_n 9 d_Sc_lastBeat_8 rfl rfl ?_
      obtain ⟨y9, h9, h⟩ := bnd h
      refine aw_invV (rest := []) (st' := [.int y9]) (As := [.int x1]) 12 d_Sc_lastBeat_9 rfl lv_Sc_79 (m_Sc_soundsIn h9) (by decide) (k_Sc_soundsIn h9) rfl rfl rfl (Nat.le_of_ble_eq_true rfl) rfl ?_
      refine aw_if_eq 17 15 d_Sc_lastBeat_12 (by decide) rfl (fun c12 => ?_) (fun c12 => ?_)
      · have h := (if_pos c12).symm.trans h
        refine aw_iinc (v := (x1 + (-1 : Int32))) (loc' := [some (.ref a0), some (.int (x1 + (-1 : Int32)))]) 20 d_Sc_lastBeat_17 rfl (by decide) rfl rfl rfl ?_
        refine aw_goto 3 d_Sc_lastBeat_20 (by decide) ?_
        exact (ih (x1 + (-1 : Int32)) h)
      · have h := (if_neg c12).symm.trans h
        refine aw_iload_n 16 d_Sc_lastBeat_15 rfl rfl ?_
        cases h
        exact aw_ireturn d_Sc_lastBeat_16 rfl rfl
theorem m_Sc_lastBeat {l : Launch} {q : Int32} {a0 : Nat} {μ : MM} (h : f_Sc_lastBeat a0 μ = some q) : AMet l 3 Y_Sc_lastBeat [.ref a0] μ (some (.int q)) μ := by
  refine AMet.of (loc := [some (.ref a0), none]) pn_Sc_lastBeat (Nat.le_of_ble_eq_true rfl) rfl ?_
  unfold f_Sc_lastBeat at h
  obtain ⟨_, hk, h⟩ := bnd h
  refine aw_bipush (v := (23 : Int32)) 2 d_Sc_lastBeat_0 rfl (by decide) ?_
  refine aw_istore_n (loc' := [some (.ref a0), some (.int (23 : Int32))]) 3 d_Sc_lastBeat_2 rfl (by decide) rfl ?_
  exact (l_Sc_lastBeat_3 FU _ h)
theorem k_Sc_lastBeat {q : Int32} {a0 : Nat} {μ : MM} (h : f_Sc_lastBeat a0 μ = some q) : μ.1[a0]? = some (0, 8) := by
  unfold f_Sc_lastBeat at h
  obtain ⟨_, h1, _⟩ := bnd h
  exact kO_some h1
theorem m_Mt_abs_I {l : Launch} {q : Int32} {x0 : Int32} {μ : MM} (h : f_Mt_abs_I x0 = some q) : AMet l 1 Y_Mt_abs_I [.int x0] μ (some (.int q)) μ := by
  refine AMet.of (loc := [some (.int x0)]) pn_Mt_abs_I (Nat.le_of_ble_eq_true rfl) rfl ?_
  unfold f_Mt_abs_I at h
  refine aw_iload_n 1 d_Mt_abs_I_0 rfl rfl ?_
  refine aw_if_ge 9 4 d_Mt_abs_I_1 (by decide) rfl (fun c1 => ?_) (fun c1 => ?_)
  · have h := (if_pos c1).symm.trans h
    refine aw_iload_n 10 d_Mt_abs_I_9 rfl rfl ?_
    cases h
    exact aw_ireturn d_Mt_abs_I_10 rfl rfl
  · have h := (if_neg c1).symm.trans h
    refine aw_iload_n 5 d_Mt_abs_I_4 rfl rfl ?_
    refine aw_ineg 6 d_Mt_abs_I_5 rfl ?_
    refine aw_goto 10 d_Mt_abs_I_6 (by decide) ?_
    cases h
    exact aw_ireturn d_Mt_abs_I_10 rfl rfl
theorem l_Sc_foulnessBy_5 {l : Launch} {μ0 : MM} {q : Int32} {a0 : Nat} {x1 : Int32} {x2 : Int32} {μ : MM} : ∀ (n : Nat) (x3 : Int32) (x4 : Int32), f_Sc_foulnessBy_L5 a0 x1 x2 μ n x3 x4 = some q → AWm l Y_Sc_foulnessBy 4 μ0 (some (.int q)) μ 5 [some (.ref a0), some (.int x1), some (.int x2), some (.int x3), some (.int x4)] [] μ := by
  intro n
  induction n with
  | zero =>
    intro x3 x4 h
    have h : (none : Option (Int32)) = some q := h
    cases h
  | succ n ih =>
    intro x3 x4 h
    rw [f_Sc_foulnessBy_L5] at h
    refine aw_iload 7 d_Sc_foulnessBy_5 rfl rfl ?_
    refine aw_bipush (v := (6 : Int32)) 9 d_Sc_foulnessBy_7 rfl (by decide) ?_
    refine aw_icmp_ge 32 12 d_Sc_foulnessBy_9 (by decide) rfl (fun c9 => ?_) (fun c9 => ?_)
    · have h := (if_pos c9).symm.trans h
      refine aw_iload_n 33 d_Sc_foulnessBy_32 rfl rfl ?_
      cases h
      exact aw_ireturn d_Sc_foulnessBy_33 rfl rfl
    · have h := (if_neg c9).symm.trans h
      refine aw_iload_n 13 d_Sc_foulnessBy_12 rfl rfl ?_
      refine aw_aload_n 14 d_Sc_foulnessBy_13 rfl rfl ?_
      refine aw_iload 16 d_Sc_foulnessBy_14 rfl rfl ?_
      refine aw_iload_n 17 d_Sc_foulnessBy_16 rfl rfl ?_
      refine aw_iload_n 18 d_Sc_foulnessBy_17 rfl rfl ?_
      obtain ⟨y18, h18, h⟩ := bnd h
      refine aw_invV (rest := [.int x3]) (st' := [.int y18, .int x3]) (As := [.int x4, .int x1, .int x2]) 21 d_Sc_foulnessBy_18 rfl lv_Sc_64 (m_Sc_tearBy h18) (by decide) (k_Sc_tearBy h18) rfl rfl rfl (Nat.le_of_ble_eq_true rfl) rfl ?_
      obtain ⟨y21, h21, h⟩ := bnd h
      refine aw_invS (rest := [.int x3]) (st' := [.int y21, .int x3]) (As := [.int y18]) 24 d_Sc_foulnessBy_21 rfl ls_Sc_68 (m_Mt_abs_I h21) (by decide) rfl rfl (Nat.le_of_ble_eq_true rfl) rfl ?_
      refine aw_iadd 25 d_Sc_foulnessBy_24 rfl ?_
      refine aw_istore_n (loc' := [some (.ref a0), some (.int x1), some (.int x2), some (.int (x3 + y21)), some (.int x4)]) 26 d_Sc_foulnessBy_25 rfl (by decide) rfl ?_
      refine aw_iinc (v := (x4 + (1 : Int32))) (loc' := [some (.ref a0), some (.int x1), some (.int x2), some (.int (x3 + y21)), some (.int (x4 + (1 : Int32)))]) 29 d_Sc_foulnessBy_26 rfl (by decide) rfl rfl rfl ?_
      refine aw_goto 5 d_Sc_foulnessBy_29 (by decide) ?_
      exact (ih (x3 + y21) (x4 + (1 : Int32)) h)
theorem m_Sc_foulnessBy {l : Launch} {q : Int32} {a0 : Nat} {x1 : Int32} {x2 : Int32} {μ : MM} (h : f_Sc_foulnessBy a0 x1 x2 μ = some q) : AMet l 4 Y_Sc_foulnessBy [.ref a0, .int x1, .int x2] μ (some (.int q)) μ := by
  refine AMet.of (loc := [some (.ref a0), some (.int x1), some (.int x2), none, none]) pn_Sc_foulnessBy (Nat.le_of_ble_eq_true rfl) rfl ?_
  unfold f_Sc_foulnessBy at h
  obtain ⟨_, hk, h⟩ := bnd h
  refine aw_iconst (v := (0 : Int32)) 1 d_Sc_foulnessBy_0 rfl (by decide) ?_
  refine aw_istore_n (loc' := [some (.ref a0), some (.int x1), some (.int x2), some (.int (0 : Int32)), none]) 2 d_Sc_foulnessBy_1 rfl (by decide) rfl ?_
  refine aw_iconst (v := (0 : Int32)) 3 d_Sc_foulnessBy_2 rfl (by decide) ?_
  refine aw_istore (loc' := [some (.ref a0), some (.int x1), some (.int x2), some (.int (0 : Int32)), some (.int (0 : Int32))]) 5 d_Sc_foulnessBy_3 rfl (by decide) rfl ?_
  exact (l_Sc_foulnessBy_5 FU _ _ h)
theorem k_Sc_foulnessBy {q : Int32} {a0 : Nat} {x1 : Int32} {x2 : Int32} {μ : MM} (h : f_Sc_foulnessBy a0 x1 x2 μ = some q) : μ.1[a0]? = some (0, 8) := by
  unfold f_Sc_foulnessBy at h
  obtain ⟨_, h1, _⟩ := bnd h
  exact kO_some h1
