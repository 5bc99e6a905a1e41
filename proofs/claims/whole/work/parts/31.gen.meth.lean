/-! PRINTED by wip/gen/gen1.py: the bytecode does what the functions say -/
theorem l_Sc_foulness_4 {l : Launch} {μ0 : MM} {q : Int32} {a0 : Nat} {μ : MM} : ∀ (n : Nat) (x1 : Int32) (x2 : Int32), f_Sc_foulness_L4 a0 μ n x1 x2 = some q → AWm l Y_Sc_foulness 5 μ0 (some (.int q)) μ 4 [some (.ref a0), some (.int x1), some (.int x2)] [] μ := by
  intro n
  induction n with
  | zero =>
    intro x1 x2 h
    have h : (none : Option (Int32)) = some q := h
    cases h
  | succ n ih =>
    intro x1 x2 h
    rw [f_Sc_foulness_L4] at h
    refine aw_iload_n 5 d_Sc_foulness_4 rfl rfl ?_
    refine aw_bipush (v := (24 : Int32)) 7 d_Sc_foulness_5 rfl (by decide) ?_
    refine aw_icmp_ge 39 10 d_Sc_foulness_7 (by decide) rfl (fun c7 => ?_) (fun c7 => ?_)
    · have h := (if_pos c7).symm.trans h
      refine aw_iload_n 40 d_Sc_foulness_39 rfl rfl ?_
      cases h
      exact aw_ireturn d_Sc_foulness_40 rfl rfl
    · have h := (if_neg c7).symm.trans h
      refine aw_iload_n 11 d_Sc_foulness_10 rfl rfl ?_
      refine aw_aload_n 12 d_Sc_foulness_11 rfl rfl ?_
      refine aw_iload_n 13 d_Sc_foulness_12 rfl rfl ?_
      refine aw_aload_n 14 d_Sc_foulness_13 rfl rfl ?_
      obtain ⟨y14, h14, h⟩ := bnd h
      refine aw_getR 17 d_Sc_foulness_14 rfl fg_Sc_27 rfl h14 ?_
      refine aw_iload_n 18 d_Sc_foulness_17 rfl rfl ?_
      obtain ⟨y18, h18, h⟩ := bnd h
      refine aw_iald 19 d_Sc_foulness_18 rfl h18 ?_
      refine aw_aload_n 20 d_Sc_foulness_19 rfl rfl ?_
      obtain ⟨y20, h20, h⟩ := bnd h
      refine aw_getR 23 d_Sc_foulness_20 rfl fg_Sc_27 rfl h20 ?_
      refine aw_iload_n 24 d_Sc_foulness_23 rfl rfl ?_
      refine aw_iconst (v := (1 : Int32)) 25 d_Sc_foulness_24 rfl (by decide) ?_
      refine aw_isub 26 d_Sc_foulness_25 rfl ?_
      obtain ⟨y26, h26, h⟩ := bnd h
      refine aw_iald 27 d_Sc_foulness_26 rfl h26 ?_
      refine aw_isub 28 d_Sc_foulness_27 rfl ?_
      obtain ⟨y28, h28, h⟩ := bnd h
      refine aw_invV (rest := [.int x1]) (st' := [.int y28, .int x1]) (As := [.int x2, .int (y18 - y26)]) 31 d_Sc_foulness_28 rfl lv_Sc_73 (m_Sc_foulnessBy h28) (by decide) (k_Sc_foulnessBy h28) rfl rfl rfl (Nat.le_of_ble_eq_true rfl) rfl ?_
      refine aw_iadd 32 d_Sc_foulness_31 rfl ?_
      refine aw_istore_n (loc' := [some (.ref a0), some (.int (x1 + y28)), some (.int x2)]) 33 d_Sc_foulness_32 rfl (by decide) rfl ?_
      refine aw_iinc (v := (x2 + (1 : Int32))) (loc' := [some (.ref a0), some (.int (x1 + y28)), some (.int (x2 + (1 : Int32)))]) 36 d_Sc_foulness_33 rfl (by decide) rfl rfl rfl ?_
      refine aw_goto 4 d_Sc_foulness_36 (by decide) ?_
      exact (ih (x1 + y28) (x2 + (1 : Int32)) h)
theorem m_Sc_foulness {l : Launch} {q : Int32} {a0 : Nat} {μ : MM} (h : f_Sc_foulness a0 μ = some q) : AMet l 5 Y_Sc_foulness [.ref a0] μ (some (.int q)) μ := by
  refine AMet.of (loc := [some (.ref a0), none, none]) pn_Sc_foulness (Nat.le_of_ble_eq_true rfl) rfl ?_
  unfold f_Sc_foulness at h
  obtain ⟨_, hk, h⟩ := bnd h
  refine aw_iconst (v := (0 : Int32)) 1 d_Sc_foulness_0 rfl (by decide) ?_
  refine aw_istore_n (loc' := [some (.ref a0), some (.int (0 : Int32)), none]) 2 d_Sc_foulness_1 rfl (by decide) rfl ?_
  refine aw_iconst (v := (1 : Int32)) 3 d_Sc_foulness_2 rfl (by decide) ?_
  refine aw_istore_n (loc' := [some (.ref a0), some (.int (0 : Int32)), some (.int (1 : Int32))]) 4 d_Sc_foulness_3 rfl (by decide) rfl ?_
  exact (l_Sc_foulness_4 FU _ _ h)
theorem k_Sc_foulness {q : Int32} {a0 : Nat} {μ : MM} (h : f_Sc_foulness a0 μ = some q) : μ.1[a0]? = some (0, 8) := by
  unfold f_Sc_foulness at h
  obtain ⟨_, h1, _⟩ := bnd h
  exact kO_some h1
theorem j_X_sink_66 {l : Launch} {μ0 : MM} {q : Int32} {a0 : Nat} {x1 : Int32} {x2 : Int32} {μ : MM} (h : f_X_sink_J66 a0 x1 x2 μ = some q) : AWm l Y_X_sink 6 μ0 (some (.int q)) μ 66 [some (.ref a0), some (.int x1), some (.int x2)] [] μ := by
  unfold f_X_sink_J66 at h
  refine aw_aload_n 67 d_X_sink_66 rfl rfl ?_
  obtain ⟨y67, h67, h⟩ := bnd h
  refine aw_getR 70 d_X_sink_67 rfl fg_X_10 rfl h67 ?_
  obtain ⟨y70, h70, h⟩ := bnd h
  refine aw_getR 73 d_X_sink_70 rfl fg_X_117 rfl h70 ?_
  refine aw_iload_n 74 d_X_sink_73 rfl rfl ?_
  obtain ⟨y74, h74, h⟩ := bnd h
  refine aw_iald 75 d_X_sink_74 rfl h74 ?_
  refine aw_iload_n 76 d_X_sink_75 rfl rfl ?_
  obtain ⟨y76, h76, h⟩ := bnd h
  refine aw_invS (rest := []) (st' := [.int y76]) (As := [.int y74, .int x1]) 79 d_X_sink_76 rfl ls_X_120 (m_Fr_exponent h76) (by decide) rfl rfl (Nat.le_of_ble_eq_true rfl) rfl ?_
  cases h
  exact aw_ireturn d_X_sink_79 rfl rfl
theorem m_X_sink {l : Launch} {q : Int32} {a0 : Nat} {x1 : Int32} {μ : MM} (h : f_X_sink a0 x1 μ = some q) : AMet l 6 Y_X_sink [.ref a0, .int x1] μ (some (.int q)) μ := by
  refine AMet.of (loc := [some (.ref a0), some (.int x1), none]) pn_X_sink (Nat.le_of_ble_eq_true rfl) rfl ?_
  unfold f_X_sink at h
  obtain ⟨_, hk, h⟩ := bnd h
  refine aw_aload_n 1 d_X_sink_0 rfl rfl ?_
  obtain ⟨y1, h1, h⟩ := bnd h
  refine aw_getR 4 d_X_sink_1 rfl fg_X_10 rfl h1 ?_
  obtain ⟨y4, h4, h⟩ := bnd h
  refine aw_invV (rest := []) (st' := [.int y4]) (As := []) 7 d_X_sink_4 rfl lv_X_135 (m_Sc_lastBeat h4) (by decide) (k_Sc_lastBeat h4) rfl rfl rfl (Nat.le_of_ble_eq_true rfl) rfl ?_
  refine aw_istore_n (loc' := [some (.ref a0), some (.int x1), some (.int y4)]) 8 d_X_sink_7 rfl (by decide) rfl ?_
  refine aw_iload_n 9 d_X_sink_8 rfl rfl ?_
  refine aw_iconst (v := (-1 : Int32)) 10 d_X_sink_9 rfl (by decide) ?_
  refine aw_icmp_ne 16 13 d_X_sink_10 (by decide) rfl (fun c10 => ?_) (fun c10 => ?_)
  · have h := (if_neg c10).symm.trans h
    refine aw_iload_n 17 d_X_sink_16 rfl rfl ?_
    by_cases c17_0 : x1 = (0 : Int32)
    · have h := (if_pos c17_0).symm.trans h
      refine aw_tableIn 56 d_X_sink_17 (by rw [c17_0]; decide) (by rw [c17_0]; decide) (by rw [c17_0]; rfl) (by decide) ?_
      refine aw_aload_n 57 d_X_sink_56 rfl rfl ?_
      obtain ⟨y57, h57, h⟩ := bnd h
      refine aw_getR 60 d_X_sink_57 rfl fg_X_10 rfl h57 ?_
      obtain ⟨y60, h60, h⟩ := bnd h
      refine aw_getR 63 d_X_sink_60 rfl fg_X_114 rfl h60 ?_
      refine aw_iload_n 64 d_X_sink_63 rfl rfl ?_
      obtain ⟨y64, h64, h⟩ := bnd h
      refine aw_iald 65 d_X_sink_64 rfl h64 ?_
      cases h
      exact aw_ireturn d_X_sink_65 rfl rfl
    · have h := (if_neg c17_0).symm.trans h
      by_cases c17_1 : x1 = (1 : Int32)
      · have h := (if_pos c17_1).symm.trans h
        refine aw_tableIn 66 d_X_sink_17 (by rw [c17_1]; decide) (by rw [c17_1]; decide) (by rw [c17_1]; rfl) (by decide) ?_
        exact (j_X_sink_66 h)
      · have h := (if_neg c17_1).symm.trans h
        by_cases c17_2 : x1 = (2 : Int32)
        · have h := (if_pos c17_2).symm.trans h
          refine aw_tableIn 66 d_X_sink_17 (by rw [c17_2]; decide) (by rw [c17_2]; decide) (by rw [c17_2]; rfl) (by decide) ?_
          exact (j_X_sink_66 h)
        · have h := (if_neg c17_2).symm.trans h
          by_cases c17_3 : x1 = (3 : Int32)
          · have h := (if_pos c17_3).symm.trans h
            refine aw_tableIn 66 d_X_sink_17 (by rw [c17_3]; decide) (by rw [c17_3]; decide) (by rw [c17_3]; rfl) (by decide) ?_
            exact (j_X_sink_66 h)
          · have h := (if_neg c17_3).symm.trans h
            by_cases c17_4 : x1 = (4 : Int32)
            · have h := (if_pos c17_4).symm.trans h
              refine aw_tableIn 80 d_X_sink_17 (by rw [c17_4]; decide) (by rw [c17_4]; decide) (by rw [c17_4]; rfl) (by decide) ?_
              refine aw_aload_n 81 d_X_sink_80 rfl rfl ?_
              obtain ⟨y81, h81, h⟩ := bnd h
              refine aw_getR 84 d_X_sink_81 rfl fg_X_10 rfl h81 ?_
              obtain ⟨y84, h84, h⟩ := bnd h
              refine aw_invV (rest := []) (st' := [.int y84]) (As := []) 87 d_X_sink_84 rfl lv_X_139 (m_Sc_foulness h84) (by decide) (k_Sc_foulness h84) rfl rfl rfl (Nat.le_of_ble_eq_true rfl) rfl ?_
              cases h
              exact aw_ireturn d_X_sink_87 rfl rfl
            · have h := (if_neg c17_4).symm.trans h
              by_cases c17_5 : x1 = (5 : Int32)
              · have h := (if_pos c17_5).symm.trans h
                refine aw_tableIn 88 d_X_sink_17 (by rw [c17_5]; decide) (by rw [c17_5]; decide) (by rw [c17_5]; rfl) (by decide) ?_
                refine aw_iload_n 89 d_X_sink_88 rfl rfl ?_
                cases h
                exact aw_ireturn d_X_sink_89 rfl rfl
              · have h := (if_neg c17_5).symm.trans h
                have e17 : (x1).toInt < 0 ∨ 5 < (x1).toInt := by
                  have z0 := lv_neT (a := 0) c17_0 (by decide)
                  have z1 := lv_neT (a := 1) c17_1 (by decide)
                  have z2 := lv_neT (a := 2) c17_2 (by decide)
                  have z3 := lv_neT (a := 3) c17_3 (by decide)
                  have z4 := lv_neT (a := 4) c17_4 (by decide)
                  have z5 := lv_neT (a := 5) c17_5 (by decide)
                  omega
                refine aw_tableOut 90 d_X_sink_17 e17 (by decide) ?_
                refine aw_ldc (v := (-1000000000 : Int32)) 92 d_X_sink_90 rfl c_X_102 ?_
                cases h
                exact aw_ireturn d_X_sink_92 rfl rfl
  · have h := (if_pos c10).symm.trans h
    refine aw_ldc (v := (-1000000000 : Int32)) 15 d_X_sink_13 rfl c_X_102 ?_
    cases h
    exact aw_ireturn d_X_sink_15 rfl rfl
theorem k_X_sink {q : Int32} {a0 : Nat} {x1 : Int32} {μ : MM} (h : f_X_sink a0 x1 μ = some q) : μ.1[a0]? = some (0, 0) := by
  unfold f_X_sink at h
  obtain ⟨_, h1, _⟩ := bnd h
  exact kO_some h1
theorem l_M_lastBeat_12 {l : Launch} {μ0 : MM} {q : Int32} {a0 : Nat} {x2 : Int32} {μ : MM} {k4 : Int32 → Int32 → Option (Int32)} (hk4 : ∀ (x1 : Int32) (x2 : Int32), k4 x1 x2 = some q → AWm l Y_M_lastBeat 4 μ0 (some (.int q)) μ 4 [some (.ref a0), some (.int x1), some (.int x2), none] [] μ) : ∀ (n : Nat) (x1 : Int32) (x3 : Int32), f_M_lastBeat_L12 k4 a0 x2 μ n x1 x3 = some q → AWm l Y_M_lastBeat 4 μ0 (some (.int q)) μ 12 [some (.ref a0), some (.int x1), some (.int x2), some (.int x3)] [] μ := by
  intro n
  induction n with
  | zero =>
    intro x1 x3 h
    have h : (none : Option (Int32)) = some q := h
    cases h
  | succ n ih =>
    intro x1 x3 h
    rw [f_M_lastBeat_L12] at h
    refine aw_iload_n 13 d_M_lastBeat_12 rfl rfl ?_
    refine aw_bipush (v := (6 : Int32)) 15 d_M_lastBeat_13 rfl (by decide) ?_
    refine aw_icmp_ge 35 18 d_M_lastBeat_15 (by decide) rfl (fun c15 => ?_) (fun c15 => ?_)
    · have h := (if_pos c15).symm.trans h
      refine aw_iinc (v := (x2 + (1 : Int32))) (loc' := [some (.ref a0), some (.int x1), some (.int (x2 + (1 : Int32))), some (.int x3)]) 38 d_M_lastBeat_35 rfl (by decide) rfl rfl rfl ?_
      refine aw_goto 4 d_M_lastBeat_38 (by decide) ?_
      exact AW.wk [true, true, true, false] rfl (hk4 x1 (x2 + (1 : Int32)) h)
    · have h := (if_neg c15).symm.trans h
      refine aw_aload_n 19 d_M_lastBeat_18 rfl rfl ?_
      refine aw_iload_n 20 d_M_lastBeat_19 rfl rfl ?_
      refine aw_iload_n 21 d_M_lastBeat_20 rfl rfl ?_
      obtain ⟨y21, h21, h⟩ := bnd h
      refine aw_invV (rest := []) (st' := [.int y21]) (As := [.int x3, .int x2]) 24 d_M_lastBeat_21 rfl lv_M_162 (m_M_isNote h21) (by decide) (k_M_isNote h21) rfl rfl rfl (Nat.le_of_ble_eq_true rfl) rfl ?_
      refine aw_if_eq 29 27 d_M_lastBeat_24 (by decide) rfl (fun c24 => ?_) (fun c24 => ?_)
      · have h := (if_pos c24).symm.trans h
        refine aw_iinc (v := (x3 + (1 : Int32))) (loc' := [some (.ref a0), some (.int x1), some (.int x2), some (.int (x3 + (1 : Int32)))]) 32 d_M_lastBeat_29 rfl (by decide) rfl rfl rfl ?_
        refine aw_goto 12 d_M_lastBeat_32 (by decide) ?_
        exact (ih x1 (x3 + (1 : Int32)) h)
      · have h := (if_neg c24).symm.trans h
        refine aw_iload_n 28 d_M_lastBeat_27 rfl rfl ?_
        refine aw_istore_n (loc' := [some (.ref a0), some (.int x2), some (.int x2), some (.int x3)]) 29 d_M_lastBeat_28 rfl (by decide) rfl ?_
        refine aw_iinc (v := (x3 + (1 : Int32))) (loc' := [some (.ref a0), some (.int x2), some (.int x2), some (.int (x3 + (1 : Int32)))]) 32 d_M_lastBeat_29 rfl (by decide) rfl rfl rfl ?_
        refine aw_goto 12 d_M_lastBeat_32 (by decide) ?_
        exact (ih x2 (x3 + (1 : Int32)) h)
theorem l_M_lastBeat_4 {l : Launch} {μ0 : MM} {q : Int32} {a0 : Nat} {μ : MM} : ∀ (n : Nat) (x1 : Int32) (x2 : Int32), f_M_lastBeat_L4 a0 μ n x1 x2 = some q → AWm l Y_M_lastBeat 4 μ0 (some (.int q)) μ 4 [some (.ref a0), some (.int x1), some (.int x2), none] [] μ := by
  intro n
  induction n with
  | zero =>
    intro x1 x2 h
    have h : (none : Option (Int32)) = some q := h
    cases h
  | succ n ih =>
    intro x1 x2 h
    rw [f_M_lastBeat_L4] at h
    refine aw_iload_n 5 d_M_lastBeat_4 rfl rfl ?_
    refine aw_bipush (v := (24 : Int32)) 7 d_M_lastBeat_5 rfl (by decide) ?_
    refine aw_icmp_ge 41 10 d_M_lastBeat_7 (by decide) rfl (fun c7 => ?_) (fun c7 => ?_)
    · have h := (if_pos c7).symm.trans h
      refine aw_iload_n 42 d_M_lastBeat_41 rfl rfl ?_
      cases h
      exact aw_ireturn d_M_lastBeat_42 rfl rfl
    · have h := (if_neg c7).symm.trans h
      refine aw_iconst (v := (0 : Int32)) 11 d_M_lastBeat_10 rfl (by decide) ?_
      refine aw_istore_n (loc' := [some (.ref a0), some (.int x1), some (.int x2), some (.int (0 : Int32))]) 12 d_M_lastBeat_11 rfl (by decide) rfl ?_
      exact (l_M_lastBeat_12 ih FU _ _ h)
theorem m_M_lastBeat {l : Launch} {q : Int32} {a0 : Nat} {μ : MM} (h : f_M_lastBeat a0 μ = some q) : AMet l 4 Y_M_lastBeat [.ref a0] μ (some (.int q)) μ := by
  refine AMet.of (loc := [some (.ref a0), none, none, none]) pn_M_lastBeat (Nat.le_of_ble_eq_true rfl) rfl ?_
  unfold f_M_lastBeat at h
  obtain ⟨_, hk, h⟩ := bnd h
  refine aw_iconst (v := (-1 : Int32)) 1 d_M_lastBeat_0 rfl (by decide) ?_
  refine aw_istore_n (loc' := [some (.ref a0), some (.int (-1 : Int32)), none, none]) 2 d_M_lastBeat_1 rfl (by decide) rfl ?_
  refine aw_iconst (v := (0 : Int32)) 3 d_M_lastBeat_2 rfl (by decide) ?_
  refine aw_istore_n (loc' := [some (.ref a0), some (.int (-1 : Int32)), some (.int (0 : Int32)), none]) 4 d_M_lastBeat_3 rfl (by decide) rfl ?_
  exact (l_M_lastBeat_4 FU _ _ h)
theorem k_M_lastBeat {q : Int32} {a0 : Nat} {μ : MM} (h : f_M_lastBeat a0 μ = some q) : μ.1[a0]? = some (0, 1) := by
  unfold f_M_lastBeat at h
  obtain ⟨_, h1, _⟩ := bnd h
  exact kO_some h1
theorem m_M_plain {l : Launch} {q : Int64} {x0 : Int64} {μ : MM} (h : f_M_plain x0 = some q) : AMet l 1 Y_M_plain [.long x0] μ (some (.long q)) μ := by
  refine AMet.of (loc := [some (.long x0), none]) pn_M_plain (Nat.le_of_ble_eq_true rfl) rfl ?_
  unfold f_M_plain at h
  refine aw_lload_n 1 d_M_plain_0 rfl rfl ?_
  refine aw_lconst (v := (0 : Int64)) 2 d_M_plain_1 rfl (by decide) ?_
  refine aw_lcmp 3 d_M_plain_2 rfl ?_
  refine aw_if_ge 11 6 d_M_plain_3 (by decide) rfl (fun c3 => ?_) (fun c3 => ?_)
  · have h := (if_pos c3).symm.trans h
    refine aw_lload_n 12 d_M_plain_11 rfl rfl ?_
    cases h
    exact aw_lreturn d_M_plain_12 rfl
  · have h := (if_neg c3).symm.trans h
    refine aw_lload_n 7 d_M_plain_6 rfl rfl ?_
    refine aw_lneg 8 d_M_plain_7 rfl ?_
    refine aw_goto 12 d_M_plain_8 (by decide) ?_
    cases h
    exact aw_lreturn d_M_plain_12 rfl
theorem l_M_foulBy_5 {l : Launch} {μ0 : MM} {q : Int64} {a0 : Nat} {x1 : Int32} {x2 : Int32} {μ : MM} : ∀ (n : Nat) (x3 : Int64) (x5 : Int32), f_M_foulBy_L5 a0 x1 x2 μ n x3 x5 = some q → AWm l Y_M_foulBy 5 μ0 (some (.long q)) μ 5 [some (.ref a0), some (.int x1), some (.int x2), some (.long x3), none, some (.int x5)] [] μ := by
  intro n
  induction n with
  | zero =>
    intro x3 x5 h
    have h : (none : Option (Int64)) = some q := h
    cases h
  | succ n ih =>
    intro x3 x5 h
    rw [f_M_foulBy_L5] at h
    refine aw_iload 7 d_M_foulBy_5 rfl rfl ?_
    refine aw_bipush (v := (6 : Int32)) 9 d_M_foulBy_7 rfl (by decide) ?_
    refine aw_icmp_ge 43 12 d_M_foulBy_9 (by decide) rfl (fun c9 => ?_) (fun c9 => ?_)
    · have h := (if_pos c9).symm.trans h
      refine aw_lload_n 44 d_M_foulBy_43 rfl rfl ?_
      cases h
      exact aw_lreturn d_M_foulBy_44 rfl
    · have h := (if_neg c9).symm.trans h
      refine aw_aload_n 13 d_M_foulBy_12 rfl rfl ?_
      refine aw_iload 15 d_M_foulBy_13 rfl rfl ?_
      refine aw_iload_n 16 d_M_foulBy_15 rfl rfl ?_
      obtain ⟨y16, h16, h⟩ := bnd h
      refine aw_invV (rest := []) (st' := [.int y16]) (As := [.int x5, .int x1]) 19 d_M_foulBy_16 rfl lv_M_193 (m_M_isHeld h16) (by decide) (k_M_isHeld h16) rfl rfl rfl (Nat.le_of_ble_eq_true rfl) rfl ?_
      refine aw_if_eq 37 22 d_M_foulBy_19 (by decide) rfl (fun c19 => ?_) (fun c19 => ?_)
      · have h := (if_pos c19).symm.trans h
        refine aw_iinc (v := (x5 + (1 : Int32))) (loc' := [some (.ref a0), some (.int x1), some (.int x2), some (.long x3), none, some (.int (x5 + (1 : Int32)))]) 40 d_M_foulBy_37 rfl (by decide) rfl rfl rfl ?_
        refine aw_goto 5 d_M_foulBy_40 (by decide) ?_
        exact (ih x3 (x5 + (1 : Int32)) h)
      · have h := (if_neg c19).symm.trans h
        refine aw_lload_n 23 d_M_foulBy_22 rfl rfl ?_
        refine aw_aload_n 24 d_M_foulBy_23 rfl rfl ?_
        refine aw_iload 26 d_M_foulBy_24 rfl rfl ?_
        refine aw_iload_n 27 d_M_foulBy_26 rfl rfl ?_
        refine aw_iload_n 28 d_M_foulBy_27 rfl rfl ?_
        obtain ⟨y28, h28, h⟩ := bnd h
        refine aw_invV (rest := [.long x3]) (st' := [.int y28, .long x3]) (As := [.int x5, .int x1, .int x2]) 31 d_M_foulBy_28 rfl lv_M_222 (m_M_tornBy h28) (by decide) (k_M_tornBy h28) rfl rfl rfl (Nat.le_of_ble_eq_true rfl) rfl ?_
        refine aw_i2l 32 d_M_foulBy_31 rfl ?_
        obtain ⟨y32, h32, h⟩ := bnd h
        refine aw_invS (rest := [.long x3]) (st' := [.long y32, .long x3]) (As := [.long y28.toInt64]) 35 d_M_foulBy_32 rfl ls_M_225 (m_M_plain h32) (by decide) rfl rfl (Nat.le_of_ble_eq_true rfl) rfl ?_
        refine aw_ladd 36 d_M_foulBy_35 rfl ?_
        refine aw_lstore_n (loc' := [some (.ref a0), some (.int x1), some (.int x2), some (.long (x3 + y32)), none, some (.int x5)]) 37 d_M_foulBy_36 rfl (by decide) rfl ?_
        refine aw_iinc (v := (x5 + (1 : Int32))) (loc' := [some (.ref a0), some (.int x1), some (.int x2), some (.long (x3 + y32)), none, some (.int (x5 + (1 : Int32)))]) 40 d_M_foulBy_37 rfl (by decide) rfl rfl rfl ?_
        refine aw_goto 5 d_M_foulBy_40 (by decide) ?_
        exact (ih (x3 + y32) (x5 + (1 : Int32)) h)
theorem m_M_foulBy {l : Launch} {q : Int64} {a0 : Nat} {x1 : Int32} {x2 : Int32} {μ : MM} (h : f_M_foulBy a0 x1 x2 μ = some q) : AMet l 5 Y_M_foulBy [.ref a0, .int x1, .int x2] μ (some (.long q)) μ := by
  refine AMet.of (loc := [some (.ref a0), some (.int x1), some (.int x2), none, none, none]) pn_M_foulBy (Nat.le_of_ble_eq_true rfl) rfl ?_
  unfold f_M_foulBy at h
  obtain ⟨_, hk, h⟩ := bnd h
  refine aw_lconst (v := (0 : Int64)) 1 d_M_foulBy_0 rfl (by decide) ?_
  refine aw_lstore_n (loc' := [some (.ref a0), some (.int x1), some (.int x2), some (.long (0 : Int64)), none, none]) 2 d_M_foulBy_1 rfl (by decide) rfl ?_
  refine aw_iconst (v := (0 : Int32)) 3 d_M_foulBy_2 rfl (by decide) ?_
  refine aw_istore (loc' := [some (.ref a0), some (.int x1), some (.int x2), some (.long (0 : Int64)), none, some (.int (0 : Int32))]) 5 d_M_foulBy_3 rfl (by decide) rfl ?_
  exact (l_M_foulBy_5 FU _ _ h)
theorem k_M_foulBy {q : Int64} {a0 : Nat} {x1 : Int32} {x2 : Int32} {μ : MM} (h : f_M_foulBy a0 x1 x2 μ = some q) : μ.1[a0]? = some (0, 1) := by
  unfold f_M_foulBy at h
  obtain ⟨_, h1, _⟩ := bnd h
  exact kO_some h1
theorem l_M_sink_42 {l : Launch} {μ0 : MM} {q : Int32 × MM} {a0 : Nat} {x2 : Int32} {μ : MM} : ∀ (n : Nat) (x3 : Int64) (x5 : Int32), f_M_sink_L42 a0 x2 μ n x3 x5 = some q → AWm l Y_M_sink 6 μ0 (some (.int q.1)) q.2 42 [some (.ref a0), none, some (.int x2), some (.long x3), none, some (.int x5)] [] μ := by
  intro n
  induction n with
  | zero =>
    intro x3 x5 h
    have h : (none : Option (Int32 × MM)) = some q := h
    cases h
  | succ n ih =>
    intro x3 x5 h
    rw [f_M_sink_L42] at h
    refine aw_iload 44 d_M_sink_42 rfl rfl ?_
    refine aw_iload_n 45 d_M_sink_44 rfl rfl ?_
    refine aw_icmp_gt 70 48 d_M_sink_45 (by decide) rfl (fun c45 => ?_) (fun c45 => ?_)
    · have h := (if_pos c45).symm.trans h
      refine aw_lload_n 71 d_M_sink_70 rfl rfl ?_
      refine aw_l2i 72 d_M_sink_71 rfl ?_
      cases h
      exact aw_ireturn d_M_sink_72 rfl rfl
    · have h := (if_neg c45).symm.trans h
      refine aw_lload_n 49 d_M_sink_48 rfl rfl ?_
      refine aw_aload_n 50 d_M_sink_49 rfl rfl ?_
      refine aw_iload 52 d_M_sink_50 rfl rfl ?_
      refine aw_aload_n 53 d_M_sink_52 rfl rfl ?_
      obtain ⟨y53, h53, h⟩ := bnd h
      refine aw_getR 56 d_M_sink_53 rfl fg_M_30 rfl h53 ?_
      refine aw_iload 58 d_M_sink_56 rfl rfl ?_
      obtain ⟨y58, h58, h⟩ := bnd h
      refine aw_iald 59 d_M_sink_58 rfl h58 ?_
      obtain ⟨y59, h59, h⟩ := bnd h
      refine aw_invV (rest := [.long x3]) (st' := [.long y59, .long x3]) (As := [.int x5, .int y58]) 62 d_M_sink_59 rfl lv_M_238 (m_M_foulBy h59) (by decide) (k_M_foulBy h59) rfl rfl rfl (Nat.le_of_ble_eq_true rfl) rfl ?_
      refine aw_ladd 63 d_M_sink_62 rfl ?_
      refine aw_lstore_n (loc' := [some (.ref a0), none, some (.int x2), some (.long (x3 + y59)), none, some (.int x5)]) 64 d_M_sink_63 rfl (by decide) rfl ?_
      refine aw_iinc (v := (x5 + (1 : Int32))) (loc' := [some (.ref a0), none, some (.int x2), some (.long (x3 + y59)), none, some (.int (x5 + (1 : Int32)))]) 67 d_M_sink_64 rfl (by decide) rfl rfl rfl ?_
      refine aw_goto 42 d_M_sink_67 (by decide) ?_
      exact (ih (x3 + y59) (x5 + (1 : Int32)) h)
theorem m_M_sink {l : Launch} {q : Int32 × MM} {a0 : Nat} {x1 : Int32} {μ : MM} (h : f_M_sink a0 x1 μ = some q) : AMet l 6 Y_M_sink [.ref a0, .int x1] μ (some (.int q.1)) q.2 := by
  refine AMet.of (loc := [some (.ref a0), some (.int x1), none, none, none, none]) pn_M_sink (Nat.le_of_ble_eq_true rfl) rfl ?_
  unfold f_M_sink at h
  obtain ⟨_, hk, h⟩ := bnd h
  refine aw_aload_n 1 d_M_sink_0 rfl rfl ?_
  obtain ⟨y1, h1, h⟩ := bnd h
  refine aw_invV (rest := []) (st' := [.int y1]) (As := []) 4 d_M_sink_1 rfl lv_M_234 (m_M_lastBeat h1) (by decide) (k_M_lastBeat h1) rfl rfl rfl (Nat.le_of_ble_eq_true rfl) rfl ?_
  refine aw_istore_n (loc' := [some (.ref a0), some (.int x1), some (.int y1), none, none, none]) 5 d_M_sink_4 rfl (by decide) rfl ?_
  refine aw_iload_n 6 d_M_sink_5 rfl rfl ?_
  refine aw_iconst (v := (-1 : Int32)) 7 d_M_sink_6 rfl (by decide) ?_
  refine aw_icmp_eq 22 10 d_M_sink_7 (by decide) rfl (fun c7 => ?_) (fun c7 => ?_)
  · have h := (if_pos c7).symm.trans h
    refine aw_ldc (v := (-1000000000 : Int32)) 24 d_M_sink_22 rfl c_M_192 ?_
    cases h
    exact aw_ireturn d_M_sink_24 rfl rfl
  · have h := (if_neg c7).symm.trans h
    refine aw_iload_n 11 d_M_sink_10 rfl rfl ?_
    refine aw_i2l 12 d_M_sink_11 rfl ?_
    refine aw_lconst (v := (0 : Int64)) 13 d_M_sink_12 rfl (by decide) ?_
    refine aw_ldc2 (v := (5 : Int64)) 16 d_M_sink_13 rfl c_M_143 ?_
    obtain ⟨y16, h16, h⟩ := bnd h
    refine aw_invS (rest := []) (st' := [.int y16]) (As := [.long x1.toInt64, .long (0 : Int64), .long (5 : Int64)]) 19 d_M_sink_16 rfl ls_M_145 (m_M_lies h16) (by decide) rfl rfl (Nat.le_of_ble_eq_true rfl) rfl ?_
    refine aw_if_ne 25 22 d_M_sink_19 (by decide) rfl (fun c19 => ?_) (fun c19 => ?_)
    · have h := (if_neg c19).symm.trans h
      refine aw_iload_n 26 d_M_sink_25 rfl rfl ?_
      refine aw_iconst (v := (5 : Int32)) 27 d_M_sink_26 rfl (by decide) ?_
      refine aw_icmp_ne 32 30 d_M_sink_27 (by decide) rfl (fun c27 => ?_) (fun c27 => ?_)
      · have h := (if_neg c27).symm.trans h
        refine aw_iload_n 33 d_M_sink_32 rfl rfl ?_
        refine aw_iconst (v := (4 : Int32)) 34 d_M_sink_33 rfl (by decide) ?_
        refine aw_icmp_ne 73 37 d_M_sink_34 (by decide) rfl (fun c34 => ?_) (fun c34 => ?_)
        · have h := (if_neg c34).symm.trans h
          refine aw_aload_n 74 d_M_sink_73 rfl rfl ?_
          refine aw_iload_n 75 d_M_sink_74 rfl rfl ?_
          obtain ⟨q75, h75, h⟩ := bnd h
          refine aw_invV (rest := []) (st' := [.int q75.1]) (As := [.int y1]) 78 d_M_sink_75 rfl lv_M_231 (m_M_keynoteOf h75) (by decide) (k_M_keynoteOf h75) rfl rfl rfl (Nat.le_of_ble_eq_true rfl) rfl ?_
          refine aw_istore_n (loc' := [some (.ref a0), some (.int x1), some (.int y1), some (.int q75.1), none, none]) 79 d_M_sink_78 rfl (by decide) rfl ?_
          refine aw_iload_n 80 d_M_sink_79 rfl rfl ?_
          refine aw_if_ne 87 83 d_M_sink_80 (by decide) rfl (fun c80 => ?_) (fun c80 => ?_)
          · have h := (if_neg c80).symm.trans h
            refine aw_iload_n 88 d_M_sink_87 rfl rfl ?_
            refine aw_iconst (v := (1 : Int32)) 89 d_M_sink_88 rfl (by decide) ?_
            refine aw_icmp_ne 99 92 d_M_sink_89 (by decide) rfl (fun c89 => ?_) (fun c89 => ?_)
            · have h := (if_neg c89).symm.trans h
              refine aw_iload_n 100 d_M_sink_99 rfl rfl ?_
              refine aw_iconst (v := (2 : Int32)) 101 d_M_sink_100 rfl (by decide) ?_
              refine aw_icmp_ne 111 104 d_M_sink_101 (by decide) rfl (fun c101 => ?_) (fun c101 => ?_)
              · have h := (if_neg c101).symm.trans h
                refine aw_aload_n 112 d_M_sink_111 rfl rfl ?_
                obtain ⟨y112, h112, h⟩ := bnd h
                refine aw_getI 115 d_M_sink_112 rfl fg_M_208 (Or.inl rfl) h112 ?_
                cases h
                exact aw_ireturn d_M_sink_115 rfl rfl
              · have h := (if_pos c101).symm.trans h
                refine aw_aload_n 105 d_M_sink_104 rfl rfl ?_
                obtain ⟨y105, h105, h⟩ := bnd h
                refine aw_getI 108 d_M_sink_105 rfl fg_M_205 (Or.inl rfl) h105 ?_
                refine aw_goto 115 d_M_sink_108 (by decide) ?_
                cases h
                exact aw_ireturn d_M_sink_115 rfl rfl
            · have h := (if_pos c89).symm.trans h
              refine aw_aload_n 93 d_M_sink_92 rfl rfl ?_
              obtain ⟨y93, h93, h⟩ := bnd h
              refine aw_getI 96 d_M_sink_93 rfl fg_M_202 (Or.inl rfl) h93 ?_
              refine aw_goto 115 d_M_sink_96 (by decide) ?_
              cases h
              exact aw_ireturn d_M_sink_115 rfl rfl
          · have h := (if_pos c80).symm.trans h
            refine aw_iload_n 84 d_M_sink_83 rfl rfl ?_
            refine aw_goto 115 d_M_sink_84 (by decide) ?_
            cases h
            exact aw_ireturn d_M_sink_115 rfl rfl
        · have h := (if_pos c34).symm.trans h
          refine aw_lconst (v := (0 : Int64)) 38 d_M_sink_37 rfl (by decide) ?_
          refine aw_lstore_n (loc' := [some (.ref a0), some (.int x1), some (.int y1), some (.long (0 : Int64)), none, none]) 39 d_M_sink_38 rfl (by decide) rfl ?_
          refine aw_iconst (v := (1 : Int32)) 40 d_M_sink_39 rfl (by decide) ?_
          refine aw_istore (loc' := [some (.ref a0), some (.int x1), some (.int y1), some (.long (0 : Int64)), none, some (.int (1 : Int32))]) 42 d_M_sink_40 rfl (by decide) rfl ?_
          exact AW.wk [true, false, true, true, true, true] rfl (l_M_sink_42 FU _ _ h)
      · have h := (if_pos c27).symm.trans h
        refine aw_iload_n 31 d_M_sink_30 rfl rfl ?_
        cases h
        exact aw_ireturn d_M_sink_31 rfl rfl
    · have h := (if_pos c19).symm.trans h
      refine aw_ldc (v := (-1000000000 : Int32)) 24 d_M_sink_22 rfl c_M_192 ?_
      cases h
      exact aw_ireturn d_M_sink_24 rfl rfl
theorem k_M_sink {q : Int32 × MM} {a0 : Nat} {x1 : Int32} {μ : MM} (h : f_M_sink a0 x1 μ = some q) : μ.1[a0]? = some (0, 1) := by
  unfold f_M_sink at h
  obtain ⟨_, h1, _⟩ := bnd h
  exact kO_some h1
theorem j_X_asksRow_16 {l : Launch} {μ0 : MM} {q : Int32} {a0 : Nat} {μ : MM} (h : f_X_asksRow_J16 a0 μ = some q) : AWm l Y_X_asksRow 4 μ0 (some (.int q)) μ 16 [some (.ref a0), none] [] μ := by
  unfold f_X_asksRow_J16 at h
  refine aw_aload_n 17 d_X_asksRow_16 rfl rfl ?_
  obtain ⟨y17, h17, h⟩ := bnd h
  refine aw_getR 20 d_X_asksRow_17 rfl fg_X_10 rfl h17 ?_
  obtain ⟨y20, h20, h⟩ := bnd h
  refine aw_invV (rest := []) (st' := [.int y20]) (As := []) 23 d_X_asksRow_20 rfl lv_X_135 (m_Sc_lastBeat h20) (by decide) (k_Sc_lastBeat h20) rfl rfl rfl (Nat.le_of_ble_eq_true rfl) rfl ?_
  refine aw_iconst (v := (-1 : Int32)) 24 d_X_asksRow_23 rfl (by decide) ?_
  refine aw_icmp_eq 31 27 d_X_asksRow_24 (by decide) rfl (fun c24 => ?_) (fun c24 => ?_)
  · have h := (if_pos c24).symm.trans h
    refine aw_iconst (v := (0 : Int32)) 32 d_X_asksRow_31 rfl (by decide) ?_
    cases h
    exact aw_ireturn d_X_asksRow_32 rfl nar0
  · have h := (if_neg c24).symm.trans h
    refine aw_iconst (v := (1 : Int32)) 28 d_X_asksRow_27 rfl (by decide) ?_
    refine aw_goto 32 d_X_asksRow_28 (by decide) ?_
    cases h
    exact aw_ireturn d_X_asksRow_32 rfl nar1
theorem m_X_asksRow {l : Launch} {q : Int32} {a0 : Nat} {x1 : Int32} {μ : MM} (h : f_X_asksRow a0 x1 μ = some q) : AMet l 4 Y_X_asksRow [.ref a0, .int x1] μ (some (.int q)) μ := by
  refine AMet.of (loc := [some (.ref a0), some (.int x1)]) pn_X_asksRow (Nat.le_of_ble_eq_true rfl) rfl ?_
  unfold f_X_asksRow at h
  obtain ⟨_, hk, h⟩ := bnd h
  refine aw_iload_n 1 d_X_asksRow_0 rfl rfl ?_
  refine aw_iconst (v := (-1 : Int32)) 2 d_X_asksRow_1 rfl (by decide) ?_
  refine aw_icmp_eq 16 5 d_X_asksRow_2 (by decide) rfl (fun c2 => ?_) (fun c2 => ?_)
  · have h := (if_pos c2).symm.trans h
    exact AW.wk [true, false] rfl (j_X_asksRow_16 h)
  · have h := (if_neg c2).symm.trans h
    refine aw_iload_n 6 d_X_asksRow_5 rfl rfl ?_
    refine aw_iconst (v := (1 : Int32)) 7 d_X_asksRow_6 rfl (by decide) ?_
    refine aw_icmp_lt 31 10 d_X_asksRow_7 (by decide) rfl (fun c7 => ?_) (fun c7 => ?_)
    · have h := (if_pos c7).symm.trans h
      refine aw_iconst (v := (0 : Int32)) 32 d_X_asksRow_31 rfl (by decide) ?_
      cases h
      exact aw_ireturn d_X_asksRow_32 rfl nar0
    · have h := (if_neg c7).symm.trans h
      refine aw_iload_n 11 d_X_asksRow_10 rfl rfl ?_
      refine aw_bipush (v := (24 : Int32)) 13 d_X_asksRow_11 rfl (by decide) ?_
      refine aw_icmp_ge 31 16 d_X_asksRow_13 (by decide) rfl (fun c13 => ?_) (fun c13 => ?_)
      · have h := (if_pos c13).symm.trans h
        refine aw_iconst (v := (0 : Int32)) 32 d_X_asksRow_31 rfl (by decide) ?_
        cases h
        exact aw_ireturn d_X_asksRow_32 rfl nar0
      · have h := (if_neg c13).symm.trans h
        exact AW.wk [true, false] rfl (j_X_asksRow_16 h)
theorem k_X_asksRow {q : Int32} {a0 : Nat} {x1 : Int32} {μ : MM} (h : f_X_asksRow a0 x1 μ = some q) : μ.1[a0]? = some (0, 0) := by
  unfold f_X_asksRow at h
  obtain ⟨_, h1, _⟩ := bnd h
  exact kO_some h1
theorem m_Wa_init {l : Launch} {q : MM} {a0 : Nat} {a1 : Nat} {μ : MM} (h : f_Wa_init a0 a1 μ = some q) : AMet l 1 Y_Wa_init [.ref a0, .ref a1] μ none q := by
  refine AMet.of (loc := [some (.ref a0), some (.ref a1)]) pn_Wa_init (Nat.le_of_ble_eq_true rfl) rfl ?_
  unfold f_Wa_init at h
  obtain ⟨_, hk, h⟩ := bnd h
  refine aw_aload_n 1 d_Wa_init_0 rfl rfl ?_
  refine aw_objInit 4 d_Wa_init_1 rfl oi_Wa_5 (Nat.le_of_ble_eq_true rfl) (Nat.le_of_ble_eq_true rfl) ?_
  refine aw_aload_n 5 d_Wa_init_4 rfl rfl ?_
  refine aw_sipush (v := (7200 : Int32)) 8 d_Wa_init_5 rfl (by decide) ?_
  obtain ⟨μ8, h8, h⟩ := bnd h
  refine aw_newa (t := 1) (ty := .int) 10 d_Wa_init_8 rfl rfl (by simp) ac_int h8 ?_
  obtain ⟨μ10, h10, h⟩ := bnd h
  refine aw_putR 13 true d_Wa_init_10 rfl fp_Wa_13 (fun _ => rfl) rfl h10 ?_
  refine aw_aload_n 14 d_Wa_init_13 rfl rfl ?_
  refine aw_sipush (v := (7200 : Int32)) 17 d_Wa_init_14 rfl (by decide) ?_
  obtain ⟨μ17, h17, h⟩ := bnd h
  refine aw_newa (t := 1) (ty := .int) 19 d_Wa_init_17 rfl rfl (by simp) ac_int h17 ?_
  obtain ⟨μ19, h19, h⟩ := bnd h
  refine aw_putR 22 true d_Wa_init_19 rfl fp_Wa_17 (fun _ => rfl) rfl h19 ?_
  refine aw_aload_n 23 d_Wa_init_22 rfl rfl ?_
  refine aw_bipush (v := (24 : Int32)) 25 d_Wa_init_23 rfl (by decide) ?_
  obtain ⟨μ25, h25, h⟩ := bnd h
  refine aw_newa (t := 1) (ty := .int) 27 d_Wa_init_25 rfl rfl (by simp) ac_int h25 ?_
  obtain ⟨μ27, h27, h⟩ := bnd h
  refine aw_putR 30 true d_Wa_init_27 rfl fp_Wa_20 (fun _ => rfl) rfl h27 ?_
  refine aw_aload_n 31 d_Wa_init_30 rfl rfl ?_
  refine aw_sipush (v := (300 : Int32)) 34 d_Wa_init_31 rfl (by decide) ?_
  obtain ⟨μ34, h34, h⟩ := bnd h
  refine aw_newa (t := 1) (ty := .int) 36 d_Wa_init_34 rfl rfl (by simp) ac_int h34 ?_
  obtain ⟨μ36, h36, h⟩ := bnd h
  refine aw_putR 39 true d_Wa_init_36 rfl fp_Wa_23 (fun _ => rfl) rfl h36 ?_
  refine aw_aload_n 40 d_Wa_init_39 rfl rfl ?_
  refine aw_sipush (v := (168 : Int32)) 43 d_Wa_init_40 rfl (by decide) ?_
  obtain ⟨μ43, h43, h⟩ := bnd h
  refine aw_newa (t := 1) (ty := .int) 45 d_Wa_init_43 rfl rfl (by simp) ac_int h43 ?_
  obtain ⟨μ45, h45, h⟩ := bnd h
  refine aw_putR 48 true d_Wa_init_45 rfl fp_Wa_26 (fun _ => rfl) rfl h45 ?_
  refine aw_aload_n 49 d_Wa_init_48 rfl rfl ?_
  refine aw_sipush (v := (168 : Int32)) 52 d_Wa_init_49 rfl (by decide) ?_
  obtain ⟨μ52, h52, h⟩ := bnd h
  refine aw_newa (t := 1) (ty := .int) 54 d_Wa_init_52 rfl rfl (by simp) ac_int h52 ?_
  obtain ⟨μ54, h54, h⟩ := bnd h
  refine aw_putR 57 true d_Wa_init_54 rfl fp_Wa_29 (fun _ => rfl) rfl h54 ?_
  refine aw_aload_n 58 d_Wa_init_57 rfl rfl ?_
  refine aw_bipush (v := (24 : Int32)) 60 d_Wa_init_58 rfl (by decide) ?_
  obtain ⟨μ60, h60, h⟩ := bnd h
  refine aw_newa (t := 1) (ty := .int) 62 d_Wa_init_60 rfl rfl (by simp) ac_int h60 ?_
  obtain ⟨μ62, h62, h⟩ := bnd h
  refine aw_putR 65 true d_Wa_init_62 rfl fp_Wa_32 (fun _ => rfl) rfl h62 ?_
  refine aw_aload_n 66 d_Wa_init_65 rfl rfl ?_
  refine aw_aload_n 67 d_Wa_init_66 rfl rfl ?_
  obtain ⟨μ67, h67, h⟩ := bnd h
  refine aw_putR 70 true d_Wa_init_67 rfl fp_Wa_35 (fun _ => rfl) rfl h67 ?_
  cases h
  exact aw_return d_Wa_init_70 rfl
theorem k_Wa_init {q : MM} {a0 : Nat} {a1 : Nat} {μ : MM} (h : f_Wa_init a0 a1 μ = some q) : μ.1[a0]? = some (0, 11) := by
  unfold f_Wa_init at h
  obtain ⟨_, h1, _⟩ := bnd h
  exact kO_some h1
theorem m_Mt_min {l : Launch} {q : Int32} {x0 : Int32} {x1 : Int32} {μ : MM} (h : f_Mt_min x0 x1 = some q) : AMet l 1 Y_Mt_min [.int x0, .int x1] μ (some (.int q)) μ := by
  refine AMet.of (loc := [some (.int x0), some (.int x1)]) pn_Mt_min (Nat.le_of_ble_eq_true rfl) rfl ?_
  unfold f_Mt_min at h
  refine aw_iload_n 1 d_Mt_min_0 rfl rfl ?_
  refine aw_iload_n 2 d_Mt_min_1 rfl rfl ?_
  refine aw_icmp_gt 9 5 d_Mt_min_2 (by decide) rfl (fun c2 => ?_) (fun c2 => ?_)
  · have h := (if_pos c2).symm.trans h
    refine aw_iload_n 10 d_Mt_min_9 rfl rfl ?_
    cases h
    exact aw_ireturn d_Mt_min_10 rfl rfl
  · have h := (if_neg c2).symm.trans h
    refine aw_iload_n 6 d_Mt_min_5 rfl rfl ?_
    refine aw_goto 10 d_Mt_min_6 (by decide) ?_
    cases h
    exact aw_ireturn d_Mt_min_10 rfl rfl
theorem j_Wa_spread_179 {l : Launch} {μ0 : MM} {q : Int32 × MM} {a0 : Nat} {x1 : Int32} {x4 : Int32} {x5 : Int32} {x6 : Int32} {x7 : Int32} {μ : MM} (h : f_Wa_spread_J179 a0 x1 x4 x5 x6 x7 μ = some q) : AWm l Y_Wa_spread 2 μ0 (some (.int q.1)) q.2 179 [some (.ref a0), some (.int x1), none, none, some (.int x4), some (.int x5), some (.int x6), some (.int x7), none, none] [] μ := by
  unfold f_Wa_spread_J179 at h
  refine aw_iload 181 d_Wa_spread_179 rfl rfl ?_
  refine aw_aload_n 182 d_Wa_spread_181 rfl rfl ?_
  obtain ⟨y182, h182, h⟩ := bnd h
  refine aw_getR 185 d_Wa_spread_182 rfl fg_Wa_20 rfl h182 ?_
  refine aw_iload_n 186 d_Wa_spread_185 rfl rfl ?_
  refine aw_iconst (v := (1 : Int32)) 187 d_Wa_spread_186 rfl (by decide) ?_
  refine aw_isub 188 d_Wa_spread_187 rfl ?_
  obtain ⟨y188, h188, h⟩ := bnd h
  refine aw_iald 189 d_Wa_spread_188 rfl h188 ?_
  refine aw_icmp_lt 203 192 d_Wa_spread_189 (by decide) rfl (fun c189 => ?_) (fun c189 => ?_)
  · have h := (if_pos c189).symm.trans h
    refine aw_iconst (v := (0 : Int32)) 204 d_Wa_spread_203 rfl (by decide) ?_
    cases h
    exact aw_ireturn d_Wa_spread_204 rfl nar0
  · have h := (if_neg c189).symm.trans h
    refine aw_iload 194 d_Wa_spread_192 rfl rfl ?_
    refine aw_aload_n 195 d_Wa_spread_194 rfl rfl ?_
    obtain ⟨y195, h195, h⟩ := bnd h
    refine aw_getR 198 d_Wa_spread_195 rfl fg_Wa_20 rfl h195 ?_
    refine aw_iload_n 199 d_Wa_spread_198 rfl rfl ?_
    obtain ⟨y199, h199, h⟩ := bnd h
    refine aw_iald 200 d_Wa_spread_199 rfl h199 ?_
    refine aw_icmp_ge 205 203 d_Wa_spread_200 (by decide) rfl (fun c200 => ?_) (fun c200 => ?_)
    · have h := (if_pos c200).symm.trans h
      refine aw_aload_n 206 d_Wa_spread_205 rfl rfl ?_
      obtain ⟨y206, h206, h⟩ := bnd h
      refine aw_getR 209 d_Wa_spread_206 rfl fg_Wa_23 rfl h206 ?_
      refine aw_iconst (v := (0 : Int32)) 210 d_Wa_spread_209 rfl (by decide) ?_
      refine aw_aload_n 211 d_Wa_spread_210 rfl rfl ?_
      obtain ⟨y211, h211, h⟩ := bnd h
      refine aw_getR 214 d_Wa_spread_211 rfl fg_Wa_13 rfl h211 ?_
      refine aw_iload 216 d_Wa_spread_214 rfl rfl ?_
      refine aw_iload 218 d_Wa_spread_216 rfl rfl ?_
      obtain ⟨μ218, h218, h⟩ := bnd h
      refine aw_copy 221 d_Wa_spread_218 rfl cp_Wa_49 (Nat.le_of_ble_eq_true rfl) (Nat.le_of_ble_eq_true rfl) h218 ?_
      refine aw_aload_n 222 d_Wa_spread_221 rfl rfl ?_
      obtain ⟨y222, h222, h⟩ := bnd h
      refine aw_getR 225 d_Wa_spread_222 rfl fg_Wa_20 rfl h222 ?_
      refine aw_iload_n 226 d_Wa_spread_225 rfl rfl ?_
      refine aw_iload 228 d_Wa_spread_226 rfl rfl ?_
      obtain ⟨μ228, h228, h⟩ := bnd h
      refine aw_iast 229 d_Wa_spread_228 rfl h228 ?_
      refine aw_iconst (v := (1 : Int32)) 230 d_Wa_spread_229 rfl (by decide) ?_
      cases h
      exact aw_ireturn d_Wa_spread_230 rfl nar1
    · have h := (if_neg c200).symm.trans h
      refine aw_iconst (v := (0 : Int32)) 204 d_Wa_spread_203 rfl (by decide) ?_
      cases h
      exact aw_ireturn d_Wa_spread_204 rfl nar0
theorem j_Wa_spread_148 {l : Launch} {μ0 : MM} {q : Int32 × MM} {a0 : Nat} {x1 : Int32} {x2 : Int32} {x3 : Int32} {x4 : Int32} {x6 : Int32} {x7 : Int32} {x9 : Int32} {s0 : Int32} {s1 : Int32} {μ : MM} {k24 : Int32 → Int32 → Int32 → MM → Option (Int32 × MM)} (hk24 : ∀ (x5 : Int32) (x6 : Int32) (x7 : Int32) (μ : MM), k24 x5 x6 x7 μ = some q → AWm l Y_Wa_spread 2 μ0 (some (.int q.1)) q.2 24 [some (.ref a0), some (.int x1), some (.int x2), some (.int x3), some (.int x4), some (.int x5), some (.int x6), some (.int x7), none, none] [] μ) (h : f_Wa_spread_J148 k24 a0 x1 x2 x3 x4 x6 x7 x9 s0 s1 μ = some q) : AWm l Y_Wa_spread 2 μ0 (some (.int q.1)) q.2 148 [some (.ref a0), some (.int x1), some (.int x2), some (.int x3), some (.int x4), none, some (.int x6), some (.int x7), none, some (.int x9)] [.int s1, .int s0] μ := by
  unfold f_Wa_spread_J148 at h
  refine aw_iadd 149 d_Wa_spread_148 rfl ?_
  refine aw_istore (loc' := [some (.ref a0), some (.int x1), some (.int x2), some (.int x3), some (.int x4), some (.int (s0 + s1)), some (.int x6), some (.int x7), none, some (.int x9)]) 151 d_Wa_spread_149 rfl (by decide) rfl ?_
  refine aw_iload 153 d_Wa_spread_151 rfl rfl ?_
  refine aw_iload 155 d_Wa_spread_153 rfl rfl ?_
  refine aw_aload_n 156 d_Wa_spread_155 rfl rfl ?_
  obtain ⟨y156, h156, h⟩ := bnd h
  refine aw_getR 159 d_Wa_spread_156 rfl fg_Wa_23 rfl h156 ?_
  refine aw_iload 161 d_Wa_spread_159 rfl rfl ?_
  obtain ⟨y161, h161, h⟩ := bnd h
  refine aw_iald 162 d_Wa_spread_161 rfl h161 ?_
  refine aw_icmp_ne 169 165 d_Wa_spread_162 (by decide) rfl (fun c162 => ?_) (fun c162 => ?_)
  · have h := (if_neg c162).symm.trans h
    refine aw_iconst (v := (0 : Int32)) 170 d_Wa_spread_169 rfl (by decide) ?_
    refine aw_iadd 171 d_Wa_spread_170 rfl ?_
    refine aw_istore (loc' := [some (.ref a0), some (.int x1), some (.int x2), some (.int x3), some (.int x4), some (.int (s0 + s1)), some (.int (x6 + (0 : Int32))), some (.int x7), none, some (.int x9)]) 173 d_Wa_spread_171 rfl (by decide) rfl ?_
    refine aw_iinc (v := (x7 + (1 : Int32))) (loc' := [some (.ref a0), some (.int x1), some (.int x2), some (.int x3), some (.int x4), some (.int (s0 + s1)), some (.int (x6 + (0 : Int32))), some (.int (x7 + (1 : Int32))), none, some (.int x9)]) 176 d_Wa_spread_173 rfl (by decide) rfl rfl rfl ?_
    refine aw_goto 24 d_Wa_spread_176 (by decide) ?_
    exact AW.wk [true, true, true, true, true, true, true, true, true, false] rfl (hk24 (s0 + s1) (x6 + (0 : Int32)) (x7 + (1 : Int32)) μ h)
  · have h := (if_pos c162).symm.trans h
    refine aw_iconst (v := (1 : Int32)) 166 d_Wa_spread_165 rfl (by decide) ?_
    refine aw_goto 170 d_Wa_spread_166 (by decide) ?_
    refine aw_iadd 171 d_Wa_spread_170 rfl ?_
    refine aw_istore (loc' := [some (.ref a0), some (.int x1), some (.int x2), some (.int x3), some (.int x4), some (.int (s0 + s1)), some (.int (x6 + (1 : Int32))), some (.int x7), none, some (.int x9)]) 173 d_Wa_spread_171 rfl (by decide) rfl ?_
    refine aw_iinc (v := (x7 + (1 : Int32))) (loc' := [some (.ref a0), some (.int x1), some (.int x2), some (.int x3), some (.int x4), some (.int (s0 + s1)), some (.int (x6 + (1 : Int32))), some (.int (x7 + (1 : Int32))), none, some (.int x9)]) 176 d_Wa_spread_173 rfl (by decide) rfl rfl rfl ?_
    refine aw_goto 24 d_Wa_spread_176 (by decide) ?_
    exact AW.wk [true, true, true, true, true, true, true, true, true, false] rfl (hk24 (s0 + s1) (x6 + (1 : Int32)) (x7 + (1 : Int32)) μ h)
theorem j_Wa_spread_113 {l : Launch} {μ0 : MM} {q : Int32 × MM} {a0 : Nat} {x1 : Int32} {x2 : Int32} {x3 : Int32} {x4 : Int32} {x5 : Int32} {x6 : Int32} {x7 : Int32} {x8 : Int32} {s0 : Int32} {μ : MM} {k24 : Int32 → Int32 → Int32 → MM → Option (Int32 × MM)} (hk24 : ∀ (x5 : Int32) (x6 : Int32) (x7 : Int32) (μ : MM), k24 x5 x6 x7 μ = some q → AWm l Y_Wa_spread 2 μ0 (some (.int q.1)) q.2 24 [some (.ref a0), some (.int x1), some (.int x2), some (.int x3), some (.int x4), some (.int x5), some (.int x6), some (.int x7), none, none] [] μ) (h : f_Wa_spread_J113 k24 a0 x1 x2 x3 x4 x5 x6 x7 x8 s0 μ = some q) : AWm l Y_Wa_spread 2 μ0 (some (.int q.1)) q.2 113 [some (.ref a0), some (.int x1), some (.int x2), some (.int x3), some (.int x4), some (.int x5), some (.int x6), some (.int x7), some (.int x8), none] [.int s0] μ := by
  unfold f_Wa_spread_J113 at h
  refine aw_istore (loc' := [some (.ref a0), some (.int x1), some (.int x2), some (.int x3), some (.int x4), some (.int x5), some (.int x6), some (.int x7), some (.int x8), some (.int s0)]) 115 d_Wa_spread_113 rfl (by decide) rfl ?_
  refine aw_aload_n 116 d_Wa_spread_115 rfl rfl ?_
  obtain ⟨y116, h116, h⟩ := bnd h
  refine aw_getR 119 d_Wa_spread_116 rfl fg_Wa_23 rfl h116 ?_
  refine aw_iload 121 d_Wa_spread_119 rfl rfl ?_
  refine aw_iload 123 d_Wa_spread_121 rfl rfl ?_
  refine aw_iload 125 d_Wa_spread_123 rfl rfl ?_
  obtain ⟨y125, h125, h⟩ := bnd h
  refine aw_invS (rest := [.int x7, .ref y116]) (st' := [.int y125, .int x7, .ref y116]) (As := [.int x8, .int s0]) 128 d_Wa_spread_125 rfl ls_Wa_67 (m_Mt_min h125) (by decide) rfl rfl (Nat.le_of_ble_eq_true rfl) rfl ?_
  obtain ⟨μ128, h128, h⟩ := bnd h
  refine aw_iast 129 d_Wa_spread_128 rfl h128 ?_
  refine aw_iload 131 d_Wa_spread_129 rfl rfl ?_
  refine aw_iload 133 d_Wa_spread_131 rfl rfl ?_
  refine aw_aload_n 134 d_Wa_spread_133 rfl rfl ?_
  obtain ⟨y134, h134, h⟩ := bnd h
  refine aw_getR 137 d_Wa_spread_134 rfl fg_Wa_23 rfl h134 ?_
  refine aw_iload 139 d_Wa_spread_137 rfl rfl ?_
  obtain ⟨y139, h139, h⟩ := bnd h
  refine aw_iald 140 d_Wa_spread_139 rfl h139 ?_
  refine aw_icmp_ne 147 143 d_Wa_spread_140 (by decide) rfl (fun c140 => ?_) (fun c140 => ?_)
  · have h := (if_neg c140).symm.trans h
    refine aw_iconst (v := (0 : Int32)) 148 d_Wa_spread_147 rfl (by decide) ?_
    exact AW.wk [true, true, true, true, true, false, true, true, false, true] rfl (j_Wa_spread_148 hk24 h)
  · have h := (if_pos c140).symm.trans h
    refine aw_iconst (v := (1 : Int32)) 144 d_Wa_spread_143 rfl (by decide) ?_
    refine aw_goto 148 d_Wa_spread_144 (by decide) ?_
    exact AW.wk [true, true, true, true, true, false, true, true, false, true] rfl (j_Wa_spread_148 hk24 h)
theorem j_Wa_spread_85 {l : Launch} {μ0 : MM} {q : Int32 × MM} {a0 : Nat} {x1 : Int32} {x2 : Int32} {x3 : Int32} {x4 : Int32} {x5 : Int32} {x6 : Int32} {x7 : Int32} {s0 : Int32} {μ : MM} {k24 : Int32 → Int32 → Int32 → MM → Option (Int32 × MM)} (hk24 : ∀ (x5 : Int32) (x6 : Int32) (x7 : Int32) (μ : MM), k24 x5 x6 x7 μ = some q → AWm l Y_Wa_spread 2 μ0 (some (.int q.1)) q.2 24 [some (.ref a0), some (.int x1), some (.int x2), some (.int x3), some (.int x4), some (.int x5), some (.int x6), some (.int x7), none, none] [] μ) (h : f_Wa_spread_J85 k24 a0 x1 x2 x3 x4 x5 x6 x7 s0 μ = some q) : AWm l Y_Wa_spread 2 μ0 (some (.int q.1)) q.2 85 [some (.ref a0), some (.int x1), some (.int x2), some (.int x3), some (.int x4), some (.int x5), some (.int x6), some (.int x7), none, none] [.int s0] μ := by
  unfold f_Wa_spread_J85 at h
  refine aw_istore (loc' := [some (.ref a0), some (.int x1), some (.int x2), some (.int x3), some (.int x4), some (.int x5), some (.int x6), some (.int x7), some (.int s0), none]) 87 d_Wa_spread_85 rfl (by decide) rfl ?_
  refine aw_iload 89 d_Wa_spread_87 rfl rfl ?_
  refine aw_aload_n 90 d_Wa_spread_89 rfl rfl ?_
  obtain ⟨y90, h90, h⟩ := bnd h
  refine aw_getR 93 d_Wa_spread_90 rfl fg_Wa_20 rfl h90 ?_
  refine aw_iload_n 94 d_Wa_spread_93 rfl rfl ?_
  obtain ⟨y94, h94, h⟩ := bnd h
  refine aw_iald 95 d_Wa_spread_94 rfl h94 ?_
  refine aw_icmp_ge 111 98 d_Wa_spread_95 (by decide) rfl (fun c95 => ?_) (fun c95 => ?_)
  · have h := (if_pos c95).symm.trans h
    refine aw_ldc (v := (2147483647 : Int32)) 113 d_Wa_spread_111 rfl c_Wa_66 ?_
    exact (j_Wa_spread_113 hk24 h)
  · have h := (if_neg c95).symm.trans h
    refine aw_aload_n 99 d_Wa_spread_98 rfl rfl ?_
    obtain ⟨y99, h99, h⟩ := bnd h
    refine aw_getR 102 d_Wa_spread_99 rfl fg_Wa_13 rfl h99 ?_
    refine aw_iload 104 d_Wa_spread_102 rfl rfl ?_
    refine aw_iload 106 d_Wa_spread_104 rfl rfl ?_
    refine aw_iadd 107 d_Wa_spread_106 rfl ?_
    obtain ⟨y107, h107, h⟩ := bnd h
    refine aw_iald 108 d_Wa_spread_107 rfl h107 ?_
    refine aw_goto 113 d_Wa_spread_108 (by decide) ?_
    exact (j_Wa_spread_113 hk24 h)
theorem j_Wa_spread_56 {l : Launch} {μ0 : MM} {q : Int32 × MM} {a0 : Nat} {x1 : Int32} {x2 : Int32} {x3 : Int32} {x4 : Int32} {x5 : Int32} {x6 : Int32} {x7 : Int32} {μ : MM} {k24 : Int32 → Int32 → Int32 → MM → Option (Int32 × MM)} (hk24 : ∀ (x5 : Int32) (x6 : Int32) (x7 : Int32) (μ : MM), k24 x5 x6 x7 μ = some q → AWm l Y_Wa_spread 2 μ0 (some (.int q.1)) q.2 24 [some (.ref a0), some (.int x1), some (.int x2), some (.int x3), some (.int x4), some (.int x5), some (.int x6), some (.int x7), none, none] [] μ) (h : f_Wa_spread_J56 k24 a0 x1 x2 x3 x4 x5 x6 x7 μ = some q) : AWm l Y_Wa_spread 2 μ0 (some (.int q.1)) q.2 56 [some (.ref a0), some (.int x1), some (.int x2), some (.int x3), some (.int x4), some (.int x5), some (.int x6), some (.int x7), none, none] [] μ := by
  unfold f_Wa_spread_J56 at h
  refine aw_iload 58 d_Wa_spread_56 rfl rfl ?_
  refine aw_aload_n 59 d_Wa_spread_58 rfl rfl ?_
  obtain ⟨y59, h59, h⟩ := bnd h
  refine aw_getR 62 d_Wa_spread_59 rfl fg_Wa_20 rfl h59 ?_
  refine aw_iload_n 63 d_Wa_spread_62 rfl rfl ?_
  refine aw_iconst (v := (1 : Int32)) 64 d_Wa_spread_63 rfl (by decide) ?_
  refine aw_isub 65 d_Wa_spread_64 rfl ?_
  obtain ⟨y65, h65, h⟩ := bnd h
  refine aw_iald 66 d_Wa_spread_65 rfl h65 ?_
  refine aw_icmp_ge 83 69 d_Wa_spread_66 (by decide) rfl (fun c66 => ?_) (fun c66 => ?_)
  · have h := (if_pos c66).symm.trans h
    refine aw_ldc (v := (2147483647 : Int32)) 85 d_Wa_spread_83 rfl c_Wa_66 ?_
    exact (j_Wa_spread_85 hk24 h)
  · have h := (if_neg c66).symm.trans h
    refine aw_aload_n 70 d_Wa_spread_69 rfl rfl ?_
    obtain ⟨y70, h70, h⟩ := bnd h
    refine aw_getR 73 d_Wa_spread_70 rfl fg_Wa_13 rfl h70 ?_
    refine aw_iload_n 74 d_Wa_spread_73 rfl rfl ?_
    refine aw_iload 76 d_Wa_spread_74 rfl rfl ?_
    refine aw_iadd 77 d_Wa_spread_76 rfl ?_
    obtain ⟨y77, h77, h⟩ := bnd h
    refine aw_iald 78 d_Wa_spread_77 rfl h77 ?_
    refine aw_iload_n 79 d_Wa_spread_78 rfl rfl ?_
    refine aw_iadd 80 d_Wa_spread_79 rfl ?_
    refine aw_goto 85 d_Wa_spread_80 (by decide) ?_
    exact (j_Wa_spread_85 hk24 h)
theorem l_Wa_spread_24 {l : Launch} {μ0 : MM} {q : Int32 × MM} {a0 : Nat} {x1 : Int32} {x2 : Int32} {x3 : Int32} {x4 : Int32} : ∀ (n : Nat) (x5 : Int32) (x6 : Int32) (x7 : Int32) (μ : MM), f_Wa_spread_L24 a0 x1 x2 x3 x4 n x5 x6 x7 μ = some q → AWm l Y_Wa_spread 2 μ0 (some (.int q.1)) q.2 24 [some (.ref a0), some (.int x1), some (.int x2), some (.int x3), some (.int x4), some (.int x5), some (.int x6), some (.int x7), none, none] [] μ := by
  intro n
  induction n with
  | zero =>
    intro x5 x6 x7 μ h
    have h : (none : Option (Int32 × MM)) = some q := h
    cases h
  | succ n ih =>
    intro x5 x6 x7 μ h
    rw [f_Wa_spread_L24] at h
    refine aw_iload 26 d_Wa_spread_24 rfl rfl ?_
    refine aw_sipush (v := (300 : Int32)) 29 d_Wa_spread_26 rfl (by decide) ?_
    refine aw_icmp_ge 179 32 d_Wa_spread_29 (by decide) rfl (fun c29 => ?_) (fun c29 => ?_)
    · have h := (if_pos c29).symm.trans h
      exact AW.wk [true, true, false, false, true, true, true, true, true, true] rfl (j_Wa_spread_179 h)
    · have h := (if_neg c29).symm.trans h
      refine aw_iload 34 d_Wa_spread_32 rfl rfl ?_
      refine aw_aload_n 35 d_Wa_spread_34 rfl rfl ?_
      obtain ⟨y35, h35, h⟩ := bnd h
      refine aw_getR 38 d_Wa_spread_35 rfl fg_Wa_20 rfl h35 ?_
      refine aw_iload_n 39 d_Wa_spread_38 rfl rfl ?_
      refine aw_iconst (v := (1 : Int32)) 40 d_Wa_spread_39 rfl (by decide) ?_
      refine aw_isub 41 d_Wa_spread_40 rfl ?_
      obtain ⟨y41, h41, h⟩ := bnd h
      refine aw_iald 42 d_Wa_spread_41 rfl h41 ?_
      refine aw_icmp_lt 56 45 d_Wa_spread_42 (by decide) rfl (fun c42 => ?_) (fun c42 => ?_)
      · have h := (if_pos c42).symm.trans h
        exact (j_Wa_spread_56 ih h)
      · have h := (if_neg c42).symm.trans h
        refine aw_iload 47 d_Wa_spread_45 rfl rfl ?_
        refine aw_aload_n 48 d_Wa_spread_47 rfl rfl ?_
        obtain ⟨y48, h48, h⟩ := bnd h
        refine aw_getR 51 d_Wa_spread_48 rfl fg_Wa_20 rfl h48 ?_
        refine aw_iload_n 52 d_Wa_spread_51 rfl rfl ?_
        obtain ⟨y52, h52, h⟩ := bnd h
        refine aw_iald 53 d_Wa_spread_52 rfl h52 ?_
        refine aw_icmp_ge 179 56 d_Wa_spread_53 (by decide) rfl (fun c53 => ?_) (fun c53 => ?_)
        · have h := (if_pos c53).symm.trans h
          exact AW.wk [true, true, false, false, true, true, true, true, true, true] rfl (j_Wa_spread_179 h)
        · have h := (if_neg c53).symm.trans h
          exact (j_Wa_spread_56 ih h)
theorem m_Wa_spread {l : Launch} {q : Int32 × MM} {a0 : Nat} {x1 : Int32} {x2 : Int32} {μ : MM} (h : f_Wa_spread a0 x1 x2 μ = some q) : AMet l 2 Y_Wa_spread [.ref a0, .int x1, .int x2] μ (some (.int q.1)) q.2 := by
  refine AMet.of (loc := [some (.ref a0), some (.int x1), some (.int x2), none, none, none, none, none, none, none]) pn_Wa_spread (Nat.le_of_ble_eq_true rfl) rfl ?_
  unfold f_Wa_spread at h
  obtain ⟨_, hk, h⟩ := bnd h
  refine aw_iload_n 1 d_Wa_spread_0 rfl rfl ?_
  refine aw_iconst (v := (1 : Int32)) 2 d_Wa_spread_1 rfl (by decide) ?_
  refine aw_isub 3 d_Wa_spread_2 rfl ?_
  refine aw_sipush (v := (300 : Int32)) 6 d_Wa_spread_3 rfl (by decide) ?_
  refine aw_imul 7 d_Wa_spread_6 rfl ?_
  refine aw_istore_n (loc' := [some (.ref a0), some (.int x1), some (.int x2), some (.int ((x1 - (1 : Int32)) * (300 : Int32))), none, none, none, none, none, none]) 8 d_Wa_spread_7 rfl (by decide) rfl ?_
  refine aw_iload_n 9 d_Wa_spread_8 rfl rfl ?_
  refine aw_sipush (v := (300 : Int32)) 12 d_Wa_spread_9 rfl (by decide) ?_
  refine aw_imul 13 d_Wa_spread_12 rfl ?_
  refine aw_istore (loc' := [some (.ref a0), some (.int x1), some (.int x2), some (.int ((x1 - (1 : Int32)) * (300 : Int32))), some (.int (x1 * (300 : Int32))), none, none, none, none, none]) 15 d_Wa_spread_13 rfl (by decide) rfl ?_
  refine aw_iconst (v := (0 : Int32)) 16 d_Wa_spread_15 rfl (by decide) ?_
  refine aw_istore (loc' := [some (.ref a0), some (.int x1), some (.int x2), some (.int ((x1 - (1 : Int32)) * (300 : Int32))), some (.int (x1 * (300 : Int32))), some (.int (0 : Int32)), none, none, none, none]) 18 d_Wa_spread_16 rfl (by decide) rfl ?_
  refine aw_iconst (v := (0 : Int32)) 19 d_Wa_spread_18 rfl (by decide) ?_
  refine aw_istore (loc' := [some (.ref a0), some (.int x1), some (.int x2), some (.int ((x1 - (1 : Int32)) * (300 : Int32))), some (.int (x1 * (300 : Int32))), some (.int (0 : Int32)), some (.int (0 : Int32)), none, none, none]) 21 d_Wa_spread_19 rfl (by decide) rfl ?_
  refine aw_iconst (v := (0 : Int32)) 22 d_Wa_spread_21 rfl (by decide) ?_
  refine aw_istore (loc' := [some (.ref a0), some (.int x1), some (.int x2), some (.int ((x1 - (1 : Int32)) * (300 : Int32))), some (.int (x1 * (300 : Int32))), some (.int (0 : Int32)), some (.int (0 : Int32)), some (.int (0 : Int32)), none, none]) 24 d_Wa_spread_22 rfl (by decide) rfl ?_
  exact (l_Wa_spread_24 FU _ _ _ _ h)
theorem k_Wa_spread {q : Int32 × MM} {a0 : Nat} {x1 : Int32} {x2 : Int32} {μ : MM} (h : f_Wa_spread a0 x1 x2 μ = some q) : μ.1[a0]? = some (0, 11) := by
  unfold f_Wa_spread at h
  obtain ⟨_, h1, _⟩ := bnd h
  exact kO_some h1
theorem l_Wa_explore_80 {l : Launch} {μ0 : MM} {q : Int32 × MM} {a0 : Nat} {x1 : Int32} {k27 : Int32 → MM → Option (Int32 × MM)} (hk27 : ∀ (x1 : Int32) (μ : MM), k27 x1 μ = some q → AWm l Y_Wa_explore 4 μ0 (some (.int q.1)) q.2 27 [some (.ref a0), some (.int x1), none, none] [] μ) : ∀ (n : Nat) (x2 : Int32) (μ : MM), f_Wa_explore_L80 k27 a0 x1 n x2 μ = some q → AWm l Y_Wa_explore 4 μ0 (some (.int q.1)) q.2 80 [some (.ref a0), some (.int x1), some (.int x2), none] [] μ := by
  intro n
  induction n with
  | zero =>
    intro x2 μ h
    have h : (none : Option (Int32 × MM)) = some q := h
    cases h
  | succ n ih =>
    intro x2 μ h
    rw [f_Wa_explore_L80] at h
    refine aw_iload_n 81 d_Wa_explore_80 rfl rfl ?_
    refine aw_bipush (v := (6 : Int32)) 83 d_Wa_explore_81 rfl (by decide) ?_
    refine aw_icmp_ge 139 86 d_Wa_explore_83 (by decide) rfl (fun c83 => ?_) (fun c83 => ?_)
    · have h := (if_pos c83).symm.trans h
      refine aw_iinc (v := (x1 + (1 : Int32))) (loc' := [some (.ref a0), some (.int (x1 + (1 : Int32))), some (.int x2), none]) 142 d_Wa_explore_139 rfl (by decide) rfl rfl rfl ?_
      refine aw_goto 27 d_Wa_explore_142 (by decide) ?_
      exact AW.wk [true, true, false, true] rfl (hk27 (x1 + (1 : Int32)) μ h)
    · have h := (if_neg c83).symm.trans h
      refine aw_aload_n 87 d_Wa_explore_86 rfl rfl ?_
      obtain ⟨y87, h87, h⟩ := bnd h
      refine aw_getR 90 d_Wa_explore_87 rfl fg_Wa_35 rfl h87 ?_
      refine aw_iload_n 91 d_Wa_explore_90 rfl rfl ?_
      refine aw_iload_n 92 d_Wa_explore_91 rfl rfl ?_
      obtain ⟨y92, h92, h⟩ := bnd h
      refine aw_invV (rest := []) (st' := [.int y92]) (As := [.int x2, .int x1]) 95 d_Wa_explore_92 rfl lv_Wa_55 (m_Sc_shift h92) (by decide) (k_Sc_shift h92) rfl rfl rfl (Nat.le_of_ble_eq_true rfl) rfl ?_
      refine aw_istore_n (loc' := [some (.ref a0), some (.int x1), some (.int x2), some (.int y92)]) 96 d_Wa_explore_95 rfl (by decide) rfl ?_
      refine aw_aload_n 97 d_Wa_explore_96 rfl rfl ?_
      obtain ⟨y97, h97, h⟩ := bnd h
      refine aw_getR 100 d_Wa_explore_97 rfl fg_Wa_26 rfl h97 ?_
      refine aw_iload_n 101 d_Wa_explore_100 rfl rfl ?_
      refine aw_bipush (v := (7 : Int32)) 103 d_Wa_explore_101 rfl (by decide) ?_
      refine aw_imul 104 d_Wa_explore_103 rfl ?_
      refine aw_iload_n 105 d_Wa_explore_104 rfl rfl ?_
      refine aw_iadd 106 d_Wa_explore_105 rfl ?_
      refine aw_iconst (v := (1 : Int32)) 107 d_Wa_explore_106 rfl (by decide) ?_
      refine aw_iadd 108 d_Wa_explore_107 rfl ?_
      refine aw_iload_n 109 d_Wa_explore_108 rfl rfl ?_
      obtain ⟨μ109, h109, h⟩ := bnd h
      refine aw_iast 110 d_Wa_explore_109 rfl h109 ?_
      refine aw_aload_n 111 d_Wa_explore_110 rfl rfl ?_
      obtain ⟨y111, h111, h⟩ := bnd h
      refine aw_getR 114 d_Wa_explore_111 rfl fg_Wa_35 rfl h111 ?_
      refine aw_iload_n 115 d_Wa_explore_114 rfl rfl ?_
      refine aw_iload_n 116 d_Wa_explore_115 rfl rfl ?_
      obtain ⟨y116, h116, h⟩ := bnd h
      refine aw_invV (rest := []) (st' := [.int y116]) (As := [.int x2, .int x1]) 119 d_Wa_explore_116 rfl lv_Wa_59 (m_Sc_holds h116) (by decide) (k_Sc_holds h116) rfl rfl rfl (Nat.le_of_ble_eq_true rfl) rfl ?_
      refine aw_if_eq 133 122 d_Wa_explore_119 (by decide) rfl (fun c119 => ?_) (fun c119 => ?_)
      · have h := (if_pos c119).symm.trans h
        refine aw_iinc (v := (x2 + (1 : Int32))) (loc' := [some (.ref a0), some (.int x1), some (.int (x2 + (1 : Int32))), some (.int y92)]) 136 d_Wa_explore_133 rfl (by decide) rfl rfl rfl ?_
        refine aw_goto 80 d_Wa_explore_136 (by decide) ?_
        exact AW.wk [true, true, true, false] rfl (ih (x2 + (1 : Int32)) μ109 h)
      · have h := (if_neg c119).symm.trans h
        refine aw_aload_n 123 d_Wa_explore_122 rfl rfl ?_
        refine aw_iload_n 124 d_Wa_explore_123 rfl rfl ?_
        refine aw_iload_n 125 d_Wa_explore_124 rfl rfl ?_
        obtain ⟨q125, h125, h⟩ := bnd h
        refine aw_invV (rest := []) (st' := [.int q125.1]) (As := [.int x1, .int y92]) 128 d_Wa_explore_125 rfl lv_Wa_63 (m_Wa_spread h125) (by decide) (k_Wa_spread h125) rfl rfl rfl (Nat.le_of_ble_eq_true rfl) rfl ?_
        refine aw_if_ne 133 131 d_Wa_explore_128 (by decide) rfl (fun c128 => ?_) (fun c128 => ?_)
        · have h := (if_neg c128).symm.trans h
          refine aw_iinc (v := (x2 + (1 : Int32))) (loc' := [some (.ref a0), some (.int x1), some (.int (x2 + (1 : Int32))), some (.int y92)]) 136 d_Wa_explore_133 rfl (by decide) rfl rfl rfl ?_
          refine aw_goto 80 d_Wa_explore_136 (by decide) ?_
          exact AW.wk [true, true, true, false] rfl (ih (x2 + (1 : Int32)) q125.2 h)
        · have h := (if_pos c128).symm.trans h
          refine aw_iconst (v := (0 : Int32)) 132 d_Wa_explore_131 rfl (by decide) ?_
          cases h
          exact aw_ireturn d_Wa_explore_132 rfl nar0
theorem l_Wa_explore_27 {l : Launch} {μ0 : MM} {q : Int32 × MM} {a0 : Nat} : ∀ (n : Nat) (x1 : Int32) (μ : MM), f_Wa_explore_L27 a0 n x1 μ = some q → AWm l Y_Wa_explore 4 μ0 (some (.int q.1)) q.2 27 [some (.ref a0), some (.int x1), none, none] [] μ := by
  intro n
  induction n with
  | zero =>
    intro x1 μ h
    have h : (none : Option (Int32 × MM)) = some q := h
    cases h
  | succ n ih =>
    intro x1 μ h
    rw [f_Wa_explore_L27] at h
    refine aw_iload_n 28 d_Wa_explore_27 rfl rfl ?_
    refine aw_aload_n 29 d_Wa_explore_28 rfl rfl ?_
    obtain ⟨y29, h29, h⟩ := bnd h
    refine aw_getI 32 d_Wa_explore_29 rfl fg_Wa_45 (Or.inl rfl) h29 ?_
    refine aw_icmp_gt 145 35 d_Wa_explore_32 (by decide) rfl (fun c32 => ?_) (fun c32 => ?_)
    · have h := (if_pos c32).symm.trans h
      refine aw_aload_n 146 d_Wa_explore_145 rfl rfl ?_
      obtain ⟨y146, h146, h⟩ := bnd h
      refine aw_getI 149 d_Wa_explore_146 rfl fg_Wa_45 (Or.inl rfl) h146 ?_
      refine aw_iconst (v := (-1 : Int32)) 150 d_Wa_explore_149 rfl (by decide) ?_
      refine aw_icmp_eq 157 153 d_Wa_explore_150 (by decide) rfl (fun c150 => ?_) (fun c150 => ?_)
      · have h := (if_pos c150).symm.trans h
        refine aw_iconst (v := (0 : Int32)) 158 d_Wa_explore_157 rfl (by decide) ?_
        cases h
        exact aw_ireturn d_Wa_explore_158 rfl nar0
      · have h := (if_neg c150).symm.trans h
        refine aw_iconst (v := (1 : Int32)) 154 d_Wa_explore_153 rfl (by decide) ?_
        refine aw_goto 158 d_Wa_explore_154 (by decide) ?_
        cases h
        exact aw_ireturn d_Wa_explore_158 rfl nar1
    · have h := (if_neg c32).symm.trans h
      refine aw_aload_n 36 d_Wa_explore_35 rfl rfl ?_
      obtain ⟨y36, h36, h⟩ := bnd h
      refine aw_getR 39 d_Wa_explore_36 rfl fg_Wa_20 rfl h36 ?_
      refine aw_iload_n 40 d_Wa_explore_39 rfl rfl ?_
      refine aw_aload_n 41 d_Wa_explore_40 rfl rfl ?_
      obtain ⟨y41, h41, h⟩ := bnd h
      refine aw_getR 44 d_Wa_explore_41 rfl fg_Wa_20 rfl h41 ?_
      refine aw_iload_n 45 d_Wa_explore_44 rfl rfl ?_
      refine aw_iconst (v := (1 : Int32)) 46 d_Wa_explore_45 rfl (by decide) ?_
      refine aw_isub 47 d_Wa_explore_46 rfl ?_
      obtain ⟨y47, h47, h⟩ := bnd h
      refine aw_iald 48 d_Wa_explore_47 rfl h47 ?_
      obtain ⟨μ48, h48, h⟩ := bnd h
      refine aw_iast 49 d_Wa_explore_48 rfl h48 ?_
      refine aw_aload_n 50 d_Wa_explore_49 rfl rfl ?_
      obtain ⟨y50, h50, h⟩ := bnd h
      refine aw_getR 53 d_Wa_explore_50 rfl fg_Wa_13 rfl h50 ?_
      refine aw_iload_n 54 d_Wa_explore_53 rfl rfl ?_
      refine aw_iconst (v := (1 : Int32)) 55 d_Wa_explore_54 rfl (by decide) ?_
      refine aw_isub 56 d_Wa_explore_55 rfl ?_
      refine aw_sipush (v := (300 : Int32)) 59 d_Wa_explore_56 rfl (by decide) ?_
      refine aw_imul 60 d_Wa_explore_59 rfl ?_
      refine aw_aload_n 61 d_Wa_explore_60 rfl rfl ?_
      obtain ⟨y61, h61, h⟩ := bnd h
      refine aw_getR 64 d_Wa_explore_61 rfl fg_Wa_13 rfl h61 ?_
      refine aw_iload_n 65 d_Wa_explore_64 rfl rfl ?_
      refine aw_sipush (v := (300 : Int32)) 68 d_Wa_explore_65 rfl (by decide) ?_
      refine aw_imul 69 d_Wa_explore_68 rfl ?_
      refine aw_aload_n 70 d_Wa_explore_69 rfl rfl ?_
      obtain ⟨y70, h70, h⟩ := bnd h
      refine aw_getR 73 d_Wa_explore_70 rfl fg_Wa_20 rfl h70 ?_
      refine aw_iload_n 74 d_Wa_explore_73 rfl rfl ?_
      obtain ⟨y74, h74, h⟩ := bnd h
      refine aw_iald 75 d_Wa_explore_74 rfl h74 ?_
      obtain ⟨μ75, h75, h⟩ := bnd h
      refine aw_copy 78 d_Wa_explore_75 rfl cp_Wa_49 (Nat.le_of_ble_eq_true rfl) (Nat.le_of_ble_eq_true rfl) h75 ?_
      refine aw_iconst (v := (0 : Int32)) 79 d_Wa_explore_78 rfl (by decide) ?_
      refine aw_istore_n (loc' := [some (.ref a0), some (.int x1), some (.int (0 : Int32)), none]) 80 d_Wa_explore_79 rfl (by decide) rfl ?_
      exact (l_Wa_explore_80 ih FU _ _ h)
theorem m_Wa_explore {l : Launch} {q : Int32 × MM} {a0 : Nat} {μ : MM} (h : f_Wa_explore a0 μ = some q) : AMet l 4 Y_Wa_explore [.ref a0] μ (some (.int q.1)) q.2 := by
  refine AMet.of (loc := [some (.ref a0), none, none, none]) pn_Wa_explore (Nat.le_of_ble_eq_true rfl) rfl ?_
  unfold f_Wa_explore at h
  obtain ⟨_, hk, h⟩ := bnd h
  refine aw_aload_n 1 d_Wa_explore_0 rfl rfl ?_
  refine aw_aload_n 2 d_Wa_explore_1 rfl rfl ?_
  obtain ⟨y2, h2, h⟩ := bnd h
  refine aw_getR 5 d_Wa_explore_2 rfl fg_Wa_35 rfl h2 ?_
  obtain ⟨y5, h5, h⟩ := bnd h
  refine aw_invV (rest := [.ref a0]) (st' := [.int y5, .ref a0]) (As := []) 8 d_Wa_explore_5 rfl lv_Wa_39 (m_Sc_lastBeat h5) (by decide) (k_Sc_lastBeat h5) rfl rfl rfl (Nat.le_of_ble_eq_true rfl) rfl ?_
  obtain ⟨μ8, h8, h⟩ := bnd h
  refine aw_putI 11 false d_Wa_explore_8 rfl fp_Wa_45 (fun z => nomatch z) rfl h8 ?_
  refine aw_aload_n 12 d_Wa_explore_11 rfl rfl ?_
  obtain ⟨y12, h12, h⟩ := bnd h
  refine aw_getR 15 d_Wa_explore_12 rfl fg_Wa_13 rfl h12 ?_
  refine aw_iconst (v := (0 : Int32)) 16 d_Wa_explore_15 rfl (by decide) ?_
  refine aw_iconst (v := (0 : Int32)) 17 d_Wa_explore_16 rfl (by decide) ?_
  obtain ⟨μ17, h17, h⟩ := bnd h
  refine aw_iast 18 d_Wa_explore_17 rfl h17 ?_
  refine aw_aload_n 19 d_Wa_explore_18 rfl rfl ?_
  obtain ⟨y19, h19, h⟩ := bnd h
  refine aw_getR 22 d_Wa_explore_19 rfl fg_Wa_20 rfl h19 ?_
  refine aw_iconst (v := (0 : Int32)) 23 d_Wa_explore_22 rfl (by decide) ?_
  refine aw_iconst (v := (1 : Int32)) 24 d_Wa_explore_23 rfl (by decide) ?_
  obtain ⟨μ24, h24, h⟩ := bnd h
  refine aw_iast 25 d_Wa_explore_24 rfl h24 ?_
  refine aw_iconst (v := (1 : Int32)) 26 d_Wa_explore_25 rfl (by decide) ?_
  refine aw_istore_n (loc' := [some (.ref a0), some (.int (1 : Int32)), none, none]) 27 d_Wa_explore_26 rfl (by decide) rfl ?_
  exact (l_Wa_explore_27 FU _ _ h)
theorem k_Wa_explore {q : Int32 × MM} {a0 : Nat} {μ : MM} (h : f_Wa_explore a0 μ = some q) : μ.1[a0]? = some (0, 11) := by
  unfold f_Wa_explore at h
  obtain ⟨_, h1, _⟩ := bnd h
  exact kO_some h1
theorem j_X_explored_22 {l : Launch} {μ0 : MM} {q : Option Nat × MM} {a0 : Nat} {μ : MM} (h : f_X_explored_J22 a0 μ = some q) : AWm l Y_X_explored 5 μ0 (some (va_rf q.1)) q.2 22 [some (.ref a0)] [] μ := by
  unfold f_X_explored_J22 at h
  refine aw_aload_n 23 d_X_explored_22 rfl rfl ?_
  obtain ⟨y23, h23, h⟩ := bnd h
  refine aw_getR 26 d_X_explored_23 rfl fg_X_332 rfl h23 ?_
  obtain ⟨q26, h26, h⟩ := bnd h
  refine aw_invV (rest := []) (st' := [.int q26.1]) (As := []) 29 d_X_explored_26 rfl lv_X_337 (m_Wa_explore h26) (by decide) (k_Wa_explore h26) rfl rfl rfl (Nat.le_of_ble_eq_true rfl) rfl ?_
  refine aw_if_eq 39 32 d_X_explored_29 (by decide) rfl (fun c29 => ?_) (fun c29 => ?_)
  · have h := (if_pos c29).symm.trans h
    refine aw_null 40 d_X_explored_39 rfl ?_
    cases h
    exact aw_areturn (x := none) d_X_explored_40 rfl
  · have h := (if_neg c29).symm.trans h
    refine aw_aload_n 33 d_X_explored_32 rfl rfl ?_
    obtain ⟨y33, h33, h⟩ := bnd h
    refine aw_getN 36 d_X_explored_33 rfl fg_X_332 rfl h33 ?_
    refine aw_goto 40 d_X_explored_36 (by decide) ?_
    cases h
    exact aw_areturn (x := y33) d_X_explored_40 rfl
theorem m_X_explored {l : Launch} {q : Option Nat × MM} {a0 : Nat} {μ : MM} (h : f_X_explored a0 μ = some q) : AMet l 5 Y_X_explored [.ref a0] μ (some (va_rf q.1)) q.2 := by
  refine AMet.of (loc := [some (.ref a0)]) pn_X_explored (Nat.le_of_ble_eq_true rfl) rfl ?_
  unfold f_X_explored at h
  obtain ⟨_, hk, h⟩ := bnd h
  refine aw_aload_n 1 d_X_explored_0 rfl rfl ?_
  obtain ⟨y1, h1, h⟩ := bnd h
  refine aw_getN 4 d_X_explored_1 rfl fg_X_332 rfl h1 ?_
  refine aw_ifnonnull 22 7 d_X_explored_4 (by decide) rfl (fun z4 c4 => ?_) (fun c4 => ?_)
  · have h := elim_s c4 h
    try rw [c4]
    exact (j_X_explored_22 h)
  · have h := elim_n c4 h
    refine aw_aload_n 8 d_X_explored_7 rfl rfl ?_
    obtain ⟨μ8, h8, h⟩ := bnd h
    refine aw_new 11 d_X_explored_8 rfl cf11 cl_X_151 h8 ?_
    refine aw_dup 12 d_X_explored_11 rfl rfl ?_
    refine aw_aload_n 13 d_X_explored_12 rfl rfl ?_
    obtain ⟨y13, h13, h⟩ := bnd h
    refine aw_getR 16 d_X_explored_13 rfl fg_X_10 rfl h13 ?_
    obtain ⟨μ16, h16, h⟩ := bnd h
    refine aw_invI (rest := [.ref (nc μ), .ref a0]) (st' := [.ref (nc μ), .ref a0]) (As := [.ref y13]) 19 d_X_explored_16 rfl li_X_336 (m_Wa_init h16) (by decide) rfl rfl (Nat.le_of_ble_eq_true rfl) rfl ?_
    obtain ⟨μ19, h19, h⟩ := bnd h
    refine aw_putR 22 false d_X_explored_19 rfl fp_X_332 (fun z => nomatch z) rfl h19 ?_
    exact (j_X_explored_22 h)
theorem k_X_explored {q : Option Nat × MM} {a0 : Nat} {μ : MM} (h : f_X_explored a0 μ = some q) : μ.1[a0]? = some (0, 0) := by
  unfold f_X_explored at h
  obtain ⟨_, h1, _⟩ := bnd h
  exact kO_some h1
theorem l_Wa_find_2 {l : Launch} {μ0 : MM} {q : Int32} {a0 : Nat} {x1 : Int32} {x2 : Int32} {μ : MM} : ∀ (n : Nat) (x3 : Int32), f_Wa_find_L2 a0 x1 x2 μ n x3 = some q → AWm l Y_Wa_find 1 μ0 (some (.int q)) μ 2 [some (.ref a0), some (.int x1), some (.int x2), some (.int x3)] [] μ := by
  intro n
  induction n with
  | zero =>
    intro x3 h
    have h : (none : Option (Int32)) = some q := h
    cases h
  | succ n ih =>
    intro x3 h
    rw [f_Wa_find_L2] at h
    refine aw_iload_n 3 d_Wa_find_2 rfl rfl ?_
    refine aw_if_lt 52 6 d_Wa_find_3 (by decide) rfl (fun c3 => ?_) (fun c3 => ?_)
    · have h := (if_pos c3).symm.trans h
      refine aw_iconst (v := (-1 : Int32)) 53 d_Wa_find_52 rfl (by decide) ?_
      cases h
      exact aw_ireturn d_Wa_find_53 rfl rfl
    · have h := (if_neg c3).symm.trans h
      refine aw_iload_n 7 d_Wa_find_6 rfl rfl ?_
      refine aw_bipush (v := (24 : Int32)) 9 d_Wa_find_7 rfl (by decide) ?_
      refine aw_icmp_ge 52 12 d_Wa_find_9 (by decide) rfl (fun c9 => ?_) (fun c9 => ?_)
      · have h := (if_pos c9).symm.trans h
        refine aw_iconst (v := (-1 : Int32)) 53 d_Wa_find_52 rfl (by decide) ?_
        cases h
        exact aw_ireturn d_Wa_find_53 rfl rfl
      · have h := (if_neg c9).symm.trans h
        refine aw_iload_n 13 d_Wa_find_12 rfl rfl ?_
        refine aw_aload_n 14 d_Wa_find_13 rfl rfl ?_
        obtain ⟨y14, h14, h⟩ := bnd h
        refine aw_getR 17 d_Wa_find_14 rfl fg_Wa_20 rfl h14 ?_
        refine aw_iload_n 18 d_Wa_find_17 rfl rfl ?_
        obtain ⟨y18, h18, h⟩ := bnd h
        refine aw_iald 19 d_Wa_find_18 rfl h18 ?_
        refine aw_icmp_ge 52 22 d_Wa_find_19 (by decide) rfl (fun c19 => ?_) (fun c19 => ?_)
        · have h := (if_pos c19).symm.trans h
          refine aw_iconst (v := (-1 : Int32)) 53 d_Wa_find_52 rfl (by decide) ?_
          cases h
          exact aw_ireturn d_Wa_find_53 rfl rfl
        · have h := (if_neg c19).symm.trans h
          refine aw_aload_n 23 d_Wa_find_22 rfl rfl ?_
          obtain ⟨y23, h23, h⟩ := bnd h
          refine aw_getR 26 d_Wa_find_23 rfl fg_Wa_13 rfl h23 ?_
          refine aw_iload_n 27 d_Wa_find_26 rfl rfl ?_
          refine aw_sipush (v := (300 : Int32)) 30 d_Wa_find_27 rfl (by decide) ?_
          refine aw_imul 31 d_Wa_find_30 rfl ?_
          refine aw_iload_n 32 d_Wa_find_31 rfl rfl ?_
          refine aw_iadd 33 d_Wa_find_32 rfl ?_
          obtain ⟨y33, h33, h⟩ := bnd h
          refine aw_iald 34 d_Wa_find_33 rfl h33 ?_
          refine aw_iload_n 35 d_Wa_find_34 rfl rfl ?_
          refine aw_icmp_ne 46 38 d_Wa_find_35 (by decide) rfl (fun c35 => ?_) (fun c35 => ?_)
          · have h := (if_neg c35).symm.trans h
            refine aw_iinc (v := (x3 + (1 : Int32))) (loc' := [some (.ref a0), some (.int x1), some (.int x2), some (.int (x3 + (1 : Int32)))]) 49 d_Wa_find_46 rfl (by decide) rfl rfl rfl ?_
            refine aw_goto 2 d_Wa_find_49 (by decide) ?_
            exact (ih (x3 + (1 : Int32)) h)
          · have h := (if_pos c35).symm.trans h
            refine aw_iload_n 39 d_Wa_find_38 rfl rfl ?_
            refine aw_sipush (v := (300 : Int32)) 42 d_Wa_find_39 rfl (by decide) ?_
            refine aw_imul 43 d_Wa_find_42 rfl ?_
            refine aw_iload_n 44 d_Wa_find_43 rfl rfl ?_
            refine aw_iadd 45 d_Wa_find_44 rfl ?_
            cases h
            exact aw_ireturn d_Wa_find_45 rfl rfl
theorem m_Wa_find {l : Launch} {q : Int32} {a0 : Nat} {x1 : Int32} {x2 : Int32} {μ : MM} (h : f_Wa_find a0 x1 x2 μ = some q) : AMet l 1 Y_Wa_find [.ref a0, .int x1, .int x2] μ (some (.int q)) μ := by
  refine AMet.of (loc := [some (.ref a0), some (.int x1), some (.int x2), none]) pn_Wa_find (Nat.le_of_ble_eq_true rfl) rfl ?_
  unfold f_Wa_find at h
  obtain ⟨_, hk, h⟩ := bnd h
  refine aw_iconst (v := (0 : Int32)) 1 d_Wa_find_0 rfl (by decide) ?_
  refine aw_istore_n (loc' := [some (.ref a0), some (.int x1), some (.int x2), some (.int (0 : Int32))]) 2 d_Wa_find_1 rfl (by decide) rfl ?_
  exact (l_Wa_find_2 FU _ h)
theorem k_Wa_find {q : Int32} {a0 : Nat} {x1 : Int32} {x2 : Int32} {μ : MM} (h : f_Wa_find a0 x1 x2 μ = some q) : μ.1[a0]? = some (0, 11) := by
  unfold f_Wa_find at h
  obtain ⟨_, h1, _⟩ := bnd h
  exact kO_some h1
theorem j_Wa_price_106 {l : Launch} {μ0 : MM} {q : MM} {a0 : Nat} {x1 : Int32} {x2 : Int32} {x3 : Int32} {x5 : Int32} {μ : MM} {k2 : Int32 → MM → Option (MM)} (hk2 : ∀ (x2 : Int32) (μ : MM), k2 x2 μ = some q → AWm l Y_Wa_price 5 μ0 none q 2 [some (.ref a0), some (.int x1), some (.int x2), none, none, none, none] [] μ) {k12 : Int32 → MM → Option (MM)} (hk12 : ∀ (x3 : Int32) (μ : MM), k12 x3 μ = some q → AWm l Y_Wa_price 5 μ0 none q 12 [some (.ref a0), some (.int x1), some (.int x2), some (.int x3), none, none, none] [] μ) (h : f_Wa_price_J106 k2 k12 a0 x1 x2 x3 x5 μ = some q) : AWm l Y_Wa_price 5 μ0 none q 106 [some (.ref a0), some (.int x1), some (.int x2), some (.int x3), none, some (.int x5), none] [] μ := by
  unfold f_Wa_price_J106 at h
  refine aw_aload_n 107 d_Wa_price_106 rfl rfl ?_
  obtain ⟨y107, h107, h⟩ := bnd h
  refine aw_getR 110 d_Wa_price_107 rfl fg_Wa_29 rfl h107 ?_
  refine aw_iload_n 111 d_Wa_price_110 rfl rfl ?_
  refine aw_bipush (v := (7 : Int32)) 113 d_Wa_price_111 rfl (by decide) ?_
  refine aw_imul 114 d_Wa_price_113 rfl ?_
  refine aw_iload_n 115 d_Wa_price_114 rfl rfl ?_
  refine aw_iadd 116 d_Wa_price_115 rfl ?_
  refine aw_iload 118 d_Wa_price_116 rfl rfl ?_
  obtain ⟨μ118, h118, h⟩ := bnd h
  refine aw_iast 119 d_Wa_price_118 rfl h118 ?_
  refine aw_iinc (v := (x3 + (1 : Int32))) (loc' := [some (.ref a0), some (.int x1), some (.int x2), some (.int (x3 + (1 : Int32))), none, some (.int x5), none]) 122 d_Wa_price_119 rfl (by decide) rfl rfl rfl ?_
  refine aw_goto 12 d_Wa_price_122 (by decide) ?_
  exact AW.wk [true, true, true, true, true, false, true] rfl (hk12 (x3 + (1 : Int32)) μ118 h)
theorem j_Wa_price_104 {l : Launch} {μ0 : MM} {q : MM} {a0 : Nat} {x1 : Int32} {x2 : Int32} {x3 : Int32} {s0 : Int32} {μ : MM} {k2 : Int32 → MM → Option (MM)} (hk2 : ∀ (x2 : Int32) (μ : MM), k2 x2 μ = some q → AWm l Y_Wa_price 5 μ0 none q 2 [some (.ref a0), some (.int x1), some (.int x2), none, none, none, none] [] μ) {k12 : Int32 → MM → Option (MM)} (hk12 : ∀ (x3 : Int32) (μ : MM), k12 x3 μ = some q → AWm l Y_Wa_price 5 μ0 none q 12 [some (.ref a0), some (.int x1), some (.int x2), some (.int x3), none, none, none] [] μ) (h : f_Wa_price_J104 k2 k12 a0 x1 x2 x3 s0 μ = some q) : AWm l Y_Wa_price 5 μ0 none q 104 [some (.ref a0), some (.int x1), some (.int x2), some (.int x3), none, none, none] [.int s0] μ := by
  unfold f_Wa_price_J104 at h
  refine aw_istore (loc' := [some (.ref a0), some (.int x1), some (.int x2), some (.int x3), none, some (.int s0), none]) 106 d_Wa_price_104 rfl (by decide) rfl ?_
  exact (j_Wa_price_106 hk2 hk12 h)
theorem j_Wa_price_71 {l : Launch} {μ0 : MM} {q : MM} {a0 : Nat} {x1 : Int32} {x2 : Int32} {x3 : Int32} {s0 : Int32} {μ : MM} {k2 : Int32 → MM → Option (MM)} (hk2 : ∀ (x2 : Int32) (μ : MM), k2 x2 μ = some q → AWm l Y_Wa_price 5 μ0 none q 2 [some (.ref a0), some (.int x1), some (.int x2), none, none, none, none] [] μ) {k12 : Int32 → MM → Option (MM)} (hk12 : ∀ (x3 : Int32) (μ : MM), k12 x3 μ = some q → AWm l Y_Wa_price 5 μ0 none q 12 [some (.ref a0), some (.int x1), some (.int x2), some (.int x3), none, none, none] [] μ) (h : f_Wa_price_J71 k2 k12 a0 x1 x2 x3 s0 μ = some q) : AWm l Y_Wa_price 5 μ0 none q 71 [some (.ref a0), some (.int x1), some (.int x2), some (.int x3), none, none, none] [.int s0] μ := by
  unfold f_Wa_price_J71 at h
  refine aw_istore (loc' := [some (.ref a0), some (.int x1), some (.int x2), some (.int x3), none, none, some (.int s0)]) 73 d_Wa_price_71 rfl (by decide) rfl ?_
  refine aw_iload_n 74 d_Wa_price_73 rfl rfl ?_
  refine aw_if_eq 82 77 d_Wa_price_74 (by decide) rfl (fun c74 => ?_) (fun c74 => ?_)
  · have h := (if_pos c74).symm.trans h
    refine aw_aload_n 83 d_Wa_price_82 rfl rfl ?_
    obtain ⟨y83, h83, h⟩ := bnd h
    refine aw_getR 86 d_Wa_price_83 rfl fg_Wa_35 rfl h83 ?_
    refine aw_iload_n 87 d_Wa_price_86 rfl rfl ?_
    refine aw_aload_n 88 d_Wa_price_87 rfl rfl ?_
    obtain ⟨y88, h88, h⟩ := bnd h
    refine aw_getR 91 d_Wa_price_88 rfl fg_Wa_26 rfl h88 ?_
    refine aw_iload_n 92 d_Wa_price_91 rfl rfl ?_
    refine aw_bipush (v := (7 : Int32)) 94 d_Wa_price_92 rfl (by decide) ?_
    refine aw_imul 95 d_Wa_price_94 rfl ?_
    refine aw_iload_n 96 d_Wa_price_95 rfl rfl ?_
    refine aw_iadd 97 d_Wa_price_96 rfl ?_
    obtain ⟨y97, h97, h⟩ := bnd h
    refine aw_iald 98 d_Wa_price_97 rfl h97 ?_
    obtain ⟨y98, h98, h⟩ := bnd h
    refine aw_invS (rest := [.int x2, .ref y83]) (st' := [.int y98, .int x2, .ref y83]) (As := [.int y97]) 101 d_Wa_price_98 rfl ls_Wa_75 (m_Fr_mills h98) (by decide) rfl rfl (Nat.le_of_ble_eq_true rfl) rfl ?_
    obtain ⟨y101, h101, h⟩ := bnd h
    refine aw_invV (rest := []) (st' := [.int y101]) (As := [.int x2, .int y98]) 104 d_Wa_price_101 rfl lv_Wa_81 (m_Sc_foulnessBy h101) (by decide) (k_Sc_foulnessBy h101) rfl rfl rfl (Nat.le_of_ble_eq_true rfl) rfl ?_
    exact AW.wk [true, true, true, true, true, true, false] rfl (j_Wa_price_104 hk2 hk12 h)
  · have h := (if_neg c74).symm.trans h
    refine aw_iload 79 d_Wa_price_77 rfl rfl ?_
    refine aw_goto 104 d_Wa_price_79 (by decide) ?_
    exact AW.wk [true, true, true, true, true, true, false] rfl (j_Wa_price_104 hk2 hk12 h)
theorem j_Wa_price_52 {l : Launch} {μ0 : MM} {q : MM} {a0 : Nat} {x1 : Int32} {x2 : Int32} {x3 : Int32} {x4 : Int32} {μ : MM} {k2 : Int32 → MM → Option (MM)} (hk2 : ∀ (x2 : Int32) (μ : MM), k2 x2 μ = some q → AWm l Y_Wa_price 5 μ0 none q 2 [some (.ref a0), some (.int x1), some (.int x2), none, none, none, none] [] μ) {k12 : Int32 → MM → Option (MM)} (hk12 : ∀ (x3 : Int32) (μ : MM), k12 x3 μ = some q → AWm l Y_Wa_price 5 μ0 none q 12 [some (.ref a0), some (.int x1), some (.int x2), some (.int x3), none, none, none] [] μ) (h : f_Wa_price_J52 k2 k12 a0 x1 x2 x3 x4 μ = some q) : AWm l Y_Wa_price 5 μ0 none q 52 [some (.ref a0), some (.int x1), some (.int x2), some (.int x3), some (.int x4), none, none] [] μ := by
  unfold f_Wa_price_J52 at h
  refine aw_iload 54 d_Wa_price_52 rfl rfl ?_
  refine aw_aload_n 55 d_Wa_price_54 rfl rfl ?_
  obtain ⟨y55, h55, h⟩ := bnd h
  refine aw_getR 58 d_Wa_price_55 rfl fg_Wa_35 rfl h55 ?_
  obtain ⟨y58, h58, h⟩ := bnd h
  refine aw_getR 61 d_Wa_price_58 rfl fg_Wa_72 rfl h58 ?_
  refine aw_iload_n 62 d_Wa_price_61 rfl rfl ?_
  obtain ⟨y62, h62, h⟩ := bnd h
  refine aw_iald 63 d_Wa_price_62 rfl h62 ?_
  refine aw_icmp_ne 70 66 d_Wa_price_63 (by decide) rfl (fun c63 => ?_) (fun c63 => ?_)
  · have h := (if_neg c63).symm.trans h
    refine aw_iconst (v := (1 : Int32)) 71 d_Wa_price_70 rfl (by decide) ?_
    exact AW.wk [true, true, true, true, false, true, true] rfl (j_Wa_price_71 hk2 hk12 h)
  · have h := (if_pos c63).symm.trans h
    refine aw_iconst (v := (0 : Int32)) 67 d_Wa_price_66 rfl (by decide) ?_
    refine aw_goto 71 d_Wa_price_67 (by decide) ?_
    exact AW.wk [true, true, true, true, false, true, true] rfl (j_Wa_price_71 hk2 hk12 h)
theorem j_Wa_price_29 {l : Launch} {μ0 : MM} {q : MM} {a0 : Nat} {x1 : Int32} {x2 : Int32} {x3 : Int32} {s0 : Int32} {μ : MM} {k2 : Int32 → MM → Option (MM)} (hk2 : ∀ (x2 : Int32) (μ : MM), k2 x2 μ = some q → AWm l Y_Wa_price 5 μ0 none q 2 [some (.ref a0), some (.int x1), some (.int x2), none, none, none, none] [] μ) {k12 : Int32 → MM → Option (MM)} (hk12 : ∀ (x3 : Int32) (μ : MM), k12 x3 μ = some q → AWm l Y_Wa_price 5 μ0 none q 12 [some (.ref a0), some (.int x1), some (.int x2), some (.int x3), none, none, none] [] μ) (h : f_Wa_price_J29 k2 k12 a0 x1 x2 x3 s0 μ = some q) : AWm l Y_Wa_price 5 μ0 none q 29 [some (.ref a0), some (.int x1), some (.int x2), some (.int x3), none, none, none] [.int s0] μ := by
  unfold f_Wa_price_J29 at h
  refine aw_istore (loc' := [some (.ref a0), some (.int x1), some (.int x2), some (.int x3), some (.int s0), none, none]) 31 d_Wa_price_29 rfl (by decide) rfl ?_
  refine aw_ldc (v := (2147483647 : Int32)) 33 d_Wa_price_31 rfl c_Wa_66 ?_
  refine aw_istore (loc' := [some (.ref a0), some (.int x1), some (.int x2), some (.int x3), some (.int s0), some (.int (2147483647 : Int32)), none]) 35 d_Wa_price_33 rfl (by decide) rfl ?_
  refine aw_iload_n 36 d_Wa_price_35 rfl rfl ?_
  refine aw_if_eq 52 39 d_Wa_price_36 (by decide) rfl (fun c36 => ?_) (fun c36 => ?_)
  · have h := (if_pos c36).symm.trans h
    exact AW.wk [true, true, true, true, true, false, true] rfl (j_Wa_price_52 hk2 hk12 h)
  · have h := (if_neg c36).symm.trans h
    refine aw_aload_n 40 d_Wa_price_39 rfl rfl ?_
    obtain ⟨y40, h40, h⟩ := bnd h
    refine aw_getR 43 d_Wa_price_40 rfl fg_Wa_35 rfl h40 ?_
    refine aw_iload 45 d_Wa_price_43 rfl rfl ?_
    refine aw_iload_n 46 d_Wa_price_45 rfl rfl ?_
    obtain ⟨y46, h46, h⟩ := bnd h
    refine aw_invV (rest := []) (st' := [.int y46]) (As := [.int s0, .int x2]) 49 d_Wa_price_46 rfl lv_Wa_59 (m_Sc_holds h46) (by decide) (k_Sc_holds h46) rfl rfl rfl (Nat.le_of_ble_eq_true rfl) rfl ?_
    refine aw_if_eq 106 52 d_Wa_price_49 (by decide) rfl (fun c49 => ?_) (fun c49 => ?_)
    · have h := (if_pos c49).symm.trans h
      exact AW.wk [true, true, true, true, false, true, true] rfl (j_Wa_price_106 hk2 hk12 h)
    · have h := (if_neg c49).symm.trans h
      exact AW.wk [true, true, true, true, true, false, true] rfl (j_Wa_price_52 hk2 hk12 h)
theorem l_Wa_price_12 {l : Launch} {μ0 : MM} {q : MM} {a0 : Nat} {x1 : Int32} {x2 : Int32} {k2 : Int32 → MM → Option (MM)} (hk2 : ∀ (x2 : Int32) (μ : MM), k2 x2 μ = some q → AWm l Y_Wa_price 5 μ0 none q 2 [some (.ref a0), some (.int x1), some (.int x2), none, none, none, none] [] μ) : ∀ (n : Nat) (x3 : Int32) (μ : MM), f_Wa_price_L12 k2 a0 x1 x2 n x3 μ = some q → AWm l Y_Wa_price 5 μ0 none q 12 [some (.ref a0), some (.int x1), some (.int x2), some (.int x3), none, none, none] [] μ := by
  intro n
  induction n with
  | zero =>
    intro x3 μ h
    have h : (none : Option (MM)) = some q := h
    cases h
  | succ n ih =>
    intro x3 μ h
    rw [f_Wa_price_L12] at h
    refine aw_iload_n 13 d_Wa_price_12 rfl rfl ?_
    refine aw_bipush (v := (7 : Int32)) 15 d_Wa_price_13 rfl (by decide) ?_
    refine aw_icmp_ge 125 18 d_Wa_price_15 (by decide) rfl (fun c15 => ?_) (fun c15 => ?_)
    · have h := (if_pos c15).symm.trans h
      refine aw_iinc (v := (x2 + (1 : Int32))) (loc' := [some (.ref a0), some (.int x1), some (.int (x2 + (1 : Int32))), some (.int x3), none, none, none]) 128 d_Wa_price_125 rfl (by decide) rfl rfl rfl ?_
      refine aw_goto 2 d_Wa_price_128 (by decide) ?_
      exact AW.wk [true, true, true, false, true, true, true] rfl (hk2 (x2 + (1 : Int32)) μ h)
    · have h := (if_neg c15).symm.trans h
      refine aw_iload_n 19 d_Wa_price_18 rfl rfl ?_
      refine aw_if_ne 26 22 d_Wa_price_19 (by decide) rfl (fun c19 => ?_) (fun c19 => ?_)
      · have h := (if_neg c19).symm.trans h
        refine aw_iload_n 27 d_Wa_price_26 rfl rfl ?_
        refine aw_iconst (v := (1 : Int32)) 28 d_Wa_price_27 rfl (by decide) ?_
        refine aw_isub 29 d_Wa_price_28 rfl ?_
        exact (j_Wa_price_29 hk2 ih h)
      · have h := (if_pos c19).symm.trans h
        refine aw_iconst (v := (-1 : Int32)) 23 d_Wa_price_22 rfl (by decide) ?_
        refine aw_goto 29 d_Wa_price_23 (by decide) ?_
        exact (j_Wa_price_29 hk2 ih h)
theorem l_Wa_price_2 {l : Launch} {μ0 : MM} {q : MM} {a0 : Nat} {x1 : Int32} : ∀ (n : Nat) (x2 : Int32) (μ : MM), f_Wa_price_L2 a0 x1 n x2 μ = some q → AWm l Y_Wa_price 5 μ0 none q 2 [some (.ref a0), some (.int x1), some (.int x2), none, none, none, none] [] μ := by
  intro n
  induction n with
  | zero =>
    intro x2 μ h
    have h : (none : Option (MM)) = some q := h
    cases h
  | succ n ih =>
    intro x2 μ h
    rw [f_Wa_price_L2] at h
    refine aw_iload_n 3 d_Wa_price_2 rfl rfl ?_
    refine aw_aload_n 4 d_Wa_price_3 rfl rfl ?_
    obtain ⟨y4, h4, h⟩ := bnd h
    refine aw_getI 7 d_Wa_price_4 rfl fg_Wa_45 (Or.inl rfl) h4 ?_
    refine aw_icmp_gt 131 10 d_Wa_price_7 (by decide) rfl (fun c7 => ?_) (fun c7 => ?_)
    · have h := (if_pos c7).symm.trans h
      cases h
      exact aw_return d_Wa_price_131 rfl
    · have h := (if_neg c7).symm.trans h
      refine aw_iconst (v := (0 : Int32)) 11 d_Wa_price_10 rfl (by decide) ?_
      refine aw_istore_n (loc' := [some (.ref a0), some (.int x1), some (.int x2), some (.int (0 : Int32)), none, none, none]) 12 d_Wa_price_11 rfl (by decide) rfl ?_
      exact (l_Wa_price_12 ih FU _ _ h)
theorem m_Wa_price {l : Launch} {q : MM} {a0 : Nat} {x1 : Int32} {μ : MM} (h : f_Wa_price a0 x1 μ = some q) : AMet l 5 Y_Wa_price [.ref a0, .int x1] μ none q := by
  refine AMet.of (loc := [some (.ref a0), some (.int x1), none, none, none, none, none]) pn_Wa_price (Nat.le_of_ble_eq_true rfl) rfl ?_
  unfold f_Wa_price at h
  obtain ⟨_, hk, h⟩ := bnd h
  refine aw_iconst (v := (1 : Int32)) 1 d_Wa_price_0 rfl (by decide) ?_
  refine aw_istore_n (loc' := [some (.ref a0), some (.int x1), some (.int (1 : Int32)), none, none, none, none]) 2 d_Wa_price_1 rfl (by decide) rfl ?_
  exact (l_Wa_price_2 FU _ _ h)
theorem k_Wa_price {q : MM} {a0 : Nat} {x1 : Int32} {μ : MM} (h : f_Wa_price a0 x1 μ = some q) : μ.1[a0]? = some (0, 11) := by
  unfold f_Wa_price at h
  obtain ⟨_, h1, _⟩ := bnd h
  exact kO_some h1
theorem j_Wa_relax_143 {l : Launch} {μ0 : MM} {q : MM} {a0 : Nat} {x1 : Int32} {x2 : Int32} {x3 : Int32} {x4 : Int32} {x5 : Int32} {x6 : Int32} {x8 : Int32} {x9 : Int32} {x10 : Int32} {s0 : Int32} {μ : MM} {k19 : Int32 → Int32 → MM → Option (MM)} (hk19 : ∀ (x5 : Int32) (x6 : Int32) (μ : MM), k19 x5 x6 μ = some q → AWm l Y_Wa_relax 2 μ0 none q 19 [some (.ref a0), some (.int x1), some (.int x2), some (.int x3), some (.int x4), some (.int x5), some (.int x6), none, none, none, none, none] [] μ) (h : f_Wa_relax_J143 k19 a0 x1 x2 x3 x4 x5 x6 x8 x9 x10 s0 μ = some q) : AWm l Y_Wa_relax 2 μ0 none q 143 [some (.ref a0), some (.int x1), some (.int x2), some (.int x3), some (.int x4), some (.int x5), some (.int x6), none, some (.int x8), some (.int x9), some (.int x10), none] [.int s0] μ := by
  unfold f_Wa_relax_J143 at h
  refine aw_istore (loc' := [some (.ref a0), some (.int x1), some (.int x2), some (.int x3), some (.int x4), some (.int x5), some (.int x6), none, some (.int x8), some (.int x9), some (.int x10), some (.int s0)]) 145 d_Wa_relax_143 rfl (by decide) rfl ?_
  refine aw_aload_n 146 d_Wa_relax_145 rfl rfl ?_
  obtain ⟨y146, h146, h⟩ := bnd h
  refine aw_getR 149 d_Wa_relax_146 rfl fg_Wa_13 rfl h146 ?_
  refine aw_iload 151 d_Wa_relax_149 rfl rfl ?_
  obtain ⟨y151, h151, h⟩ := bnd h
  refine aw_iald 152 d_Wa_relax_151 rfl h151 ?_
  refine aw_iload 154 d_Wa_relax_152 rfl rfl ?_
  refine aw_icmp_ne 196 157 d_Wa_relax_154 (by decide) rfl (fun c154 => ?_) (fun c154 => ?_)
  · have h := (if_neg c154).symm.trans h
    refine aw_iinc (v := (x6 + (1 : Int32))) (loc' := [some (.ref a0), some (.int x1), some (.int x2), some (.int x3), some (.int x4), some (.int x5), some (.int (x6 + (1 : Int32))), none, some (.int x8), some (.int x9), some (.int x10), some (.int s0)]) 199 d_Wa_relax_196 rfl (by decide) rfl rfl rfl ?_
    refine aw_goto 19 d_Wa_relax_199 (by decide) ?_
    exact AW.wk [true, true, true, true, true, true, true, true, false, false, false, false] rfl (hk19 x5 (x6 + (1 : Int32)) μ h)
  · have h := (if_pos c154).symm.trans h
    refine aw_aload_n 158 d_Wa_relax_157 rfl rfl ?_
    obtain ⟨y158, h158, h⟩ := bnd h
    refine aw_getR 161 d_Wa_relax_158 rfl fg_Wa_17 rfl h158 ?_
    refine aw_iload 163 d_Wa_relax_161 rfl rfl ?_
    obtain ⟨y163, h163, h⟩ := bnd h
    refine aw_iald 164 d_Wa_relax_163 rfl h163 ?_
    refine aw_ldc (v := (2147483647 : Int32)) 166 d_Wa_relax_164 rfl c_Wa_66 ?_
    refine aw_icmp_eq 196 169 d_Wa_relax_166 (by decide) rfl (fun c166 => ?_) (fun c166 => ?_)
    · have h := (if_pos c166).symm.trans h
      refine aw_iinc (v := (x6 + (1 : Int32))) (loc' := [some (.ref a0), some (.int x1), some (.int x2), some (.int x3), some (.int x4), some (.int x5), some (.int (x6 + (1 : Int32))), none, some (.int x8), some (.int x9), some (.int x10), some (.int s0)]) 199 d_Wa_relax_196 rfl (by decide) rfl rfl rfl ?_
      refine aw_goto 19 d_Wa_relax_199 (by decide) ?_
      exact AW.wk [true, true, true, true, true, true, true, true, false, false, false, false] rfl (hk19 x5 (x6 + (1 : Int32)) μ h)
    · have h := (if_neg c166).symm.trans h
      refine aw_aload_n 170 d_Wa_relax_169 rfl rfl ?_
      obtain ⟨y170, h170, h⟩ := bnd h
      refine aw_getR 173 d_Wa_relax_170 rfl fg_Wa_17 rfl h170 ?_
      refine aw_iload 175 d_Wa_relax_173 rfl rfl ?_
      refine aw_aload_n 176 d_Wa_relax_175 rfl rfl ?_
      obtain ⟨y176, h176, h⟩ := bnd h
      refine aw_getR 179 d_Wa_relax_176 rfl fg_Wa_17 rfl h176 ?_
      refine aw_iload 181 d_Wa_relax_179 rfl rfl ?_
      obtain ⟨y181, h181, h⟩ := bnd h
      refine aw_iald 182 d_Wa_relax_181 rfl h181 ?_
      refine aw_aload_n 183 d_Wa_relax_182 rfl rfl ?_
      obtain ⟨y183, h183, h⟩ := bnd h
      refine aw_getR 186 d_Wa_relax_183 rfl fg_Wa_17 rfl h183 ?_
      refine aw_iload 188 d_Wa_relax_186 rfl rfl ?_
      obtain ⟨y188, h188, h⟩ := bnd h
      refine aw_iald 189 d_Wa_relax_188 rfl h188 ?_
      refine aw_iload 191 d_Wa_relax_189 rfl rfl ?_
      refine aw_iadd 192 d_Wa_relax_191 rfl ?_
      obtain ⟨y192, h192, h⟩ := bnd h
      refine aw_invS (rest := [.int s0, .ref y170]) (st' := [.int y192, .int s0, .ref y170]) (As := [.int y181, .int (y188 + x4)]) 195 d_Wa_relax_192 rfl ls_Wa_67 (m_Mt_min h192) (by decide) rfl rfl (Nat.le_of_ble_eq_true rfl) rfl ?_
      obtain ⟨μ195, h195, h⟩ := bnd h
      refine aw_iast 196 d_Wa_relax_195 rfl h195 ?_
      refine aw_iinc (v := (x6 + (1 : Int32))) (loc' := [some (.ref a0), some (.int x1), some (.int x2), some (.int x3), some (.int x4), some (.int x5), some (.int (x6 + (1 : Int32))), none, some (.int x8), some (.int x9), some (.int x10), some (.int s0)]) 199 d_Wa_relax_196 rfl (by decide) rfl rfl rfl ?_
      refine aw_goto 19 d_Wa_relax_199 (by decide) ?_
      exact AW.wk [true, true, true, true, true, true, true, true, false, false, false, false] rfl (hk19 x5 (x6 + (1 : Int32)) μ195 h)
theorem j_Wa_relax_130 {l : Launch} {μ0 : MM} {q : MM} {a0 : Nat} {x1 : Int32} {x2 : Int32} {x3 : Int32} {x4 : Int32} {x5 : Int32} {x6 : Int32} {x7 : Int32} {x8 : Int32} {x9 : Int32} {s0 : Int32} {μ : MM} {k19 : Int32 → Int32 → MM → Option (MM)} (hk19 : ∀ (x5 : Int32) (x6 : Int32) (μ : MM), k19 x5 x6 μ = some q → AWm l Y_Wa_relax 2 μ0 none q 19 [some (.ref a0), some (.int x1), some (.int x2), some (.int x3), some (.int x4), some (.int x5), some (.int x6), none, none, none, none, none] [] μ) (h : f_Wa_relax_J130 k19 a0 x1 x2 x3 x4 x5 x6 x7 x8 x9 s0 μ = some q) : AWm l Y_Wa_relax 2 μ0 none q 130 [some (.ref a0), some (.int x1), some (.int x2), some (.int x3), some (.int x4), some (.int x5), some (.int x6), some (.int x7), some (.int x8), some (.int x9), none, none] [.int s0] μ := by
  unfold f_Wa_relax_J130 at h
  refine aw_istore (loc' := [some (.ref a0), some (.int x1), some (.int x2), some (.int x3), some (.int x4), some (.int x5), some (.int x6), some (.int x7), some (.int x8), some (.int x9), some (.int s0), none]) 132 d_Wa_relax_130 rfl (by decide) rfl ?_
  refine aw_iload_n 133 d_Wa_relax_132 rfl rfl ?_
  refine aw_if_eq 141 136 d_Wa_relax_133 (by decide) rfl (fun c133 => ?_) (fun c133 => ?_)
  · have h := (if_pos c133).symm.trans h
    refine aw_iload 143 d_Wa_relax_141 rfl rfl ?_
    exact AW.wk [true, true, true, true, true, true, true, false, true, true, true, true] rfl (j_Wa_relax_143 hk19 h)
  · have h := (if_neg c133).symm.trans h
    refine aw_iload 138 d_Wa_relax_136 rfl rfl ?_
    refine aw_goto 143 d_Wa_relax_138 (by decide) ?_
    exact AW.wk [true, true, true, true, true, true, true, false, true, true, true, true] rfl (j_Wa_relax_143 hk19 h)
theorem j_Wa_relax_109 {l : Launch} {μ0 : MM} {q : MM} {a0 : Nat} {x1 : Int32} {x2 : Int32} {x3 : Int32} {x4 : Int32} {x5 : Int32} {x6 : Int32} {x7 : Int32} {x8 : Int32} {μ : MM} {k19 : Int32 → Int32 → MM → Option (MM)} (hk19 : ∀ (x5 : Int32) (x6 : Int32) (μ : MM), k19 x5 x6 μ = some q → AWm l Y_Wa_relax 2 μ0 none q 19 [some (.ref a0), some (.int x1), some (.int x2), some (.int x3), some (.int x4), some (.int x5), some (.int x6), none, none, none, none, none] [] μ) (h : f_Wa_relax_J109 k19 a0 x1 x2 x3 x4 x5 x6 x7 x8 μ = some q) : AWm l Y_Wa_relax 2 μ0 none q 109 [some (.ref a0), some (.int x1), some (.int x2), some (.int x3), some (.int x4), some (.int x5), some (.int x6), some (.int x7), some (.int x8), none, none, none] [] μ := by
  unfold f_Wa_relax_J109 at h
  refine aw_iload_n 110 d_Wa_relax_109 rfl rfl ?_
  refine aw_sipush (v := (300 : Int32)) 113 d_Wa_relax_110 rfl (by decide) ?_
  refine aw_imul 114 d_Wa_relax_113 rfl ?_
  refine aw_iload 116 d_Wa_relax_114 rfl rfl ?_
  refine aw_iadd 117 d_Wa_relax_116 rfl ?_
  refine aw_istore (loc' := [some (.ref a0), some (.int x1), some (.int x2), some (.int x3), some (.int x4), some (.int x5), some (.int x6), some (.int x7), some (.int x8), some (.int ((x1 * (300 : Int32)) + x5)), none, none]) 119 d_Wa_relax_117 rfl (by decide) rfl ?_
  refine aw_iload_n 120 d_Wa_relax_119 rfl rfl ?_
  refine aw_if_eq 128 123 d_Wa_relax_120 (by decide) rfl (fun c120 => ?_) (fun c120 => ?_)
  · have h := (if_pos c120).symm.trans h
    refine aw_iload 130 d_Wa_relax_128 rfl rfl ?_
    exact (j_Wa_relax_130 hk19 h)
  · have h := (if_neg c120).symm.trans h
    refine aw_iload 125 d_Wa_relax_123 rfl rfl ?_
    refine aw_goto 130 d_Wa_relax_125 (by decide) ?_
    exact (j_Wa_relax_130 hk19 h)
theorem l_Wa_relax_72 {l : Launch} {μ0 : MM} {q : MM} {a0 : Nat} {x1 : Int32} {x2 : Int32} {x3 : Int32} {x4 : Int32} {x6 : Int32} {x7 : Int32} {x8 : Int32} {μ : MM} {k19 : Int32 → Int32 → MM → Option (MM)} (hk19 : ∀ (x5 : Int32) (x6 : Int32) (μ : MM), k19 x5 x6 μ = some q → AWm l Y_Wa_relax 2 μ0 none q 19 [some (.ref a0), some (.int x1), some (.int x2), some (.int x3), some (.int x4), some (.int x5), some (.int x6), none, none, none, none, none] [] μ) : ∀ (n : Nat) (x5 : Int32), f_Wa_relax_L72 k19 a0 x1 x2 x3 x4 x6 x7 x8 μ n x5 = some q → AWm l Y_Wa_relax 2 μ0 none q 72 [some (.ref a0), some (.int x1), some (.int x2), some (.int x3), some (.int x4), some (.int x5), some (.int x6), some (.int x7), some (.int x8), none, none, none] [] μ := by
  intro n
  induction n with
  | zero =>
    intro x5 h
    have h : (none : Option (MM)) = some q := h
    cases h
  | succ n ih =>
    intro x5 h
    rw [f_Wa_relax_L72] at h
    refine aw_iload 74 d_Wa_relax_72 rfl rfl ?_
    refine aw_aload_n 75 d_Wa_relax_74 rfl rfl ?_
    obtain ⟨y75, h75, h⟩ := bnd h
    refine aw_getR 78 d_Wa_relax_75 rfl fg_Wa_20 rfl h75 ?_
    refine aw_iload_n 79 d_Wa_relax_78 rfl rfl ?_
    obtain ⟨y79, h79, h⟩ := bnd h
    refine aw_iald 80 d_Wa_relax_79 rfl h79 ?_
    refine aw_iconst (v := (1 : Int32)) 81 d_Wa_relax_80 rfl (by decide) ?_
    refine aw_isub 82 d_Wa_relax_81 rfl ?_
    refine aw_icmp_ge 109 85 d_Wa_relax_82 (by decide) rfl (fun c82 => ?_) (fun c82 => ?_)
    · have h := (if_pos c82).symm.trans h
      exact (j_Wa_relax_109 hk19 h)
    · have h := (if_neg c82).symm.trans h
      refine aw_aload_n 86 d_Wa_relax_85 rfl rfl ?_
      obtain ⟨y86, h86, h⟩ := bnd h
      refine aw_getR 89 d_Wa_relax_86 rfl fg_Wa_13 rfl h86 ?_
      refine aw_iload_n 90 d_Wa_relax_89 rfl rfl ?_
      refine aw_sipush (v := (300 : Int32)) 93 d_Wa_relax_90 rfl (by decide) ?_
      refine aw_imul 94 d_Wa_relax_93 rfl ?_
      refine aw_iload 96 d_Wa_relax_94 rfl rfl ?_
      refine aw_iadd 97 d_Wa_relax_96 rfl ?_
      obtain ⟨y97, h97, h⟩ := bnd h
      refine aw_iald 98 d_Wa_relax_97 rfl h97 ?_
      refine aw_iload 100 d_Wa_relax_98 rfl rfl ?_
      refine aw_icmp_ge 109 103 d_Wa_relax_100 (by decide) rfl (fun c100 => ?_) (fun c100 => ?_)
      · have h := (if_pos c100).symm.trans h
        exact (j_Wa_relax_109 hk19 h)
      · have h := (if_neg c100).symm.trans h
        refine aw_iinc (v := (x5 + (1 : Int32))) (loc' := [some (.ref a0), some (.int x1), some (.int x2), some (.int x3), some (.int x4), some (.int (x5 + (1 : Int32))), some (.int x6), some (.int x7), some (.int x8), none, none, none]) 106 d_Wa_relax_103 rfl (by decide) rfl rfl rfl ?_
        refine aw_goto 72 d_Wa_relax_106 (by decide) ?_
        exact (ih (x5 + (1 : Int32)) h)
theorem l_Wa_relax_19 {l : Launch} {μ0 : MM} {q : MM} {a0 : Nat} {x1 : Int32} {x2 : Int32} {x3 : Int32} {x4 : Int32} : ∀ (n : Nat) (x5 : Int32) (x6 : Int32) (μ : MM), f_Wa_relax_L19 a0 x1 x2 x3 x4 n x5 x6 μ = some q → AWm l Y_Wa_relax 2 μ0 none q 19 [some (.ref a0), some (.int x1), some (.int x2), some (.int x3), some (.int x4), some (.int x5), some (.int x6), none, none, none, none, none] [] μ := by
  intro n
  induction n with
  | zero =>
    intro x5 x6 μ h
    have h : (none : Option (MM)) = some q := h
    cases h
  | succ n ih =>
    intro x5 x6 μ h
    rw [f_Wa_relax_L19] at h
    refine aw_iload 21 d_Wa_relax_19 rfl rfl ?_
    refine aw_aload_n 22 d_Wa_relax_21 rfl rfl ?_
    obtain ⟨y22, h22, h⟩ := bnd h
    refine aw_getR 25 d_Wa_relax_22 rfl fg_Wa_20 rfl h22 ?_
    refine aw_iload_n 26 d_Wa_relax_25 rfl rfl ?_
    refine aw_iconst (v := (1 : Int32)) 27 d_Wa_relax_26 rfl (by decide) ?_
    refine aw_isub 28 d_Wa_relax_27 rfl ?_
    obtain ⟨y28, h28, h⟩ := bnd h
    refine aw_iald 29 d_Wa_relax_28 rfl h28 ?_
    refine aw_icmp_ge 202 32 d_Wa_relax_29 (by decide) rfl (fun c29 => ?_) (fun c29 => ?_)
    · have h := (if_pos c29).symm.trans h
      cases h
      exact aw_return d_Wa_relax_202 rfl
    · have h := (if_neg c29).symm.trans h
      refine aw_iload 34 d_Wa_relax_32 rfl rfl ?_
      refine aw_ldc (v := (2147483647 : Int32)) 36 d_Wa_relax_34 rfl c_Wa_66 ?_
      refine aw_icmp_eq 202 39 d_Wa_relax_36 (by decide) rfl (fun c36 => ?_) (fun c36 => ?_)
      · have h := (if_pos c36).symm.trans h
        cases h
        exact aw_return d_Wa_relax_202 rfl
      · have h := (if_neg c36).symm.trans h
        refine aw_iload_n 40 d_Wa_relax_39 rfl rfl ?_
        refine aw_iconst (v := (1 : Int32)) 41 d_Wa_relax_40 rfl (by decide) ?_
        refine aw_isub 42 d_Wa_relax_41 rfl ?_
        refine aw_sipush (v := (300 : Int32)) 45 d_Wa_relax_42 rfl (by decide) ?_
        refine aw_imul 46 d_Wa_relax_45 rfl ?_
        refine aw_iload 48 d_Wa_relax_46 rfl rfl ?_
        refine aw_iadd 49 d_Wa_relax_48 rfl ?_
        refine aw_istore (loc' := [some (.ref a0), some (.int x1), some (.int x2), some (.int x3), some (.int x4), some (.int x5), some (.int x6), some (.int (((x1 - (1 : Int32)) * (300 : Int32)) + x6)), none, none, none, none]) 51 d_Wa_relax_49 rfl (by decide) rfl ?_
        refine aw_aload_n 52 d_Wa_relax_51 rfl rfl ?_
        obtain ⟨y52, h52, h⟩ := bnd h
        refine aw_getR 55 d_Wa_relax_52 rfl fg_Wa_13 rfl h52 ?_
        refine aw_iload 57 d_Wa_relax_55 rfl rfl ?_
        obtain ⟨y57, h57, h⟩ := bnd h
        refine aw_iald 58 d_Wa_relax_57 rfl h57 ?_
        refine aw_aload_n 59 d_Wa_relax_58 rfl rfl ?_
        obtain ⟨y59, h59, h⟩ := bnd h
        refine aw_getR 62 d_Wa_relax_59 rfl fg_Wa_26 rfl h59 ?_
        refine aw_iload_n 63 d_Wa_relax_62 rfl rfl ?_
        refine aw_bipush (v := (7 : Int32)) 65 d_Wa_relax_63 rfl (by decide) ?_
        refine aw_imul 66 d_Wa_relax_65 rfl ?_
        refine aw_iload_n 67 d_Wa_relax_66 rfl rfl ?_
        refine aw_iadd 68 d_Wa_relax_67 rfl ?_
        obtain ⟨y68, h68, h⟩ := bnd h
        refine aw_iald 69 d_Wa_relax_68 rfl h68 ?_
        refine aw_iadd 70 d_Wa_relax_69 rfl ?_
        refine aw_istore (loc' := [some (.ref a0), some (.int x1), some (.int x2), some (.int x3), some (.int x4), some (.int x5), some (.int x6), some (.int (((x1 - (1 : Int32)) * (300 : Int32)) + x6)), some (.int (y57 + y68)), none, none, none]) 72 d_Wa_relax_70 rfl (by decide) rfl ?_
        exact (l_Wa_relax_72 ih FU _ h)
theorem m_Wa_relax {l : Launch} {q : MM} {a0 : Nat} {x1 : Int32} {x2 : Int32} {x3 : Int32} {μ : MM} (h : f_Wa_relax a0 x1 x2 x3 μ = some q) : AMet l 2 Y_Wa_relax [.ref a0, .int x1, .int x2, .int x3] μ none q := by
  refine AMet.of (loc := [some (.ref a0), some (.int x1), some (.int x2), some (.int x3), none, none, none, none, none, none, none, none]) pn_Wa_relax (Nat.le_of_ble_eq_true rfl) rfl ?_
  unfold f_Wa_relax at h
  obtain ⟨_, hk, h⟩ := bnd h
  refine aw_aload_n 1 d_Wa_relax_0 rfl rfl ?_
  obtain ⟨y1, h1, h⟩ := bnd h
  refine aw_getR 4 d_Wa_relax_1 rfl fg_Wa_29 rfl h1 ?_
  refine aw_iload_n 5 d_Wa_relax_4 rfl rfl ?_
  refine aw_bipush (v := (7 : Int32)) 7 d_Wa_relax_5 rfl (by decide) ?_
  refine aw_imul 8 d_Wa_relax_7 rfl ?_
  refine aw_iload_n 9 d_Wa_relax_8 rfl rfl ?_
  refine aw_iadd 10 d_Wa_relax_9 rfl ?_
  obtain ⟨y10, h10, h⟩ := bnd h
  refine aw_iald 11 d_Wa_relax_10 rfl h10 ?_
  refine aw_istore (loc' := [some (.ref a0), some (.int x1), some (.int x2), some (.int x3), some (.int y10), none, none, none, none, none, none, none]) 13 d_Wa_relax_11 rfl (by decide) rfl ?_
  refine aw_iconst (v := (0 : Int32)) 14 d_Wa_relax_13 rfl (by decide) ?_
  refine aw_istore (loc' := [some (.ref a0), some (.int x1), some (.int x2), some (.int x3), some (.int y10), some (.int (0 : Int32)), none, none, none, none, none, none]) 16 d_Wa_relax_14 rfl (by decide) rfl ?_
  refine aw_iconst (v := (0 : Int32)) 17 d_Wa_relax_16 rfl (by decide) ?_
  refine aw_istore (loc' := [some (.ref a0), some (.int x1), some (.int x2), some (.int x3), some (.int y10), some (.int (0 : Int32)), some (.int (0 : Int32)), none, none, none, none, none]) 19 d_Wa_relax_17 rfl (by decide) rfl ?_
  exact (l_Wa_relax_19 FU _ _ _ h)
theorem k_Wa_relax {q : MM} {a0 : Nat} {x1 : Int32} {x2 : Int32} {x3 : Int32} {μ : MM} (h : f_Wa_relax a0 x1 x2 x3 μ = some q) : μ.1[a0]? = some (0, 11) := by
  unfold f_Wa_relax at h
  obtain ⟨_, h1, _⟩ := bnd h
  exact kO_some h1
theorem j_Wa_follow_153 {l : Launch} {μ0 : MM} {q : Int32 × MM} {a0 : Nat} {x2 : Int32} {x3 : Int32} {μ : MM} {k12 : Int32 → Int32 → MM → Option (Int32 × MM)} (hk12 : ∀ (x1 : Int32) (x2 : Int32) (μ : MM), k12 x1 x2 μ = some q → AWm l Y_Wa_follow 2 μ0 (some (.int q.1)) q.2 12 [some (.ref a0), some (.int x1), some (.int x2), none, none, none, none] [] μ) (h : f_Wa_follow_J153 k12 a0 x2 x3 μ = some q) : AWm l Y_Wa_follow 2 μ0 (some (.int q.1)) q.2 153 [some (.ref a0), none, some (.int x2), some (.int x3), none, none, none] [] μ := by
  unfold f_Wa_follow_J153 at h
  refine aw_iload_n 154 d_Wa_follow_153 rfl rfl ?_
  refine aw_iconst (v := (-1 : Int32)) 155 d_Wa_follow_154 rfl (by decide) ?_
  refine aw_icmp_ne 160 158 d_Wa_follow_155 (by decide) rfl (fun c155 => ?_) (fun c155 => ?_)
  · have h := (if_neg c155).symm.trans h
    refine aw_iload_n 161 d_Wa_follow_160 rfl rfl ?_
    refine aw_istore_n (loc' := [some (.ref a0), some (.int x3), some (.int x2), some (.int x3), none, none, none]) 162 d_Wa_follow_161 rfl (by decide) rfl ?_
    refine aw_iinc (v := (x2 + (1 : Int32))) (loc' := [some (.ref a0), some (.int x3), some (.int (x2 + (1 : Int32))), some (.int x3), none, none, none]) 165 d_Wa_follow_162 rfl (by decide) rfl rfl rfl ?_
    refine aw_goto 12 d_Wa_follow_165 (by decide) ?_
    exact AW.wk [true, true, true, false, true, true, true] rfl (hk12 x3 (x2 + (1 : Int32)) μ h)
  · have h := (if_pos c155).symm.trans h
    refine aw_iconst (v := (0 : Int32)) 159 d_Wa_follow_158 rfl (by decide) ?_
    cases h
    exact aw_ireturn d_Wa_follow_159 rfl nar0
theorem j_Wa_follow_146 {l : Launch} {μ0 : MM} {q : Int32 × MM} {a0 : Nat} {x1 : Int32} {x2 : Int32} {x3 : Int32} {x4 : Int32} {s0 : Nat} {s1 : Int32} {s2 : Int32} {μ : MM} {k12 : Int32 → Int32 → MM → Option (Int32 × MM)} (hk12 : ∀ (x1 : Int32) (x2 : Int32) (μ : MM), k12 x1 x2 μ = some q → AWm l Y_Wa_follow 2 μ0 (some (.int q.1)) q.2 12 [some (.ref a0), some (.int x1), some (.int x2), none, none, none, none] [] μ) {k25 : Int32 → Int32 → MM → Option (Int32 × MM)} (hk25 : ∀ (x3 : Int32) (x4 : Int32) (μ : MM), k25 x3 x4 μ = some q → AWm l Y_Wa_follow 2 μ0 (some (.int q.1)) q.2 25 [some (.ref a0), some (.int x1), some (.int x2), some (.int x3), some (.int x4), none, none] [] μ) (h : f_Wa_follow_J146 k12 k25 a0 x1 x2 x3 x4 s0 s1 s2 μ = some q) : AWm l Y_Wa_follow 2 μ0 (some (.int q.1)) q.2 146 [some (.ref a0), some (.int x1), some (.int x2), some (.int x3), some (.int x4), none, none] [.int s2, .int s1, .ref s0] μ := by
  unfold f_Wa_follow_J146 at h
  obtain ⟨μ146, h146, h⟩ := bnd h
  refine aw_iast 147 d_Wa_follow_146 rfl h146 ?_
  refine aw_iinc (v := (x4 + (1 : Int32))) (loc' := [some (.ref a0), some (.int x1), some (.int x2), some (.int x3), some (.int (x4 + (1 : Int32))), none, none]) 150 d_Wa_follow_147 rfl (by decide) rfl rfl rfl ?_
  refine aw_goto 25 d_Wa_follow_150 (by decide) ?_
  exact (hk25 x3 (x4 + (1 : Int32)) μ146 h)
theorem j_Wa_follow_86 {l : Launch} {μ0 : MM} {q : Int32 × MM} {a0 : Nat} {x1 : Int32} {x2 : Int32} {x3 : Int32} {x4 : Int32} {x5 : Int32} {s0 : Int32} {μ : MM} {k12 : Int32 → Int32 → MM → Option (Int32 × MM)} (hk12 : ∀ (x1 : Int32) (x2 : Int32) (μ : MM), k12 x1 x2 μ = some q → AWm l Y_Wa_follow 2 μ0 (some (.int q.1)) q.2 12 [some (.ref a0), some (.int x1), some (.int x2), none, none, none, none] [] μ) {k25 : Int32 → Int32 → MM → Option (Int32 × MM)} (hk25 : ∀ (x3 : Int32) (x4 : Int32) (μ : MM), k25 x3 x4 μ = some q → AWm l Y_Wa_follow 2 μ0 (some (.int q.1)) q.2 25 [some (.ref a0), some (.int x1), some (.int x2), some (.int x3), some (.int x4), none, none] [] μ) (h : f_Wa_follow_J86 k12 k25 a0 x1 x2 x3 x4 x5 s0 μ = some q) : AWm l Y_Wa_follow 2 μ0 (some (.int q.1)) q.2 86 [some (.ref a0), some (.int x1), some (.int x2), some (.int x3), some (.int x4), some (.int x5), none] [.int s0] μ := by
  unfold f_Wa_follow_J86 at h
  refine aw_istore (loc' := [some (.ref a0), some (.int x1), some (.int x2), some (.int x3), some (.int x4), some (.int x5), some (.int s0)]) 88 d_Wa_follow_86 rfl (by decide) rfl ?_
  refine aw_iload 90 d_Wa_follow_88 rfl rfl ?_
  refine aw_iconst (v := (-1 : Int32)) 91 d_Wa_follow_90 rfl (by decide) ?_
  refine aw_icmp_eq 147 94 d_Wa_follow_91 (by decide) rfl (fun c91 => ?_) (fun c91 => ?_)
  · have h := (if_pos c91).symm.trans h
    refine aw_iinc (v := (x4 + (1 : Int32))) (loc' := [some (.ref a0), some (.int x1), some (.int x2), some (.int x3), some (.int (x4 + (1 : Int32))), some (.int x5), some (.int s0)]) 150 d_Wa_follow_147 rfl (by decide) rfl rfl rfl ?_
    refine aw_goto 25 d_Wa_follow_150 (by decide) ?_
    exact AW.wk [true, true, true, true, true, false, false] rfl (hk25 x3 (x4 + (1 : Int32)) μ h)
  · have h := (if_neg c91).symm.trans h
    refine aw_aload_n 95 d_Wa_follow_94 rfl rfl ?_
    obtain ⟨y95, h95, h⟩ := bnd h
    refine aw_getR 98 d_Wa_follow_95 rfl fg_Wa_17 rfl h95 ?_
    refine aw_iload 100 d_Wa_follow_98 rfl rfl ?_
    obtain ⟨y100, h100, h⟩ := bnd h
    refine aw_iald 101 d_Wa_follow_100 rfl h100 ?_
    refine aw_ldc (v := (2147483647 : Int32)) 103 d_Wa_follow_101 rfl c_Wa_66 ?_
    refine aw_icmp_eq 147 106 d_Wa_follow_103 (by decide) rfl (fun c103 => ?_) (fun c103 => ?_)
    · have h := (if_pos c103).symm.trans h
      refine aw_iinc (v := (x4 + (1 : Int32))) (loc' := [some (.ref a0), some (.int x1), some (.int x2), some (.int x3), some (.int (x4 + (1 : Int32))), some (.int x5), some (.int s0)]) 150 d_Wa_follow_147 rfl (by decide) rfl rfl rfl ?_
      refine aw_goto 25 d_Wa_follow_150 (by decide) ?_
      exact AW.wk [true, true, true, true, true, false, false] rfl (hk25 x3 (x4 + (1 : Int32)) μ h)
    · have h := (if_neg c103).symm.trans h
      refine aw_aload_n 107 d_Wa_follow_106 rfl rfl ?_
      obtain ⟨y107, h107, h⟩ := bnd h
      refine aw_getR 110 d_Wa_follow_107 rfl fg_Wa_17 rfl h107 ?_
      refine aw_iload_n 111 d_Wa_follow_110 rfl rfl ?_
      obtain ⟨y111, h111, h⟩ := bnd h
      refine aw_iald 112 d_Wa_follow_111 rfl h111 ?_
      refine aw_iload 114 d_Wa_follow_112 rfl rfl ?_
      refine aw_aload_n 115 d_Wa_follow_114 rfl rfl ?_
      obtain ⟨y115, h115, h⟩ := bnd h
      refine aw_getR 118 d_Wa_follow_115 rfl fg_Wa_17 rfl h115 ?_
      refine aw_iload 120 d_Wa_follow_118 rfl rfl ?_
      obtain ⟨y120, h120, h⟩ := bnd h
      refine aw_iald 121 d_Wa_follow_120 rfl h120 ?_
      refine aw_iadd 122 d_Wa_follow_121 rfl ?_
      refine aw_icmp_ne 147 125 d_Wa_follow_122 (by decide) rfl (fun c122 => ?_) (fun c122 => ?_)
      · have h := (if_neg c122).symm.trans h
        refine aw_iinc (v := (x4 + (1 : Int32))) (loc' := [some (.ref a0), some (.int x1), some (.int x2), some (.int x3), some (.int (x4 + (1 : Int32))), some (.int x5), some (.int s0)]) 150 d_Wa_follow_147 rfl (by decide) rfl rfl rfl ?_
        refine aw_goto 25 d_Wa_follow_150 (by decide) ?_
        exact AW.wk [true, true, true, true, true, false, false] rfl (hk25 x3 (x4 + (1 : Int32)) μ h)
      · have h := (if_pos c122).symm.trans h
        refine aw_iload 127 d_Wa_follow_125 rfl rfl ?_
        refine aw_istore_n (loc' := [some (.ref a0), some (.int x1), some (.int x2), some (.int s0), some (.int x4), some (.int x5), some (.int s0)]) 128 d_Wa_follow_127 rfl (by decide) rfl ?_
        refine aw_aload_n 129 d_Wa_follow_128 rfl rfl ?_
        obtain ⟨y129, h129, h⟩ := bnd h
        refine aw_getR 132 d_Wa_follow_129 rfl fg_Wa_32 rfl h129 ?_
        refine aw_iload_n 133 d_Wa_follow_132 rfl rfl ?_
        refine aw_iload 135 d_Wa_follow_133 rfl rfl ?_
        refine aw_if_ne 142 138 d_Wa_follow_135 (by decide) rfl (fun c135 => ?_) (fun c135 => ?_)
        · have h := (if_neg c135).symm.trans h
          refine aw_iload 144 d_Wa_follow_142 rfl rfl ?_
          refine aw_iconst (v := (1 : Int32)) 145 d_Wa_follow_144 rfl (by decide) ?_
          refine aw_isub 146 d_Wa_follow_145 rfl ?_
          exact AW.wk [true, true, true, true, true, false, false] rfl (j_Wa_follow_146 hk12 hk25 h)
        · have h := (if_pos c135).symm.trans h
          refine aw_iconst (v := (-1 : Int32)) 139 d_Wa_follow_138 rfl (by decide) ?_
          refine aw_goto 146 d_Wa_follow_139 (by decide) ?_
          exact AW.wk [true, true, true, true, true, false, false] rfl (j_Wa_follow_146 hk12 hk25 h)
theorem l_Wa_follow_25 {l : Launch} {μ0 : MM} {q : Int32 × MM} {a0 : Nat} {x1 : Int32} {x2 : Int32} {k12 : Int32 → Int32 → MM → Option (Int32 × MM)} (hk12 : ∀ (x1 : Int32) (x2 : Int32) (μ : MM), k12 x1 x2 μ = some q → AWm l Y_Wa_follow 2 μ0 (some (.int q.1)) q.2 12 [some (.ref a0), some (.int x1), some (.int x2), none, none, none, none] [] μ) : ∀ (n : Nat) (x3 : Int32) (x4 : Int32) (μ : MM), f_Wa_follow_L25 k12 a0 x1 x2 n x3 x4 μ = some q → AWm l Y_Wa_follow 2 μ0 (some (.int q.1)) q.2 25 [some (.ref a0), some (.int x1), some (.int x2), some (.int x3), some (.int x4), none, none] [] μ := by
  intro n
  induction n with
  | zero =>
    intro x3 x4 μ h
    have h : (none : Option (Int32 × MM)) = some q := h
    cases h
  | succ n ih =>
    intro x3 x4 μ h
    rw [f_Wa_follow_L25] at h
    refine aw_iload 27 d_Wa_follow_25 rfl rfl ?_
    refine aw_bipush (v := (7 : Int32)) 29 d_Wa_follow_27 rfl (by decide) ?_
    refine aw_icmp_ge 153 32 d_Wa_follow_29 (by decide) rfl (fun c29 => ?_) (fun c29 => ?_)
    · have h := (if_pos c29).symm.trans h
      exact AW.wk [true, false, true, true, false, true, true] rfl (j_Wa_follow_153 hk12 h)
    · have h := (if_neg c29).symm.trans h
      refine aw_iload_n 33 d_Wa_follow_32 rfl rfl ?_
      refine aw_iconst (v := (-1 : Int32)) 34 d_Wa_follow_33 rfl (by decide) ?_
      refine aw_icmp_ne 153 37 d_Wa_follow_34 (by decide) rfl (fun c34 => ?_) (fun c34 => ?_)
      · have h := (if_neg c34).symm.trans h
        exact AW.wk [true, false, true, true, false, true, true] rfl (j_Wa_follow_153 hk12 h)
      · have h := (if_pos c34).symm.trans h
        refine aw_aload_n 38 d_Wa_follow_37 rfl rfl ?_
        obtain ⟨y38, h38, h⟩ := bnd h
        refine aw_getR 41 d_Wa_follow_38 rfl fg_Wa_29 rfl h38 ?_
        refine aw_iload_n 42 d_Wa_follow_41 rfl rfl ?_
        refine aw_bipush (v := (7 : Int32)) 44 d_Wa_follow_42 rfl (by decide) ?_
        refine aw_imul 45 d_Wa_follow_44 rfl ?_
        refine aw_iload 47 d_Wa_follow_45 rfl rfl ?_
        refine aw_iadd 48 d_Wa_follow_47 rfl ?_
        obtain ⟨y48, h48, h⟩ := bnd h
        refine aw_iald 49 d_Wa_follow_48 rfl h48 ?_
        refine aw_istore (loc' := [some (.ref a0), some (.int x1), some (.int x2), some (.int x3), some (.int x4), some (.int y48), none]) 51 d_Wa_follow_49 rfl (by decide) rfl ?_
        refine aw_iload 53 d_Wa_follow_51 rfl rfl ?_
        refine aw_ldc (v := (2147483647 : Int32)) 55 d_Wa_follow_53 rfl c_Wa_66 ?_
        refine aw_icmp_ne 62 58 d_Wa_follow_55 (by decide) rfl (fun c55 => ?_) (fun c55 => ?_)
        · have h := (if_neg c55).symm.trans h
          refine aw_aload_n 63 d_Wa_follow_62 rfl rfl ?_
          refine aw_iload_n 64 d_Wa_follow_63 rfl rfl ?_
          refine aw_aload_n 65 d_Wa_follow_64 rfl rfl ?_
          obtain ⟨y65, h65, h⟩ := bnd h
          refine aw_getR 68 d_Wa_follow_65 rfl fg_Wa_13 rfl h65 ?_
          refine aw_iload_n 69 d_Wa_follow_68 rfl rfl ?_
          obtain ⟨y69, h69, h⟩ := bnd h
          refine aw_iald 70 d_Wa_follow_69 rfl h69 ?_
          refine aw_aload_n 71 d_Wa_follow_70 rfl rfl ?_
          obtain ⟨y71, h71, h⟩ := bnd h
          refine aw_getR 74 d_Wa_follow_71 rfl fg_Wa_26 rfl h71 ?_
          refine aw_iload_n 75 d_Wa_follow_74 rfl rfl ?_
          refine aw_bipush (v := (7 : Int32)) 77 d_Wa_follow_75 rfl (by decide) ?_
          refine aw_imul 78 d_Wa_follow_77 rfl ?_
          refine aw_iload 80 d_Wa_follow_78 rfl rfl ?_
          refine aw_iadd 81 d_Wa_follow_80 rfl ?_
          obtain ⟨y81, h81, h⟩ := bnd h
          refine aw_iald 82 d_Wa_follow_81 rfl h81 ?_
          refine aw_iadd 83 d_Wa_follow_82 rfl ?_
          obtain ⟨y83, h83, h⟩ := bnd h
          refine aw_invV (rest := []) (st' := [.int y83]) (As := [.int x2, .int (y69 + y81)]) 86 d_Wa_follow_83 rfl lv_Wa_84 (m_Wa_find h83) (by decide) (k_Wa_find h83) rfl rfl rfl (Nat.le_of_ble_eq_true rfl) rfl ?_
          exact (j_Wa_follow_86 hk12 ih h)
        · have h := (if_pos c55).symm.trans h
          refine aw_iconst (v := (-1 : Int32)) 59 d_Wa_follow_58 rfl (by decide) ?_
          refine aw_goto 86 d_Wa_follow_59 (by decide) ?_
          exact (j_Wa_follow_86 hk12 ih h)
theorem l_Wa_follow_12 {l : Launch} {μ0 : MM} {q : Int32 × MM} {a0 : Nat} : ∀ (n : Nat) (x1 : Int32) (x2 : Int32) (μ : MM), f_Wa_follow_L12 a0 n x1 x2 μ = some q → AWm l Y_Wa_follow 2 μ0 (some (.int q.1)) q.2 12 [some (.ref a0), some (.int x1), some (.int x2), none, none, none, none] [] μ := by
  intro n
  induction n with
  | zero =>
    intro x1 x2 μ h
    have h : (none : Option (Int32 × MM)) = some q := h
    cases h
  | succ n ih =>
    intro x1 x2 μ h
    rw [f_Wa_follow_L12] at h
    refine aw_iload_n 13 d_Wa_follow_12 rfl rfl ?_
    refine aw_aload_n 14 d_Wa_follow_13 rfl rfl ?_
    obtain ⟨y14, h14, h⟩ := bnd h
    refine aw_getI 17 d_Wa_follow_14 rfl fg_Wa_45 (Or.inl rfl) h14 ?_
    refine aw_icmp_gt 168 20 d_Wa_follow_17 (by decide) rfl (fun c17 => ?_) (fun c17 => ?_)
    · have h := (if_pos c17).symm.trans h
      refine aw_iconst (v := (1 : Int32)) 169 d_Wa_follow_168 rfl (by decide) ?_
      cases h
      exact aw_ireturn d_Wa_follow_169 rfl nar1
    · have h := (if_neg c17).symm.trans h
      refine aw_iconst (v := (-1 : Int32)) 21 d_Wa_follow_20 rfl (by decide) ?_
      refine aw_istore_n (loc' := [some (.ref a0), some (.int x1), some (.int x2), some (.int (-1 : Int32)), none, none, none]) 22 d_Wa_follow_21 rfl (by decide) rfl ?_
      refine aw_iconst (v := (0 : Int32)) 23 d_Wa_follow_22 rfl (by decide) ?_
      refine aw_istore (loc' := [some (.ref a0), some (.int x1), some (.int x2), some (.int (-1 : Int32)), some (.int (0 : Int32)), none, none]) 25 d_Wa_follow_23 rfl (by decide) rfl ?_
      exact (l_Wa_follow_25 ih FU _ _ _ h)
theorem m_Wa_follow {l : Launch} {q : Int32 × MM} {a0 : Nat} {μ : MM} (h : f_Wa_follow a0 μ = some q) : AMet l 2 Y_Wa_follow [.ref a0] μ (some (.int q.1)) q.2 := by
  refine AMet.of (loc := [some (.ref a0), none, none, none, none, none, none]) pn_Wa_follow (Nat.le_of_ble_eq_true rfl) rfl ?_
  unfold f_Wa_follow at h
  obtain ⟨_, hk, h⟩ := bnd h
  refine aw_iconst (v := (0 : Int32)) 1 d_Wa_follow_0 rfl (by decide) ?_
  refine aw_istore_n (loc' := [some (.ref a0), some (.int (0 : Int32)), none, none, none, none, none]) 2 d_Wa_follow_1 rfl (by decide) rfl ?_
  refine aw_aload_n 3 d_Wa_follow_2 rfl rfl ?_
  obtain ⟨y3, h3, h⟩ := bnd h
  refine aw_getR 6 d_Wa_follow_3 rfl fg_Wa_32 rfl h3 ?_
  refine aw_iconst (v := (-1 : Int32)) 7 d_Wa_follow_6 rfl (by decide) ?_
  obtain ⟨μ7, h7, h⟩ := bnd h
  refine aw_invS (rest := []) (st' := []) (As := [.ref y3, .int (-1 : Int32)]) 10 d_Wa_follow_7 rfl ls_Wa_91 (m_Ar_fill_AI h7) (by decide) rfl rfl (Nat.le_of_ble_eq_true rfl) rfl ?_
  refine aw_iconst (v := (1 : Int32)) 11 d_Wa_follow_10 rfl (by decide) ?_
  refine aw_istore_n (loc' := [some (.ref a0), some (.int (0 : Int32)), some (.int (1 : Int32)), none, none, none, none]) 12 d_Wa_follow_11 rfl (by decide) rfl ?_
  exact (l_Wa_follow_12 FU _ _ _ h)
theorem k_Wa_follow {q : Int32 × MM} {a0 : Nat} {μ : MM} (h : f_Wa_follow a0 μ = some q) : μ.1[a0]? = some (0, 11) := by
  unfold f_Wa_follow at h
  obtain ⟨_, h1, _⟩ := bnd h
  exact kO_some h1
theorem l_Wa_leastRow_51 {l : Launch} {μ0 : MM} {q : Int32 × MM} {a0 : Nat} {x3 : Int32} {k43 : Int32 → MM → Option (Int32 × MM)} (hk43 : ∀ (x3 : Int32) (μ : MM), k43 x3 μ = some q → AWm l Y_Wa_leastRow 6 μ0 (some (.int q.1)) q.2 43 [some (.ref a0), none, none, some (.int x3), none] [] μ) : ∀ (n : Nat) (x4 : Int32) (μ : MM), f_Wa_leastRow_L51 k43 a0 x3 n x4 μ = some q → AWm l Y_Wa_leastRow 6 μ0 (some (.int q.1)) q.2 51 [some (.ref a0), none, none, some (.int x3), some (.int x4)] [] μ := by
  intro n
  induction n with
  | zero =>
    intro x4 μ h
    have h : (none : Option (Int32 × MM)) = some q := h
    cases h
  | succ n ih =>
    intro x4 μ h
    rw [f_Wa_leastRow_L51] at h
    refine aw_iload 53 d_Wa_leastRow_51 rfl rfl ?_
    refine aw_bipush (v := (7 : Int32)) 55 d_Wa_leastRow_53 rfl (by decide) ?_
    refine aw_icmp_ge 72 58 d_Wa_leastRow_55 (by decide) rfl (fun c55 => ?_) (fun c55 => ?_)
    · have h := (if_pos c55).symm.trans h
      refine aw_iinc (v := (x3 + (-1 : Int32))) (loc' := [some (.ref a0), none, none, some (.int (x3 + (-1 : Int32))), some (.int x4)]) 75 d_Wa_leastRow_72 rfl (by decide) rfl rfl rfl ?_
      refine aw_goto 43 d_Wa_leastRow_75 (by decide) ?_
      exact AW.wk [true, true, true, true, false] rfl (hk43 (x3 + (-1 : Int32)) μ h)
    · have h := (if_neg c55).symm.trans h
      refine aw_aload_n 59 d_Wa_leastRow_58 rfl rfl ?_
      refine aw_iload_n 60 d_Wa_leastRow_59 rfl rfl ?_
      refine aw_iload 62 d_Wa_leastRow_60 rfl rfl ?_
      refine aw_iconst (v := (0 : Int32)) 63 d_Wa_leastRow_62 rfl (by decide) ?_
      obtain ⟨μ63, h63, h⟩ := bnd h
      refine aw_invV (rest := []) (st' := []) (As := [.int x3, .int x4, .int (0 : Int32)]) 66 d_Wa_leastRow_63 rfl lv_Wa_97 (m_Wa_relax h63) (by decide) (k_Wa_relax h63) rfl rfl rfl (Nat.le_of_ble_eq_true rfl) rfl ?_
      refine aw_iinc (v := (x4 + (1 : Int32))) (loc' := [some (.ref a0), none, none, some (.int x3), some (.int (x4 + (1 : Int32)))]) 69 d_Wa_leastRow_66 rfl (by decide) rfl rfl rfl ?_
      refine aw_goto 51 d_Wa_leastRow_69 (by decide) ?_
      exact (ih (x4 + (1 : Int32)) μ63 h)
theorem l_Wa_leastRow_43 {l : Launch} {μ0 : MM} {q : Int32 × MM} {a0 : Nat} : ∀ (n : Nat) (x3 : Int32) (μ : MM), f_Wa_leastRow_L43 a0 n x3 μ = some q → AWm l Y_Wa_leastRow 6 μ0 (some (.int q.1)) q.2 43 [some (.ref a0), none, none, some (.int x3), none] [] μ := by
  intro n
  induction n with
  | zero =>
    intro x3 μ h
    have h : (none : Option (Int32 × MM)) = some q := h
    cases h
  | succ n ih =>
    intro x3 μ h
    rw [f_Wa_leastRow_L43] at h
    refine aw_iload_n 44 d_Wa_leastRow_43 rfl rfl ?_
    refine aw_iconst (v := (1 : Int32)) 45 d_Wa_leastRow_44 rfl (by decide) ?_
    refine aw_icmp_lt 78 48 d_Wa_leastRow_45 (by decide) rfl (fun c45 => ?_) (fun c45 => ?_)
    · have h := (if_pos c45).symm.trans h
      refine aw_aload_n 79 d_Wa_leastRow_78 rfl rfl ?_
      refine aw_aload_n 80 d_Wa_leastRow_79 rfl rfl ?_
      obtain ⟨y80, h80, h⟩ := bnd h
      refine aw_getR 83 d_Wa_leastRow_80 rfl fg_Wa_17 rfl h80 ?_
      refine aw_iconst (v := (0 : Int32)) 84 d_Wa_leastRow_83 rfl (by decide) ?_
      obtain ⟨y84, h84, h⟩ := bnd h
      refine aw_iald 85 d_Wa_leastRow_84 rfl h84 ?_
      obtain ⟨μ85, h85, h⟩ := bnd h
      refine aw_putI 88 false d_Wa_leastRow_85 rfl fp_Wa_101 (fun z => nomatch z) rfl h85 ?_
      refine aw_aload_n 89 d_Wa_leastRow_88 rfl rfl ?_
      obtain ⟨y89, h89, h⟩ := bnd h
      refine aw_getI 92 d_Wa_leastRow_89 rfl fg_Wa_101 (Or.inl rfl) h89 ?_
      refine aw_ldc (v := (2147483647 : Int32)) 94 d_Wa_leastRow_92 rfl c_Wa_66 ?_
      refine aw_icmp_eq 108 97 d_Wa_leastRow_94 (by decide) rfl (fun c94 => ?_) (fun c94 => ?_)
      · have h := (if_pos c94).symm.trans h
        refine aw_iconst (v := (0 : Int32)) 109 d_Wa_leastRow_108 rfl (by decide) ?_
        cases h
        exact aw_ireturn d_Wa_leastRow_109 rfl nar0
      · have h := (if_neg c94).symm.trans h
        refine aw_aload_n 98 d_Wa_leastRow_97 rfl rfl ?_
        obtain ⟨q98, h98, h⟩ := bnd h
        refine aw_invV (rest := []) (st' := [.int q98.1]) (As := []) 101 d_Wa_leastRow_98 rfl lv_Wa_104 (m_Wa_follow h98) (by decide) (k_Wa_follow h98) rfl rfl rfl (Nat.le_of_ble_eq_true rfl) rfl ?_
        refine aw_if_eq 108 104 d_Wa_leastRow_101 (by decide) rfl (fun c101 => ?_) (fun c101 => ?_)
        · have h := (if_pos c101).symm.trans h
          refine aw_iconst (v := (0 : Int32)) 109 d_Wa_leastRow_108 rfl (by decide) ?_
          cases h
          exact aw_ireturn d_Wa_leastRow_109 rfl nar0
        · have h := (if_neg c101).symm.trans h
          refine aw_iconst (v := (1 : Int32)) 105 d_Wa_leastRow_104 rfl (by decide) ?_
          refine aw_goto 109 d_Wa_leastRow_105 (by decide) ?_
          cases h
          exact aw_ireturn d_Wa_leastRow_109 rfl nar1
    · have h := (if_neg c45).symm.trans h
      refine aw_iconst (v := (0 : Int32)) 49 d_Wa_leastRow_48 rfl (by decide) ?_
      refine aw_istore (loc' := [some (.ref a0), none, none, some (.int x3), some (.int (0 : Int32))]) 51 d_Wa_leastRow_49 rfl (by decide) rfl ?_
      exact (l_Wa_leastRow_51 ih FU _ _ h)
theorem m_Wa_leastRow {l : Launch} {q : Int32 × MM} {a0 : Nat} {x1 : Int32} {μ : MM} (h : f_Wa_leastRow a0 x1 μ = some q) : AMet l 6 Y_Wa_leastRow [.ref a0, .int x1] μ (some (.int q.1)) q.2 := by
  refine AMet.of (loc := [some (.ref a0), some (.int x1), none, none, none]) pn_Wa_leastRow (Nat.le_of_ble_eq_true rfl) rfl ?_
  unfold f_Wa_leastRow at h
  obtain ⟨_, hk, h⟩ := bnd h
  refine aw_aload_n 1 d_Wa_leastRow_0 rfl rfl ?_
  refine aw_aload_n 2 d_Wa_leastRow_1 rfl rfl ?_
  obtain ⟨y2, h2, h⟩ := bnd h
  refine aw_getI 5 d_Wa_leastRow_2 rfl fg_Wa_45 (Or.inl rfl) h2 ?_
  refine aw_iconst (v := (0 : Int32)) 6 d_Wa_leastRow_5 rfl (by decide) ?_
  obtain ⟨y6, h6, h⟩ := bnd h
  refine aw_invV (rest := []) (st' := [.int y6]) (As := [.int y2, .int (0 : Int32)]) 9 d_Wa_leastRow_6 rfl lv_Wa_84 (m_Wa_find h6) (by decide) (k_Wa_find h6) rfl rfl rfl (Nat.le_of_ble_eq_true rfl) rfl ?_
  refine aw_istore_n (loc' := [some (.ref a0), some (.int x1), some (.int y6), none, none]) 10 d_Wa_leastRow_9 rfl (by decide) rfl ?_
  refine aw_iload_n 11 d_Wa_leastRow_10 rfl rfl ?_
  refine aw_iconst (v := (-1 : Int32)) 12 d_Wa_leastRow_11 rfl (by decide) ?_
  refine aw_icmp_ne 17 15 d_Wa_leastRow_12 (by decide) rfl (fun c12 => ?_) (fun c12 => ?_)
  · have h := (if_neg c12).symm.trans h
    refine aw_aload_n 18 d_Wa_leastRow_17 rfl rfl ?_
    refine aw_iload_n 19 d_Wa_leastRow_18 rfl rfl ?_
    obtain ⟨μ19, h19, h⟩ := bnd h
    refine aw_invV (rest := []) (st' := []) (As := [.int x1]) 22 d_Wa_leastRow_19 rfl lv_Wa_87 (m_Wa_price h19) (by decide) (k_Wa_price h19) rfl rfl rfl (Nat.le_of_ble_eq_true rfl) rfl ?_
    refine aw_aload_n 23 d_Wa_leastRow_22 rfl rfl ?_
    obtain ⟨y23, h23, h⟩ := bnd h
    refine aw_getR 26 d_Wa_leastRow_23 rfl fg_Wa_17 rfl h23 ?_
    refine aw_ldc (v := (2147483647 : Int32)) 28 d_Wa_leastRow_26 rfl c_Wa_66 ?_
    obtain ⟨μ28, h28, h⟩ := bnd h
    refine aw_invS (rest := []) (st' := []) (As := [.ref y23, .int (2147483647 : Int32)]) 31 d_Wa_leastRow_28 rfl ls_Wa_91 (m_Ar_fill_AI h28) (by decide) rfl rfl (Nat.le_of_ble_eq_true rfl) rfl ?_
    refine aw_aload_n 32 d_Wa_leastRow_31 rfl rfl ?_
    obtain ⟨y32, h32, h⟩ := bnd h
    refine aw_getR 35 d_Wa_leastRow_32 rfl fg_Wa_17 rfl h32 ?_
    refine aw_iload_n 36 d_Wa_leastRow_35 rfl rfl ?_
    refine aw_iconst (v := (0 : Int32)) 37 d_Wa_leastRow_36 rfl (by decide) ?_
    obtain ⟨μ37, h37, h⟩ := bnd h
    refine aw_iast 38 d_Wa_leastRow_37 rfl h37 ?_
    refine aw_aload_n 39 d_Wa_leastRow_38 rfl rfl ?_
    obtain ⟨y39, h39, h⟩ := bnd h
    refine aw_getI 42 d_Wa_leastRow_39 rfl fg_Wa_45 (Or.inl rfl) h39 ?_
    refine aw_istore_n (loc' := [some (.ref a0), some (.int x1), some (.int y6), some (.int y39), none]) 43 d_Wa_leastRow_42 rfl (by decide) rfl ?_
    exact AW.wk [true, false, false, true, true] rfl (l_Wa_leastRow_43 FU _ _ h)
  · have h := (if_pos c12).symm.trans h
    refine aw_iconst (v := (0 : Int32)) 16 d_Wa_leastRow_15 rfl (by decide) ?_
    cases h
    exact aw_ireturn d_Wa_leastRow_16 rfl nar0
theorem k_Wa_leastRow {q : Int32 × MM} {a0 : Nat} {x1 : Int32} {μ : MM} (h : f_Wa_leastRow a0 x1 μ = some q) : μ.1[a0]? = some (0, 11) := by
  unfold f_Wa_leastRow at h
  obtain ⟨_, h1, _⟩ := bnd h
  exact kO_some h1
theorem j_Wa_told_20 {l : Launch} {μ0 : MM} {q : Int32} {a0 : Nat} {μ : MM} (h : f_Wa_told_J20 a0 μ = some q) : AWm l Y_Wa_told 1 μ0 (some (.int q)) μ 20 [some (.ref a0), none] [] μ := by
  unfold f_Wa_told_J20 at h
  refine aw_aload_n 21 d_Wa_told_20 rfl rfl ?_
  obtain ⟨y21, h21, h⟩ := bnd h
  refine aw_getI 24 d_Wa_told_21 rfl fg_Wa_101 (Or.inl rfl) h21 ?_
  cases h
  exact aw_ireturn d_Wa_told_24 rfl rfl
theorem m_Wa_told {l : Launch} {q : Int32} {a0 : Nat} {x1 : Int32} {μ : MM} (h : f_Wa_told a0 x1 μ = some q) : AMet l 1 Y_Wa_told [.ref a0, .int x1] μ (some (.int q)) μ := by
  refine AMet.of (loc := [some (.ref a0), some (.int x1)]) pn_Wa_told (Nat.le_of_ble_eq_true rfl) rfl ?_
  unfold f_Wa_told at h
  obtain ⟨_, hk, h⟩ := bnd h
  refine aw_iload_n 1 d_Wa_told_0 rfl rfl ?_
  refine aw_iconst (v := (1 : Int32)) 2 d_Wa_told_1 rfl (by decide) ?_
  refine aw_icmp_lt 20 5 d_Wa_told_2 (by decide) rfl (fun c2 => ?_) (fun c2 => ?_)
  · have h := (if_pos c2).symm.trans h
    exact AW.wk [true, false] rfl (j_Wa_told_20 h)
  · have h := (if_neg c2).symm.trans h
    refine aw_iload_n 6 d_Wa_told_5 rfl rfl ?_
    refine aw_bipush (v := (24 : Int32)) 8 d_Wa_told_6 rfl (by decide) ?_
    refine aw_icmp_ge 20 11 d_Wa_told_8 (by decide) rfl (fun c8 => ?_) (fun c8 => ?_)
    · have h := (if_pos c8).symm.trans h
      exact AW.wk [true, false] rfl (j_Wa_told_20 h)
    · have h := (if_neg c8).symm.trans h
      refine aw_aload_n 12 d_Wa_told_11 rfl rfl ?_
      obtain ⟨y12, h12, h⟩ := bnd h
      refine aw_getR 15 d_Wa_told_12 rfl fg_Wa_32 rfl h12 ?_
      refine aw_iload_n 16 d_Wa_told_15 rfl rfl ?_
      obtain ⟨y16, h16, h⟩ := bnd h
      refine aw_iald 17 d_Wa_told_16 rfl h16 ?_
      refine aw_goto 24 d_Wa_told_17 (by decide) ?_
      cases h
      exact aw_ireturn d_Wa_told_24 rfl rfl
theorem k_Wa_told {q : Int32} {a0 : Nat} {x1 : Int32} {μ : MM} (h : f_Wa_told a0 x1 μ = some q) : μ.1[a0]? = some (0, 11) := by
  unfold f_Wa_told at h
  obtain ⟨_, h1, _⟩ := bnd h
  exact kO_some h1
theorem m_X_way {l : Launch} {q : Int32 × MM} {a0 : Nat} {x1 : Int32} {μ : MM} (h : f_X_way a0 x1 μ = some q) : AMet l 7 Y_X_way [.ref a0, .int x1] μ (some (.int q.1)) q.2 := by
  refine AMet.of (loc := [some (.ref a0), some (.int x1), none]) pn_X_way (Nat.le_of_ble_eq_true rfl) rfl ?_
  unfold f_X_way at h
  obtain ⟨_, hk, h⟩ := bnd h
  refine aw_aload_n 1 d_X_way_0 rfl rfl ?_
  refine aw_iload_n 2 d_X_way_1 rfl rfl ?_
  obtain ⟨y2, h2, h⟩ := bnd h
  refine aw_invV (rest := []) (st' := [.int y2]) (As := [.int x1]) 5 d_X_way_2 rfl lv_X_142 (m_X_asksRow h2) (by decide) (k_X_asksRow h2) rfl rfl rfl (Nat.le_of_ble_eq_true rfl) rfl ?_
  refine aw_if_ne 11 8 d_X_way_5 (by decide) rfl (fun c5 => ?_) (fun c5 => ?_)
  · have h := (if_neg c5).symm.trans h
    refine aw_aload_n 12 d_X_way_11 rfl rfl ?_
    obtain ⟨q12, h12, h⟩ := bnd h
    refine aw_invV (rest := []) (st' := [va_rf q12.1]) (As := []) 15 d_X_way_12 rfl lv_X_146 (m_X_explored h12) (by decide) (k_X_explored h12) rfl rfl rfl (Nat.le_of_ble_eq_true rfl) rfl ?_
    refine aw_astore_nq (loc' := [some (.ref a0), some (.int x1), some (va_rf q12.1)]) 16 d_X_way_15 rfl (by decide) rfl ?_
    refine aw_aload_nq 17 d_X_way_16 rfl rfl ?_
    refine aw_ifnull 36 20 d_X_way_17 (by decide) rfl (fun c17 => ?_) (fun z17 c17 => ?_)
    · have h := elim_n c17 h
      refine aw_bipush (v := (-2 : Int32)) 38 d_X_way_36 rfl (by decide) ?_
      cases h
      exact aw_ireturn d_X_way_38 rfl rfl
    · have h := elim_s c17 h
      try rw [c17]
      refine aw_aload_n 21 d_X_way_20 rfl rfl ?_
      refine aw_iconst (v := (0 : Int32)) 22 d_X_way_21 rfl (by decide) ?_
      obtain ⟨q22, h22, h⟩ := bnd h
      refine aw_invV (rest := []) (st' := [.int q22.1]) (As := [.int (0 : Int32)]) 25 d_X_way_22 rfl lv_X_150 (m_Wa_leastRow h22) (by decide) (k_Wa_leastRow h22) rfl rfl rfl (Nat.le_of_ble_eq_true rfl) rfl ?_
      refine aw_if_eq 36 28 d_X_way_25 (by decide) rfl (fun c25 => ?_) (fun c25 => ?_)
      · have h := (if_pos c25).symm.trans h
        refine aw_bipush (v := (-2 : Int32)) 38 d_X_way_36 rfl (by decide) ?_
        cases h
        exact aw_ireturn d_X_way_38 rfl rfl
      · have h := (if_neg c25).symm.trans h
        refine aw_aload_n 29 d_X_way_28 rfl rfl ?_
        refine aw_iload_n 30 d_X_way_29 rfl rfl ?_
        obtain ⟨y30, h30, h⟩ := bnd h
        refine aw_invV (rest := []) (st' := [.int y30]) (As := [.int x1]) 33 d_X_way_30 rfl lv_X_156 (m_Wa_told h30) (by decide) (k_Wa_told h30) rfl rfl rfl (Nat.le_of_ble_eq_true rfl) rfl ?_
        refine aw_goto 38 d_X_way_33 (by decide) ?_
        cases h
        exact aw_ireturn d_X_way_38 rfl rfl
  · have h := (if_pos c5).symm.trans h
    refine aw_ldc (v := (-1000000000 : Int32)) 10 d_X_way_8 rfl c_X_102 ?_
    cases h
    exact aw_ireturn d_X_way_10 rfl rfl
theorem k_X_way {q : Int32 × MM} {a0 : Nat} {x1 : Int32} {μ : MM} (h : f_X_way a0 x1 μ = some q) : μ.1[a0]? = some (0, 0) := by
  unfold f_X_way at h
  obtain ⟨_, h1, _⟩ := bnd h
  exact kO_some h1
theorem l_M_placeOf_3 {l : Launch} {μ0 : MM} {q : Int32 × MM} {a0 : Nat} {x1 : Int32} {x2 : Int32} {x3 : Int32} {x4 : Int32} {μ : MM} : ∀ (n : Nat) (x5 : Int32), f_M_placeOf_L3 a0 x1 x2 x3 x4 μ n x5 = some q → AWm l Y_M_placeOf 1 μ0 (some (.int q.1)) q.2 3 [some (.ref a0), some (.int x1), some (.int x2), some (.int x3), some (.int x4), some (.int x5), none] [] μ := by
  intro n
  induction n with
  | zero =>
    intro x5 h
    have h : (none : Option (Int32 × MM)) = some q := h
    cases h
  | succ n ih =>
    intro x5 h
    rw [f_M_placeOf_L3] at h
    refine aw_iload 5 d_M_placeOf_3 rfl rfl ?_
    refine aw_aload_n 6 d_M_placeOf_5 rfl rfl ?_
    obtain ⟨y6, h6, h⟩ := bnd h
    refine aw_getR 9 d_M_placeOf_6 rfl fg_M_33 rfl h6 ?_
    refine aw_iload_n 10 d_M_placeOf_9 rfl rfl ?_
    obtain ⟨y10, h10, h⟩ := bnd h
    refine aw_iald 11 d_M_placeOf_10 rfl h10 ?_
    refine aw_icmp_ge 67 14 d_M_placeOf_11 (by decide) rfl (fun c11 => ?_) (fun c11 => ?_)
    · have h := (if_pos c11).symm.trans h
      refine aw_aload_n 68 d_M_placeOf_67 rfl rfl ?_
      obtain ⟨y68, h68, h⟩ := bnd h
      refine aw_getR 71 d_M_placeOf_68 rfl fg_M_33 rfl h68 ?_
      refine aw_iload_n 72 d_M_placeOf_71 rfl rfl ?_
      obtain ⟨y72, h72, h⟩ := bnd h
      refine aw_iald 73 d_M_placeOf_72 rfl h72 ?_
      refine aw_sipush (v := (300 : Int32)) 76 d_M_placeOf_73 rfl (by decide) ?_
      refine aw_icmp_ne 81 79 d_M_placeOf_76 (by decide) rfl (fun c76 => ?_) (fun c76 => ?_)
      · have h := (if_neg c76).symm.trans h
        refine aw_sipush (v := (300 : Int32)) 84 d_M_placeOf_81 rfl (by decide) ?_
        refine aw_iload_n 85 d_M_placeOf_84 rfl rfl ?_
        refine aw_imul 86 d_M_placeOf_85 rfl ?_
        refine aw_aload_n 87 d_M_placeOf_86 rfl rfl ?_
        obtain ⟨y87, h87, h⟩ := bnd h
        refine aw_getR 90 d_M_placeOf_87 rfl fg_M_33 rfl h87 ?_
        refine aw_iload_n 91 d_M_placeOf_90 rfl rfl ?_
        obtain ⟨y91, h91, h⟩ := bnd h
        refine aw_iald 92 d_M_placeOf_91 rfl h91 ?_
        refine aw_iadd 93 d_M_placeOf_92 rfl ?_
        refine aw_istore (loc' := [some (.ref a0), some (.int x1), some (.int x2), some (.int x3), some (.int x4), some (.int (((300 : Int32) * x1) + y91)), none]) 95 d_M_placeOf_93 rfl (by decide) rfl ?_
        refine aw_aload_n 96 d_M_placeOf_95 rfl rfl ?_
        obtain ⟨y96, h96, h⟩ := bnd h
        refine aw_getR 99 d_M_placeOf_96 rfl fg_M_36 rfl h96 ?_
        refine aw_iload 101 d_M_placeOf_99 rfl rfl ?_
        refine aw_iload_n 102 d_M_placeOf_101 rfl rfl ?_
        obtain ⟨μ102, h102, h⟩ := bnd h
        refine aw_iast 103 d_M_placeOf_102 rfl h102 ?_
        refine aw_aload_n 104 d_M_placeOf_103 rfl rfl ?_
        obtain ⟨y104, h104, h⟩ := bnd h
        refine aw_getR 107 d_M_placeOf_104 rfl fg_M_39 rfl h104 ?_
        refine aw_iload 109 d_M_placeOf_107 rfl rfl ?_
        refine aw_iload_n 110 d_M_placeOf_109 rfl rfl ?_
        obtain ⟨μ110, h110, h⟩ := bnd h
        refine aw_iast 111 d_M_placeOf_110 rfl h110 ?_
        refine aw_aload_n 112 d_M_placeOf_111 rfl rfl ?_
        obtain ⟨y112, h112, h⟩ := bnd h
        refine aw_getR 115 d_M_placeOf_112 rfl fg_M_42 rfl h112 ?_
        refine aw_iload 117 d_M_placeOf_115 rfl rfl ?_
        refine aw_iload 119 d_M_placeOf_117 rfl rfl ?_
        obtain ⟨μ119, h119, h⟩ := bnd h
        refine aw_iast 120 d_M_placeOf_119 rfl h119 ?_
        refine aw_aload_n 121 d_M_placeOf_120 rfl rfl ?_
        obtain ⟨y121, h121, h⟩ := bnd h
        refine aw_getR 124 d_M_placeOf_121 rfl fg_M_33 rfl h121 ?_
        refine aw_iload_n 125 d_M_placeOf_124 rfl rfl ?_
        refine aw_dup2 126 d_M_placeOf_125 rfl rfl rfl ?_
        obtain ⟨y126, h126, h⟩ := bnd h
        refine aw_iald 127 d_M_placeOf_126 rfl h126 ?_
        refine aw_iconst (v := (1 : Int32)) 128 d_M_placeOf_127 rfl (by decide) ?_
        refine aw_iadd 129 d_M_placeOf_128 rfl ?_
        obtain ⟨μ129, h129, h⟩ := bnd h
        refine aw_iast 130 d_M_placeOf_129 rfl h129 ?_
        refine aw_aload_n 131 d_M_placeOf_130 rfl rfl ?_
        obtain ⟨y131, h131, h⟩ := bnd h
        refine aw_getR 134 d_M_placeOf_131 rfl fg_M_33 rfl h131 ?_
        refine aw_iload_n 135 d_M_placeOf_134 rfl rfl ?_
        obtain ⟨y135, h135, h⟩ := bnd h
        refine aw_iald 136 d_M_placeOf_135 rfl h135 ?_
        refine aw_iconst (v := (1 : Int32)) 137 d_M_placeOf_136 rfl (by decide) ?_
        refine aw_isub 138 d_M_placeOf_137 rfl ?_
        cases h
        exact aw_ireturn d_M_placeOf_138 rfl rfl
      · have h := (if_pos c76).symm.trans h
        refine aw_iconst (v := (-1 : Int32)) 80 d_M_placeOf_79 rfl (by decide) ?_
        cases h
        exact aw_ireturn d_M_placeOf_80 rfl rfl
    · have h := (if_neg c11).symm.trans h
      refine aw_sipush (v := (300 : Int32)) 17 d_M_placeOf_14 rfl (by decide) ?_
      refine aw_iload_n 18 d_M_placeOf_17 rfl rfl ?_
      refine aw_imul 19 d_M_placeOf_18 rfl ?_
      refine aw_iload 21 d_M_placeOf_19 rfl rfl ?_
      refine aw_iadd 22 d_M_placeOf_21 rfl ?_
      refine aw_istore (loc' := [some (.ref a0), some (.int x1), some (.int x2), some (.int x3), some (.int x4), some (.int x5), some (.int (((300 : Int32) * x1) + x5))]) 24 d_M_placeOf_22 rfl (by decide) rfl ?_
      refine aw_aload_n 25 d_M_placeOf_24 rfl rfl ?_
      obtain ⟨y25, h25, h⟩ := bnd h
      refine aw_getR 28 d_M_placeOf_25 rfl fg_M_36 rfl h25 ?_
      refine aw_iload 30 d_M_placeOf_28 rfl rfl ?_
      obtain ⟨y30, h30, h⟩ := bnd h
      refine aw_iald 31 d_M_placeOf_30 rfl h30 ?_
      refine aw_iload_n 32 d_M_placeOf_31 rfl rfl ?_
      refine aw_icmp_ne 61 35 d_M_placeOf_32 (by decide) rfl (fun c32 => ?_) (fun c32 => ?_)
      · have h := (if_neg c32).symm.trans h
        refine aw_iinc (v := (x5 + (1 : Int32))) (loc' := [some (.ref a0), some (.int x1), some (.int x2), some (.int x3), some (.int x4), some (.int (x5 + (1 : Int32))), some (.int (((300 : Int32) * x1) + x5))]) 64 d_M_placeOf_61 rfl (by decide) rfl rfl rfl ?_
        refine aw_goto 3 d_M_placeOf_64 (by decide) ?_
        exact AW.wk [true, true, true, true, true, true, false] rfl (ih (x5 + (1 : Int32)) h)
      · have h := (if_pos c32).symm.trans h
        refine aw_aload_n 36 d_M_placeOf_35 rfl rfl ?_
        obtain ⟨y36, h36, h⟩ := bnd h
        refine aw_getR 39 d_M_placeOf_36 rfl fg_M_39 rfl h36 ?_
        refine aw_iload 41 d_M_placeOf_39 rfl rfl ?_
        obtain ⟨y41, h41, h⟩ := bnd h
        refine aw_iald 42 d_M_placeOf_41 rfl h41 ?_
        refine aw_iload_n 43 d_M_placeOf_42 rfl rfl ?_
        refine aw_icmp_ne 61 46 d_M_placeOf_43 (by decide) rfl (fun c43 => ?_) (fun c43 => ?_)
        · have h := (if_neg c43).symm.trans h
          refine aw_iinc (v := (x5 + (1 : Int32))) (loc' := [some (.ref a0), some (.int x1), some (.int x2), some (.int x3), some (.int x4), some (.int (x5 + (1 : Int32))), some (.int (((300 : Int32) * x1) + x5))]) 64 d_M_placeOf_61 rfl (by decide) rfl rfl rfl ?_
          refine aw_goto 3 d_M_placeOf_64 (by decide) ?_
          exact AW.wk [true, true, true, true, true, true, false] rfl (ih (x5 + (1 : Int32)) h)
        · have h := (if_pos c43).symm.trans h
          refine aw_aload_n 47 d_M_placeOf_46 rfl rfl ?_
          obtain ⟨y47, h47, h⟩ := bnd h
          refine aw_getR 50 d_M_placeOf_47 rfl fg_M_42 rfl h47 ?_
          refine aw_iload 52 d_M_placeOf_50 rfl rfl ?_
          obtain ⟨y52, h52, h⟩ := bnd h
          refine aw_iald 53 d_M_placeOf_52 rfl h52 ?_
          refine aw_iload 55 d_M_placeOf_53 rfl rfl ?_
          refine aw_icmp_ne 61 58 d_M_placeOf_55 (by decide) rfl (fun c55 => ?_) (fun c55 => ?_)
          · have h := (if_neg c55).symm.trans h
            refine aw_iinc (v := (x5 + (1 : Int32))) (loc' := [some (.ref a0), some (.int x1), some (.int x2), some (.int x3), some (.int x4), some (.int (x5 + (1 : Int32))), some (.int (((300 : Int32) * x1) + x5))]) 64 d_M_placeOf_61 rfl (by decide) rfl rfl rfl ?_
            refine aw_goto 3 d_M_placeOf_64 (by decide) ?_
            exact AW.wk [true, true, true, true, true, true, false] rfl (ih (x5 + (1 : Int32)) h)
          · have h := (if_pos c55).symm.trans h
            refine aw_iload 60 d_M_placeOf_58 rfl rfl ?_
            cases h
            exact aw_ireturn d_M_placeOf_60 rfl rfl
theorem m_M_placeOf {l : Launch} {q : Int32 × MM} {a0 : Nat} {x1 : Int32} {x2 : Int32} {x3 : Int32} {x4 : Int32} {μ : MM} (h : f_M_placeOf a0 x1 x2 x3 x4 μ = some q) : AMet l 1 Y_M_placeOf [.ref a0, .int x1, .int x2, .int x3, .int x4] μ (some (.int q.1)) q.2 := by
  refine AMet.of (loc := [some (.ref a0), some (.int x1), some (.int x2), some (.int x3), some (.int x4), none, none]) pn_M_placeOf (Nat.le_of_ble_eq_true rfl) rfl ?_
  unfold f_M_placeOf at h
  obtain ⟨_, hk, h⟩ := bnd h
  refine aw_iconst (v := (0 : Int32)) 1 d_M_placeOf_0 rfl (by decide) ?_
  refine aw_istore (loc' := [some (.ref a0), some (.int x1), some (.int x2), some (.int x3), some (.int x4), some (.int (0 : Int32)), none]) 3 d_M_placeOf_1 rfl (by decide) rfl ?_
  exact (l_M_placeOf_3 FU _ h)
theorem k_M_placeOf {q : Int32 × MM} {a0 : Nat} {x1 : Int32} {x2 : Int32} {x3 : Int32} {x4 : Int32} {μ : MM} (h : f_M_placeOf a0 x1 x2 x3 x4 μ = some q) : μ.1[a0]? = some (0, 1) := by
  unfold f_M_placeOf at h
  obtain ⟨_, h1, _⟩ := bnd h
  exact kO_some h1
theorem m_M_mayLink {l : Launch} {q : Int32} {a0 : Nat} {x1 : Int32} {x2 : Int32} {μ : MM} (h : f_M_mayLink a0 x1 x2 μ = some q) : AMet l 5 Y_M_mayLink [.ref a0, .int x1, .int x2] μ (some (.int q)) μ := by
  refine AMet.of (loc := [some (.ref a0), some (.int x1), some (.int x2)]) pn_M_mayLink (Nat.le_of_ble_eq_true rfl) rfl ?_
  unfold f_M_mayLink at h
  obtain ⟨_, hk, h⟩ := bnd h
  refine aw_iload_n 1 d_M_mayLink_0 rfl rfl ?_
  refine aw_iconst (v := (-1 : Int32)) 2 d_M_mayLink_1 rfl (by decide) ?_
  refine aw_icmp_eq 14 5 d_M_mayLink_2 (by decide) rfl (fun c2 => ?_) (fun c2 => ?_)
  · have h := (if_pos c2).symm.trans h
    refine aw_iconst (v := (1 : Int32)) 15 d_M_mayLink_14 rfl (by decide) ?_
    refine aw_goto 19 d_M_mayLink_15 (by decide) ?_
    cases h
    exact aw_ireturn d_M_mayLink_19 rfl nar1
  · have h := (if_neg c2).symm.trans h
    refine aw_aload_n 6 d_M_mayLink_5 rfl rfl ?_
    refine aw_iload_n 7 d_M_mayLink_6 rfl rfl ?_
    refine aw_iload_n 8 d_M_mayLink_7 rfl rfl ?_
    obtain ⟨y8, h8, h⟩ := bnd h
    refine aw_invV (rest := []) (st' := [.int y8]) (As := [.int x2, .int x1]) 11 d_M_mayLink_8 rfl lv_M_193 (m_M_isHeld h8) (by decide) (k_M_isHeld h8) rfl rfl rfl (Nat.le_of_ble_eq_true rfl) rfl ?_
    refine aw_if_eq 18 14 d_M_mayLink_11 (by decide) rfl (fun c11 => ?_) (fun c11 => ?_)
    · have h := (if_pos c11).symm.trans h
      refine aw_iconst (v := (0 : Int32)) 19 d_M_mayLink_18 rfl (by decide) ?_
      cases h
      exact aw_ireturn d_M_mayLink_19 rfl nar0
    · have h := (if_neg c11).symm.trans h
      refine aw_iconst (v := (1 : Int32)) 15 d_M_mayLink_14 rfl (by decide) ?_
      refine aw_goto 19 d_M_mayLink_15 (by decide) ?_
      cases h
      exact aw_ireturn d_M_mayLink_19 rfl nar1
theorem k_M_mayLink {q : Int32} {a0 : Nat} {x1 : Int32} {x2 : Int32} {μ : MM} (h : f_M_mayLink a0 x1 x2 μ = some q) : μ.1[a0]? = some (0, 1) := by
  unfold f_M_mayLink at h
  obtain ⟨_, h1, _⟩ := bnd h
  exact kO_some h1
theorem m_M_nextOf {l : Launch} {q : Int32 × MM} {a0 : Nat} {x1 : Int32} {x2 : Int32} {x3 : Int32} {μ : MM} (h : f_M_nextOf a0 x1 x2 x3 μ = some q) : AMet l 3 Y_M_nextOf [.ref a0, .int x1, .int x2, .int x3] μ (some (.int q.1)) q.2 := by
  refine AMet.of (loc := [some (.ref a0), some (.int x1), some (.int x2), some (.int x3), none]) pn_M_nextOf (Nat.le_of_ble_eq_true rfl) rfl ?_
  unfold f_M_nextOf at h
  obtain ⟨_, hk, h⟩ := bnd h
  refine aw_sipush (v := (300 : Int32)) 3 d_M_nextOf_0 rfl (by decide) ?_
  refine aw_iload_n 4 d_M_nextOf_3 rfl rfl ?_
  refine aw_iconst (v := (1 : Int32)) 5 d_M_nextOf_4 rfl (by decide) ?_
  refine aw_isub 6 d_M_nextOf_5 rfl ?_
  refine aw_imul 7 d_M_nextOf_6 rfl ?_
  refine aw_iload_n 8 d_M_nextOf_7 rfl rfl ?_
  refine aw_iadd 9 d_M_nextOf_8 rfl ?_
  refine aw_istore (loc' := [some (.ref a0), some (.int x1), some (.int x2), some (.int x3), some (.int (((300 : Int32) * (x1 - (1 : Int32))) + x2))]) 11 d_M_nextOf_9 rfl (by decide) rfl ?_
  refine aw_aload_n 12 d_M_nextOf_11 rfl rfl ?_
  refine aw_iload_n 13 d_M_nextOf_12 rfl rfl ?_
  refine aw_aload_n 14 d_M_nextOf_13 rfl rfl ?_
  obtain ⟨y14, h14, h⟩ := bnd h
  refine aw_getR 17 d_M_nextOf_14 rfl fg_M_36 rfl h14 ?_
  refine aw_iload 19 d_M_nextOf_17 rfl rfl ?_
  obtain ⟨y19, h19, h⟩ := bnd h
  refine aw_iald 20 d_M_nextOf_19 rfl h19 ?_
  refine aw_aload_n 21 d_M_nextOf_20 rfl rfl ?_
  refine aw_aload_n 22 d_M_nextOf_21 rfl rfl ?_
  obtain ⟨y22, h22, h⟩ := bnd h
  refine aw_getR 25 d_M_nextOf_22 rfl fg_M_17 rfl h22 ?_
  refine aw_iload_n 26 d_M_nextOf_25 rfl rfl ?_
  refine aw_iload_n 27 d_M_nextOf_26 rfl rfl ?_
  obtain ⟨y27, h27, h⟩ := bnd h
  refine aw_invV (rest := [.int y19, .int x1, .ref a0]) (st' := [.int y27, .int y19, .int x1, .ref a0]) (As := [.ref y22, .int x3, .int x1]) 30 d_M_nextOf_27 rfl lv_M_211 (m_M_leap h27) (by decide) (k_M_leap h27) rfl rfl rfl (Nat.le_of_ble_eq_true rfl) rfl ?_
  refine aw_iadd 31 d_M_nextOf_30 rfl ?_
  refine aw_aload_n 32 d_M_nextOf_31 rfl rfl ?_
  obtain ⟨y32, h32, h⟩ := bnd h
  refine aw_getR 35 d_M_nextOf_32 rfl fg_M_39 rfl h32 ?_
  refine aw_iload 37 d_M_nextOf_35 rfl rfl ?_
  obtain ⟨y37, h37, h⟩ := bnd h
  refine aw_iald 38 d_M_nextOf_37 rfl h37 ?_
  refine aw_aload_n 39 d_M_nextOf_38 rfl rfl ?_
  refine aw_aload_n 40 d_M_nextOf_39 rfl rfl ?_
  obtain ⟨y40, h40, h⟩ := bnd h
  refine aw_getR 43 d_M_nextOf_40 rfl fg_M_20 rfl h40 ?_
  refine aw_iload_n 44 d_M_nextOf_43 rfl rfl ?_
  refine aw_iload_n 45 d_M_nextOf_44 rfl rfl ?_
  obtain ⟨y45, h45, h⟩ := bnd h
  refine aw_invV (rest := [.int y37, .int (y19 + y27), .int x1, .ref a0]) (st' := [.int y45, .int y37, .int (y19 + y27), .int x1, .ref a0]) (As := [.ref y40, .int x3, .int x1]) 48 d_M_nextOf_45 rfl lv_M_211 (m_M_leap h45) (by decide) (k_M_leap h45) rfl rfl rfl (Nat.le_of_ble_eq_true rfl) rfl ?_
  refine aw_iadd 49 d_M_nextOf_48 rfl ?_
  refine aw_aload_n 50 d_M_nextOf_49 rfl rfl ?_
  obtain ⟨y50, h50, h⟩ := bnd h
  refine aw_getR 53 d_M_nextOf_50 rfl fg_M_42 rfl h50 ?_
  refine aw_iload 55 d_M_nextOf_53 rfl rfl ?_
  obtain ⟨y55, h55, h⟩ := bnd h
  refine aw_iald 56 d_M_nextOf_55 rfl h55 ?_
  refine aw_aload_n 57 d_M_nextOf_56 rfl rfl ?_
  refine aw_aload_n 58 d_M_nextOf_57 rfl rfl ?_
  obtain ⟨y58, h58, h⟩ := bnd h
  refine aw_getR 61 d_M_nextOf_58 rfl fg_M_23 rfl h58 ?_
  refine aw_iload_n 62 d_M_nextOf_61 rfl rfl ?_
  refine aw_iload_n 63 d_M_nextOf_62 rfl rfl ?_
  obtain ⟨y63, h63, h⟩ := bnd h
  refine aw_invV (rest := [.int y55, .int (y37 + y45), .int (y19 + y27), .int x1, .ref a0]) (st' := [.int y63, .int y55, .int (y37 + y45), .int (y19 + y27), .int x1, .ref a0]) (As := [.ref y58, .int x3, .int x1]) 66 d_M_nextOf_63 rfl lv_M_211 (m_M_leap h63) (by decide) (k_M_leap h63) rfl rfl rfl (Nat.le_of_ble_eq_true rfl) rfl ?_
  refine aw_iadd 67 d_M_nextOf_66 rfl ?_
  obtain ⟨q67, h67, h⟩ := bnd h
  refine aw_invV (rest := []) (st' := [.int q67.1]) (As := [.int x1, .int (y19 + y27), .int (y37 + y45), .int (y55 + y63)]) 70 d_M_nextOf_67 rfl lv_M_242 (m_M_placeOf h67) (by decide) (k_M_placeOf h67) rfl rfl rfl (Nat.le_of_ble_eq_true rfl) rfl ?_
  cases h
  exact aw_ireturn d_M_nextOf_70 rfl rfl
theorem k_M_nextOf {q : Int32 × MM} {a0 : Nat} {x1 : Int32} {x2 : Int32} {x3 : Int32} {μ : MM} (h : f_M_nextOf a0 x1 x2 x3 μ = some q) : μ.1[a0]? = some (0, 1) := by
  unfold f_M_nextOf at h
  obtain ⟨_, h1, _⟩ := bnd h
  exact kO_some h1
theorem l_M_lays_55 {l : Launch} {μ0 : MM} {q : Int32 × MM} {a0 : Nat} {x1 : Int32} {x2 : Int32} {x3 : Int32} {x4 : Int32} {k31 : Int32 → MM → Option (Int32 × MM)} (hk31 : ∀ (x3 : Int32) (μ : MM), k31 x3 μ = some q → AWm l Y_M_lays 6 μ0 (some (.int q.1)) q.2 31 [some (.ref a0), some (.int x1), some (.int x2), some (.int x3), none, none] [] μ) {k39 : Int32 → MM → Option (Int32 × MM)} (hk39 : ∀ (x4 : Int32) (μ : MM), k39 x4 μ = some q → AWm l Y_M_lays 6 μ0 (some (.int q.1)) q.2 39 [some (.ref a0), some (.int x1), some (.int x2), some (.int x3), some (.int x4), none] [] μ) : ∀ (n : Nat) (x5 : Int32) (μ : MM), f_M_lays_L55 k31 k39 a0 x1 x2 x3 x4 n x5 μ = some q → AWm l Y_M_lays 6 μ0 (some (.int q.1)) q.2 55 [some (.ref a0), some (.int x1), some (.int x2), some (.int x3), some (.int x4), some (.int x5)] [] μ := by
  intro n
  induction n with
  | zero =>
    intro x5 μ h
    have h : (none : Option (Int32 × MM)) = some q := h
    cases h
  | succ n ih =>
    intro x5 μ h
    rw [f_M_lays_L55] at h
    refine aw_iload 57 d_M_lays_55 rfl rfl ?_
    refine aw_bipush (v := (6 : Int32)) 59 d_M_lays_57 rfl (by decide) ?_
    refine aw_icmp_ge 93 62 d_M_lays_59 (by decide) rfl (fun c59 => ?_) (fun c59 => ?_)
    · have h := (if_pos c59).symm.trans h
      refine aw_iinc (v := (x4 + (1 : Int32))) (loc' := [some (.ref a0), some (.int x1), some (.int x2), some (.int x3), some (.int (x4 + (1 : Int32))), some (.int x5)]) 96 d_M_lays_93 rfl (by decide) rfl rfl rfl ?_
      refine aw_goto 39 d_M_lays_96 (by decide) ?_
      exact AW.wk [true, true, true, true, true, false] rfl (hk39 (x4 + (1 : Int32)) μ h)
    · have h := (if_neg c59).symm.trans h
      refine aw_aload_n 63 d_M_lays_62 rfl rfl ?_
      refine aw_iload_n 64 d_M_lays_63 rfl rfl ?_
      refine aw_iload 66 d_M_lays_64 rfl rfl ?_
      obtain ⟨y66, h66, h⟩ := bnd h
      refine aw_invV (rest := []) (st' := [.int y66]) (As := [.int x3, .int x5]) 69 d_M_lays_66 rfl lv_M_246 (m_M_mayLink h66) (by decide) (k_M_mayLink h66) rfl rfl rfl (Nat.le_of_ble_eq_true rfl) rfl ?_
      refine aw_if_eq 87 72 d_M_lays_69 (by decide) rfl (fun c69 => ?_) (fun c69 => ?_)
      · have h := (if_pos c69).symm.trans h
        refine aw_iinc (v := (x5 + (1 : Int32))) (loc' := [some (.ref a0), some (.int x1), some (.int x2), some (.int x3), some (.int x4), some (.int (x5 + (1 : Int32)))]) 90 d_M_lays_87 rfl (by decide) rfl rfl rfl ?_
        refine aw_goto 55 d_M_lays_90 (by decide) ?_
        exact (ih (x5 + (1 : Int32)) μ h)
      · have h := (if_neg c69).symm.trans h
        refine aw_aload_n 73 d_M_lays_72 rfl rfl ?_
        refine aw_iload_n 74 d_M_lays_73 rfl rfl ?_
        refine aw_iload 76 d_M_lays_74 rfl rfl ?_
        refine aw_iload 78 d_M_lays_76 rfl rfl ?_
        obtain ⟨q78, h78, h⟩ := bnd h
        refine aw_invV (rest := []) (st' := [.int q78.1]) (As := [.int x3, .int x4, .int x5]) 81 d_M_lays_78 rfl lv_M_249 (m_M_nextOf h78) (by decide) (k_M_nextOf h78) rfl rfl rfl (Nat.le_of_ble_eq_true rfl) rfl ?_
        refine aw_iconst (v := (-1 : Int32)) 82 d_M_lays_81 rfl (by decide) ?_
        refine aw_icmp_ne 87 85 d_M_lays_82 (by decide) rfl (fun c82 => ?_) (fun c82 => ?_)
        · have h := (if_neg c82).symm.trans h
          refine aw_iinc (v := (x5 + (1 : Int32))) (loc' := [some (.ref a0), some (.int x1), some (.int x2), some (.int x3), some (.int x4), some (.int (x5 + (1 : Int32)))]) 90 d_M_lays_87 rfl (by decide) rfl rfl rfl ?_
          refine aw_goto 55 d_M_lays_90 (by decide) ?_
          exact (ih (x5 + (1 : Int32)) q78.2 h)
        · have h := (if_pos c82).symm.trans h
          refine aw_iconst (v := (0 : Int32)) 86 d_M_lays_85 rfl (by decide) ?_
          cases h
          exact aw_ireturn d_M_lays_86 rfl nar0
theorem l_M_lays_39 {l : Launch} {μ0 : MM} {q : Int32 × MM} {a0 : Nat} {x1 : Int32} {x2 : Int32} {x3 : Int32} {k31 : Int32 → MM → Option (Int32 × MM)} (hk31 : ∀ (x3 : Int32) (μ : MM), k31 x3 μ = some q → AWm l Y_M_lays 6 μ0 (some (.int q.1)) q.2 31 [some (.ref a0), some (.int x1), some (.int x2), some (.int x3), none, none] [] μ) : ∀ (n : Nat) (x4 : Int32) (μ : MM), f_M_lays_L39 k31 a0 x1 x2 x3 n x4 μ = some q → AWm l Y_M_lays 6 μ0 (some (.int q.1)) q.2 39 [some (.ref a0), some (.int x1), some (.int x2), some (.int x3), some (.int x4), none] [] μ := by
  intro n
  induction n with
  | zero =>
    intro x4 μ h
    have h : (none : Option (Int32 × MM)) = some q := h
    cases h
  | succ n ih =>
    intro x4 μ h
    rw [f_M_lays_L39] at h
    refine aw_iload 41 d_M_lays_39 rfl rfl ?_
    refine aw_aload_n 42 d_M_lays_41 rfl rfl ?_
    obtain ⟨y42, h42, h⟩ := bnd h
    refine aw_getR 45 d_M_lays_42 rfl fg_M_33 rfl h42 ?_
    refine aw_iload_n 46 d_M_lays_45 rfl rfl ?_
    refine aw_iconst (v := (1 : Int32)) 47 d_M_lays_46 rfl (by decide) ?_
    refine aw_isub 48 d_M_lays_47 rfl ?_
    obtain ⟨y48, h48, h⟩ := bnd h
    refine aw_iald 49 d_M_lays_48 rfl h48 ?_
    refine aw_icmp_ge 99 52 d_M_lays_49 (by decide) rfl (fun c49 => ?_) (fun c49 => ?_)
    · have h := (if_pos c49).symm.trans h
      refine aw_iinc (v := (x3 + (1 : Int32))) (loc' := [some (.ref a0), some (.int x1), some (.int x2), some (.int (x3 + (1 : Int32))), some (.int x4), none]) 102 d_M_lays_99 rfl (by decide) rfl rfl rfl ?_
      refine aw_goto 31 d_M_lays_102 (by decide) ?_
      exact AW.wk [true, true, true, true, false, true] rfl (hk31 (x3 + (1 : Int32)) μ h)
    · have h := (if_neg c49).symm.trans h
      refine aw_iconst (v := (-1 : Int32)) 53 d_M_lays_52 rfl (by decide) ?_
      refine aw_istore (loc' := [some (.ref a0), some (.int x1), some (.int x2), some (.int x3), some (.int x4), some (.int (-1 : Int32))]) 55 d_M_lays_53 rfl (by decide) rfl ?_
      exact (l_M_lays_55 hk31 ih FU _ _ h)
theorem l_M_lays_31 {l : Launch} {μ0 : MM} {q : Int32 × MM} {a0 : Nat} {x1 : Int32} {x2 : Int32} : ∀ (n : Nat) (x3 : Int32) (μ : MM), f_M_lays_L31 a0 x1 x2 n x3 μ = some q → AWm l Y_M_lays 6 μ0 (some (.int q.1)) q.2 31 [some (.ref a0), some (.int x1), some (.int x2), some (.int x3), none, none] [] μ := by
  intro n
  induction n with
  | zero =>
    intro x3 μ h
    have h : (none : Option (Int32 × MM)) = some q := h
    cases h
  | succ n ih =>
    intro x3 μ h
    rw [f_M_lays_L31] at h
    refine aw_iload_n 32 d_M_lays_31 rfl rfl ?_
    refine aw_iload_n 33 d_M_lays_32 rfl rfl ?_
    refine aw_icmp_gt 105 36 d_M_lays_33 (by decide) rfl (fun c33 => ?_) (fun c33 => ?_)
    · have h := (if_pos c33).symm.trans h
      refine aw_iconst (v := (1 : Int32)) 106 d_M_lays_105 rfl (by decide) ?_
      cases h
      exact aw_ireturn d_M_lays_106 rfl nar1
    · have h := (if_neg c33).symm.trans h
      refine aw_iload_n 37 d_M_lays_36 rfl rfl ?_
      refine aw_istore (loc' := [some (.ref a0), some (.int x1), some (.int x2), some (.int x3), some (.int x2), none]) 39 d_M_lays_37 rfl (by decide) rfl ?_
      exact (l_M_lays_39 ih FU _ _ h)
theorem l_M_lays_2 {l : Launch} {μ0 : MM} {q : Int32 × MM} {a0 : Nat} {x1 : Int32} : ∀ (n : Nat) (x2 : Int32) (μ : MM), f_M_lays_L2 a0 x1 n x2 μ = some q → AWm l Y_M_lays 6 μ0 (some (.int q.1)) q.2 2 [some (.ref a0), some (.int x1), some (.int x2), none, none, none] [] μ := by
  intro n
  induction n with
  | zero =>
    intro x2 μ h
    have h : (none : Option (Int32 × MM)) = some q := h
    cases h
  | succ n ih =>
    intro x2 μ h
    rw [f_M_lays_L2] at h
    refine aw_iload_n 3 d_M_lays_2 rfl rfl ?_
    refine aw_iload_n 4 d_M_lays_3 rfl rfl ?_
    refine aw_icmp_gt 20 7 d_M_lays_4 (by decide) rfl (fun c4 => ?_) (fun c4 => ?_)
    · have h := (if_pos c4).symm.trans h
      refine aw_aload_n 21 d_M_lays_20 rfl rfl ?_
      refine aw_iconst (v := (0 : Int32)) 22 d_M_lays_21 rfl (by decide) ?_
      refine aw_iconst (v := (0 : Int32)) 23 d_M_lays_22 rfl (by decide) ?_
      refine aw_iconst (v := (0 : Int32)) 24 d_M_lays_23 rfl (by decide) ?_
      refine aw_iconst (v := (0 : Int32)) 25 d_M_lays_24 rfl (by decide) ?_
      obtain ⟨q25, h25, h⟩ := bnd h
      refine aw_invV (rest := []) (st' := [.int q25.1]) (As := [.int (0 : Int32), .int (0 : Int32), .int (0 : Int32), .int (0 : Int32)]) 28 d_M_lays_25 rfl lv_M_242 (m_M_placeOf h25) (by decide) (k_M_placeOf h25) rfl rfl rfl (Nat.le_of_ble_eq_true rfl) rfl ?_
      refine aw_istore_n (loc' := [some (.ref a0), some (.int x1), some (.int q25.1), none, none, none]) 29 d_M_lays_28 rfl (by decide) rfl ?_
      refine aw_iconst (v := (1 : Int32)) 30 d_M_lays_29 rfl (by decide) ?_
      refine aw_istore_n (loc' := [some (.ref a0), some (.int x1), some (.int q25.1), some (.int (1 : Int32)), none, none]) 31 d_M_lays_30 rfl (by decide) rfl ?_
      exact (l_M_lays_31 FU _ _ h)
    · have h := (if_neg c4).symm.trans h
      refine aw_aload_n 8 d_M_lays_7 rfl rfl ?_
      obtain ⟨y8, h8, h⟩ := bnd h
      refine aw_getR 11 d_M_lays_8 rfl fg_M_33 rfl h8 ?_
      refine aw_iload_n 12 d_M_lays_11 rfl rfl ?_
      refine aw_iconst (v := (0 : Int32)) 13 d_M_lays_12 rfl (by decide) ?_
      obtain ⟨μ13, h13, h⟩ := bnd h
      refine aw_iast 14 d_M_lays_13 rfl h13 ?_
      refine aw_iinc (v := (x2 + (1 : Int32))) (loc' := [some (.ref a0), some (.int x1), some (.int (x2 + (1 : Int32))), none, none, none]) 17 d_M_lays_14 rfl (by decide) rfl rfl rfl ?_
      refine aw_goto 2 d_M_lays_17 (by decide) ?_
      exact (ih (x2 + (1 : Int32)) μ13 h)
theorem m_M_lays {l : Launch} {q : Int32 × MM} {a0 : Nat} {x1 : Int32} {μ : MM} (h : f_M_lays a0 x1 μ = some q) : AMet l 6 Y_M_lays [.ref a0, .int x1] μ (some (.int q.1)) q.2 := by
  refine AMet.of (loc := [some (.ref a0), some (.int x1), none, none, none, none]) pn_M_lays (Nat.le_of_ble_eq_true rfl) rfl ?_
  unfold f_M_lays at h
  obtain ⟨_, hk, h⟩ := bnd h
  refine aw_iconst (v := (0 : Int32)) 1 d_M_lays_0 rfl (by decide) ?_
  refine aw_istore_n (loc' := [some (.ref a0), some (.int x1), some (.int (0 : Int32)), none, none, none]) 2 d_M_lays_1 rfl (by decide) rfl ?_
  exact (l_M_lays_2 FU _ _ h)
theorem k_M_lays {q : Int32 × MM} {a0 : Nat} {x1 : Int32} {μ : MM} (h : f_M_lays a0 x1 μ = some q) : μ.1[a0]? = some (0, 1) := by
  unfold f_M_lays at h
  obtain ⟨_, h1, _⟩ := bnd h
  exact kO_some h1
theorem m_M_costBy {l : Launch} {q : Int64} {a0 : Nat} {x1 : Int32} {x2 : Int32} {x3 : Int32} {μ : MM} (h : f_M_costBy a0 x1 x2 x3 μ = some q) : AMet l 6 Y_M_costBy [.ref a0, .int x1, .int x2, .int x3] μ (some (.long q)) μ := by
  refine AMet.of (loc := [some (.ref a0), some (.int x1), some (.int x2), some (.int x3)]) pn_M_costBy (Nat.le_of_ble_eq_true rfl) rfl ?_
  unfold f_M_costBy at h
  obtain ⟨_, hk, h⟩ := bnd h
  refine aw_iload_n 1 d_M_costBy_0 rfl rfl ?_
  refine aw_if_eq 22 4 d_M_costBy_1 (by decide) rfl (fun c1 => ?_) (fun c1 => ?_)
  · have h := (if_pos c1).symm.trans h
    refine aw_aload_n 23 d_M_costBy_22 rfl rfl ?_
    refine aw_iload_n 24 d_M_costBy_23 rfl rfl ?_
    refine aw_iload_n 25 d_M_costBy_24 rfl rfl ?_
    obtain ⟨y25, h25, h⟩ := bnd h
    refine aw_invV (rest := []) (st' := [.long y25]) (As := [.int x1, .int x2]) 28 d_M_costBy_25 rfl lv_M_238 (m_M_foulBy h25) (by decide) (k_M_foulBy h25) rfl rfl rfl (Nat.le_of_ble_eq_true rfl) rfl ?_
    cases h
    exact aw_lreturn d_M_costBy_28 rfl
  · have h := (if_neg c1).symm.trans h
    refine aw_iload_n 5 d_M_costBy_4 rfl rfl ?_
    refine aw_aload_n 6 d_M_costBy_5 rfl rfl ?_
    obtain ⟨y6, h6, h⟩ := bnd h
    refine aw_getR 9 d_M_costBy_6 rfl fg_M_30 rfl h6 ?_
    refine aw_iload_n 10 d_M_costBy_9 rfl rfl ?_
    obtain ⟨y10, h10, h⟩ := bnd h
    refine aw_iald 11 d_M_costBy_10 rfl h10 ?_
    refine aw_icmp_ne 18 14 d_M_costBy_11 (by decide) rfl (fun c11 => ?_) (fun c11 => ?_)
    · have h := (if_neg c11).symm.trans h
      refine aw_lconst (v := (1 : Int64)) 19 d_M_costBy_18 rfl (by decide) ?_
      refine aw_goto 28 d_M_costBy_19 (by decide) ?_
      cases h
      exact aw_lreturn d_M_costBy_28 rfl
    · have h := (if_pos c11).symm.trans h
      refine aw_lconst (v := (0 : Int64)) 15 d_M_costBy_14 rfl (by decide) ?_
      refine aw_goto 28 d_M_costBy_15 (by decide) ?_
      cases h
      exact aw_lreturn d_M_costBy_28 rfl
theorem k_M_costBy {q : Int64} {a0 : Nat} {x1 : Int32} {x2 : Int32} {x3 : Int32} {μ : MM} (h : f_M_costBy a0 x1 x2 x3 μ = some q) : μ.1[a0]? = some (0, 1) := by
  unfold f_M_costBy at h
  obtain ⟨_, h1, _⟩ := bnd h
  exact kO_some h1
theorem l_M_finds_318 {l : Launch} {μ0 : MM} {q : Int32 × MM} {a0 : Nat} {x1 : Int32} {x2 : Int32} {x3 : Int32} {x4 : Int32} {k309 : Int32 → Int32 → MM → Option (Int32 × MM)} (hk309 : ∀ (x3 : Int32) (x4 : Int32) (μ : MM), k309 x3 x4 μ = some q → AWm l Y_M_finds 7 μ0 (some (.int q.1)) q.2 309 [some (.ref a0), some (.int x1), some (.int x2), some (.int x3), some (.int x4), none, none, none, none, none] [] μ) : ∀ (n : Nat) (x5 : Int32) (μ : MM), f_M_finds_L318 k309 a0 x1 x2 x3 x4 n x5 μ = some q → AWm l Y_M_finds 7 μ0 (some (.int q.1)) q.2 318 [some (.ref a0), some (.int x1), some (.int x2), some (.int x3), some (.int x4), some (.int x5), none, none, none, none] [] μ := by
  intro n
  induction n with
  | zero =>
    intro x5 μ h
    have h : (none : Option (Int32 × MM)) = some q := h
    cases h
  | succ n ih =>
    intro x5 μ h
    rw [f_M_finds_L318] at h
    refine aw_aload_n 319 d_M_finds_318 rfl rfl ?_
    refine aw_iload 321 d_M_finds_319 rfl rfl ?_
    refine aw_iload 323 d_M_finds_321 rfl rfl ?_
    obtain ⟨y323, h323, h⟩ := bnd h
    refine aw_invV (rest := []) (st' := [.int y323]) (As := [.int x4, .int x5]) 326 d_M_finds_323 rfl lv_M_246 (m_M_mayLink h323) (by decide) (k_M_mayLink h323) rfl rfl rfl (Nat.le_of_ble_eq_true rfl) rfl ?_
    refine aw_if_eq 379 329 d_M_finds_326 (by decide) rfl (fun c326 => ?_) (fun c326 => ?_)
    · have h := (if_pos c326).symm.trans h
      refine aw_iinc (v := (x5 + (1 : Int32))) (loc' := [some (.ref a0), some (.int x1), some (.int x2), some (.int x3), some (.int x4), some (.int (x5 + (1 : Int32))), none, none, none, none]) 382 d_M_finds_379 rfl (by decide) rfl rfl rfl ?_
      refine aw_goto 318 d_M_finds_382 (by decide) ?_
      exact (ih (x5 + (1 : Int32)) μ h)
    · have h := (if_neg c326).symm.trans h
      refine aw_aload_n 330 d_M_finds_329 rfl rfl ?_
      refine aw_iload 332 d_M_finds_330 rfl rfl ?_
      refine aw_iload 334 d_M_finds_332 rfl rfl ?_
      refine aw_iload_n 335 d_M_finds_334 rfl rfl ?_
      obtain ⟨y335, h335, h⟩ := bnd h
      refine aw_invV (rest := []) (st' := [.long y335]) (As := [.int x4, .int x5, .int x2]) 338 d_M_finds_335 rfl lv_M_257 (m_M_costBy h335) (by decide) (k_M_costBy h335) rfl rfl rfl (Nat.le_of_ble_eq_true rfl) rfl ?_
      refine aw_aload_n 339 d_M_finds_338 rfl rfl ?_
      obtain ⟨y339, h339, h⟩ := bnd h
      refine aw_getR 342 d_M_finds_339 rfl fg_M_45 rfl h339 ?_
      refine aw_sipush (v := (300 : Int32)) 345 d_M_finds_342 rfl (by decide) ?_
      refine aw_iload 347 d_M_finds_345 rfl rfl ?_
      refine aw_imul 348 d_M_finds_347 rfl ?_
      refine aw_aload_n 349 d_M_finds_348 rfl rfl ?_
      refine aw_iload 351 d_M_finds_349 rfl rfl ?_
      refine aw_iload_n 352 d_M_finds_351 rfl rfl ?_
      refine aw_iload 354 d_M_finds_352 rfl rfl ?_
      obtain ⟨q354, h354, h⟩ := bnd h
      refine aw_invV (rest := [.int ((300 : Int32) * x4), .ref y339, .long y335]) (st' := [.int q354.1, .int ((300 : Int32) * x4), .ref y339, .long y335]) (As := [.int x4, .int x3, .int x5]) 357 d_M_finds_354 rfl lv_M_249 (m_M_nextOf h354) (by decide) (k_M_nextOf h354) rfl rfl rfl (Nat.le_of_ble_eq_true rfl) rfl ?_
      refine aw_iadd 358 d_M_finds_357 rfl ?_
      obtain ⟨y358, h358, h⟩ := bnd h
      refine aw_lald 359 d_M_finds_358 rfl h358 ?_
      refine aw_ladd 360 d_M_finds_359 rfl ?_
      refine aw_aload_n 361 d_M_finds_360 rfl rfl ?_
      obtain ⟨y361, h361, h⟩ := bnd h
      refine aw_getR 364 d_M_finds_361 rfl fg_M_45 rfl h361 ?_
      refine aw_sipush (v := (300 : Int32)) 367 d_M_finds_364 rfl (by decide) ?_
      refine aw_iload 369 d_M_finds_367 rfl rfl ?_
      refine aw_iconst (v := (1 : Int32)) 370 d_M_finds_369 rfl (by decide) ?_
      refine aw_isub 371 d_M_finds_370 rfl ?_
      refine aw_imul 372 d_M_finds_371 rfl ?_
      refine aw_iload_n 373 d_M_finds_372 rfl rfl ?_
      refine aw_iadd 374 d_M_finds_373 rfl ?_
      obtain ⟨y374, h374, h⟩ := bnd h
      refine aw_lald 375 d_M_finds_374 rfl h374 ?_
      refine aw_lcmp 376 d_M_finds_375 rfl ?_
      refine aw_if_eq 385 379 d_M_finds_376 (by decide) rfl (fun c376 => ?_) (fun c376 => ?_)
      · have h := (if_pos c376).symm.trans h
        refine aw_aload_n 386 d_M_finds_385 rfl rfl ?_
        obtain ⟨y386, h386, h⟩ := bnd h
        refine aw_getR 389 d_M_finds_386 rfl fg_M_49 rfl h386 ?_
        refine aw_iload 391 d_M_finds_389 rfl rfl ?_
        refine aw_iload 393 d_M_finds_391 rfl rfl ?_
        obtain ⟨μ393, h393, h⟩ := bnd h
        refine aw_iast 394 d_M_finds_393 rfl h393 ?_
        refine aw_aload_n 395 d_M_finds_394 rfl rfl ?_
        refine aw_iload 397 d_M_finds_395 rfl rfl ?_
        refine aw_iload_n 398 d_M_finds_397 rfl rfl ?_
        refine aw_iload 400 d_M_finds_398 rfl rfl ?_
        obtain ⟨q400, h400, h⟩ := bnd h
        refine aw_invV (rest := []) (st' := [.int q400.1]) (As := [.int x4, .int x3, .int x5]) 403 d_M_finds_400 rfl lv_M_249 (m_M_nextOf h400) (by decide) (k_M_nextOf h400) rfl rfl rfl (Nat.le_of_ble_eq_true rfl) rfl ?_
        refine aw_istore_n (loc' := [some (.ref a0), some (.int x1), some (.int x2), some (.int q400.1), some (.int x4), some (.int x5), none, none, none, none]) 404 d_M_finds_403 rfl (by decide) rfl ?_
        refine aw_iinc (v := (x4 + (1 : Int32))) (loc' := [some (.ref a0), some (.int x1), some (.int x2), some (.int q400.1), some (.int (x4 + (1 : Int32))), some (.int x5), none, none, none, none]) 407 d_M_finds_404 rfl (by decide) rfl rfl rfl ?_
        refine aw_goto 309 d_M_finds_407 (by decide) ?_
        exact AW.wk [true, true, true, true, true, false, true, true, true, true] rfl (hk309 q400.1 (x4 + (1 : Int32)) q400.2 h)
      · have h := (if_neg c376).symm.trans h
        refine aw_iinc (v := (x5 + (1 : Int32))) (loc' := [some (.ref a0), some (.int x1), some (.int x2), some (.int x3), some (.int x4), some (.int (x5 + (1 : Int32))), none, none, none, none]) 382 d_M_finds_379 rfl (by decide) rfl rfl rfl ?_
        refine aw_goto 318 d_M_finds_382 (by decide) ?_
        exact (ih (x5 + (1 : Int32)) q354.2 h)
theorem l_M_finds_309 {l : Launch} {μ0 : MM} {q : Int32 × MM} {a0 : Nat} {x1 : Int32} {x2 : Int32} : ∀ (n : Nat) (x3 : Int32) (x4 : Int32) (μ : MM), f_M_finds_L309 a0 x1 x2 n x3 x4 μ = some q → AWm l Y_M_finds 7 μ0 (some (.int q.1)) q.2 309 [some (.ref a0), some (.int x1), some (.int x2), some (.int x3), some (.int x4), none, none, none, none, none] [] μ := by
  intro n
  induction n with
  | zero =>
    intro x3 x4 μ h
    have h : (none : Option (Int32 × MM)) = some q := h
    cases h
  | succ n ih =>
    intro x3 x4 μ h
    rw [f_M_finds_L309] at h
    refine aw_iload 311 d_M_finds_309 rfl rfl ?_
    refine aw_iload_n 312 d_M_finds_311 rfl rfl ?_
    refine aw_icmp_gt 410 315 d_M_finds_312 (by decide) rfl (fun c312 => ?_) (fun c312 => ?_)
    · have h := (if_pos c312).symm.trans h
      refine aw_iconst (v := (1 : Int32)) 411 d_M_finds_410 rfl (by decide) ?_
      cases h
      exact aw_ireturn d_M_finds_411 rfl nar1
    · have h := (if_neg c312).symm.trans h
      refine aw_iconst (v := (-1 : Int32)) 316 d_M_finds_315 rfl (by decide) ?_
      refine aw_istore (loc' := [some (.ref a0), some (.int x1), some (.int x2), some (.int x3), some (.int x4), some (.int (-1 : Int32)), none, none, none, none]) 318 d_M_finds_316 rfl (by decide) rfl ?_
      exact (l_M_finds_318 ih FU _ _ h)
theorem l_M_finds_285 {l : Launch} {μ0 : MM} {q : Int32 × MM} {a0 : Nat} {x1 : Int32} {x2 : Int32} {x3 : Int32} : ∀ (n : Nat) (x4 : Int32) (μ : MM), f_M_finds_L285 a0 x1 x2 x3 n x4 μ = some q → AWm l Y_M_finds 7 μ0 (some (.int q.1)) q.2 285 [some (.ref a0), some (.int x1), some (.int x2), some (.int x3), some (.int x4), none, none, none, none, none] [] μ := by
  intro n
  induction n with
  | zero =>
    intro x4 μ h
    have h : (none : Option (Int32 × MM)) = some q := h
    cases h
  | succ n ih =>
    intro x4 μ h
    rw [f_M_finds_L285] at h
    refine aw_iload 287 d_M_finds_285 rfl rfl ?_
    refine aw_bipush (v := (24 : Int32)) 289 d_M_finds_287 rfl (by decide) ?_
    refine aw_icmp_ge 306 292 d_M_finds_289 (by decide) rfl (fun c289 => ?_) (fun c289 => ?_)
    · have h := (if_pos c289).symm.trans h
      refine aw_iconst (v := (1 : Int32)) 307 d_M_finds_306 rfl (by decide) ?_
      refine aw_istore (loc' := [some (.ref a0), some (.int x1), some (.int x2), some (.int x3), some (.int (1 : Int32)), none, none, none, none, none]) 309 d_M_finds_307 rfl (by decide) rfl ?_
      exact (l_M_finds_309 FU _ _ _ h)
    · have h := (if_neg c289).symm.trans h
      refine aw_aload_n 293 d_M_finds_292 rfl rfl ?_
      obtain ⟨y293, h293, h⟩ := bnd h
      refine aw_getR 296 d_M_finds_293 rfl fg_M_49 rfl h293 ?_
      refine aw_iload 298 d_M_finds_296 rfl rfl ?_
      refine aw_iconst (v := (-1 : Int32)) 299 d_M_finds_298 rfl (by decide) ?_
      obtain ⟨μ299, h299, h⟩ := bnd h
      refine aw_iast 300 d_M_finds_299 rfl h299 ?_
      refine aw_iinc (v := (x4 + (1 : Int32))) (loc' := [some (.ref a0), some (.int x1), some (.int x2), some (.int x3), some (.int (x4 + (1 : Int32))), none, none, none, none, none]) 303 d_M_finds_300 rfl (by decide) rfl rfl rfl ?_
      refine aw_goto 285 d_M_finds_303 (by decide) ?_
      exact (ih (x4 + (1 : Int32)) μ299 h)
theorem l_M_finds_163 {l : Launch} {μ0 : MM} {q : Int32 × MM} {a0 : Nat} {x1 : Int32} {x2 : Int32} {x3 : Int32} {x4 : Int32} {x5 : Int64} {k83 : Int32 → MM → Option (Int32 × MM)} (hk83 : ∀ (x3 : Int32) (μ : MM), k83 x3 μ = some q → AWm l Y_M_finds 7 μ0 (some (.int q.1)) q.2 83 [some (.ref a0), some (.int x1), some (.int x2), some (.int x3), none, none, none, none, none, none] [] μ) {k130 : Int32 → MM → Option (Int32 × MM)} (hk130 : ∀ (x4 : Int32) (μ : MM), k130 x4 μ = some q → AWm l Y_M_finds 7 μ0 (some (.int q.1)) q.2 130 [some (.ref a0), some (.int x1), some (.int x2), some (.int x3), some (.int x4), none, none, none, none, none] [] μ) : ∀ (n : Nat) (x7 : Int32) (μ : MM), f_M_finds_L163 k83 k130 a0 x1 x2 x3 x4 x5 n x7 μ = some q → AWm l Y_M_finds 7 μ0 (some (.int q.1)) q.2 163 [some (.ref a0), some (.int x1), some (.int x2), some (.int x3), some (.int x4), some (.long x5), none, some (.int x7), none, none] [] μ := by
  intro n
  induction n with
  | zero =>
    intro x7 μ h
    have h : (none : Option (Int32 × MM)) = some q := h
    cases h
  | succ n ih =>
    intro x7 μ h
    rw [f_M_finds_L163] at h
    refine aw_iload 165 d_M_finds_163 rfl rfl ?_
    refine aw_aload_n 166 d_M_finds_165 rfl rfl ?_
    obtain ⟨y166, h166, h⟩ := bnd h
    refine aw_getR 169 d_M_finds_166 rfl fg_M_33 rfl h166 ?_
    refine aw_iload_n 170 d_M_finds_169 rfl rfl ?_
    refine aw_iconst (v := (1 : Int32)) 171 d_M_finds_170 rfl (by decide) ?_
    refine aw_isub 172 d_M_finds_171 rfl ?_
    obtain ⟨y172, h172, h⟩ := bnd h
    refine aw_iald 173 d_M_finds_172 rfl h172 ?_
    refine aw_icmp_ge 245 176 d_M_finds_173 (by decide) rfl (fun c173 => ?_) (fun c173 => ?_)
    · have h := (if_pos c173).symm.trans h
      refine aw_iinc (v := (x4 + (1 : Int32))) (loc' := [some (.ref a0), some (.int x1), some (.int x2), some (.int x3), some (.int (x4 + (1 : Int32))), some (.long x5), none, some (.int x7), none, none]) 248 d_M_finds_245 rfl (by decide) rfl rfl rfl ?_
      refine aw_goto 130 d_M_finds_248 (by decide) ?_
      exact AW.wk [true, true, true, true, true, false, true, false, true, true] rfl (hk130 (x4 + (1 : Int32)) μ h)
    · have h := (if_neg c173).symm.trans h
      refine aw_lload 178 d_M_finds_176 rfl rfl ?_
      refine aw_aload_n 179 d_M_finds_178 rfl rfl ?_
      obtain ⟨y179, h179, h⟩ := bnd h
      refine aw_getR 182 d_M_finds_179 rfl fg_M_45 rfl h179 ?_
      refine aw_sipush (v := (300 : Int32)) 185 d_M_finds_182 rfl (by decide) ?_
      refine aw_iload_n 186 d_M_finds_185 rfl rfl ?_
      refine aw_imul 187 d_M_finds_186 rfl ?_
      refine aw_aload_n 188 d_M_finds_187 rfl rfl ?_
      refine aw_iload_n 189 d_M_finds_188 rfl rfl ?_
      refine aw_iload 191 d_M_finds_189 rfl rfl ?_
      refine aw_iload 193 d_M_finds_191 rfl rfl ?_
      obtain ⟨q193, h193, h⟩ := bnd h
      refine aw_invV (rest := [.int ((300 : Int32) * x3), .ref y179, .long x5]) (st' := [.int q193.1, .int ((300 : Int32) * x3), .ref y179, .long x5]) (As := [.int x3, .int x7, .int x4]) 196 d_M_finds_193 rfl lv_M_249 (m_M_nextOf h193) (by decide) (k_M_nextOf h193) rfl rfl rfl (Nat.le_of_ble_eq_true rfl) rfl ?_
      refine aw_iadd 197 d_M_finds_196 rfl ?_
      obtain ⟨y197, h197, h⟩ := bnd h
      refine aw_lald 198 d_M_finds_197 rfl h197 ?_
      refine aw_ladd 199 d_M_finds_198 rfl ?_
      refine aw_lstore (loc' := [some (.ref a0), some (.int x1), some (.int x2), some (.int x3), some (.int x4), some (.long x5), none, some (.int x7), some (.long (x5 + y197)), none]) 201 d_M_finds_199 rfl (by decide) rfl ?_
      refine aw_lload 203 d_M_finds_201 rfl rfl ?_
      refine aw_aload_n 204 d_M_finds_203 rfl rfl ?_
      obtain ⟨y204, h204, h⟩ := bnd h
      refine aw_getR 207 d_M_finds_204 rfl fg_M_45 rfl h204 ?_
      refine aw_sipush (v := (300 : Int32)) 210 d_M_finds_207 rfl (by decide) ?_
      refine aw_iload_n 211 d_M_finds_210 rfl rfl ?_
      refine aw_iconst (v := (1 : Int32)) 212 d_M_finds_211 rfl (by decide) ?_
      refine aw_isub 213 d_M_finds_212 rfl ?_
      refine aw_imul 214 d_M_finds_213 rfl ?_
      refine aw_iload 216 d_M_finds_214 rfl rfl ?_
      refine aw_iadd 217 d_M_finds_216 rfl ?_
      obtain ⟨y217, h217, h⟩ := bnd h
      refine aw_lald 218 d_M_finds_217 rfl h217 ?_
      refine aw_lcmp 219 d_M_finds_218 rfl ?_
      refine aw_if_ge 239 222 d_M_finds_219 (by decide) rfl (fun c219 => ?_) (fun c219 => ?_)
      · have h := (if_pos c219).symm.trans h
        refine aw_iinc (v := (x7 + (1 : Int32))) (loc' := [some (.ref a0), some (.int x1), some (.int x2), some (.int x3), some (.int x4), some (.long x5), none, some (.int (x7 + (1 : Int32))), some (.long (x5 + y197)), none]) 242 d_M_finds_239 rfl (by decide) rfl rfl rfl ?_
        refine aw_goto 163 d_M_finds_242 (by decide) ?_
        exact AW.wk [true, true, true, true, true, true, true, true, false, true] rfl (ih (x7 + (1 : Int32)) q193.2 h)
      · have h := (if_neg c219).symm.trans h
        refine aw_aload_n 223 d_M_finds_222 rfl rfl ?_
        obtain ⟨y223, h223, h⟩ := bnd h
        refine aw_getR 226 d_M_finds_223 rfl fg_M_45 rfl h223 ?_
        refine aw_sipush (v := (300 : Int32)) 229 d_M_finds_226 rfl (by decide) ?_
        refine aw_iload_n 230 d_M_finds_229 rfl rfl ?_
        refine aw_iconst (v := (1 : Int32)) 231 d_M_finds_230 rfl (by decide) ?_
        refine aw_isub 232 d_M_finds_231 rfl ?_
        refine aw_imul 233 d_M_finds_232 rfl ?_
        refine aw_iload 235 d_M_finds_233 rfl rfl ?_
        refine aw_iadd 236 d_M_finds_235 rfl ?_
        refine aw_lload 238 d_M_finds_236 rfl rfl ?_
        obtain ⟨μ238, h238, h⟩ := bnd h
        refine aw_last 239 d_M_finds_238 rfl h238 ?_
        refine aw_iinc (v := (x7 + (1 : Int32))) (loc' := [some (.ref a0), some (.int x1), some (.int x2), some (.int x3), some (.int x4), some (.long x5), none, some (.int (x7 + (1 : Int32))), some (.long (x5 + y197)), none]) 242 d_M_finds_239 rfl (by decide) rfl rfl rfl ?_
        refine aw_goto 163 d_M_finds_242 (by decide) ?_
        exact AW.wk [true, true, true, true, true, true, true, true, false, true] rfl (ih (x7 + (1 : Int32)) μ238 h)
theorem l_M_finds_130 {l : Launch} {μ0 : MM} {q : Int32 × MM} {a0 : Nat} {x1 : Int32} {x2 : Int32} {x3 : Int32} {k83 : Int32 → MM → Option (Int32 × MM)} (hk83 : ∀ (x3 : Int32) (μ : MM), k83 x3 μ = some q → AWm l Y_M_finds 7 μ0 (some (.int q.1)) q.2 83 [some (.ref a0), some (.int x1), some (.int x2), some (.int x3), none, none, none, none, none, none] [] μ) : ∀ (n : Nat) (x4 : Int32) (μ : MM), f_M_finds_L130 k83 a0 x1 x2 x3 n x4 μ = some q → AWm l Y_M_finds 7 μ0 (some (.int q.1)) q.2 130 [some (.ref a0), some (.int x1), some (.int x2), some (.int x3), some (.int x4), none, none, none, none, none] [] μ := by
  intro n
  induction n with
  | zero =>
    intro x4 μ h
    have h : (none : Option (Int32 × MM)) = some q := h
    cases h
  | succ n ih =>
    intro x4 μ h
    rw [f_M_finds_L130] at h
    refine aw_iload 132 d_M_finds_130 rfl rfl ?_
    refine aw_bipush (v := (6 : Int32)) 134 d_M_finds_132 rfl (by decide) ?_
    refine aw_icmp_ge 251 137 d_M_finds_134 (by decide) rfl (fun c134 => ?_) (fun c134 => ?_)
    · have h := (if_pos c134).symm.trans h
      refine aw_iinc (v := (x3 + (-1 : Int32))) (loc' := [some (.ref a0), some (.int x1), some (.int x2), some (.int (x3 + (-1 : Int32))), some (.int x4), none, none, none, none, none]) 254 d_M_finds_251 rfl (by decide) rfl rfl rfl ?_
      refine aw_goto 83 d_M_finds_254 (by decide) ?_
      exact AW.wk [true, true, true, true, false, true, true, true, true, true] rfl (hk83 (x3 + (-1 : Int32)) μ h)
    · have h := (if_neg c134).symm.trans h
      refine aw_aload_n 138 d_M_finds_137 rfl rfl ?_
      refine aw_iload_n 139 d_M_finds_138 rfl rfl ?_
      refine aw_iload 141 d_M_finds_139 rfl rfl ?_
      obtain ⟨y141, h141, h⟩ := bnd h
      refine aw_invV (rest := []) (st' := [.int y141]) (As := [.int x3, .int x4]) 144 d_M_finds_141 rfl lv_M_246 (m_M_mayLink h141) (by decide) (k_M_mayLink h141) rfl rfl rfl (Nat.le_of_ble_eq_true rfl) rfl ?_
      refine aw_if_ne 150 147 d_M_finds_144 (by decide) rfl (fun c144 => ?_) (fun c144 => ?_)
      · have h := (if_neg c144).symm.trans h
        refine aw_aload_n 151 d_M_finds_150 rfl rfl ?_
        refine aw_iload_n 152 d_M_finds_151 rfl rfl ?_
        refine aw_iload 154 d_M_finds_152 rfl rfl ?_
        refine aw_iload_n 155 d_M_finds_154 rfl rfl ?_
        obtain ⟨y155, h155, h⟩ := bnd h
        refine aw_invV (rest := []) (st' := [.long y155]) (As := [.int x3, .int x4, .int x2]) 158 d_M_finds_155 rfl lv_M_257 (m_M_costBy h155) (by decide) (k_M_costBy h155) rfl rfl rfl (Nat.le_of_ble_eq_true rfl) rfl ?_
        refine aw_lstore (loc' := [some (.ref a0), some (.int x1), some (.int x2), some (.int x3), some (.int x4), some (.long y155), none, none, none, none]) 160 d_M_finds_158 rfl (by decide) rfl ?_
        refine aw_iconst (v := (0 : Int32)) 161 d_M_finds_160 rfl (by decide) ?_
        refine aw_istore (loc' := [some (.ref a0), some (.int x1), some (.int x2), some (.int x3), some (.int x4), some (.long y155), none, some (.int (0 : Int32)), none, none]) 163 d_M_finds_161 rfl (by decide) rfl ?_
        exact (l_M_finds_163 hk83 ih FU _ _ h)
      · have h := (if_pos c144).symm.trans h
        refine aw_goto 245 d_M_finds_147 (by decide) ?_
        refine aw_iinc (v := (x4 + (1 : Int32))) (loc' := [some (.ref a0), some (.int x1), some (.int x2), some (.int x3), some (.int (x4 + (1 : Int32))), none, none, none, none, none]) 248 d_M_finds_245 rfl (by decide) rfl rfl rfl ?_
        refine aw_goto 130 d_M_finds_248 (by decide) ?_
        exact (ih (x4 + (1 : Int32)) μ h)
theorem l_M_finds_90 {l : Launch} {μ0 : MM} {q : Int32 × MM} {a0 : Nat} {x1 : Int32} {x2 : Int32} {x3 : Int32} {k83 : Int32 → MM → Option (Int32 × MM)} (hk83 : ∀ (x3 : Int32) (μ : MM), k83 x3 μ = some q → AWm l Y_M_finds 7 μ0 (some (.int q.1)) q.2 83 [some (.ref a0), some (.int x1), some (.int x2), some (.int x3), none, none, none, none, none, none] [] μ) : ∀ (n : Nat) (x4 : Int32) (μ : MM), f_M_finds_L90 k83 a0 x1 x2 x3 n x4 μ = some q → AWm l Y_M_finds 7 μ0 (some (.int q.1)) q.2 90 [some (.ref a0), some (.int x1), some (.int x2), some (.int x3), some (.int x4), none, none, none, none, none] [] μ := by
  intro n
  induction n with
  | zero =>
    intro x4 μ h
    have h : (none : Option (Int32 × MM)) = some q := h
    cases h
  | succ n ih =>
    intro x4 μ h
    rw [f_M_finds_L90] at h
    refine aw_iload 92 d_M_finds_90 rfl rfl ?_
    refine aw_aload_n 93 d_M_finds_92 rfl rfl ?_
    obtain ⟨y93, h93, h⟩ := bnd h
    refine aw_getR 96 d_M_finds_93 rfl fg_M_33 rfl h93 ?_
    refine aw_iload_n 97 d_M_finds_96 rfl rfl ?_
    refine aw_iconst (v := (1 : Int32)) 98 d_M_finds_97 rfl (by decide) ?_
    refine aw_isub 99 d_M_finds_98 rfl ?_
    obtain ⟨y99, h99, h⟩ := bnd h
    refine aw_iald 100 d_M_finds_99 rfl h99 ?_
    refine aw_icmp_ge 127 103 d_M_finds_100 (by decide) rfl (fun c100 => ?_) (fun c100 => ?_)
    · have h := (if_pos c100).symm.trans h
      refine aw_iconst (v := (-1 : Int32)) 128 d_M_finds_127 rfl (by decide) ?_
      refine aw_istore (loc' := [some (.ref a0), some (.int x1), some (.int x2), some (.int x3), some (.int (-1 : Int32)), none, none, none, none, none]) 130 d_M_finds_128 rfl (by decide) rfl ?_
      exact (l_M_finds_130 hk83 FU _ _ h)
    · have h := (if_neg c100).symm.trans h
      refine aw_aload_n 104 d_M_finds_103 rfl rfl ?_
      obtain ⟨y104, h104, h⟩ := bnd h
      refine aw_getR 107 d_M_finds_104 rfl fg_M_45 rfl h104 ?_
      refine aw_sipush (v := (300 : Int32)) 110 d_M_finds_107 rfl (by decide) ?_
      refine aw_iload_n 111 d_M_finds_110 rfl rfl ?_
      refine aw_iconst (v := (1 : Int32)) 112 d_M_finds_111 rfl (by decide) ?_
      refine aw_isub 113 d_M_finds_112 rfl ?_
      refine aw_imul 114 d_M_finds_113 rfl ?_
      refine aw_iload 116 d_M_finds_114 rfl rfl ?_
      refine aw_iadd 117 d_M_finds_116 rfl ?_
      refine aw_ldc2 (v := (1000000000000000 : Int64)) 120 d_M_finds_117 rfl c_M_255 ?_
      obtain ⟨μ120, h120, h⟩ := bnd h
      refine aw_last 121 d_M_finds_120 rfl h120 ?_
      refine aw_iinc (v := (x4 + (1 : Int32))) (loc' := [some (.ref a0), some (.int x1), some (.int x2), some (.int x3), some (.int (x4 + (1 : Int32))), none, none, none, none, none]) 124 d_M_finds_121 rfl (by decide) rfl rfl rfl ?_
      refine aw_goto 90 d_M_finds_124 (by decide) ?_
      exact (ih (x4 + (1 : Int32)) μ120 h)
theorem l_M_finds_83 {l : Launch} {μ0 : MM} {q : Int32 × MM} {a0 : Nat} {x1 : Int32} {x2 : Int32} : ∀ (n : Nat) (x3 : Int32) (μ : MM), f_M_finds_L83 a0 x1 x2 n x3 μ = some q → AWm l Y_M_finds 7 μ0 (some (.int q.1)) q.2 83 [some (.ref a0), some (.int x1), some (.int x2), some (.int x3), none, none, none, none, none, none] [] μ := by
  intro n
  induction n with
  | zero =>
    intro x3 μ h
    have h : (none : Option (Int32 × MM)) = some q := h
    cases h
  | succ n ih =>
    intro x3 μ h
    rw [f_M_finds_L83] at h
    refine aw_iload_n 84 d_M_finds_83 rfl rfl ?_
    refine aw_if_le 257 87 d_M_finds_84 (by decide) rfl (fun c84 => ?_) (fun c84 => ?_)
    · have h := (if_pos c84).symm.trans h
      refine aw_aload_n 258 d_M_finds_257 rfl rfl ?_
      refine aw_aload_n 259 d_M_finds_258 rfl rfl ?_
      obtain ⟨y259, h259, h⟩ := bnd h
      refine aw_getR 262 d_M_finds_259 rfl fg_M_45 rfl h259 ?_
      refine aw_iconst (v := (0 : Int32)) 263 d_M_finds_262 rfl (by decide) ?_
      obtain ⟨y263, h263, h⟩ := bnd h
      refine aw_lald 264 d_M_finds_263 rfl h263 ?_
      obtain ⟨μ264, h264, h⟩ := bnd h
      refine aw_putL 267 false d_M_finds_264 rfl fp_M_261 (fun z => nomatch z) rfl h264 ?_
      refine aw_aload_n 268 d_M_finds_267 rfl rfl ?_
      obtain ⟨y268, h268, h⟩ := bnd h
      refine aw_getL 271 d_M_finds_268 rfl fg_M_261 rfl h268 ?_
      refine aw_ldc2 (v := (1000000000000000 : Int64)) 274 d_M_finds_271 rfl c_M_255 ?_
      refine aw_lcmp 275 d_M_finds_274 rfl ?_
      refine aw_if_lt 280 278 d_M_finds_275 (by decide) rfl (fun c275 => ?_) (fun c275 => ?_)
      · have h := (if_pos c275).symm.trans h
        refine aw_iconst (v := (0 : Int32)) 281 d_M_finds_280 rfl (by decide) ?_
        refine aw_istore_n (loc' := [some (.ref a0), some (.int x1), some (.int x2), some (.int (0 : Int32)), none, none, none, none, none, none]) 282 d_M_finds_281 rfl (by decide) rfl ?_
        refine aw_iconst (v := (0 : Int32)) 283 d_M_finds_282 rfl (by decide) ?_
        refine aw_istore (loc' := [some (.ref a0), some (.int x1), some (.int x2), some (.int (0 : Int32)), some (.int (0 : Int32)), none, none, none, none, none]) 285 d_M_finds_283 rfl (by decide) rfl ?_
        exact (l_M_finds_285 FU _ _ h)
      · have h := (if_neg c275).symm.trans h
        refine aw_iconst (v := (0 : Int32)) 279 d_M_finds_278 rfl (by decide) ?_
        cases h
        exact aw_ireturn d_M_finds_279 rfl nar0
    · have h := (if_neg c84).symm.trans h
      refine aw_iconst (v := (0 : Int32)) 88 d_M_finds_87 rfl (by decide) ?_
      refine aw_istore (loc' := [some (.ref a0), some (.int x1), some (.int x2), some (.int x3), some (.int (0 : Int32)), none, none, none, none, none]) 90 d_M_finds_88 rfl (by decide) rfl ?_
      exact (l_M_finds_90 ih FU _ _ h)
theorem j_M_finds_74 {l : Launch} {μ0 : MM} {q : Int32 × MM} {a0 : Nat} {x1 : Int32} {x2 : Int32} {x3 : Int32} {s0 : Nat} {s1 : Int32} {s2 : Int64} {μ : MM} {k12 : Int32 → MM → Option (Int32 × MM)} (hk12 : ∀ (x3 : Int32) (μ : MM), k12 x3 μ = some q → AWm l Y_M_finds 7 μ0 (some (.int q.1)) q.2 12 [some (.ref a0), some (.int x1), some (.int x2), some (.int x3), none, none, none, none, none, none] [] μ) (h : f_M_finds_J74 k12 a0 x1 x2 x3 s0 s1 s2 μ = some q) : AWm l Y_M_finds 7 μ0 (some (.int q.1)) q.2 74 [some (.ref a0), some (.int x1), some (.int x2), some (.int x3), none, none, none, none, none, none] [.long s2, .int s1, .ref s0] μ := by
  unfold f_M_finds_J74 at h
  obtain ⟨μ74, h74, h⟩ := bnd h
  refine aw_last 75 d_M_finds_74 rfl h74 ?_
  refine aw_iinc (v := (x3 + (1 : Int32))) (loc' := [some (.ref a0), some (.int x1), some (.int x2), some (.int (x3 + (1 : Int32))), none, none, none, none, none, none]) 78 d_M_finds_75 rfl (by decide) rfl rfl rfl ?_
  refine aw_goto 12 d_M_finds_78 (by decide) ?_
  exact (hk12 (x3 + (1 : Int32)) μ74 h)
theorem j_M_finds_71 {l : Launch} {μ0 : MM} {q : Int32 × MM} {a0 : Nat} {x1 : Int32} {x2 : Int32} {x3 : Int32} {s0 : Nat} {s1 : Int32} {μ : MM} {k12 : Int32 → MM → Option (Int32 × MM)} (hk12 : ∀ (x3 : Int32) (μ : MM), k12 x3 μ = some q → AWm l Y_M_finds 7 μ0 (some (.int q.1)) q.2 12 [some (.ref a0), some (.int x1), some (.int x2), some (.int x3), none, none, none, none, none, none] [] μ) (h : f_M_finds_J71 k12 a0 x1 x2 x3 s0 s1 μ = some q) : AWm l Y_M_finds 7 μ0 (some (.int q.1)) q.2 71 [some (.ref a0), some (.int x1), some (.int x2), some (.int x3), none, none, none, none, none, none] [.int s1, .ref s0] μ := by
  unfold f_M_finds_J71 at h
  refine aw_ldc2 (v := (1000000000000000 : Int64)) 74 d_M_finds_71 rfl c_M_255 ?_
  exact (j_M_finds_74 hk12 h)
theorem l_M_finds_12 {l : Launch} {μ0 : MM} {q : Int32 × MM} {a0 : Nat} {x1 : Int32} {x2 : Int32} : ∀ (n : Nat) (x3 : Int32) (μ : MM), f_M_finds_L12 a0 x1 x2 n x3 μ = some q → AWm l Y_M_finds 7 μ0 (some (.int q.1)) q.2 12 [some (.ref a0), some (.int x1), some (.int x2), some (.int x3), none, none, none, none, none, none] [] μ := by
  intro n
  induction n with
  | zero =>
    intro x3 μ h
    have h : (none : Option (Int32 × MM)) = some q := h
    cases h
  | succ n ih =>
    intro x3 μ h
    rw [f_M_finds_L12] at h
    refine aw_iload_n 13 d_M_finds_12 rfl rfl ?_
    refine aw_aload_n 14 d_M_finds_13 rfl rfl ?_
    obtain ⟨y14, h14, h⟩ := bnd h
    refine aw_getR 17 d_M_finds_14 rfl fg_M_33 rfl h14 ?_
    refine aw_iload_n 18 d_M_finds_17 rfl rfl ?_
    obtain ⟨y18, h18, h⟩ := bnd h
    refine aw_iald 19 d_M_finds_18 rfl h18 ?_
    refine aw_icmp_ge 81 22 d_M_finds_19 (by decide) rfl (fun c19 => ?_) (fun c19 => ?_)
    · have h := (if_pos c19).symm.trans h
      refine aw_iload_n 82 d_M_finds_81 rfl rfl ?_
      refine aw_istore_n (loc' := [some (.ref a0), some (.int x1), some (.int x2), some (.int x1), none, none, none, none, none, none]) 83 d_M_finds_82 rfl (by decide) rfl ?_
      exact (l_M_finds_83 FU _ _ h)
    · have h := (if_neg c19).symm.trans h
      refine aw_sipush (v := (300 : Int32)) 25 d_M_finds_22 rfl (by decide) ?_
      refine aw_iload_n 26 d_M_finds_25 rfl rfl ?_
      refine aw_imul 27 d_M_finds_26 rfl ?_
      refine aw_iload_n 28 d_M_finds_27 rfl rfl ?_
      refine aw_iadd 29 d_M_finds_28 rfl ?_
      refine aw_istore (loc' := [some (.ref a0), some (.int x1), some (.int x2), some (.int x3), some (.int (((300 : Int32) * x1) + x3)), none, none, none, none, none]) 31 d_M_finds_29 rfl (by decide) rfl ?_
      refine aw_aload_n 32 d_M_finds_31 rfl rfl ?_
      obtain ⟨y32, h32, h⟩ := bnd h
      refine aw_getR 35 d_M_finds_32 rfl fg_M_45 rfl h32 ?_
      refine aw_iload 37 d_M_finds_35 rfl rfl ?_
      refine aw_aload_n 38 d_M_finds_37 rfl rfl ?_
      obtain ⟨y38, h38, h⟩ := bnd h
      refine aw_getR 41 d_M_finds_38 rfl fg_M_36 rfl h38 ?_
      refine aw_iload 43 d_M_finds_41 rfl rfl ?_
      obtain ⟨y43, h43, h⟩ := bnd h
      refine aw_iald 44 d_M_finds_43 rfl h43 ?_
      refine aw_if_ne 71 47 d_M_finds_44 (by decide) rfl (fun c44 => ?_) (fun c44 => ?_)
      · have h := (if_neg c44).symm.trans h
        exact AW.wk [true, true, true, true, false, true, true, true, true, true] rfl (j_M_finds_71 ih h)
      · have h := (if_pos c44).symm.trans h
        refine aw_aload_n 48 d_M_finds_47 rfl rfl ?_
        obtain ⟨y48, h48, h⟩ := bnd h
        refine aw_getR 51 d_M_finds_48 rfl fg_M_39 rfl h48 ?_
        refine aw_iload 53 d_M_finds_51 rfl rfl ?_
        obtain ⟨y53, h53, h⟩ := bnd h
        refine aw_iald 54 d_M_finds_53 rfl h53 ?_
        refine aw_if_ne 71 57 d_M_finds_54 (by decide) rfl (fun c54 => ?_) (fun c54 => ?_)
        · have h := (if_neg c54).symm.trans h
          exact AW.wk [true, true, true, true, false, true, true, true, true, true] rfl (j_M_finds_71 ih h)
        · have h := (if_pos c54).symm.trans h
          refine aw_aload_n 58 d_M_finds_57 rfl rfl ?_
          obtain ⟨y58, h58, h⟩ := bnd h
          refine aw_getR 61 d_M_finds_58 rfl fg_M_42 rfl h58 ?_
          refine aw_iload 63 d_M_finds_61 rfl rfl ?_
          obtain ⟨y63, h63, h⟩ := bnd h
          refine aw_iald 64 d_M_finds_63 rfl h63 ?_
          refine aw_if_ne 71 67 d_M_finds_64 (by decide) rfl (fun c64 => ?_) (fun c64 => ?_)
          · have h := (if_neg c64).symm.trans h
            exact AW.wk [true, true, true, true, false, true, true, true, true, true] rfl (j_M_finds_71 ih h)
          · have h := (if_pos c64).symm.trans h
            refine aw_lconst (v := (0 : Int64)) 68 d_M_finds_67 rfl (by decide) ?_
            refine aw_goto 74 d_M_finds_68 (by decide) ?_
            exact AW.wk [true, true, true, true, false, true, true, true, true, true] rfl (j_M_finds_74 ih h)
theorem m_M_finds {l : Launch} {q : Int32 × MM} {a0 : Nat} {x1 : Int32} {x2 : Int32} {μ : MM} (h : f_M_finds a0 x1 x2 μ = some q) : AMet l 7 Y_M_finds [.ref a0, .int x1, .int x2] μ (some (.int q.1)) q.2 := by
  refine AMet.of (loc := [some (.ref a0), some (.int x1), some (.int x2), none, none, none, none, none, none, none]) pn_M_finds (Nat.le_of_ble_eq_true rfl) rfl ?_
  unfold f_M_finds at h
  obtain ⟨_, hk, h⟩ := bnd h
  refine aw_aload_n 1 d_M_finds_0 rfl rfl ?_
  refine aw_iload_n 2 d_M_finds_1 rfl rfl ?_
  obtain ⟨q2, h2, h⟩ := bnd h
  refine aw_invV (rest := []) (st' := [.int q2.1]) (As := [.int x1]) 5 d_M_finds_2 rfl lv_M_252 (m_M_lays h2) (by decide) (k_M_lays h2) rfl rfl rfl (Nat.le_of_ble_eq_true rfl) rfl ?_
  refine aw_if_ne 10 8 d_M_finds_5 (by decide) rfl (fun c5 => ?_) (fun c5 => ?_)
  · have h := (if_neg c5).symm.trans h
    refine aw_iconst (v := (0 : Int32)) 11 d_M_finds_10 rfl (by decide) ?_
    refine aw_istore_n (loc' := [some (.ref a0), some (.int x1), some (.int x2), some (.int (0 : Int32)), none, none, none, none, none, none]) 12 d_M_finds_11 rfl (by decide) rfl ?_
    exact (l_M_finds_12 FU _ _ h)
  · have h := (if_pos c5).symm.trans h
    refine aw_iconst (v := (0 : Int32)) 9 d_M_finds_8 rfl (by decide) ?_
    cases h
    exact aw_ireturn d_M_finds_9 rfl nar0
theorem k_M_finds {q : Int32 × MM} {a0 : Nat} {x1 : Int32} {x2 : Int32} {μ : MM} (h : f_M_finds a0 x1 x2 μ = some q) : μ.1[a0]? = some (0, 1) := by
  unfold f_M_finds at h
  obtain ⟨_, h1, _⟩ := bnd h
  exact kO_some h1
theorem j_M_rowOf_30 {l : Launch} {μ0 : MM} {q : Int32 × MM} {a0 : Nat} {x1 : Int32} {x2 : Int32} {x3 : Int32} {μ : MM} (h : f_M_rowOf_J30 a0 x1 x2 x3 μ = some q) : AWm l Y_M_rowOf 8 μ0 (some (.int q.1)) q.2 30 [some (.ref a0), some (.int x1), some (.int x2), some (.int x3)] [] μ := by
  unfold f_M_rowOf_J30 at h
  refine aw_aload_n 31 d_M_rowOf_30 rfl rfl ?_
  refine aw_iload_n 32 d_M_rowOf_31 rfl rfl ?_
  refine aw_iload_n 33 d_M_rowOf_32 rfl rfl ?_
  obtain ⟨q33, h33, h⟩ := bnd h
  refine aw_invV (rest := []) (st' := [.int q33.1]) (As := [.int x3, .int x2]) 36 d_M_rowOf_33 rfl lv_M_265 (m_M_finds h33) (by decide) (k_M_finds h33) rfl rfl rfl (Nat.le_of_ble_eq_true rfl) rfl ?_
  refine aw_if_ne 42 39 d_M_rowOf_36 (by decide) rfl (fun c36 => ?_) (fun c36 => ?_)
  · have h := (if_neg c36).symm.trans h
    refine aw_iload_n 43 d_M_rowOf_42 rfl rfl ?_
    refine aw_iconst (v := (-1 : Int32)) 44 d_M_rowOf_43 rfl (by decide) ?_
    refine aw_icmp_ne 55 47 d_M_rowOf_44 (by decide) rfl (fun c44 => ?_) (fun c44 => ?_)
    · have h := (if_neg c44).symm.trans h
      refine aw_aload_n 56 d_M_rowOf_55 rfl rfl ?_
      obtain ⟨y56, h56, h⟩ := bnd h
      refine aw_getR 59 d_M_rowOf_56 rfl fg_M_49 rfl h56 ?_
      refine aw_iload_n 60 d_M_rowOf_59 rfl rfl ?_
      obtain ⟨y60, h60, h⟩ := bnd h
      refine aw_iald 61 d_M_rowOf_60 rfl h60 ?_
      cases h
      exact aw_ireturn d_M_rowOf_61 rfl rfl
    · have h := (if_pos c44).symm.trans h
      refine aw_aload_n 48 d_M_rowOf_47 rfl rfl ?_
      obtain ⟨y48, h48, h⟩ := bnd h
      refine aw_getL 51 d_M_rowOf_48 rfl fg_M_261 rfl h48 ?_
      refine aw_l2i 52 d_M_rowOf_51 rfl ?_
      refine aw_goto 61 d_M_rowOf_52 (by decide) ?_
      cases h
      exact aw_ireturn d_M_rowOf_61 rfl rfl
  · have h := (if_pos c36).symm.trans h
    refine aw_bipush (v := (-2 : Int32)) 41 d_M_rowOf_39 rfl (by decide) ?_
    cases h
    exact aw_ireturn d_M_rowOf_41 rfl rfl
theorem m_M_rowOf {l : Launch} {q : Int32 × MM} {a0 : Nat} {x1 : Int32} {x2 : Int32} {μ : MM} (h : f_M_rowOf a0 x1 x2 μ = some q) : AMet l 8 Y_M_rowOf [.ref a0, .int x1, .int x2] μ (some (.int q.1)) q.2 := by
  refine AMet.of (loc := [some (.ref a0), some (.int x1), some (.int x2), none]) pn_M_rowOf (Nat.le_of_ble_eq_true rfl) rfl ?_
  unfold f_M_rowOf at h
  obtain ⟨_, hk, h⟩ := bnd h
  refine aw_aload_n 1 d_M_rowOf_0 rfl rfl ?_
  obtain ⟨y1, h1, h⟩ := bnd h
  refine aw_invV (rest := []) (st' := [.int y1]) (As := []) 4 d_M_rowOf_1 rfl lv_M_234 (m_M_lastBeat h1) (by decide) (k_M_lastBeat h1) rfl rfl rfl (Nat.le_of_ble_eq_true rfl) rfl ?_
  refine aw_istore_n (loc' := [some (.ref a0), some (.int x1), some (.int x2), some (.int y1)]) 5 d_M_rowOf_4 rfl (by decide) rfl ?_
  refine aw_iload_n 6 d_M_rowOf_5 rfl rfl ?_
  refine aw_iconst (v := (-1 : Int32)) 7 d_M_rowOf_6 rfl (by decide) ?_
  refine aw_icmp_eq 27 10 d_M_rowOf_7 (by decide) rfl (fun c7 => ?_) (fun c7 => ?_)
  · have h := (if_pos c7).symm.trans h
    refine aw_ldc (v := (-1000000000 : Int32)) 29 d_M_rowOf_27 rfl c_M_192 ?_
    cases h
    exact aw_ireturn d_M_rowOf_29 rfl rfl
  · have h := (if_neg c7).symm.trans h
    refine aw_iload_n 11 d_M_rowOf_10 rfl rfl ?_
    refine aw_iconst (v := (-1 : Int32)) 12 d_M_rowOf_11 rfl (by decide) ?_
    refine aw_icmp_eq 30 15 d_M_rowOf_12 (by decide) rfl (fun c12 => ?_) (fun c12 => ?_)
    · have h := (if_pos c12).symm.trans h
      exact (j_M_rowOf_30 h)
    · have h := (if_neg c12).symm.trans h
      refine aw_iload_n 16 d_M_rowOf_15 rfl rfl ?_
      refine aw_i2l 17 d_M_rowOf_16 rfl ?_
      refine aw_lconst (v := (1 : Int64)) 18 d_M_rowOf_17 rfl (by decide) ?_
      refine aw_ldc2 (v := (23 : Int64)) 21 d_M_rowOf_18 rfl c_M_149 ?_
      obtain ⟨y21, h21, h⟩ := bnd h
      refine aw_invS (rest := []) (st' := [.int y21]) (As := [.long x1.toInt64, .long (1 : Int64), .long (23 : Int64)]) 24 d_M_rowOf_21 rfl ls_M_145 (m_M_lies h21) (by decide) rfl rfl (Nat.le_of_ble_eq_true rfl) rfl ?_
      refine aw_if_ne 30 27 d_M_rowOf_24 (by decide) rfl (fun c24 => ?_) (fun c24 => ?_)
      · have h := (if_neg c24).symm.trans h
        exact (j_M_rowOf_30 h)
      · have h := (if_pos c24).symm.trans h
        refine aw_ldc (v := (-1000000000 : Int32)) 29 d_M_rowOf_27 rfl c_M_192 ?_
        cases h
        exact aw_ireturn d_M_rowOf_29 rfl rfl
theorem k_M_rowOf {q : Int32 × MM} {a0 : Nat} {x1 : Int32} {x2 : Int32} {μ : MM} (h : f_M_rowOf a0 x1 x2 μ = some q) : μ.1[a0]? = some (0, 1) := by
  unfold f_M_rowOf at h
  obtain ⟨_, h1, _⟩ := bnd h
  exact kO_some h1
theorem m_M_way {l : Launch} {q : Int32 × MM} {a0 : Nat} {x1 : Int32} {μ : MM} (h : f_M_way a0 x1 μ = some q) : AMet l 9 Y_M_way [.ref a0, .int x1] μ (some (.int q.1)) q.2 := by
  refine AMet.of (loc := [some (.ref a0), some (.int x1)]) pn_M_way (Nat.le_of_ble_eq_true rfl) rfl ?_
  unfold f_M_way at h
  obtain ⟨_, hk, h⟩ := bnd h
  refine aw_aload_n 1 d_M_way_0 rfl rfl ?_
  refine aw_iload_n 2 d_M_way_1 rfl rfl ?_
  refine aw_iconst (v := (0 : Int32)) 3 d_M_way_2 rfl (by decide) ?_
  obtain ⟨q3, h3, h⟩ := bnd h
  refine aw_invV (rest := []) (st' := [.int q3.1]) (As := [.int x1, .int (0 : Int32)]) 6 d_M_way_3 rfl lv_M_269 (m_M_rowOf h3) (by decide) (k_M_rowOf h3) rfl rfl rfl (Nat.le_of_ble_eq_true rfl) rfl ?_
  cases h
  exact aw_ireturn d_M_way_6 rfl rfl
theorem k_M_way {q : Int32 × MM} {a0 : Nat} {x1 : Int32} {μ : MM} (h : f_M_way a0 x1 μ = some q) : μ.1[a0]? = some (0, 1) := by
  unfold f_M_way at h
  obtain ⟨_, h1, _⟩ := bnd h
  exact kO_some h1
theorem m_X_change {l : Launch} {q : Int32 × MM} {a0 : Nat} {x1 : Int32} {μ : MM} (h : f_X_change a0 x1 μ = some q) : AMet l 7 Y_X_change [.ref a0, .int x1] μ (some (.int q.1)) q.2 := by
  refine AMet.of (loc := [some (.ref a0), some (.int x1), none]) pn_X_change (Nat.le_of_ble_eq_true rfl) rfl ?_
  unfold f_X_change at h
  obtain ⟨_, hk, h⟩ := bnd h
  refine aw_aload_n 1 d_X_change_0 rfl rfl ?_
  refine aw_iload_n 2 d_X_change_1 rfl rfl ?_
  obtain ⟨y2, h2, h⟩ := bnd h
  refine aw_invV (rest := []) (st' := [.int y2]) (As := [.int x1]) 5 d_X_change_2 rfl lv_X_142 (m_X_asksRow h2) (by decide) (k_X_asksRow h2) rfl rfl rfl (Nat.le_of_ble_eq_true rfl) rfl ?_
  refine aw_if_ne 11 8 d_X_change_5 (by decide) rfl (fun c5 => ?_) (fun c5 => ?_)
  · have h := (if_neg c5).symm.trans h
    refine aw_aload_n 12 d_X_change_11 rfl rfl ?_
    obtain ⟨q12, h12, h⟩ := bnd h
    refine aw_invV (rest := []) (st' := [va_rf q12.1]) (As := []) 15 d_X_change_12 rfl lv_X_146 (m_X_explored h12) (by decide) (k_X_explored h12) rfl rfl rfl (Nat.le_of_ble_eq_true rfl) rfl ?_
    refine aw_astore_nq (loc' := [some (.ref a0), some (.int x1), some (va_rf q12.1)]) 16 d_X_change_15 rfl (by decide) rfl ?_
    refine aw_aload_nq 17 d_X_change_16 rfl rfl ?_
    refine aw_ifnull 36 20 d_X_change_17 (by decide) rfl (fun c17 => ?_) (fun z17 c17 => ?_)
    · have h := elim_n c17 h
      refine aw_bipush (v := (-2 : Int32)) 38 d_X_change_36 rfl (by decide) ?_
      cases h
      exact aw_ireturn d_X_change_38 rfl rfl
    · have h := elim_s c17 h
      try rw [c17]
      refine aw_aload_n 21 d_X_change_20 rfl rfl ?_
      refine aw_iconst (v := (1 : Int32)) 22 d_X_change_21 rfl (by decide) ?_
      obtain ⟨q22, h22, h⟩ := bnd h
      refine aw_invV (rest := []) (st' := [.int q22.1]) (As := [.int (1 : Int32)]) 25 d_X_change_22 rfl lv_X_150 (m_Wa_leastRow h22) (by decide) (k_Wa_leastRow h22) rfl rfl rfl (Nat.le_of_ble_eq_true rfl) rfl ?_
      refine aw_if_eq 36 28 d_X_change_25 (by decide) rfl (fun c25 => ?_) (fun c25 => ?_)
      · have h := (if_pos c25).symm.trans h
        refine aw_bipush (v := (-2 : Int32)) 38 d_X_change_36 rfl (by decide) ?_
        cases h
        exact aw_ireturn d_X_change_38 rfl rfl
      · have h := (if_neg c25).symm.trans h
        refine aw_aload_n 29 d_X_change_28 rfl rfl ?_
        refine aw_iload_n 30 d_X_change_29 rfl rfl ?_
        obtain ⟨y30, h30, h⟩ := bnd h
        refine aw_invV (rest := []) (st' := [.int y30]) (As := [.int x1]) 33 d_X_change_30 rfl lv_X_156 (m_Wa_told h30) (by decide) (k_Wa_told h30) rfl rfl rfl (Nat.le_of_ble_eq_true rfl) rfl ?_
        refine aw_goto 38 d_X_change_33 (by decide) ?_
        cases h
        exact aw_ireturn d_X_change_38 rfl rfl
  · have h := (if_pos c5).symm.trans h
    refine aw_ldc (v := (-1000000000 : Int32)) 10 d_X_change_8 rfl c_X_102 ?_
    cases h
    exact aw_ireturn d_X_change_10 rfl rfl
theorem k_X_change {q : Int32 × MM} {a0 : Nat} {x1 : Int32} {μ : MM} (h : f_X_change a0 x1 μ = some q) : μ.1[a0]? = some (0, 0) := by
  unfold f_X_change at h
  obtain ⟨_, h1, _⟩ := bnd h
  exact kO_some h1
theorem m_M_change {l : Launch} {q : Int32 × MM} {a0 : Nat} {x1 : Int32} {μ : MM} (h : f_M_change a0 x1 μ = some q) : AMet l 9 Y_M_change [.ref a0, .int x1] μ (some (.int q.1)) q.2 := by
  refine AMet.of (loc := [some (.ref a0), some (.int x1)]) pn_M_change (Nat.le_of_ble_eq_true rfl) rfl ?_
  unfold f_M_change at h
  obtain ⟨_, hk, h⟩ := bnd h
  refine aw_aload_n 1 d_M_change_0 rfl rfl ?_
  refine aw_iload_n 2 d_M_change_1 rfl rfl ?_
  refine aw_iconst (v := (1 : Int32)) 3 d_M_change_2 rfl (by decide) ?_
  obtain ⟨q3, h3, h⟩ := bnd h
  refine aw_invV (rest := []) (st' := [.int q3.1]) (As := [.int x1, .int (1 : Int32)]) 6 d_M_change_3 rfl lv_M_269 (m_M_rowOf h3) (by decide) (k_M_rowOf h3) rfl rfl rfl (Nat.le_of_ble_eq_true rfl) rfl ?_
  cases h
  exact aw_ireturn d_M_change_6 rfl rfl
theorem k_M_change {q : Int32 × MM} {a0 : Nat} {x1 : Int32} {μ : MM} (h : f_M_change a0 x1 μ = some q) : μ.1[a0]? = some (0, 1) := by
  unfold f_M_change at h
  obtain ⟨_, h1, _⟩ := bnd h
  exact kO_some h1
theorem m_Wa_nearer {l : Launch} {q : Int32} {x0 : Int32} {x1 : Int32} {μ : MM} (h : f_Wa_nearer x0 x1 = some q) : AMet l 2 Y_Wa_nearer [.int x0, .int x1] μ (some (.int q)) μ := by
  refine AMet.of (loc := [some (.int x0), some (.int x1), none, none]) pn_Wa_nearer (Nat.le_of_ble_eq_true rfl) rfl ?_
  unfold f_Wa_nearer at h
  refine aw_iload_n 1 d_Wa_nearer_0 rfl rfl ?_
  obtain ⟨y1, h1, h⟩ := bnd h
  refine aw_invS (rest := []) (st' := [.int y1]) (As := [.int x0]) 4 d_Wa_nearer_1 rfl ls_Wa_112 (m_Mt_abs_I h1) (by decide) rfl rfl (Nat.le_of_ble_eq_true rfl) rfl ?_
  refine aw_istore_n (loc' := [some (.int x0), some (.int x1), some (.int y1), none]) 5 d_Wa_nearer_4 rfl (by decide) rfl ?_
  refine aw_iload_n 6 d_Wa_nearer_5 rfl rfl ?_
  obtain ⟨y6, h6, h⟩ := bnd h
  refine aw_invS (rest := []) (st' := [.int y6]) (As := [.int x1]) 9 d_Wa_nearer_6 rfl ls_Wa_112 (m_Mt_abs_I h6) (by decide) rfl rfl (Nat.le_of_ble_eq_true rfl) rfl ?_
  refine aw_istore_n (loc' := [some (.int x0), some (.int x1), some (.int y1), some (.int y6)]) 10 d_Wa_nearer_9 rfl (by decide) rfl ?_
  refine aw_iload_n 11 d_Wa_nearer_10 rfl rfl ?_
  refine aw_iload_n 12 d_Wa_nearer_11 rfl rfl ?_
  refine aw_icmp_lt 25 15 d_Wa_nearer_12 (by decide) rfl (fun c12 => ?_) (fun c12 => ?_)
  · have h := (if_pos c12).symm.trans h
    refine aw_iload_n 26 d_Wa_nearer_25 rfl rfl ?_
    refine aw_goto 30 d_Wa_nearer_26 (by decide) ?_
    cases h
    exact aw_ireturn d_Wa_nearer_30 rfl rfl
  · have h := (if_neg c12).symm.trans h
    refine aw_iload_n 16 d_Wa_nearer_15 rfl rfl ?_
    refine aw_iload_n 17 d_Wa_nearer_16 rfl rfl ?_
    refine aw_icmp_ne 29 20 d_Wa_nearer_17 (by decide) rfl (fun c17 => ?_) (fun c17 => ?_)
    · have h := (if_neg c17).symm.trans h
      refine aw_iload_n 30 d_Wa_nearer_29 rfl rfl ?_
      cases h
      exact aw_ireturn d_Wa_nearer_30 rfl rfl
    · have h := (if_pos c17).symm.trans h
      refine aw_iload_n 21 d_Wa_nearer_20 rfl rfl ?_
      refine aw_iload_n 22 d_Wa_nearer_21 rfl rfl ?_
      refine aw_icmp_ge 29 25 d_Wa_nearer_22 (by decide) rfl (fun c22 => ?_) (fun c22 => ?_)
      · have h := (if_pos c22).symm.trans h
        refine aw_iload_n 30 d_Wa_nearer_29 rfl rfl ?_
        cases h
        exact aw_ireturn d_Wa_nearer_30 rfl rfl
      · have h := (if_neg c22).symm.trans h
        refine aw_iload_n 26 d_Wa_nearer_25 rfl rfl ?_
        refine aw_goto 30 d_Wa_nearer_26 (by decide) ?_
        cases h
        exact aw_ireturn d_Wa_nearer_30 rfl rfl
theorem l_Wa_nearest_63 {l : Launch} {μ0 : MM} {q : Int32 × MM} {a0 : Nat} {x1 : Int32} {μ : MM} : ∀ (n : Nat) (x2 : Int32) (x3 : Int32), f_Wa_nearest_L63 a0 x1 μ n x2 x3 = some q → AWm l Y_Wa_nearest 6 μ0 (some (.int q.1)) q.2 63 [some (.ref a0), some (.int x1), some (.int x2), some (.int x3)] [] μ := by
  intro n
  induction n with
  | zero =>
    intro x2 x3 h
    have h : (none : Option (Int32 × MM)) = some q := h
    cases h
  | succ n ih =>
    intro x2 x3 h
    rw [f_Wa_nearest_L63] at h
    refine aw_aload_n 64 d_Wa_nearest_63 rfl rfl ?_
    obtain ⟨y64, h64, h⟩ := bnd h
    refine aw_getI 67 d_Wa_nearest_64 rfl fg_Wa_45 (Or.inl rfl) h64 ?_
    refine aw_if_lt 131 70 d_Wa_nearest_67 (by decide) rfl (fun c67 => ?_) (fun c67 => ?_)
    · have h := (if_pos c67).symm.trans h
      refine aw_iload_n 132 d_Wa_nearest_131 rfl rfl ?_
      cases h
      exact aw_ireturn d_Wa_nearest_132 rfl rfl
    · have h := (if_neg c67).symm.trans h
      refine aw_iload_n 71 d_Wa_nearest_70 rfl rfl ?_
      refine aw_aload_n 72 d_Wa_nearest_71 rfl rfl ?_
      obtain ⟨y72, h72, h⟩ := bnd h
      refine aw_getR 75 d_Wa_nearest_72 rfl fg_Wa_20 rfl h72 ?_
      refine aw_aload_n 76 d_Wa_nearest_75 rfl rfl ?_
      obtain ⟨y76, h76, h⟩ := bnd h
      refine aw_getI 79 d_Wa_nearest_76 rfl fg_Wa_45 (Or.inl rfl) h76 ?_
      obtain ⟨y79, h79, h⟩ := bnd h
      refine aw_iald 80 d_Wa_nearest_79 rfl h79 ?_
      refine aw_icmp_ge 131 83 d_Wa_nearest_80 (by decide) rfl (fun c80 => ?_) (fun c80 => ?_)
      · have h := (if_pos c80).symm.trans h
        refine aw_iload_n 132 d_Wa_nearest_131 rfl rfl ?_
        cases h
        exact aw_ireturn d_Wa_nearest_132 rfl rfl
      · have h := (if_neg c80).symm.trans h
        refine aw_aload_n 84 d_Wa_nearest_83 rfl rfl ?_
        obtain ⟨y84, h84, h⟩ := bnd h
        refine aw_getR 87 d_Wa_nearest_84 rfl fg_Wa_17 rfl h84 ?_
        refine aw_aload_n 88 d_Wa_nearest_87 rfl rfl ?_
        obtain ⟨y88, h88, h⟩ := bnd h
        refine aw_getI 91 d_Wa_nearest_88 rfl fg_Wa_45 (Or.inl rfl) h88 ?_
        refine aw_sipush (v := (300 : Int32)) 94 d_Wa_nearest_91 rfl (by decide) ?_
        refine aw_imul 95 d_Wa_nearest_94 rfl ?_
        refine aw_iload_n 96 d_Wa_nearest_95 rfl rfl ?_
        refine aw_iadd 97 d_Wa_nearest_96 rfl ?_
        obtain ⟨y97, h97, h⟩ := bnd h
        refine aw_iald 98 d_Wa_nearest_97 rfl h97 ?_
        refine aw_iload_n 99 d_Wa_nearest_98 rfl rfl ?_
        refine aw_icmp_gt 125 102 d_Wa_nearest_99 (by decide) rfl (fun c99 => ?_) (fun c99 => ?_)
        · have h := (if_pos c99).symm.trans h
          refine aw_iinc (v := (x3 + (1 : Int32))) (loc' := [some (.ref a0), some (.int x1), some (.int x2), some (.int (x3 + (1 : Int32)))]) 128 d_Wa_nearest_125 rfl (by decide) rfl rfl rfl ?_
          refine aw_goto 63 d_Wa_nearest_128 (by decide) ?_
          exact (ih x2 (x3 + (1 : Int32)) h)
        · have h := (if_neg c99).symm.trans h
          refine aw_iload_n 103 d_Wa_nearest_102 rfl rfl ?_
          refine aw_aload_n 104 d_Wa_nearest_103 rfl rfl ?_
          obtain ⟨y104, h104, h⟩ := bnd h
          refine aw_getR 107 d_Wa_nearest_104 rfl fg_Wa_13 rfl h104 ?_
          refine aw_aload_n 108 d_Wa_nearest_107 rfl rfl ?_
          obtain ⟨y108, h108, h⟩ := bnd h
          refine aw_getI 111 d_Wa_nearest_108 rfl fg_Wa_45 (Or.inl rfl) h108 ?_
          refine aw_sipush (v := (300 : Int32)) 114 d_Wa_nearest_111 rfl (by decide) ?_
          refine aw_imul 115 d_Wa_nearest_114 rfl ?_
          refine aw_iload_n 116 d_Wa_nearest_115 rfl rfl ?_
          refine aw_iadd 117 d_Wa_nearest_116 rfl ?_
          obtain ⟨y117, h117, h⟩ := bnd h
          refine aw_iald 118 d_Wa_nearest_117 rfl h117 ?_
          obtain ⟨y118, h118, h⟩ := bnd h
          refine aw_invS (rest := [.int x2]) (st' := [.int y118, .int x2]) (As := [.int y117]) 121 d_Wa_nearest_118 rfl ls_Wa_75 (m_Fr_mills h118) (by decide) rfl rfl (Nat.le_of_ble_eq_true rfl) rfl ?_
          obtain ⟨y121, h121, h⟩ := bnd h
          refine aw_invS (rest := []) (st' := [.int y121]) (As := [.int x2, .int y118]) 124 d_Wa_nearest_121 rfl ls_Wa_109 (m_Wa_nearer h121) (by decide) rfl rfl (Nat.le_of_ble_eq_true rfl) rfl ?_
          refine aw_istore_n (loc' := [some (.ref a0), some (.int x1), some (.int y121), some (.int x3)]) 125 d_Wa_nearest_124 rfl (by decide) rfl ?_
          refine aw_iinc (v := (x3 + (1 : Int32))) (loc' := [some (.ref a0), some (.int x1), some (.int y121), some (.int (x3 + (1 : Int32)))]) 128 d_Wa_nearest_125 rfl (by decide) rfl rfl rfl ?_
          refine aw_goto 63 d_Wa_nearest_128 (by decide) ?_
          exact (ih y121 (x3 + (1 : Int32)) h)
theorem l_Wa_nearest_33 {l : Launch} {μ0 : MM} {q : Int32 × MM} {a0 : Nat} {x1 : Int32} {x2 : Int32} {k23 : Int32 → MM → Option (Int32 × MM)} (hk23 : ∀ (x2 : Int32) (μ : MM), k23 x2 μ = some q → AWm l Y_Wa_nearest 6 μ0 (some (.int q.1)) q.2 23 [some (.ref a0), some (.int x1), some (.int x2), none] [] μ) : ∀ (n : Nat) (x3 : Int32) (μ : MM), f_Wa_nearest_L33 k23 a0 x1 x2 n x3 μ = some q → AWm l Y_Wa_nearest 6 μ0 (some (.int q.1)) q.2 33 [some (.ref a0), some (.int x1), some (.int x2), some (.int x3)] [] μ := by
  intro n
  induction n with
  | zero =>
    intro x3 μ h
    have h : (none : Option (Int32 × MM)) = some q := h
    cases h
  | succ n ih =>
    intro x3 μ h
    rw [f_Wa_nearest_L33] at h
    refine aw_iload_n 34 d_Wa_nearest_33 rfl rfl ?_
    refine aw_bipush (v := (7 : Int32)) 36 d_Wa_nearest_34 rfl (by decide) ?_
    refine aw_icmp_ge 52 39 d_Wa_nearest_36 (by decide) rfl (fun c36 => ?_) (fun c36 => ?_)
    · have h := (if_pos c36).symm.trans h
      refine aw_iinc (v := (x2 + (1 : Int32))) (loc' := [some (.ref a0), some (.int x1), some (.int (x2 + (1 : Int32))), some (.int x3)]) 55 d_Wa_nearest_52 rfl (by decide) rfl rfl rfl ?_
      refine aw_goto 23 d_Wa_nearest_55 (by decide) ?_
      exact AW.wk [true, true, true, false] rfl (hk23 (x2 + (1 : Int32)) μ h)
    · have h := (if_neg c36).symm.trans h
      refine aw_aload_n 40 d_Wa_nearest_39 rfl rfl ?_
      refine aw_iload_n 41 d_Wa_nearest_40 rfl rfl ?_
      refine aw_iload_n 42 d_Wa_nearest_41 rfl rfl ?_
      refine aw_iconst (v := (1 : Int32)) 43 d_Wa_nearest_42 rfl (by decide) ?_
      obtain ⟨μ43, h43, h⟩ := bnd h
      refine aw_invV (rest := []) (st' := []) (As := [.int x2, .int x3, .int (1 : Int32)]) 46 d_Wa_nearest_43 rfl lv_Wa_97 (m_Wa_relax h43) (by decide) (k_Wa_relax h43) rfl rfl rfl (Nat.le_of_ble_eq_true rfl) rfl ?_
      refine aw_iinc (v := (x3 + (1 : Int32))) (loc' := [some (.ref a0), some (.int x1), some (.int x2), some (.int (x3 + (1 : Int32)))]) 49 d_Wa_nearest_46 rfl (by decide) rfl rfl rfl ?_
      refine aw_goto 33 d_Wa_nearest_49 (by decide) ?_
      exact (ih (x3 + (1 : Int32)) μ43 h)
theorem l_Wa_nearest_23 {l : Launch} {μ0 : MM} {q : Int32 × MM} {a0 : Nat} {x1 : Int32} : ∀ (n : Nat) (x2 : Int32) (μ : MM), f_Wa_nearest_L23 a0 x1 n x2 μ = some q → AWm l Y_Wa_nearest 6 μ0 (some (.int q.1)) q.2 23 [some (.ref a0), some (.int x1), some (.int x2), none] [] μ := by
  intro n
  induction n with
  | zero =>
    intro x2 μ h
    have h : (none : Option (Int32 × MM)) = some q := h
    cases h
  | succ n ih =>
    intro x2 μ h
    rw [f_Wa_nearest_L23] at h
    refine aw_iload_n 24 d_Wa_nearest_23 rfl rfl ?_
    refine aw_aload_n 25 d_Wa_nearest_24 rfl rfl ?_
    obtain ⟨y25, h25, h⟩ := bnd h
    refine aw_getI 28 d_Wa_nearest_25 rfl fg_Wa_45 (Or.inl rfl) h25 ?_
    refine aw_icmp_gt 58 31 d_Wa_nearest_28 (by decide) rfl (fun c28 => ?_) (fun c28 => ?_)
    · have h := (if_pos c28).symm.trans h
      refine aw_ldc (v := (-1000000000 : Int32)) 60 d_Wa_nearest_58 rfl c_Wa_108 ?_
      refine aw_istore_n (loc' := [some (.ref a0), some (.int x1), some (.int (-1000000000 : Int32)), none]) 61 d_Wa_nearest_60 rfl (by decide) rfl ?_
      refine aw_iconst (v := (0 : Int32)) 62 d_Wa_nearest_61 rfl (by decide) ?_
      refine aw_istore_n (loc' := [some (.ref a0), some (.int x1), some (.int (-1000000000 : Int32)), some (.int (0 : Int32))]) 63 d_Wa_nearest_62 rfl (by decide) rfl ?_
      exact (l_Wa_nearest_63 FU _ _ h)
    · have h := (if_neg c28).symm.trans h
      refine aw_iconst (v := (0 : Int32)) 32 d_Wa_nearest_31 rfl (by decide) ?_
      refine aw_istore_n (loc' := [some (.ref a0), some (.int x1), some (.int x2), some (.int (0 : Int32))]) 33 d_Wa_nearest_32 rfl (by decide) rfl ?_
      exact (l_Wa_nearest_33 ih FU _ _ h)
theorem m_Wa_nearest {l : Launch} {q : Int32 × MM} {a0 : Nat} {x1 : Int32} {μ : MM} (h : f_Wa_nearest a0 x1 μ = some q) : AMet l 6 Y_Wa_nearest [.ref a0, .int x1] μ (some (.int q.1)) q.2 := by
  refine AMet.of (loc := [some (.ref a0), some (.int x1), none, none]) pn_Wa_nearest (Nat.le_of_ble_eq_true rfl) rfl ?_
  unfold f_Wa_nearest at h
  obtain ⟨_, hk, h⟩ := bnd h
  refine aw_aload_n 1 d_Wa_nearest_0 rfl rfl ?_
  refine aw_iconst (v := (0 : Int32)) 2 d_Wa_nearest_1 rfl (by decide) ?_
  obtain ⟨μ2, h2, h⟩ := bnd h
  refine aw_invV (rest := []) (st' := []) (As := [.int (0 : Int32)]) 5 d_Wa_nearest_2 rfl lv_Wa_87 (m_Wa_price h2) (by decide) (k_Wa_price h2) rfl rfl rfl (Nat.le_of_ble_eq_true rfl) rfl ?_
  refine aw_aload_n 6 d_Wa_nearest_5 rfl rfl ?_
  obtain ⟨y6, h6, h⟩ := bnd h
  refine aw_getR 9 d_Wa_nearest_6 rfl fg_Wa_17 rfl h6 ?_
  refine aw_ldc (v := (2147483647 : Int32)) 11 d_Wa_nearest_9 rfl c_Wa_66 ?_
  obtain ⟨μ11, h11, h⟩ := bnd h
  refine aw_invS (rest := []) (st' := []) (As := [.ref y6, .int (2147483647 : Int32)]) 14 d_Wa_nearest_11 rfl ls_Wa_91 (m_Ar_fill_AI h11) (by decide) rfl rfl (Nat.le_of_ble_eq_true rfl) rfl ?_
  refine aw_aload_n 15 d_Wa_nearest_14 rfl rfl ?_
  obtain ⟨y15, h15, h⟩ := bnd h
  refine aw_getR 18 d_Wa_nearest_15 rfl fg_Wa_17 rfl h15 ?_
  refine aw_iconst (v := (0 : Int32)) 19 d_Wa_nearest_18 rfl (by decide) ?_
  refine aw_iconst (v := (0 : Int32)) 20 d_Wa_nearest_19 rfl (by decide) ?_
  obtain ⟨μ20, h20, h⟩ := bnd h
  refine aw_iast 21 d_Wa_nearest_20 rfl h20 ?_
  refine aw_iconst (v := (1 : Int32)) 22 d_Wa_nearest_21 rfl (by decide) ?_
  refine aw_istore_n (loc' := [some (.ref a0), some (.int x1), some (.int (1 : Int32)), none]) 23 d_Wa_nearest_22 rfl (by decide) rfl ?_
  exact (l_Wa_nearest_23 FU _ _ h)
theorem k_Wa_nearest {q : Int32 × MM} {a0 : Nat} {x1 : Int32} {μ : MM} (h : f_Wa_nearest a0 x1 μ = some q) : μ.1[a0]? = some (0, 11) := by
  unfold f_Wa_nearest at h
  obtain ⟨_, h1, _⟩ := bnd h
  exact kO_some h1
theorem m_X_bounded {l : Launch} {q : Int32 × MM} {a0 : Nat} {x1 : Int32} {μ : MM} (h : f_X_bounded a0 x1 μ = some q) : AMet l 7 Y_X_bounded [.ref a0, .int x1] μ (some (.int q.1)) q.2 := by
  refine AMet.of (loc := [some (.ref a0), some (.int x1), none]) pn_X_bounded (Nat.le_of_ble_eq_true rfl) rfl ?_
  unfold f_X_bounded at h
  obtain ⟨_, hk, h⟩ := bnd h
  refine aw_iload_n 1 d_X_bounded_0 rfl rfl ?_
  refine aw_if_lt 21 4 d_X_bounded_1 (by decide) rfl (fun c1 => ?_) (fun c1 => ?_)
  · have h := (if_pos c1).symm.trans h
    refine aw_ldc (v := (-1000000000 : Int32)) 23 d_X_bounded_21 rfl c_X_102 ?_
    cases h
    exact aw_ireturn d_X_bounded_23 rfl rfl
  · have h := (if_neg c1).symm.trans h
    refine aw_iload_n 5 d_X_bounded_4 rfl rfl ?_
    refine aw_ldc (v := (100000000 : Int32)) 7 d_X_bounded_5 rfl c_X_159 ?_
    refine aw_icmp_gt 21 10 d_X_bounded_7 (by decide) rfl (fun c7 => ?_) (fun c7 => ?_)
    · have h := (if_pos c7).symm.trans h
      refine aw_ldc (v := (-1000000000 : Int32)) 23 d_X_bounded_21 rfl c_X_102 ?_
      cases h
      exact aw_ireturn d_X_bounded_23 rfl rfl
    · have h := (if_neg c7).symm.trans h
      refine aw_aload_n 11 d_X_bounded_10 rfl rfl ?_
      obtain ⟨y11, h11, h⟩ := bnd h
      refine aw_getR 14 d_X_bounded_11 rfl fg_X_10 rfl h11 ?_
      obtain ⟨y14, h14, h⟩ := bnd h
      refine aw_invV (rest := []) (st' := [.int y14]) (As := []) 17 d_X_bounded_14 rfl lv_X_135 (m_Sc_lastBeat h14) (by decide) (k_Sc_lastBeat h14) rfl rfl rfl (Nat.le_of_ble_eq_true rfl) rfl ?_
      refine aw_iconst (v := (-1 : Int32)) 18 d_X_bounded_17 rfl (by decide) ?_
      refine aw_icmp_ne 24 21 d_X_bounded_18 (by decide) rfl (fun c18 => ?_) (fun c18 => ?_)
      · have h := (if_neg c18).symm.trans h
        refine aw_aload_n 25 d_X_bounded_24 rfl rfl ?_
        obtain ⟨q25, h25, h⟩ := bnd h
        refine aw_invV (rest := []) (st' := [va_rf q25.1]) (As := []) 28 d_X_bounded_25 rfl lv_X_146 (m_X_explored h25) (by decide) (k_X_explored h25) rfl rfl rfl (Nat.le_of_ble_eq_true rfl) rfl ?_
        refine aw_astore_nq (loc' := [some (.ref a0), some (.int x1), some (va_rf q25.1)]) 29 d_X_bounded_28 rfl (by decide) rfl ?_
        refine aw_aload_nq 30 d_X_bounded_29 rfl rfl ?_
        refine aw_ifnull 41 33 d_X_bounded_30 (by decide) rfl (fun c30 => ?_) (fun z30 c30 => ?_)
        · have h := elim_n c30 h
          refine aw_ldc (v := (-1000000000 : Int32)) 43 d_X_bounded_41 rfl c_X_102 ?_
          cases h
          exact aw_ireturn d_X_bounded_43 rfl rfl
        · have h := elim_s c30 h
          try rw [c30]
          refine aw_aload_n 34 d_X_bounded_33 rfl rfl ?_
          refine aw_iload_n 35 d_X_bounded_34 rfl rfl ?_
          obtain ⟨q35, h35, h⟩ := bnd h
          refine aw_invV (rest := []) (st' := [.int q35.1]) (As := [.int x1]) 38 d_X_bounded_35 rfl lv_X_160 (m_Wa_nearest h35) (by decide) (k_Wa_nearest h35) rfl rfl rfl (Nat.le_of_ble_eq_true rfl) rfl ?_
          refine aw_goto 43 d_X_bounded_38 (by decide) ?_
          cases h
          exact aw_ireturn d_X_bounded_43 rfl rfl
      · have h := (if_pos c18).symm.trans h
        refine aw_ldc (v := (-1000000000 : Int32)) 23 d_X_bounded_21 rfl c_X_102 ?_
        cases h
        exact aw_ireturn d_X_bounded_23 rfl rfl
theorem k_X_bounded {q : Int32 × MM} {a0 : Nat} {x1 : Int32} {μ : MM} (h : f_X_bounded a0 x1 μ = some q) : μ.1[a0]? = some (0, 0) := by
  unfold f_X_bounded at h
  obtain ⟨_, h1, _⟩ := bnd h
  exact kO_some h1
theorem l_M_bounded_228 {l : Launch} {μ0 : MM} {q : Int32 × MM} {a0 : Nat} {x1 : Int32} {x2 : Int32} {μ : MM} : ∀ (n : Nat) (x3 : Int32) (x4 : Int32), f_M_bounded_L228 a0 x1 x2 μ n x3 x4 = some q → AWm l Y_M_bounded 7 μ0 (some (.int q.1)) q.2 228 [some (.ref a0), some (.int x1), some (.int x2), some (.int x3), some (.int x4), none, none, none, none, none, none] [] μ := by
  intro n
  induction n with
  | zero =>
    intro x3 x4 h
    have h : (none : Option (Int32 × MM)) = some q := h
    cases h
  | succ n ih =>
    intro x3 x4 h
    rw [f_M_bounded_L228] at h
    refine aw_iload 230 d_M_bounded_228 rfl rfl ?_
    refine aw_aload_n 231 d_M_bounded_230 rfl rfl ?_
    obtain ⟨y231, h231, h⟩ := bnd h
    refine aw_getR 234 d_M_bounded_231 rfl fg_M_33 rfl h231 ?_
    refine aw_iload_n 235 d_M_bounded_234 rfl rfl ?_
    obtain ⟨y235, h235, h⟩ := bnd h
    refine aw_iald 236 d_M_bounded_235 rfl h235 ?_
    refine aw_icmp_ge 342 239 d_M_bounded_236 (by decide) rfl (fun c236 => ?_) (fun c236 => ?_)
    · have h := (if_pos c236).symm.trans h
      refine aw_iload_n 343 d_M_bounded_342 rfl rfl ?_
      cases h
      exact aw_ireturn d_M_bounded_343 rfl rfl
    · have h := (if_neg c236).symm.trans h
      refine aw_sipush (v := (300 : Int32)) 242 d_M_bounded_239 rfl (by decide) ?_
      refine aw_iload_n 243 d_M_bounded_242 rfl rfl ?_
      refine aw_imul 244 d_M_bounded_243 rfl ?_
      refine aw_iload 246 d_M_bounded_244 rfl rfl ?_
      refine aw_iadd 247 d_M_bounded_246 rfl ?_
      refine aw_istore (loc' := [some (.ref a0), some (.int x1), some (.int x2), some (.int x3), some (.int x4), some (.int (((300 : Int32) * x2) + x4)), none, none, none, none, none]) 249 d_M_bounded_247 rfl (by decide) rfl ?_
      refine aw_aload_n 250 d_M_bounded_249 rfl rfl ?_
      obtain ⟨y250, h250, h⟩ := bnd h
      refine aw_getR 253 d_M_bounded_250 rfl fg_M_45 rfl h250 ?_
      refine aw_iload 255 d_M_bounded_253 rfl rfl ?_
      obtain ⟨y255, h255, h⟩ := bnd h
      refine aw_lald 256 d_M_bounded_255 rfl h255 ?_
      refine aw_iload_n 257 d_M_bounded_256 rfl rfl ?_
      refine aw_i2l 258 d_M_bounded_257 rfl ?_
      refine aw_lcmp 259 d_M_bounded_258 rfl ?_
      refine aw_if_le 265 262 d_M_bounded_259 (by decide) rfl (fun c259 => ?_) (fun c259 => ?_)
      · have h := (if_pos c259).symm.trans h
        refine aw_aload_n 266 d_M_bounded_265 rfl rfl ?_
        obtain ⟨y266, h266, h⟩ := bnd h
        refine aw_getR 269 d_M_bounded_266 rfl fg_M_36 rfl h266 ?_
        refine aw_iload 271 d_M_bounded_269 rfl rfl ?_
        obtain ⟨y271, h271, h⟩ := bnd h
        refine aw_iald 272 d_M_bounded_271 rfl h271 ?_
        refine aw_aload_n 273 d_M_bounded_272 rfl rfl ?_
        obtain ⟨y273, h273, h⟩ := bnd h
        refine aw_getR 276 d_M_bounded_273 rfl fg_M_39 rfl h273 ?_
        refine aw_iload 278 d_M_bounded_276 rfl rfl ?_
        obtain ⟨y278, h278, h⟩ := bnd h
        refine aw_iald 279 d_M_bounded_278 rfl h278 ?_
        refine aw_aload_n 280 d_M_bounded_279 rfl rfl ?_
        obtain ⟨y280, h280, h⟩ := bnd h
        refine aw_getR 283 d_M_bounded_280 rfl fg_M_42 rfl h280 ?_
        refine aw_iload 285 d_M_bounded_283 rfl rfl ?_
        obtain ⟨y285, h285, h⟩ := bnd h
        refine aw_iald 286 d_M_bounded_285 rfl h285 ?_
        obtain ⟨y286, h286, h⟩ := bnd h
        refine aw_invS (rest := []) (st' := [.int y286]) (As := [.int y271, .int y278, .int y285]) 289 d_M_bounded_286 rfl ls_M_172 (m_M_mills h286) (by decide) rfl rfl (Nat.le_of_ble_eq_true rfl) rfl ?_
        refine aw_istore (loc' := [some (.ref a0), some (.int x1), some (.int x2), some (.int x3), some (.int x4), some (.int (((300 : Int32) * x2) + x4)), some (.int y286), none, none, none, none]) 291 d_M_bounded_289 rfl (by decide) rfl ?_
        refine aw_iload_n 292 d_M_bounded_291 rfl rfl ?_
        refine aw_ldc (v := (-1000000000 : Int32)) 294 d_M_bounded_292 rfl c_M_192 ?_
        refine aw_icmp_eq 333 297 d_M_bounded_294 (by decide) rfl (fun c294 => ?_) (fun c294 => ?_)
        · have h := (if_pos c294).symm.trans h
          refine aw_iload 335 d_M_bounded_333 rfl rfl ?_
          refine aw_istore_n (loc' := [some (.ref a0), some (.int x1), some (.int x2), some (.int y286), some (.int x4), some (.int (((300 : Int32) * x2) + x4)), some (.int y286), none, none, none, none]) 336 d_M_bounded_335 rfl (by decide) rfl ?_
          refine aw_iinc (v := (x4 + (1 : Int32))) (loc' := [some (.ref a0), some (.int x1), some (.int x2), some (.int y286), some (.int (x4 + (1 : Int32))), some (.int (((300 : Int32) * x2) + x4)), some (.int y286), none, none, none, none]) 339 d_M_bounded_336 rfl (by decide) rfl rfl rfl ?_
          refine aw_goto 228 d_M_bounded_339 (by decide) ?_
          exact AW.wk [true, true, true, true, true, false, false, true, true, true, true] rfl (ih y286 (x4 + (1 : Int32)) h)
        · have h := (if_neg c294).symm.trans h
          refine aw_iload 299 d_M_bounded_297 rfl rfl ?_
          refine aw_i2l 300 d_M_bounded_299 rfl ?_
          obtain ⟨y300, h300, h⟩ := bnd h
          refine aw_invS (rest := []) (st' := [.long y300]) (As := [.long y286.toInt64]) 303 d_M_bounded_300 rfl ls_M_225 (m_M_plain h300) (by decide) rfl rfl (Nat.le_of_ble_eq_true rfl) rfl ?_
          refine aw_iload_n 304 d_M_bounded_303 rfl rfl ?_
          refine aw_i2l 305 d_M_bounded_304 rfl ?_
          obtain ⟨y305, h305, h⟩ := bnd h
          refine aw_invS (rest := [.long y300]) (st' := [.long y305, .long y300]) (As := [.long x3.toInt64]) 308 d_M_bounded_305 rfl ls_M_225 (m_M_plain h305) (by decide) rfl rfl (Nat.le_of_ble_eq_true rfl) rfl ?_
          refine aw_lcmp 309 d_M_bounded_308 rfl ?_
          refine aw_if_lt 333 312 d_M_bounded_309 (by decide) rfl (fun c309 => ?_) (fun c309 => ?_)
          · have h := (if_pos c309).symm.trans h
            refine aw_iload 335 d_M_bounded_333 rfl rfl ?_
            refine aw_istore_n (loc' := [some (.ref a0), some (.int x1), some (.int x2), some (.int y286), some (.int x4), some (.int (((300 : Int32) * x2) + x4)), some (.int y286), none, none, none, none]) 336 d_M_bounded_335 rfl (by decide) rfl ?_
            refine aw_iinc (v := (x4 + (1 : Int32))) (loc' := [some (.ref a0), some (.int x1), some (.int x2), some (.int y286), some (.int (x4 + (1 : Int32))), some (.int (((300 : Int32) * x2) + x4)), some (.int y286), none, none, none, none]) 339 d_M_bounded_336 rfl (by decide) rfl rfl rfl ?_
            refine aw_goto 228 d_M_bounded_339 (by decide) ?_
            exact AW.wk [true, true, true, true, true, false, false, true, true, true, true] rfl (ih y286 (x4 + (1 : Int32)) h)
          · have h := (if_neg c309).symm.trans h
            refine aw_iload 314 d_M_bounded_312 rfl rfl ?_
            refine aw_i2l 315 d_M_bounded_314 rfl ?_
            obtain ⟨y315, h315, h⟩ := bnd h
            refine aw_invS (rest := []) (st' := [.long y315]) (As := [.long y286.toInt64]) 318 d_M_bounded_315 rfl ls_M_225 (m_M_plain h315) (by decide) rfl rfl (Nat.le_of_ble_eq_true rfl) rfl ?_
            refine aw_iload_n 319 d_M_bounded_318 rfl rfl ?_
            refine aw_i2l 320 d_M_bounded_319 rfl ?_
            obtain ⟨y320, h320, h⟩ := bnd h
            refine aw_invS (rest := [.long y315]) (st' := [.long y320, .long y315]) (As := [.long x3.toInt64]) 323 d_M_bounded_320 rfl ls_M_225 (m_M_plain h320) (by decide) rfl rfl (Nat.le_of_ble_eq_true rfl) rfl ?_
            refine aw_lcmp 324 d_M_bounded_323 rfl ?_
            refine aw_if_ne 336 327 d_M_bounded_324 (by decide) rfl (fun c324 => ?_) (fun c324 => ?_)
            · have h := (if_neg c324).symm.trans h
              refine aw_iinc (v := (x4 + (1 : Int32))) (loc' := [some (.ref a0), some (.int x1), some (.int x2), some (.int x3), some (.int (x4 + (1 : Int32))), some (.int (((300 : Int32) * x2) + x4)), some (.int y286), none, none, none, none]) 339 d_M_bounded_336 rfl (by decide) rfl rfl rfl ?_
              refine aw_goto 228 d_M_bounded_339 (by decide) ?_
              exact AW.wk [true, true, true, true, true, false, false, true, true, true, true] rfl (ih x3 (x4 + (1 : Int32)) h)
            · have h := (if_pos c324).symm.trans h
              refine aw_iload 329 d_M_bounded_327 rfl rfl ?_
              refine aw_iload_n 330 d_M_bounded_329 rfl rfl ?_
              refine aw_icmp_ge 336 333 d_M_bounded_330 (by decide) rfl (fun c330 => ?_) (fun c330 => ?_)
              · have h := (if_pos c330).symm.trans h
                refine aw_iinc (v := (x4 + (1 : Int32))) (loc' := [some (.ref a0), some (.int x1), some (.int x2), some (.int x3), some (.int (x4 + (1 : Int32))), some (.int (((300 : Int32) * x2) + x4)), some (.int y286), none, none, none, none]) 339 d_M_bounded_336 rfl (by decide) rfl rfl rfl ?_
                refine aw_goto 228 d_M_bounded_339 (by decide) ?_
                exact AW.wk [true, true, true, true, true, false, false, true, true, true, true] rfl (ih x3 (x4 + (1 : Int32)) h)
              · have h := (if_neg c330).symm.trans h
                refine aw_iload 335 d_M_bounded_333 rfl rfl ?_
                refine aw_istore_n (loc' := [some (.ref a0), some (.int x1), some (.int x2), some (.int y286), some (.int x4), some (.int (((300 : Int32) * x2) + x4)), some (.int y286), none, none, none, none]) 336 d_M_bounded_335 rfl (by decide) rfl ?_
                refine aw_iinc (v := (x4 + (1 : Int32))) (loc' := [some (.ref a0), some (.int x1), some (.int x2), some (.int y286), some (.int (x4 + (1 : Int32))), some (.int (((300 : Int32) * x2) + x4)), some (.int y286), none, none, none, none]) 339 d_M_bounded_336 rfl (by decide) rfl rfl rfl ?_
                refine aw_goto 228 d_M_bounded_339 (by decide) ?_
                exact AW.wk [true, true, true, true, true, false, false, true, true, true, true] rfl (ih y286 (x4 + (1 : Int32)) h)
      · have h := (if_neg c259).symm.trans h
        refine aw_goto 336 d_M_bounded_262 (by decide) ?_
        refine aw_iinc (v := (x4 + (1 : Int32))) (loc' := [some (.ref a0), some (.int x1), some (.int x2), some (.int x3), some (.int (x4 + (1 : Int32))), some (.int (((300 : Int32) * x2) + x4)), none, none, none, none, none]) 339 d_M_bounded_336 rfl (by decide) rfl rfl rfl ?_
        refine aw_goto 228 d_M_bounded_339 (by decide) ?_
        exact AW.wk [true, true, true, true, true, false, true, true, true, true, true] rfl (ih x3 (x4 + (1 : Int32)) h)
theorem l_M_bounded_132 {l : Launch} {μ0 : MM} {q : Int32 × MM} {a0 : Nat} {x1 : Int32} {x2 : Int32} {x3 : Int32} {x4 : Int32} {x5 : Int64} {k92 : Int32 → MM → Option (Int32 × MM)} (hk92 : ∀ (x3 : Int32) (μ : MM), k92 x3 μ = some q → AWm l Y_M_bounded 7 μ0 (some (.int q.1)) q.2 92 [some (.ref a0), some (.int x1), some (.int x2), some (.int x3), none, none, none, none, none, none, none] [] μ) {k100 : Int32 → MM → Option (Int32 × MM)} (hk100 : ∀ (x4 : Int32) (μ : MM), k100 x4 μ = some q → AWm l Y_M_bounded 7 μ0 (some (.int q.1)) q.2 100 [some (.ref a0), some (.int x1), some (.int x2), some (.int x3), some (.int x4), none, none, none, none, none, none] [] μ) : ∀ (n : Nat) (x7 : Int32) (μ : MM), f_M_bounded_L132 k92 k100 a0 x1 x2 x3 x4 x5 n x7 μ = some q → AWm l Y_M_bounded 7 μ0 (some (.int q.1)) q.2 132 [some (.ref a0), some (.int x1), some (.int x2), some (.int x3), some (.int x4), some (.long x5), none, some (.int x7), none, none, none] [] μ := by
  intro n
  induction n with
  | zero =>
    intro x7 μ h
    have h : (none : Option (Int32 × MM)) = some q := h
    cases h
  | succ n ih =>
    intro x7 μ h
    rw [f_M_bounded_L132] at h
    refine aw_iload 134 d_M_bounded_132 rfl rfl ?_
    refine aw_aload_n 135 d_M_bounded_134 rfl rfl ?_
    obtain ⟨y135, h135, h⟩ := bnd h
    refine aw_getR 138 d_M_bounded_135 rfl fg_M_33 rfl h135 ?_
    refine aw_iload_n 139 d_M_bounded_138 rfl rfl ?_
    refine aw_iconst (v := (1 : Int32)) 140 d_M_bounded_139 rfl (by decide) ?_
    refine aw_isub 141 d_M_bounded_140 rfl ?_
    obtain ⟨y141, h141, h⟩ := bnd h
    refine aw_iald 142 d_M_bounded_141 rfl h141 ?_
    refine aw_icmp_ge 210 145 d_M_bounded_142 (by decide) rfl (fun c142 => ?_) (fun c142 => ?_)
    · have h := (if_pos c142).symm.trans h
      refine aw_iinc (v := (x4 + (1 : Int32))) (loc' := [some (.ref a0), some (.int x1), some (.int x2), some (.int x3), some (.int (x4 + (1 : Int32))), some (.long x5), none, some (.int x7), none, none, none]) 213 d_M_bounded_210 rfl (by decide) rfl rfl rfl ?_
      refine aw_goto 100 d_M_bounded_213 (by decide) ?_
      exact AW.wk [true, true, true, true, true, false, true, false, true, true, true] rfl (hk100 (x4 + (1 : Int32)) μ h)
    · have h := (if_neg c142).symm.trans h
      refine aw_sipush (v := (300 : Int32)) 148 d_M_bounded_145 rfl (by decide) ?_
      refine aw_iload_n 149 d_M_bounded_148 rfl rfl ?_
      refine aw_imul 150 d_M_bounded_149 rfl ?_
      refine aw_aload_n 151 d_M_bounded_150 rfl rfl ?_
      refine aw_iload_n 152 d_M_bounded_151 rfl rfl ?_
      refine aw_iload 154 d_M_bounded_152 rfl rfl ?_
      refine aw_iload 156 d_M_bounded_154 rfl rfl ?_
      obtain ⟨q156, h156, h⟩ := bnd h
      refine aw_invV (rest := [.int ((300 : Int32) * x3)]) (st' := [.int q156.1, .int ((300 : Int32) * x3)]) (As := [.int x3, .int x7, .int x4]) 159 d_M_bounded_156 rfl lv_M_249 (m_M_nextOf h156) (by decide) (k_M_nextOf h156) rfl rfl rfl (Nat.le_of_ble_eq_true rfl) rfl ?_
      refine aw_iadd 160 d_M_bounded_159 rfl ?_
      refine aw_istore (loc' := [some (.ref a0), some (.int x1), some (.int x2), some (.int x3), some (.int x4), some (.long x5), none, some (.int x7), some (.int (((300 : Int32) * x3) + q156.1)), none, none]) 162 d_M_bounded_160 rfl (by decide) rfl ?_
      refine aw_lload 164 d_M_bounded_162 rfl rfl ?_
      refine aw_aload_n 165 d_M_bounded_164 rfl rfl ?_
      obtain ⟨y165, h165, h⟩ := bnd h
      refine aw_getR 168 d_M_bounded_165 rfl fg_M_45 rfl h165 ?_
      refine aw_sipush (v := (300 : Int32)) 171 d_M_bounded_168 rfl (by decide) ?_
      refine aw_iload_n 172 d_M_bounded_171 rfl rfl ?_
      refine aw_iconst (v := (1 : Int32)) 173 d_M_bounded_172 rfl (by decide) ?_
      refine aw_isub 174 d_M_bounded_173 rfl ?_
      refine aw_imul 175 d_M_bounded_174 rfl ?_
      refine aw_iload 177 d_M_bounded_175 rfl rfl ?_
      refine aw_iadd 178 d_M_bounded_177 rfl ?_
      obtain ⟨y178, h178, h⟩ := bnd h
      refine aw_lald 179 d_M_bounded_178 rfl h178 ?_
      refine aw_ladd 180 d_M_bounded_179 rfl ?_
      refine aw_lstore (loc' := [some (.ref a0), some (.int x1), some (.int x2), some (.int x3), some (.int x4), some (.long x5), none, some (.int x7), some (.int (((300 : Int32) * x3) + q156.1)), some (.long (x5 + y178)), none]) 182 d_M_bounded_180 rfl (by decide) rfl ?_
      refine aw_lload 184 d_M_bounded_182 rfl rfl ?_
      refine aw_aload_n 185 d_M_bounded_184 rfl rfl ?_
      obtain ⟨y185, h185, h⟩ := bnd h
      refine aw_getR 188 d_M_bounded_185 rfl fg_M_45 rfl h185 ?_
      refine aw_iload 190 d_M_bounded_188 rfl rfl ?_
      obtain ⟨y190, h190, h⟩ := bnd h
      refine aw_lald 191 d_M_bounded_190 rfl h190 ?_
      refine aw_lcmp 192 d_M_bounded_191 rfl ?_
      refine aw_if_ge 204 195 d_M_bounded_192 (by decide) rfl (fun c192 => ?_) (fun c192 => ?_)
      · have h := (if_pos c192).symm.trans h
        refine aw_iinc (v := (x7 + (1 : Int32))) (loc' := [some (.ref a0), some (.int x1), some (.int x2), some (.int x3), some (.int x4), some (.long x5), none, some (.int (x7 + (1 : Int32))), some (.int (((300 : Int32) * x3) + q156.1)), some (.long (x5 + y178)), none]) 207 d_M_bounded_204 rfl (by decide) rfl rfl rfl ?_
        refine aw_goto 132 d_M_bounded_207 (by decide) ?_
        exact AW.wk [true, true, true, true, true, true, true, true, false, false, true] rfl (ih (x7 + (1 : Int32)) q156.2 h)
      · have h := (if_neg c192).symm.trans h
        refine aw_aload_n 196 d_M_bounded_195 rfl rfl ?_
        obtain ⟨y196, h196, h⟩ := bnd h
        refine aw_getR 199 d_M_bounded_196 rfl fg_M_45 rfl h196 ?_
        refine aw_iload 201 d_M_bounded_199 rfl rfl ?_
        refine aw_lload 203 d_M_bounded_201 rfl rfl ?_
        obtain ⟨μ203, h203, h⟩ := bnd h
        refine aw_last 204 d_M_bounded_203 rfl h203 ?_
        refine aw_iinc (v := (x7 + (1 : Int32))) (loc' := [some (.ref a0), some (.int x1), some (.int x2), some (.int x3), some (.int x4), some (.long x5), none, some (.int (x7 + (1 : Int32))), some (.int (((300 : Int32) * x3) + q156.1)), some (.long (x5 + y178)), none]) 207 d_M_bounded_204 rfl (by decide) rfl rfl rfl ?_
        refine aw_goto 132 d_M_bounded_207 (by decide) ?_
        exact AW.wk [true, true, true, true, true, true, true, true, false, false, true] rfl (ih (x7 + (1 : Int32)) μ203 h)
theorem l_M_bounded_100 {l : Launch} {μ0 : MM} {q : Int32 × MM} {a0 : Nat} {x1 : Int32} {x2 : Int32} {x3 : Int32} {k92 : Int32 → MM → Option (Int32 × MM)} (hk92 : ∀ (x3 : Int32) (μ : MM), k92 x3 μ = some q → AWm l Y_M_bounded 7 μ0 (some (.int q.1)) q.2 92 [some (.ref a0), some (.int x1), some (.int x2), some (.int x3), none, none, none, none, none, none, none] [] μ) : ∀ (n : Nat) (x4 : Int32) (μ : MM), f_M_bounded_L100 k92 a0 x1 x2 x3 n x4 μ = some q → AWm l Y_M_bounded 7 μ0 (some (.int q.1)) q.2 100 [some (.ref a0), some (.int x1), some (.int x2), some (.int x3), some (.int x4), none, none, none, none, none, none] [] μ := by
  intro n
  induction n with
  | zero =>
    intro x4 μ h
    have h : (none : Option (Int32 × MM)) = some q := h
    cases h
  | succ n ih =>
    intro x4 μ h
    rw [f_M_bounded_L100] at h
    refine aw_iload 102 d_M_bounded_100 rfl rfl ?_
    refine aw_bipush (v := (6 : Int32)) 104 d_M_bounded_102 rfl (by decide) ?_
    refine aw_icmp_ge 216 107 d_M_bounded_104 (by decide) rfl (fun c104 => ?_) (fun c104 => ?_)
    · have h := (if_pos c104).symm.trans h
      refine aw_iinc (v := (x3 + (1 : Int32))) (loc' := [some (.ref a0), some (.int x1), some (.int x2), some (.int (x3 + (1 : Int32))), some (.int x4), none, none, none, none, none, none]) 219 d_M_bounded_216 rfl (by decide) rfl rfl rfl ?_
      refine aw_goto 92 d_M_bounded_219 (by decide) ?_
      exact AW.wk [true, true, true, true, false, true, true, true, true, true, true] rfl (hk92 (x3 + (1 : Int32)) μ h)
    · have h := (if_neg c104).symm.trans h
      refine aw_aload_n 108 d_M_bounded_107 rfl rfl ?_
      refine aw_iload_n 109 d_M_bounded_108 rfl rfl ?_
      refine aw_iload 111 d_M_bounded_109 rfl rfl ?_
      obtain ⟨y111, h111, h⟩ := bnd h
      refine aw_invV (rest := []) (st' := [.int y111]) (As := [.int x3, .int x4]) 114 d_M_bounded_111 rfl lv_M_246 (m_M_mayLink h111) (by decide) (k_M_mayLink h111) rfl rfl rfl (Nat.le_of_ble_eq_true rfl) rfl ?_
      refine aw_if_ne 120 117 d_M_bounded_114 (by decide) rfl (fun c114 => ?_) (fun c114 => ?_)
      · have h := (if_neg c114).symm.trans h
        refine aw_aload_n 121 d_M_bounded_120 rfl rfl ?_
        refine aw_iload_n 122 d_M_bounded_121 rfl rfl ?_
        refine aw_iload 124 d_M_bounded_122 rfl rfl ?_
        obtain ⟨y124, h124, h⟩ := bnd h
        refine aw_invV (rest := []) (st' := [.long y124]) (As := [.int x3, .int x4]) 127 d_M_bounded_124 rfl lv_M_238 (m_M_foulBy h124) (by decide) (k_M_foulBy h124) rfl rfl rfl (Nat.le_of_ble_eq_true rfl) rfl ?_
        refine aw_lstore (loc' := [some (.ref a0), some (.int x1), some (.int x2), some (.int x3), some (.int x4), some (.long y124), none, none, none, none, none]) 129 d_M_bounded_127 rfl (by decide) rfl ?_
        refine aw_iconst (v := (0 : Int32)) 130 d_M_bounded_129 rfl (by decide) ?_
        refine aw_istore (loc' := [some (.ref a0), some (.int x1), some (.int x2), some (.int x3), some (.int x4), some (.long y124), none, some (.int (0 : Int32)), none, none, none]) 132 d_M_bounded_130 rfl (by decide) rfl ?_
        exact (l_M_bounded_132 hk92 ih FU _ _ h)
      · have h := (if_pos c114).symm.trans h
        refine aw_goto 210 d_M_bounded_117 (by decide) ?_
        refine aw_iinc (v := (x4 + (1 : Int32))) (loc' := [some (.ref a0), some (.int x1), some (.int x2), some (.int x3), some (.int (x4 + (1 : Int32))), none, none, none, none, none, none]) 213 d_M_bounded_210 rfl (by decide) rfl rfl rfl ?_
        refine aw_goto 100 d_M_bounded_213 (by decide) ?_
        exact (ih (x4 + (1 : Int32)) μ h)
theorem l_M_bounded_92 {l : Launch} {μ0 : MM} {q : Int32 × MM} {a0 : Nat} {x1 : Int32} {x2 : Int32} : ∀ (n : Nat) (x3 : Int32) (μ : MM), f_M_bounded_L92 a0 x1 x2 n x3 μ = some q → AWm l Y_M_bounded 7 μ0 (some (.int q.1)) q.2 92 [some (.ref a0), some (.int x1), some (.int x2), some (.int x3), none, none, none, none, none, none, none] [] μ := by
  intro n
  induction n with
  | zero =>
    intro x3 μ h
    have h : (none : Option (Int32 × MM)) = some q := h
    cases h
  | succ n ih =>
    intro x3 μ h
    rw [f_M_bounded_L92] at h
    refine aw_iload_n 93 d_M_bounded_92 rfl rfl ?_
    refine aw_iload_n 94 d_M_bounded_93 rfl rfl ?_
    refine aw_icmp_gt 222 97 d_M_bounded_94 (by decide) rfl (fun c94 => ?_) (fun c94 => ?_)
    · have h := (if_pos c94).symm.trans h
      refine aw_ldc (v := (-1000000000 : Int32)) 224 d_M_bounded_222 rfl c_M_192 ?_
      refine aw_istore_n (loc' := [some (.ref a0), some (.int x1), some (.int x2), some (.int (-1000000000 : Int32)), none, none, none, none, none, none, none]) 225 d_M_bounded_224 rfl (by decide) rfl ?_
      refine aw_iconst (v := (0 : Int32)) 226 d_M_bounded_225 rfl (by decide) ?_
      refine aw_istore (loc' := [some (.ref a0), some (.int x1), some (.int x2), some (.int (-1000000000 : Int32)), some (.int (0 : Int32)), none, none, none, none, none, none]) 228 d_M_bounded_226 rfl (by decide) rfl ?_
      exact (l_M_bounded_228 FU _ _ h)
    · have h := (if_neg c94).symm.trans h
      refine aw_iconst (v := (-1 : Int32)) 98 d_M_bounded_97 rfl (by decide) ?_
      refine aw_istore (loc' := [some (.ref a0), some (.int x1), some (.int x2), some (.int x3), some (.int (-1 : Int32)), none, none, none, none, none, none]) 100 d_M_bounded_98 rfl (by decide) rfl ?_
      exact (l_M_bounded_100 ih FU _ _ h)
theorem j_M_bounded_77 {l : Launch} {μ0 : MM} {q : Int32 × MM} {a0 : Nat} {x1 : Int32} {x2 : Int32} {x3 : Int32} {x4 : Int32} {s0 : Nat} {s1 : Int32} {s2 : Int64} {μ : MM} {k35 : Int32 → MM → Option (Int32 × MM)} (hk35 : ∀ (x3 : Int32) (μ : MM), k35 x3 μ = some q → AWm l Y_M_bounded 7 μ0 (some (.int q.1)) q.2 35 [some (.ref a0), some (.int x1), some (.int x2), some (.int x3), none, none, none, none, none, none, none] [] μ) {k43 : Int32 → MM → Option (Int32 × MM)} (hk43 : ∀ (x4 : Int32) (μ : MM), k43 x4 μ = some q → AWm l Y_M_bounded 7 μ0 (some (.int q.1)) q.2 43 [some (.ref a0), some (.int x1), some (.int x2), some (.int x3), some (.int x4), none, none, none, none, none, none] [] μ) (h : f_M_bounded_J77 k35 k43 a0 x1 x2 x3 x4 s0 s1 s2 μ = some q) : AWm l Y_M_bounded 7 μ0 (some (.int q.1)) q.2 77 [some (.ref a0), some (.int x1), some (.int x2), some (.int x3), some (.int x4), none, none, none, none, none, none] [.long s2, .int s1, .ref s0] μ := by
  unfold f_M_bounded_J77 at h
  obtain ⟨μ77, h77, h⟩ := bnd h
  refine aw_last 78 d_M_bounded_77 rfl h77 ?_
  refine aw_iinc (v := (x4 + (1 : Int32))) (loc' := [some (.ref a0), some (.int x1), some (.int x2), some (.int x3), some (.int (x4 + (1 : Int32))), none, none, none, none, none, none]) 81 d_M_bounded_78 rfl (by decide) rfl rfl rfl ?_
  refine aw_goto 43 d_M_bounded_81 (by decide) ?_
  exact (hk43 (x4 + (1 : Int32)) μ77 h)
theorem l_M_bounded_43 {l : Launch} {μ0 : MM} {q : Int32 × MM} {a0 : Nat} {x1 : Int32} {x2 : Int32} {x3 : Int32} {k35 : Int32 → MM → Option (Int32 × MM)} (hk35 : ∀ (x3 : Int32) (μ : MM), k35 x3 μ = some q → AWm l Y_M_bounded 7 μ0 (some (.int q.1)) q.2 35 [some (.ref a0), some (.int x1), some (.int x2), some (.int x3), none, none, none, none, none, none, none] [] μ) : ∀ (n : Nat) (x4 : Int32) (μ : MM), f_M_bounded_L43 k35 a0 x1 x2 x3 n x4 μ = some q → AWm l Y_M_bounded 7 μ0 (some (.int q.1)) q.2 43 [some (.ref a0), some (.int x1), some (.int x2), some (.int x3), some (.int x4), none, none, none, none, none, none] [] μ := by
  intro n
  induction n with
  | zero =>
    intro x4 μ h
    have h : (none : Option (Int32 × MM)) = some q := h
    cases h
  | succ n ih =>
    intro x4 μ h
    rw [f_M_bounded_L43] at h
    refine aw_iload 45 d_M_bounded_43 rfl rfl ?_
    refine aw_aload_n 46 d_M_bounded_45 rfl rfl ?_
    obtain ⟨y46, h46, h⟩ := bnd h
    refine aw_getR 49 d_M_bounded_46 rfl fg_M_33 rfl h46 ?_
    refine aw_iload_n 50 d_M_bounded_49 rfl rfl ?_
    obtain ⟨y50, h50, h⟩ := bnd h
    refine aw_iald 51 d_M_bounded_50 rfl h50 ?_
    refine aw_icmp_ge 84 54 d_M_bounded_51 (by decide) rfl (fun c51 => ?_) (fun c51 => ?_)
    · have h := (if_pos c51).symm.trans h
      refine aw_iinc (v := (x3 + (1 : Int32))) (loc' := [some (.ref a0), some (.int x1), some (.int x2), some (.int (x3 + (1 : Int32))), some (.int x4), none, none, none, none, none, none]) 87 d_M_bounded_84 rfl (by decide) rfl rfl rfl ?_
      refine aw_goto 35 d_M_bounded_87 (by decide) ?_
      exact AW.wk [true, true, true, true, false, true, true, true, true, true, true] rfl (hk35 (x3 + (1 : Int32)) μ h)
    · have h := (if_neg c51).symm.trans h
      refine aw_aload_n 55 d_M_bounded_54 rfl rfl ?_
      obtain ⟨y55, h55, h⟩ := bnd h
      refine aw_getR 58 d_M_bounded_55 rfl fg_M_45 rfl h55 ?_
      refine aw_sipush (v := (300 : Int32)) 61 d_M_bounded_58 rfl (by decide) ?_
      refine aw_iload_n 62 d_M_bounded_61 rfl rfl ?_
      refine aw_imul 63 d_M_bounded_62 rfl ?_
      refine aw_iload 65 d_M_bounded_63 rfl rfl ?_
      refine aw_iadd 66 d_M_bounded_65 rfl ?_
      refine aw_iload_n 67 d_M_bounded_66 rfl rfl ?_
      refine aw_if_ne 74 70 d_M_bounded_67 (by decide) rfl (fun c67 => ?_) (fun c67 => ?_)
      · have h := (if_neg c67).symm.trans h
        refine aw_ldc2 (v := (1000000000000000 : Int64)) 77 d_M_bounded_74 rfl c_M_255 ?_
        exact (j_M_bounded_77 hk35 ih h)
      · have h := (if_pos c67).symm.trans h
        refine aw_lconst (v := (0 : Int64)) 71 d_M_bounded_70 rfl (by decide) ?_
        refine aw_goto 77 d_M_bounded_71 (by decide) ?_
        exact (j_M_bounded_77 hk35 ih h)
theorem l_M_bounded_35 {l : Launch} {μ0 : MM} {q : Int32 × MM} {a0 : Nat} {x1 : Int32} {x2 : Int32} : ∀ (n : Nat) (x3 : Int32) (μ : MM), f_M_bounded_L35 a0 x1 x2 n x3 μ = some q → AWm l Y_M_bounded 7 μ0 (some (.int q.1)) q.2 35 [some (.ref a0), some (.int x1), some (.int x2), some (.int x3), none, none, none, none, none, none, none] [] μ := by
  intro n
  induction n with
  | zero =>
    intro x3 μ h
    have h : (none : Option (Int32 × MM)) = some q := h
    cases h
  | succ n ih =>
    intro x3 μ h
    rw [f_M_bounded_L35] at h
    refine aw_iload_n 36 d_M_bounded_35 rfl rfl ?_
    refine aw_iload_n 37 d_M_bounded_36 rfl rfl ?_
    refine aw_icmp_gt 90 40 d_M_bounded_37 (by decide) rfl (fun c37 => ?_) (fun c37 => ?_)
    · have h := (if_pos c37).symm.trans h
      refine aw_iconst (v := (1 : Int32)) 91 d_M_bounded_90 rfl (by decide) ?_
      refine aw_istore_n (loc' := [some (.ref a0), some (.int x1), some (.int x2), some (.int (1 : Int32)), none, none, none, none, none, none, none]) 92 d_M_bounded_91 rfl (by decide) rfl ?_
      exact (l_M_bounded_92 FU _ _ h)
    · have h := (if_neg c37).symm.trans h
      refine aw_iconst (v := (0 : Int32)) 41 d_M_bounded_40 rfl (by decide) ?_
      refine aw_istore (loc' := [some (.ref a0), some (.int x1), some (.int x2), some (.int x3), some (.int (0 : Int32)), none, none, none, none, none, none]) 43 d_M_bounded_41 rfl (by decide) rfl ?_
      exact (l_M_bounded_43 ih FU _ _ h)
theorem m_M_bounded {l : Launch} {q : Int32 × MM} {a0 : Nat} {x1 : Int32} {μ : MM} (h : f_M_bounded a0 x1 μ = some q) : AMet l 7 Y_M_bounded [.ref a0, .int x1] μ (some (.int q.1)) q.2 := by
  refine AMet.of (loc := [some (.ref a0), some (.int x1), none, none, none, none, none, none, none, none, none]) pn_M_bounded (Nat.le_of_ble_eq_true rfl) rfl ?_
  unfold f_M_bounded at h
  obtain ⟨_, hk, h⟩ := bnd h
  refine aw_aload_n 1 d_M_bounded_0 rfl rfl ?_
  obtain ⟨y1, h1, h⟩ := bnd h
  refine aw_invV (rest := []) (st' := [.int y1]) (As := []) 4 d_M_bounded_1 rfl lv_M_234 (m_M_lastBeat h1) (by decide) (k_M_lastBeat h1) rfl rfl rfl (Nat.le_of_ble_eq_true rfl) rfl ?_
  refine aw_istore_n (loc' := [some (.ref a0), some (.int x1), some (.int y1), none, none, none, none, none, none, none, none]) 5 d_M_bounded_4 rfl (by decide) rfl ?_
  refine aw_iload_n 6 d_M_bounded_5 rfl rfl ?_
  refine aw_iconst (v := (-1 : Int32)) 7 d_M_bounded_6 rfl (by decide) ?_
  refine aw_icmp_eq 30 10 d_M_bounded_7 (by decide) rfl (fun c7 => ?_) (fun c7 => ?_)
  · have h := (if_pos c7).symm.trans h
    refine aw_ldc (v := (-1000000000 : Int32)) 32 d_M_bounded_30 rfl c_M_192 ?_
    cases h
    exact aw_ireturn d_M_bounded_32 rfl rfl
  · have h := (if_neg c7).symm.trans h
    refine aw_iload_n 11 d_M_bounded_10 rfl rfl ?_
    refine aw_i2l 12 d_M_bounded_11 rfl ?_
    refine aw_lconst (v := (0 : Int64)) 13 d_M_bounded_12 rfl (by decide) ?_
    refine aw_ldc2 (v := (100000000 : Int64)) 16 d_M_bounded_13 rfl c_M_273 ?_
    obtain ⟨y16, h16, h⟩ := bnd h
    refine aw_invS (rest := []) (st' := [.int y16]) (As := [.long x1.toInt64, .long (0 : Int64), .long (100000000 : Int64)]) 19 d_M_bounded_16 rfl ls_M_145 (m_M_lies h16) (by decide) rfl rfl (Nat.le_of_ble_eq_true rfl) rfl ?_
    refine aw_if_eq 30 22 d_M_bounded_19 (by decide) rfl (fun c19 => ?_) (fun c19 => ?_)
    · have h := (if_pos c19).symm.trans h
      refine aw_ldc (v := (-1000000000 : Int32)) 32 d_M_bounded_30 rfl c_M_192 ?_
      cases h
      exact aw_ireturn d_M_bounded_32 rfl rfl
    · have h := (if_neg c19).symm.trans h
      refine aw_aload_n 23 d_M_bounded_22 rfl rfl ?_
      refine aw_iload_n 24 d_M_bounded_23 rfl rfl ?_
      obtain ⟨q24, h24, h⟩ := bnd h
      refine aw_invV (rest := []) (st' := [.int q24.1]) (As := [.int y1]) 27 d_M_bounded_24 rfl lv_M_252 (m_M_lays h24) (by decide) (k_M_lays h24) rfl rfl rfl (Nat.le_of_ble_eq_true rfl) rfl ?_
      refine aw_if_ne 33 30 d_M_bounded_27 (by decide) rfl (fun c27 => ?_) (fun c27 => ?_)
      · have h := (if_neg c27).symm.trans h
        refine aw_iconst (v := (0 : Int32)) 34 d_M_bounded_33 rfl (by decide) ?_
        refine aw_istore_n (loc' := [some (.ref a0), some (.int x1), some (.int y1), some (.int (0 : Int32)), none, none, none, none, none, none, none]) 35 d_M_bounded_34 rfl (by decide) rfl ?_
        exact (l_M_bounded_35 FU _ _ h)
      · have h := (if_pos c27).symm.trans h
        refine aw_ldc (v := (-1000000000 : Int32)) 32 d_M_bounded_30 rfl c_M_192 ?_
        cases h
        exact aw_ireturn d_M_bounded_32 rfl rfl
theorem k_M_bounded {q : Int32 × MM} {a0 : Nat} {x1 : Int32} {μ : MM} (h : f_M_bounded a0 x1 μ = some q) : μ.1[a0]? = some (0, 1) := by
  unfold f_M_bounded at h
  obtain ⟨_, h1, _⟩ := bnd h
  exact kO_some h1
theorem j_X_singer_25 {l : Launch} {μ0 : MM} {q : Int32 × MM} {a0 : Nat} {x1 : Int32} {x2 : Int32} {x3 : Int32} {x4 : Int32} {s0 : Int32} {μ : MM} (h : f_X_singer_J25 a0 x1 x2 x3 x4 s0 μ = some q) : AWm l Y_X_singer 2 μ0 (some (.int q.1)) q.2 25 [some (.ref a0), some (.int x1), some (.int x2), some (.int x3), some (.int x4), none, none] [.int s0] μ := by
  unfold f_X_singer_J25 at h
  refine aw_istore (loc' := [some (.ref a0), some (.int x1), some (.int x2), some (.int x3), some (.int x4), some (.int s0), none]) 27 d_X_singer_25 rfl (by decide) rfl ?_
  refine aw_iload 29 d_X_singer_27 rfl rfl ?_
  refine aw_if_eq 66 32 d_X_singer_29 (by decide) rfl (fun c29 => ?_) (fun c29 => ?_)
  · have h := (if_pos c29).symm.trans h
    refine aw_iconst (v := (-1 : Int32)) 67 d_X_singer_66 rfl (by decide) ?_
    cases h
    exact aw_ireturn d_X_singer_67 rfl rfl
  · have h := (if_neg c29).symm.trans h
    refine aw_iload_n 33 d_X_singer_32 rfl rfl ?_
    refine aw_iconst (v := (1 : Int32)) 34 d_X_singer_33 rfl (by decide) ?_
    refine aw_icmp_lt 66 37 d_X_singer_34 (by decide) rfl (fun c34 => ?_) (fun c34 => ?_)
    · have h := (if_pos c34).symm.trans h
      refine aw_iconst (v := (-1 : Int32)) 67 d_X_singer_66 rfl (by decide) ?_
      cases h
      exact aw_ireturn d_X_singer_67 rfl rfl
    · have h := (if_neg c34).symm.trans h
      refine aw_iload_n 38 d_X_singer_37 rfl rfl ?_
      refine aw_bipush (v := (9 : Int32)) 40 d_X_singer_38 rfl (by decide) ?_
      refine aw_icmp_gt 66 43 d_X_singer_40 (by decide) rfl (fun c40 => ?_) (fun c40 => ?_)
      · have h := (if_pos c40).symm.trans h
        refine aw_iconst (v := (-1 : Int32)) 67 d_X_singer_66 rfl (by decide) ?_
        cases h
        exact aw_ireturn d_X_singer_67 rfl rfl
      · have h := (if_neg c40).symm.trans h
        refine aw_iload 45 d_X_singer_43 rfl rfl ?_
        refine aw_if_lt 66 48 d_X_singer_45 (by decide) rfl (fun c45 => ?_) (fun c45 => ?_)
        · have h := (if_pos c45).symm.trans h
          refine aw_iconst (v := (-1 : Int32)) 67 d_X_singer_66 rfl (by decide) ?_
          cases h
          exact aw_ireturn d_X_singer_67 rfl rfl
        · have h := (if_neg c45).symm.trans h
          refine aw_iload 50 d_X_singer_48 rfl rfl ?_
          refine aw_iconst (v := (1 : Int32)) 51 d_X_singer_50 rfl (by decide) ?_
          refine aw_icmp_gt 66 54 d_X_singer_51 (by decide) rfl (fun c51 => ?_) (fun c51 => ?_)
          · have h := (if_pos c51).symm.trans h
            refine aw_iconst (v := (-1 : Int32)) 67 d_X_singer_66 rfl (by decide) ?_
            cases h
            exact aw_ireturn d_X_singer_67 rfl rfl
          · have h := (if_neg c51).symm.trans h
            refine aw_aload_n 55 d_X_singer_54 rfl rfl ?_
            obtain ⟨y55, h55, h⟩ := bnd h
            refine aw_getR 58 d_X_singer_55 rfl fg_X_21 rfl h55 ?_
            obtain ⟨y58, h58, h⟩ := bnd h
            refine aw_getI 61 d_X_singer_58 rfl fg_X_163 (Or.inl rfl) h58 ?_
            refine aw_bipush (v := (8 : Int32)) 63 d_X_singer_61 rfl (by decide) ?_
            refine aw_icmp_lt 68 66 d_X_singer_63 (by decide) rfl (fun c63 => ?_) (fun c63 => ?_)
            · have h := (if_pos c63).symm.trans h
              refine aw_aload_n 69 d_X_singer_68 rfl rfl ?_
              obtain ⟨y69, h69, h⟩ := bnd h
              refine aw_getR 72 d_X_singer_69 rfl fg_X_21 rfl h69 ?_
              obtain ⟨y72, h72, h⟩ := bnd h
              refine aw_getI 75 d_X_singer_72 rfl fg_X_163 (Or.inl rfl) h72 ?_
              refine aw_istore (loc' := [some (.ref a0), some (.int x1), some (.int x2), some (.int x3), some (.int x4), some (.int s0), some (.int y72)]) 77 d_X_singer_75 rfl (by decide) rfl ?_
              refine aw_aload_n 78 d_X_singer_77 rfl rfl ?_
              obtain ⟨y78, h78, h⟩ := bnd h
              refine aw_getR 81 d_X_singer_78 rfl fg_X_21 rfl h78 ?_
              obtain ⟨y81, h81, h⟩ := bnd h
              refine aw_getR 84 d_X_singer_81 rfl fg_X_167 rfl h81 ?_
              refine aw_iload 86 d_X_singer_84 rfl rfl ?_
              refine aw_iload_n 87 d_X_singer_86 rfl rfl ?_
              obtain ⟨μ87, h87, h⟩ := bnd h
              refine aw_iast 88 d_X_singer_87 rfl h87 ?_
              refine aw_aload_n 89 d_X_singer_88 rfl rfl ?_
              obtain ⟨y89, h89, h⟩ := bnd h
              refine aw_getR 92 d_X_singer_89 rfl fg_X_21 rfl h89 ?_
              obtain ⟨y92, h92, h⟩ := bnd h
              refine aw_getR 95 d_X_singer_92 rfl fg_X_170 rfl h92 ?_
              refine aw_iload 97 d_X_singer_95 rfl rfl ?_
              refine aw_iload_n 98 d_X_singer_97 rfl rfl ?_
              obtain ⟨μ98, h98, h⟩ := bnd h
              refine aw_iast 99 d_X_singer_98 rfl h98 ?_
              refine aw_aload_n 100 d_X_singer_99 rfl rfl ?_
              obtain ⟨y100, h100, h⟩ := bnd h
              refine aw_getR 103 d_X_singer_100 rfl fg_X_21 rfl h100 ?_
              obtain ⟨y103, h103, h⟩ := bnd h
              refine aw_getR 106 d_X_singer_103 rfl fg_X_173 rfl h103 ?_
              refine aw_iload 108 d_X_singer_106 rfl rfl ?_
              refine aw_iload_n 109 d_X_singer_108 rfl rfl ?_
              obtain ⟨μ109, h109, h⟩ := bnd h
              refine aw_iast 110 d_X_singer_109 rfl h109 ?_
              refine aw_aload_n 111 d_X_singer_110 rfl rfl ?_
              obtain ⟨y111, h111, h⟩ := bnd h
              refine aw_getR 114 d_X_singer_111 rfl fg_X_21 rfl h111 ?_
              obtain ⟨y114, h114, h⟩ := bnd h
              refine aw_getR 117 d_X_singer_114 rfl fg_X_176 rfl h114 ?_
              refine aw_iload 119 d_X_singer_117 rfl rfl ?_
              refine aw_iload 121 d_X_singer_119 rfl rfl ?_
              obtain ⟨μ121, h121, h⟩ := bnd h
              refine aw_iast 122 d_X_singer_121 rfl h121 ?_
              refine aw_aload_n 123 d_X_singer_122 rfl rfl ?_
              obtain ⟨y123, h123, h⟩ := bnd h
              refine aw_getR 126 d_X_singer_123 rfl fg_X_21 rfl h123 ?_
              refine aw_dup 127 d_X_singer_126 rfl rfl ?_
              obtain ⟨y127, h127, h⟩ := bnd h
              refine aw_getI 130 d_X_singer_127 rfl fg_X_163 (Or.inl rfl) h127 ?_
              refine aw_iconst (v := (1 : Int32)) 131 d_X_singer_130 rfl (by decide) ?_
              refine aw_iadd 132 d_X_singer_131 rfl ?_
              obtain ⟨μ132, h132, h⟩ := bnd h
              refine aw_putI 135 false d_X_singer_132 rfl fp_X_163 (fun z => nomatch z) rfl h132 ?_
              refine aw_aload_n 136 d_X_singer_135 rfl rfl ?_
              obtain ⟨q136, h136, h⟩ := bnd h
              refine aw_invV (rest := []) (st' := [.int q136.1]) (As := []) 139 d_X_singer_136 rfl lv_X_88 (m_X_changed h136) (by decide) (k_X_changed h136) rfl rfl rfl (Nat.le_of_ble_eq_true rfl) rfl ?_
              refine aw_pop 140 d_X_singer_139 rfl rfl ?_
              refine aw_iload 142 d_X_singer_140 rfl rfl ?_
              cases h
              exact aw_ireturn d_X_singer_142 rfl rfl
            · have h := (if_neg c63).symm.trans h
              refine aw_iconst (v := (-1 : Int32)) 67 d_X_singer_66 rfl (by decide) ?_
              cases h
              exact aw_ireturn d_X_singer_67 rfl rfl
theorem j_X_singer_24 {l : Launch} {μ0 : MM} {q : Int32 × MM} {a0 : Nat} {x1 : Int32} {x2 : Int32} {x3 : Int32} {x4 : Int32} {μ : MM} (h : f_X_singer_J24 a0 x1 x2 x3 x4 μ = some q) : AWm l Y_X_singer 2 μ0 (some (.int q.1)) q.2 24 [some (.ref a0), some (.int x1), some (.int x2), some (.int x3), some (.int x4), none, none] [] μ := by
  unfold f_X_singer_J24 at h
  refine aw_iconst (v := (0 : Int32)) 25 d_X_singer_24 rfl (by decide) ?_
  exact (j_X_singer_25 h)
theorem m_X_singer {l : Launch} {q : Int32 × MM} {a0 : Nat} {x1 : Int32} {x2 : Int32} {x3 : Int32} {x4 : Int32} {μ : MM} (h : f_X_singer a0 x1 x2 x3 x4 μ = some q) : AMet l 2 Y_X_singer [.ref a0, .int x1, .int x2, .int x3, .int x4] μ (some (.int q.1)) q.2 := by
  refine AMet.of (loc := [some (.ref a0), some (.int x1), some (.int x2), some (.int x3), some (.int x4), none, none]) pn_X_singer (Nat.le_of_ble_eq_true rfl) rfl ?_
  unfold f_X_singer at h
  obtain ⟨_, hk, h⟩ := bnd h
  refine aw_iload_n 1 d_X_singer_0 rfl rfl ?_
  refine aw_if_lt 24 4 d_X_singer_1 (by decide) rfl (fun c1 => ?_) (fun c1 => ?_)
  · have h := (if_pos c1).symm.trans h
    exact (j_X_singer_24 h)
  · have h := (if_neg c1).symm.trans h
    refine aw_iload_n 5 d_X_singer_4 rfl rfl ?_
    refine aw_bipush (v := (6 : Int32)) 7 d_X_singer_5 rfl (by decide) ?_
    refine aw_icmp_ge 24 10 d_X_singer_7 (by decide) rfl (fun c7 => ?_) (fun c7 => ?_)
    · have h := (if_pos c7).symm.trans h
      exact (j_X_singer_24 h)
    · have h := (if_neg c7).symm.trans h
      refine aw_iload_n 11 d_X_singer_10 rfl rfl ?_
      refine aw_if_lt 24 14 d_X_singer_11 (by decide) rfl (fun c11 => ?_) (fun c11 => ?_)
      · have h := (if_pos c11).symm.trans h
        exact (j_X_singer_24 h)
      · have h := (if_neg c11).symm.trans h
        refine aw_iload_n 15 d_X_singer_14 rfl rfl ?_
        refine aw_bipush (v := (16 : Int32)) 17 d_X_singer_15 rfl (by decide) ?_
        refine aw_icmp_ge 24 20 d_X_singer_17 (by decide) rfl (fun c17 => ?_) (fun c17 => ?_)
        · have h := (if_pos c17).symm.trans h
          exact (j_X_singer_24 h)
        · have h := (if_neg c17).symm.trans h
          refine aw_iconst (v := (1 : Int32)) 21 d_X_singer_20 rfl (by decide) ?_
          refine aw_goto 25 d_X_singer_21 (by decide) ?_
          exact (j_X_singer_25 h)
theorem k_X_singer {q : Int32 × MM} {a0 : Nat} {x1 : Int32} {x2 : Int32} {x3 : Int32} {x4 : Int32} {μ : MM} (h : f_X_singer a0 x1 x2 x3 x4 μ = some q) : μ.1[a0]? = some (0, 0) := by
  unfold f_X_singer at h
  obtain ⟨_, h1, _⟩ := bnd h
  exact kO_some h1
