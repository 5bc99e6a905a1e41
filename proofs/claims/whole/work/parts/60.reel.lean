/-! LAYER 2: the reel and the tape -/
theorem b255 (z : Int32) : z.toInt8.toInt32 &&& 255 = z &&& 255 := by
  apply Int32.toBitVec_inj.mp
  rw [Int32.toBitVec_and, Int32.toBitVec_and, Int8.toBitVec_toInt32, Int32.toBitVec_toInt8]
  apply BitVec.eq_of_getLsbD_eq
  intro i hi
  rw [BitVec.getLsbD_and, BitVec.getLsbD_and, BitVec.getLsbD_signExtend, BitVec.getLsbD_signExtend]
  have h255 : ∀ j, j < 32 → 8 ≤ j → (Int32.toBitVec 255).getLsbD j = false := by decide +kernel
  rcases Nat.lt_or_ge i 8 with h | h
  · rw [if_pos h, decide_eq_true hi, decide_eq_true h, if_pos (show i < 32 from hi), Bool.true_and, Bool.true_and]
  · rw [h255 i hi h, Bool.and_false, Bool.and_false]
def RLx (n : Nat) (μ : MM) : Prop := gI μ 38 1 = nI n ∧ gI μ 49 1 = nI n ∧ ∀ k, k < 220 → gI μ 39 k = gI μ 50 k &&& 255
def Prl (a k : Nat) : Bool := a == 39 || a == 50 || (a == 38 && k == 1) || (a == 49 && k == 1)
/-- one int is fed to the class: four bytes -/
def f4 (x : Int32) (n : Nat) (g : Nat → Int32) : Nat → Int32 := fun k => if k = n then ishr x 24 &&& 255 else if k = n + 1 then ishr x 16 &&& 255 else if k = n + 2 then ishr x 8 &&& 255 else if k = n + 3 then ishr x 0 &&& 255 else g k
def PrX (a k : Nat) : Bool := a == 39 || (a == 38 && k == 1)
def PrM (a k : Nat) : Bool := a == 50 || (a == 49 && k == 1)
theorem add_1 {μ : MM} (hw : Wf μ) {n : Nat} (hn : n < 220) (hl : gI μ 38 1 = nI n) (x s : Int32) (hs : ¬ s < 0) (f : Nat) : ∃ μ', f_Rl_add_L3 38 x (f + 1) s μ = f_Rl_add_L3 38 x f (s + (-8)) μ' ∧ Sm PrX μ μ' ∧ gI μ' 38 1 = nI (n + 1) ∧ gI μ' 39 = upd (gI μ 39) n (ishr x s &&& 255) := by
  obtain ⟨μa, hμa⟩ : ∃ y, y = sI μ 39 n (ishr x s &&& 255) := ⟨_, rfl⟩
  obtain ⟨μb, hμb⟩ : ∃ y, y = sI μa 38 1 (nI (n + 1)) := ⟨_, rfl⟩
  have sa : Sm PrX μ μa := by rw [hμa]; exact Sm.sI rfl
  have sb : Sm PrX μ μb := by rw [hμb]; exact sa.tr (Sm.sI rfl)
  have ga : gI μa 38 1 = nI n := by rw [hμa, gI_sI_ne (by decide)]; exact hl
  refine ⟨μb, ?_, sb, by rw [hμb, gI_sI]; simp [upd], by rw [hμb, gI_sI_ne (by decide), hμa, gI_sI]⟩
  rw [e_Rl_add_L3, if_neg hs, rI_38 hw, bsome, hl, if_neg (show ¬ (220 : Int32) ≤ nI n from nI_ge (b := 220) (by omega) (by omega)), rR_38_0 hw, bsome, bsome, uI_39 hw hn, bsome, ← hμa, rI_38 (sa.wf hw), bsome, ga, nI_1, pI_38 (sa.wf hw), bsome, ← hμb]
theorem s_add {μ : MM} (hw : Wf μ) {n : Nat} (hn : n + 4 ≤ 220) (hl : gI μ 38 1 = nI n) (x : Int32) : ∃ μ', f_Rl_add 38 x μ = some μ' ∧ Sm PrX μ μ' ∧ gI μ' 38 1 = nI (n + 4) ∧ gI μ' 39 = f4 x n (gI μ 39) := by
  obtain ⟨m1, e1, s1, l1, g1⟩ := add_1 hw (n := n) (by omega) hl x 24 (by decide) 999999999
  obtain ⟨m2, e2, s2, l2, g2⟩ := add_1 (s1.wf hw) (n := n + 1) (by omega) l1 x 16 (by decide) 999999998
  obtain ⟨m3, e3, s3, l3, g3⟩ := add_1 ((s1.tr s2).wf hw) (n := n + 2) (by omega) l2 x 8 (by decide) 999999997
  obtain ⟨m4, e4, s4, l4, g4⟩ := add_1 (((s1.tr s2).tr s3).wf hw) (n := n + 3) (by omega) l3 x 0 (by decide) 999999996
  refine ⟨m4, ?_, ((s1.tr s2).tr s3).tr s4, l4, ?_⟩
  · unfold f_Rl_add
    rw [kO_38 hw, bsome]
    show f_Rl_add_L3 38 x (999999999 + 1) 24 μ = _
    rw [e1]
    show f_Rl_add_L3 38 x (999999998 + 1) 16 m1 = _
    rw [e2]
    show f_Rl_add_L3 38 x (999999997 + 1) 8 m2 = _
    rw [e3]
    show f_Rl_add_L3 38 x (999999996 + 1) 0 m3 = _
    rw [e4]
    show f_Rl_add_L3 38 x (999999995 + 1) (-8) m4 = _
    rw [e_Rl_add_L3, if_pos (by decide)]
  · rw [g4, g3, g2, g1]
    funext k
    unfold f4 upd
    by_cases h3 : k = n + 3
    · rw [if_pos h3, if_neg (by omega), if_neg (by omega), if_neg (by omega), if_pos h3]
    rw [if_neg h3, if_neg h3]
    by_cases h2 : k = n + 2
    · rw [if_pos h2, if_neg (by omega), if_neg (by omega), if_pos h2]
    rw [if_neg h2, if_neg h2]
    by_cases h1 : k = n + 1
    · rw [if_pos h1, if_neg (by omega), if_pos h1]
    rw [if_neg h1, if_neg h1]
theorem push_1 {μ : MM} (hw : Wf μ) {n : Nat} (hn : n < 220) (hl : gI μ 49 1 = nI n) (x s : Int32) (hs : ¬ s < 0) (f : Nat) : ∃ μ', f_M_push_L3 49 x (f + 1) s μ = f_M_push_L3 49 x f (s + (-8)) μ' ∧ Sm PrM μ μ' ∧ gI μ' 49 1 = nI (n + 1) ∧ gI μ' 50 = upd (gI μ 50) n (ishr x s).toInt8.toInt32 := by
  obtain ⟨μa, hμa⟩ : ∃ y, y = sI μ 50 n (ishr x s).toInt8.toInt32 := ⟨_, rfl⟩
  obtain ⟨μb, hμb⟩ : ∃ y, y = sI μa 49 1 (nI (n + 1)) := ⟨_, rfl⟩
  have sa : Sm PrM μ μa := by rw [hμa]; exact Sm.sI rfl
  have sb : Sm PrM μ μb := by rw [hμb]; exact sa.tr (Sm.sI rfl)
  have ga : gI μa 49 1 = nI n := by rw [hμa, gI_sI_ne (by decide)]; exact hl
  refine ⟨μb, ?_, sb, by rw [hμb, gI_sI]; simp [upd], by rw [hμb, gI_sI_ne (by decide), hμa, gI_sI]⟩
  have i8 : (ishr x s).toInt8.toInt32.toInt8.toInt32 = (ishr x s).toInt8.toInt32 := by rw [Int8.toInt8_toInt32]
  rw [e_M_push_L3, if_neg hs, rR_49_0 hw, bsome, rI_49 hw, bsome, hl, uB_50 hw hn, bsome, i8, ← hμa, rI_49 (sa.wf hw), bsome, ga, nI_1, pI_49 (sa.wf hw), bsome, ← hμb]
def f4m (x : Int32) (n : Nat) (g : Nat → Int32) : Nat → Int32 := fun k => if k = n then (ishr x 24).toInt8.toInt32 else if k = n + 1 then (ishr x 16).toInt8.toInt32 else if k = n + 2 then (ishr x 8).toInt8.toInt32 else if k = n + 3 then (ishr x 0).toInt8.toInt32 else g k
theorem s_push {μ : MM} (hw : Wf μ) {n : Nat} (hn : n + 4 ≤ 220) (hl : gI μ 49 1 = nI n) (x : Int32) : ∃ μ', f_M_push 49 x μ = some μ' ∧ Sm PrM μ μ' ∧ gI μ' 49 1 = nI (n + 4) ∧ gI μ' 50 = f4m x n (gI μ 50) := by
  obtain ⟨m1, e1, s1, l1, g1⟩ := push_1 hw (n := n) (by omega) hl x 24 (by decide) 999999999
  obtain ⟨m2, e2, s2, l2, g2⟩ := push_1 (s1.wf hw) (n := n + 1) (by omega) l1 x 16 (by decide) 999999998
  obtain ⟨m3, e3, s3, l3, g3⟩ := push_1 ((s1.tr s2).wf hw) (n := n + 2) (by omega) l2 x 8 (by decide) 999999997
  obtain ⟨m4, e4, s4, l4, g4⟩ := push_1 (((s1.tr s2).tr s3).wf hw) (n := n + 3) (by omega) l3 x 0 (by decide) 999999996
  refine ⟨m4, ?_, ((s1.tr s2).tr s3).tr s4, l4, ?_⟩
  · unfold f_M_push
    rw [kO_49 hw, bsome]
    show f_M_push_L3 49 x (999999999 + 1) 24 μ = _
    rw [e1]
    show f_M_push_L3 49 x (999999998 + 1) 16 m1 = _
    rw [e2]
    show f_M_push_L3 49 x (999999997 + 1) 8 m2 = _
    rw [e3]
    show f_M_push_L3 49 x (999999996 + 1) 0 m3 = _
    rw [e4]
    show f_M_push_L3 49 x (999999995 + 1) (-8) m4 = _
    rw [e_M_push_L3, if_pos (by decide)]
  · rw [g4, g3, g2, g1]
    funext k
    unfold f4m upd
    by_cases h3 : k = n + 3
    · rw [if_pos h3, if_neg (by omega), if_neg (by omega), if_neg (by omega), if_pos h3]
    rw [if_neg h3, if_neg h3]
    by_cases h2 : k = n + 2
    · rw [if_pos h2, if_neg (by omega), if_neg (by omega), if_pos h2]
    rw [if_neg h2, if_neg h2]
    by_cases h1 : k = n + 1
    · rw [if_pos h1, if_neg (by omega), if_pos h1]
    rw [if_neg h1, if_neg h1]
theorem f4_rel {x : Int32} {n : Nat} {g g' : Nat → Int32} (h : ∀ k, k < 220 → g k = g' k &&& 255) : ∀ k, k < 220 → f4 x n g k = f4m x n g' k &&& 255 := fun k hk => by
  unfold f4 f4m
  by_cases h0 : k = n
  · rw [if_pos h0, if_pos h0, b255]
  rw [if_neg h0, if_neg h0]
  by_cases h1 : k = n + 1
  · rw [if_pos h1, if_pos h1, b255]
  rw [if_neg h1, if_neg h1]
  by_cases h2 : k = n + 2
  · rw [if_pos h2, if_pos h2, b255]
  rw [if_neg h2, if_neg h2]
  by_cases h3 : k = n + 3
  · rw [if_pos h3, if_pos h3, b255]
  rw [if_neg h3, if_neg h3]; exact h k hk
theorem feed_ok {μ : MM} (hw : Wf μ) {n : Nat} (hn : n ≤ 220) (hr : RLx n μ) (a b c d e : Int32) : ∃ r μ1 μ2, f_X_feed 0 a b c d e μ = some (r, μ1) ∧ f_M_feed 49 a b c d e μ1 = some (r, μ2) ∧ Sm Prl μ μ2 ∧ ∃ n', n' ≤ 220 ∧ RLx n' μ2 := by
  rcases Nat.lt_or_ge 200 n with h | h
  · refine ⟨-1, μ, μ, ?_, ?_, Sm.rf, n, hn, hr⟩
    · unfold f_X_feed f_Rl_hasRoom
      rw [kO_0 hw, bsome, rR_0_6 hw, bsome, kO_38 hw, bsome, rI_38 hw, bsome, hr.1, if_pos (show (200 : Int32) < nI n from nI_lt (a := 200) h (by omega)), bsome, if_pos rfl]
    · unfold f_M_feed
      rw [kO_49 hw, bsome, rI_49 hw, bsome, hr.2.1, show (20 : Int32) = nI 20 from rfl, nI_add, if_neg (show ¬ nI (n + 20) ≤ (220 : Int32) by rw [show (220 : Int32) = nI 220 from rfl, cle (by omega) (by omega)]; omega)]
  · obtain ⟨m1, e1, s1, l1, g1⟩ := s_add hw (n := n) (by omega) hr.1 a
    obtain ⟨m2, e2, s2, l2, g2⟩ := s_add (s1.wf hw) (by omega) l1 b
    have t2 := s1.tr s2
    obtain ⟨m3, e3, s3, l3, g3⟩ := s_add (t2.wf hw) (by omega) l2 c
    have t3 := t2.tr s3
    obtain ⟨m4, e4, s4, l4, g4⟩ := s_add (t3.wf hw) (by omega) l3 d
    have t4 := t3.tr s4
    obtain ⟨m5, e5, s5, l5, g5⟩ := s_add (t4.wf hw) (by omega) l4 e
    have t5 := t4.tr s5
    have w5 := t5.wf hw
    obtain ⟨k1, q1, u1, v1, h1⟩ := s_push w5 (n := n) (by omega) (by rw [t5.gI 49 (fun _ => rfl)]; exact hr.2.1) a
    obtain ⟨k2, q2, u2, v2, h2⟩ := s_push (u1.wf w5) (by omega) v1 b
    have y2 := u1.tr u2
    obtain ⟨k3, q3, u3, v3, h3⟩ := s_push (y2.wf w5) (by omega) v2 c
    have y3 := y2.tr u3
    obtain ⟨k4, q4, u4, v4, h4⟩ := s_push (y3.wf w5) (by omega) v3 d
    have y4 := y3.tr u4
    obtain ⟨k5, q5, u5, v5, h5⟩ := s_push (y4.wf w5) (by omega) v4 e
    have y5 := y4.tr u5
    refine ⟨nI (n + 4 + 4 + 4 + 4 + 4), m5, k5, ?_, ?_, (t5.mono fun x j z => ?_).tr (y5.mono fun x j z => ?_), n + 4 + 4 + 4 + 4 + 4, by omega, ?_, v5, ?_⟩
    · unfold f_X_feed f_Rl_hasRoom
      rw [kO_0 hw, bsome, rR_0_6 hw, bsome, kO_38 hw, bsome, rI_38 hw, bsome, hr.1, if_neg (show ¬ (200 : Int32) < nI n from nI_nlt (a := 200) (by omega) (by omega)), bsome, if_neg (by decide), bsome, e1, bsome, rR_0_6 (s1.wf hw), bsome, e2, bsome, rR_0_6 (t2.wf hw), bsome, e3, bsome, rR_0_6 (t3.wf hw), bsome, e4, bsome, rR_0_6 (t4.wf hw), bsome, e5, bsome, rR_0_6 w5, bsome, rI_38 w5, bsome, l5]
    · unfold f_M_feed
      rw [kO_49 w5, bsome, rI_49 w5, bsome, t5.gI 49 (fun _ => rfl), hr.2.1, show (20 : Int32) = nI 20 from rfl, nI_add, if_pos (show nI (n + 20) ≤ (220 : Int32) by rw [show (220 : Int32) = nI 220 from rfl, cle (by omega) (by omega)]; omega), q1, bsome, q2, bsome, q3, bsome, q4, bsome, q5, bsome, rI_49 (y5.wf w5), bsome, v5]
    · simp only [Prl, Bool.or_eq_false_iff] at z; simp only [PrX, Bool.or_eq_false_iff]; exact ⟨z.1.1.1, z.1.2⟩
    · simp only [Prl, Bool.or_eq_false_iff] at z; simp only [PrM, Bool.or_eq_false_iff]; exact ⟨z.1.1.2, z.2⟩
    · rw [y5.gI 38 (fun _ => rfl)]; exact l5
    · rw [y5.gI 39 (fun _ => rfl), g5, g4, g3, g2, g1, h5, h4, h3, h2, h1, t5.gI 50 (fun _ => rfl)]
      exact f4_rel (f4_rel (f4_rel (f4_rel (f4_rel hr.2.2))))
