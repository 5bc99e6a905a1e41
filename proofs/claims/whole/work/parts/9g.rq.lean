/-! LAYER 2: reading, in the reference: pieces and conditions -/
section
variable {h : Nat → Nat} {n at_ z : Nat} {st : List Nat} {cm : CL} {μ : MM}
theorem pieceE {z : Nat} (e : ME z μ) : f_M_pieceOfC_J43 49 μ = some μ := by
  unfold f_M_pieceOfC_J43
  rw [m_goodE e, bsome, if_pos rfl]
theorem m_piece43 (B : HB h n) (ks : KSt st) (mb : MB h n at_ st cm μ) : ∃ μ', f_M_pieceOfC_J43 49 μ = some μ' ∧ Sm Pmt μ μ' ∧ ((∃ z, ME z μ' ∧ rch h (6, at_, st, cm) (5, z, [], [])) ∨ ∃ b st' cm', at_ < b ∧ MB h n b st' cm' μ' ∧ KSt st' ∧ ¬ hdd st' = 33 ∧ rch h (6, at_, st, cm) (3, b, st', cm')) := by
  have w := mb.1.1
  have hl := B.2.1 at_
  have le := mb.1.le
  have b := B.1
  obtain ⟨i1, i2, i3, i4, i5⟩ := sid2 ks.hd.1
  have a6 := a6_n (h := h) (at_ := at_) (cm := cm) i3 i5
  unfold f_M_pieceOfC_J43
  rw [m_good mb.1, bsome, if_neg (by decide), m_here mb.1 B, bsome, mtS _ hl, bsome]
  by_cases c1 : isSg (h at_) = true
  · rw [if_pos c1] at a6
    rw [c1, if_neg (by decide)]
    have lt : at_ < n := nlt0 B (f := isSg) c1 rfl
    obtain ⟨m1, q1, q2, q3⟩ := m_puts mb.1 B hl lt (nI (h at_)) rfl
    have ho : opn (h at_ :: st) = opn st := opn_S c1
    have mb1 : MB h n (at_ + 1) (h at_ :: st) cm m1 := ⟨by rw [ho]; exact q2, by rw [ho]; exact mb.2⟩
    have bs1 : Bs (h at_ :: st) := by
      show isT (h at_) = false ∧ isP (h at_) = false ∧ ¬ h at_ = 91
      rcases isSg_c c1 with e | e | e <;> rw [e] <;> exact ⟨rfl, rfl, by decide⟩
    obtain ⟨m2, p1, p2, p3⟩ := m_value B bs1 mb1
    rw [q1, bsome, p1, bsome]
    rcases p3 with ⟨z, e1, e2⟩ | ⟨b2, cm2, e1, e2, e3⟩
    · exact ⟨m2, by rw [m_goodE e1, bsome, if_pos rfl], (pm q3).tr p2, Or.inl ⟨z, e1, rch.st a6 e2⟩⟩
    · obtain ⟨m3, m4, t1, t2, t3, t4, t5⟩ := MB.pop e2 B ho (mx_S c1).2 (nI (h at_)) (by rw [(mx_S c1).1])
      obtain ⟨st', cm', m5, v1, v2, v3, v4, v5, v6⟩ := m_ends B ks t4
      have tp : f_M_top 49 m2 = some (nI (h at_)) := m_top e2.1 B
      refine ⟨m5, ?_, (pm q3).tr (p2.tr (pm (t5.tr v3))), Or.inr ⟨b2, st', cm', by omega, v2, v5, v6, rch.st a6 (e3.tr (rch.st (a6_S (st := h at_ :: st) c1) v4))⟩⟩
      rw [m_good e2.1, bsome, if_neg (by decide), tp, bsome, t1, bsome, rI_49 t2, bsome, t3, bsome, v1, bsome]
  · rw [if_neg c1] at a6
    have c1 := Bool.eq_false_iff.mpr c1
    obtain ⟨m1, q1, q2, q3, -⟩ := m_wrongs mb.1 B 1 at_ (by decide) (by decide) (by omega) 1 (nI at_) rfl rfl
    exact ⟨m1, by rw [c1, if_pos (by decide), rI_49 w, bsome, mb.1.2.1, q1, bsome], pm q3, Or.inl ⟨_, q2, rch.one a6⟩⟩
theorem pieceL (B : HB h n) : ∀ (r m at_ : Nat) (st : List Nat) (cm : CL) (μ : MM), n - at_ ≤ r → r < m → KSt st → MB h n at_ st cm μ → ∃ μ', f_M_pieceOfC_L0 49 m μ = some μ' ∧ Sm Pmt μ μ' ∧ ((∃ z, ME z μ' ∧ rch h (2, at_, st, cm) (5, z, [], [])) ∨ ∃ b st' cm', at_ < b ∧ MB h n b st' cm' μ' ∧ KSt st' ∧ ¬ hdd st' = 33 ∧ rch h (2, at_, st, cm) (3, b, st', cm')) := by
  intro r
  induction r with
  | zero =>
    intro m at_ st cm μ hr hm ks mb
    obtain ⟨m, rfl⟩ : ∃ j, m = j + 1 := ⟨m - 1, by omega⟩
    have hl := B.2.1 at_
    have h0 : h at_ = 0 := B.2.2 at_ (by omega)
    obtain ⟨m1, q1, q2, q3⟩ := m_value B ks.bs mb
    have a2 : stp h (2, at_, st, cm) = (0, at_, st, cm) := a2_n (by omega)
    have pre : f_M_pieceOfC_L0 49 (m + 1) μ = f_M_pieceOfC_J43 49 m1 := by
      rw [e_M_pieceOfC_L0, m_good mb.1, bsome, if_neg (by decide), m_here mb.1 B, bsome, if_neg (by rw [h0]; decide), bsome, if_neg (by rw [h0]; decide)]
      unfold f_M_pieceOfC_J32
      rw [m_good mb.1, bsome, if_neg (by decide), q1, bsome]
    rw [pre]
    rcases q3 with ⟨z, e1, e2⟩ | ⟨b2, cm2, e1, e2, e3⟩
    · exact ⟨m1, pieceE e1, q2, Or.inl ⟨z, e1, rch.st a2 e2⟩⟩
    · have := e2.1.le
      omega
  | succ r ih =>
    intro m at_ st cm μ hr hm ks mb
    obtain ⟨m, rfl⟩ : ∃ j, m = j + 1 := ⟨m - 1, by omega⟩
    have hl := B.2.1 at_
    have i33 := ic (h at_) 33 hl (by decide) 33 rfl
    have i40 := ic (h at_) 40 hl (by decide) 40 rfl
    by_cases c1 : h at_ = 33 ∨ h at_ = 40
    · have lt : at_ < n := hx_lt B (by omega)
      have a2 := a2_o (h := h) (at_ := at_) (st := st) (cm := cm) c1
      obtain ⟨m1, q1, q2, q3⟩ := m_opens mb.1 B lt (by rcases c1 with e | e <;> rw [e] <;> rfl) mb.2
      have pre : f_M_pieceOfC_L0 49 (m + 1) μ = f_M_pieceOfC_L0 49 m m1 := by
        rw [e_M_pieceOfC_L0, m_good mb.1, bsome, if_neg (by decide), m_here mb.1 B, bsome]
        unfold f_M_pieceOfC_J25
        rcases c1 with e | e
        · rw [if_pos (i33.mpr e), q1, bsome]
        · rw [if_neg (fun q => by have := i33.mp q; omega), bsome, if_pos (i40.mpr e), q1, bsome]
      rw [pre]
      rcases q3 with ⟨g1, g2⟩ | ⟨g1, g2⟩
      · rw [if_pos g1] at a2
        obtain ⟨m, rfl⟩ : ∃ j, m = j + 1 := ⟨m - 1, by omega⟩
        refine ⟨m1, ?_, pm q2, Or.inl ⟨_, g2, rch.one a2⟩⟩
        rw [e_M_pieceOfC_L0, m_goodE g2, bsome, if_pos rfl]
        unfold f_M_pieceOfC_J32
        rw [m_goodE g2, bsome, if_pos rfl, pieceE g2]
      · rw [if_neg (by omega)] at a2
        have ks1 : KSt (h at_ :: st) := ks.up (by rcases c1 with e | e <;> simp [e])
        obtain ⟨μ', p1, p2, p3⟩ := ih m (at_ + 1) (h at_ :: st) cm m1 (by omega) (by omega) ks1 ⟨g2, by
          show opn st + (if isO (h at_) = true then 1 else 0) ≤ 6
          split <;> omega⟩
        refine ⟨μ', p1, (pm q2).tr p2, ?_⟩
        rcases p3 with ⟨z, e1, e2⟩ | ⟨b2, st', cm2, e1, e2, e3, e4, e5⟩
        · exact Or.inl ⟨z, e1, rch.st a2 e2⟩
        · exact Or.inr ⟨b2, st', cm2, by omega, e2, e3, e4, rch.st a2 e5⟩
    · obtain ⟨m1, q1, q2, q3⟩ := m_value B ks.bs mb
      have a2 : stp h (2, at_, st, cm) = (0, at_, st, cm) := a2_n c1
      have pre : f_M_pieceOfC_L0 49 (m + 1) μ = f_M_pieceOfC_J43 49 m1 := by
        rw [e_M_pieceOfC_L0, m_good mb.1, bsome, if_neg (by decide), m_here mb.1 B, bsome, if_neg (fun q => c1 (Or.inl (i33.mp q))), bsome, if_neg (fun q => c1 (Or.inr (i40.mp q)))]
        unfold f_M_pieceOfC_J32
        rw [m_good mb.1, bsome, if_neg (by decide), q1, bsome]
      rw [pre]
      rcases q3 with ⟨z, e1, e2⟩ | ⟨b2, cm2, e1, e2, e3⟩
      · exact ⟨m1, pieceE e1, q2, Or.inl ⟨z, e1, rch.st a2 e2⟩⟩
      · obtain ⟨μ', p1, p2, p3⟩ := m_piece43 B ks e2
        refine ⟨μ', p1, q2.tr p2, ?_⟩
        rcases p3 with ⟨z, f1, f2⟩ | ⟨b3, st', cm3, f1, f2, f3, f4, f5⟩
        · exact Or.inl ⟨z, f1, rch.st a2 (e3.tr f2)⟩
        · exact Or.inr ⟨b3, st', cm3, by omega, f2, f3, f4, rch.st a2 (e3.tr f5)⟩
theorem m_piece (B : HB h n) (ks : KSt st) (mb : MB h n at_ st cm μ) : ∃ μ', f_M_pieceOfC 49 μ = some μ' ∧ Sm Pmt μ μ' ∧ ((∃ z, ME z μ' ∧ rch h (2, at_, st, cm) (5, z, [], [])) ∨ ∃ b st' cm', at_ < b ∧ MB h n b st' cm' μ' ∧ KSt st' ∧ ¬ hdd st' = 33 ∧ rch h (2, at_, st, cm) (3, b, st', cm')) := by
  have b := B.1
  obtain ⟨μ', q, r⟩ := pieceL B n FU at_ st cm μ (by omega) (by unfold FU; omega) ks mb
  exact ⟨μ', by unfold f_M_pieceOfC; rw [kO_49 mb.1.1, bsome, q], r⟩
/-- behind a piece; the second flag stays as it was but at the end -/
theorem m_goes (B : HB h n) (ks : KSt st) (h33 : ¬ hdd st = 33) (mb : MB h n at_ st cm μ) : ∃ y μ', f_M_goesBehind 49 μ = some (y, μ') ∧ Sm Pmu μ μ' ∧ ((y = 1 ∧ at_ < n ∧ gI μ' 49 47 = gI μ 49 47 ∧ ∃ st' cm', MB h n (at_ + 1) st' cm' μ' ∧ KSt st' ∧ rch h (3, at_, st, cm) (2, at_ + 1, st', cm')) ∨ (y = 0 ∧ ∃ z, ME z μ' ∧ rch h (3, at_, st, cm) (5, z, [], [])) ∨ (y = 0 ∧ gI μ' 49 47 = 1 ∧ ∃ cm', MB h n (at_ + 1) [] cm' μ' ∧ rch h (3, at_, st, cm) (4, at_ + 1, [], cm')) ∨ (y = 0 ∧ at_ < n ∧ gI μ' 49 47 = 0 ∧ ∃ st' cm', MB h n (at_ + 1) st' cm' μ' ∧ KSt st' ∧ ¬ hdd st' = 33 ∧ rch h (3, at_, st, cm) (3, at_ + 1, st', cm'))) := by
  have w := mb.1.1
  have hl := B.2.1 at_
  have le := mb.1.le
  have b := B.1
  have i38 := ic (h at_) 38 hl (by decide) 38 rfl
  have i124 := ic (h at_) 124 hl (by decide) 124 rfl
  have i41 := ic (h at_) 41 hl (by decide) 41 rfl
  unfold f_M_goesBehind
  rw [kO_49 w, bsome, m_here mb.1 B, bsome]
  by_cases c1 : h at_ = 38 ∨ h at_ = 124
  · have lt : at_ < n := hx_lt B (by omega)
    obtain ⟨st', cm', m1, q1, q2, q3, q4, q5, q6, q7, q8⟩ := m_joins B (decide (h at_ = 124)) (fun q => by have := of_decide_eq_true q; omega) ks h33 mb
    obtain ⟨m2, p1, p2, p3⟩ := m_puts q2.1 B hl lt (nI (h at_)) rfl
    have ho : opn (h at_ :: st') = opn st' := by
      show opn st' + (if isO (h at_) = true then 1 else 0) = _
      rcases c1 with e | e <;> rw [e] <;> rfl
    refine ⟨1, m2, ?_, pu (q3.tr p3), Or.inl ⟨rfl, lt, (fl0 (q3.tr p3)).2, h at_ :: st', cm', ⟨by rw [ho]; exact p2, by rw [ho]; exact q2.2⟩, q5.up (Or.inr (Or.inr ⟨by omega, q6⟩)), q4.tr (rch.one ?_)⟩⟩
    · unfold f_M_goesBehind_J17 f_M_goesBehind_J29
      rcases c1 with e | e
      · rw [if_pos (i38.mpr e), if_neg (fun q => by have := i124.mp q; omega)]
        rw [decide_eq_false (by omega)] at q1
        rw [show f_M_joins 49 (0 : Int32) μ = some m1 from q1, bsome, p1, bsome]
      · rw [if_neg (fun q => by have := i38.mp q; omega), if_pos (i124.mpr e)]
        rw [decide_eq_true e] at q1
        rw [if_pos (i124.mpr e), show f_M_joins 49 (1 : Int32) μ = some m1 from q1, bsome, p1, bsome]
    · rw [a3_eq, if_neg q6, if_neg q7]
      rcases c1 with e | e
      · rw [if_pos e, e]
      · rw [if_neg (by omega), if_neg (q8 (decide_eq_true e)), if_pos e, e]
  · have n38 : ¬ h at_ = 38 := fun q => c1 (Or.inl q)
    have n124 : ¬ h at_ = 124 := fun q => c1 (Or.inr q)
    rw [if_neg (fun q => n38 (i38.mp q)), if_neg (fun q => n124 (i124.mp q))]
    obtain ⟨st', cm', m1, q1, q2, q3, q4, q5, q6, q7, q8⟩ := m_joins B true (fun _ => n38) ks h33 mb
    have q8 := q8 rfl
    have q1 : f_M_joins 49 (1 : Int32) μ = some m1 := q1
    have a3 : stp h (3, at_, st', cm') = if h at_ = 41 then (if st'.tail = [] then (4, at_ + 1, [], cm') else (3, at_ + 1, st'.tail, cm')) else er 1 at_ := by
      rw [a3_eq, if_neg q6, if_neg q7, if_neg n38, if_neg q8, if_neg n124]
    by_cases c2 : h at_ = 41
    · have lt : at_ < n := lt0 B c2 (by decide)
      rw [if_pos c2] at a3
      rw [if_pos (i41.mpr c2), q1, bsome]
      have w1 := q2.1.1
      obtain ⟨s, es⟩ : ∃ s, st' = 40 :: s := by
        match st', q5, q6, q7, q8 with
        | [c], q5, _, _, _ => exact ⟨[], by rw [show c = 40 from q5]⟩
        | c :: d :: s, q5, q6, q7, q8 =>
          have q6 : ¬ c = 33 := q6
          have q7 : ¬ c = 38 := q7
          have q8 : ¬ c = 124 := q8
          have : c = 40 := by
            rcases q5.1 with e | e | ⟨e, -⟩ <;> omega
          exact ⟨d :: s, by rw [this]⟩
      subst es
      have ho : opn (40 :: s) = opn s + 1 := rfl
      have h6 := q2.2
      obtain ⟨w', r40, r41, r42, r46, r45, r44, rs, rc, rt, rl, r1, r2⟩ := q2.1
      obtain ⟨m2, e2⟩ : ∃ x, x = sI m1 49 46 (nI s.length) := ⟨_, rfl⟩
      obtain ⟨m3, e3⟩ : ∃ x, x = sI m2 49 45 (nI (opn s)) := ⟨_, rfl⟩
      obtain ⟨m4, e4⟩ : ∃ x, x = sI m3 49 40 (nI (at_ + 1)) := ⟨_, rfl⟩
      obtain ⟨m5, e5⟩ : ∃ x, x = sI m4 49 47 (if s = [] then 1 else 0) := ⟨_, rfl⟩
      have s2 : Sm Pmu m1 m2 := by rw [e2]; exact Sm.sI rfl
      have s3 : Sm Pmu m1 m3 := by rw [e3]; exact s2.tr (Sm.sI rfl)
      have s4 : Sm Pmu m1 m4 := by rw [e4]; exact s3.tr (Sm.sI rfl)
      have s5 : Sm Pmu m1 m5 := by rw [e5]; exact s4.tr (Sm.sI rfl)
      have g2 : gI m2 49 = upd (gI m1 49) 46 (nI s.length) := by rw [e2, gI_sI]
      have g3 : gI m3 49 = upd (gI m2 49) 45 (nI (opn s)) := by rw [e3, gI_sI]
      have g4 : gI m4 49 = upd (gI m3 49) 40 (nI (at_ + 1)) := by rw [e4, gI_sI]
      have g5 : gI m5 49 = upd (gI m4 49) 47 (if s = [] then 1 else 0) := by rw [e5, gI_sI]
      have gx : ∀ x, ¬ x = 49 → gI m5 x = gI m1 x := fun x hx => by rw [e5, gI_sI_ne hx, e4, gI_sI_ne hx, e3, gI_sI_ne hx, e2, gI_sI_ne hx]
      have mb5 : MB h n (at_ + 1) s cm' m5 := by
        refine ⟨⟨s5.wf w1, ?_, ?_, ?_, ?_, ?_, ?_, ?_, ?_, ?_, fun d hd => rl d (List.mem_cons_of_mem _ hd), ?_, by omega⟩, by omega⟩
        · rw [g5, upd_o (by decide), g4, upd_s]
        · rw [g5, upd_o (by decide), g4, upd_o (by decide), g3, upd_o (by decide), g2, upd_o (by decide)]; exact r41
        · rw [g5, upd_o (by decide), g4, upd_o (by decide), g3, upd_o (by decide), g2, upd_o (by decide)]; exact r42
        · rw [g5, upd_o (by decide), g4, upd_o (by decide), g3, upd_o (by decide), g2, upd_s]
        · rw [g5, upd_o (by decide), g4, upd_o (by decide), g3, upd_s]
        · rw [g5, upd_o (by decide), g4, upd_o (by decide), g3, upd_o (by decide), g2, upd_o (by decide)]; exact r44
        · rw [gx 80 (by decide)]; exact rs.2
        · rw [gx 78 (by decide), gx 79 (by decide)]; exact rc
        · intro j hj
          rw [gx 50 (by decide)]; exact rt j hj
        · have r1 : s.length + 1 + cm'.length ≤ at_ := r1
          omega
      have r1 : s.length + 1 + cm'.length ≤ at_ := r1
      have pre : ((rI m1 49 1 46).bind fun y63 => (pI m1 49 1 46 (y63 - (1 : Int32))).bind fun μ68 => (rI μ68 49 1 45).bind fun y73 => (pI μ68 49 1 45 (y73 - (1 : Int32))).bind fun μ78 => (rI μ78 49 1 40).bind fun y83 => (pI μ78 49 1 40 (y83 + (1 : Int32))).bind fun μ88 => (rI μ88 49 1 46).bind fun y93 => if y93 = 0 then f_M_goesBehind_J104 49 49 (1 : Int32) μ88 else f_M_goesBehind_J104 49 49 (0 : Int32) μ88) = f_M_goesBehind_J104 49 49 (if s = [] then 1 else 0) m4 := by
        rw [rI_49 w1, bsome, r46]
        show (pI m1 49 1 46 (nI (s.length + 1) - 1)).bind _ = _
        rw [nI_pred', pI_49 w1, bsome, ← e2, rI_49 (s2.wf w1), bsome, g2, upd_o (by decide), r45]
        show (pI m2 49 1 45 (nI (opn s + 1) - 1)).bind _ = _
        rw [nI_pred', pI_49 (s2.wf w1), bsome, ← e3, rI_49 (s3.wf w1), bsome, g3, upd_o (by decide), g2, upd_o (by decide), r40, nI_1, pI_49 (s3.wf w1), bsome, ← e4, rI_49 (s4.wf w1), bsome, g4, upd_o (by decide), g3, upd_o (by decide), g2, upd_s]
        by_cases e : s = []
        · subst e; rfl
        · have : 0 < s.length := List.length_pos_iff.mpr e
          rw [if_neg (nI_n0 this (by omega)), if_neg e]
      rw [pre]
      have a3 : stp h (3, at_, 40 :: s, cm') = if s = [] then (4, at_ + 1, [], cm') else (3, at_ + 1, s, cm') := a3
      by_cases e : s = []
      · subst e
        rw [if_pos rfl] at a3 e5 g5
        refine ⟨0, m5, ?_, (pu q3).tr s5, Or.inr (Or.inr (Or.inl ⟨rfl, by rw [g5, upd_s], cm', mb5, q4.tr (rch.one a3)⟩))⟩
        unfold f_M_goesBehind_J104
        rw [if_pos rfl, pZ_49 (s4.wf w1) (Or.inr rfl), bsome, ← e5, rI_49 mb5.1.1, bsome, g5, upd_s, if_neg (by decide)]
      · rw [if_neg e] at a3 e5 g5
        have ks2 : KSt s := by
          match s, e, q5 with
          | d :: s, _, q5 => exact q5.2
        obtain ⟨st2, cm2, m6, v1, v2, v3, v4, v5, v6⟩ := m_ends B ks2 mb5
        refine ⟨0, m6, ?_, (pu q3).tr (s5.tr (pu v3)), Or.inr (Or.inr (Or.inr ⟨rfl, lt, by rw [(fl0 v3).2, g5, upd_s], st2, cm2, v2, v5, v6, q4.tr (rch.st a3 v4)⟩))⟩
        unfold f_M_goesBehind_J104
        rw [if_neg e, pZ_49 (s4.wf w1) (Or.inl rfl), bsome, ← e5, rI_49 mb5.1.1, bsome, g5, upd_s, if_pos rfl, v1, bsome]
    · rw [if_neg c2] at a3
      obtain ⟨m2, p1, p2, p3, -⟩ := m_wrongs mb.1 B 1 at_ (by decide) (by decide) (by omega) 1 (nI at_) rfl rfl
      exact ⟨0, m2, by rw [if_neg (fun q => c2 (i41.mp q)), rI_49 w, bsome, mb.1.2.1, p1, bsome], pu p3, Or.inr (Or.inl ⟨rfl, _, p2, q4.tr (rch.one a3)⟩)⟩
theorem condE {z m : Nat} (e : ME z μ) (x : Int32) : f_M_condition_L37 49 (m + 1) x μ = some μ := by
  rw [e_M_condition_L37, m_goodE e, bsome, if_pos rfl]
def cmd (b : Bool) : Nat := if b then 2 else 3
theorem condL (B : HB h n) : ∀ (r m at_ : Nat) (st : List Nat) (cm : CL) (μ : MM) (b : Bool), n - at_ ≤ r → r + 1 < m → KSt st → (b = false → ¬ hdd st = 33) → MB h n at_ st cm μ → gI μ 49 47 = 0 → ∃ μ', f_M_condition_L37 49 m (bi b) μ = some μ' ∧ Sm Pmu μ μ' ∧ ((∃ z, ME z μ' ∧ rch h (cmd b, at_, st, cm) (5, z, [], [])) ∨ ∃ b2 cm', MB h n b2 [] cm' μ' ∧ rch h (cmd b, at_, st, cm) (4, b2, [], cm')) := by
  intro r
  induction r with
  | zero =>
    intro m at_ st cm μ b hr hm ks hb mb g
    obtain ⟨m, rfl⟩ : ∃ j, m = j + 2 := ⟨m - 2, by omega⟩
    have w := mb.1.1
    have h0 : h at_ = 0 := B.2.2 at_ (by omega)
    rw [e_M_condition_L37, m_good mb.1, bsome, if_neg (by decide), rI_49 w, bsome, g, if_pos rfl]
    unfold f_M_condition_J59
    cases b with
    | true =>
      rw [if_neg (by decide)]
      obtain ⟨m1, q1, q2, q3⟩ := m_piece B ks mb
      rw [q1, bsome]
      rcases q3 with ⟨z, e1, e2⟩ | ⟨b2, st', cm2, e1, e2, e3, e4, e5⟩
      · exact ⟨m1, by rw [m_goodE e1, bsome, if_pos rfl, condE e1], tu q2, Or.inl ⟨z, e1, e2⟩⟩
      · have := e2.1.le
        omega
    | false =>
      rw [if_pos (by decide), m_good mb.1, bsome, if_neg (by decide)]
      obtain ⟨y, m1, q1, q2, q3⟩ := m_goes B ks (hb rfl) mb
      rw [q1, bsome]
      rcases q3 with ⟨y1, lt, -⟩ | ⟨y0, z, p1, p2⟩ | ⟨y0, g1, cm', p1, p2⟩ | ⟨y0, lt, -⟩
      · omega
      · exact ⟨m1, condE p1 _, q2, Or.inl ⟨z, p1, p2⟩⟩
      · have := p1.1.le
        have := mb.1.le
        omega
      · omega
  | succ r ih =>
    intro m at_ st cm μ b hr hm ks hb mb g
    obtain ⟨m, rfl⟩ : ∃ j, m = j + 2 := ⟨m - 2, by omega⟩
    have w := mb.1.1
    show ∃ μ', f_M_condition_L37 49 (m + 1 + 1) (bi b) μ = some μ' ∧ _
    have after : ∀ (x : Nat) (st : List Nat) (cm : CL) (μ : MM) (s0 : AS) (v : Int32), n - x ≤ r + 1 → KSt st → ¬ hdd st = 33 → MB h n x st cm μ → gI μ 49 47 = 0 → rch h s0 (3, x, st, cm) → ∃ μ', f_M_condition_J59 (f_M_condition_L37 49 (m + 1)) 49 v μ = some μ' ∧ Sm Pmu μ μ' ∧ ((∃ z, ME z μ' ∧ rch h s0 (5, z, [], [])) ∨ ∃ b2 cm', MB h n b2 [] cm' μ' ∧ rch h s0 (4, b2, [], cm')) := by
      intro x st cm μ s0 v hx ks h33 mb g rr
      unfold f_M_condition_J59
      rw [m_good mb.1, bsome, if_neg (by decide)]
      obtain ⟨y, m1, q1, q2, q3⟩ := m_goes B ks h33 mb
      rw [q1, bsome]
      rcases q3 with ⟨y1, lt, g1, st', cm', p1, p2, p3⟩ | ⟨y0, z, p1, p2⟩ | ⟨y0, g1, cm', p1, p2⟩ | ⟨y0, lt, g1, st', cm', p1, p2, p3, p4⟩
      · subst y1
        obtain ⟨μ', v1, v2, v3⟩ := ih (m + 1) (x + 1) st' cm' m1 true (by omega) (by omega) p2 (fun q => by cases q) p1 (by rw [g1, g])
        refine ⟨μ', v1, q2.tr v2, ?_⟩
        rcases v3 with ⟨z, f1, f2⟩ | ⟨b2, cm2, f1, f2⟩
        · exact Or.inl ⟨z, f1, rr.tr (p3.tr f2)⟩
        · exact Or.inr ⟨b2, cm2, f1, rr.tr (p3.tr f2)⟩
      · exact ⟨m1, condE p1 _, q2, Or.inl ⟨z, p1, rr.tr p2⟩⟩
      · refine ⟨m1, ?_, q2, Or.inr ⟨x + 1, cm', p1, rr.tr p2⟩⟩
        rw [e_M_condition_L37, m_good p1.1, bsome, if_neg (by decide), rI_49 p1.1.1, bsome, g1, if_neg (by decide)]
      · subst y0
        obtain ⟨μ', v1, v2, v3⟩ := ih (m + 1) (x + 1) st' cm' m1 false (by omega) (by omega) p2 (fun _ => p3) p1 g1
        refine ⟨μ', v1, q2.tr v2, ?_⟩
        rcases v3 with ⟨z, f1, f2⟩ | ⟨b2, cm2, f1, f2⟩
        · exact Or.inl ⟨z, f1, rr.tr (p4.tr f2)⟩
        · exact Or.inr ⟨b2, cm2, f1, rr.tr (p4.tr f2)⟩
    rw [e_M_condition_L37, m_good mb.1, bsome, if_neg (by decide), rI_49 w, bsome, g, if_pos rfl]
    cases b with
    | true =>
      rw [if_neg (by decide)]
      obtain ⟨m1, q1, q2, q3⟩ := m_piece B ks mb
      rw [q1, bsome]
      rcases q3 with ⟨z, e1, e2⟩ | ⟨b2, st', cm2, e1, e2, e3, e4, e5⟩
      · refine ⟨m1, ?_, tu q2, Or.inl ⟨z, e1, e2⟩⟩
        unfold f_M_condition_J59
        rw [m_goodE e1, bsome, if_pos rfl, condE e1]
      · have g1 : gI m1 49 47 = 0 := by
          rw [ft7 q2]; exact g
        obtain ⟨μ', v1, v2, v3⟩ := after b2 st' cm2 m1 (2, at_, st, cm) (bi true) (by omega) e3 e4 e2 g1 e5
        exact ⟨μ', v1, (tu q2).tr v2, v3⟩
    | false =>
      rw [if_pos (by decide)]
      obtain ⟨μ', v1, v2, v3⟩ := after at_ st cm μ (3, at_, st, cm) (bi false) hr ks (hb rfl) mb g rch.rf
      exact ⟨μ', v1, v2, v3⟩
end
