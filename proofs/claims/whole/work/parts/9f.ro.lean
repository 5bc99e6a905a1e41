/-! LAYER 2: reading, in the reference: sums, pieces, conditions -/
theorem lt0 {h : Nat → Nat} {n at_ c : Nat} (B : HB h n) (e : h at_ = c) (hc : 0 < c) : at_ < n := hx_lt B (by omega)
theorem nlt0 {h : Nat → Nat} {n at_ : Nat} (B : HB h n) {f : Nat → Bool} (e : f (h at_) = true) (f0 : f 0 = false) : at_ < n := hx_lt B (fun q => by rw [q, f0] at e; cases e)
theorem ic (c d : Nat) (hc : c < 256) (hd : d < 256) (v : Int32) (hv : v = nI d) : nI c = v ↔ c = d := by subst hv; exact nI_eq (by omega) (by omega)
section
variable {h : Nat → Nat} {n at_ z : Nat} {st st0 u : List Nat} {cm : CL} {μ : MM}
theorem fl0 {μ' : MM} (s : Sm Pm0 μ μ') : gI μ' 49 48 = gI μ 49 48 ∧ gI μ' 49 47 = gI μ 49 47 := ⟨(s.2.2 49 48 rfl).1, (s.2.2 49 47 rfl).1⟩
theorem pm {μ' : MM} (s : Sm Pm0 μ μ') : Sm Pmt μ μ' := s.mono Pmt_0
/-- a sign is put upon what is left of a sum -/
theorem staysP (B : HB h n) (b0 : Bs st0) (hu : Lk u) (mb : MB h n at_ (u ++ st0) cm μ) (e : isT (h at_) = true ∨ (isT (h at_) = false ∧ isP (h at_) = true)) : ∃ μ', f_M_stays_J19 49 (nI (h at_)) μ = some (1, μ') ∧ Sm Pm0 μ μ' ∧ ∃ u' cm', MB h n (at_ + 1) (u' ++ st0) cm' μ' ∧ Lk u' ∧ rch h (1, at_, u ++ st0, cm) (0, at_ + 1, u' ++ st0, cm') := by
  have hl := B.2.1 at_
  have hpl : isP (h at_) = true → isT (h at_) = false := fun q => isT_P q
  obtain ⟨u', cm', m1, q1, q2, q3, q4, q5, q6, q7⟩ := m_sums B b0 (isP (h at_)) hpl hu mb
  have lt : at_ < n := by
    rcases e with e | e
    · exact nlt0 B (f := isT) e rfl
    · exact nlt0 B (f := isP) e.2 rfl
  obtain ⟨m2, p1, p2, p3⟩ := m_puts q2.1 B hl lt (nI (h at_)) rfl
  have ho : opn (h at_ :: (u' ++ st0)) = opn (u' ++ st0) := by
    rcases e with e | e
    · exact opn_T e
    · exact opn_P e.2
  refine ⟨m2, ?_, q3.tr p3, h at_ :: u', cm', ⟨by show MBo h n (at_ + 1) (h at_ :: (u' ++ st0)) cm' (opn (h at_ :: (u' ++ st0))) m2; rw [ho]; exact p2, by show opn (h at_ :: (u' ++ st0)) ≤ 6; rw [ho]; exact q2.2⟩, Lk_c q5 (by rcases e with e | e <;> simp [e]), q4.tr (rch.one ?_)⟩
  · unfold f_M_stays_J19
    rw [mtP _ hl, bsome, q1, bsome, p1, bsome]
  · rcases e with e | e
    · exact a1_T q6 e
    · exact a1_P q6 e.1 (q7 e.2) e.2
theorem m_stays (B : HB h n) (b0 : Bs st0) (hu : Lk u) (mb : MB h n at_ (u ++ st0) cm μ) : ∃ y μ', f_M_stays 49 μ = some (y, μ') ∧ Sm Pmt μ μ' ∧ ((y = 1 ∧ at_ < n ∧ gI μ' 49 48 = gI μ 49 48 ∧ ∃ u' cm', MB h n (at_ + 1) (u' ++ st0) cm' μ' ∧ Lk u' ∧ rch h (1, at_, u ++ st0, cm) (0, at_ + 1, u' ++ st0, cm')) ∨ (y = 1 ∧ at_ < n ∧ gI μ' 49 48 = 1 ∧ ∃ u' cm', MB h n (at_ + 1) (u' ++ st0) cm' μ' ∧ Lk u' ∧ rch h (1, at_, u ++ st0, cm) (1, at_ + 1, u' ++ st0, cm')) ∨ (y = 0 ∧ ∃ z, ME z μ' ∧ rch h (1, at_, u ++ st0, cm) (5, z, [], [])) ∨ (y = 0 ∧ ∃ u' cm', MB h n at_ (u' ++ st0) cm' μ' ∧ Lk u' ∧ rch h (1, at_, u ++ st0, cm) (1, at_, u' ++ st0, cm') ∧ isT (hdd (u' ++ st0)) = false ∧ isP (hdd (u' ++ st0)) = false ∧ isT (h at_) = false ∧ isP (h at_) = false ∧ ¬ h at_ = 93)) := by
  have hl := B.2.1 at_
  have w := mb.1.1
  have le := mb.1.le
  have b := B.1
  unfold f_M_stays
  rw [kO_49 w, bsome, m_here mb.1 B, bsome, mtT _ hl, bsome]
  by_cases c1 : isT (h at_) = true
  · obtain ⟨μ', q1, q2, q3⟩ := staysP B b0 hu mb (Or.inl c1)
    exact ⟨1, μ', by rw [c1, if_neg (by decide), q1], pm q2, Or.inl ⟨rfl, nlt0 B (f := isT) c1 rfl, (fl0 q2).1, q3⟩⟩
  · have c1 := Bool.eq_false_iff.mpr c1
    rw [c1, if_pos (by decide), mtP _ hl, bsome]
    by_cases c2 : isP (h at_) = true
    · obtain ⟨μ', q1, q2, q3⟩ := staysP B b0 hu mb (Or.inr ⟨c1, c2⟩)
      exact ⟨1, μ', by rw [c2, if_neg (by decide), q1], pm q2, Or.inl ⟨rfl, nlt0 B (f := isP) c2 rfl, (fl0 q2).1, q3⟩⟩
    · have c2 := Bool.eq_false_iff.mpr c2
      obtain ⟨u', cm', m1, q1, q2, q3, q4, q5, q6, q7⟩ := m_sums B b0 true (fun _ => c1) hu mb
      have q1 : f_M_sums 49 (1 : Int32) μ = some m1 := q1
      have q7 := q7 rfl
      have w1 := q2.1.1
      have i93 := ic (h at_) 93 hl (by decide) 93 rfl
      rw [c2, if_pos (by decide), q1, bsome]
      have ae := a1_end (h := h) (at_ := at_) (st := u' ++ st0) (cm := cm') q6 c1 q7 c2
      by_cases c3 : h at_ = 93
      · rw [if_pos c3] at ae
        rw [if_pos (i93.mpr c3), m_top q2.1 B, bsome]
        have i91 := ic (hdd (u' ++ st0)) 91 (hdd_lt q2.1) (by decide) 91 rfl
        by_cases c4 : hdd (u' ++ st0) = 91
        · rw [if_pos c4] at ae
          rw [if_pos (i91.mpr c4)]
          match u', q2, q4, q5, c4, ae with
          | [], _, _, _, c4, _ => exact absurd c4 b0.2.2
          | c :: u'', q2, q4, q5, c4, ae =>
            have c4 : c = 91 := c4
            subst c4
            have lt : at_ < n := lt0 B c3 (by decide)
            have lu : Lk u'' := fun d hd => q5 d (List.mem_cons_of_mem _ hd)
            have ho : opn (91 :: (u'' ++ st0)) = opn (u'' ++ st0) + 1 := rfl
            have h6 : opn (91 :: (u'' ++ st0)) ≤ 6 := q2.2
            obtain ⟨w', r40, r41, r42, r46, r45, r44, rs, rc, rt, rl, r1, r2⟩ := q2.1
            obtain ⟨m2, e2⟩ : ∃ x, x = sI m1 49 46 (nI (u'' ++ st0).length) := ⟨_, rfl⟩
            obtain ⟨m3, e3⟩ : ∃ x, x = sI m2 49 45 (nI (opn (u'' ++ st0))) := ⟨_, rfl⟩
            obtain ⟨m4, e4⟩ : ∃ x, x = sI m3 49 40 (nI (at_ + 1)) := ⟨_, rfl⟩
            obtain ⟨m5, e5⟩ : ∃ x, x = sI m4 49 48 1 := ⟨_, rfl⟩
            have s2 : Sm Pmt m1 m2 := by rw [e2]; exact Sm.sI rfl
            have s3 : Sm Pmt m1 m3 := by rw [e3]; exact s2.tr (Sm.sI rfl)
            have s4 : Sm Pmt m1 m4 := by rw [e4]; exact s3.tr (Sm.sI rfl)
            have s5 : Sm Pmt m1 m5 := by rw [e5]; exact s4.tr (Sm.sI rfl)
            have g2 : gI m2 49 = upd (gI m1 49) 46 (nI (u'' ++ st0).length) := by rw [e2, gI_sI]
            have g3 : gI m3 49 = upd (gI m2 49) 45 (nI (opn (u'' ++ st0))) := by rw [e3, gI_sI]
            have g4 : gI m4 49 = upd (gI m3 49) 40 (nI (at_ + 1)) := by rw [e4, gI_sI]
            have g5 : gI m5 49 = upd (gI m4 49) 48 1 := by rw [e5, gI_sI]
            have gx : ∀ x, ¬ x = 49 → gI m5 x = gI m1 x := fun x hx => by rw [e5, gI_sI_ne hx, e4, gI_sI_ne hx, e3, gI_sI_ne hx, e2, gI_sI_ne hx]
            refine ⟨1, m5, ?_, (pm q3).tr s5, Or.inr (Or.inl ⟨rfl, lt, by rw [g5, upd_s], u'', cm', ⟨⟨s5.wf w1, ?_, ?_, ?_, ?_, ?_, ?_, ?_, ?_, ?_, fun d hd => rl d (List.mem_cons_of_mem _ hd), ?_, by omega⟩, by omega⟩, lu, q4.tr (rch.one ae)⟩)⟩
            · rw [rI_49 w1, bsome, r46]
              show (pI m1 49 1 46 (nI ((u'' ++ st0).length + 1) - 1)).bind _ = _
              rw [nI_pred', pI_49 w1, bsome, ← e2, rI_49 (s2.wf w1), bsome, g2, upd_o (by decide), r45]
              show (pI m2 49 1 45 (nI (opn (u'' ++ st0) + 1) - 1)).bind _ = _
              rw [nI_pred', pI_49 (s2.wf w1), bsome, ← e3, rI_49 (s3.wf w1), bsome, g3, upd_o (by decide), g2, upd_o (by decide), r40, nI_1, pI_49 (s3.wf w1), bsome, ← e4, pZ_49 (s4.wf w1) (Or.inr rfl), bsome, ← e5]
            · rw [g5, upd_o (by decide), g4, upd_s]
            · rw [g5, upd_o (by decide), g4, upd_o (by decide), g3, upd_o (by decide), g2, upd_o (by decide)]; exact r41
            · rw [g5, upd_o (by decide), g4, upd_o (by decide), g3, upd_o (by decide), g2, upd_o (by decide)]; exact r42
            · rw [g5, upd_o (by decide), g4, upd_o (by decide), g3, upd_o (by decide), g2, upd_s]
            · rw [g5, upd_o (by decide), g4, upd_o (by decide), g3, upd_s]
            · rw [g5, upd_o (by decide), g4, upd_o (by decide), g3, upd_o (by decide), g2, upd_o (by decide)]; exact r44
            · rw [gx 80 (by decide)]; exact rs.2
            · rw [gx 78 (by decide), gx 79 (by decide)]; exact rc
            · intro j hj
              rw [gx 50 (by decide)]; exact rt j hj
            · have r1 : (u'' ++ st0).length + 1 + cm'.length ≤ at_ := r1
              omega
        · rw [if_neg c4] at ae
          rw [if_neg (fun q => c4 (i91.mp q))]
          obtain ⟨m2, p1, p2, p3, -⟩ := m_wrongs q2.1 B 1 at_ (by decide) (by decide) (by omega) 1 (nI at_) rfl rfl
          exact ⟨0, m2, by rw [rI_49 w1, bsome, q2.1.2.1, p1, bsome], pm (q3.tr p3), Or.inr (Or.inr (Or.inl ⟨rfl, _, p2, q4.tr (rch.one ae)⟩))⟩
      · exact ⟨0, m1, by rw [if_neg (fun q => c3 (i93.mp q))], pm q3, Or.inr (Or.inr (Or.inr ⟨rfl, u', cm', q2, q5, q4, q6, q7, rfl, rfl, c3⟩))⟩
theorem pu {μ' : MM} (s : Sm Pm0 μ μ') : Sm Pmu μ μ' := (s.mono Pmt_0).mono Pmu_t
theorem tu {μ' : MM} (s : Sm Pmt μ μ') : Sm Pmu μ μ' := s.mono Pmu_t
theorem ft7 {μ' : MM} (s : Sm Pmt μ μ') : gI μ' 49 47 = gI μ 49 47 := (s.2.2 49 47 rfl).1
theorem ME.f8 {z : Nat} (e : ME z μ) (v : Int32) : ME z (sI μ 49 48 v) ∧ Sm Pmt μ (sI μ 49 48 v) := by
  have s : Sm Pmt μ (sI μ 49 48 v) := Sm.sI rfl
  exact ⟨⟨s.wf e.1, by rw [gI_sI, upd_o (by decide)]; exact e.2.1, e.2.2.1, e.2.2.2⟩, s⟩
theorem valE {z m : Nat} (e : ME z μ) (x : Int32) : f_M_value_L7 49 (m + 1) x μ = some μ := by
  rw [e_M_value_L7]
  unfold f_M_value_J57
  by_cases c : x = 0
  · rw [if_pos c, m_goodE e, bsome, if_pos rfl]
  · rw [if_neg c, m_goodE e, bsome, if_pos rfl, bsome, if_pos rfl]
def bm (b : Bool) : Nat := if b then 1 else 0
/-- behind a factor -/
theorem valB (B : HB h n) (b0 : Bs st0) {r m : Nat} (ih : ∀ (m at_ : Nat) (u : List Nat) (cm : CL) (μ : MM) (b : Bool), n - at_ ≤ r → r + 1 < m → Lk u → MB h n at_ (u ++ st0) cm μ → gI μ 49 48 = bi b → ∃ μ', f_M_value_L7 49 m 1 μ = some μ' ∧ Sm Pmt μ μ' ∧ ((∃ z, ME z μ' ∧ rch h (bm b, at_, u ++ st0, cm) (5, z, [], [])) ∨ ∃ b2 cm', at_ + (1 - bm b) ≤ b2 ∧ MB h n b2 st0 cm' μ' ∧ rch h (bm b, at_, u ++ st0, cm) (6, b2, st0, cm'))) {at_ : Nat} {u : List Nat} {cm : CL} {μ : MM} (hr : n - at_ ≤ r + 1) (hm : r + 1 < m) (hu : Lk u) (mb : MB h n at_ (u ++ st0) cm μ) : ∃ μ', f_M_value_J29 (f_M_value_L7 49 m) 49 μ = some μ' ∧ Sm Pmt μ μ' ∧ ((∃ z, ME z μ' ∧ rch h (1, at_, u ++ st0, cm) (5, z, [], [])) ∨ ∃ b2 cm', at_ ≤ b2 ∧ MB h n b2 st0 cm' μ' ∧ rch h (1, at_, u ++ st0, cm) (6, b2, st0, cm')) := by
  have w := mb.1.1
  obtain ⟨f1, f2⟩ := mb.1.f8 (0 : Int32)
  have mb1 : MB h n at_ (u ++ st0) cm (sI μ 49 48 0) := ⟨f1, mb.2⟩
  have g48 : gI (sI μ 49 48 0) 49 48 = 0 := by rw [gI_sI, upd_s]
  obtain ⟨y, m2, q1, q2, q3⟩ := m_stays B b0 hu mb1
  unfold f_M_value_J29
  rw [pZ_49 w (Or.inl rfl), bsome, m_good f1, bsome, if_neg (by decide), q1, bsome]
  rcases q3 with ⟨y1, lt, g, u', cm', p1, p2, p3⟩ | ⟨y1, lt, g, u', cm', p1, p2, p3⟩ | ⟨y0, z, p1, p2⟩ | ⟨y0, u', cm', p1, p2, p3, p4, p5, p6, p7, p8⟩
  · subst y1
    rw [if_neg (show ¬ (1 : Int32) = 0 by decide)]
    obtain ⟨μ', v1, v2, v3⟩ := ih m (at_ + 1) u' cm' m2 false (by omega) hm p2 p1 (by rw [g, g48]; rfl)
    refine ⟨μ', v1, f2.tr (q2.tr v2), ?_⟩
    rcases v3 with ⟨z, e1, e2⟩ | ⟨b2, cm2, e1, e2, e3⟩
    · exact Or.inl ⟨z, e1, p3.tr e2⟩
    · exact Or.inr ⟨b2, cm2, by omega, e2, p3.tr e3⟩
  · subst y1
    rw [if_neg (show ¬ (1 : Int32) = 0 by decide)]
    obtain ⟨μ', v1, v2, v3⟩ := ih m (at_ + 1) u' cm' m2 true (by omega) hm p2 p1 (by rw [g]; rfl)
    refine ⟨μ', v1, f2.tr (q2.tr v2), ?_⟩
    rcases v3 with ⟨z, e1, e2⟩ | ⟨b2, cm2, e1, e2, e3⟩
    · exact Or.inl ⟨z, e1, p3.tr e2⟩
    · exact Or.inr ⟨b2, cm2, by omega, e2, p3.tr e3⟩
  · subst y0
    obtain ⟨m, rfl⟩ : ∃ j, m = j + 1 := ⟨m - 1, by omega⟩
    exact ⟨m2, by rw [if_pos (show (0 : Int32) = 0 from rfl), valE p1], f2.tr q2, Or.inl ⟨z, p1, p2⟩⟩
  · subst y0
    obtain ⟨m, rfl⟩ : ∃ j, m = j + 1 := ⟨m - 1, by omega⟩
    have ae := a1_end (h := h) (at_ := at_) (st := u' ++ st0) (cm := cm') p4 p6 p5 p7
    rw [if_neg p8] at ae
    have i91 := ic (hdd (u' ++ st0)) 91 (hdd_lt p1.1) (by decide) 91 rfl
    have le := p1.1.le
    have b := B.1
    rw [if_pos (show (0 : Int32) = 0 from rfl), e_M_value_L7, if_pos (show (0 : Int32) = 0 from rfl)]
    unfold f_M_value_J57
    rw [m_good p1.1, bsome, if_neg (by decide), m_top p1.1 B, bsome]
    by_cases c4 : hdd (u' ++ st0) = 91
    · rw [if_pos c4] at ae
      obtain ⟨m3, v1, v2, v3, -⟩ := m_wrongs p1.1 B 1 at_ (by decide) (by decide) (by omega) 1 (nI at_) rfl rfl
      exact ⟨m3, by rw [if_pos (i91.mpr c4), rI_49 p1.1.1, bsome, p1.1.2.1, v1, bsome], f2.tr (q2.tr (pm v3)), Or.inl ⟨_, v2, p3.tr (rch.one ae)⟩⟩
    · rw [if_neg c4] at ae
      match u', p1, p2, p3, p4, p5, c4, ae with
      | [], p1, p2, p3, _, _, c4, ae => exact ⟨m2, by rw [if_neg (fun q => c4 (i91.mp q))], f2.tr q2, Or.inr ⟨at_, cm', Nat.le_refl _, p1, p3.tr (rch.one ae)⟩⟩
      | c :: u'', p1, p2, _, p4, p5, c4, _ =>
        exfalso
        have p4 : isT c = false := p4
        have p5 : isP c = false := p5
        have c4 : ¬ c = 91 := c4
        rcases p2 c (List.mem_cons_self ..) with e | e | e
        · exact c4 e
        · rw [p4] at e; cases e
        · rw [p5] at e; cases e
theorem valL (B : HB h n) (b0 : Bs st0) : ∀ (r m at_ : Nat) (u : List Nat) (cm : CL) (μ : MM) (b : Bool), n - at_ ≤ r → r + 1 < m → Lk u → MB h n at_ (u ++ st0) cm μ → gI μ 49 48 = bi b → ∃ μ', f_M_value_L7 49 m 1 μ = some μ' ∧ Sm Pmt μ μ' ∧ ((∃ z, ME z μ' ∧ rch h (bm b, at_, u ++ st0, cm) (5, z, [], [])) ∨ ∃ b2 cm', at_ + (1 - bm b) ≤ b2 ∧ MB h n b2 st0 cm' μ' ∧ rch h (bm b, at_, u ++ st0, cm) (6, b2, st0, cm')) := by
  intro r
  induction r with
  | zero =>
    intro m at_ u cm μ b hr hm hu mb g
    obtain ⟨m, rfl⟩ : ∃ j, m = j + 2 := ⟨m - 2, by omega⟩
    have w := mb.1.1
    have h0 : h at_ = 0 := B.2.2 at_ (by omega)
    rw [e_M_value_L7, if_neg (by decide), m_good mb.1, bsome, if_neg (by decide), rI_49 w, bsome, g]
    cases b with
    | false =>
      rw [if_pos (by decide)]
      obtain ⟨m1, q1, q2, q3⟩ := m_factor B hu mb
      rw [q1, bsome]
      rcases q3 with ⟨z, e1, e2⟩ | ⟨b2, u', cm', e1, e2, e3, e4⟩
      · obtain ⟨f1, f2⟩ := e1.f8 (0 : Int32)
        refine ⟨_, ?_, (pm q2).tr f2, Or.inl ⟨z, f1, e2⟩⟩
        unfold f_M_value_J29
        rw [pZ_49 e1.1 (Or.inl rfl), bsome, m_goodE f1, bsome, if_pos rfl, valE f1]
      · have := e2.1.le
        omega
    | true =>
      rw [if_neg (by decide)]
      obtain ⟨f1, f2⟩ := mb.1.f8 (0 : Int32)
      have mb1 : MB h n at_ (u ++ st0) cm (sI μ 49 48 0) := ⟨f1, mb.2⟩
      obtain ⟨y, m2, q1, q2, q3⟩ := m_stays B b0 hu mb1
      unfold f_M_value_J29
      rw [pZ_49 w (Or.inl rfl), bsome, m_good f1, bsome, if_neg (by decide), q1, bsome]
      rcases q3 with ⟨y1, lt, -⟩ | ⟨y1, lt, -⟩ | ⟨y0, z, p1, p2⟩ | ⟨y0, u', cm', p1, p2, p3, p4, p5, p6, p7, p8⟩
      · omega
      · omega
      · subst y0
        exact ⟨m2, by rw [if_pos (show (0 : Int32) = 0 from rfl), valE p1], f2.tr q2, Or.inl ⟨z, p1, p2⟩⟩
      · subst y0
        have ae := a1_end (h := h) (at_ := at_) (st := u' ++ st0) (cm := cm') p4 p6 p5 p7
        rw [if_neg p8] at ae
        have i91 := ic (hdd (u' ++ st0)) 91 (hdd_lt p1.1) (by decide) 91 rfl
        have le := p1.1.le
        have b := B.1
        rw [if_pos (show (0 : Int32) = 0 from rfl), e_M_value_L7, if_pos (show (0 : Int32) = 0 from rfl)]
        unfold f_M_value_J57
        rw [m_good p1.1, bsome, if_neg (by decide), m_top p1.1 B, bsome]
        by_cases c4 : hdd (u' ++ st0) = 91
        · rw [if_pos c4] at ae
          obtain ⟨m3, v1, v2, v3, -⟩ := m_wrongs p1.1 B 1 at_ (by decide) (by decide) (by omega) 1 (nI at_) rfl rfl
          exact ⟨m3, by rw [if_pos (i91.mpr c4), rI_49 p1.1.1, bsome, p1.1.2.1, v1, bsome], f2.tr (q2.tr (pm v3)), Or.inl ⟨_, v2, p3.tr (rch.one ae)⟩⟩
        · rw [if_neg c4] at ae
          match u', p1, p2, p3, p4, p5, c4, ae with
          | [], p1, p2, p3, _, _, c4, ae => exact ⟨m2, by rw [if_neg (fun q => c4 (i91.mp q))], f2.tr q2, Or.inr ⟨at_, cm', Nat.le_refl _, p1, p3.tr (rch.one ae)⟩⟩
          | c :: u'', p1, p2, _, p4, p5, c4, _ =>
            exfalso
            have p4 : isT c = false := p4
            have p5 : isP c = false := p5
            have c4 : ¬ c = 91 := c4
            rcases p2 c (List.mem_cons_self ..) with e | e | e
            · exact c4 e
            · rw [p4] at e; cases e
            · rw [p5] at e; cases e
  | succ r ih =>
    intro m at_ u cm μ b hr hm hu mb g
    obtain ⟨m, rfl⟩ : ∃ j, m = j + 1 := ⟨m - 1, by omega⟩
    have w := mb.1.1
    rw [e_M_value_L7, if_neg (by decide), m_good mb.1, bsome, if_neg (by decide), rI_49 w, bsome, g]
    cases b with
    | false =>
      rw [if_pos (by decide)]
      obtain ⟨m1, q1, q2, q3⟩ := m_factor B hu mb
      rw [q1, bsome]
      rcases q3 with ⟨z, e1, e2⟩ | ⟨b2, u', cm', e1, e2, e3, e4⟩
      · obtain ⟨f1, f2⟩ := e1.f8 (0 : Int32)
        obtain ⟨m, rfl⟩ : ∃ j, m = j + 1 := ⟨m - 1, by omega⟩
        refine ⟨_, ?_, (pm q2).tr f2, Or.inl ⟨z, f1, e2⟩⟩
        unfold f_M_value_J29
        rw [pZ_49 e1.1 (Or.inl rfl), bsome, m_goodE f1, bsome, if_pos rfl, valE f1]
      · obtain ⟨μ', v1, v2, v3⟩ := valB (m := m) B b0 ih (by omega) (by omega) e3 e2
        refine ⟨μ', v1, (pm q2).tr v2, ?_⟩
        rcases v3 with ⟨z, f1, f2⟩ | ⟨b3, cm2, f1, f2, f3⟩
        · exact Or.inl ⟨z, f1, e4.tr f2⟩
        · exact Or.inr ⟨b3, cm2, by show at_ + (1 - 0) ≤ b3; omega, f2, e4.tr f3⟩
    | true =>
      rw [if_neg (by decide)]
      obtain ⟨μ', v1, v2, v3⟩ := valB (m := m) B b0 ih (by omega) (by omega) hu mb
      refine ⟨μ', v1, v2, ?_⟩
      rcases v3 with ⟨z, f1, f2⟩ | ⟨b3, cm2, f1, f2, f3⟩
      · exact Or.inl ⟨z, f1, f2⟩
      · exact Or.inr ⟨b3, cm2, by show at_ + (1 - 1) ≤ b3; omega, f2, f3⟩
theorem m_value (B : HB h n) (b0 : Bs st0) (mb : MB h n at_ st0 cm μ) : ∃ μ', f_M_value 49 μ = some μ' ∧ Sm Pmt μ μ' ∧ ((∃ z, ME z μ' ∧ rch h (0, at_, st0, cm) (5, z, [], [])) ∨ ∃ b2 cm', at_ < b2 ∧ MB h n b2 st0 cm' μ' ∧ rch h (0, at_, st0, cm) (6, b2, st0, cm')) := by
  have b := B.1
  obtain ⟨f1, f2⟩ := mb.1.f8 (0 : Int32)
  obtain ⟨μ', q1, q2, q3⟩ := valL B b0 n FU at_ [] cm (sI μ 49 48 0) false (by omega) (by unfold FU; omega) (fun c hc => absurd hc (by simp)) ⟨f1, mb.2⟩ (by rw [gI_sI, upd_s]; rfl)
  refine ⟨μ', ?_, f2.tr q2, ?_⟩
  · unfold f_M_value
    rw [kO_49 mb.1.1, bsome, pZ_49 mb.1.1 (Or.inl rfl), bsome, q1]
  · rcases q3 with ⟨z, f1, f2⟩ | ⟨b3, cm2, f1, f2, f3⟩
    · exact Or.inl ⟨z, f1, f2⟩
    · exact Or.inr ⟨b3, cm2, by have f1 : at_ + (1 - 0) ≤ b3 := f1; omega, f2, f3⟩
end
