/-! LAYER 2: sink -/
theorem sink_X {p : PT} {μ : MM} (hq : WP p) (hw : Wf μ) (hx : XP p μ) {j : Nat} (hj : j < 24) (hb : lbt p = nI j) (x1 : Int32) : f_X_sink 0 x1 μ = some (if x1 = 0 then oI (kmil p j) else if x1 = 1 then oI (kx (pln p) (pa p) j) else if x1 = 2 then oI (kx (pln p) (pb p) j) else if x1 = 3 then oI (kx (pln p) (pc p) j) else if x1 = 4 then oI (ffs p 23) else if x1 = 5 then nI j else -1000000000) := by
  obtain ⟨r7, r8, r6⟩ := rd_xp hw hx hj
  obtain ⟨x_1, x_2, x_3⟩ := s_exponent (kx_w hq hj)
  unfold f_X_sink f_X_sink_J66
  rw [kO_0 hw, bsome, rR_0_0 hw]
  simp only [bsm]
  rw [s_lastBeat hw hx.1, hb, rR_1_5 hw, rR_1_6 hw]
  simp only [bsm]
  rw [if_neg (nI_ne_m1 (by omega)), r7, r8, s_foulness hq hw hx]
  simp only [bsm]
  by_cases q0 : x1 = 0
  · rw [if_pos q0, if_pos q0]
  rw [if_neg q0, if_neg q0]
  by_cases q1 : x1 = 1
  · rw [if_pos q1, if_pos q1, q1, x_1, bsome]
  rw [if_neg q1, if_neg q1]
  by_cases q2 : x1 = 2
  · rw [if_pos q2, if_pos q2, q2, x_2, bsome]
  rw [if_neg q2, if_neg q2]
  by_cases q3 : x1 = 3
  · rw [if_pos q3, if_pos q3, q3, x_3, bsome]
  rw [if_neg q3, if_neg q3]
  by_cases q4 : x1 = 4
  · rw [if_pos q4, if_pos q4]
  rw [if_neg q4, if_neg q4]
  by_cases q5 : x1 = 5
  · rw [if_pos q5, if_pos q5]
  rw [if_neg q5, if_neg q5]
theorem sink_M {p : PT} {μ : MM} (hq : WP p) (hw : Wf μ) (hm : MP p μ) {j : Nat} (hj : j < 24) (hb : lbt p = nI j) {k : Nat} (hk : k < 6) : ∃ μ', f_M_sink 49 (nI k) μ = some (if nI k = 0 then oI (kmil p j) else if nI k = 1 then oI (kx (pln p) (pa p) j) else if nI k = 2 then oI (kx (pln p) (pb p) j) else if nI k = 3 then oI (kx (pln p) (pc p) j) else if nI k = 4 then oI (ffs p j) else nI j, μ') ∧ Sm Pgo μ μ' := by
  obtain ⟨μ', e, s, g8, g9, g10⟩ := s_keynoteOf hq hw hm hj
  have w' := s.wf hw
  by_cases q5 : nI k = 5
  · refine ⟨μ, ?_, Sm.rf⟩
    unfold f_M_sink
    rw [kO_49 hw, bsome, s_lastBeatM hw hm, hb, bsome, if_neg (nI_ne_m1 (by omega)), s_liesI _ 0 5 0 5 (by decide) (by decide), inR_le _ 6 5 (by decide), inR_nI hk (by decide), bsome, if_neg (by decide), if_pos q5, q5, if_neg (by decide), if_neg (by decide), if_neg (by decide), if_neg (by decide), if_neg (by decide)]
  by_cases q4 : nI k = 4
  · refine ⟨μ, ?_, Sm.rf⟩
    unfold f_M_sink
    rw [kO_49 hw, bsome, s_lastBeatM hw hm, hb, bsome, if_neg (nI_ne_m1 (by omega)), s_liesI _ 0 5 0 5 (by decide) (by decide), inR_le _ 6 5 (by decide), inR_nI hk (by decide), bsome, if_neg (by decide), if_neg q5, if_pos q4, s_sinkL hq hw hm hj, q4, if_neg (by decide), if_neg (by decide), if_neg (by decide), if_neg (by decide), if_pos rfl]
  refine ⟨μ', ?_, s⟩
  unfold f_M_sink
  rw [kO_49 hw, bsome, s_lastBeatM hw hm, hb, bsome, if_neg (nI_ne_m1 (by omega)), s_liesI _ 0 5 0 5 (by decide) (by decide), inR_le _ 6 5 (by decide), inR_nI hk (by decide), bsome, if_neg (by decide), if_neg q5, if_neg q4, e, bsome, rI_49 w', bsome, rI_49 w', bsome, rI_49 w', bsome, g8, g9, g10, if_neg q4]
  by_cases q0 : nI k = 0
  · rw [if_pos q0, if_pos q0]
  rw [if_neg q0, if_neg q0]
  by_cases q1 : nI k = 1
  · rw [if_pos q1, if_pos q1]
  rw [if_neg q1, if_neg q1]
  by_cases q2 : nI k = 2
  · rw [if_pos q2, if_pos q2]
  rw [if_neg q2, if_neg q2]
  have q3 : nI k = 3 := by
    have l : ∀ j : Nat, ¬ nI k = nI j → ¬ k = j := fun j z e => z (by rw [e])
    have := l 0 q0
    have := l 1 q1
    have := l 2 q2
    have := l 4 q4
    have := l 5 q5
    have : k = 3 := by omega
    rw [this]; rfl
  rw [if_pos q3]
theorem sink_ok {p : PT} {μ : MM} (hq : WP p) (hw : Wf μ) (hx : XP p μ) (hm : MP p μ) (x1 : Int32) : ∃ r μ2, f_X_sink 0 x1 μ = some r ∧ f_M_sink 49 x1 μ = some (r, μ2) ∧ Sm Pgo μ μ2 := by
  rcases lastb_c (f := snds p) 24 with ⟨h1, -⟩ | ⟨j, h1, h2, -, h4⟩
  · refine ⟨-1000000000, μ, ?_, ?_, Sm.rf⟩
    · unfold f_X_sink
      rw [kO_0 hw, bsome, rR_0_0 hw, bsome, s_lastBeat hw hx.1, bsome, if_pos (show lbt p = -1 from h1)]
    · unfold f_M_sink
      rw [kO_49 hw, bsome, s_lastBeatM hw hm, bsome, if_pos (show lbt p = -1 from h1)]
  · have hX := sink_X hq hw hx h1 h2 x1
    have z : ∀ {y : Int32}, inR y 6 = false → ∃ r μ2, f_X_sink 0 y μ = some r ∧ f_M_sink 49 y μ = some (r, μ2) ∧ Sm Pgo μ μ2 := fun {y} h => by
      have nn := @out_ne 6 (by decide) y h
      refine ⟨-1000000000, μ, ?_, ?_, Sm.rf⟩
      · rw [sink_X hq hw hx h1 h2 y, if_neg (show ¬ y = (0 : Int32) from nn (j := 0) (by decide)), if_neg (show ¬ y = (1 : Int32) from nn (j := 1) (by decide)), if_neg (show ¬ y = (2 : Int32) from nn (j := 2) (by decide)), if_neg (show ¬ y = (3 : Int32) from nn (j := 3) (by decide)), if_neg (show ¬ y = (4 : Int32) from nn (j := 4) (by decide)), if_neg (show ¬ y = (5 : Int32) from nn (j := 5) (by decide))]
      · unfold f_M_sink
        rw [kO_49 hw, bsome, s_lastBeatM hw hm, show lbt p = nI j from h2, bsome, if_neg (nI_ne_m1 (by omega)), s_liesI _ 0 5 0 5 (by decide) (by decide), inR_le _ 6 5 (by decide), h, bsome, if_pos (by decide)]
    rcases ixc 6 6 rfl (by decide) x1 with ⟨a1, a2⟩ | ⟨a1, a2, a3⟩ | ⟨a1, a2, a3, k, hk, rfl⟩
    · exact z a2
    · exact z a3
    · obtain ⟨μ', e, s⟩ := sink_M hq hw hm h1 h2 hk
      refine ⟨_, μ', hX, ?_, s⟩
      rw [e, ffs_end 23 (by omega) (by decide) h4]
      by_cases q0 : nI k = 0
      · rw [if_pos q0, if_pos q0]
      rw [if_neg q0, if_neg q0]
      by_cases q1 : nI k = 1
      · rw [if_pos q1, if_pos q1]
      rw [if_neg q1, if_neg q1]
      by_cases q2 : nI k = 2
      · rw [if_pos q2, if_pos q2]
      rw [if_neg q2, if_neg q2]
      by_cases q3 : nI k = 3
      · rw [if_pos q3, if_pos q3]
      rw [if_neg q3, if_neg q3]
      by_cases q4 : nI k = 4
      · rw [if_pos q4, if_pos q4]
      rw [if_neg q4, if_neg q4, if_pos]
      have l : ∀ j : Nat, ¬ nI k = nI j → ¬ k = j := fun j z e => z (by rw [e])
      have := l 0 q0
      have := l 1 q1
      have := l 2 q2
      have := l 3 q3
      have := l 4 q4
      have : k = 5 := by omega
      rw [this]; rfl
