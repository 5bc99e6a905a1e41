/-! LAYER 2: keynote, sink -/
/-- as bsome, but a step that the kernel need not find -/
theorem bsm {α β : Type} (a : α) (f : α → Option β) : (some a).bind f = f a := (Eq.refl ((some a).bind f)).trans (Eq.refl (f a))
theorem rd_xp {p : PT} {μ : MM} (hw : Wf μ) (hx : XP p μ) {b : Nat} (hb : b < 24) : aI μ 7 (nI b) = some (oI (kmil p b)) ∧ aI μ 8 (nI b) = some (pk (kx (pln p) (pa p) b) (kx (pln p) (pb p) b) (kx (pln p) (pc p) b)) ∧ aI μ 6 (nI b) = some (pln p b) := by
  rw [aI_7 hw hb, aI_8 hw hb, aI_6 hw hb, (hx.2.2 b hb).1, (hx.2.2 b hb).2, hx.1.2.1]
  exact ⟨rfl, rfl, rfl⟩
theorem kn_L {p : PT} {μ : MM} (hp' : WP p) (hw : Wf μ) (hm : MP p μ) {b : Nat} (hb : b < 24) (x2 y : Int32) : f_M_keynote_L37 49 (nI b) x2 y μ FU 0 0 0 = some ((if x2 = 0 then y else if x2 = 1 then gI μ 49 8 else if x2 = 2 then gI μ 49 9 else if x2 = 3 then gI μ 49 10 else if x2 = 4 then pln p b else if x2 = 5 then obits (fun v => hp p v b) 6 else obits (fun v => trn p v b) 6), μ) := by
  refine upA 6 (fun n v => f_M_keynote_L37 49 (nI b) x2 y μ n (obits (fun v => hp p v b) v) (obits (fun v => trn p v b) v) (nI v)) _ (fun n => ?_) (fun n v hv => ?_) 0 FU (by decide) (by decide)
  · show f_M_keynote_L37 49 (nI b) x2 y μ (n + 1) _ _ (nI 6) = _
    rw [e_M_keynote_L37, if_pos (by decide), rI_49 hw, bsome, rI_49 hw, bsome, rI_49 hw, bsome, rR_49_7 hw, bsome, aI_56 hw (by omega), bsome, hm.2.1]
    repeat' split
    all_goals rfl
  · show f_M_keynote_L37 49 (nI b) x2 y μ (n + 1) _ _ (nI v) = f_M_keynote_L37 49 (nI b) x2 y μ n _ _ (nI (v + 1))
    rw [e_M_keynote_L37, if_neg (show ¬ (6 : Int32) ≤ nI v from nI_ge (b := 6) (by omega) (by omega)), s_hpM hw hm, bsome]
    unfold f_M_keynote_J92
    rw [nI_1]
    cases e : hp p v b with
    | false => rw [obits_f (f := fun v => hp p v b) e, obits_f (f := fun v => trn p v b) (by unfold trn; rw [e]; rfl), or_0, or_0]; rfl
    | true =>
      rw [if_neg (by decide), rR_49_7 hw, bsome, aI_56 hw (by omega), bsome, hm.2.1, s_tornBy hw hm hv hb e (lok_pln hp' hb), bsome, obits_t (f := fun v => hp p v b) e]
      by_cases e2 : oI (tby p v b (lml p (pln p b) b)) = 0
      · rw [if_pos e2, obits_f (f := fun v => trn p v b) (by unfold trn; rw [decide_eq_false (fun z => z e2), Bool.and_false])]
      · rw [if_neg e2, obits_t (f := fun v => trn p v b) (by unfold trn; rw [decide_eq_true e2, e]; rfl)]
theorem out_ne {n : Nat} (hn : n < 2 ^ 31) {x : Int32} (h : inR x n = false) {j : Nat} (hj : j < n) : ¬ x = nI j := by
  intro e
  subst e
  rw [inR_nI hj hn] at h
  cases h
def knv (p : PT) (b : Nat) (x2 : Int32) : Int32 := if x2 = 0 then oI (kmil p b) else if x2 = 1 then oI (kx (pln p) (pa p) b) else if x2 = 2 then oI (kx (pln p) (pb p) b) else if x2 = 3 then oI (kx (pln p) (pc p) b) else if x2 = 4 then pln p b else if x2 = 5 then obits (fun v => hp p v b) 6 else obits (fun v => trn p v b) 6
theorem keynote_X {p : PT} {μ : MM} (hp' : WP p) (hw : Wf μ) (hx : XP p μ) (hm : MP p μ) {b k : Nat} (hb : b < 24) (hk : k < 7) : f_X_keynote 0 (nI b) (nI k) μ = some (knv p b (nI k)) := by
  have g1 : ¬ nI b < 0 := nI_pos (by omega)
  have gl : nI b < (24 : Int32) := by rw [show (24 : Int32) = nI 24 from rfl, clt (by omega) (by omega)]; exact hb
  obtain ⟨r7, r8, r6⟩ := rd_xp hw hx hb
  obtain ⟨x_1, x_2, x_3⟩ := s_exponent (kx_w hp' hb)
  unfold f_X_keynote f_X_keynote_J66
  rw [kO_0 hw, bsome, if_neg g1, if_pos gl, rR_0_0 hw]
  simp only [bsm]
  rw [rR_1_5 hw, rR_1_6 hw, rR_1_4 hw]
  simp only [bsm]
  rw [r7, r8, r6, s_heldIn hw hx.1 hb, s_tornIn hw hx hb]
  simp only [bsm]
  unfold knv
  by_cases q0 : nI k = 0
  · rw [if_pos q0, if_pos q0]
  rw [if_neg q0, if_neg q0]
  by_cases q1 : nI k = 1
  · rw [if_pos q1, if_pos q1, q1, x_1, bsome]
  rw [if_neg q1, if_neg q1]
  by_cases q2 : nI k = 2
  · rw [if_pos q2, if_pos q2, q2, x_2, bsome]
  rw [if_neg q2, if_neg q2]
  by_cases q3 : nI k = 3
  · rw [if_pos q3, if_pos q3, q3, x_3, bsome]
  rw [if_neg q3, if_neg q3]
  by_cases q4 : nI k = 4
  · rw [if_pos q4, if_pos q4]
  rw [if_neg q4, if_neg q4]
  by_cases q5 : nI k = 5
  · rw [if_pos q5, if_pos q5]
  rw [if_neg q5, if_neg q5]
  have q6 : nI k = 6 := by
    have l : ∀ j : Nat, j < 6 → ¬ nI k = nI j → ¬ k = j := fun j hj z e => z (by rw [e])
    have := l 0 (by decide) q0
    have := l 1 (by decide) q1
    have := l 2 (by decide) q2
    have := l 3 (by decide) q3
    have := l 4 (by decide) q4
    have := l 5 (by decide) q5
    have : k = 6 := by omega
    rw [this]; rfl
  rw [if_pos q6]
theorem keynote_M {p : PT} {μ : MM} (hp' : WP p) (hw : Wf μ) (hx : XP p μ) (hm : MP p μ) {b k : Nat} (hb : b < 24) (hk : k < 7) : ∃ μ', f_M_keynote 49 (nI b) (nI k) μ = some (knv p b (nI k), μ') ∧ Sm Pgo μ μ' := by
  obtain ⟨μ', e, s, g8, g9, g10⟩ := s_keynoteOf hp' hw hm hb
  have w' := s.wf hw
  have m' := hm.go s
  refine ⟨μ', ?_, s⟩
  unfold f_M_keynote
  rw [kO_49 hw, bsome, s_isBeat, inR_nI hb (by decide), bsome, if_neg (by decide), s_liesI _ 0 6 0 6 (by decide) (by decide), inR_le _ 7 6 (by decide), inR_nI hk (by decide), bsome, if_neg (by decide), e, bsome, kn_L hp' w' m' hb, g8, g9, g10, knv]
theorem keynote_O1 {p : PT} {μ : MM} (hp' : WP p) (hw : Wf μ) (hx : XP p μ) (hm : MP p μ) {b : Nat} (hb : b < 24) {x2 : Int32} (h : inR x2 7 = false) : f_X_keynote 0 (nI b) x2 μ = some (-1000000000) := by
  have g1 : ¬ nI b < 0 := nI_pos (by omega)
  have gl : nI b < (24 : Int32) := by rw [show (24 : Int32) = nI 24 from rfl, clt (by omega) (by omega)]; exact hb
  have nn := @out_ne 7 (by decide) x2 h
  unfold f_X_keynote; rw [kO_0 hw, bsome, if_neg g1, if_pos gl, if_neg (show ¬ x2 = (0 : Int32) from nn (j := 0) (by decide)), if_neg (show ¬ x2 = (1 : Int32) from nn (j := 1) (by decide)), if_neg (show ¬ x2 = (2 : Int32) from nn (j := 2) (by decide)), if_neg (show ¬ x2 = (3 : Int32) from nn (j := 3) (by decide)), if_neg (show ¬ x2 = (4 : Int32) from nn (j := 4) (by decide)), if_neg (show ¬ x2 = (5 : Int32) from nn (j := 5) (by decide)), if_neg (show ¬ x2 = (6 : Int32) from nn (j := 6) (by decide))]
theorem keynote_O2 {p : PT} {μ : MM} (hp' : WP p) (hw : Wf μ) (hx : XP p μ) (hm : MP p μ) {b : Nat} (hb : b < 24) {x2 : Int32} (h : inR x2 7 = false) : f_M_keynote 49 (nI b) x2 μ = some (-1000000000, μ) := by
  unfold f_M_keynote; rw [kO_49 hw, bsome, s_isBeat, inR_nI hb (by decide), bsome, if_neg (by decide), s_liesI x2 0 6 0 6 (by decide) (by decide), inR_le x2 7 6 (by decide), h, bsome, if_pos (by decide)]
theorem keynote_ok {p : PT} {μ : MM} (hp' : WP p) (hw : Wf μ) (hx : XP p μ) (hm : MP p μ) (x1 x2 : Int32) : ∃ r μ2, f_X_keynote 0 x1 x2 μ = some r ∧ f_M_keynote 49 x1 x2 μ = some (r, μ2) ∧ Sm Pgo μ μ2 := by
  rcases ixc 24 24 rfl (by decide) x1 with ⟨g1, g2⟩ | ⟨g1, g2, g3⟩ | ⟨g1, g2, g3, b, hb, rfl⟩
  · refine ⟨-1000000000, μ, ?_, ?_, Sm.rf⟩
    · unfold f_X_keynote; rw [kO_0 hw, bsome, if_pos g1]
    · unfold f_M_keynote; rw [kO_49 hw, bsome, s_isBeat, g2]; rfl
  · refine ⟨-1000000000, μ, ?_, ?_, Sm.rf⟩
    · unfold f_X_keynote; rw [kO_0 hw, bsome, if_neg g1, if_neg]
      rw [toInt_lt]; rw [toInt_le] at g2; omega
    · unfold f_M_keynote; rw [kO_49 hw, bsome, s_isBeat, g3]; rfl
  have z : ∀ {y : Int32}, inR y 7 = false → ∃ r μ2, f_X_keynote 0 (nI b) y μ = some r ∧ f_M_keynote 49 (nI b) y μ = some (r, μ2) ∧ Sm Pgo μ μ2 := fun h => ⟨_, _, keynote_O1 hp' hw hx hm hb h, keynote_O2 hp' hw hx hm hb h, Sm.rf⟩
  rcases ixc 7 7 rfl (by decide) x2 with ⟨h1, h2⟩ | ⟨h1, h2, h3⟩ | ⟨h1, h2, h3, k, hk, rfl⟩
  · exact z h2
  · exact z h3
  · obtain ⟨μ', e, s⟩ := keynote_M hp' hw hx hm hb hk
    exact ⟨_, _, keynote_X hp' hw hx hm hb hk, e, s⟩
