/-! LAYER 2: a clause and a text, in the reference -/
def Pmc (x k : Nat) : Bool := Pmu x k || ((x == 49 && k == 43) || x == 74 || x == 75 || x == 76 || x == 77)
theorem Pmc_u (x k : Nat) (h : Pmc x k = false) : Pmu x k = false := (Bool.or_eq_false_iff.mp h).1
def MT (h : Nat → Nat) (n at_ : Nat) (cm : CL) (μ : MM) : Prop := Wf μ ∧ gI μ 49 40 = nI at_ ∧ gI μ 49 41 = nI n ∧ gI μ 49 42 = 0 ∧ gI μ 49 44 = nI cm.length ∧ HC (gI μ 78) (gI μ 79) cm ∧ (∀ j, j < n → gI μ 50 j &&& 255 = nI (h j)) ∧ cm.length ≤ at_ ∧ at_ ≤ n
theorem wch_wix : ∀ c, c < 256 → wix c < 5 → wch (wix c) = c := by decide +kernel
section
variable {h : Nat → Nat} {n at_ z : Nat} {st : List Nat} {cm : CL} {μ : MM}
theorem MB.mt (mb : MB h n at_ [] cm μ) : MT h n at_ cm μ := by
  obtain ⟨w, r40, r41, r42, r46, r45, r44, rs, rc, rt, rl, r1, r2⟩ := mb.1
  exact ⟨w, r40, r41, r42, r44, rc, rt, by have r1 : 0 + cm.length ≤ at_ := r1; omega, r2⟩
theorem MT.le (mt : MT h n at_ cm μ) : cm.length ≤ at_ ∧ at_ ≤ n := mt.2.2.2.2.2.2.2
theorem t_here (mt : MT h n at_ cm μ) (B : HB h n) : f_M_here 49 μ = some (nI (h at_)) := by
  have le := mt.le
  have b := B.1
  obtain ⟨w, r40, r41, r42, r44, rc, rt, -⟩ := mt
  unfold f_M_here
  rw [kO_49 w, bsome, rI_49 w, bsome, r40, rI_49 w, bsome, r41]
  by_cases e : at_ < n
  · rw [if_neg (by rw [cle (by omega) (by omega)]; omega), rR_49_0 w, bsome, bsome, aB_50 w (by omega), bsome, show (255 : Int32) = 255 from rfl, rt at_ e]
  · rw [if_pos (by rw [cle (by omega) (by omega)]; omega), B.2.2 at_ (by omega)]; rfl
theorem t_good (mt : MT h n at_ cm μ) : f_M_isGood 49 μ = some 1 := by
  unfold f_M_isGood
  rw [kO_49 mt.1, bsome, rI_49 mt.1, bsome, mt.2.2.2.1, if_pos rfl]
theorem t_wrongs (mt : MT h n at_ cm μ) (B : HB h n) (f q : Nat) (f0 : 0 < f) (f9 : f ≤ 9) (hq : q ≤ 300) (x1 x2 : Int32) (e1 : x1 = nI f) (e2 : x2 = nI q) : ∃ μ', f_M_wrongs 49 x1 x2 μ = some μ' ∧ ME (1000 * f + q) μ' ∧ Sm Pm0 μ μ' ∧ gI μ' = gI (sI μ 49 42 (oI (-((1000 * f + q : Nat) : Int)))) := by
  subst e1; subst e2
  have w := mt.1
  have s : Sm Pm0 μ (sI μ 49 42 (oI (-((1000 * f + q : Nat) : Int)))) := Sm.sI rfl
  refine ⟨_, ?_, ⟨s.wf w, by rw [gI_sI, upd_s], by omega, by omega⟩, s, rfl⟩
  unfold f_M_wrongs f_M_wrongs_J22
  rw [kO_49 w, bsome, rI_49 w, bsome, mt.2.2.2.1, if_pos (by decide), pI_49 w, bsome]
  have : (((-1000 : Int32) * nI f) - nI q) = oI (-((1000 * f + q : Nat) : Int)) := by
    rw [show (-1000 : Int32) = oI (-1000) from rfl, oI_nI f, oI_mul, oI_nI q, oI_sub]
    congr 1; omega
  rw [this]
theorem m_condition (B : HB h n) (mb : MB h n at_ [] cm μ) : ∃ μ', f_M_condition 49 μ = some μ' ∧ Sm Pmu μ μ' ∧ ((¬ h at_ = 40 ∧ ME (1000 * 1 + at_) μ') ∨ (h at_ = 40 ∧ ((∃ z, ME z μ' ∧ rch h (2, at_ + 1, [40], cm) (5, z, [], [])) ∨ ∃ b2 cm', MB h n b2 [] cm' μ' ∧ rch h (2, at_ + 1, [40], cm) (4, b2, [], cm')))) := by
  have w := mb.1.1
  have hl := B.2.1 at_
  have le := mb.1.le
  have b := B.1
  have i40 := ic (h at_) 40 hl (by decide) 40 rfl
  obtain ⟨f1, f2⟩ := mb.1.fl (Or.inl rfl) (0 : Int32)
  unfold f_M_condition
  rw [kO_49 w, bsome, pZ_49 w (Or.inl rfl), bsome, m_here f1 B, bsome]
  by_cases c : h at_ = 40
  · rw [if_pos (i40.mpr c)]
    have lt : at_ < n := lt0 B c (by decide)
    obtain ⟨m1, q1, q2, q3⟩ := m_opens (st := []) f1 B lt (by rw [c]; rfl) (by decide)
    unfold f_M_condition_J23
    rw [m_good f1, bsome, if_neg (by decide), q1, bsome]
    rcases q3 with ⟨g1, -⟩ | ⟨g1, g2⟩
    · exact absurd g1 (by decide)
    · rw [c] at g2
      have g47 : gI m1 49 47 = 0 := by rw [(fl0 q2).2, gI_sI, upd_s]
      obtain ⟨μ', v1, v2, v3⟩ := condL B n FU (at_ + 1) [40] cm m1 true (by omega) (by unfold FU; omega) (show (40 : Nat) = 40 from rfl) (fun q => by cases q) ⟨g2, by decide⟩ g47
      exact ⟨μ', v1, f2.tr ((pu q2).tr v2), Or.inr ⟨c, v3⟩⟩
  · rw [if_neg (fun q => c (i40.mp q))]
    obtain ⟨m1, q1, q2, q3, -⟩ := m_wrongs f1 B 1 at_ (by decide) (by decide) (by omega) 1 (nI at_) rfl rfl
    refine ⟨m1, ?_, f2.tr (pu q3), Or.inl ⟨c, q2⟩⟩
    unfold f_M_condition_J23
    rw [rI_49 f1.1, bsome, f1.2.1, q1, bsome, m_goodE q2, bsome, if_pos rfl]
theorem smu {P : Nat → Nat → Bool} {μ μ' : MM} (s : Sm P μ μ') {x : Nat} (hx : ∀ k, P x k = false) : gI μ' x = gI μ x := s.gI x hx
/-- the end of a clause -/
theorem t_144 {w : Wf μ} {c : Nat} (hc : c < 14) (g43 : gI μ 49 43 = nI c) : ∃ μ', f_M_clause_J144 49 μ = some μ' ∧ Sm Pmc μ μ' ∧ gI μ' 49 = upd (gI μ 49) 43 (nI (c + 1)) ∧ gI μ' 77 = upd (gI μ 77) c (gI μ 49 44) ∧ (∀ x, ¬ x = 49 → ¬ x = 77 → gI μ' x = gI μ x) := by
  obtain ⟨m1, e1⟩ : ∃ x, x = sI μ 77 c (gI μ 49 44) := ⟨_, rfl⟩
  obtain ⟨m2, e2⟩ : ∃ x, x = sI m1 49 43 (nI (c + 1)) := ⟨_, rfl⟩
  have s1 : Sm Pmc μ m1 := by rw [e1]; exact Sm.sI rfl
  have s2 : Sm Pmc μ m2 := by rw [e2]; exact s1.tr (Sm.sI rfl)
  have g1 : gI m1 49 = gI μ 49 := by rw [e1, gI_sI_ne (by decide)]
  refine ⟨m2, ?_, s2, by rw [e2, gI_sI, g1], by rw [e2, gI_sI_ne (by decide), e1, gI_sI], fun x h1 h2 => by rw [e2, gI_sI_ne h1, e1, gI_sI_ne h2]⟩
  unfold f_M_clause_J144
  rw [rR_49_37 w, bsome, rI_49 w, bsome, g43, rI_49 w, bsome, uI_77 w hc, bsome, ← e1, rI_49 (s1.wf w), bsome, g1, g43, nI_1, pI_49 (s1.wf w), bsome, ← e2]
theorem ME.mc {z : Nat} {μ' : MM} (e : ME z μ) (s : Wf μ → Wf μ') (g : gI μ' 49 42 = gI μ 49 42) : ME z μ' := ⟨s e.1, by rw [g]; exact e.2.1, e.2.2.1, e.2.2.2⟩
/-- a clause up to its sum -/
theorem t_65 (mt : MT h n at_ cm μ) (B : HB h n) {c : Nat} (hc : c < 14) (g43 : gI μ 49 43 = nI c) (lt : at_ < n) (x1 : Int32) : ∃ m6, MB h n (at_ + 1) [] cm m6 ∧ Sm Pmc μ m6 ∧ gI m6 49 43 = nI c ∧ gI m6 74 = upd (gI μ 74) c x1 ∧ gI m6 75 = upd (gI μ 75) c (nI cm.length) ∧ gI m6 76 = gI μ 76 ∧ gI m6 77 = gI μ 77 ∧ f_M_clause_J65 49 x1 μ = (f_M_value 49 m6).bind fun μ117 => (rR μ117 49 1 36).bind fun y121 => (rI μ117 49 1 43).bind fun y125 => (rI μ117 49 1 44).bind fun y129 => (uI μ117 y121 y125 y129).bind fun μ132 => (f_M_isGood 49 μ132).bind fun y134 => if y134 = 0 then f_M_clause_J144 49 μ132 else (f_M_condition 49 μ132).bind fun μ141 => f_M_clause_J144 49 μ141 := by
  have gd := t_good mt
  have le := mt.le
  obtain ⟨w, r40, r41, r42, r44, rc, rt, -⟩ := mt
  obtain ⟨m1, e1⟩ : ∃ x, x = sI μ 74 c x1 := ⟨_, rfl⟩
  obtain ⟨m2, e2⟩ : ∃ x, x = sI m1 75 c (nI cm.length) := ⟨_, rfl⟩
  obtain ⟨m3, e3⟩ : ∃ x, x = sI m2 49 40 (nI (at_ + 1)) := ⟨_, rfl⟩
  obtain ⟨m4, e4⟩ : ∃ x, x = sI m3 49 46 0 := ⟨_, rfl⟩
  obtain ⟨m5, e5⟩ : ∃ x, x = sI m4 49 45 0 := ⟨_, rfl⟩
  have s1 : Sm Pmc μ m1 := by rw [e1]; exact Sm.sI rfl
  have s2 : Sm Pmc μ m2 := by rw [e2]; exact s1.tr (Sm.sI rfl)
  have s3 : Sm Pmc μ m3 := by rw [e3]; exact s2.tr (Sm.sI rfl)
  have s4 : Sm Pmc μ m4 := by rw [e4]; exact s3.tr (Sm.sI rfl)
  have s5 : Sm Pmc μ m5 := by rw [e5]; exact s4.tr (Sm.sI rfl)
  have g1 : gI m1 49 = gI μ 49 := by rw [e1, gI_sI_ne (by decide)]
  have g2 : gI m2 49 = gI μ 49 := by rw [e2, gI_sI_ne (by decide), g1]
  have g3 : gI m3 49 = upd (gI μ 49) 40 (nI (at_ + 1)) := by rw [e3, gI_sI, g2]
  have g4 : gI m4 49 = upd (gI m3 49) 46 0 := by rw [e4, gI_sI]
  have g5 : gI m5 49 = upd (gI m4 49) 45 0 := by rw [e5, gI_sI]
  have gx : ∀ x, ¬ x = 49 → gI m5 x = gI m2 x := fun x hx => by rw [e5, gI_sI_ne hx, e4, gI_sI_ne hx, e3, gI_sI_ne hx]
  have gy : ∀ x, ¬ x = 74 → ¬ x = 75 → gI m2 x = gI μ x := fun x h1 h2 => by rw [e2, gI_sI_ne h2, e1, gI_sI_ne h1]
  refine ⟨m5, ⟨⟨s5.wf w, ?_, ?_, ?_, ?_, ?_, ?_, trivial, ?_, ?_, fun d hd => absurd hd (by simp), ?_, by omega⟩, by decide⟩, s5, ?_, ?_, ?_, ?_, ?_, ?_⟩
  · rw [g5, upd_o (by decide), g4, upd_o (by decide), g3, upd_s]
  · rw [g5, upd_o (by decide), g4, upd_o (by decide), g3, upd_o (by decide)]; exact r41
  · rw [g5, upd_o (by decide), g4, upd_o (by decide), g3, upd_o (by decide)]; exact r42
  · rw [g5, upd_o (by decide), g4, upd_s]; rfl
  · rw [g5, upd_s]; rfl
  · rw [g5, upd_o (by decide), g4, upd_o (by decide), g3, upd_o (by decide)]; exact r44
  · rw [gx 78 (by decide), gx 79 (by decide), gy 78 (by decide) (by decide), gy 79 (by decide) (by decide)]; exact rc
  · intro j hj
    rw [gx 50 (by decide), gy 50 (by decide) (by decide)]; exact rt j hj
  · show 0 + cm.length ≤ at_ + 1
    omega
  · rw [g5, upd_o (by decide), g4, upd_o (by decide), g3, upd_o (by decide)]; exact g43
  · rw [gx 74 (by decide), e2, gI_sI_ne (by decide), e1, gI_sI]
  · rw [gx 75 (by decide), e2, gI_sI, e1, gI_sI_ne (by decide)]
  · rw [gx 76 (by decide), gy 76 (by decide) (by decide)]
  · rw [gx 77 (by decide), gy 77 (by decide) (by decide)]
  · unfold f_M_clause_J65
    rw [gd, bsome, if_neg (by decide), rR_49_34 w, bsome, rI_49 w, bsome, g43, uI_74 w hc, bsome, ← e1, rR_49_35 (s1.wf w), bsome, rI_49 (s1.wf w), bsome, g1, g43, rI_49 (s1.wf w), bsome, g1, r44, uI_75 (s1.wf w) hc, bsome, ← e2, rI_49 (s2.wf w), bsome, g2, r40, nI_1, pI_49 (s2.wf w), bsome, ← e3, pI_49 (s3.wf w), bsome, ← e4, pI_49 (s4.wf w), bsome, ← e5]
theorem t_47 (mt : MT h n at_ cm μ) (B : HB h n) (c1 : wix (h at_) < 5) : f_M_clause 49 μ = f_M_clause_J47 49 (nI (h at_)) μ := by
  have hl := B.2.1 at_
  have i := fun d (hd : d < 256) => ic (h at_) d hl hd (nI d) rfl
  unfold f_M_clause
  rw [kO_49 mt.1, bsome, t_here mt B, bsome]
  have cs : h at_ = 112 ∨ h at_ = 115 ∨ h at_ = 116 ∨ h at_ = 107 ∨ h at_ = 100 := by
    have : ∀ c, c < 256 → wix c < 5 → c = 112 ∨ c = 115 ∨ c = 116 ∨ c = 107 ∨ c = 100 := by decide +kernel
    exact this _ hl c1
  have n1 := ic (h at_) 112 hl (by decide) 112 rfl
  have n2 := ic (h at_) 115 hl (by decide) 115 rfl
  have n3 := ic (h at_) 116 hl (by decide) 116 rfl
  have n4 := ic (h at_) 107 hl (by decide) 107 rfl
  have n5 := ic (h at_) 100 hl (by decide) 100 rfl
  by_cases k1 : h at_ = 112
  · rw [if_pos (n1.mpr k1)]
  rw [if_neg (fun q => k1 (n1.mp q))]
  by_cases k2 : h at_ = 115
  · rw [if_pos (n2.mpr k2)]
  rw [if_neg (fun q => k2 (n2.mp q))]
  by_cases k3 : h at_ = 116
  · rw [if_pos (n3.mpr k3)]
  rw [if_neg (fun q => k3 (n3.mp q))]
  by_cases k4 : h at_ = 107
  · rw [if_pos (n4.mpr k4)]
  rw [if_neg (fun q => k4 (n4.mp q))]
  rw [if_pos (n5.mpr (by omega))]
theorem t_65E {z : Nat} (e : ME z μ) (x1 : Int32) : f_M_clause_J65 49 x1 μ = some μ := by
  unfold f_M_clause_J65
  rw [m_goodE e, bsome, if_pos rfl]
theorem Pmc_43 {μ' : MM} (s : Sm Pmu μ μ') : gI μ' 49 43 = gI μ 49 43 := (s.2.2 49 43 rfl).1
theorem cu {μ' : MM} (s : Sm Pmu μ μ') : Sm Pmc μ μ' := s.mono Pmc_u
/-- behind a fault in a clause's sum -/
theorem t_132E {z c : Nat} (e : ME z μ) (hc : c < 14) (g43 : gI μ 49 43 = nI c) : ∃ μ', ((rR μ 49 1 36).bind fun y121 => (rI μ 49 1 43).bind fun y125 => (rI μ 49 1 44).bind fun y129 => (uI μ y121 y125 y129).bind fun μ132 => (f_M_isGood 49 μ132).bind fun y134 => if y134 = 0 then f_M_clause_J144 49 μ132 else (f_M_condition 49 μ132).bind fun μ141 => f_M_clause_J144 49 μ141) = some μ' ∧ Sm Pmc μ μ' ∧ ME z μ' := by
  have w := e.1
  have s1 : Sm Pmc μ (sI μ 76 c (gI μ 49 44)) := Sm.sI rfl
  have e1 : ME z (sI μ 76 c (gI μ 49 44)) := e.mc (s1.wf) (by rw [gI_sI_ne (by decide)])
  obtain ⟨m2, q1, q2, q3, -⟩ := t_144 (w := e1.1) hc (by rw [gI_sI_ne (by decide)]; exact g43)
  refine ⟨m2, ?_, s1.tr q2, e1.mc q2.wf (by rw [q3, upd_o (by decide)])⟩
  rw [rR_49_36 w, bsome, rI_49 w, bsome, g43, rI_49 w, bsome, uI_76 w hc, bsome, m_goodE e1, bsome, if_pos rfl, q1]
theorem bs0 : Bs [] := ⟨rfl, rfl, by decide⟩
theorem m_clauseE (mt : MT h n at_ cm μ) (B : HB h n) {c z : Nat} (hc : c ≤ 14) (g43 : gI μ 49 43 = nI c) (k : CEr h c at_ z) : ∃ μ', f_M_clause 49 μ = some μ' ∧ Sm Pmc μ μ' ∧ ME z μ' := by
  have w := mt.1
  have le := mt.le
  have b := B.1
  have hl := B.2.1 at_
  rcases k with ⟨k1, rfl⟩ | ⟨k1, rfl, rfl⟩ | ⟨k1, c14', k2⟩
  · obtain ⟨m1, q1, q2, q3, -⟩ := t_wrongs mt B 1 at_ (by decide) (by decide) (by omega) 1 (nI at_) rfl rfl
    refine ⟨m1, ?_, cu (pu q3), q2⟩
    have n1 := ic (h at_) 112 hl (by decide) 112 rfl
    have n2 := ic (h at_) 115 hl (by decide) 115 rfl
    have n3 := ic (h at_) 116 hl (by decide) 116 rfl
    have n4 := ic (h at_) 107 hl (by decide) 107 rfl
    have n5 := ic (h at_) 100 hl (by decide) 100 rfl
    unfold f_M_clause
    rw [kO_49 w, bsome, t_here mt B, bsome, if_neg (fun q => k1 (by rw [n1.mp q]; decide)), if_neg (fun q => k1 (by rw [n2.mp q]; decide)), if_neg (fun q => k1 (by rw [n3.mp q]; decide)), if_neg (fun q => k1 (by rw [n4.mp q]; decide)), if_neg (fun q => k1 (by rw [n5.mp q]; decide)), rI_49 w, bsome, mt.2.1, q1, bsome, t_65E q2]
  · obtain ⟨m1, q1, q2, q3, -⟩ := t_wrongs mt B 4 at_ (by decide) (by decide) (by omega) 4 (nI at_) rfl rfl
    refine ⟨m1, ?_, cu (pu q3), q2⟩
    rw [t_47 mt B k1]
    unfold f_M_clause_J47
    rw [rI_49 w, bsome, g43, if_pos (by decide), rI_49 w, bsome, mt.2.1, q1, bsome, t_65E q2]
  · have lt : at_ < n := hx_lt B (fun q => by rw [q] at k1; exact absurd k1 (by decide))
    obtain ⟨m6, p1, p2, p3, -, -, -, -, p4⟩ := t_65 mt B c14' g43 lt (nI (h at_))
    obtain ⟨m7, v1, v2, v3⟩ := m_value B bs0 p1
    have pre : f_M_clause 49 μ = (rR m7 49 1 36).bind fun y121 => (rI m7 49 1 43).bind fun y125 => (rI m7 49 1 44).bind fun y129 => (uI m7 y121 y125 y129).bind fun μ132 => (f_M_isGood 49 μ132).bind fun y134 => if y134 = 0 then f_M_clause_J144 49 μ132 else (f_M_condition 49 μ132).bind fun μ141 => f_M_clause_J144 49 μ141 := by
      rw [t_47 mt B k1]
      unfold f_M_clause_J47
      rw [rI_49 w, bsome, g43, if_neg (show ¬ nI c = (14 : Int32) by rw [show (14 : Int32) = nI 14 from rfl, ceq (by omega) (by omega)]; omega), p4, v1, bsome]
    have g437 : gI m7 49 43 = nI c := by rw [Pmc_43 (tu v2)]; exact p3
    rw [pre]
    rcases v3 with ⟨x, e1, e2⟩ | ⟨b2, cm2, e0, e1, e2⟩
    · have : x = z := by
        rcases k2 with k2 | ⟨b1, ms, k2, -⟩
        · have := rch.uq e2 (k2 cm) fix5 fix5
          exact (Prod.mk.inj (Prod.mk.inj this).2).1
        · have := rch.uq e2 (k2 cm) fix5 fix6
          exact absurd (Prod.mk.inj this).1 (by decide)
      subst this
      obtain ⟨μ', q1, q2, q3⟩ := t_132E e1 c14' g437
      exact ⟨μ', q1, p2.tr ((cu (tu v2)).tr q2), q3⟩
    · rcases k2 with k2 | ⟨b1, ms, k2, k3⟩
      · have := rch.uq e2 (k2 cm) fix6 fix5
        exact absurd (Prod.mk.inj this).1 (by decide)
      · have eq := rch.uq e2 (k2 cm) fix6 fix6
        have eb : b2 = b1 := (Prod.mk.inj (Prod.mk.inj eq).2).1
        subst eb
        have w7 := e1.1.1
        obtain ⟨m8, h8⟩ : ∃ x, x = sI m7 76 c (nI cm2.length) := ⟨_, rfl⟩
        have s8 : Sm Pmc m7 m8 := by rw [h8]; exact Sm.sI rfl
        have mb8 : MB h n b2 [] cm2 m8 := by
          obtain ⟨⟨w', r40, r41, r42, r46, r45, r44, rs, rc, rt, rl, r1, r2⟩, h6⟩ := e1
          have gx : ∀ x, ¬ x = 76 → gI m8 x = gI m7 x := fun x hx => by rw [h8, gI_sI_ne hx]
          refine ⟨⟨s8.wf w', ?_, ?_, ?_, ?_, ?_, ?_, trivial, ?_, ?_, rl, r1, r2⟩, h6⟩
          · rw [gx 49 (by decide)]; exact r40
          · rw [gx 49 (by decide)]; exact r41
          · rw [gx 49 (by decide)]; exact r42
          · rw [gx 49 (by decide)]; exact r46
          · rw [gx 49 (by decide)]; exact r45
          · rw [gx 49 (by decide)]; exact r44
          · rw [gx 78 (by decide), gx 79 (by decide)]; exact rc
          · intro j hj
            rw [gx 50 (by decide)]; exact rt j hj
        obtain ⟨m9, c1, c2, c3⟩ := m_condition B mb8
        have g439 : gI m9 49 43 = nI c := by rw [Pmc_43 c2, h8, gI_sI_ne (by decide)]; exact g437
        have done : ME z m9 → ∃ μ', ((rR m7 49 1 36).bind fun y121 => (rI m7 49 1 43).bind fun y125 => (rI m7 49 1 44).bind fun y129 => (uI m7 y121 y125 y129).bind fun μ132 => (f_M_isGood 49 μ132).bind fun y134 => if y134 = 0 then f_M_clause_J144 49 μ132 else (f_M_condition 49 μ132).bind fun μ141 => f_M_clause_J144 49 μ141) = some μ' ∧ Sm Pmc μ μ' ∧ ME z μ' := fun e9 => by
          obtain ⟨m10, t1, t2, t3, -⟩ := t_144 (w := e9.1) c14' g439
          refine ⟨m10, ?_, p2.tr ((cu (tu v2)).tr (s8.tr ((cu c2).tr t2))), e9.mc t2.wf (by rw [t3, upd_o (by decide)])⟩
          rw [rR_49_36 w7, bsome, rI_49 w7, bsome, g437, rI_49 w7, bsome, e1.1.2.2.2.2.2.2.1, uI_76 w7 c14', bsome, ← h8, m_good mb8.1, bsome, if_neg (by decide), c1, bsome, t1]
        rcases c3 with ⟨n40, e9⟩ | ⟨y40, ⟨x, e9, r9⟩ | ⟨b3, cm3, e9, r9⟩⟩
        · rcases k3 with ⟨-, kz⟩ | ⟨k4, -⟩
          · subst kz; exact done e9
          · exact absurd k4 n40
        · rcases k3 with ⟨k4, -⟩ | ⟨-, k5⟩
          · exact absurd y40 k4
          · have := rch.uq r9 (k5 cm2) fix5 fix5
            have : x = z := (Prod.mk.inj (Prod.mk.inj this).2).1
            subst this
            exact done e9
        · rcases k3 with ⟨k4, -⟩ | ⟨-, k5⟩
          · exact absurd y40 k4
          · have := rch.uq r9 (k5 cm2) fix4 fix5
            exact absurd (Prod.mk.inj this).1 (by decide)
theorem m_clause (mt : MT h n at_ cm μ) (B : HB h n) {c b : Nat} {e : CLT} (g43 : gI μ 49 43 = nI c) (k : COk h c at_ b e) : ∃ μ', f_M_clause 49 μ = some μ' ∧ Sm Pmc μ μ' ∧ MT h n b (cm ++ tMe e ++ tMc e) μ' ∧ gI μ' 49 43 = nI (c + 1) ∧ gI μ' 74 = upd (gI μ 74) c (nI (wch (tW e))) ∧ gI μ' 75 = upd (gI μ 75) c (nI cm.length) ∧ gI μ' 76 = upd (gI μ 76) c (nI (cm ++ tMe e).length) ∧ gI μ' 77 = upd (gI μ 77) c (nI (cm ++ tMe e ++ tMc e).length) := by
  have w := mt.1
  have le := mt.le
  have bb := B.1
  have hl := B.2.1 at_
  obtain ⟨k1, kw, c14', b1, k2, k3, k4⟩ := k
  have lt : at_ < n := hx_lt B (fun q => by rw [q] at k1; exact absurd k1 (by decide))
  obtain ⟨m6, p1, p2, p3, p74, p75, p76, p77, p4⟩ := t_65 mt B c14' g43 lt (nI (h at_))
  obtain ⟨m7, v1, v2, v3⟩ := m_value B bs0 p1
  have pre : f_M_clause 49 μ = (rR m7 49 1 36).bind fun y121 => (rI m7 49 1 43).bind fun y125 => (rI m7 49 1 44).bind fun y129 => (uI m7 y121 y125 y129).bind fun μ132 => (f_M_isGood 49 μ132).bind fun y134 => if y134 = 0 then f_M_clause_J144 49 μ132 else (f_M_condition 49 μ132).bind fun μ141 => f_M_clause_J144 49 μ141 := by
    rw [t_47 mt B k1]
    unfold f_M_clause_J47
    rw [rI_49 w, bsome, g43, if_neg (show ¬ nI c = (14 : Int32) by rw [show (14 : Int32) = nI 14 from rfl, ceq (by omega) (by omega)]; omega), p4, v1, bsome]
  have g437 : gI m7 49 43 = nI c := by rw [Pmc_43 (tu v2)]; exact p3
  rw [pre]
  rcases v3 with ⟨x, e1, e2⟩ | ⟨b2, cm2, e0, e1, e2⟩
  · have := rch.uq e2 (k2 cm) fix5 fix6
    exact absurd (Prod.mk.inj this).1 (by decide)
  · have eq := rch.uq e2 (k2 cm) fix6 fix6
    have eb : b2 = b1 := (Prod.mk.inj (Prod.mk.inj eq).2).1
    have ec : cm2 = cm ++ tMe e := (Prod.mk.inj (Prod.mk.inj (Prod.mk.inj eq).2).2).2
    subst eb; subst ec
    have w7 := e1.1.1
    obtain ⟨m8, h8⟩ : ∃ x, x = sI m7 76 c (nI (cm ++ tMe e).length) := ⟨_, rfl⟩
    have s8 : Sm Pmc m7 m8 := by rw [h8]; exact Sm.sI rfl
    have gx : ∀ x, ¬ x = 76 → gI m8 x = gI m7 x := fun x hx => by rw [h8, gI_sI_ne hx]
    have r44 := e1.1.2.2.2.2.2.2.1
    have mb8 : MB h n b2 [] (cm ++ tMe e) m8 := by
      obtain ⟨⟨w', r40, r41, r42, r46, r45, r44, rs, rc, rt, rl, r1, r2⟩, h6⟩ := e1
      refine ⟨⟨s8.wf w', ?_, ?_, ?_, ?_, ?_, ?_, trivial, ?_, ?_, rl, r1, r2⟩, h6⟩
      · rw [gx 49 (by decide)]; exact r40
      · rw [gx 49 (by decide)]; exact r41
      · rw [gx 49 (by decide)]; exact r42
      · rw [gx 49 (by decide)]; exact r46
      · rw [gx 49 (by decide)]; exact r45
      · rw [gx 49 (by decide)]; exact r44
      · rw [gx 78 (by decide), gx 79 (by decide)]; exact rc
      · intro j hj
        rw [gx 50 (by decide)]; exact rt j hj
    obtain ⟨m9, c1, c2, c3⟩ := m_condition B mb8
    have g439 : gI m9 49 43 = nI c := by rw [Pmc_43 c2, h8, gI_sI_ne (by decide)]; exact g437
    rcases c3 with ⟨n40, e9⟩ | ⟨y40, ⟨x, e9, r9⟩ | ⟨b3, cm3, e9, r9⟩⟩
    · exact absurd k3 n40
    · have := rch.uq r9 (k4 (cm ++ tMe e)) fix5 fix4
      exact absurd (Prod.mk.inj this).1 (by decide)
    · have eq := rch.uq r9 (k4 (cm ++ tMe e)) fix4 fix4
      have eb : b3 = b := (Prod.mk.inj (Prod.mk.inj eq).2).1
      have ec : cm3 = cm ++ tMe e ++ tMc e := (Prod.mk.inj (Prod.mk.inj (Prod.mk.inj eq).2).2).2
      subst eb; subst ec
      obtain ⟨m10, t1, t2, t3, t4, t5⟩ := t_144 (w := e9.1.1) c14' g439
      have mt9 := e9.mt
      refine ⟨m10, ?_, p2.tr ((cu (tu v2)).tr (s8.tr ((cu c2).tr t2))), ?_, by rw [t3, upd_s], ?_, ?_, ?_, ?_⟩
      · rw [rR_49_36 w7, bsome, rI_49 w7, bsome, g437, rI_49 w7, bsome, r44, uI_76 w7 c14', bsome, ← h8, m_good mb8.1, bsome, if_neg (by decide), c1, bsome, t1]
      · obtain ⟨w', r40, r41, r42, r44', rc, rt, r1⟩ := mt9
        refine ⟨t2.wf w', ?_, ?_, ?_, ?_, ?_, ?_, r1⟩
        · rw [t3, upd_o (by decide)]; exact r40
        · rw [t3, upd_o (by decide)]; exact r41
        · rw [t3, upd_o (by decide)]; exact r42
        · rw [t3, upd_o (by decide)]; exact r44'
        · rw [t5 78 (by decide) (by decide), t5 79 (by decide) (by decide)]; exact rc
        · intro j hj
          rw [t5 50 (by decide) (by decide)]; exact rt j hj
      · rw [t5 74 (by decide) (by decide), smu c2 (fun _ => rfl), gx 74 (by decide), smu (tu v2) (fun _ => rfl), p74, kw, wch_wix _ hl k1]
      · rw [t5 75 (by decide) (by decide), smu c2 (fun _ => rfl), gx 75 (by decide), smu (tu v2) (fun _ => rfl), p75]
      · rw [t5 76 (by decide) (by decide), smu c2 (fun _ => rfl), h8, gI_sI, smu (tu v2) (fun _ => rfl), p76]
      · rw [t4, mt9.2.2.2.2.1, smu c2 (fun _ => rfl), gx 77 (by decide), smu (tu v2) (fun _ => rfl), p77]
end
