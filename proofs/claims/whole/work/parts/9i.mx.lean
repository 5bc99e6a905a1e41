/-! LAYER 2: a whole text, in the reference -/
def cmx (t : Nat → CLT) : Nat → CL
  | 0 => []
  | c + 1 => cmx t c ++ tMe (t c) ++ tMc (t c)
theorem cmx_len (t : Nat → CLT) : ∀ c, (cmx t c).length = posM t c
  | 0 => rfl
  | c + 1 => by
    show (cmx t c ++ tMe (t c) ++ tMc (t c)).length = posM t c + (tMe (t c)).length + (tMc (t c)).length
    rw [List.length_append, List.length_append, cmx_len t c]
def MTa (t : Nat → CLT) (c : Nat) (μ : MM) : Prop := ∀ j, j < c → gI μ 74 j = nI (wch (tW (t j))) ∧ gI μ 75 j = nI (posM t j) ∧ gI μ 76 j = nI (posM t j + (tMe (t j)).length) ∧ gI μ 77 j = nI (posM t (j + 1))
section
variable {h : Nat → Nat} {n : Nat} {t : Nat → CLT} {P : Nat → Nat} {μ : MM}
theorem tstep (B : HB h n) {j : Nat} (mt : MT h n (qq P j) (cmx t j) μ) (ma : MTa t j μ) (g43 : gI μ 49 43 = nI j) (k : COk h j (qq P j) (P (j + 1)) (t j)) : ∃ μ', f_M_clause 49 μ = some μ' ∧ Sm Pmc μ μ' ∧ MT h n (P (j + 1)) (cmx t (j + 1)) μ' ∧ MTa t (j + 1) μ' ∧ gI μ' 49 43 = nI (j + 1) := by
  obtain ⟨μ', q1, q2, q3, q4, q5, q6, q7, q8⟩ := m_clause mt B g43 k
  refine ⟨μ', q1, q2, q3, fun i hi => ?_, q4⟩
  rcases Nat.lt_or_ge i j with z | z
  · rw [q5, q6, q7, q8, upd_o (by omega), upd_o (by omega), upd_o (by omega), upd_o (by omega)]
    exact ma i z
  · have : i = j := by omega
    subst this
    rw [q5, q6, q7, q8, upd_s, upd_s, upd_s, upd_s, List.length_append, List.length_append, List.length_append, cmx_len]
    exact ⟨rfl, rfl, rfl, rfl⟩
theorem MT.adv {at_ : Nat} {cm : CL} (mt : MT h n at_ cm μ) (ha : at_ < n) : pI μ 49 1 40 (gI μ 49 40 + 1) = some (sI μ 49 40 (nI (at_ + 1))) ∧ MT h n (at_ + 1) cm (sI μ 49 40 (nI (at_ + 1))) ∧ Sm Pmc μ (sI μ 49 40 (nI (at_ + 1))) := by
  obtain ⟨w, r40, r41, r42, r44, rc, rt, r1, r2⟩ := mt
  have s : Sm Pmc μ (sI μ 49 40 (nI (at_ + 1))) := Sm.sI rfl
  refine ⟨by rw [r40, nI_1, pI_49 w], ⟨s.wf w, ?_, ?_, ?_, ?_, ?_, ?_, by omega, by omega⟩, s⟩
  · rw [gI_sI, upd_s]
  · rw [gI_sI, upd_o (by decide)]; exact r41
  · rw [gI_sI, upd_o (by decide)]; exact r42
  · rw [gI_sI, upd_o (by decide)]; exact r44
  · rw [gI_sI_ne (by decide), gI_sI_ne (by decide)]; exact rc
  · intro j hj
    rw [gI_sI_ne (by decide)]; exact rt j hj
/-- behind a ; -/
theorem tgo (B : HB h n) {j m : Nat} (mt : MT h n (qq P j) (cmx t j) μ) (ma : MTa t j μ) (g43 : gI μ 49 43 = nI j) (k : COk h j (qq P j) (P (j + 1)) (t j)) (p : P (j + 1) < n) (p2 : h (P (j + 1)) = 59) : ∃ μ', f_M_text_L54 49 (m + 1) 1 μ = f_M_text_L54 49 m 1 μ' ∧ Sm Pmc μ μ' ∧ MT h n (qq P (j + 1)) (cmx t (j + 1)) μ' ∧ MTa t (j + 1) μ' ∧ gI μ' 49 43 = nI (j + 1) := by
  obtain ⟨m1, q1, q2, q3, q4, q5⟩ := tstep B mt ma g43 k
  obtain ⟨v1, v2, v3⟩ := q3.adv p
  have b := B.1
  refine ⟨_, ?_, q2.tr v3, v2, fun i hi => ?_, ?_⟩
  · rw [e_M_text_L54, if_neg (by decide), t_good mt, bsome, if_neg (by decide), q1, bsome, t_good q3, bsome, if_neg (by decide), rI_49 q3.1, bsome, q3.2.1, rI_49 q3.1, bsome, q3.2.2.1, if_neg (by rw [cle (by omega) (by omega)]; omega)]
    unfold f_M_text_J92 f_M_text_J115
    rw [if_neg (by decide), t_here q3 B, bsome, p2, if_pos (by decide), rI_49 q3.1, bsome, v1, bsome]
  · rw [gI_sI_ne (by decide), gI_sI_ne (by decide), gI_sI_ne (by decide), gI_sI_ne (by decide)]
    exact q4 i hi
  · rw [gI_sI, upd_o (by decide)]; exact q5
theorem textOK (B : HB h n) {c : Nat} (pt : Pth h n t P c) (pn : n ≤ P c) : ∀ (d j m : Nat) (μ : MM), j + d + 1 = c → d + 1 < m → MT h n (qq P j) (cmx t j) μ → MTa t j μ → gI μ 49 43 = nI j → ∃ μ', f_M_text_L54 49 m 1 μ = f_M_text_J128 49 μ' ∧ Sm Pmc μ μ' ∧ MT h n (P c) (cmx t c) μ' ∧ MTa t c μ' ∧ gI μ' 49 43 = nI c := by
  intro d
  induction d with
  | zero =>
    intro j m μ hj hm mt ma g43
    obtain ⟨m, rfl⟩ : ∃ i, m = i + 2 := ⟨m - 2, by omega⟩
    have : c = j + 1 := by omega
    subst this
    obtain ⟨m1, q1, q2, q3, q4, q5⟩ := tstep B mt ma g43 (pt.1 j (by omega))
    have le := q3.le
    have b := B.1
    refine ⟨m1, ?_, q2, q3, q4, q5⟩
    rw [e_M_text_L54, if_neg (by decide), t_good mt, bsome, if_neg (by decide), q1, bsome, t_good q3, bsome, if_neg (by decide), rI_49 q3.1, bsome, q3.2.1, rI_49 q3.1, bsome, q3.2.2.1, if_pos (by rw [cle (by omega) (by omega)]; omega)]
    unfold f_M_text_J91 f_M_text_J92
    rw [if_pos rfl, e_M_text_L54, if_pos rfl]
  | succ d ih =>
    intro j m μ hj hm mt ma g43
    obtain ⟨m, rfl⟩ : ∃ i, m = i + 1 := ⟨m - 1, by omega⟩
    obtain ⟨p1, p2⟩ := pt.2 (j + 1) (by omega) (by omega)
    obtain ⟨m1, q1, q2, q3, q4, q5⟩ := tgo (m := m) B mt ma g43 (pt.1 j (by omega)) p1 p2
    obtain ⟨μ', v1, v2, v3⟩ := ih (j + 1) m m1 (by omega) (by omega) q3 q4 q5
    exact ⟨μ', by rw [q1, v1], q2.tr v2, v3⟩
theorem t128E {z : Nat} (e : ME z μ) : f_M_text_J128 49 μ = some (oI (-(z : Int)), μ) := by
  unfold f_M_text_J128
  rw [rI_49 e.1, bsome, if_neg e.ne.2, bsome, e.2.1]
theorem textE (B : HB h n) {c z : Nat} (pe : PEr h n t P c z) : ∀ (d j m : Nat) (μ : MM), j + d = c → d + 1 < m → MT h n (qq P j) (cmx t j) μ → MTa t j μ → gI μ 49 43 = nI j → j ≤ 14 → (d = 0 → j = 0 ∨ (P c < n ∧ h (P c) = 59)) → ∃ μ', f_M_text_L54 49 m 1 μ = some (oI (-(z : Int)), μ') ∧ Sm Pmc μ μ' := by
  intro d
  have b := B.1
  induction d with
  | zero =>
    intro j m μ hj hm mt ma g43 h14 hd
    obtain ⟨m, rfl⟩ : ∃ i, m = i + 2 := ⟨m - 2, by omega⟩
    have : j = c := by omega
    subst this
    have ce : CEr h j (qq P j) z := by
      rcases pe.2 with ⟨-, k⟩ | ⟨k0, k1, k2, -⟩
      · exact k
      · rcases hd rfl with e | e
        · omega
        · exact absurd e.2 k2
    obtain ⟨m1, q1, q2, q3⟩ := m_clauseE mt B h14 g43 ce
    refine ⟨m1, ?_, q2⟩
    rw [e_M_text_L54, if_neg (by decide), t_good mt, bsome, if_neg (by decide), q1, bsome, m_goodE q3, bsome, if_pos rfl]
    unfold f_M_text_J91 f_M_text_J92
    rw [if_pos rfl, e_M_text_L54, if_pos rfl, t128E q3]
  | succ d ih =>
    intro j m μ hj hm mt ma g43 h14 hd
    obtain ⟨m, rfl⟩ : ∃ i, m = i + 2 := ⟨m - 2, by omega⟩
    have ck := pe.1.1 j (by omega)
    have j14 : j < 14 := ck.2.2.1
    by_cases g : P (j + 1) < n ∧ h (P (j + 1)) = 59
    · obtain ⟨m1, q1, q2, q3, q4, q5⟩ := tgo (m := m + 1) B mt ma g43 ck g.1 g.2
      obtain ⟨μ', v1, v2⟩ := ih (j + 1) (m + 1) m1 (by omega) (by omega) q3 q4 q5 (by omega) (fun e => Or.inr (by
        have : c = j + 1 := by omega
        rw [this]; exact g))
      exact ⟨μ', by rw [q1, v1], q2.tr v2⟩
    · have jc : j + 1 = c := by
        rcases Nat.lt_or_ge (j + 1) c with q | q
        · exact absurd (pe.1.2 (j + 1) (by omega) q) g
        · omega
      subst jc
      rcases pe.2 with ⟨k0 | k0, -⟩ | ⟨k0, k1, k2, rfl⟩
      · omega
      · exact absurd k0 g
      · obtain ⟨m1, q1, q2, q3, q4, q5⟩ := tstep B mt ma g43 ck
        obtain ⟨m2, v1, v2, v3, v4⟩ := t_wrongs q3 B 1 (P (j + 1)) (by decide) (by decide) (by omega) 1 (nI (P (j + 1))) rfl rfl
        have w2 := v2.1
        have g2 : gI m2 49 40 = nI (P (j + 1)) := by rw [v4, gI_sI, upd_o (by decide)]; exact q3.2.1
        have s3 : Sm Pmc m2 (sI m2 49 40 (nI (P (j + 1) + 1))) := Sm.sI rfl
        have e3 : ME (1000 * 1 + P (j + 1)) (sI m2 49 40 (nI (P (j + 1) + 1))) := v2.mc s3.wf (by rw [gI_sI, upd_o (by decide)])
        have i59 := ic (h (P (j + 1))) 59 (B.2.1 _) (by decide) 59 rfl
        refine ⟨_, ?_, q2.tr ((cu (pu v3)).tr s3)⟩
        rw [e_M_text_L54, if_neg (by decide), t_good mt, bsome, if_neg (by decide), q1, bsome, t_good q3, bsome, if_neg (by decide), rI_49 q3.1, bsome, q3.2.1, rI_49 q3.1, bsome, q3.2.2.1, if_neg (by rw [cle (by omega) (by omega)]; omega)]
        unfold f_M_text_J92 f_M_text_J115
        rw [if_neg (by decide), t_here q3 B, bsome, if_neg (fun q => k2 (i59.mp q)), rI_49 q3.1, bsome, q3.2.1, v1, bsome, rI_49 w2, bsome, g2, nI_1, pI_49 w2, bsome, e_M_text_L54, if_neg (by decide), m_goodE e3, bsome, if_pos rfl, t128E e3]
end
/-! what was read takes the place of the text -/
def Pcp (x _k : Nat) : Bool := x == 68 || x == 69 || x == 70 || x == 71
def Pcc (x _k : Nat) : Bool := x == 72 || x == 73
theorem copy1 {μ : MM} (w : Wf μ) {c : Nat} (hc : c ≤ 14) (g43 : gI μ 49 43 = nI c) : ∃ m, f_M_text_L142 49 FU 0 μ = f_M_text_L206 49 FU 0 m ∧ Sm Pcp μ m ∧ ∀ j, j < c → gI m 68 j = gI μ 74 j ∧ gI m 69 j = gI μ 75 j ∧ gI m 70 j = gI μ 76 j ∧ gI m 71 j = gI μ 77 j := by
  refine upR c (fun k m => Sm Pcp μ m ∧ ∀ j, j < k → gI m 68 j = gI μ 74 j ∧ gI m 69 j = gI μ 75 j ∧ gI m 70 j = gI μ 76 j ∧ gI m 71 j = gI μ 77 j) (fun n k m => f_M_text_L142 49 n (nI k) m) (fun x => ∃ m, x = f_M_text_L206 49 FU 0 m ∧ Sm Pcp μ m ∧ ∀ j, j < c → gI m 68 j = gI μ 74 j ∧ gI m 69 j = gI μ 75 j ∧ gI m 70 j = gI μ 76 j ∧ gI m 71 j = gI μ 77 j) (fun n m hi => ?_) (fun n k m hk hi => Or.inr ?_) 0 FU μ (by omega) (by unfold FU; omega) ⟨Sm.rf, fun j hj => absurd hj (by omega)⟩
  · refine ⟨m, ?_, hi⟩
    have wm := hi.1.wf w
    show f_M_text_L142 49 (n + 1) (nI c) m = _
    rw [e_M_text_L142, rI_49 wm, bsome, hi.1.gI 49 (fun _ => rfl), g43, if_pos (by rw [cle (by omega) (by omega)]; omega)]
  · obtain ⟨s, hi⟩ := hi
    have wm := s.wf w
    have a : ∀ x, (x = 49 ∨ x = 74 ∨ x = 75 ∨ x = 76 ∨ x = 77) → gI m x = gI μ x := fun x hx => s.gI x (fun _ => by rcases hx with rfl | rfl | rfl | rfl | rfl <;> rfl)
    obtain ⟨m1, e1⟩ : ∃ x, x = sI m 68 k (gI μ 74 k) := ⟨_, rfl⟩
    obtain ⟨m2, e2⟩ : ∃ x, x = sI m1 69 k (gI μ 75 k) := ⟨_, rfl⟩
    obtain ⟨m3, e3⟩ : ∃ x, x = sI m2 70 k (gI μ 76 k) := ⟨_, rfl⟩
    obtain ⟨m4, e4⟩ : ∃ x, x = sI m3 71 k (gI μ 77 k) := ⟨_, rfl⟩
    have s1 : Sm Pcp μ m1 := by rw [e1]; exact s.tr (Sm.sI rfl)
    have s2 : Sm Pcp μ m2 := by rw [e2]; exact s1.tr (Sm.sI rfl)
    have s3 : Sm Pcp μ m3 := by rw [e3]; exact s2.tr (Sm.sI rfl)
    have s4 : Sm Pcp μ m4 := by rw [e4]; exact s3.tr (Sm.sI rfl)
    refine ⟨m4, ?_, s4, fun j hj => ?_⟩
    · show f_M_text_L142 49 (n + 1) (nI k) m = f_M_text_L142 49 n (nI (k + 1)) m4
      rw [e_M_text_L142, rI_49 wm, bsome, a 49 (by simp), g43, if_neg (by rw [cle (by omega) (by omega)]; omega), rR_49_28 wm, bsome, rR_49_34 wm, bsome, aI_74 wm (by omega), bsome, a 74 (by simp), uI_68 wm (by omega), bsome, ← e1, rR_49_29 (s1.wf w), bsome, rR_49_35 (s1.wf w), bsome, aI_75 (s1.wf w) (by omega), bsome, s1.gI 75 (fun _ => rfl), uI_69 (s1.wf w) (by omega), bsome, ← e2, rR_49_30 (s2.wf w), bsome, rR_49_36 (s2.wf w), bsome, aI_76 (s2.wf w) (by omega), bsome, s2.gI 76 (fun _ => rfl), uI_70 (s2.wf w) (by omega), bsome, ← e3, rR_49_31 (s3.wf w), bsome, rR_49_37 (s3.wf w), bsome, aI_77 (s3.wf w) (by omega), bsome, s3.gI 77 (fun _ => rfl), uI_71 (s3.wf w) (by omega), bsome, ← e4, nI_1]
    · rw [e4, gI_sI_ne (by decide), gI_sI_ne (by decide), gI_sI_ne (by decide), gI_sI, e3, gI_sI_ne (by decide), gI_sI_ne (by decide), gI_sI, gI_sI_ne (by decide), e2, gI_sI_ne (by decide), gI_sI, gI_sI_ne (by decide), gI_sI_ne (by decide), e1, gI_sI, gI_sI_ne (by decide), gI_sI_ne (by decide), gI_sI_ne (by decide)]
      unfold upd
      by_cases q : j = k
      · subst q
        rw [if_pos rfl, if_pos rfl, if_pos rfl, if_pos rfl]; exact ⟨rfl, rfl, rfl, rfl⟩
      · rw [if_neg q, if_neg q, if_neg q, if_neg q]; exact hi j (by omega)
theorem copy2 {μ : MM} (w : Wf μ) {c N : Nat} (hN : N ≤ 200) (g43 : gI μ 49 43 = nI c) (g44 : gI μ 49 44 = nI N) : ∃ m m', f_M_text_L206 49 FU 0 μ = some (nI c, m') ∧ Sm Pcc μ m ∧ m' = sI m 49 27 (nI c) ∧ ∀ j, j < N → gI m 72 j = gI μ 78 j ∧ gI m 73 j = gI μ 79 j := by
  refine upR N (fun k m => Sm Pcc μ m ∧ ∀ j, j < k → gI m 72 j = gI μ 78 j ∧ gI m 73 j = gI μ 79 j) (fun n k m => f_M_text_L206 49 n (nI k) m) (fun x => ∃ m m', x = some (nI c, m') ∧ Sm Pcc μ m ∧ m' = sI m 49 27 (nI c) ∧ ∀ j, j < N → gI m 72 j = gI μ 78 j ∧ gI m 73 j = gI μ 79 j) (fun n m hi => ?_) (fun n k m hk hi => Or.inr ?_) 0 FU μ (by omega) (by unfold FU; omega) ⟨Sm.rf, fun j hj => absurd hj (by omega)⟩
  · have wm := hi.1.wf w
    have g : gI m 49 = gI μ 49 := hi.1.gI 49 (fun _ => rfl)
    have s5 : Sm (fun x k => x == 49 && k == 27) m (sI m 49 27 (nI c)) := Sm.sI rfl
    refine ⟨m, _, ?_, hi.1, rfl, hi.2⟩
    show f_M_text_L206 49 (n + 1) (nI N) m = _
    rw [e_M_text_L206, rI_49 wm, bsome, g, g44, if_pos (by rw [cle (by omega) (by omega)]; omega), rI_49 wm, bsome, g, g43, pI_49 wm, bsome, rI_49 (s5.wf wm), bsome, gI_sI, upd_s]
  · obtain ⟨s, hi⟩ := hi
    have wm := s.wf w
    obtain ⟨m1, e1⟩ : ∃ x, x = sI m 72 k (gI μ 78 k) := ⟨_, rfl⟩
    obtain ⟨m2, e2⟩ : ∃ x, x = sI m1 73 k (gI μ 79 k) := ⟨_, rfl⟩
    have s1 : Sm Pcc μ m1 := by rw [e1]; exact s.tr (Sm.sI rfl)
    have s2 : Sm Pcc μ m2 := by rw [e2]; exact s1.tr (Sm.sI rfl)
    refine ⟨m2, ?_, s2, fun j hj => ?_⟩
    · show f_M_text_L206 49 (n + 1) (nI k) m = f_M_text_L206 49 n (nI (k + 1)) m2
      rw [e_M_text_L206, rI_49 wm, bsome, s.gI 49 (fun _ => rfl), g44, if_neg (by rw [cle (by omega) (by omega)]; omega), rR_49_32 wm, bsome, rR_49_38 wm, bsome, aI_78 wm (by omega), bsome, s.gI 78 (fun _ => rfl), uI_72 wm (by omega), bsome, ← e1, rR_49_33 (s1.wf w), bsome, rR_49_39 (s1.wf w), bsome, aI_79 (s1.wf w) (by omega), bsome, s1.gI 79 (fun _ => rfl), uI_73 (s1.wf w) (by omega), bsome, ← e2, nI_1]
    · rw [e2, gI_sI_ne (by decide), gI_sI, e1, gI_sI, gI_sI_ne (by decide)]
      unfold upd
      by_cases q : j = k
      · subst q
        rw [if_pos rfl, if_pos rfl]; exact ⟨rfl, rfl⟩
      · rw [if_neg q, if_neg q]; exact hi j (by omega)
/-- the text that the reference holds -/
def MTX (t : Nat → CLT) (c : Nat) (μ : MM) : Prop := gI μ 49 27 = nI c ∧ posM t c ≤ 200 ∧ (∀ j, j < c → gI μ 68 j = nI (wch (tW (t j))) ∧ gI μ 69 j = nI (posM t j) ∧ gI μ 70 j = nI (posM t j + (tMe (t j)).length) ∧ gI μ 71 j = nI (posM t (j + 1))) ∧ HC (gI μ 72) (gI μ 73) (cmx t c)
def Pmz (x k : Nat) : Bool := Pmc x k || ((x == 49 && (k == 1 || k == 41 || k == 27)) || x == 68 || x == 69 || x == 70 || x == 71 || x == 72 || x == 73)
theorem Pmz_c (x k : Nat) (h : Pmz x k = false) : Pmc x k = false := (Bool.or_eq_false_iff.mp h).1
def Pmy (x k : Nat) : Bool := Pmc x k || (x == 49 && (k == 1 || k == 41))
theorem Pmz_y (x k : Nat) (h : Pmz x k = false) : Pmy x k = false := by
  simp only [Pmz, Bool.or_eq_false_iff, Bool.and_eq_false_iff] at h
  simp only [Pmy, Bool.or_eq_false_iff, Bool.and_eq_false_iff]
  refine ⟨h.1, ?_⟩
  rcases h.2.1.1.1.1.1.1 with q | q
  · exact Or.inl q
  · exact Or.inr q.1
theorem Pmy_c (x k : Nat) (h : Pmy x k = false) : Pmc x k = false := (Bool.or_eq_false_iff.mp h).1
section
variable {h : Nat → Nat} {n : Nat} {t : Nat → CLT} {P : Nat → Nat} {μ : MM}
theorem text_in (B : HB h n) (n0 : 0 < n) (w : Wf μ) (rt : ∀ j, j < n → gI μ 50 j &&& 255 = nI (h j)) {tp : Nat} (hn : n ≤ tp) (htp : tp ≤ 220) (g1 : gI μ 49 1 = nI tp) : ∃ m, f_M_text 49 (nI n) μ = f_M_text_L54 49 FU 1 m ∧ MT h n 0 [] m ∧ gI m 49 43 = nI 0 ∧ gI m 49 1 = 0 ∧ Sm Pmy μ m := by
  have b := B.1
  obtain ⟨m1, e1⟩ : ∃ x, x = sI μ 49 1 0 := ⟨_, rfl⟩
  obtain ⟨m2, e2⟩ : ∃ x, x = sI m1 49 40 0 := ⟨_, rfl⟩
  obtain ⟨m3, e3⟩ : ∃ x, x = sI m2 49 41 (nI n) := ⟨_, rfl⟩
  obtain ⟨m4, e4⟩ : ∃ x, x = sI m3 49 42 0 := ⟨_, rfl⟩
  obtain ⟨m5, e5⟩ : ∃ x, x = sI m4 49 43 0 := ⟨_, rfl⟩
  obtain ⟨m6, e6⟩ : ∃ x, x = sI m5 49 44 0 := ⟨_, rfl⟩
  have s1 : Sm Pmy μ m1 := by rw [e1]; exact Sm.sI rfl
  have s2 : Sm Pmy μ m2 := by rw [e2]; exact s1.tr (Sm.sI rfl)
  have s3 : Sm Pmy μ m3 := by rw [e3]; exact s2.tr (Sm.sI rfl)
  have s4 : Sm Pmy μ m4 := by rw [e4]; exact s3.tr (Sm.sI rfl)
  have s5 : Sm Pmy μ m5 := by rw [e5]; exact s4.tr (Sm.sI rfl)
  have s6 : Sm Pmy μ m6 := by rw [e6]; exact s5.tr (Sm.sI rfl)
  have h1 : gI m1 49 = upd (gI μ 49) 1 0 := by rw [e1, gI_sI]
  have h2 : gI m2 49 = upd (gI m1 49) 40 0 := by rw [e2, gI_sI]
  have h3 : gI m3 49 = upd (gI m2 49) 41 (nI n) := by rw [e3, gI_sI]
  have h4 : gI m4 49 = upd (gI m3 49) 42 0 := by rw [e4, gI_sI]
  have h5 : gI m5 49 = upd (gI m4 49) 43 0 := by rw [e5, gI_sI]
  have h6 : gI m6 49 = upd (gI m5 49) 44 0 := by rw [e6, gI_sI]
  refine ⟨m6, ?_, ⟨s6.wf w, ?_, ?_, ?_, ?_, ?_, ?_, by decide, by omega⟩, ?_, ?_, s6⟩
  · unfold f_M_text
    rw [kO_49 w, bsome, s_liesI _ 1 200 1 200 (by decide) (by decide), bsome, nI_toInt (by omega), decide_eq_true (by omega), if_neg (by decide), rI_49 w, bsome, g1, if_pos (by rw [cle (by omega) (by omega)]; omega), pI_49 w, bsome, ← e1, pI_49 (s1.wf w), bsome, ← e2, pI_49 (s2.wf w), bsome, ← e3, pI_49 (s3.wf w), bsome, ← e4, pI_49 (s4.wf w), bsome, ← e5, pI_49 (s5.wf w), bsome, ← e6]
  · rw [h6, upd_o (by decide), h5, upd_o (by decide), h4, upd_o (by decide), h3, upd_o (by decide), h2, upd_s]; rfl
  · rw [h6, upd_o (by decide), h5, upd_o (by decide), h4, upd_o (by decide), h3, upd_s]
  · rw [h6, upd_o (by decide), h5, upd_o (by decide), h4, upd_s]
  · rw [h6, upd_s]; rfl
  · intro j e he
    simp at he
  · intro j hj
    rw [e6, gI_sI_ne (by decide), e5, gI_sI_ne (by decide), e4, gI_sI_ne (by decide), e3, gI_sI_ne (by decide), e2, gI_sI_ne (by decide), e1, gI_sI_ne (by decide)]
    exact rt j hj
  · rw [h6, upd_o (by decide), h5, upd_s]; rfl
  · rw [h6, upd_o (by decide), h5, upd_o (by decide), h4, upd_o (by decide), h3, upd_o (by decide), h2, upd_o (by decide), h1, upd_s]
theorem text_err (B : HB h n) (n0 : 0 < n) (w : Wf μ) (rt : ∀ j, j < n → gI μ 50 j &&& 255 = nI (h j)) {tp : Nat} (hn : n ≤ tp) (htp : tp ≤ 220) (g1 : gI μ 49 1 = nI tp) {c z : Nat} (pe : PEr h n t P c z) : ∃ μ', f_M_text 49 (nI n) μ = some (oI (-(z : Int)), μ') ∧ Sm Pmy μ μ' ∧ gI μ' 49 1 = 0 := by
  obtain ⟨m, q1, q2, q3, q4, q5⟩ := text_in B n0 w rt hn htp g1
  have c14 : c ≤ 14 := by
    rcases Nat.eq_zero_or_pos c with e | e
    · omega
    · have := (pe.1.1 (c - 1) (by omega)).2.2.1
      omega
  obtain ⟨μ', v1, v2⟩ := textE B pe c 0 FU m (by omega) (by unfold FU; omega) q2 (fun j hj => absurd hj (by omega)) q3 (by decide) (fun _ => Or.inl rfl)
  exact ⟨μ', by rw [q1, v1], q5.tr (v2.mono Pmy_c), by rw [(v2.2.2 49 1 rfl).1]; exact q4⟩
theorem text_good (B : HB h n) (n0 : 0 < n) (w : Wf μ) (rt : ∀ j, j < n → gI μ 50 j &&& 255 = nI (h j)) {tp : Nat} (hn : n ≤ tp) (htp : tp ≤ 220) (g1 : gI μ 49 1 = nI tp) {c : Nat} (c0 : 0 < c) (pt : Pth h n t P c) (pn : n ≤ P c) : ∃ μ', f_M_text 49 (nI n) μ = some (nI c, μ') ∧ Sm Pmz μ μ' ∧ gI μ' 49 1 = 0 ∧ MTX t c μ' := by
  obtain ⟨m, q1, q2, q3, q4, q5⟩ := text_in B n0 w rt hn htp g1
  have b := B.1
  have c14 : c ≤ 14 := by
    have := (pt.1 (c - 1) (by omega)).2.2.1
    omega
  obtain ⟨m1, v1, v2, v3, v4, v5⟩ := textOK B pt pn (c - 1) 0 FU m (by omega) (by unfold FU; omega) q2 (fun j hj => absurd hj (by omega)) q3
  have le := v3.le
  have w1 := v3.1
  obtain ⟨m2, p1, p2, p3⟩ := copy1 w1 c14 v5
  have w2 := p2.wf w1
  have g2 : gI m2 49 = gI m1 49 := p2.gI 49 (fun _ => rfl)
  obtain ⟨m3, m4, y1, y2, y3, y4⟩ := copy2 w2 (N := (cmx t c).length) (by omega) (by rw [g2]; exact v5) (by rw [g2]; exact v3.2.2.2.2.1)
  have w3 := y2.wf w2
  have g3 : gI m3 49 = gI m2 49 := y2.gI 49 (fun _ => rfl)
  have s4 : Sm Pmz m3 m4 := by rw [y3]; exact Sm.sI rfl
  have gx : ∀ x, ¬ x = 49 → gI m4 x = gI m3 x := fun x hx => by rw [y3, gI_sI_ne hx]
  have s1 : Sm Pmz μ m1 := (q5.mono Pmz_y).tr (v2.mono Pmz_c)
  have s2 : Sm Pmz m1 m2 := p2.mono (fun x k hx => by
    simp only [Pmz, Bool.or_eq_false_iff] at hx
    simp only [Pcp, Bool.or_eq_false_iff]
    exact ⟨⟨⟨hx.2.1.1.1.1.1.2, hx.2.1.1.1.1.2⟩, hx.2.1.1.1.2⟩, hx.2.1.1.2⟩)
  have s3 : Sm Pmz m2 m3 := y2.mono (fun x k hx => by
    simp only [Pmz, Bool.or_eq_false_iff] at hx
    simp only [Pcc, Bool.or_eq_false_iff]
    exact ⟨hx.2.1.2, hx.2.2⟩)
  refine ⟨m4, ?_, s1.tr (s2.tr (s3.tr s4)), ?_, ?_, ?_, fun j hj => ?_, fun j e he => ?_⟩
  · rw [q1, v1]
    unfold f_M_text_J128
    rw [rI_49 w1, bsome, v3.2.2.2.1, if_pos (by decide), p1, y1]
  · rw [y3, gI_sI, upd_o (by decide), g3, g2, (v2.2.2 49 1 rfl).1]; exact q4
  · rw [y3, gI_sI, upd_s]
  · rw [← cmx_len]; omega
  · obtain ⟨z1, z2, z3, z4⟩ := p3 j hj
    obtain ⟨x1, x2, x3, x4⟩ := v4 j hj
    rw [gx 68 (by decide), gx 69 (by decide), gx 70 (by decide), gx 71 (by decide), y2.gI 68 (fun _ => rfl), y2.gI 69 (fun _ => rfl), y2.gI 70 (fun _ => rfl), y2.gI 71 (fun _ => rfl), z1, z2, z3, z4]
    exact ⟨x1, x2, x3, x4⟩
  · have hj := (List.getElem?_eq_some_iff.mp he).1
    obtain ⟨z1, z2⟩ := y4 j hj
    rw [gx 72 (by decide), gx 73 (by decide), z1, z2, p2.gI 78 (fun _ => rfl), p2.gI 79 (fun _ => rfl)]
    exact v3.2.2.2.2.2.1 j e he
end
