/-! LAYER 2: reading, in the reference: what it holds, what it puts down and takes off -/
def mch (op : Nat) : Nat := if op = 0 then 0 else if op = 1 then 1 else if op = 2 then 43 else if op = 3 then 45 else if op = 4 then 42 else if op = 5 then 47 else if op = 6 then 37 else if op = 7 then 60 else if op = 8 then 62 else if op = 9 then 61 else if op = 10 then 2 else if op = 11 then 38 else 124
def mrg (e : Nat × Nat) : Nat := if e.1 = 1 then chr e.2 else e.2
def HS (g : Nat → Int32) : List Nat → Prop
  | [] => True
  | c :: s => g s.length = nI c ∧ HS g s
def HC (g g' : Nat → Int32) (cm : CL) : Prop := ∀ j e, cm[j]? = some e → g j = nI (mch e.1) ∧ g' j = nI (mrg e)
theorem HS_u {g : Nat → Int32} {k : Nat} {v : Int32} : ∀ (s : List Nat), s.length ≤ k → HS g s → HS (upd g k v) s
  | [], _, _ => trivial
  | c :: s, hk, hs => by
    have hk : s.length + 1 ≤ k := hk
    refine ⟨?_, HS_u s (by omega) hs.2⟩
    unfold upd; rw [if_neg (by omega)]; exact hs.1
theorem HC_u {g g' : Nat → Int32} {cm : CL} {op arg : Nat} (hc : HC g g' cm) : HC (upd g cm.length (nI (mch op))) (upd g' cm.length (nI (mrg (op, arg)))) (cm ++ [(op, arg)]) := fun j e he => by
  rcases Nat.lt_trichotomy j cm.length with z | z | z
  · rw [List.getElem?_append_left z] at he
    unfold upd
    rw [if_neg (by omega), if_neg (by omega)]; exact hc j e he
  · subst z
    rw [List.getElem?_append_right (Nat.le_refl _)] at he
    simp at he
    subst he
    unfold upd; rw [if_pos rfl, if_pos rfl]; exact ⟨rfl, rfl⟩
  · rw [List.getElem?_append_right (by omega)] at he
    have := (List.getElem?_eq_some_iff.mp he).1
    simp at this
    omega
def Pm0 (x k : Nat) : Bool := (x == 49 && (k == 40 || k == 42 || k == 44 || k == 45 || k == 46)) || x == 78 || x == 79 || x == 80
def Pmt (x k : Nat) : Bool := Pm0 x k || (x == 49 && k == 48)
def Pmu (x k : Nat) : Bool := Pmt x k || (x == 49 && k == 47)
theorem Pmu_t (x k : Nat) (h : Pmu x k = false) : Pmt x k = false := (Bool.or_eq_false_iff.mp h).1
theorem Pmt_0 (x k : Nat) (h : Pmt x k = false) : Pm0 x k = false := (Bool.or_eq_false_iff.mp h).1
def MBo (h : Nat → Nat) (n at_ : Nat) (st : List Nat) (cm : CL) (o : Nat) (μ : MM) : Prop := Wf μ ∧ gI μ 49 40 = nI at_ ∧ gI μ 49 41 = nI n ∧ gI μ 49 42 = 0 ∧ gI μ 49 46 = nI st.length ∧ gI μ 49 45 = nI o ∧ gI μ 49 44 = nI cm.length ∧ HS (gI μ 80) st ∧ HC (gI μ 78) (gI μ 79) cm ∧ (∀ j, j < n → gI μ 50 j &&& 255 = nI (h j)) ∧ (∀ c, c ∈ st → c < 256) ∧ st.length + cm.length ≤ at_ ∧ at_ ≤ n
def ME (z : Nat) (μ : MM) : Prop := Wf μ ∧ gI μ 49 42 = oI (-(z : Int)) ∧ 0 < z ∧ z < 10000
theorem upd_s {g : Nat → Int32} {k : Nat} {v : Int32} : upd g k v k = v := if_pos rfl
theorem upd_o {g : Nat → Int32} {k j : Nat} {v : Int32} (h : ¬ j = k) : upd g k v j = g j := if_neg h
section
variable {h : Nat → Nat} {n at_ o z : Nat} {st : List Nat} {cm : CL} {μ : MM}
theorem ME.ne (e : ME z μ) : ¬ gI μ 49 42 = 0 ∧ ¬ (0 : Int32) ≤ gI μ 49 42 := by
  obtain ⟨w, e1, e2, e3⟩ := e
  have z0 : (0 : Int32).toInt = 0 := by decide
  rw [e1]
  refine ⟨fun q => ?_, fun q => ?_⟩
  · have := congrArg Int32.toInt q
    rw [oI_toInt (by omega) (by omega)] at this
    omega
  · rw [toInt_le, oI_toInt (by omega) (by omega)] at q
    omega
theorem m_goodE (e : ME z μ) : f_M_isGood 49 μ = some 0 := by
  unfold f_M_isGood
  rw [kO_49 e.1, bsome, rI_49 e.1, bsome, if_neg e.ne.1]
theorem m_good (mb : MBo h n at_ st cm o μ) : f_M_isGood 49 μ = some 1 := by
  unfold f_M_isGood
  rw [kO_49 mb.1, bsome, rI_49 mb.1, bsome, mb.2.2.2.1, if_pos rfl]
theorem MBo.le (mb : MBo h n at_ st cm o μ) : st.length + cm.length ≤ at_ ∧ at_ ≤ n := mb.2.2.2.2.2.2.2.2.2.2.2
theorem m_here (mb : MBo h n at_ st cm o μ) (B : HB h n) : f_M_here 49 μ = some (nI (h at_)) := by
  have le := mb.le
  have b := B.1
  obtain ⟨w, r40, r41, r42, r46, r45, r44, rs, rc, rt, -⟩ := mb
  unfold f_M_here
  rw [kO_49 w, bsome, rI_49 w, bsome, r40, rI_49 w, bsome, r41]
  by_cases e : at_ < n
  · rw [if_neg (by rw [cle (by omega) (by omega)]; omega), rR_49_0 w, bsome, bsome, aB_50 w (by omega), bsome, show (255 : Int32) = 255 from rfl, rt at_ e]
  · rw [if_pos (by rw [cle (by omega) (by omega)]; omega), B.2.2 at_ (by omega)]; rfl
theorem m_wrongs (mb : MBo h n at_ st cm o μ) (B : HB h n) (f q : Nat) (f0 : 0 < f) (f9 : f ≤ 9) (hq : q ≤ 300) (x1 x2 : Int32) (e1 : x1 = nI f) (e2 : x2 = nI q) : ∃ μ', f_M_wrongs 49 x1 x2 μ = some μ' ∧ ME (1000 * f + q) μ' ∧ Sm Pm0 μ μ' ∧ gI μ' = gI (sI μ 49 42 (oI (-((1000 * f + q : Nat) : Int)))) := by
  subst e1; subst e2
  have w := mb.1
  have s : Sm Pm0 μ (sI μ 49 42 (oI (-((1000 * f + q : Nat) : Int)))) := Sm.sI rfl
  refine ⟨_, ?_, ⟨s.wf w, by rw [gI_sI, upd_s], by omega, by omega⟩, s, rfl⟩
  unfold f_M_wrongs f_M_wrongs_J22
  rw [kO_49 w, bsome, rI_49 w, bsome, mb.2.2.2.1, if_pos (by decide), pI_49 w, bsome]
  have : (((-1000 : Int32) * nI f) - nI q) = oI (-((1000 * f + q : Nat) : Int)) := by
    rw [show (-1000 : Int32) = oI (-1000) from rfl, oI_nI f, oI_mul, oI_nI q, oI_sub]
    congr 1; omega
  rw [this]
theorem m_emit (mb : MBo h n at_ st cm o μ) (hc : cm.length < 200) {op arg : Nat} (x1 x2 : Int32) (e1 : x1 = nI (mch op)) (e2 : x2 = nI (mrg (op, arg))) : ∃ μ', f_M_emit 49 x1 x2 μ = some μ' ∧ Sm Pm0 μ μ' ∧ gI μ' 49 = upd (gI μ 49) 44 (nI (cm.length + 1)) ∧ gI μ' 80 = gI μ 80 ∧ gI μ' 50 = gI μ 50 ∧ HC (gI μ' 78) (gI μ' 79) (cm ++ [(op, arg)]) := by
  subst e1; subst e2
  have gd := m_good mb
  obtain ⟨w, r40, r41, r42, r46, r45, r44, rs, rc, rt, -⟩ := mb
  obtain ⟨m1, q1⟩ : ∃ x, x = sI μ 78 cm.length (nI (mch op)) := ⟨_, rfl⟩
  obtain ⟨m2, q2⟩ : ∃ x, x = sI m1 79 cm.length (nI (mrg (op, arg))) := ⟨_, rfl⟩
  obtain ⟨m3, q3⟩ : ∃ x, x = sI m2 49 44 (nI (cm.length + 1)) := ⟨_, rfl⟩
  have s1 : Sm Pm0 μ m1 := by rw [q1]; exact Sm.sI rfl
  have s2 : Sm Pm0 μ m2 := by rw [q2]; exact s1.tr (Sm.sI rfl)
  have s3 : Sm Pm0 μ m3 := by rw [q3]; exact s2.tr (Sm.sI rfl)
  have g1 : gI m1 49 = gI μ 49 := by rw [q1, gI_sI_ne (by decide)]
  have g2 : gI m2 49 = gI μ 49 := by rw [q2, gI_sI_ne (by decide), g1]
  refine ⟨m3, ?_, s3, by rw [q3, gI_sI, g2], ?_, ?_, ?_⟩
  · unfold f_M_emit
    rw [kO_49 w, bsome, gd, bsome, if_neg (by decide), rR_49_38 w, bsome, rI_49 w, bsome, r44, uI_78 w hc, bsome, ← q1, rR_49_39 (s1.wf w), bsome, rI_49 (s1.wf w), bsome, g1, r44, uI_79 (s1.wf w) hc, bsome, ← q2, rI_49 (s2.wf w), bsome, g2, r44, nI_1, pI_49 (s2.wf w), bsome, ← q3]
  · rw [q3, gI_sI_ne (by decide), q2, gI_sI_ne (by decide), q1, gI_sI_ne (by decide)]
  · rw [q3, gI_sI_ne (by decide), q2, gI_sI_ne (by decide), q1, gI_sI_ne (by decide)]
  · rw [q3, gI_sI_ne (by decide), gI_sI_ne (by decide), q2, gI_sI_ne (by decide), gI_sI, q1, gI_sI, gI_sI_ne (by decide)]
    exact HC_u rc
/-- put down and taken off -/
theorem m_emitp {c : Nat} (mb : MBo h n at_ (c :: st) cm o μ) (B : HB h n) {op : Nat} (x1 : Int32) (e1 : x1 = nI (mch op)) (hop : ¬ op = 1) : ∃ μ1 μ2, f_M_emit 49 x1 0 μ = some μ1 ∧ Wf μ1 ∧ pI μ1 49 1 46 (gI μ1 49 46 - 1) = some μ2 ∧ MBo h n at_ st (cm ++ [(op, 0)]) o μ2 ∧ Sm Pm0 μ μ2 := by
  have le := mb.le
  have b := B.1
  have le1 : st.length + 1 + cm.length ≤ at_ := le.1
  obtain ⟨μ1, q1, q2, q3, q4, q5, q6⟩ := m_emit mb (by omega) (op := op) (arg := 0) x1 0 e1 (by unfold mrg; rw [if_neg hop]; rfl)
  obtain ⟨w, r40, r41, r42, r46, r45, r44, rs, rc, rt, rl, -⟩ := mb
  have w1 := q2.wf w
  have s2 : Sm Pm0 μ1 (sI μ1 49 46 (nI st.length)) := Sm.sI rfl
  refine ⟨μ1, _, q1, w1, ?_, ⟨s2.wf w1, ?_, ?_, ?_, ?_, ?_, ?_, ?_, ?_, ?_, fun d hd => rl d (List.mem_cons_of_mem _ hd), ?_, le.2⟩, q2.tr s2⟩
  · rw [q3, upd_o (by decide), r46, pI_49 w1]
    show some (sI μ1 49 46 (nI (st.length + 1) - 1)) = _
    rw [nI_pred']
  · rw [gI_sI, upd_o (by decide), q3, upd_o (by decide)]; exact r40
  · rw [gI_sI, upd_o (by decide), q3, upd_o (by decide)]; exact r41
  · rw [gI_sI, upd_o (by decide), q3, upd_o (by decide)]; exact r42
  · rw [gI_sI, upd_s]
  · rw [gI_sI, upd_o (by decide), q3, upd_o (by decide)]; exact r45
  · rw [gI_sI, upd_o (by decide), q3, upd_s, List.length_append]; rfl
  · rw [gI_sI_ne (by decide), q4]; exact rs.2
  · rw [gI_sI_ne (by decide), gI_sI_ne (by decide)]; exact q6
  · intro j hj
    rw [gI_sI_ne (by decide), q5]; exact rt j hj
  · rw [List.length_append]; show st.length + (cm.length + 1) ≤ at_; omega
theorem m_top (mb : MBo h n at_ st cm o μ) (B : HB h n) : f_M_top 49 μ = some (nI (hdd st)) := by
  have le := mb.le
  have b := B.1
  obtain ⟨w, r40, r41, r42, r46, r45, r44, rs, rc, rt, -⟩ := mb
  unfold f_M_top
  rw [kO_49 w, bsome, rI_49 w, bsome, r46]
  match st, rs, le with
  | [], _, _ => rw [if_pos (by decide)]; rfl
  | c :: s, rs, le =>
    have l1 : s.length + 1 + cm.length ≤ at_ := le.1
    rw [if_neg, rR_49_49 w, bsome, bsome]
    · show (aI μ 80 (nI (s.length + 1) - 1)).bind _ = _
      rw [nI_pred', aI_80 w (by omega), bsome, rs.1]; rfl
    · show ¬ nI (s.length + 1) ≤ 0
      rw [show (0 : Int32) = nI 0 from rfl, cle (by omega) (by omega)]; omega
/-- a sign is put upon the others -/
theorem m_puts (mb : MBo h n at_ st cm o μ) (B : HB h n) {c : Nat} (hc : c < 256) (ha : at_ < n) (x1 : Int32) (e1 : x1 = nI c) : ∃ μ', f_M_puts 49 x1 μ = some μ' ∧ MBo h n (at_ + 1) (c :: st) cm o μ' ∧ Sm Pm0 μ μ' := by
  subst e1
  have le := mb.le
  have b := B.1
  obtain ⟨w, r40, r41, r42, r46, r45, r44, rs, rc, rt, rl, -⟩ := mb
  obtain ⟨m1, q1⟩ : ∃ x, x = sI μ 80 st.length (nI c) := ⟨_, rfl⟩
  obtain ⟨m2, q2⟩ : ∃ x, x = sI m1 49 46 (nI (st.length + 1)) := ⟨_, rfl⟩
  obtain ⟨m3, q3⟩ : ∃ x, x = sI m2 49 40 (nI (at_ + 1)) := ⟨_, rfl⟩
  have s1 : Sm Pm0 μ m1 := by rw [q1]; exact Sm.sI rfl
  have s2 : Sm Pm0 μ m2 := by rw [q2]; exact s1.tr (Sm.sI rfl)
  have s3 : Sm Pm0 μ m3 := by rw [q3]; exact s2.tr (Sm.sI rfl)
  have g1 : gI m1 49 = gI μ 49 := by rw [q1, gI_sI_ne (by decide)]
  have g2 : gI m2 49 = upd (gI μ 49) 46 (nI (st.length + 1)) := by rw [q2, gI_sI, g1]
  have g3 : gI m3 49 = upd (gI m2 49) 40 (nI (at_ + 1)) := by rw [q3, gI_sI]
  have g80 : gI m3 80 = upd (gI μ 80) st.length (nI c) := by rw [q3, gI_sI_ne (by decide), q2, gI_sI_ne (by decide), q1, gI_sI]
  have gx : ∀ x, ¬ x = 49 → ¬ x = 80 → gI m3 x = gI μ x := fun x h1 h2 => by rw [q3, gI_sI_ne h1, q2, gI_sI_ne h1, q1, gI_sI_ne h2]
  refine ⟨m3, ?_, ⟨s3.wf w, ?_, ?_, ?_, ?_, ?_, ?_, ?_, ?_, ?_, ?_, ?_, by omega⟩, s3⟩
  · unfold f_M_puts
    rw [kO_49 w, bsome, rR_49_49 w, bsome, rI_49 w, bsome, r46, uI_80 w (by omega), bsome, ← q1, rI_49 (s1.wf w), bsome, g1, r46, nI_1, pI_49 (s1.wf w), bsome, ← q2, rI_49 (s2.wf w), bsome, g2, upd_o (by decide), r40, nI_1, pI_49 (s2.wf w), bsome, ← q3]
  · rw [g3, upd_s]
  · rw [g3, upd_o (by decide), g2, upd_o (by decide)]; exact r41
  · rw [g3, upd_o (by decide), g2, upd_o (by decide)]; exact r42
  · rw [g3, upd_o (by decide), g2, upd_s]; rfl
  · rw [g3, upd_o (by decide), g2, upd_o (by decide)]; exact r45
  · rw [g3, upd_o (by decide), g2, upd_o (by decide)]; exact r44
  · rw [g80]
    exact ⟨upd_s, HS_u st (Nat.le_refl _) rs⟩
  · rw [gx 78 (by decide) (by decide), gx 79 (by decide) (by decide)]; exact rc
  · intro j hj
    rw [gx 50 (by decide) (by decide)]; exact rt j hj
  · intro d hd
    rcases List.mem_cons.mp hd with rfl | hd
    · exact hc
    · exact rl d hd
  · show st.length + 1 + cm.length ≤ at_ + 1
    omega
theorem MBo.so (mb : MBo h n at_ st cm o μ) (o2 : Nat) : MBo h n at_ st cm o2 (sI μ 49 45 (nI o2)) := by
  obtain ⟨w, r40, r41, r42, r46, r45, r44, rs, rc, rt, rl, r1, r2⟩ := mb
  have s : Sm Pm0 μ (sI μ 49 45 (nI o2)) := Sm.sI rfl
  refine ⟨s.wf w, ?_, ?_, ?_, ?_, ?_, ?_, ?_, ?_, ?_, rl, r1, r2⟩
  · rw [gI_sI, upd_o (by decide)]; exact r40
  · rw [gI_sI, upd_o (by decide)]; exact r41
  · rw [gI_sI, upd_o (by decide)]; exact r42
  · rw [gI_sI, upd_o (by decide)]; exact r46
  · rw [gI_sI, upd_s]
  · rw [gI_sI, upd_o (by decide)]; exact r44
  · rw [gI_sI_ne (by decide)]; exact rs
  · rw [gI_sI_ne (by decide), gI_sI_ne (by decide)]; exact rc
  · intro j hj
    rw [gI_sI_ne (by decide)]; exact rt j hj
/-- flags -/
theorem MBo.fl (mb : MBo h n at_ st cm o μ) {k : Nat} (hk : k = 47 ∨ k = 48) (v : Int32) : MBo h n at_ st cm o (sI μ 49 k v) ∧ Sm Pmu μ (sI μ 49 k v) := by
  obtain ⟨w, r40, r41, r42, r46, r45, r44, rs, rc, rt, rl, r1, r2⟩ := mb
  have s : Sm Pmu μ (sI μ 49 k v) := Sm.sI (by rcases hk with rfl | rfl <;> rfl)
  refine ⟨⟨s.wf w, ?_, ?_, ?_, ?_, ?_, ?_, ?_, ?_, ?_, rl, r1, r2⟩, s⟩
  · rw [gI_sI, upd_o (by omega)]; exact r40
  · rw [gI_sI, upd_o (by omega)]; exact r41
  · rw [gI_sI, upd_o (by omega)]; exact r42
  · rw [gI_sI, upd_o (by omega)]; exact r46
  · rw [gI_sI, upd_o (by omega)]; exact r45
  · rw [gI_sI, upd_o (by omega)]; exact r44
  · rw [gI_sI_ne (by decide)]; exact rs
  · rw [gI_sI_ne (by decide), gI_sI_ne (by decide)]; exact rc
  · intro j hj
    rw [gI_sI_ne (by decide)]; exact rt j hj
theorem MBo.f8 (mb : MBo h n at_ st cm o μ) (v : Int32) : MBo h n at_ st cm o (sI μ 49 48 v) ∧ Sm Pmt μ (sI μ 49 48 v) := ⟨(mb.fl (Or.inr rfl) v).1, Sm.sI rfl⟩
/-- an opening sign: a fault where six are open, else it is put upon the others -/
theorem m_opens (mb : MBo h n at_ st cm (opn st) μ) (B : HB h n) (ha : at_ < n) (hO : isO (h at_) = true) (h6 : opn st ≤ 6) : ∃ μ', f_M_opens 49 μ = some μ' ∧ Sm Pm0 μ μ' ∧ ((opn st = 6 ∧ ME (1000 * 5 + at_) μ') ∨ (opn st < 6 ∧ MBo h n (at_ + 1) (h at_ :: st) cm (opn (h at_ :: st)) μ')) := by
  have w := mb.1
  have b := B.1
  have le := mb.le
  have eo : opn (h at_ :: st) = opn st + 1 := by show opn st + (if isO (h at_) = true then 1 else 0) = _; rw [if_pos hO]
  rcases Nat.lt_or_ge (opn st) 6 with z | z
  · have m1 := mb.so (opn (h at_ :: st))
    have s1 : Sm Pm0 μ (sI μ 49 45 (nI (opn (h at_ :: st)))) := Sm.sI rfl
    obtain ⟨m2, q1, q2, q3⟩ := m_puts m1 B (B.2.1 at_) ha (nI (h at_)) rfl
    refine ⟨m2, ?_, s1.tr q3, Or.inr ⟨z, q2⟩⟩
    unfold f_M_opens f_M_opens_J18
    rw [kO_49 w, bsome, rI_49 w, bsome, mb.2.2.2.2.2.1, if_neg (show ¬ nI (opn st) = (6 : Int32) by rw [show (6 : Int32) = nI 6 from rfl, ceq (by omega) (by omega)]; omega), bsome, nI_1, ← eo, pI_49 w, bsome, m_here m1 B, bsome, q1, bsome]
  · have z6 : opn st = 6 := by omega
    obtain ⟨m1, p1, p2, p3, p4⟩ := m_wrongs mb B 5 at_ (by decide) (by decide) (by omega) 5 (nI at_) rfl rfl
    have g1 : gI m1 49 = upd (gI μ 49) 42 (oI (-((1000 * 5 + at_ : Nat) : Int))) := by rw [p4, gI_sI]
    have w1 := p2.1
    obtain ⟨m2, e2⟩ : ∃ x, x = sI m1 49 45 (nI 7) := ⟨_, rfl⟩
    have s2 : Sm Pm0 m1 m2 := by rw [e2]; exact Sm.sI rfl
    have w2 := s2.wf w1
    have g2 : gI m2 49 = upd (gI m1 49) 45 (nI 7) := by rw [e2, gI_sI]
    have g50 : gI m2 50 = gI μ 50 := by rw [e2, gI_sI_ne (by decide), p4, gI_sI_ne (by decide)]
    obtain ⟨m3, e3⟩ : ∃ x, x = sI m2 80 st.length (nI (h at_)) := ⟨_, rfl⟩
    have s3 : Sm Pm0 m2 m3 := by rw [e3]; exact Sm.sI rfl
    have w3 := s3.wf w2
    have g3 : gI m3 49 = gI m2 49 := by rw [e3, gI_sI_ne (by decide)]
    obtain ⟨m4, e4⟩ : ∃ x, x = sI m3 49 46 (nI (st.length + 1)) := ⟨_, rfl⟩
    have s4 : Sm Pm0 m3 m4 := by rw [e4]; exact Sm.sI rfl
    have w4 := s4.wf w3
    have g4 : gI m4 49 = upd (gI m2 49) 46 (nI (st.length + 1)) := by rw [e4, gI_sI, g3]
    obtain ⟨m5, e5⟩ : ∃ x, x = sI m4 49 40 (nI (at_ + 1)) := ⟨_, rfl⟩
    have s5 : Sm Pm0 m4 m5 := by rw [e5]; exact Sm.sI rfl
    have g5 : gI m5 49 42 = oI (-((1000 * 5 + at_ : Nat) : Int)) := by rw [e5, gI_sI, upd_o (by decide), g4, upd_o (by decide), g2, upd_o (by decide), g1, upd_s]
    obtain ⟨-, r40, r41, r42, r46, r45, r44, rs, rc, rt, rl, -⟩ := mb
    refine ⟨m5, ?_, p3.tr (s2.tr (s3.tr (s4.tr s5))), Or.inl ⟨z6, s5.wf w4, g5, by omega, by omega⟩⟩
    have hr : f_M_here 49 m2 = some (nI (h at_)) := by
      unfold f_M_here
      rw [kO_49 w2, bsome, rI_49 w2, bsome, g2, upd_o (by decide), g1, upd_o (by decide), r40, rI_49 w2, bsome, g2, upd_o (by decide), g1, upd_o (by decide), r41, if_neg (by rw [cle (by omega) (by omega)]; omega), rR_49_0 w2, bsome, bsome, aB_50 w2 (by omega), bsome, g50, rt at_ ha]
    unfold f_M_opens f_M_opens_J18 f_M_puts
    rw [kO_49 w, bsome, rI_49 w, bsome, r45, z6, if_pos (by decide), rI_49 w, bsome, r40, p1, bsome, rI_49 w1, bsome, g1, upd_o (by decide), r45, z6, nI_1, pI_49 w1, bsome, ← e2, hr, bsome, kO_49 w2, bsome, rR_49_49 w2, bsome, rI_49 w2, bsome, g2, upd_o (by decide), g1, upd_o (by decide), r46, uI_80 w2 (by omega), bsome, ← e3, rI_49 w3, bsome, g3, g2, upd_o (by decide), g1, upd_o (by decide), r46, nI_1, pI_49 w3, bsome, ← e4, rI_49 w4, bsome, g4, upd_o (by decide), g2, upd_o (by decide), g1, upd_o (by decide), r40, nI_1, pI_49 w4, bsome, ← e5, bsome]
theorem mtT : ∀ c, c < 256 → f_M_isTimes (nI c) = some (bi (isT c)) := by decide +kernel
theorem mtP : ∀ c, c < 256 → f_M_isPlus (nI c) = some (bi (isP c)) := by decide +kernel
theorem mtS : ∀ c, c < 256 → f_M_isSign (nI c) = some (bi (isSg c)) := by decide +kernel
theorem mtV : ∀ c, c < 256 → f_M_isValue (nI c) = some (bi (decide (lix c < 12))) := by decide +kernel
theorem m_digit (mb : MBo h n at_ st cm o μ) (B : HB h n) : f_M_seesDigit 49 μ = some (bi (isD (h at_))) := by
  have b := B.2.1 at_
  unfold f_M_seesDigit
  rw [kO_49 mb.1, bsome, m_here mb B, bsome, s_liesI _ 48 57 48 57 (by decide) (by decide), bsome, rz_bi, bsome, nI_toInt (by omega)]
  congr 2
  unfold isD
  by_cases e : 48 ≤ h at_ ∧ h at_ ≤ 57
  · rw [decide_eq_true (by omega), decide_eq_true e.1, decide_eq_true e.2]; rfl
  · rw [decide_eq_false (by omega)]
    by_cases e1 : 48 ≤ h at_
    · rw [decide_eq_true e1, decide_eq_false (by omega)]; rfl
    · rw [decide_eq_false e1]; rfl
theorem hdd_lt (mb : MBo h n at_ st cm o μ) : hdd st < 256 := by
  have rl := mb.2.2.2.2.2.2.2.2.2.2.1
  match st, rl with
  | [], _ => decide
  | c :: s, rl => exact rl c (List.mem_cons_self ..)
end
