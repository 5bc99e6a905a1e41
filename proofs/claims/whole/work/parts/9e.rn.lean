/-! LAYER 2: reading, in the reference: its parts, turn by turn -/
def Lk (u : List Nat) : Prop := ∀ c, c ∈ u → c = 91 ∨ isT c = true ∨ isP c = true
def Bs (st : List Nat) : Prop := isT (hdd st) = false ∧ isP (hdd st) = false ∧ ¬ hdd st = 91
def KSt : List Nat → Prop
  | [] => False
  | [c] => c = 40
  | c :: d :: s => (c = 40 ∨ c = 33 ∨ ((c = 38 ∨ c = 124) ∧ ¬ d = 33)) ∧ KSt (d :: s)
theorem KSt.hd {st : List Nat} (k : KSt st) : sid 2 st ∧ ¬ st = [] := by
  match st, k with
  | [c], k => exact ⟨Or.inl k, by simp⟩
  | c :: d :: s, k =>
    refine ⟨?_, by simp⟩
    show c = 40 ∨ c = 33 ∨ c = 38 ∨ c = 124
    rcases k.1 with e | e | ⟨e | e, -⟩ <;> simp [e]
theorem KSt.bs {st : List Nat} (k : KSt st) : Bs st := ⟨(sid2 k.hd.1).1, (sid2 k.hd.1).2.1, (sid2 k.hd.1).2.2.2.1⟩
theorem KSt.up {st : List Nat} (k : KSt st) {c : Nat} (hc : c = 40 ∨ c = 33 ∨ ((c = 38 ∨ c = 124) ∧ ¬ hdd st = 33)) : KSt (c :: st) := by
  match st, k, hc with
  | d :: s, k, hc => exact ⟨hc, k⟩
def MB (h : Nat → Nat) (n at_ : Nat) (st : List Nat) (cm : CL) (μ : MM) : Prop := MBo h n at_ st cm (opn st) μ ∧ opn st ≤ 6
theorem mx_T {c : Nat} (e : isT c = true) : mch (xop c) = c ∧ ¬ xop c = 1 := by rcases isT_c e with rfl | rfl | rfl <;> decide
theorem mx_P {c : Nat} (e : isP c = true) : mch (xop c) = c ∧ ¬ xop c = 1 := by rcases isP_c e with rfl | rfl <;> decide
theorem mx_S {c : Nat} (e : isSg c = true) : mch (xop c) = c ∧ ¬ xop c = 1 := by rcases isSg_c e with rfl | rfl | rfl <;> decide
theorem chr_lix {c : Nat} (hc : c < 256) : lix c < 12 → chr (lix c) = c := by
  have : ∀ c, c < 256 → lix c < 12 → chr (lix c) = c := by decide +kernel
  exact this c hc
section
variable {h : Nat → Nat} {n at_ z : Nat} {st st0 u : List Nat} {cm : CL} {μ : MM}
theorem MB.pop {c : Nat} (mb : MB h n at_ (c :: st) cm μ) (B : HB h n) (ho : opn (c :: st) = opn st) {op : Nat} (hop : ¬ op = 1) (x1 : Int32) (e1 : x1 = nI (mch op)) : ∃ μ1 μ2, f_M_emit 49 x1 0 μ = some μ1 ∧ Wf μ1 ∧ pI μ1 49 1 46 (gI μ1 49 46 - 1) = some μ2 ∧ MB h n at_ st (cm ++ [(op, 0)]) μ2 ∧ Sm Pm0 μ μ2 := by
  obtain ⟨m1, m2, q1, q2, q3, q4, q5⟩ := m_emitp mb.1 B x1 e1 hop
  exact ⟨m1, m2, q1, q2, q3, ⟨by rw [← ho]; exact q4, by rw [← ho]; exact mb.2⟩, q5⟩
theorem sumsL (B : HB h n) (b0 : Bs st0) (pl : Bool) (hp : pl = true → isT (h at_) = false) : ∀ (u : List Nat) (m : Nat) (cm : CL) (μ : MM), u.length < m → Lk u → MB h n at_ (u ++ st0) cm μ → ∃ u' cm' μ', f_M_sums_L0 49 (bi pl) m μ = some μ' ∧ MB h n at_ (u' ++ st0) cm' μ' ∧ Sm Pm0 μ μ' ∧ rch h (1, at_, u ++ st0, cm) (1, at_, u' ++ st0, cm') ∧ Lk u' ∧ isT (hdd (u' ++ st0)) = false ∧ (pl = true → isP (hdd (u' ++ st0)) = false) := by
  intro u
  induction u with
  | nil =>
    intro m cm μ hm hu mb
    obtain ⟨m, rfl⟩ : ∃ j, m = j + 1 := ⟨m - 1, by simp at hm; omega⟩
    have hl := hdd_lt mb.1
    refine ⟨[], cm, μ, ?_, mb, Sm.rf, rch.rf, fun c hc => absurd hc (by simp), b0.1, fun _ => b0.2.1⟩
    have tp := m_top mb.1 B
    rw [e_M_sums_L0, tp, bsome, mtT _ hl, bsome, show isT (hdd ([] ++ st0)) = false from b0.1, if_pos (by decide)]
    cases pl with
    | false => rw [if_pos (by decide)]
    | true => rw [if_neg (by decide), bsome, mtP _ hl, bsome, show isP (hdd ([] ++ st0)) = false from b0.2.1, if_pos (by decide)]
  | cons c u ih =>
    intro m cm μ hm hu mb
    obtain ⟨m, rfl⟩ : ∃ j, m = j + 1 := ⟨m - 1, by simp at hm; omega⟩
    have hl := hdd_lt mb.1
    have hd : hdd (c :: u ++ st0) = c := rfl
    have tp := m_top mb.1 B
    rw [hd] at tp hl
    have hu2 : Lk u := fun d hd => hu d (List.mem_cons_of_mem _ hd)
    have go : (isT c = true ∨ (isP c = true ∧ pl = true)) → f_M_sums_L0 49 (bi pl) (m + 1) μ = f_M_sums_J24 (f_M_sums_L0 49 (bi pl) m) 49 (bi pl) μ := by
      intro g
      rw [e_M_sums_L0, tp, bsome, mtT _ hl, bsome]
      by_cases e : isT c = true
      · rw [e, if_neg (by decide)]
      · have g2 := g.resolve_left e
        rw [Bool.eq_false_iff.mpr e, if_pos (by decide), g2.2, if_neg (by decide), bsome, mtP _ hl, bsome, g2.1, if_neg (by decide)]
    by_cases g : isT c = true ∨ (isP c = true ∧ pl = true)
    · have ho : opn (c :: (u ++ st0)) = opn (u ++ st0) := by
        rcases g with g | g
        · exact opn_T g
        · exact opn_P g.1
      have hx : mch (xop c) = c ∧ ¬ xop c = 1 := by
        rcases g with g | g
        · exact mx_T g
        · exact mx_P g.1
      obtain ⟨m1, m2, q1, q2, q3, q4, q5⟩ := MB.pop mb B ho hx.2 (nI c) (by rw [hx.1])
      obtain ⟨u', cm', μ', p1, p2, p3, p4, p5, p6, p7⟩ := ih m _ m2 (by simp at hm; omega) hu2 q4
      refine ⟨u', cm', μ', ?_, p2, q5.tr p3, rch.st ?_ p4, p5, p6, p7⟩
      · rw [go g]
        unfold f_M_sums_J24
        rw [tp, bsome, q1, bsome, rI_49 q2, bsome, q3, bsome, p1]
      · rcases g with g | g
        · exact a1_pT (st := c :: (u ++ st0)) g
        · exact a1_pP (st := c :: (u ++ st0)) (isT_P g.1) (hp g.2) g.1
    · have nT : isT c = false := Bool.eq_false_iff.mpr (fun e => g (Or.inl e))
      refine ⟨c :: u, cm, μ, ?_, mb, Sm.rf, rch.rf, hu, nT, fun e => Bool.eq_false_iff.mpr (fun e2 => g (Or.inr ⟨e2, e⟩))⟩
      rw [e_M_sums_L0, tp, bsome, mtT _ hl, bsome, nT, if_pos (by decide)]
      cases hpl : pl with
      | false => rw [if_pos (by decide)]
      | true =>
        rw [if_neg (by decide), bsome, mtP _ hl, bsome, show isP c = false from Bool.eq_false_iff.mpr (fun e2 => g (Or.inr ⟨e2, hpl⟩)), if_pos (by decide)]
theorem len_lt (mb : MB h n at_ st cm μ) (B : HB h n) : st.length < FU := by
  have := mb.1.le
  have := B.1
  unfold FU; omega
theorem m_sums (B : HB h n) (b0 : Bs st0) (pl : Bool) (hp : pl = true → isT (h at_) = false) (hu : Lk u) (mb : MB h n at_ (u ++ st0) cm μ) : ∃ u' cm' μ', f_M_sums 49 (bi pl) μ = some μ' ∧ MB h n at_ (u' ++ st0) cm' μ' ∧ Sm Pm0 μ μ' ∧ rch h (1, at_, u ++ st0, cm) (1, at_, u' ++ st0, cm') ∧ Lk u' ∧ isT (hdd (u' ++ st0)) = false ∧ (pl = true → isP (hdd (u' ++ st0)) = false) := by
  have hl := len_lt mb B
  rw [List.length_append] at hl
  obtain ⟨u', cm', μ', q, r⟩ := sumsL B b0 pl hp u FU cm μ (by omega) hu mb
  exact ⟨u', cm', μ', by unfold f_M_sums; rw [kO_49 mb.1.1, bsome, q], r⟩
theorem joinsL (B : HB h n) (orr : Bool) (hor : orr = true → ¬ h at_ = 38) : ∀ (st : List Nat) (m : Nat) (cm : CL) (μ : MM), st.length ≤ m → KSt st → ¬ hdd st = 33 → MB h n at_ st cm μ → ∃ st' cm' μ', f_M_joins_L0 49 (bi orr) m μ = some μ' ∧ MB h n at_ st' cm' μ' ∧ Sm Pm0 μ μ' ∧ rch h (3, at_, st, cm) (3, at_, st', cm') ∧ KSt st' ∧ ¬ hdd st' = 33 ∧ ¬ hdd st' = 38 ∧ (orr = true → ¬ hdd st' = 124) := by
  intro st
  induction st with
  | nil => intro m cm μ hm ks; exact absurd ks (fun q => q)
  | cons c s ih =>
    intro m cm μ hm ks h33 mb
    obtain ⟨m, rfl⟩ : ∃ j, m = j + 1 := ⟨m - 1, by simp at hm; omega⟩
    have tp : f_M_top 49 μ = some (nI c) := m_top mb.1 B
    have hl : c < 256 := hdd_lt mb.1
    have h33 : ¬ c = 33 := h33
    have i38 : nI c = (38 : Int32) ↔ c = 38 := by rw [show (38 : Int32) = nI 38 from rfl, ceq (by omega) (by omega)]
    have i124 : nI c = (124 : Int32) ↔ c = 124 := by rw [show (124 : Int32) = nI 124 from rfl, ceq (by omega) (by omega)]
    by_cases g : c = 38 ∨ (c = 124 ∧ orr = true)
    · have go : f_M_joins_L0 49 (bi orr) (m + 1) μ = f_M_joins_J22 (f_M_joins_L0 49 (bi orr) m) 49 (bi orr) μ := by
        rw [e_M_joins_L0, tp, bsome]
        rcases g with g | g
        · rw [if_pos (i38.mpr g)]
        · rw [if_neg (fun q => by have := i38.mp q; omega), g.2, if_neg (by decide), bsome, if_pos (i124.mpr g.1)]
      match s, ks, ih, mb with
      | [], ks, _, _ => exact absurd (show c = 40 from ks) (by omega)
      | d :: s, ks, ih, mb =>
        have nd : ¬ d = 33 := by
          rcases ks.1 with e | e | ⟨-, e⟩
          · omega
          · omega
          · exact e
        have ho : opn (c :: d :: s) = opn (d :: s) := by
          show opn (d :: s) + (if isO c = true then 1 else 0) = _
          rcases g with g | g
          · rw [g]; rfl
          · rw [g.1]; rfl
        have hx : ∃ op, nI c = nI (mch op) ∧ ¬ op = 1 ∧ stp h (3, at_, c :: d :: s, cm) = (3, at_, d :: s, cm ++ [(op, 0)]) := by
          rcases g with g | g
          · subst g
            exact ⟨11, rfl, by decide, by rw [a3_eq, if_neg (show ¬ hdd (38 :: d :: s) = 33 by show ¬ 38 = 33; decide), if_pos (show hdd (38 :: d :: s) = 38 from rfl)]; rfl⟩
          · obtain ⟨g, g2⟩ := g
            subst g
            exact ⟨12, rfl, by decide, by rw [a3_eq, if_neg (show ¬ hdd (124 :: d :: s) = 33 by show ¬ 124 = 33; decide), if_neg (show ¬ hdd (124 :: d :: s) = 38 by show ¬ 124 = 38; decide), if_neg (hor g2), if_pos (show hdd (124 :: d :: s) = 124 from rfl)]; rfl⟩
        obtain ⟨op, x1, x2, x3⟩ := hx
        obtain ⟨m1, m2, q1, q2, q3, q4, q5⟩ := MB.pop mb B ho x2 (nI c) x1
        obtain ⟨st', cm', μ', p1, p2, p3, p4, p5⟩ := ih m _ m2 (by simp at hm ⊢; omega) ks.2 nd q4
        refine ⟨st', cm', μ', ?_, p2, q5.tr p3, rch.st x3 p4, p5⟩
        rw [go]
        unfold f_M_joins_J22
        rw [tp, bsome, q1, bsome, rI_49 q2, bsome, q3, bsome, p1]
    · refine ⟨c :: s, cm, μ, ?_, mb, Sm.rf, rch.rf, ks, h33, fun q => g (Or.inl q), fun q q2 => g (Or.inr ⟨q2, q⟩)⟩
      rw [e_M_joins_L0, tp, bsome, if_neg (fun q => g (Or.inl (i38.mp q)))]
      cases hpl : orr with
      | false => rw [if_pos (by decide)]
      | true => rw [if_neg (by decide), bsome, if_neg (fun q => g (Or.inr ⟨i124.mp q, hpl⟩))]
theorem m_joins (B : HB h n) (orr : Bool) (hor : orr = true → ¬ h at_ = 38) (ks : KSt st) (h33 : ¬ hdd st = 33) (mb : MB h n at_ st cm μ) : ∃ st' cm' μ', f_M_joins 49 (bi orr) μ = some μ' ∧ MB h n at_ st' cm' μ' ∧ Sm Pm0 μ μ' ∧ rch h (3, at_, st, cm) (3, at_, st', cm') ∧ KSt st' ∧ ¬ hdd st' = 33 ∧ ¬ hdd st' = 38 ∧ (orr = true → ¬ hdd st' = 124) := by
  have hl := len_lt mb B
  obtain ⟨u', cm', μ', q, r⟩ := joinsL B orr hor st FU cm μ (by omega) ks h33 mb
  exact ⟨u', cm', μ', by unfold f_M_joins; rw [kO_49 mb.1.1, bsome, q], r⟩
theorem endsL (B : HB h n) : ∀ (st : List Nat) (m : Nat) (cm : CL) (μ : MM), st.length ≤ m → KSt st → MB h n at_ st cm μ → ∃ st' cm' μ', f_M_ends_L0 49 m μ = some μ' ∧ MB h n at_ st' cm' μ' ∧ Sm Pm0 μ μ' ∧ rch h (3, at_, st, cm) (3, at_, st', cm') ∧ KSt st' ∧ ¬ hdd st' = 33 := by
  intro st
  induction st with
  | nil => intro m cm μ hm ks; exact absurd ks (fun q => q)
  | cons c s ih =>
    intro m cm μ hm ks mb
    obtain ⟨m, rfl⟩ : ∃ j, m = j + 1 := ⟨m - 1, by simp at hm; omega⟩
    have tp : f_M_top 49 μ = some (nI c) := m_top mb.1 B
    have hl : c < 256 := hdd_lt mb.1
    have i33 : nI c = (33 : Int32) ↔ c = 33 := by rw [show (33 : Int32) = nI 33 from rfl, ceq (by omega) (by omega)]
    by_cases g : c = 33
    · match s, ks, ih, mb with
      | [], ks, _, _ => exact absurd (show c = 40 from ks) (by omega)
      | d :: s, ks, ih, mb =>
        subst g
        have ho : opn (33 :: d :: s) = opn (d :: s) + 1 := rfl
        obtain ⟨m1, m2, q1, q2, q3, q4, q5⟩ := m_emitp (op := 10) mb.1 B 2 rfl (by decide)
        have q6 := q4.so (opn (d :: s))
        have s6 : Sm Pm0 m2 (sI m2 49 45 (nI (opn (d :: s)))) := Sm.sI rfl
        obtain ⟨st', cm', μ', p1, p2, p3, p4, p5⟩ := ih m _ _ (by simp at hm ⊢; omega) ks.2 ⟨q6, by have := mb.2; omega⟩
        refine ⟨st', cm', μ', ?_, p2, q5.tr (s6.tr p3), rch.st ?_ p4, p5⟩
        · rw [e_M_ends_L0, tp, bsome, if_pos (by decide), q1, bsome, rI_49 q2, bsome, q3, bsome, rI_49 q4.1, bsome, q4.2.2.2.2.2.1, ho, nI_pred', pI_49 q4.1, bsome, p1]
        · rw [a3_eq, if_pos (show hdd (33 :: d :: s) = 33 from rfl)]; rfl
    · refine ⟨c :: s, cm, μ, ?_, mb, Sm.rf, rch.rf, ks, g⟩
      rw [e_M_ends_L0, tp, bsome, if_neg (fun q => g (i33.mp q))]
theorem m_ends (B : HB h n) (ks : KSt st) (mb : MB h n at_ st cm μ) : ∃ st' cm' μ', f_M_ends 49 μ = some μ' ∧ MB h n at_ st' cm' μ' ∧ Sm Pm0 μ μ' ∧ rch h (3, at_, st, cm) (3, at_, st', cm') ∧ KSt st' ∧ ¬ hdd st' = 33 := by
  have hl := len_lt mb B
  obtain ⟨u', cm', μ', q, r⟩ := endsL B st FU cm μ (by omega) ks mb
  exact ⟨u', cm', μ', by unfold f_M_ends; rw [kO_49 mb.1.1, bsome, q], r⟩
theorem MBo.adv {o : Nat} (mb : MBo h n at_ st cm o μ) (ha : at_ < n) : pI μ 49 1 40 (gI μ 49 40 + 1) = some (sI μ 49 40 (nI (at_ + 1))) ∧ MBo h n (at_ + 1) st cm o (sI μ 49 40 (nI (at_ + 1))) ∧ Sm Pm0 μ (sI μ 49 40 (nI (at_ + 1))) := by
  obtain ⟨w, r40, r41, r42, r46, r45, r44, rs, rc, rt, rl, r1, r2⟩ := mb
  have s : Sm Pm0 μ (sI μ 49 40 (nI (at_ + 1))) := Sm.sI rfl
  refine ⟨by rw [r40, nI_1, pI_49 w], ⟨s.wf w, ?_, ?_, ?_, ?_, ?_, ?_, ?_, ?_, ?_, rl, by omega, by omega⟩, s⟩
  · rw [gI_sI, upd_s]
  · rw [gI_sI, upd_o (by decide)]; exact r41
  · rw [gI_sI, upd_o (by decide)]; exact r42
  · rw [gI_sI, upd_o (by decide)]; exact r46
  · rw [gI_sI, upd_o (by decide)]; exact r45
  · rw [gI_sI, upd_o (by decide)]; exact r44
  · rw [gI_sI_ne (by decide)]; exact rs
  · rw [gI_sI_ne (by decide), gI_sI_ne (by decide)]; exact rc
  · intro j hj
    rw [gI_sI_ne (by decide)]; exact rt j hj
/-- digits -/
theorem readsL (B : HB h n) {o a0 : Nat} : ∀ (r c v m : Nat) (μ : MM), c + r = 5 → r + 2 ≤ m → MBo h n (a0 + c) st cm o μ → ∃ y μ', f_M_reads_L7 49 (nI a0) m (nI v) μ = some (y, μ') ∧ Sm Pm0 μ μ' ∧ ((ndg h (r + 1) (a0 + c) = r + 1 ∧ ME (1000 * 2 + (a0 + 5)) μ') ∨ (¬ ndg h (r + 1) (a0 + c) = r + 1 ∧ y = nI (nvl h (ndg h (r + 1) (a0 + c)) (a0 + c) v) ∧ MBo h n (a0 + c + ndg h (r + 1) (a0 + c)) st cm o μ')) := by
  intro r
  induction r with
  | zero =>
    intro c v m μ hc hm mb
    obtain ⟨m, rfl⟩ : ∃ j, m = j + 2 := ⟨m - 2, by omega⟩
    have c5 : c = 5 := by omega
    subst c5
    have w := mb.1
    have b := B.1
    have le := mb.le
    show ∃ y μ', f_M_reads_L7 49 (nI a0) (m + 1 + 1) (nI v) μ = _ ∧ _
    rw [e_M_reads_L7, m_good mb, bsome, if_neg (by decide), m_digit mb B, bsome]
    by_cases e : isD (h (a0 + 5)) = true
    · have lt : a0 + 5 < n := hx_lt B (by have := isD_b e; omega)
      obtain ⟨m1, q1, q2, q3, q4⟩ := m_wrongs mb B 2 (a0 + 5) (by decide) (by decide) (by omega) 2 (nI (a0 + 5)) rfl rfl
      have g1 : gI m1 49 = upd (gI μ 49) 42 (oI (-((1000 * 2 + (a0 + 5) : Nat) : Int))) := by rw [q4, gI_sI]
      have g50 : gI m1 50 = gI μ 50 := by rw [q4, gI_sI_ne (by decide)]
      have w1 := q2.1
      have s2 : Sm Pm0 m1 (sI m1 49 40 (nI (a0 + 5 + 1))) := Sm.sI rfl
      have hE : ME (1000 * 2 + (a0 + 5)) (sI m1 49 40 (nI (a0 + 5 + 1))) := ⟨s2.wf w1, by rw [gI_sI, upd_o (by decide)]; exact q2.2.1, q2.2.2.1, q2.2.2.2⟩
      have r40 := mb.2.1
      have r41 := mb.2.2.1
      have hr : f_M_here 49 m1 = some (nI (h (a0 + 5))) := by
        unfold f_M_here
        rw [kO_49 w1, bsome, rI_49 w1, bsome, g1, upd_o (by decide), r40, rI_49 w1, bsome, g1, upd_o (by decide), r41, if_neg (by rw [cle (by omega) (by omega)]; omega), rR_49_0 w1, bsome, bsome, aB_50 w1 (by omega), bsome, g50, mb.2.2.2.2.2.2.2.2.2.1 _ lt]
      refine ⟨((10 : Int32) * nI v + nI (h (a0 + 5))) - 48, _, ?_, q3.tr s2, Or.inl ⟨?_, hE⟩⟩
      · rw [e, if_neg (by decide), rI_49 w, bsome, r40, if_pos (by rw [show (5 : Int32) = nI 5 from rfl, nI_add]), bsome, q1, bsome]
        unfold f_M_reads_J40
        rw [hr, bsome, rI_49 w1, bsome, g1, upd_o (by decide), r40, nI_1, pI_49 w1, bsome, e_M_reads_L7, m_goodE hE, bsome, if_pos rfl]
      · unfold ndg; rw [if_pos e]; rfl
    · have e := Bool.eq_false_iff.mpr e
      have d0 : ndg h (0 + 1) (a0 + 5) = 0 := by unfold ndg; rw [if_neg (by rw [e]; decide)]
      refine ⟨nI v, μ, by rw [e, if_pos (by decide)], Sm.rf, Or.inr ⟨by omega, by rw [d0]; rfl, by rw [d0]; exact mb⟩⟩
  | succ r ih =>
    intro c v m μ hc hm mb
    obtain ⟨m, rfl⟩ : ∃ j, m = j + 1 := ⟨m - 1, by omega⟩
    have w := mb.1
    have b := B.1
    have le := mb.le
    rw [e_M_reads_L7, m_good mb, bsome, if_neg (by decide), m_digit mb B, bsome]
    by_cases e : isD (h (a0 + c)) = true
    · have bd := isD_b e
      have lt : a0 + c < n := hx_lt B (by omega)
      obtain ⟨q1, q2, q3⟩ := mb.adv lt
      obtain ⟨y, μ', p1, p2, p3⟩ := ih (c + 1) (10 * v + (h (a0 + c) - 48)) m _ (by omega) (by omega) q2
      have dd : ndg h (r + 1 + 1) (a0 + c) = ndg h (r + 1) (a0 + (c + 1)) + 1 := by
        show (if isD (h (a0 + c)) = true then ndg h (r + 1) (a0 + c + 1) + 1 else 0) = _
        rw [if_pos e]; rfl
      refine ⟨y, μ', ?_, q3.tr p2, ?_⟩
      · rw [e, if_neg (by decide), rI_49 w, bsome, mb.2.1, if_neg (by rw [show (5 : Int32) = nI 5 from rfl, nI_add, ceq (by omega) (by omega)]; omega)]
        unfold f_M_reads_J40
        rw [m_here mb B, bsome, rI_49 w, bsome, q1, bsome, show (10 : Int32) = nI 10 from rfl, pk_mul, nI_add, show (48 : Int32) = nI 48 from rfl, pk_sub (by omega), show 10 * v + h (a0 + c) - 48 = 10 * v + (h (a0 + c) - 48) by omega, p1]
      · rw [dd]
        rcases p3 with ⟨g1, g2⟩ | ⟨g1, g2, g3⟩
        · exact Or.inl ⟨by omega, g2⟩
        · refine Or.inr ⟨by omega, g2, ?_⟩
          rw [show a0 + c + (ndg h (r + 1) (a0 + (c + 1)) + 1) = a0 + (c + 1) + ndg h (r + 1) (a0 + (c + 1)) by omega]; exact g3
    · have e := Bool.eq_false_iff.mpr e
      have d0 : ndg h (r + 1 + 1) (a0 + c) = 0 := by
        show (if isD (h (a0 + c)) = true then _ else 0) = 0
        rw [if_neg (by rw [e]; decide)]
      refine ⟨nI v, μ, by rw [e, if_pos (by decide)], Sm.rf, Or.inr ⟨by omega, by rw [d0]; rfl, by rw [d0]; exact mb⟩⟩
theorem m_reads (B : HB h n) {o : Nat} (mb : MBo h n at_ st cm o μ) : ∃ y μ', f_M_reads 49 μ = some (y, μ') ∧ Sm Pm0 μ μ' ∧ ((ndg h 6 at_ = 6 ∧ ME (1000 * 2 + (at_ + 5)) μ') ∨ (¬ ndg h 6 at_ = 6 ∧ y = nI (nvl h (ndg h 6 at_) at_ 0) ∧ MBo h n (at_ + ndg h 6 at_) st cm o μ')) := by
  obtain ⟨y, μ', q1, q2, q3⟩ := readsL (st := st) (cm := cm) (o := o) B (a0 := at_) 5 0 0 FU μ rfl (by unfold FU; omega) mb
  refine ⟨y, μ', ?_, q2, q3⟩
  unfold f_M_reads
  rw [kO_49 mb.1, bsome, rI_49 mb.1, bsome, mb.2.1]
  exact q1
theorem m_emitE {z : Nat} (e : ME z μ) (x1 x2 : Int32) : f_M_emit 49 x1 x2 μ = some μ := by
  unfold f_M_emit
  rw [kO_49 e.1, bsome, m_goodE e, bsome, if_pos rfl]
/-- a value is put down, where its signs lie behind -/
theorem m_emitv {o : Nat} (mb : MBo h n at_ st cm o μ) (B : HB h n) (lt : st.length + cm.length < at_) {op arg : Nat} (x1 x2 : Int32) (e1 : x1 = nI (mch op)) (e2 : x2 = nI (mrg (op, arg))) : ∃ μ', f_M_emit 49 x1 x2 μ = some μ' ∧ MBo h n at_ st (cm ++ [(op, arg)]) o μ' ∧ Sm Pm0 μ μ' := by
  have le := mb.le
  have b := B.1
  obtain ⟨μ1, q1, q2, q3, q4, q5, q6⟩ := m_emit mb (by omega) (op := op) (arg := arg) x1 x2 e1 e2
  obtain ⟨w, r40, r41, r42, r46, r45, r44, rs, rc, rt, rl, -⟩ := mb
  refine ⟨μ1, q1, ⟨q2.wf w, ?_, ?_, ?_, ?_, ?_, ?_, ?_, q6, ?_, rl, ?_, le.2⟩, q2⟩
  · rw [q3, upd_o (by decide)]; exact r40
  · rw [q3, upd_o (by decide)]; exact r41
  · rw [q3, upd_o (by decide)]; exact r42
  · rw [q3, upd_o (by decide)]; exact r46
  · rw [q3, upd_o (by decide)]; exact r45
  · rw [q3, upd_s, List.length_append]; rfl
  · rw [q4]; exact rs
  · intro j hj
    rw [q5]; exact rt j hj
  · rw [List.length_append]; show st.length + (cm.length + 1) ≤ at_; omega
theorem Lk_c {c : Nat} (hu : Lk u) (hc : c = 91 ∨ isT c = true ∨ isP c = true) : Lk (c :: u) := fun d hd => by
  rcases List.mem_cons.mp hd with rfl | hd
  · exact hc
  · exact hu d hd
theorem factL (B : HB h n) : ∀ (r m : Nat) (at_ : Nat) (u : List Nat) (cm : CL) (μ : MM), n - at_ ≤ r → r < m → Lk u → MB h n at_ (u ++ st0) cm μ → ∃ μ', f_M_factor_L0 49 m μ = some μ' ∧ Sm Pm0 μ μ' ∧ ((∃ z, ME z μ' ∧ rch h (0, at_, u ++ st0, cm) (5, z, [], [])) ∨ ∃ b u' cm', at_ < b ∧ MB h n b (u' ++ st0) cm' μ' ∧ Lk u' ∧ rch h (0, at_, u ++ st0, cm) (1, b, u' ++ st0, cm')) := by
  intro r
  induction r with
  | zero =>
    intro m at_ u cm μ hr hm hu mb
    obtain ⟨m, rfl⟩ : ∃ j, m = j + 1 := ⟨m - 1, by omega⟩
    have h0 : h at_ = 0 := B.2.2 at_ (by omega)
    have le := mb.1.le
    have b := B.1
    have w := mb.1.1
    obtain ⟨m1, q1, q2, q3, -⟩ := m_wrongs mb.1 B 1 at_ (by decide) (by decide) (by omega) 1 (nI at_) rfl rfl
    refine ⟨m1, ?_, q3, Or.inl ⟨_, q2, rch.one (a0_E (by omega) (by rw [h0]; rfl) (by rw [h0]; decide))⟩⟩
    rw [e_M_factor_L0, m_good mb.1, bsome, if_neg (by decide), m_here mb.1 B, bsome, if_neg (by rw [h0]; decide)]
    unfold f_M_factor_J23
    rw [m_good mb.1, bsome, if_neg (by decide), m_digit mb.1 B, bsome, h0, if_pos (by decide), m_here mb.1 B, bsome, h0, mtV 0 (by decide), bsome, if_pos (by decide), rI_49 w, bsome, mb.1.2.1, q1, bsome]
  | succ r ih =>
    intro m at_ u cm μ hr hm hu mb
    obtain ⟨m, rfl⟩ : ∃ j, m = j + 1 := ⟨m - 1, by omega⟩
    have le := mb.1.le
    have b := B.1
    have w := mb.1.1
    have hl := B.2.1 at_
    have i91 : nI (h at_) = (91 : Int32) ↔ h at_ = 91 := by rw [show (91 : Int32) = nI 91 from rfl, ceq (by omega) (by omega)]
    rw [e_M_factor_L0, m_good mb.1, bsome, if_neg (by decide), m_here mb.1 B, bsome]
    by_cases c1 : h at_ = 91
    · have lt : at_ < n := hx_lt B (by omega)
      obtain ⟨m1, q1, q2, q3⟩ := m_opens mb.1 B lt (by rw [c1]; rfl) mb.2
      rw [if_pos (i91.mpr c1), q1, bsome]
      rcases q3 with ⟨g1, g2⟩ | ⟨g1, g2⟩
      · obtain ⟨m, rfl⟩ : ∃ j, m = j + 1 := ⟨m - 1, by omega⟩
        refine ⟨m1, ?_, q2, Or.inl ⟨_, g2, rch.one (a0_brE c1 g1)⟩⟩
        rw [e_M_factor_L0, m_goodE g2, bsome, if_pos rfl]
        unfold f_M_factor_J23
        rw [m_goodE g2, bsome, if_pos rfl]
      · rw [c1] at g2
        obtain ⟨μ', p1, p2, p3⟩ := ih m (at_ + 1) (91 :: u) cm m1 (by omega) (by omega) (Lk_c hu (Or.inl rfl)) ⟨g2, by show opn (u ++ st0) + 1 ≤ 6; omega⟩
        have stp1 : stp h (0, at_, u ++ st0, cm) = (0, at_ + 1, 91 :: (u ++ st0), cm) := a0_br c1 (by omega)
        refine ⟨μ', p1, q2.tr p2, ?_⟩
        rcases p3 with ⟨z, e1, e2⟩ | ⟨b2, u', cm', e1, e2, e3, e4⟩
        · exact Or.inl ⟨z, e1, rch.st stp1 e2⟩
        · exact Or.inr ⟨b2, u', cm', by omega, e2, e3, rch.st stp1 e4⟩
    · rw [if_neg (fun q => c1 (i91.mp q))]
      unfold f_M_factor_J23
      rw [m_good mb.1, bsome, if_neg (by decide), m_digit mb.1 B, bsome]
      by_cases c2 : isD (h at_) = true
      · rw [c2, if_neg (by decide)]
        obtain ⟨y, m1, q1, q2, q3⟩ := m_reads B mb.1
        rw [q1, bsome]
        rcases q3 with ⟨g1, g2⟩ | ⟨g1, g2, g3⟩
        · exact ⟨m1, by rw [m_emitE g2, bsome], q2, Or.inl ⟨_, g2, rch.one (a0_dgE c2 g1)⟩⟩
        · have d0 : 0 < ndg h 6 at_ := by unfold ndg; rw [if_pos c2]; omega
          obtain ⟨m2, p1, p2, p3⟩ := m_emitv g3 B (by omega) (op := 0) (arg := nvl h (ndg h 6 at_) at_ 0) 0 y rfl g2
          exact ⟨m2, by rw [p1, bsome], q2.tr p3, Or.inr ⟨_, u, _, by omega, ⟨p2, mb.2⟩, hu, rch.one (a0_dg c2 g1)⟩⟩
      · have c2 := Bool.eq_false_iff.mpr c2
        rw [c2, if_pos (by decide), m_here mb.1 B, bsome, mtV _ hl, bsome]
        by_cases c3 : lix (h at_) < 12
        · rw [decide_eq_true c3, if_neg (by decide)]
          have lt : at_ < n := hx_lt B (fun q => by rw [q] at c3; exact absurd c3 (by decide))
          obtain ⟨m1, q1, q2, q3, q4, q5, q6⟩ := m_emit mb.1 (by omega) (op := 1) (arg := lix (h at_)) 1 (nI (h at_)) rfl (by show _ = nI (if 1 = 1 then chr (lix (h at_)) else lix (h at_)); rw [if_pos rfl, chr_lix hl c3])
          obtain ⟨w', r40, r41, r42, r46, r45, r44, rs, rc, rt, rl, -⟩ := mb.1
          have w1 := q2.wf w
          have s2 : Sm Pm0 m1 (sI m1 49 40 (nI (at_ + 1))) := Sm.sI rfl
          refine ⟨_, by rw [bsome, q1, bsome, rI_49 w1, bsome, q3, upd_o (by decide), r40, nI_1, pI_49 w1, bsome], q2.tr s2, Or.inr ⟨at_ + 1, u, cm ++ [(1, lix (h at_))], by omega, ⟨⟨s2.wf w1, ?_, ?_, ?_, ?_, ?_, ?_, ?_, ?_, ?_, rl, ?_, by omega⟩, mb.2⟩, hu, rch.one (a0_le c1 c2 c3)⟩⟩
          · rw [gI_sI, upd_s]
          · rw [gI_sI, upd_o (by decide), q3, upd_o (by decide)]; exact r41
          · rw [gI_sI, upd_o (by decide), q3, upd_o (by decide)]; exact r42
          · rw [gI_sI, upd_o (by decide), q3, upd_o (by decide)]; exact r46
          · rw [gI_sI, upd_o (by decide), q3, upd_o (by decide)]; exact r45
          · rw [gI_sI, upd_o (by decide), q3, upd_s, List.length_append]; rfl
          · rw [gI_sI_ne (by decide), q4]; exact rs
          · rw [gI_sI_ne (by decide), gI_sI_ne (by decide)]; exact q6
          · intro j hj
            rw [gI_sI_ne (by decide), q5]; exact rt j hj
          · rw [List.length_append (as := cm)]; show _ + (cm.length + 1) ≤ at_ + 1; omega
        · rw [decide_eq_false c3, if_pos (by decide)]
          obtain ⟨m1, q1, q2, q3, -⟩ := m_wrongs mb.1 B 1 at_ (by decide) (by decide) (by omega) 1 (nI at_) rfl rfl
          exact ⟨m1, by rw [rI_49 w, bsome, mb.1.2.1, q1, bsome], q3, Or.inl ⟨_, q2, rch.one (a0_E c1 c2 c3)⟩⟩
theorem m_factor (B : HB h n) (hu : Lk u) (mb : MB h n at_ (u ++ st0) cm μ) : ∃ μ', f_M_factor 49 μ = some μ' ∧ Sm Pm0 μ μ' ∧ ((∃ z, ME z μ' ∧ rch h (0, at_, u ++ st0, cm) (5, z, [], [])) ∨ ∃ b u' cm', at_ < b ∧ MB h n b (u' ++ st0) cm' μ' ∧ Lk u' ∧ rch h (0, at_, u ++ st0, cm) (1, b, u' ++ st0, cm')) := by
  have b := B.1
  obtain ⟨μ', q, r⟩ := factL (st0 := st0) B n FU at_ u cm μ (by omega) (by unfold FU; omega) hu mb
  exact ⟨μ', by unfold f_M_factor; rw [kO_49 mb.1.1, bsome, q], r⟩
end
