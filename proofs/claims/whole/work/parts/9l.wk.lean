/-! LAYER 2: what a text gives, in the reference -/
def HSm (g g' : Nat → Int32) : List (Int32 × Bool) → Prop
  | [] => True
  | (v, f) :: s => g s.length = v ∧ g' s.length = bi f ∧ HSm g g' s
theorem HSm_u {g g' : Nat → Int32} {k : Nat} {v v' : Int32} : ∀ (s : List (Int32 × Bool)), s.length ≤ k → HSm g g' s → HSm (upd g k v) (upd g' k v') s
  | [], _, _ => trivial
  | (c, f) :: s, hk, hs => by
    have hk : s.length + 1 ≤ k := hk
    refine ⟨?_, ?_, HSm_u s (by omega) hs.2.2⟩
    · rw [upd_o (by omega)]; exact hs.1
    · rw [upd_o (by omega)]; exact hs.2.1
theorem HSm_1 {g g' : Nat → Int32} {k : Nat} {v : Int32} : ∀ (s : List (Int32 × Bool)), s.length ≤ k → HSm g g' s → HSm (upd g k v) g' s
  | [], _, _ => trivial
  | (c, f) :: s, hk, hs => by
    have hk : s.length + 1 ≤ k := hk
    refine ⟨?_, hs.2.1, HSm_1 s (by omega) hs.2.2⟩
    rw [upd_o (by omega)]; exact hs.1
def HCp (o g : Nat → Int32) (p : Nat) (r : CL) : Prop := ∀ j e, r[j]? = some e → o (p + j) = nI (mch e.1) ∧ g (p + j) = nI (mrg e)
theorem HCp_tail {o g : Nat → Int32} {p : Nat} {e : Nat × Nat} {r : CL} (h : HCp o g p (e :: r)) : HCp o g (p + 1) r := fun j y hy => by
  have := h (j + 1) y hy
  rw [show p + 1 + j = p + (j + 1) by omega]; exact this
theorem mch_le : ∀ op, op < 13 → ((nI (mch op) ≤ (2 : Int32)) ↔ (op = 0 ∨ op = 1 ∨ op = 10)) ∧ ((nI (mch op) = (2 : Int32)) ↔ op = 10) ∧ (nI (mch op) = 0 ↔ op = 0) ∧ (nI (mch op) = (38 : Int32) ↔ op = 11) ∧ (nI (mch op) = (124 : Int32) ↔ op = 12) ∧ (nI (mch op) = (47 : Int32) ↔ op = 5) ∧ (nI (mch op) = (37 : Int32) ↔ op = 6) := by decide +kernel
theorem Pwk_7 {k : Nat} : Pwk 87 k = true := rfl
theorem Pwk_8 {k : Nat} : Pwk 88 k = true := rfl
theorem s_does {μ : MM} (w : Wf μ) {op : Nat} (h1 : 2 ≤ op) (h2 : op < 13) (h3 : ¬ op = 10) {l : Nat} (hl : l + 1 < 240) {v v' : Int32} {f g : Bool} (b1 : gI μ 87 l = v') (b2 : gI μ 88 l = bi g) (b3 : gI μ 87 (l + 1) = v) (b4 : gI μ 88 (l + 1) = bi f) : ∃ μ', f_M_does 49 (nI (mch op)) (nI l) μ = some μ' ∧ Sm Pwk μ μ' ∧ (∀ j, j < l → gI μ' 87 j = gI μ 87 j ∧ gI μ' 88 j = gI μ 88 j) ∧ (gI μ' 87 l, gI μ' 88 l) = (if op = 11 ∨ op = 12 then (if g = true ∨ ¬ v' = (if op = 11 then 1 else 0) then (v', bi g) else (v, bi f)) else (wrk op v' v, bi (g || (f || dv0 op v)))) := by
  obtain ⟨-, -, -, i11, i12, i5, i6⟩ := mch_le op h2
  unfold f_M_does
  rw [kO_49 w, bsome]
  by_cases c : op = 11 ∨ op = 12
  · rw [if_pos c]
    have fold : ∀ (X : Option MM), (if nI (mch op) = (38 : Int32) then f_M_does_J16 49 (nI (mch op)) (nI l) (nI l + (1 : Int32)) μ else if nI (mch op) = (124 : Int32) then f_M_does_J16 49 (nI (mch op)) (nI l) (nI l + (1 : Int32)) μ else X) = f_M_does_J16 49 (nI (mch op)) (nI l) (nI l + (1 : Int32)) μ := fun X => by
      rcases c with e | e
      · rw [if_pos (i11.mpr e)]
      · rw [if_neg (fun q => by have := i11.mp q; omega), if_pos (i12.mpr e)]
    rw [fold]
    unfold f_M_does_J16
    rw [rR_49_63 w, bsome, aB_88 w (by omega), bsome, b2]
    cases g with
    | true =>
      refine ⟨μ, by rw [if_neg (by decide)], Sm.rf, fun j _ => ⟨rfl, rfl⟩, ?_⟩
      rw [if_pos (Or.inl rfl), b1, b2]
    | false =>
      have j42 : (if nI (mch op) = (38 : Int32) then f_M_does_J42 49 (nI l) (nI l + (1 : Int32)) v' (1 : Int32) μ else f_M_does_J42 49 (nI l) (nI l + (1 : Int32)) v' (0 : Int32) μ) = f_M_does_J42 49 (nI l) (nI l + (1 : Int32)) v' (if op = 11 then 1 else 0) μ := by
        by_cases e : op = 11
        · rw [if_pos (i11.mpr e), if_pos e]
        · rw [if_neg (fun q => e (i11.mp q)), if_neg e]
      rw [if_pos (by decide), rR_49_62 w, bsome, aI_87 w (by omega), bsome, b1, j42]
      unfold f_M_does_J42
      by_cases e : v' = (if op = 11 then 1 else 0)
      · have s1 : Sm Pwk μ (sI μ 87 l v) := Sm.sI Pwk_7
        have s2 : Sm Pwk μ (sI (sI μ 87 l v) 88 l (bi f)) := s1.tr (Sm.sI Pwk_8)
        refine ⟨_, ?_, s2, fun j hj => ?_, ?_⟩
        · rw [if_pos e, rR_49_62 w, bsome, bsome, nI_1, aI_87 w (by omega), bsome, b3, uI_87 w (by omega), bsome, rR_49_63 (s1.wf w), bsome, bsome, aB_88 (s1.wf w) (by omega), bsome, gI_sI_ne (by decide), b4, uB_88 (s1.wf w) (by omega) (bi_01 f), bsome]
        · rw [gI_sI_ne (by decide), gI_sI, gI_sI, upd_o (by omega), upd_o (by omega), gI_sI_ne (by decide)]
          exact ⟨rfl, rfl⟩
        · rw [gI_sI_ne (by decide), gI_sI, gI_sI, upd_s, upd_s, if_neg]
          intro q
          rcases q with q | q
          · cases q
          · exact q e
      · refine ⟨μ, by rw [if_neg e], Sm.rf, fun j _ => ⟨rfl, rfl⟩, ?_⟩
        rw [if_pos (Or.inr e), b1, b2]
  · rw [if_neg c, if_neg (fun q => c (Or.inl (i11.mp q))), if_neg (fun q => c (Or.inr (i12.mp q)))]
    have h9 : op ≤ 9 := by omega
    have s1 : Sm Pwk μ (sI μ 88 l (bi (g || (f || dv0 op v)))) := Sm.sI Pwk_8
    have s2 : Sm Pwk μ (sI (sI μ 88 l (bi (g || (f || dv0 op v)))) 87 l (wrk op v' v)) := s1.tr (Sm.sI Pwk_7)
    have j120 : ∀ x, x = bi (g || (f || dv0 op v)) → f_M_does_J120 49 (nI (mch op)) (nI l) (nI l + (1 : Int32)) 88 (nI l) x μ = some (sI (sI μ 88 l (bi (g || (f || dv0 op v)))) 87 l (wrk op v' v)) := fun x hx => by
      subst hx
      unfold f_M_does_J120
      rw [uB_88 w (by omega) (bi_01 _), bsome, rR_49_62 (s1.wf w), bsome, bsome, aI_87 (s1.wf w) (by omega), bsome, bsome, nI_1, aI_87 (s1.wf w) (by omega), bsome, gI_sI_ne (by decide), b1, b3, s_worked h1 h9, bsome, uI_87 (s1.wf w) (by omega), bsome]
    refine ⟨_, ?_, s2, fun j hj => ?_, ?_⟩
    · rw [rR_49_63 w, bsome, bsome, aB_88 w (by omega), bsome, b2]
      cases g with
      | true =>
        rw [if_neg (by decide)]
        unfold f_M_does_J115
        exact j120 1 rfl
      | false =>
        rw [if_pos (by decide), bsome, nI_1, aB_88 w (by omega), bsome, b4, ← nI_1]
        cases f with
        | true =>
          rw [if_neg (by decide)]
          unfold f_M_does_J115
          exact j120 1 rfl
        | false =>
          rw [if_pos (by decide)]
          unfold f_M_does_J106 f_M_does_J115 f_M_does_J119
          have dv : dv0 op v = decide ((op = 5 ∨ op = 6) ∧ v = 0) := rfl
          by_cases e5 : op = 5 ∨ op = 6
          · have fold : ∀ (X Y : Option MM), (if nI (mch op) = (47 : Int32) then X else if nI (mch op) = (37 : Int32) then X else Y) = X := fun X Y => by
              rcases e5 with e | e
              · rw [if_pos (i5.mpr e)]
              · rw [if_neg (fun q => by have := i5.mp q; omega), if_pos (i6.mpr e)]
            rw [fold, rR_49_62 w, bsome, nI_1, aI_87 w (by omega), bsome, b3, ← nI_1]
            by_cases e : v = 0
            · rw [if_pos e]
              exact j120 1 (by rw [dv, decide_eq_true ⟨e5, e⟩]; rfl)
            · rw [if_neg e]
              exact j120 0 (by rw [dv, decide_eq_false (fun q => e q.2)]; rfl)
          · rw [if_neg (fun q => e5 (Or.inl (i5.mp q))), if_neg (fun q => e5 (Or.inr (i6.mp q)))]
            exact j120 0 (by rw [dv, decide_eq_false (fun q => e5 q.1)]; rfl)
    · rw [gI_sI, gI_sI_ne (by decide), gI_sI_ne (by decide), gI_sI, upd_o (by omega), upd_o (by omega)]
      exact ⟨rfl, rfl⟩
    · rw [gI_sI, gI_sI_ne (by decide), gI_sI_ne (by decide), gI_sI, upd_s, upd_s]
theorem HSm_c {g g' k k' : Nat → Int32} : ∀ (s : List (Int32 × Bool)), (∀ j, j < s.length → k j = g j ∧ k' j = g' j) → HSm g g' s → HSm k k' s
  | [], _, _ => trivial
  | (c, f) :: s, h, hs => by
    obtain ⟨a, b⟩ := h s.length (Nat.lt_succ_self _)
    exact ⟨by rw [a]; exact hs.1, by rw [b]; exact hs.2.1, HSm_c s (fun j hj => h j (Nat.lt_succ_of_lt hj)) hs.2.2⟩
theorem wk_go {to : Nat} (ht : to ≤ 200) {L : Nat → Int32} {μ0 : MM} (w0 : Wf μ0) (hL : ∀ k, k < 12 → ∀ μ2, Sm Pwk μ0 μ2 → f_M_valueOf 49 (nI (chr k)) μ2 = some (L k)) : ∀ (r : CL) (p n : Nat) (sm : List (Int32 × Bool)) (sm' : List (Int32 × Bool)) (μ : MM), r.length < n → p + r.length = to → Sm Pwk μ0 μ → HCp (gI μ0 72) (gI μ0 73) p r → Vl r → HSm (gI μ 87) (gI μ 88) sm → sm.length + r.length ≤ 240 → rml L r sm = some sm' → ∃ μ', f_M_works_L5 49 (nI to) n (nI sm.length) (nI p) μ = some μ' ∧ Sm Pwk μ0 μ' ∧ HSm (gI μ' 87) (gI μ' 88) sm' := by
  intro r
  induction r with
  | nil =>
    intro p n sm sm' μ hn hp s hc hv hs hl hr
    obtain ⟨n, rfl⟩ : ∃ j, n = j + 1 := ⟨n - 1, by omega⟩
    have hp : p + 0 = to := hp
    cases hr
    exact ⟨μ, by rw [e_M_works_L5, if_pos (by rw [cle (by omega) (by omega)]; omega)], s, hs⟩
  | cons e r ih =>
    intro p n sm sm' μ hn hp s hc hv hs hl hr
    obtain ⟨n, rfl⟩ : ∃ j, n = j + 1 := ⟨n - 1, by omega⟩
    obtain ⟨op, arg⟩ := e
    have hn : r.length + 1 < n + 1 := hn
    have hp : p + (r.length + 1) = to := hp
    have hl : sm.length + (r.length + 1) ≤ 240 := hl
    have w := s.wf w0
    obtain ⟨o1, o2⟩ := hc 0 (op, arg) rfl
    have o1 : gI μ0 72 p = nI (mch op) := o1
    have o2 : gI μ0 73 p = nI (mrg (op, arg)) := o2
    obtain ⟨v1, v2, v3⟩ := hv (op, arg) (List.mem_cons_self ..)
    have v1 : op < 13 := v1
    have v3 : op = 1 → arg < 12 := v3
    have hct := HCp_tail hc
    have hvt := Vl_tail hv
    obtain ⟨i2, i10, i0, -⟩ := mch_le op v1
    have g72 : gI μ 72 p = nI (mch op) := by rw [s.gI 72 (fun _ => rfl)]; exact o1
    have g73 : gI μ 73 p = nI (mrg (op, arg)) := by rw [s.gI 73 (fun _ => rfl)]; exact o2
    rw [e_M_works_L5, if_neg (by rw [cle (by omega) (by omega)]; omega), rR_49_32 w, bsome, aI_72 w (by omega), bsome, g72]
    by_cases c : op = 0 ∨ op = 1 ∨ op = 10
    · rw [if_pos (i2.mpr c), bsome, aI_72 w (by omega), bsome, g72]
      by_cases c10 : op = 10
      · subst c10
        rw [if_pos (by decide)]
        match sm, hs, hl, hr with
        | [], _, _, hr => cases hr
        | (v, f) :: sm, hs, hl, hr =>
          have hl : sm.length + 1 + (r.length + 1) ≤ 240 := hl
          have s1 : Sm Pwk μ0 (sI μ 87 sm.length (1 - v)) := s.tr (Sm.sI Pwk_7)
          obtain ⟨μ', q1, q2, q3⟩ := ih (p + 1) n ((1 - v, f) :: sm) sm' _ (by omega) (by omega) s1 hct hvt ⟨by rw [gI_sI, upd_s], by rw [gI_sI_ne (by decide)]; exact hs.2.1, by rw [gI_sI, gI_sI_ne (by decide)]; exact HSm_1 sm (Nat.le_refl _) hs.2.2⟩ (by show sm.length + 1 + r.length ≤ 240; omega) hr
          refine ⟨μ', ?_, q2, q3⟩
          rw [rR_49_62 w, bsome, bsome]
          show (aI μ 87 (nI (sm.length + 1) - 1)).bind _ = _
          rw [nI_pred', aI_87 w (by omega), bsome, hs.1]
          show (uI μ 87 (nI (sm.length + 1) - 1) (1 - v)).bind _ = _
          rw [nI_pred', uI_87 w (by omega), bsome, nI_1]
          exact q1
      · have c01 : op = 0 ∨ op = 1 := by omega
        rw [if_neg (fun q => c10 (i10.mp q)), rR_49_63 w, bsome, uB_88 w (by omega) (Or.inl rfl), bsome]
        have s1 : Sm Pwk μ (sI μ 88 sm.length 0) := Sm.sI Pwk_8
        have w1 := s1.wf w
        rw [rml_pu L c01] at hr
        have fin : ∀ x, x = (if op = 0 then nI arg else L arg) → ∃ μ', f_M_works_J117 (f_M_works_L5 49 (nI to) n) 49 (nI to) (nI sm.length) (nI p) 87 (nI sm.length) x (sI μ 88 sm.length 0) = some μ' ∧ Sm Pwk μ0 μ' ∧ HSm (gI μ' 87) (gI μ' 88) sm' := fun x hx => by
          have s2 : Sm Pwk μ0 (sI (sI μ 88 sm.length 0) 87 sm.length x) := s.tr (s1.tr (Sm.sI Pwk_7))
          obtain ⟨μ', q1, q2, q3⟩ := ih (p + 1) n (((if op = 0 then nI arg else L arg), false) :: sm) sm' _ (by omega) (by omega) s2 hct hvt ⟨by rw [gI_sI, upd_s, hx], by rw [gI_sI_ne (by decide), gI_sI, upd_s]; rfl, by rw [gI_sI, gI_sI_ne (by decide), gI_sI_ne (by decide), gI_sI]; exact HSm_u sm (Nat.le_refl _) hs⟩ (by show sm.length + 1 + r.length ≤ 240; omega) hr
          refine ⟨μ', ?_, q2, q3⟩
          unfold f_M_works_J117
          rw [uI_87 w1 (by omega), bsome, nI_1, nI_1]
          exact q1
        rw [rR_49_62 w1, bsome, rR_49_32 w1, bsome, aI_72 w1 (by omega), bsome, gI_sI_ne (by decide), g72]
        rcases c01 with e | e
        · rw [if_pos (i0.mpr e), rR_49_33 w1, bsome, aI_73 w1 (by omega), bsome, gI_sI_ne (by decide), g73]
          exact fin _ (by rw [if_pos e]; unfold mrg; rw [if_neg (by omega)])
        · have ha := v3 e
          have hm : mrg (op, arg) = chr arg := if_pos e
          rw [if_neg (fun q => by have := i0.mp q; omega), rR_49_33 w1, bsome, aI_73 w1 (by omega), bsome, gI_sI_ne (by decide), g73, hm, hL arg ha _ (s.tr s1), bsome]
          exact fin _ (by rw [if_neg (by omega)])
    · rw [if_neg (fun q => c (i2.mp q)), bsome, aI_72 w (by omega), bsome, g72]
      match sm, hs, hl, hr with
      | [], _, _, hr =>
        have : rml L ((op, arg) :: r) [] = none := by
          show (if op = 0 ∨ op = 1 then _ else _) = _
          rw [if_neg (by omega)]
        rw [this] at hr; cases hr
      | [(v, f)], _, _, hr =>
        have : rml L ((op, arg) :: r) [(v, f)] = none := by
          show (if op = 0 ∨ op = 1 then _ else if op = 10 then _ else _) = _
          rw [if_neg (by omega), if_neg (by omega)]
        rw [this] at hr; cases hr
      | (v, f) :: (v', g) :: sm, hs, hl, hr =>
        have hl : sm.length + 1 + 1 + (r.length + 1) ≤ 240 := hl
        rw [rml_bi L (by omega) (by omega)] at hr
        obtain ⟨m1, q1, q2, q3, q4⟩ := s_does w (op := op) (by omega) v1 (by omega) (l := sm.length) (by omega) hs.2.2.1 hs.2.2.2.1 hs.1 hs.2.1
        have q4 : (gI m1 87 sm.length, gI m1 88 sm.length) = _ := q4
        obtain ⟨x, hx⟩ : ∃ x, x = (if op = 11 ∨ op = 12 then (if g = true ∨ ¬ v' = (if op = 11 then 1 else 0) then (v', g) else (v, f)) else (wrk op v' v, g || (f || dv0 op v))) := ⟨_, rfl⟩
        have hxe : (gI m1 87 sm.length, gI m1 88 sm.length) = (x.1, bi x.2) := by
          rw [q4, hx]
          by_cases c1 : op = 11 ∨ op = 12
          · rw [if_pos c1, if_pos c1]
            by_cases c2 : g = true ∨ ¬ v' = (if op = 11 then 1 else 0)
            · rw [if_pos c2, if_pos c2]
            · rw [if_neg c2, if_neg c2]
          · rw [if_neg c1, if_neg c1]
        rw [← hx] at hr
        obtain ⟨xv, xf⟩ := x
        have e1 : gI m1 87 sm.length = xv := (Prod.mk.inj hxe).1
        have e2 : gI m1 88 sm.length = bi xf := (Prod.mk.inj hxe).2
        obtain ⟨μ', p1, p2, p3⟩ := ih (p + 1) n ((xv, xf) :: sm) sm' m1 (by omega) (by omega) (s.tr q2) hct hvt ⟨e1, e2, HSm_c sm q3 hs.2.2.2.2⟩ (by show sm.length + 1 + r.length ≤ 240; omega) hr
        refine ⟨μ', ?_, p2, p3⟩
        show (f_M_does 49 (nI (mch op)) ((nI (sm.length + 1 + 1) + (-1 : Int32)) - 1) μ).bind _ = _
        rw [nI_dec, nI_pred', q1, bsome]
        show f_M_works_L5 49 (nI to) n (nI (sm.length + 1 + 1) + (-1 : Int32)) (nI p + 1) m1 = _
        rw [nI_dec, nI_1]
        exact p1
theorem s_works {k : Nat} {L : Nat → Int32} {xs ms : CL} {cb : Bool} (ht : k + ms.length ≤ 200) {μ : MM} (w : Wf μ) (hL : ∀ k, k < 12 → ∀ μ2, Sm Pwk μ μ2 → f_M_valueOf 49 (nI (chr k)) μ2 = some (L k)) (hc : HCp (gI μ 72) (gI μ 73) k ms) (hv : Vl ms) (g : Gd cb xs ms 64) : ∃ μ', f_M_works 49 (nI k) (nI (k + ms.length)) μ = some μ' ∧ Sm Pwk μ μ' ∧ gI μ' 88 0 = bi (dX L xs).isNone ∧ ∀ v, dX L xs = some v → gI μ' 87 0 = v := by
  obtain ⟨v, e1, e2⟩ := g.dx.2.1 L []
  obtain ⟨μ', q1, q2, q3⟩ := wk_go ht w hL ms k FU [] _ μ (by unfold FU; omega) rfl Sm.rf hc hv trivial (by show 0 + ms.length ≤ 240; omega) e1
  refine ⟨μ', ?_, q2, q3.2.1, fun x hx => by rw [← e2 x hx]; exact q3.1⟩
  unfold f_M_works
  rw [kO_49 w, bsome]
  exact q1
theorem wch_inj : ∀ a b, a < 5 → b < 5 → (nI (wch a) = nI (wch b) ↔ a = b) := by
  have : ∀ a, a < 5 → ∀ b, b < 5 → (nI (wch a) = nI (wch b) ↔ a = b) := by decide +kernel
  exact fun a b ha hb => this a ha b hb
theorem HC_at {t : Nat → CLT} {o g : Nat → Int32} : ∀ (c : Nat), HC o g (cmx t c) → ∀ j, j < c → HCp o g (posM t j) (tMe (t j)) ∧ HCp o g (posM t j + (tMe (t j)).length) (tMc (t j))
  | 0, _, j, hj => absurd hj (by omega)
  | c + 1, h, j, hj => by
    have h : HC o g (cmx t c ++ tMe (t c) ++ tMc (t c)) := h
    rcases Nat.lt_or_ge j c with z | z
    · refine HC_at c (fun i e he => h i e ?_) j z
      have := (List.getElem?_eq_some_iff.mp he).1
      rw [List.append_assoc, List.getElem?_append_left this]; exact he
    · have : j = c := by omega
      subst this
      refine ⟨fun i e he => ?_, fun i e he => ?_⟩
      · have hi := (List.getElem?_eq_some_iff.mp he).1
        refine h (posM t j + i) e ?_
        rw [List.append_assoc, List.getElem?_append_right (by rw [cmx_len]; omega), cmx_len, Nat.add_sub_cancel_left, List.getElem?_append_left hi]; exact he
      · refine h (posM t j + (tMe (t j)).length + i) e ?_
        have l1 : (cmx t j ++ tMe (t j)).length = posM t j + (tMe (t j)).length := by rw [List.length_append, cmx_len]
        rw [List.getElem?_append_right (by rw [l1]; omega), l1, Nat.add_sub_cancel_left]; exact he
theorem posM_m (t : Nat → CLT) {i : Nat} : ∀ (j : Nat), i ≤ j → posM t i ≤ posM t j
  | 0, h => by have : i = 0 := by omega
               subst this; exact Nat.le_refl _
  | j + 1, h => by
    rcases Nat.lt_or_ge j i with z | z
    · have : i = j + 1 := by omega
      subst this; exact Nat.le_refl _
    · have := posM_m t j z
      show posM t i ≤ posM t j + _ + _
      omega
theorem s_tells {c : Nat} {t : Nat → CLT} {L : Nat → Int32} {μ : MM} (w0 : Wf μ) (hx : MTX t c μ) (c14 : c ≤ 14) (cg : ∀ j, j < c → CLg (t j)) (hL : ∀ k, k < 12 → ∀ μ2, Sm Pwk μ μ2 → f_M_valueOf 49 (nI (chr k)) μ2 = some (L k)) {w : Nat} (hw : w < 5) : ∃ μ2, f_M_tells 49 (nI (wch w)) (oI (wlo w)) (oI (whi w)) μ = some (oI (twt t c L w), μ2) ∧ Sm Pwk μ μ2 := by
  obtain ⟨x1, x2, x3, x4⟩ := hx
  have wb := wlo_b w
  have go : ∀ (d k n : Nat) (m : MM), k + d = c → d < n → Sm Pwk μ m → twf t L w k = none → ∃ μ2, f_M_tells_L3 49 (nI (wch w)) (oI (wlo w)) (oI (whi w)) n (nI k) m = some (oI (twt t c L w), μ2) ∧ Sm Pwk μ μ2 := by
    intro d
    induction d with
    | zero =>
      intro k n m hk hn s tn
      obtain ⟨n, rfl⟩ : ∃ j, n = j + 1 := ⟨n - 1, by omega⟩
      have wm := s.wf w0
      have : k = c := by omega
      subst this
      refine ⟨m, ?_, s⟩
      rw [e_M_tells_L3, rI_49 wm, bsome, s.gI 49 (fun _ => rfl), x1, if_pos (by rw [cle (by omega) (by omega)]; omega)]
      unfold twt
      rw [tn]; rfl
    | succ d ih =>
      intro k n m hk hn s tn
      obtain ⟨n, rfl⟩ : ∃ j, n = j + 1 := ⟨n - 1, by omega⟩
      have wm := s.wf w0
      obtain ⟨y1, y2, y3, y4⟩ := x3 k (by omega)
      obtain ⟨cw, ce, cc, -, ve, -, vc⟩ := cg k (by omega)
      obtain ⟨h1, h2⟩ := HC_at c x4 k (by omega)
      have lj : posM t (k + 1) = posM t k + (tMe (t k)).length + (tMc (t k)).length := rfl
      have le : posM t (k + 1) ≤ posM t c := posM_m t c (by omega)
      have next : ∀ m', Sm Pwk μ m' → ¬ (tW (t k) = w ∧ dX L (tXc (t k)) = some 1) → ∃ μ2, f_M_tells_L3 49 (nI (wch w)) (oI (wlo w)) (oI (whi w)) n (nI k + (1 : Int32)) m' = some (oI (twt t c L w), μ2) ∧ Sm Pwk μ μ2 := fun m' s' h => by
        obtain ⟨m2, q1, q2⟩ := ih (k + 1) n m' (by omega) (by omega) s' (by rw [twf_o h]; exact tn)
        exact ⟨m2, by rw [nI_1, q1], q2⟩
      rw [e_M_tells_L3, rI_49 wm, bsome, s.gI 49 (fun _ => rfl), x1, if_neg (by rw [cle (by omega) (by omega)]; omega), rR_49_28 wm, bsome, aI_68 wm (by omega), bsome, s.gI 68 (fun _ => rfl), y1]
      by_cases e : tW (t k) = w
      · rw [if_pos ((wch_inj _ _ cw hw).mpr e), rR_49_30 wm, bsome, aI_70 wm (by omega), bsome, s.gI 70 (fun _ => rfl), y3, rR_49_31 wm, bsome, aI_71 wm (by omega), bsome, s.gI 71 (fun _ => rfl), y4, lj]
        obtain ⟨m1, r1, r2, r3, r4⟩ := s_works (k := posM t k + (tMe (t k)).length) (L := L) (xs := tXc (t k)) (ms := tMc (t k)) (by omega) wm (fun j hj m2 s2 => hL j hj m2 (s.tr s2)) (by rw [s.gI 72 (fun _ => rfl), s.gI 73 (fun _ => rfl)]; exact h2) vc cc
        have s1 := s.tr r2
        have w1 := r2.wf wm
        rw [r1, bsome, rR_49_63 w1, bsome, show (0 : Int32) = nI 0 from rfl, aB_88 w1 (by decide), bsome, r3]
        cases e1 : dX L (tXc (t k)) with
        | none =>
          rw [if_neg (show ¬ bi (none : Option Int32).isNone = nI 0 by show ¬ (1 : Int32) = 0; decide)]
          exact next m1 s1 (by rw [e1]; intro q; cases q.2)
        | some v =>
          rw [if_pos (show bi (some v).isNone = nI 0 from rfl), rR_49_62 w1, bsome, aI_87 w1 (by decide), bsome, r4 v e1]
          have v01 := cc.dx.2.2 rfl L v e1
          rcases v01 with v0 | v1
          · rw [if_neg (by rw [v0]; decide)]
            exact next m1 s1 (by rw [e1, v0]; intro q; cases q.2)
          · subst v1
            have tn1 := twf_n tn ⟨e, e1⟩
            have fin : twt t c L w = clp w (dX L (tXe (t k))) := by
              have up' : ∀ i, twf t L w (k + 1 + i) = some (clp w (dX L (tXe (t k)))) := fun i => by
                induction i with
                | zero => exact tn1
                | succ i ih2 => exact (twf_h (by show (twf t L w (k + 1 + i)).isSome = true; rw [ih2]; rfl)).trans ih2
              have := up' (c - (k + 1))
              rw [show k + 1 + (c - (k + 1)) = c by omega] at this
              unfold twt
              rw [this]; rfl
            rw [if_pos rfl, rR_49_29 w1, bsome, aI_69 w1 (by omega), bsome, s1.gI 69 (fun _ => rfl), y2, rR_49_30 w1, bsome, aI_70 w1 (by omega), bsome, s1.gI 70 (fun _ => rfl), y3]
            obtain ⟨m2, u1, u2, u3, u4⟩ := s_works (k := posM t k) (L := L) (xs := tXe (t k)) (ms := tMe (t k)) (by omega) w1 (fun j hj m2 s2 => hL j hj m2 (s1.tr s2)) (by rw [s1.gI 72 (fun _ => rfl), s1.gI 73 (fun _ => rfl)]; exact h1) ve ce
            have w2 := u2.wf w1
            rw [u1, bsome, rR_49_63 w2, bsome, aB_88 w2 (by decide), bsome, u3]
            cases e2 : dX L (tXe (t k)) with
            | none =>
              rw [e2] at fin
              refine ⟨m2, ?_, s1.tr u2⟩
              rw [if_neg (show ¬ bi (none : Option Int32).isNone = nI 0 by show ¬ (1 : Int32) = 0; decide), fin]
              unfold f_M_tells_J103
              rw [if_pos (show oI (wlo w) ≤ nI 0 by rw [toInt_le, oI_toInt (by omega) (by omega), nI_toInt (by decide)]; omega), if_pos (show nI 0 ≤ oI (whi w) by rw [toInt_le, oI_toInt (by omega) (by omega), nI_toInt (by decide)]; omega)]
              rfl
            | some x =>
              rw [e2] at fin
              refine ⟨m2, ?_, s1.tr u2⟩
              rw [if_pos (show bi (some x).isNone = nI 0 from rfl), rR_49_62 w2, bsome, aI_87 w2 (by decide), bsome, u4 x e2, fin]
              have wc := within_c (wlo w) (whi w) (by omega) (by omega) x
              unfold f_Pr_within_J26 at wc
              unfold f_M_tells_J103
              by_cases a1 : oI (wlo w) ≤ x
              · rw [if_pos a1] at wc ⊢
                by_cases a2 : x ≤ oI (whi w)
                · rw [if_pos a2] at wc ⊢
                  exact congrArg (fun z => some (z, m2)) (Option.some.inj wc)
                · rw [if_neg a2] at wc ⊢
                  exact congrArg (fun z => some (z, m2)) (Option.some.inj wc)
              · rw [if_neg a1] at wc ⊢
                exact congrArg (fun z => some (z, m2)) (Option.some.inj wc)
      · rw [if_neg (fun q => e ((wch_inj _ _ cw hw).mp q))]
        exact next m s (fun q => e q.1)
  obtain ⟨μ2, q1, q2⟩ := go c 0 FU μ (by omega) (by unfold FU; omega) Sm.rf rfl
  refine ⟨μ2, ?_, q2⟩
  unfold f_M_tells
  rw [kO_49 w0, bsome]
  exact q1
/-- both programs hold this text -/
def TXT (t : Nat → CLT) (c : Nat) (μ : MM) : Prop := (∃ a, isPr a ∧ gR μ 9 8 = some a ∧ XTa a t c μ) ∧ MTX t c μ
theorem TXT.ts {t : Nat → CLT} {c : Nat} {μ μ' : MM} (h : TXT t c μ) (s : TS μ μ') : TXT t c μ' := by
  obtain ⟨⟨a, pr, h1, h2⟩, h3⟩ := h
  obtain ⟨s1, s2, s3, s4⟩ := s
  have tc : tcl a = true ∧ tcl (a + 1) = true ∧ tcl (a + 2) = true ∧ tcl (a + 4) = true ∧ tcl (a + 5) = true ∧ tcl (a + 6) = true := by
    rcases pr with rfl | rfl <;> decide
  refine ⟨⟨a, pr, s2.trans h1, ?_⟩, ?_⟩
  · unfold XTa
    rw [s3 a tc.1, s3 (a + 1) tc.2.1, s3 (a + 2) tc.2.2.1, s3 (a + 4) tc.2.2.2.1, s3 (a + 5) tc.2.2.2.2.1, s3 (a + 6) tc.2.2.2.2.2]
    exact h2
  · unfold MTX
    rw [s4, s3 68 rfl, s3 69 rfl, s3 70 rfl, s3 71 rfl, s3 72 rfl, s3 73 rfl]
    exact h3
theorem TXT.xs {t : Nat → CLT} {c : Nat} {μ : MM} (h : TXT t c μ) : TXs (twt t c) μ := by
  obtain ⟨a, pr, h1, -⟩ := h.1
  refine ⟨fun L w _ => twt_b t c L w, a, h1, fun μ' w s => ?_⟩
  have h' := h.ts s
  obtain ⟨⟨a', pr', h1', h2'⟩, h3'⟩ := h'
  have : a' = a := by
    have := h1'.symm.trans (s.2.1.trans h1)
    exact Option.some.inj this
  subst this
  exact ⟨fun L hL => s_weigh pr w h2' hL, fun L hL w' hw' => s_tells w h3' h2'.2.2.2.1 (fun j hj => (h2'.2.2.2.2 j hj).1) hL hw'⟩
