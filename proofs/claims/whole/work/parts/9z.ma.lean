/-! LAYER 2: ways, in the reference: rows of keynotes, in the order of their finding -/
def Pmm (x k : Nat) : Bool := (decide (57 ≤ x) && decide (x ≤ 62)) || (x == 49 && k == 17)
theorem Pmm_y {x k : Nat} (h : 57 ≤ x) (h2 : x ≤ 62) : Pmm x k = true := by
  unfold Pmm; rw [decide_eq_true h, decide_eq_true h2]; rfl
theorem Pmm_n {x k : Nat} (h : x < 57 ∨ 62 < x) (h2 : ¬ x = 49) : Pmm x k = false := by
  unfold Pmm
  rw [show (x == 49) = false from beq_eq_false_iff_ne.mpr h2, Bool.false_and, Bool.or_false]
  rcases h with h | h
  · rw [decide_eq_false (by omega)]; rfl
  · rw [decide_eq_false (p := x ≤ 62) (by omega), Bool.and_false]
theorem MP.w {p : PT} {μ μ' : MM} (h : MP p μ) (s : Sm Pmm μ μ') : MP p μ' := h.sm s (fun a k h1 h2 => Pmm_n (Or.inl (by omega)) (by omega))
theorem r3x {b k : Nat} : (300 : Int32) * nI b + nI k = nI (300 * b + k) := by rw [show (300 : Int32) = nI 300 from rfl, pk_mul, nI_add]
def RM (b n : Nat) (f : Nat → Int) (μ : MM) : Prop := gI μ 57 b = nI n ∧ n ≤ 300 ∧ ∀ k, k < n → gI μ 58 (300 * b + k) = oI (dA7 (f k)) ∧ gI μ 59 (300 * b + k) = oI (dB7 (f k)) ∧ gI μ 60 (300 * b + k) = oI (dC7 (f k))
theorem RM.c {b n : Nat} {f : Nat → Int} {μ μ' : MM} (h : RM b n f μ) (h1 : gI μ' 57 b = gI μ 57 b) (h2 : ∀ k, k < 300 → gI μ' 58 (300 * b + k) = gI μ 58 (300 * b + k)) (h3 : ∀ k, k < 300 → gI μ' 59 (300 * b + k) = gI μ 59 (300 * b + k)) (h4 : ∀ k, k < 300 → gI μ' 60 (300 * b + k) = gI μ 60 (300 * b + k)) : RM b n f μ' := by
  obtain ⟨a1, a2, a3⟩ := h
  exact ⟨by rw [h1]; exact a1, a2, fun k hk => by rw [h2 k (by omega), h3 k (by omega), h4 k (by omega)]; exact a3 k hk⟩
def Pmr (b x k : Nat) : Bool := (x == 57 && k == b) || ((x == 58 || (x == 59 || x == 60)) && (decide (300 * b ≤ k) && decide (k < 300 * b + 300)))
theorem Pmr_w {b : Nat} (x k : Nat) (h : Pmm x k = false) : Pmr b x k = false := by
  have n : ¬ x = 57 ∧ ¬ x = 58 ∧ ¬ x = 59 ∧ ¬ x = 60 := by
    refine ⟨?_, ?_, ?_, ?_⟩ <;> intro e <;> rw [e, Pmm_y (by decide) (by decide)] at h <;> cases h
  obtain ⟨n1, n2, n3, n4⟩ := n
  simp [Pmr, n1, n2, n3, n4]
theorem RM.o {b c n : Nat} {f : Nat → Int} {μ μ' : MM} (h : RM c n f μ) (s : Sm (Pmr b) μ μ') (hc : ¬ c = b) : RM c n f μ' := by
  have out : ∀ x k, 58 ≤ x → k < 300 → Pmr b x (300 * c + k) = false := fun x k hx hk => by
    have n1 : ¬ x = 57 := by omega
    have : ¬ (300 * b ≤ 300 * c + k ∧ 300 * c + k < 300 * b + 300) := by omega
    unfold Pmr
    rw [show (x == 57) = false from beq_eq_false_iff_ne.mpr n1, Bool.false_and, Bool.false_or]
    rw [show (decide (300 * b ≤ 300 * c + k) && decide (300 * c + k < 300 * b + 300)) = false by
      rw [← Bool.decide_and]; exact decide_eq_false this]
    exact Bool.and_false _
  refine h.c (s.2.2 57 c ?_).1 (fun k hk => (s.2.2 58 _ (out 58 k (by omega) hk)).1) (fun k hk => (s.2.2 59 _ (out 59 k (by omega) hk)).1) (fun k hk => (s.2.2 60 _ (out 60 k (by omega) hk)).1)
  have : (c == b) = false := beq_eq_false_iff_ne.mpr hc
  simp [Pmr, this]
theorem s_placeOf {p : PT} (hp' : WP p) {b n : Nat} {f : Nat → Int} {z : Int} (hb : b < 24) {μ : MM} (hw : Wf μ) (hr : RM b n f μ) (hf : ∀ k, k < n → RR p b (f k)) (hz : RR p b z) : (∃ k, k < n ∧ f k = z ∧ f_M_placeOf 49 (nI b) (oI (dA7 z)) (oI (dB7 z)) (oI (dC7 z)) μ = some (nI k, μ)) ∨ ((∀ k, k < n → ¬ f k = z) ∧ n = 300 ∧ f_M_placeOf 49 (nI b) (oI (dA7 z)) (oI (dB7 z)) (oI (dC7 z)) μ = some (-1, μ)) ∨ ((∀ k, k < n → ¬ f k = z) ∧ n < 300 ∧ ∃ μ', f_M_placeOf 49 (nI b) (oI (dA7 z)) (oI (dB7 z)) (oI (dC7 z)) μ = some (nI n, μ') ∧ Sm (Pmr b) μ μ' ∧ RM b (n + 1) (uM f n z) μ') := by
  obtain ⟨h1, h2, h3⟩ := hr
  obtain ⟨zb1, zb2, zb3, ze, -⟩ := RR_d hp' hb hz
  have go : ∀ (d g i : Nat), i + d = n → d < g → (∀ k, k < i → ¬ f k = z) → (∃ k, k < n ∧ f k = z ∧ f_M_placeOf_L3 49 (nI b) (oI (dA7 z)) (oI (dB7 z)) (oI (dC7 z)) μ g (nI i) = some (nI k, μ)) ∨ ((∀ k, k < n → ¬ f k = z) ∧ n = 300 ∧ f_M_placeOf_L3 49 (nI b) (oI (dA7 z)) (oI (dB7 z)) (oI (dC7 z)) μ g (nI i) = some (-1, μ)) ∨ ((∀ k, k < n → ¬ f k = z) ∧ n < 300 ∧ ∃ μ', f_M_placeOf_L3 49 (nI b) (oI (dA7 z)) (oI (dB7 z)) (oI (dC7 z)) μ g (nI i) = some (nI n, μ') ∧ Sm (Pmr b) μ μ' ∧ RM b (n + 1) (uM f n z) μ') := by
    intro d
    induction d with
    | zero =>
      intro g i hi hg hn
      obtain ⟨g, rfl⟩ : ∃ z, g = z + 1 := ⟨g - 1, by omega⟩
      have : i = n := by omega
      subst this
      right
      rw [e_M_placeOf_L3, rR_49_11 hw, bsome, aI_57 hw hb, bsome, h1, if_pos (by rw [cle (by omega) (by omega)]; omega), bsome, aI_57 hw hb, bsome, h1]
      by_cases q : i = 300
      · left
        refine ⟨hn, q, ?_⟩
        rw [if_pos (by rw [q]; rfl)]
      · right
        refine ⟨hn, by omega, ?_⟩
        rw [if_neg (c := nI i = 300) (fun e => q ((nI_eq (a := i) (b := 300) (by omega) (by omega)).mp e)), bsome, aI_57 hw hb, bsome, h1, rR_49_12 hw, bsome, r3x, uI_58 hw (by omega), bsome]
        obtain ⟨m1, e1⟩ : ∃ m, m = sI μ 58 (300 * b + i) (oI (dA7 z)) := ⟨_, rfl⟩
        have hin : ∀ x, (x = 58 ∨ x = 59 ∨ x = 60) → Pmr b x (300 * b + i) = true := fun x hx => by
          unfold Pmr
          rw [decide_eq_true (show 300 * b ≤ 300 * b + i by omega), decide_eq_true (show 300 * b + i < 300 * b + 300 by omega)]
          rcases hx with e | e | e <;> rw [e] <;> rfl
        have t1 : Sm (Pmr b) μ m1 := by rw [e1]; exact Sm.sI (hin 58 (Or.inl rfl))
        have v1 := t1.wf hw
        rw [← e1, rR_49_13 v1, bsome, uI_59 v1 (by omega), bsome]
        obtain ⟨m2, e2⟩ : ∃ m, m = sI m1 59 (300 * b + i) (oI (dB7 z)) := ⟨_, rfl⟩
        have t2 : Sm (Pmr b) m1 m2 := by rw [e2]; exact Sm.sI (hin 59 (Or.inr (Or.inl rfl)))
        have v2 := t2.wf v1
        rw [← e2, rR_49_14 v2, bsome, uI_60 v2 (by omega), bsome]
        obtain ⟨m3, e3⟩ : ∃ m, m = sI m2 60 (300 * b + i) (oI (dC7 z)) := ⟨_, rfl⟩
        have t3 : Sm (Pmr b) m2 m3 := by rw [e3]; exact Sm.sI (hin 60 (Or.inr (Or.inr rfl)))
        have v3 := t3.wf v2
        have c3 : gI m3 57 b = nI i := by rw [e3, gI_sI_ne (by decide), e2, gI_sI_ne (by decide), e1, gI_sI_ne (by decide)]; exact h1
        rw [← e3, rR_49_11 v3, bsome, aI_57 v3 hb, bsome, c3, show (1 : Int32) = nI 1 from rfl, nI_add, uI_57 v3 hb, bsome]
        obtain ⟨m4, e4⟩ : ∃ m, m = sI m3 57 b (nI (i + 1)) := ⟨_, rfl⟩
        have t4 : Sm (Pmr b) m3 m4 := by rw [e4]; exact Sm.sI (by simp [Pmr])
        have v4 := t4.wf v3
        have c4 : gI m4 57 b = nI (i + 1) := by rw [e4, gI_sI, upd_s]
        rw [← e4, rR_49_11 v4, bsome, aI_57 v4 hb, bsome, c4]
        refine ⟨m4, by rw [show nI 1 = (1 : Int32) from rfl, nI_m1 (by omega), Nat.add_sub_cancel], ((t1.tr t2).tr t3).tr t4, c4, by omega, fun k hk => ?_⟩
        have g58 : gI m4 58 = upd (gI μ 58) (300 * b + i) (oI (dA7 z)) := by rw [e4, gI_sI_ne (by decide), e3, gI_sI_ne (by decide), e2, gI_sI_ne (by decide), e1, gI_sI]
        have g59 : gI m4 59 = upd (gI μ 59) (300 * b + i) (oI (dB7 z)) := by rw [e4, gI_sI_ne (by decide), e3, gI_sI_ne (by decide), e2, gI_sI, e1, gI_sI_ne (by decide)]
        have g60 : gI m4 60 = upd (gI μ 60) (300 * b + i) (oI (dC7 z)) := by rw [e4, gI_sI_ne (by decide), e3, gI_sI, e2, gI_sI_ne (by decide), e1, gI_sI_ne (by decide)]
        rw [g58, g59, g60]
        by_cases q2 : k = i
        · rw [q2, uM_s, upd_s, upd_s, upd_s]; exact ⟨rfl, rfl, rfl⟩
        · rw [uM_o q2, upd_o (by omega), upd_o (by omega), upd_o (by omega)]; exact h3 k (by omega)
    | succ d ih =>
      intro g i hi hg hn
      obtain ⟨g, rfl⟩ : ∃ z, g = z + 1 := ⟨g - 1, by omega⟩
      obtain ⟨a1, a2, a3⟩ := h3 i (by omega)
      obtain ⟨fb1, fb2, fb3, fe, -⟩ := RR_d hp' hb (hf i (by omega))
      rw [e_M_placeOf_L3, rR_49_11 hw, bsome, aI_57 hw hb, bsome, h1, if_neg (by rw [cle (by omega) (by omega)]; omega), rR_49_12 hw, bsome, r3x, aI_58 hw (by omega), bsome, a1]
      have next : ¬ f i = z → (f_M_placeOf_L3 49 (nI b) (oI (dA7 z)) (oI (dB7 z)) (oI (dC7 z)) μ g (nI i + 1) = f_M_placeOf_L3 49 (nI b) (oI (dA7 z)) (oI (dB7 z)) (oI (dC7 z)) μ g (nI (i + 1)) ∧ ∀ k, k < i + 1 → ¬ f k = z) := fun q => ⟨by rw [show (1 : Int32) = nI 1 from rfl, nI_add], fun k hk => by
        by_cases c : k = i
        · rw [c]; exact q
        · exact hn k (by omega)⟩
      by_cases q1 : dA7 (f i) = dA7 z
      · rw [if_pos (by rw [q1]), rR_49_13 hw, bsome, aI_59 hw (by omega), bsome, a2]
        by_cases q2 : dB7 (f i) = dB7 z
        · rw [if_pos (by rw [q2]), rR_49_14 hw, bsome, aI_60 hw (by omega), bsome, a3]
          by_cases q3 : dC7 (f i) = dC7 z
          · rw [if_pos (by rw [q3])]
            exact Or.inl ⟨i, by omega, by rw [fe, ze, q1, q2, q3], rfl⟩
          · rw [if_neg (by rw [oI_inj (by omega) (by omega)]; exact q3)]
            obtain ⟨n1, n2⟩ := next (fun e => q3 (by rw [e]))
            rw [n1]; exact ih g (i + 1) (by omega) (by omega) n2
        · rw [if_neg (by rw [oI_inj (by omega) (by omega)]; exact q2)]
          obtain ⟨n1, n2⟩ := next (fun e => q2 (by rw [e]))
          rw [n1]; exact ih g (i + 1) (by omega) (by omega) n2
      · rw [if_neg (by rw [oI_inj (by omega) (by omega)]; exact q1)]
        obtain ⟨n1, n2⟩ := next (fun e => q1 (by rw [e]))
        rw [n1]; exact ih g (i + 1) (by omega) (by omega) n2
  unfold f_M_placeOf
  rw [kO_49 hw, bsome, show (0 : Int32) = nI 0 from rfl]
  exact go n FU 0 (by omega) (by unfold FU; omega) (fun k hk => absurd hk (by omega))
/-- the next keynote, by a link -/
theorem s_nextOf {p : PT} (hp' : WP p) {b i k nx : Nat} {x : Nat → Int} (hb : b + 1 < 24) (hk : k < 7) (ha : al7 p (b + 1) k = true) {μ : MM} (hw : Wf μ) (hm : MP p μ) (hr : RM b nx x μ) (hi : i < nx) (hx : RR p b (x i)) : RR p (b + 1) (x i + sN7 p (b + 1) k) ∧ f_M_nextOf 49 (nI (b + 1)) (nI i) (lk7 k) μ = f_M_placeOf 49 (nI (b + 1)) (oI (dA7 (x i + sN7 p (b + 1) k))) (oI (dB7 (x i + sN7 p (b + 1) k))) (oI (dC7 (x i + sN7 p (b + 1) k))) μ := by
  obtain ⟨e1, e2, e3, e4⟩ := RR_s hp' hb hx hk ha
  obtain ⟨h1, h2, h3⟩ := hr
  obtain ⟨a1, a2, a3⟩ := h3 i hi
  have lo := lok7 hk ha
  refine ⟨e1, ?_⟩
  unfold f_M_nextOf
  rw [kO_49 hw, bsome, rR_49_12 hw, bsome, nI_m1 (by omega), Nat.add_sub_cancel, r3x, aI_58 hw (by omega), bsome, rR_49_3 hw, bsome, s_leap2 hw hm hb lo, bsome, rR_49_13 hw, bsome, aI_59 hw (by omega), bsome, rR_49_4 hw, bsome, s_leap3 hw hm hb lo, bsome, rR_49_14 hw, bsome, aI_60 hw (by omega), bsome, rR_49_5 hw, bsome, s_leap5 hw hm hb lo, bsome, a1, a2, a3, oI_add, oI_add, oI_add, e2, e3, e4]
  unfold sA7 sB7 sC7
  cases f_M_placeOf 49 (nI (b + 1)) (oI (dA7 (x i) + lvl (pa p) (lk7 k) (b + 1))) (oI (dB7 (x i) + lvl (pb p) (lk7 k) (b + 1))) (oI (dC7 (x i) + lvl (pc p) (lk7 k) (b + 1))) μ with
  | none => rfl
  | some q => rfl
theorem s_mayLink {p : PT} {μ : MM} (hw : Wf μ) (hm : MP p μ) {b k : Nat} (hk : k < 7) : f_M_mayLink 49 (nI b) (lk7 k) μ = some (bi (al7 p b k)) := by
  unfold f_M_mayLink lk7 al7
  rw [kO_49 hw, bsome]
  by_cases q : k = 0
  · rw [if_pos q, if_pos q, if_pos rfl]; rfl
  · rw [if_neg q, if_neg q, if_neg (nI_ne_m1 (by omega)), s_hpM hw hm, bsome]
    cases hp p (k - 1) b with
    | true => rw [if_neg (by decide)]; rfl
    | false => rw [if_pos (by decide)]; rfl
