/-! LAYER 2: note and silent -/
def XB (p : PT) (μ : MM) : Prop := ∀ v, v < 6 → ∃ m : Nat, m < 2 ^ 24 ∧ gI μ 5 v = nI m ∧ ∀ b, b < 24 → m.testBit b = pbr p v b
def XP (p : PT) (μ : MM) : Prop := XC p μ ∧ XB p μ ∧ ∀ b, b < 24 → XT p μ b
def MP (p : PT) (μ : MM) : Prop := gI μ 51 = pkey p ∧ gI μ 56 = pln p ∧ (∀ c, c < 144 → ¬ pkey p c = -1 → gI μ 52 c = oI (pa p c) ∧ gI μ 53 c = oI (pb p c) ∧ gI μ 54 c = oI (pc p c)) ∧ ∀ v, v < 6 → ∀ b, b < 24 → gI μ 55 (24 * v + b) = bi (pbr p v b)
theorem XP.sm {P : Nat → Nat → Bool} {p : PT} {μ μ' : MM} (h : XP p μ) (s : Sm P μ μ') (hP : ∀ a k, 2 ≤ a → a ≤ 8 → P a k = false) : XP p μ' := by
  unfold XP XB XT
  rw [s.gI 5 (fun k => hP _ _ (by decide) (by decide)), s.gI 7 (fun k => hP _ _ (by decide) (by decide)), s.gI 8 (fun k => hP _ _ (by decide) (by decide))]
  exact ⟨h.1.sm s (fun k => hP _ _ (by decide) (by decide)) (fun k => hP _ _ (by decide) (by decide)) (fun k => hP _ _ (by decide) (by decide)) (fun k => hP _ _ (by decide) (by decide)), h.2⟩
theorem MP.sm {P : Nat → Nat → Bool} {p : PT} {μ μ' : MM} (h : MP p μ) (s : Sm P μ μ') (hP : ∀ a k, 51 ≤ a → a ≤ 56 → P a k = false) : MP p μ' := by
  unfold MP
  rw [s.gI 51 (fun k => hP _ _ (by decide) (by decide)), s.gI 52 (fun k => hP _ _ (by decide) (by decide)), s.gI 53 (fun k => hP _ _ (by decide) (by decide)), s.gI 54 (fun k => hP _ _ (by decide) (by decide)), s.gI 55 (fun k => hP _ _ (by decide) (by decide)), s.gI 56 (fun k => hP _ _ (by decide) (by decide))]
  exact h
theorem snd_nI {key : Nat → Int32} {v k : Nat} (hv : v < 6) (hk : k < 24) : snd key (nI v) (nI k) = decide (¬ key (24 * v + k) = -1) := by
  unfold snd
  rw [inR_nI hv (by decide), inR_nI hk (by decide), cel_nI (by omega) (by omega)]; rfl
theorem hld_nI {key : Nat → Int32} {v k : Nat} (hv : v < 6) (hk : k < 24) : hld key (nI v) (nI k) = (decide (0 < k) && (decide (¬ key (24 * v + k) = -1) && (decide (¬ key (24 * v + (k - 1)) = -1) && decide (key (24 * v + k) = key (24 * v + (k - 1)))))) := by
  rcases Nat.eq_zero_or_pos k with h | h
  · subst h
    cases e : hld key (nI v) (nI 0) with
    | false => rfl
    | true => exact absurd (hld_c hv hk e).1 (by decide)
  · unfold hld
    rw [nI_m1 h, snd_nI hv hk, snd_nI hv (by omega), cel_nI (by omega) (by omega), cel_nI (by omega) (by omega), decide_eq_true h, Bool.true_and]
theorem pput_links {p : PT} (hp : WP p) {v b : Nat} (hv : v < 6) (hb : b < 24) (k : Int32) (a b' c : Int) {x : Nat} (hx : x < 24) : pln (pput p v b k a b' c) x = -1 ∨ hld (pkey (pput p v b k a b' c)) (pln (pput p v b k a b' c) x) (nI x) = true := by
  show flk (upd (pkey p) (24 * v + b) k) (pln p) v b x = -1 ∨ hld (upd (pkey p) (24 * v + b) k) (flk (upd (pkey p) (24 * v + b) k) (pln p) v b x) (nI x) = true
  unfold flk
  by_cases hc : (x = b ∨ x = b + 1) ∧ x < 24 ∧ pln p x = nI v ∧ hld (upd (pkey p) (24 * v + b) k) (nI v) (nI x) = false
  · rw [if_pos hc]; exact Or.inl rfl
  · rw [if_neg hc]
    rcases hp.2.2 x hx with h | h
    · exact Or.inl h
    · right
      obtain ⟨u, x2, a1, a2, a3, a4, a5, a6, a7⟩ := hld_in h
      have e := (nI_eq (by omega) (by omega)).mp a5
      subst e
      rw [a4] at h ⊢
      by_cases hu : u = v ∧ (x = b ∨ x = b + 1)
      · obtain ⟨rfl, hxb⟩ := hu
        cases hh : hld (upd (pkey p) (24 * u + b) k) (nI u) (nI x) with
        | true => rfl
        | false => exact absurd ⟨hxb, hx, a4, hh⟩ hc
      · rw [hld_nI a1 hx] at h ⊢
        unfold upd
        rw [if_neg (by omega), if_neg (by omega)]
        exact h
theorem pput_WP {p : PT} (hp : WP p) {v b : Nat} (hv : v < 6) (hb : b < 24) {k : Int32} {a b' c : Int} (hk : k = -1 ∨ (∃ j, j ≤ 60 ∧ k = nI j) ∧ fb3 a b' c ∧ -3000000 ≤ mil a b' c ∧ mil a b' c ≤ 3000000) : WP (pput p v b k a b' c) := by
  refine ⟨fun x hx => ?_, fun x hx hn => ?_, fun x hx => pput_links hp hv hb k a b' c hx⟩
  · show upd (pkey p) (24 * v + b) k x = -1 ∨ ∃ j, j ≤ 60 ∧ upd (pkey p) (24 * v + b) k x = nI j
    unfold upd
    by_cases e : x = 24 * v + b
    · rw [if_pos e]
      rcases hk with h | h
      · exact Or.inl h
      · exact Or.inr h.1
    · rw [if_neg e]; exact hp.1 x hx
  · have hn : ¬ upd (pkey p) (24 * v + b) k x = -1 := hn
    show fb3 (if x = 24 * v + b then a else pa p x) (if x = 24 * v + b then b' else pb p x) (if x = 24 * v + b then c else pc p x) ∧ -3000000 ≤ mil (if x = 24 * v + b then a else pa p x) (if x = 24 * v + b then b' else pb p x) (if x = 24 * v + b then c else pc p x) ∧ mil (if x = 24 * v + b then a else pa p x) (if x = 24 * v + b then b' else pb p x) (if x = 24 * v + b then c else pc p x) ≤ 3000000
    unfold upd at hn
    by_cases e : x = 24 * v + b
    · simp only [if_pos e] at hn ⊢
      rcases hk with h | h
      · exact absurd h hn
      · exact h.2
    · simp only [if_neg e] at hn ⊢
      exact hp.2.1 x hx hn
def Pput (a _k : Nat) : Bool := a == 2 || a == 3 || a == 4 || a == 6 || a == 7 || a == 8
theorem s_put {p : PT} {μ : MM} (hp : WP p) (hw : Wf μ) (hx : XC p μ) (h0 : XT p μ 0) {v b : Nat} (hv : v < 6) (hb : b < 24) {k : Int32} {a b' c : Int} (hf : fb3 a b' c) (hp' : WP (pput p v b k a b' c)) :
    ∃ μ', f_Sc_put 1 (nI v) (nI b) k (pk a b' c) μ = some μ' ∧ Sm Pput μ μ' ∧ XC (pput p v b k a b' c) μ' ∧ ∀ j, j < 24 → XT (pput p v b k a b' c) μ' j := by
  obtain ⟨μ1, hμ1⟩ : ∃ x, x = sI μ 2 (24 * v + b) k := ⟨_, rfl⟩
  obtain ⟨μ2, hμ2⟩ : ∃ x, x = sI μ1 3 (24 * v + b) (pk a b' c) := ⟨_, rfl⟩
  obtain ⟨μ3, hμ3⟩ : ∃ x, x = sI μ2 4 (24 * v + b) (oI (mil a b' c)) := ⟨_, rfl⟩
  have s1 : Sm Pput μ μ1 := by rw [hμ1]; exact Sm.sI rfl
  have s2 : Sm Pput μ1 μ2 := by rw [hμ2]; exact Sm.sI rfl
  have s3 : Sm Pput μ2 μ3 := by rw [hμ3]; exact Sm.sI rfl
  have s123 := (s1.tr s2).tr s3
  have w1 := s1.wf hw
  have w2 := s2.wf w1
  have w3 := s3.wf w2
  have g2 : gI μ3 2 = upd (pkey p) (24 * v + b) k := by rw [hμ3, gI_sI_ne (by decide), hμ2, gI_sI_ne (by decide), hμ1, gI_sI, hx.1]
  have g3 : gI μ3 3 = upd (gI μ 3) (24 * v + b) (pk a b' c) := by rw [hμ3, gI_sI_ne (by decide), hμ2, gI_sI, hμ1, gI_sI_ne (by decide)]
  have g4 : gI μ3 4 = upd (gI μ 4) (24 * v + b) (oI (mil a b' c)) := by rw [hμ3, gI_sI, hμ2, gI_sI_ne (by decide), hμ1, gI_sI_ne (by decide)]
  have g6 : gI μ3 6 = pln p := by rw [hμ3, gI_sI_ne (by decide), hμ2, gI_sI_ne (by decide), hμ1, gI_sI_ne (by decide), hx.2.1]
  have s4 := fs2_sm μ3 6 2 v b
  have w4 := s4.wf w3
  have hx4 : XC (pput p v b k a b' c) (fs2 μ3 6 2 v b) := by
    refine ⟨by rw [s4.gI 2 (Pc1_ne (by decide))]; exact g2, by rw [fs2_g (by decide) hb, g2, g6]; rfl, fun x hx1 hn => ?_⟩
    rw [s4.gI 3 (Pc1_ne (by decide)), s4.gI 4 (Pc1_ne (by decide)), g3, g4]
    have hn : ¬ upd (pkey p) (24 * v + b) k x = -1 := hn
    show upd (gI μ 3) (24 * v + b) (pk a b' c) x = pk (if x = 24 * v + b then a else pa p x) (if x = 24 * v + b then b' else pb p x) (if x = 24 * v + b then c else pc p x) ∧ upd (gI μ 4) (24 * v + b) (oI (mil a b' c)) x = oI (mil (if x = 24 * v + b then a else pa p x) (if x = 24 * v + b then b' else pb p x) (if x = 24 * v + b then c else pc p x))
    unfold upd at hn ⊢
    by_cases e : x = 24 * v + b
    · simp only [if_pos e]; exact ⟨trivial, trivial⟩
    · simp only [if_neg e] at hn ⊢
      exact hx.2.2 x hx1 hn
  have h04 : XT (pput p v b k a b' c) (fs2 μ3 6 2 v b) 0 := by
    have h0 : gI μ 8 0 = pk 0 0 0 ∧ gI μ 7 0 = oI (mil 0 0 0) := h0
    show gI (fs2 μ3 6 2 v b) 8 0 = pk 0 0 0 ∧ gI (fs2 μ3 6 2 v b) 7 0 = oI (mil 0 0 0)
    rw [s4.gI 8 (Pc1_ne (by decide)), s4.gI 7 (Pc1_ne (by decide))]
    rw [hμ3, gI_sI_ne (by decide), hμ2, gI_sI_ne (by decide), hμ1, gI_sI_ne (by decide), gI_sI_ne (by decide), gI_sI_ne (by decide), gI_sI_ne (by decide)]
    exact h0
  obtain ⟨μ', e5, s5, t5⟩ := s_tune hp' w4 hx4 h04
  refine ⟨μ', ?_, (s123.tr (s4.mono (fun x j z => ?_))).tr (s5.mono (fun x j z => ?_)), hx4.sm s5 (fun _ => rfl) (fun _ => rfl) (fun _ => rfl) (fun _ => rfl), t5⟩
  · unfold f_Sc_put
    rw [kO_1 hw, bsome, s_has, inR_nI hv (by decide), inR_nI hb (by decide), bsome, if_neg (by decide), rR_1_0 hw, bsome, s_cell, bsome, uI_2 hw (by omega), bsome, ← hμ1, rR_1_1 w1, bsome, bsome, uI_3 w1 (by omega), bsome, ← hμ2, rR_1_2 w2, bsome, bsome, s_Frmills hf.w, bsome, uI_4 w2 (by omega), bsome, ← hμ3, show FU = 999999997 + 3 from rfl, put_all w3 hv hb]
    exact e5
  · simp only [Pput, Bool.or_eq_false_iff, beq_eq_false_iff_ne] at z; exact Pc1_ne z.1.1.2 j
  · simp only [Pput, Bool.or_eq_false_iff, beq_eq_false_iff_ne] at z; simp [P78, z.1.2, z.2]
theorem s_changed {μ : MM} (hw : Wf μ) : f_X_changed 0 μ = some (1, sI μ 0 9 (gI μ 0 9 + 1)) := by
  unfold f_X_changed
  rw [kO_0 hw, bsome, rI_0 hw, bsome, pI_0 hw, bsome]
def Pch (a k : Nat) : Bool := a == 0 && k == 9
def Por (P P' : Nat → Nat → Bool) (a k : Nat) : Bool := P a k || P' a k
theorem Por_l {P P' : Nat → Nat → Bool} {a k : Nat} (h : Por P P' a k = false) : P a k = false := (Bool.or_eq_false_iff.mp h).1
theorem Por_r {P P' : Nat → Nat → Bool} {a k : Nat} (h : Por P P' a k = false) : P' a k = false := (Bool.or_eq_false_iff.mp h).2
theorem ch_sm {μ : MM} {z : Int32} : Sm Pch μ (sI μ 0 9 z) := Sm.sI rfl
/-- in the class: a note -/
theorem X_put {p : PT} {μ : MM} (hp : WP p) (hw : Wf μ) (hx : XP p μ) {v b : Nat} (hv : v < 6) (hb : b < 24) {k : Int32} {a b' c : Int} (hf : fb3 a b' c) (hp' : WP (pput p v b k a b' c)) :
    ∃ μ', (f_Sc_put 1 (nI v) (nI b) k (pk a b' c) μ).bind (fun m => (f_X_changed 0 m).bind fun q => (rz q.1).bind fun y => some (y, q.2)) = some (1, μ') ∧ Sm (Por Pput Pch) μ μ' ∧ XP (pput p v b k a b' c) μ' ∧ gI μ' 0 9 = gI μ 0 9 + 1 := by
  obtain ⟨μ1, e1, s1, x1, t1⟩ := s_put hp hw hx.1 (hx.2.2 0 (by decide)) hv hb hf hp'
  refine ⟨sI μ1 0 9 (gI μ1 0 9 + 1), ?_, (s1.mono fun _ _ => Por_l).tr (ch_sm.mono fun _ _ => Por_r), ?_, ?_⟩
  · rw [e1, bsome, s_changed (s1.wf hw)]; rfl
  · refine ⟨x1.sm ch_sm (fun _ => rfl) (fun _ => rfl) (fun _ => rfl) (fun _ => rfl), ?_, fun j hj => ?_⟩
    · unfold XB
      rw [ch_sm.gI 5 (fun _ => rfl), s1.gI 5 (fun _ => rfl)]
      exact hx.2.1
    · unfold XT
      rw [ch_sm.gI 7 (fun _ => rfl), ch_sm.gI 8 (fun _ => rfl)]
      exact t1 j hj
  · rw [gI_sI, s1.gI 0 (fun _ => rfl)]; simp [upd]
def Pmn (a _k : Nat) : Bool := a == 51 || a == 52 || a == 53 || a == 54 || a == 56
theorem Pmn_sI {μ : MM} {a k : Nat} {v : Int32} (h : Pmn a k = true) : Sm Pmn μ (sI μ a k v) := Sm.sI h
/-- in the reference: a note -/
theorem M_put {p : PT} {μ : MM} (hw : Wf μ) (hm : MP p μ) {v b : Nat} (hv : v < 6) (hb : b < 24) {k : Int32} {a b' c : Int} {μ3 : MM}
    (h3 : μ3 = sI (sI (sI (sI μ 51 (24 * v + b) k) 52 (24 * v + b) (oI a)) 53 (24 * v + b) (oI b')) 54 (24 * v + b) (oI c) ∨ (k = -1 ∧ μ3 = sI μ 51 (24 * v + b) k)) : ∃ μ', f_M_falls 49 (nI v) (nI b) μ3 = some μ' ∧ Sm Pmn μ μ' ∧ MP (pput p v b k a b' c) μ' := by
  have s3 : Sm Pmn μ μ3 ∧ gI μ3 51 = upd (pkey p) (24 * v + b) k ∧ gI μ3 56 = pln p ∧ gI μ3 55 = gI μ 55 ∧ (∀ x, x < 144 → ¬ upd (pkey p) (24 * v + b) k x = -1 → gI μ3 52 x = oI (if x = 24 * v + b then a else pa p x) ∧ gI μ3 53 x = oI (if x = 24 * v + b then b' else pb p x) ∧ gI μ3 54 x = oI (if x = 24 * v + b then c else pc p x)) := by
    rcases h3 with rfl | ⟨rfl, rfl⟩
    · refine ⟨(((Pmn_sI rfl).tr (Pmn_sI rfl)).tr (Pmn_sI rfl)).tr (Pmn_sI rfl), ?_, ?_, ?_, ?_⟩
      · rw [gI_sI_ne (by decide), gI_sI_ne (by decide), gI_sI_ne (by decide), gI_sI, hm.1]
      · rw [gI_sI_ne (by decide), gI_sI_ne (by decide), gI_sI_ne (by decide), gI_sI_ne (by decide), hm.2.1]
      · rw [gI_sI_ne (by decide), gI_sI_ne (by decide), gI_sI_ne (by decide), gI_sI_ne (by decide)]
      · intro x hx hn
        rw [gI_sI_ne (c := 52) (by decide), gI_sI_ne (c := 52) (by decide), gI_sI, gI_sI_ne (c := 52) (by decide), gI_sI_ne (c := 53) (by decide), gI_sI, gI_sI_ne (c := 53) (by decide), gI_sI_ne (c := 53) (by decide), gI_sI, gI_sI_ne (c := 54) (by decide), gI_sI_ne (c := 54) (by decide), gI_sI_ne (c := 54) (by decide)]
        unfold upd at hn ⊢
        by_cases e : x = 24 * v + b
        · simp only [if_pos e]; exact ⟨trivial, trivial, trivial⟩
        · simp only [if_neg e] at hn ⊢
          exact hm.2.2.1 x hx hn
    · refine ⟨Pmn_sI rfl, ?_, ?_, ?_, ?_⟩
      · rw [gI_sI, hm.1]
      · rw [gI_sI_ne (by decide), hm.2.1]
      · rw [gI_sI_ne (by decide)]
      · intro x hx hn
        rw [gI_sI_ne (by decide), gI_sI_ne (by decide), gI_sI_ne (by decide)]
        unfold upd at hn
        by_cases e : x = 24 * v + b
        · rw [if_pos e] at hn; exact absurd rfl hn
        · simp only [if_neg e] at hn ⊢
          exact hm.2.2.1 x hx hn
  obtain ⟨s3, g1, g2, g3, g4⟩ := s3
  have s4 := fs2_sm μ3 56 51 v b
  refine ⟨_, fal_all (s3.wf hw) hv hb, s3.tr (s4.mono fun x j z => ?_), ?_, ?_, ?_, ?_⟩
  · simp only [Pmn, Bool.or_eq_false_iff, beq_eq_false_iff_ne] at z; exact Pc1_ne z.2 j
  · rw [s4.gI 51 (Pc1_ne (by decide))]; exact g1
  · rw [fs2_g (by decide) hb, g1, g2]; rfl
  · rw [s4.gI 52 (Pc1_ne (by decide)), s4.gI 53 (Pc1_ne (by decide)), s4.gI 54 (Pc1_ne (by decide))]; exact g4
  · rw [s4.gI 55 (Pc1_ne (by decide)), g3]; exact hm.2.2.2
def Pnote : Nat → Nat → Bool := Por (Por Pput Pch) Pmn
/-- what a call that may change the piece leaves: nothing changed, or another piece and one more change -/
def PRes (P : Nat → Nat → Bool) (μ μ2 : MM) : Prop := μ2 = μ ∨ ∃ p', WP p' ∧ XP p' μ2 ∧ MP p' μ2 ∧ Sm P μ μ2 ∧ gI μ2 0 9 = gI μ 0 9 + 1
theorem note_ok {p : PT} {μ : MM} (hp : WP p) (hw : Wf μ) (hx : XP p μ) (hm : MP p μ) (x1 x2 x3 x4 x5 : Int32) : ∃ r μ1 μ2, f_X_note 0 x1 x2 x3 x4 x5 μ = some (r, μ1) ∧ f_M_note 49 x1 x2 x3 x4 x5 μ1 = some (r, μ2) ∧ PRes Pnote μ μ2 := by
  have no : ∀ {e1 : f_X_note 0 x1 x2 x3 x4 x5 μ = some (0, μ)} {e2 : f_M_note 49 x1 x2 x3 x4 x5 μ = some (0, μ)}, ∃ r μ1 μ2, f_X_note 0 x1 x2 x3 x4 x5 μ = some (r, μ1) ∧ f_M_note 49 x1 x2 x3 x4 x5 μ1 = some (r, μ2) ∧ PRes Pnote μ μ2 := fun {e1 e2} => ⟨0, μ, μ, e1, e2, Or.inl rfl⟩
  have hof : ∃ y, f_Fr_of x4 x5 = some y := by
    rcases of_case x4 x5 with ⟨h, -⟩ | ⟨a, b, c, -, -, h, -⟩ <;> exact ⟨_, h⟩
  obtain ⟨y, hy⟩ := hof
  rcases ixc 6 6 rfl (by decide) x1 with ⟨h1, h2⟩ | ⟨h1, h2, h3⟩ | ⟨h1, h2, h3, v, hv, rfl⟩
  · refine no (e1 := ?_) (e2 := ?_)
    · unfold f_X_note; rw [kO_0 hw, bsome, hy, bsome, s_has, h2]; rfl
    · unfold f_M_note; rw [kO_49 hw, bsome, s_isVoice, h2]; rfl
  · refine no (e1 := ?_) (e2 := ?_)
    · unfold f_X_note; rw [kO_0 hw, bsome, hy, bsome, s_has, h3]; rfl
    · unfold f_M_note; rw [kO_49 hw, bsome, s_isVoice, h3]; rfl
  rcases ixc 24 24 rfl (by decide) x2 with ⟨g1, g2⟩ | ⟨g1, g2, g3⟩ | ⟨g1, g2, g3, b, hb, rfl⟩
  · refine no (e1 := ?_) (e2 := ?_)
    · unfold f_X_note; rw [kO_0 hw, bsome, hy, bsome, s_has, h3, g2]; rfl
    · unfold f_M_note; rw [kO_49 hw, bsome, s_isVoice, h3, bsome, if_neg (by decide), s_isBeat, g2]; rfl
  · refine no (e1 := ?_) (e2 := ?_)
    · unfold f_X_note; rw [kO_0 hw, bsome, hy, bsome, s_has, h3, g3]; rfl
    · unfold f_M_note; rw [kO_49 hw, bsome, s_isVoice, h3, bsome, if_neg (by decide), s_isBeat, g3]; rfl
  rcases ixc 61 61 rfl (by decide) x3 with ⟨k1, k2⟩ | ⟨k1, k2, k3⟩ | ⟨k1, k2, k3, k, hk, rfl⟩
  · refine no (e1 := ?_) (e2 := ?_)
    · unfold f_X_note; rw [kO_0 hw, bsome, hy, bsome, s_has, h3, g3, bsome, if_neg (by decide), if_pos k1]
    · unfold f_M_note; rw [kO_49 hw, bsome, s_isVoice, h3, bsome, if_neg (by decide), s_isBeat, g3, bsome, if_neg (by decide), s_liesI x3 0 60 0 60 (by decide) (by decide), inR_le x3 61 60 (by decide), k2]; rfl
  · refine no (e1 := ?_) (e2 := ?_)
    · unfold f_X_note; rw [kO_0 hw, bsome, hy, bsome, s_has, h3, g3, bsome, if_neg (by decide), if_neg k1, if_pos]
      rw [toInt_le] at k2
      rw [toInt_lt]
      have e1 : (61 : Int32).toInt = 61 := by decide
      have e2 : (60 : Int32).toInt = 60 := by decide
      omega
    · unfold f_M_note; rw [kO_49 hw, bsome, s_isVoice, h3, bsome, if_neg (by decide), s_isBeat, g3, bsome, if_neg (by decide), s_liesI x3 0 60 0 60 (by decide) (by decide), inR_le x3 61 60 (by decide), k3]; rfl
  have k4 : ¬ (60 : Int32) < nI k := nI_nlt (a := 60) (by omega) (by decide)
  rcases of_case x4 x5 with ⟨e1, e2⟩ | ⟨a, b', c, hf, hb', e1, e2, e3, ⟨u1, w1, p1, p2, p3⟩, ⟨u2, w2, p4, p5, p6⟩, u3, w3, p7, p8, p9⟩
  · refine no (e1 := ?_) (e2 := ?_)
    · unfold f_X_note; rw [kO_0 hw, bsome, e1, bsome, s_has, h3, g3, bsome, if_neg (by decide), if_neg k1, if_neg k4, if_pos rfl]
    · unfold f_M_note; rw [kO_49 hw, bsome, s_isVoice, h3, bsome, if_neg (by decide), s_isBeat, g3, bsome, if_neg (by decide), s_liesI _ 0 60 0 60 (by decide) (by decide), inR_le _ 61 60 (by decide), k3, bsome, if_neg (by decide), e2]; rfl
  · have hp' : WP (pput p v b (nI k) a b' c) := pput_WP hp hv hb (Or.inr ⟨⟨k, by omega, rfl⟩, hf, hb'⟩)
    obtain ⟨μ1, ex, sx, xx, cx⟩ := X_put hp hw hx hv hb (k := nI k) hf hp'
    have hw1 := sx.wf hw
    have hm1 : MP p μ1 := hm.sm sx (fun a k h1 h2 => by
      have : a = 51 ∨ a = 52 ∨ a = 53 ∨ a = 54 ∨ a = 55 ∨ a = 56 := by omega
      rcases this with rfl | rfl | rfl | rfl | rfl | rfl <;> rfl)
    obtain ⟨μ2, em, sm, mm⟩ := M_put hw1 hm1 hv hb (k := nI k) (a := a) (b' := b') (c := c) (Or.inl rfl)
    refine ⟨1, μ1, μ2, ?_, ?_, Or.inr ⟨_, hp', xx.sm sm (fun a k h1 h2 => by
      have : a = 2 ∨ a = 3 ∨ a = 4 ∨ a = 5 ∨ a = 6 ∨ a = 7 ∨ a = 8 := by omega
      rcases this with rfl | rfl | rfl | rfl | rfl | rfl | rfl <;> rfl), mm, (sx.mono fun _ _ => Por_l).tr (sm.mono fun _ _ => Por_r), by rw [sm.gI 0 (fun _ => rfl), cx]⟩⟩
    · unfold f_X_note
      rw [kO_0 hw, bsome, e1, bsome, s_has, h3, g3, bsome, if_neg (by decide), if_neg k1, if_neg k4, if_neg (pk_ne_min hf.w), rR_0_0 hw, bsome]
      exact ex
    · unfold f_M_note
      rw [kO_49 hw1, bsome, s_isVoice, h3, bsome, if_neg (by decide), s_isBeat, g3, bsome, if_neg (by decide), s_liesI _ 0 60 0 60 (by decide) (by decide), inR_le _ 61 60 (by decide), k3, bsome, if_neg (by decide), e2, bsome, if_neg (by decide)]
      unfold f_M_cellOf
      rw [bsome, cellN', rR_49_2 hw1, bsome, uI_51 hw1 (by omega), bsome]
      have w1' : Wf (sI μ1 51 (24 * v + b) (nI k)) := hw1
      rw [rR_49_3 w1', bsome, p1, bsome, p2, bsome, p3, uI_52 w1' (by omega), bsome]
      have w2' : Wf (sI (sI μ1 51 (24 * v + b) (nI k)) 52 (24 * v + b) (oI a)) := hw1
      rw [rR_49_4 w2', bsome, p4, bsome, p5, bsome, p6, uI_53 w2' (by omega), bsome]
      have w3' : Wf (sI (sI (sI μ1 51 (24 * v + b) (nI k)) 52 (24 * v + b) (oI a)) 53 (24 * v + b) (oI b')) := hw1
      rw [rR_49_5 w3', bsome, p7, bsome, p8, bsome, p9, uI_54 w3' (by omega), bsome, em]; rfl
theorem silent_ok {p : PT} {μ : MM} (hp : WP p) (hw : Wf μ) (hx : XP p μ) (hm : MP p μ) (x1 x2 : Int32) : ∃ r μ1 μ2, f_X_silent 0 x1 x2 μ = some (r, μ1) ∧ f_M_silent 49 x1 x2 μ1 = some (r, μ2) ∧ PRes Pnote μ μ2 := by
  cases hs : snd (pkey p) x1 x2 with
  | false =>
    refine ⟨0, μ, μ, ?_, ?_, Or.inl rfl⟩
    · unfold f_X_silent; rw [kO_0 hw, bsome, rR_0_0 hw, bsome, s_sounds hw, hx.1.1, hs]; rfl
    · unfold f_M_silent; rw [kO_49 hw, bsome, s_isNote hw, hm.1, hs]; rfl
  | true =>
    obtain ⟨v, b, hv, hb, rfl, rfl, -⟩ := snd_in hs
    have hf : fb3 0 0 0 := by unfold fb3; decide
    have hp' : WP (pput p v b (-1) 0 0 0) := pput_WP hp hv hb (Or.inl rfl)
    obtain ⟨μ1, ex, sx, xx, cx⟩ := X_put hp hw hx hv hb (k := -1) hf hp'
    have hw1 := sx.wf hw
    have hm1 : MP p μ1 := hm.sm sx (fun a k h1 h2 => by
      have : a = 51 ∨ a = 52 ∨ a = 53 ∨ a = 54 ∨ a = 55 ∨ a = 56 := by omega
      rcases this with rfl | rfl | rfl | rfl | rfl | rfl <;> rfl)
    obtain ⟨μ2, em, sm, mm⟩ := M_put hw1 hm1 hv hb (k := -1) (a := 0) (b' := 0) (c := 0) (Or.inr ⟨rfl, rfl⟩)
    refine ⟨1, μ1, μ2, ?_, ?_, Or.inr ⟨_, hp', xx.sm sm (fun a k h1 h2 => by
      have : a = 2 ∨ a = 3 ∨ a = 4 ∨ a = 5 ∨ a = 6 ∨ a = 7 ∨ a = 8 := by omega
      rcases this with rfl | rfl | rfl | rfl | rfl | rfl | rfl <;> rfl), mm, (sx.mono fun _ _ => Por_l).tr (sm.mono fun _ _ => Por_r), by rw [sm.gI 0 (fun _ => rfl), cx]⟩⟩
    · unfold f_X_silent
      rw [kO_0 hw, bsome, rR_0_0 hw, bsome, s_sounds hw, hx.1.1, hs, bsome, if_neg (by decide), bsome]
      exact ex
    · unfold f_M_silent
      rw [kO_49 hw1, bsome, s_isNote hw1, hm1.1, hs, bsome, if_neg (by decide), rR_49_2 hw1, bsome]
      unfold f_M_cellOf
      rw [bsome, cellN', uI_51 hw1 (by omega), bsome, em]; rfl
