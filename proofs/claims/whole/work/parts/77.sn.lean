/-! LAYER 2: a note is sung, in the class: the step -/
def Pmd (a k : Nat) : Bool := a == 20 || a == 27 || a == 28 || a == 29 || a == 30 || a == 45 || (a == 24 && k == 13)
def Psn (a k : Nat) : Bool := a == 25 || a == 26 || (a == 24 && k == 12) || Pmd a k
theorem Pmd_Pcf : ∀ a k, Pcf a k = true → Pmd a k = false := by
  intro a k h
  simp [Pcf] at h
  simp [Pmd]
  omega
theorem Psn_Pcf : ∀ a k, Pcf a k = true → Psn a k = false := by
  intro a k h
  simp [Pcf] at h
  simp [Psn, Pmd]
  omega
theorem Pmd_Psn (a k : Nat) (h : Psn a k = false) : Pmd a k = false := (Bool.or_eq_false_iff.mp h).2
theorem P27_Pmd (a k : Nat) (h : Pmd a k = false) : P27 a k = false := by
  simp [Pmd] at h
  simp [P27]
  omega
theorem Pwg_Pmd (a k : Nat) (h : Pmd a k = false) : Pwg a k = false := by
  simp [Pmd] at h
  simp [Pwg]
  omega
theorem Pai_Pmd (a k : Nat) (h : Pmd a k = false) : Pai a k = false := by
  simp [Pmd] at h
  simp [Pai]
  omega
theorem Psn_xp (a k : Nat) (h1 : 2 ≤ a) (h2 : a ≤ 8) : Psn a k = false := by
  simp [Psn, Pmd]
  omega
theorem Psn_ts (a k : Nat) (h : tcl a = true ∨ (a = 49 ∧ k = 27)) : Psn a k = false := by
  simp [tcl] at h
  simp [Psn, Pmd]
  omega
theorem lst_lnt (c : CT) (p : PT) (i b : Nat) : lst c p i b (lnt c p i b) := by
  rcases lastb_c (f := sg c p i) b with ⟨h1, -⟩ | ⟨j, h1, h2, h3, -⟩
  · exact Or.inl h1
  · exact Or.inr ⟨j, h1, h2, h3⟩
theorem gvn_b {c : CT} (hc : WC c) (g b : Nat) : -200000 ≤ gvn c g b ∧ gvn c g b ≤ 200000 := by
  have := hc.2.2.2.2.1
  unfold gvn; split <;> omega
theorem lI_of (x : Int64) : lI x.toInt = x := by
  unfold lI; exact Int64.ofInt_toInt x
set_option maxHeartbeats 4000000 in
theorem s_singNote {tw : (Nat → Int32) → Nat → Int} {c : CT} {p : PT} {μ : MM} (hw : Wf μ) (hc : WC c) (hx : XG c μ) (hp' : WP p) (hxp : XP p μ) (htx : TXs tw μ) {t g : Nat} {nb : Bool} (ht : gI μ 24 10 = nI t) (ht2 : t < 12) (hg : gI μ 24 9 = nI g) (hg2 : g < 16777216) (hn : gI μ 24 11 = bi nb) {i b : Nat} (hi : i < cN c) (hb : b < 24) (h : sg c p i b = true) {lp : Int} (hlp : ¬ lnt c p i b = -1 → gL μ 26 i = lI lp) {luck : Nat} (hmany : gI μ 24 14 = nI (hmn c p b)) (hluck : gI μ 24 13 = nI luck) (lkb : luck < 65536) {q : Nat} (hq : gR μ 24 8 = some q) (hq2 : q = 11 ∨ q = 32) {pl : Nat → Nat} (hpl : ∀ j, j < cN c → pl j < 16) (hpq : ∀ j, j < cN c → gI μ q j = nI (pl j)) {pit : Nat → Int} {B : Int} (hB : 300000 ≤ B) (hB2 : B ≤ PB) (hpit : ∀ j, j < i → sg c p j b = true → gL μ 25 (24 * j + b) = lI (pit (24 * j + b)) ∧ -B ≤ pit (24 * j + b) ∧ pit (24 * j + b) ≤ B) (lpb : -B ≤ lp ∧ lp ≤ B) {df : Int} (hdf : gL μ 24 12 = lI df) :
    ∃ μ', f_Si_singNote 24 (nI i) (nI b) μ = some μ' ∧ Sm Psn μ μ' ∧ gL μ' 25 = vp_updL (gL μ 25) (24 * i + b) (lI (ptc tw c p t g pl (knw c nb i) pit i b (lnt c p i b) lp (lk' luck))) ∧ gL μ' 26 = vp_updL (gL μ 26) i (lI (ptc tw c p t g pl (knw c nb i) pit i b (lnt c p i b) lp (lk' luck))) ∧ gI μ' 24 13 = nI (lk' luck) ∧ gL μ' 24 12 = lI (df + drf tw c p t (knw c nb i) i b (lnt c p i b) lp (lk' luck)) := by
  have h8 := hc.1
  have hl := lst_lnt c p i b
  have eL := s_lastNote hw hc hx hxp.1 hi (show b ≤ 24 by omega)
  generalize lnt c p i b = last at hlp hl eL ⊢
  have hqk : μ.1[q]? = some (1, 8) := by
    rcases hq2 with rfl | rfl
    · exact hw.k 11 (by decide) rfl
    · exact hw.k 32 (by decide) rfl
  obtain ⟨L, hL⟩ : ∃ x, x = ltr c p t (knw c nb i) i b last lp (hmn c p b) (lk' luck) := ⟨_, rfl⟩
  obtain ⟨m1, h1⟩ : ∃ x, x = sI μ 24 13 (nI (lk' luck)) := ⟨_, rfl⟩
  have s1 : Sm Pmd μ m1 := by rw [h1]; exact Sm.sI rfl
  have w1 := s1.wf hw
  have xg : ∀ {m}, Sm Pmd μ m → XG c m := fun s => hx.sm s Pmd_Pcf
  have xp : ∀ {m}, Sm Pmd μ m → XP p m := fun s => hxp.sm s (fun a k h1 h2 => Pmd_Psn a k (Psn_xp a k h1 h2))
  have g13 : gI m1 24 13 = nI (lk' luck) := by rw [h1, gI_sI]; simp [upd]
  have k24 : ∀ {m k}, Sm Pmd μ m → ¬ k = 13 → gI m 24 k = gI μ 24 k := fun {m k} s hk => (s.2.2 24 k (by simp [Pmd, hk])).1
  have e2 := s_tellLetters w1 hc (xg s1) hp' (xp s1) (t := t) (nb := nb) (by rw [k24 s1 (by decide)]; exact ht) ht2 (by rw [k24 s1 (by decide)]; exact hn) hi hb h hl (lp := lp) (fun z => by rw [s1.gL 26 (fun _ => rfl)]; exact hlp z) (by omega) (many := hmn c p b) (by rw [k24 s1 (by decide)]; exact hmany) g13 (lk_b luck)
  rw [← hL] at e2
  obtain ⟨m2, h2⟩ : ∃ x, x = mL m1 L 12 := ⟨_, rfl⟩
  have s12 : Sm P27 m1 m2 := by rw [h2]; exact mL_sm m1 L 12
  have s2 : Sm Pmd μ m2 := s1.tr (s12.mono P27_Pmd)
  have w2 := s2.wf hw
  rw [← h2] at e2
  obtain ⟨tb, a, ea, htx2⟩ := htx.ts (TS.sm s2 (fun a k z => Pmd_Psn a k (Psn_ts a k z)))
  obtain ⟨m3, e3, s23, g28⟩ := (htx2 m2 w2 TS.rf).1 L (fun k hk => by rw [h2]; exact mL_g m1 L 12 k hk)
  have s3 : Sm Pmd μ m3 := s2.tr (s23.mono Pwg_Pmd)
  have w3 := s3.wf hw
  have g26 : gL m3 26 = gL μ 26 := s3.gL 26 (fun _ => rfl)
  obtain ⟨lp', el, eo⟩ : ∃ lp', gL m3 26 i = lI lp' ∧ own c p i b last lp' = own c p i b last lp := by
    by_cases e : last = -1
    · exact ⟨(gL m3 26 i).toInt, (lI_of _).symm, by unfold own; rw [if_pos e, if_pos e]⟩
    · exact ⟨lp, by rw [g26]; exact hlp e, rfl⟩
  obtain ⟨m4, e4, s34, ⟨c0, c1, c2, c3⟩, a0, a1, a2, a3⟩ := s_aim w3 hc (xg s3) hp' (xp s3).1 (t := t) (g := g) (nb := nb) (by rw [k24 s3 (by decide)]; exact ht) ht2 (by rw [k24 s3 (by decide)]; exact hg) hg2 (by rw [k24 s3 (by decide)]; exact hn) hi hb h hl lp' (q := q) (by rw [s3.gRf]; exact hq) (by rw [s3.1]; exact hqk) hpl (fun j hj => by
    have : gI m3 q = gI μ q := s3.gI q (fun k => by rcases hq2 with rfl | rfl <;> rfl)
    rw [this]; exact hpq j hj) (pit := pit) (fun j hj hs => by
    obtain ⟨y1, y2, y3⟩ := hpit j hj hs
    rw [s3.gL 25 (fun _ => rfl)]
    exact ⟨y1, by omega, by omega⟩)
  rw [eo] at a1
  have s4 : Sm Pmd μ m4 := s3.tr (s34.mono Pai_Pmd)
  have w4 := s4.wf hw
  have ab := amn_b hc hp' (t := t) (pl := pl) (gvn_b hc g b) hi hb h hl hB (pit := pit) (fun j hj hs => (hpit j hj hs).2) lpb
  have e5 := s_blend w4 (cb := cbn c p pl (knw c nb i) i b last) (w := tw L) (a := amn c p t pl (gvn c g b) pit i b last lp) (TWB.w tb L) (fun k hk => by
      have := ab k hk
      unfold PB at hB2
      omega) (fun k hk => by
      rcases (show k = 0 ∨ k = 1 ∨ k = 2 ∨ k = 3 by omega) with rfl | rfl | rfl | rfl
      · exact c0
      · exact c1
      · exact c2
      · exact c3) (fun k hk => by
      rcases (show k = 0 ∨ k = 1 ∨ k = 2 ∨ k = 3 by omega) with rfl | rfl | rfl | rfl
      · exact a0
      · exact a1
      · exact a2
      · exact a3)
  have rr : ∀ k, k < 5 → aI m4 28 (nI k) = some (oI (tw L k)) := fun k hk => by
    rw [aI_28 w4 hk, s34.gI 28 (fun _ => rfl), g28 k hk]
  have r0 : aI m4 28 (0 : Int32) = some (oI (tw L 0)) := rr 0 (by decide)
  have r1 : aI m4 28 (1 : Int32) = some (oI (tw L 1)) := rr 1 (by decide)
  have r2 : aI m4 28 (2 : Int32) = some (oI (tw L 2)) := rr 2 (by decide)
  have r3 : aI m4 28 (3 : Int32) = some (oI (tw L 3)) := rr 3 (by decide)
  have r4 : aI m4 28 (4 : Int32) = some (oI (tw L 4)) := rr 4 (by decide)
  have d4 := TWB.d tb L
  have hd4 : gL m4 24 12 = lI df := by rw [(s4.2.2 24 12 rfl).2]; exact hdf
  unfold ptc drf
  rw [← hL]
  obtain ⟨m5, h5⟩ : ∃ x, x = sL m4 24 12 (lI (df + tw L 4)) := ⟨_, rfl⟩
  obtain ⟨Q, hQ⟩ : ∃ x, x = mix (cbn c p pl (knw c nb i) i b last) (tw L) (amn c p t pl (gvn c g b) pit i b last lp) := ⟨_, rfl⟩
  rw [← hQ] at e5 ⊢
  obtain ⟨m6, h6⟩ : ∃ x, x = sL m5 25 (24 * i + b) (lI (Q + tw L 4)) := ⟨_, rfl⟩
  obtain ⟨m7, h7⟩ : ∃ x, x = sL m6 26 i (lI (Q + tw L 4)) := ⟨_, rfl⟩
  have s5 : Sm Psn μ m5 := by rw [h5]; exact (s4.mono Pmd_Psn).tr (Sm.sL rfl)
  have s6 : Sm Psn μ m6 := by rw [h6]; exact s5.tr (Sm.sL rfl)
  have s7 : Sm Psn μ m7 := by rw [h7]; exact s6.tr (Sm.sL rfl)
  have w5 := s5.wf hw
  have w6 := s6.wf hw
  have g13b : gI m4 24 13 = nI (lk' luck) := by
    rw [(s34.2.2 24 13 rfl).1, (s23.2.2 24 13 rfl).1, (s12.2.2 24 13 rfl).1]; exact g13
  refine ⟨m7, ?_, s7, ?_, ?_, ?_, ?_⟩
  · unfold f_Si_singNote
    rw [kO_24 hw, bsome, rR_24_1 hw, bsome, eL, bsome, rI_24 hw, bsome, hluck, lk_X lkb, pI_24 hw, bsome, ← h1, e2, bsome, rR_24_1 w2, bsome, rR_9 w2, ea, bsome, rR_24_4 w2, bsome, rR_24_5 w2, bsome, e3, bsome, rR_24_3 w3, bsome, aL_26 w3 (by omega), bsome, el, e4, bsome, rR_24_5 w4, bsome, r0, bsome, bsome, r1, bsome, bsome, r2, bsome, bsome, r3, bsome, e5, bsome, bsome, r4, bsome, rL_24 w4, bsome, hd4, bsome, r4, bsome, oI_l (by omega) (by omega), lI_add df (tw L 4), lI_add Q (tw L 4), pL_24 w4, bsome, ← h5, rR_24_2 w5, bsome, cellN, uL_25 w5 (by omega), bsome, ← h6, rR_24_3 w6, bsome, uL_26 w6 (by omega), bsome, ← h7]
  · rw [h7, gL_sL_ne (by decide), h6, gL_sL, h5, gL_sL_ne (by decide), s4.gL 25 (fun _ => rfl)]
  · rw [h7, gL_sL, h6, gL_sL_ne (by decide), h5, gL_sL_ne (by decide), s4.gL 26 (fun _ => rfl)]
  · rw [h7, gI_sL, h6, gI_sL, h5, gI_sL]; exact g13b
  · rw [h7, gL_sL_ne (by decide), h6, gL_sL_ne (by decide), h5, gL_sL]; simp [vp_updL]
