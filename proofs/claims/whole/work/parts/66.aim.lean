/-! LAYER 2: the aims of a note, in the class -/
def hrw (c : CT) (pl : Nat → Nat) (i j : Nat) : Int := (hrd (cL c j) (pl i) (pl j) : Nat)
def ears (c : CT) (p : PT) (pl : Nat → Nat) (i b : Nat) : Nat → Int := fsum (fun j => if sg c p j b = true then hrw c pl i j else 0)
def herd (c : CT) (p : PT) (pl : Nat → Nat) (pit : Nat → Int) (i b : Nat) : Nat → Int := fsum (fun j => if sg c p j b = true then hrw c pl i j * (pit (24 * j + b) + mz c p i b - mz c p j b) else 0)
def oth (c : CT) (p : PT) (pl : Nat → Nat) (pit : Nat → Int) (i b : Nat) : Int := if 0 < ears c p pl i b i then herd c p pl pit i b i / ears c p pl i b i else 0
def own (c : CT) (p : PT) (i b : Nat) (last : Int32) (lp : Int) : Int := if last = -1 then 0 else if last = nI b - 1 ∧ hld (pkey p) (nI (cV c i)) (nI b) = true then lp else lp + mz c p i b - mz c p i last.toInt.toNat
def PB : Int := 1200000000
theorem hrw_b {c : CT} (hc : WC c) {pl : Nat → Nat} {i j : Nat} (hj : j < cN c) : 0 ≤ hrw c pl i j ∧ hrw c pl i j ≤ 72 := by
  have h := (hc.2.1 j hj).2.2.1
  unfold hrw hrd
  have : cL c j * (8 - dst (pl i) (pl j)) ≤ 9 * 8 := Nat.mul_le_mul h.2 (by omega)
  omega
theorem ears_b {c : CT} (hc : WC c) (p : PT) {pl : Nat → Nat} {i b : Nat} : ∀ {k : Nat}, k ≤ cN c → 0 ≤ ears c p pl i b k ∧ ears c p pl i b k ≤ 72 * k := fun {k} hk => by
  have := fsum_b (f := fun j => if sg c p j b = true then hrw c pl i j else 0) (lo := 0) (hi := 72) k (fun j hj => by
    have := hrw_b hc (pl := pl) (i := i) (show j < cN c by omega)
    by_cases h : sg c p j b = true
    · simp only [if_pos h]; exact this
    · simp only [if_neg h]; decide)
  unfold ears; omega
theorem mul72 {a z M : Int} (ha : 0 ≤ a ∧ a ≤ 72) (hM : 0 ≤ M) (hz : -M ≤ z ∧ z ≤ M) : -(72 * M) ≤ a * z ∧ a * z ≤ 72 * M := by
  have h1 : a * z ≤ a * M := Int.mul_le_mul_of_nonneg_left hz.2 ha.1
  have h2 : a * (-M) ≤ a * z := Int.mul_le_mul_of_nonneg_left hz.1 ha.1
  have h3 : a * M ≤ 72 * M := Int.mul_le_mul_of_nonneg_right ha.2 hM
  rw [Int.mul_neg] at h2
  omega
theorem herd_b {c : CT} (hc : WC c) {p : PT} (hp' : WP p) {pl : Nat → Nat} {pit : Nat → Int} {i b : Nat} (hi : i < cN c) (hb : b < 24) (hs : sg c p i b = true) (hpit : ∀ j, j < i → sg c p j b = true → -PB ≤ pit (24 * j + b) ∧ pit (24 * j + b) ≤ PB) : ∀ {k : Nat}, k ≤ i → -(100000000000 * (k : Int)) ≤ herd c p pl pit i b k ∧ herd c p pl pit i b k ≤ 100000000000 * k := fun {k} hk => by
  have := fsum_b (f := fun j => if sg c p j b = true then hrw c pl i j * (pit (24 * j + b) + mz c p i b - mz c p j b) else 0) (lo := -100000000000) (hi := 100000000000) k (fun j hj => by
    by_cases h : sg c p j b = true
    · simp only [if_pos h]
      have h1 := hpit j (by omega) h
      have h2 := mz_b hc hp' hi hb hs
      have h3 := mz_b hc hp' (show j < cN c by omega) hb h
      have := mul72 (hrw_b hc (pl := pl) (i := i) (show j < cN c by omega)) (M := 1206000000) (by decide) (z := pit (24 * j + b) + mz c p i b - mz c p j b) (by unfold PB at h1; omega)
      omega
    · simp only [if_neg h]; decide)
  unfold herd
  have e : (-100000000000 : Int) * k = -(100000000000 * k) := Int.neg_mul _ _
  rw [e] at this; exact this
def Pai (a _k : Nat) : Bool := a == 29 || a == 30
theorem Pai_Pcf : ∀ a k, Pcf a k = true → Pai a k = false := by
  intro a k h
  by_cases e : a = 29 ∨ a = 30
  · rcases e with rfl | rfl <;> simp [Pcf] at h
  · simp only [not_or] at e
    simp [Pai, e]
theorem s_aim3 {c : CT} {p : PT} {μ : MM} (hw : Wf μ) (hc : WC c) (hx : XG c μ) (hp' : WP p) (hxc : XC p μ) {t g : Nat} {nb : Bool} (ht : gI μ 24 10 = nI t) (ht2 : t < 12) (hg : gI μ 24 9 = nI g) (hg2 : g < 16777216) (hn : gI μ 24 11 = bi nb) {i b : Nat} (hi : i < cN c) (hb : b < 24) (h : sg c p i b = true) (o : Int64) : ∃ μ', f_Si_aim_J238 24 (nI i) (nI b) 29 1 o μ = some μ' ∧ Sm Pai μ μ' ∧ gI μ' 30 = upd (upd (gI μ 30) 2 1) 3 (bi (knw c nb i)) ∧ gL μ' 29 = vp_updL (vp_updL (vp_updL (gL μ 29) 1 o) 2 (lI (tab c p t i b + gvn c g b))) 3 (lI (tab c p t i b)) := by
  obtain ⟨m1, h1⟩ : ∃ x, x = sL μ 29 1 o := ⟨_, rfl⟩
  obtain ⟨m2, h2⟩ : ∃ x, x = sI m1 30 2 1 := ⟨_, rfl⟩
  obtain ⟨m3, h3⟩ : ∃ x, x = sL m2 29 2 (lI (tab c p t i b + gvn c g b)) := ⟨_, rfl⟩
  obtain ⟨m4, h4⟩ : ∃ x, x = sI m3 30 3 (bi (knw c nb i)) := ⟨_, rfl⟩
  obtain ⟨m5, h5⟩ : ∃ x, x = sL m4 29 3 (lI (tab c p t i b)) := ⟨_, rfl⟩
  have s1 : Sm Pai μ m1 := by rw [h1]; exact Sm.sL rfl
  have s2 : Sm Pai μ m2 := by rw [h2]; exact s1.tr (Sm.sI rfl)
  have s3 : Sm Pai μ m3 := by rw [h3]; exact s2.tr (Sm.sL rfl)
  have s4 : Sm Pai μ m4 := by rw [h4]; exact s3.tr (Sm.sI rfl)
  have s5 : Sm Pai μ m5 := by rw [h5]; exact s4.tr (Sm.sL rfl)
  have w1 := s1.wf hw
  have w2 := s2.wf hw
  have w3 := s3.wf hw
  have w4 := s4.wf hw
  have xc : ∀ {m}, Sm Pai μ m → XC p m := fun s => hxc.sm s (fun _ => rfl) (fun _ => rfl) (fun _ => rfl) (fun _ => rfl)
  have xg : ∀ {m}, Sm Pai μ m → XG c m := fun s => hx.sm s Pai_Pcf
  have g24 : ∀ {m}, Sm Pai μ m → gI m 24 = gI μ 24 := fun s => s.gI 24 (fun _ => rfl)
  have tb := tab_b hc hp' (t := t) hi hb h
  have gb : -200000 ≤ gvn c g b ∧ gvn c g b ≤ 200000 := by
    have := hc.2.2.2.2.1
    unfold gvn; split <;> omega
  refine ⟨m5, ?_, s5, ?_, ?_⟩
  · unfold f_Si_aim_J238
    rw [show (1 : Int32) = nI 1 from rfl, show (2 : Int32) = nI 2 from rfl, show (3 : Int32) = nI 3 from rfl]
    rw [uL_29 hw (by decide), bsome, ← h1, rR_24_7 w1, bsome, uB_30 w1 (k := 2) (v := nI 1) (by decide) (Or.inr rfl), bsome]
    rw [show sI m1 30 2 (nI 1) = m2 from h2.symm, rR_24_6 w2, bsome, s_SitableOf w2 hc (xg s2) hp' (xc s2) (by rw [g24 s2]; exact ht) ht2 hi hb h, bsome, s_givenIn w2 (xg s2) (by rw [g24 s2]; exact hg) hg2 hb, bsome, oI_l (by omega) (by omega), lI_add, uL_29 w2 (by decide), bsome, ← h3]
    rw [rR_24_7 w3, bsome, s_isKnowing w3 hc (xg s3) (by rw [g24 s3]; exact hn) hi, bsome, uB_30 w3 (by decide) (bi_01 _), bsome, ← h4]
    rw [rR_24_6 w4, bsome, s_SitableOf w4 hc (xg s4) hp' (xc s4) (by rw [g24 s4]; exact ht) ht2 hi hb h, bsome, uL_29 w4 (by decide), bsome, ← h5]
  · rw [h5, gI_sL, h4, gI_sI, h3, gI_sL, h2, gI_sI, h1, gI_sL]
  · rw [h5, gL_sL, h4, gL_sI, h3, gL_sL, h2, gL_sI, h1, gL_sL]
/-- the note of the singer that stands last is none, or one ahead -/
def lst (c : CT) (p : PT) (i b : Nat) (last : Int32) : Prop := last = -1 ∨ ∃ k, k < b ∧ last = nI k ∧ sg c p i k = true
theorem s_aim2 {c : CT} {p : PT} {μ : MM} (hw : Wf μ) (hc : WC c) (hx : XG c μ) (hp' : WP p) (hxc : XC p μ) {t g : Nat} {nb : Bool} (ht : gI μ 24 10 = nI t) (ht2 : t < 12) (hg : gI μ 24 9 = nI g) (hg2 : g < 16777216) (hn : gI μ 24 11 = bi nb) {i b : Nat} (hi : i < cN c) (hb : b < 24) (h : sg c p i b = true) {last : Int32} (hl : lst c p i b last) (lp : Int) (y : Bool) : ∃ μ', f_Si_aim_J163 24 (nI i) (nI b) last (lI lp) 30 1 (bi y) μ = some μ' ∧ Sm Pai μ μ' ∧ gI μ' 30 = upd (upd (upd (gI μ 30) 1 (bi y)) 2 1) 3 (bi (knw c nb i)) ∧ gL μ' 29 = vp_updL (vp_updL (vp_updL (gL μ 29) 1 (lI (own c p i b last lp))) 2 (lI (tab c p t i b + gvn c g b))) 3 (lI (tab c p t i b)) := by
  obtain ⟨m1, h1⟩ : ∃ x, x = sI μ 30 1 (bi y) := ⟨_, rfl⟩
  have s1 : Sm Pai μ m1 := by rw [h1]; exact Sm.sI rfl
  have w1 := s1.wf hw
  have xc := hxc.sm s1 (fun _ => rfl) (fun _ => rfl) (fun _ => rfl) (fun _ => rfl)
  have xg := hx.sm s1 Pai_Pcf
  have g24 := s1.gI 24 (fun _ => rfl)
  have gl : gL m1 29 = gL μ 29 := by rw [h1, gL_sI]
  have h8 := hc.1
  have fin : ∀ o : Int, ∃ μ', f_Si_aim_J238 24 (nI i) (nI b) 29 1 (lI o) m1 = some μ' ∧ Sm Pai μ μ' ∧ gI μ' 30 = upd (upd (upd (gI μ 30) 1 (bi y)) 2 1) 3 (bi (knw c nb i)) ∧ gL μ' 29 = vp_updL (vp_updL (vp_updL (gL μ 29) 1 (lI o)) 2 (lI (tab c p t i b + gvn c g b))) 3 (lI (tab c p t i b)) := fun o => by
    obtain ⟨μ', e1, e2, e3, e4⟩ := s_aim3 w1 hc xg hp' xc (t := t) (g := g) (nb := nb) (by rw [g24]; exact ht) ht2 (by rw [g24]; exact hg) hg2 (by rw [g24]; exact hn) hi hb h (lI o)
    refine ⟨μ', e1, s1.tr e2, ?_, ?_⟩
    · rw [e3, h1, gI_sI]
    · rw [e4, gl]
  have k196 : ∀ s0 : Bool, (last = -1 ∨ (last = nI b - 1 ∧ hld (pkey p) (nI (cV c i)) (nI b) = true ↔ s0 = true)) → f_Si_aim_J196 24 (nI i) (nI b) last (lI lp) (bi s0) m1 = f_Si_aim_J238 24 (nI i) (nI b) 29 1 (lI (own c p i b last lp)) m1 := fun s0 hs => by
    unfold f_Si_aim_J196 own
    rw [rR_24_6 w1, bsome]
    by_cases e : last = -1
    · rw [if_pos e, if_pos e]; rfl
    · rw [if_neg e, if_neg e]
      have hs := hs.resolve_left e
      cases s0 with
      | true => rw [if_neg (by decide), if_pos (hs.mpr rfl)]
      | false =>
        rw [if_pos (by decide), if_neg (fun q => by cases hs.mp q)]
        obtain ⟨k, hk, rfl, hsk⟩ := hl.resolve_left e
        rw [s_millsOf w1 hc xg hp' xc hi hb h, bsome, s_millsOf w1 hc xg hp' xc hi (by omega) hsk, bsome, lI_add, lI_sub, nI_toInt (by omega), Int.toNat_natCast]
  obtain ⟨μ', r1, r2⟩ := fin (own c p i b last lp)
  refine ⟨μ', ?_, r2⟩
  rw [← r1]
  unfold f_Si_aim_J163
  rw [show (uB μ 30 1 (bi y)) = some m1 by rw [h1]; exact uB_30 hw (k := 1) (by decide) (bi_01 y), bsome]
  unfold f_Si_aim_J195
  by_cases e : last = nI b - 1
  · rw [if_pos e, rR_24_0 w1, bsome, rR_24_1 w1, bsome, rR_9_1 w1, bsome, aI_10 w1 (by omega), bsome, (xg.2.2.2.2.1 i hi).1, s_holds w1, xc.1, bsome]
    cases e2 : hld (pkey p) (nI (cV c i)) (nI b) with
    | false => rw [if_pos (by decide)]; exact k196 false (Or.inr (by rw [e2]; simp))
    | true => rw [if_neg (by decide)]; exact k196 true (Or.inr ⟨fun _ => rfl, fun _ => ⟨e, e2⟩⟩)
  · rw [if_neg e]; exact k196 false (Or.inr ⟨fun q => absurd q.1 e, fun q => by cases q⟩)
