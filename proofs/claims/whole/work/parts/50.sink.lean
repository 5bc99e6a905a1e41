/-! LAYER 2: tears, keynotes -/
def lml (p : PT) (l : Int32) (k : Nat) : Int := if l = -1 then 0 else ml3 p (24 * l.toInt.toNat + (k - 1)) - ml3 p (24 * l.toInt.toNat + k)
def tby (p : PT) (v k : Nat) (m : Int) : Int := ml3 p (24 * v + k) - ml3 p (24 * v + (k - 1)) + m
def hp (p : PT) (v k : Nat) : Bool := hld (pkey p) (nI v) (nI k)
theorem hp_c {p : PT} {v k : Nat} (hv : v < 6) (hk : k < 24) (h : hp p v k = true) : 0 < k ∧ ¬ pkey p (24 * v + k) = -1 ∧ ¬ pkey p (24 * v + (k - 1)) = -1 ∧ pkey p (24 * v + k) = pkey p (24 * v + (k - 1)) := hld_c hv hk h
/-- a link is none or a held voice -/
def lok (p : PT) (l : Int32) (k : Nat) : Prop := l = -1 ∨ ∃ v, v < 6 ∧ l = nI v ∧ hp p v k = true
theorem lok_of {p : PT} {l : Int32} {k : Nat} (h : l = -1 ∨ hld (pkey p) l (nI k) = true) : lok p l k := by
  rcases h with h | h
  · exact Or.inl h
  · obtain ⟨v, k2, a1, a2, a3, a4, a5, a6, a7⟩ := hld_in h
    exact Or.inr ⟨v, a1, a4, by unfold hp; rw [← a4]; exact h⟩
theorem lok_pln {p : PT} (hp' : WP p) {k : Nat} (hk : k < 24) : lok p (pln p k) k := lok_of (hp'.2.2 k hk)
theorem lmv_mil (p : PT) (k : Nat) : mil (lmv (pln p) (pa p) k) (lmv (pln p) (pb p) k) (lmv (pln p) (pc p) k) = lml p (pln p k) k := by
  unfold lmv lml ml3 mil
  by_cases h : pln p k = -1
  · simp only [if_pos h]; omega
  · simp only [if_neg h]; omega
theorem kmil_s (p : PT) (k : Nat) : kmil p (k + 1) - kmil p k = lml p (pln p (k + 1)) (k + 1) := by
  rw [← lmv_mil]
  unfold kmil mil
  simp only [kx]
  omega
theorem kmil_m {p : PT} {k : Nat} (h : 0 < k) : kmil p k - kmil p (k - 1) = lml p (pln p k) k := by
  obtain ⟨j, rfl⟩ : ∃ j, k = j + 1 := ⟨k - 1, by omega⟩
  rw [Nat.add_sub_cancel]; exact kmil_s p j
theorem ml3_b {p : PT} (hw : WP p) {c : Nat} (hc : c < 144) (hn : ¬ pkey p c = -1) : -3000000 ≤ ml3 p c ∧ ml3 p c ≤ 3000000 := (hw.2.1 c hc hn).2
theorem lml_b {p : PT} (hw : WP p) {l : Int32} {k : Nat} (hk : k < 24) (hl : lok p l k) : -6000000 ≤ lml p l k ∧ lml p l k ≤ 6000000 := by
  rcases hl with rfl | ⟨v, hv, rfl, h⟩
  · unfold lml; rw [if_pos rfl]; decide
  · obtain ⟨h0, h1, h2, -⟩ := hp_c hv hk h
    have b1 := ml3_b hw (c := 24 * v + k) (by omega) h1
    have b2 := ml3_b hw (c := 24 * v + (k - 1)) (by omega) h2
    unfold lml
    rw [if_neg (nI_ne_m1 (by omega)), nI_toInt (by omega), Int.toNat_natCast]
    omega
theorem tby_b {p : PT} (hw : WP p) {v k : Nat} (hv : v < 6) (hk : k < 24) (h : hp p v k = true) {m : Int} (hm : -6000000 ≤ m ∧ m ≤ 6000000) : -12000000 ≤ tby p v k m ∧ tby p v k m ≤ 12000000 := by
  obtain ⟨h0, h1, h2, -⟩ := hp_c hv hk h
  have b1 := ml3_b hw (c := 24 * v + k) (by omega) h1
  have b2 := ml3_b hw (c := 24 * v + (k - 1)) (by omega) h2
  unfold tby; omega
theorem s_sizeAt {p : PT} {μ : MM} (h : Wf μ) (hm : MP p μ) {v k : Nat} (hv : v < 6) (hk : k < 24) (hn : ¬ pkey p (24 * v + k) = -1) : f_M_sizeAt 49 (nI v) (nI k) μ = some (oI (ml3 p (24 * v + k))) := by
  obtain ⟨e1, e2, e3⟩ := hm.2.2.1 (24 * v + k) (by omega) hn
  unfold f_M_sizeAt f_M_cellOf
  rw [kO_49 h, bsome, rR_49_3 h, bsome, bsome, cellN', aI_52 h (by omega), bsome, rR_49_4 h, bsome, bsome, aI_53 h (by omega), bsome, rR_49_5 h, bsome, bsome, aI_54 h (by omega), bsome, e1, e2, e3, s_Mmills]
  rfl
theorem s_tornBy {p : PT} {μ : MM} (h : Wf μ) (hm : MP p μ) {v k : Nat} (hv : v < 6) (hk : k < 24) (hh : hp p v k = true) {l : Int32} (hl : lok p l k) : f_M_tornBy 49 (nI v) (nI k) l μ = some (oI (tby p v k (lml p l k))) := by
  obtain ⟨h0, h1, h2, -⟩ := hp_c hv hk hh
  have fin : ∀ m : Int, f_M_tornBy_J24 49 (nI v) (nI k) (oI m) μ = some (oI (tby p v k m)) := fun m => by
    unfold f_M_tornBy_J24
    rw [s_sizeAt h hm hv hk h1, bsome, nI_m1 h0, s_sizeAt h hm hv (by omega) h2, bsome, oI_sub, oI_add]; rfl
  unfold f_M_tornBy
  rw [kO_49 h, bsome]
  rcases hl with rfl | ⟨u, hu, rfl, hl⟩
  · rw [if_pos rfl]; exact fin 0
  · obtain ⟨g0, g1, g2, -⟩ := hp_c hu hk hl
    rw [if_neg (nI_ne_m1 (by omega)), nI_m1 h0, s_sizeAt h hm hu (by omega) g2, bsome, s_sizeAt h hm hu hk g1, bsome, oI_sub, fin]
    unfold lml
    rw [if_neg (nI_ne_m1 (by omega)), nI_toInt (by omega), Int.toNat_natCast]
theorem s_tearBy {p : PT} {μ : MM} (h : Wf μ) (hx : XC p μ) {v k : Nat} (hv : v < 6) (hk : k < 24) (m : Int) : f_Sc_tearBy 1 (nI v) (nI k) (oI m) μ = some (if hp p v k = true then oI (tby p v k m) else 0) := by
  unfold f_Sc_tearBy
  rw [kO_1 h, bsome, s_holds h, hx.1, bsome]
  cases hh : hld (pkey p) (nI v) (nI k) with
  | false => rw [show hp p v k = false from hh]; rfl
  | true =>
    rw [show hp p v k = true from hh]
    obtain ⟨h0, h1, h2, -⟩ := hp_c hv hk hh
    rw [if_neg (by decide), rR_1_2 h, bsome, s_cell, bsome, aI_4 h (by omega), bsome, bsome, nI_m1 h0, s_cell, bsome, aI_4 h (by omega), bsome, (hx.2.2 _ (by omega) h1).2, (hx.2.2 _ (by omega) h2).2, oI_sub, oI_add, if_pos rfl]; rfl
theorem s_tear {p : PT} {μ : MM} (h : Wf μ) (hx : XP p μ) {v k : Nat} (hv : v < 6) (hk : k < 24) : f_Sc_tear 1 (nI v) (nI k) μ = some (if hp p v k = true then oI (tby p v k (lml p (pln p k) k)) else 0) := by
  unfold f_Sc_tear
  rw [kO_1 h, bsome, s_holds h, hx.1.1, bsome]
  cases hh : hld (pkey p) (nI v) (nI k) with
  | false => rw [show hp p v k = false from hh]; rfl
  | true =>
    rw [show hp p v k = true from hh]
    obtain ⟨h0, h1, h2, -⟩ := hp_c hv hk hh
    rw [if_neg (by decide), rR_1_5 h, bsome, aI_7 h (by omega), bsome, bsome, nI_m1 h0, aI_7 h (by omega), bsome, (hx.2.2 _ hk).2, (hx.2.2 _ (by omega)).2, oI_sub, kmil_m h0, s_tearBy h hx.1 hv hk, show hp p v k = true from hh]; rfl
theorem torn_ok {p : PT} {μ : MM} (hp' : WP p) (hw : Wf μ) (hx : XP p μ) (hm : MP p μ) (x1 x2 : Int32) : ∃ r, f_X_torn 0 x1 x2 μ = some r ∧ f_M_torn 49 x1 x2 μ = some r := by
  unfold f_X_torn f_M_torn
  rw [kO_0 hw, bsome, rR_0_0 hw, bsome, s_holds hw, hx.1.1, bsome, kO_49 hw, bsome, s_isHeld hw, hm.1, bsome]
  cases hh : hld (pkey p) x1 x2 with
  | false => exact ⟨_, rfl, rfl⟩
  | true =>
    obtain ⟨v, k, hv, k0, hk, rfl, rfl, -, -⟩ := hld_in hh
    rw [if_neg (by decide), bsome, if_neg (by decide), s_tear hw hx hv hk, if_pos (show hp p v k = true from hh), rR_49_7 hw, bsome, bsome, aI_56 hw (by omega), bsome, hm.2.1, s_tornBy hw hm hv hk hh (lok_pln hp' hk)]
    exact ⟨_, rfl, rfl⟩
theorem s_hp {p : PT} {μ : MM} (h : Wf μ) (hx : XC p μ) (v k : Nat) : f_Sc_holds 1 (nI v) (nI k) μ = some (bi (hp p v k)) := by rw [s_holds h, hx.1]; rfl
theorem s_hpM {p : PT} {μ : MM} (h : Wf μ) (hm : MP p μ) (v k : Nat) : f_M_isHeld 49 (nI v) (nI k) μ = some (bi (hp p v k)) := by rw [s_isHeld h, hm.1]; rfl
theorem obits_t {f : Nat → Bool} {n : Nat} (h : f n = true) : obits f (n + 1) = obits f n ||| ishl 1 (nI n) := by simp only [obits]; rw [if_pos h]
theorem obits_f {f : Nat → Bool} {n : Nat} (h : f n = false) : obits f (n + 1) = obits f n ||| 0 := by simp only [obits]; rw [if_neg (by rw [h]; decide)]
theorem s_heldIn {p : PT} {μ : MM} (h : Wf μ) (hx : XC p μ) {k : Nat} (hk : k < 24) : f_Sc_heldIn 1 (nI k) μ = some (obits (fun v => hp p v k) 6) := by
  unfold f_Sc_heldIn
  rw [kO_1 h, bsome]
  refine upA 6 (fun n v => f_Sc_heldIn_L4 1 (nI k) μ n (obits (fun v => hp p v k) v) (nI v)) _ (fun n => ?_) (fun n v hv => ?_) 0 FU (by decide) (by decide)
  · show f_Sc_heldIn_L4 1 (nI k) μ (n + 1) _ (nI 6) = _
    rw [e_Sc_heldIn_L4, if_pos (by decide)]
  · show f_Sc_heldIn_L4 1 (nI k) μ (n + 1) _ (nI v) = f_Sc_heldIn_L4 1 (nI k) μ n _ (nI (v + 1))
    rw [e_Sc_heldIn_L4, if_neg (show ¬ (6 : Int32) ≤ nI v from nI_ge (b := 6) (by omega) (by omega)), s_hp h hx, bsome]
    unfold f_Sc_heldIn_J27
    rw [nI_1]
    cases e : hp p v k with
    | false => rw [obits_f (f := fun v => hp p v k) e]; rfl
    | true => rw [obits_t (f := fun v => hp p v k) e]; rfl
def trn (p : PT) (v k : Nat) : Bool := hp p v k && decide (¬ oI (tby p v k (lml p (pln p k) k)) = 0)
theorem s_tornIn {p : PT} {μ : MM} (h : Wf μ) (hx : XP p μ) {k : Nat} (hk : k < 24) : f_Sc_tornIn 1 (nI k) μ = some (obits (fun v => trn p v k) 6) := by
  unfold f_Sc_tornIn
  rw [kO_1 h, bsome]
  refine upA 6 (fun n v => f_Sc_tornIn_L4 1 (nI k) μ n (obits (fun v => trn p v k) v) (nI v)) _ (fun n => ?_) (fun n v hv => ?_) 0 FU (by decide) (by decide)
  · show f_Sc_tornIn_L4 1 (nI k) μ (n + 1) _ (nI 6) = _
    rw [e_Sc_tornIn_L4, if_pos (by decide)]
  · show f_Sc_tornIn_L4 1 (nI k) μ (n + 1) _ (nI v) = f_Sc_tornIn_L4 1 (nI k) μ n _ (nI (v + 1))
    rw [e_Sc_tornIn_L4, if_neg (show ¬ (6 : Int32) ≤ nI v from nI_ge (b := 6) (by omega) (by omega)), s_tear h hx hv hk, bsome]
    unfold f_Sc_tornIn_J27
    rw [nI_1]
    cases e : hp p v k with
    | false => rw [obits_f (f := fun v => trn p v k) (by unfold trn; rw [e]; rfl)]; rfl
    | true =>
      rw [if_pos rfl]
      by_cases e2 : oI (tby p v k (lml p (pln p k) k)) = 0
      · rw [if_pos e2, obits_f (f := fun v => trn p v k) (by unfold trn; rw [decide_eq_false (fun z => z e2), Bool.and_false])]
      · rw [if_neg e2, obits_t (f := fun v => trn p v k) (by unfold trn; rw [decide_eq_true e2, e]; rfl)]
/-- by how much a link would move an exponent -/
def lvl (e : Nat → Int) (l : Int32) (k : Nat) : Int := if l = -1 then 0 else e (24 * l.toInt.toNat + (k - 1)) - e (24 * l.toInt.toNat + k)
def Pgo (a k : Nat) : Bool := a == 49 && (k == 8 || k == 9 || k == 10)
theorem MP.go {p : PT} {μ μ' : MM} (h : MP p μ) (s : Sm Pgo μ μ') : MP p μ' := h.sm s (fun a k h1 h2 => by simp [Pgo]; omega)
theorem s_leap {p : PT} {μ : MM} (h : Wf μ) {a : Nat} {e : Nat → Int} (ha : ∀ c, c < 144 → aI μ a (nI c) = some (gI μ a c)) (he : ∀ c, c < 144 → ¬ pkey p c = -1 → gI μ a c = oI (e c)) {l : Int32} {k : Nat} (hk : k < 24) (hl : lok p l k) : f_M_leap 49 a l (nI k) μ = some (oI (lvl e l k)) := by
  unfold f_M_leap f_M_cellOf lvl
  rw [kO_49 h, bsome]
  rcases hl with rfl | ⟨u, hu, rfl, hl⟩
  · rw [if_pos rfl, if_pos rfl]; rfl
  · obtain ⟨g0, g1, g2, -⟩ := hp_c hu hk hl
    rw [if_neg (nI_ne_m1 (by omega)), if_neg (nI_ne_m1 (by omega)), bsome, nI_m1 g0, cellN', cellN', ha _ (by omega), bsome, bsome, ha _ (by omega), bsome, he _ (by omega) g1, he _ (by omega) g2, oI_sub, nI_toInt (by omega)]; rfl
theorem s_leap2 {p : PT} {μ : MM} (h : Wf μ) (hm : MP p μ) {l : Int32} {k : Nat} (hk : k < 24) (hl : lok p l k) : f_M_leap 49 52 l (nI k) μ = some (oI (lvl (pa p) l k)) := s_leap h (fun _ hc => aI_52 h hc) (fun c hc hn => (hm.2.2.1 c hc hn).1) hk hl
theorem s_leap3 {p : PT} {μ : MM} (h : Wf μ) (hm : MP p μ) {l : Int32} {k : Nat} (hk : k < 24) (hl : lok p l k) : f_M_leap 49 53 l (nI k) μ = some (oI (lvl (pb p) l k)) := s_leap h (fun _ hc => aI_53 h hc) (fun c hc hn => (hm.2.2.1 c hc hn).2.1) hk hl
theorem s_leap5 {p : PT} {μ : MM} (h : Wf μ) (hm : MP p μ) {l : Int32} {k : Nat} (hk : k < 24) (hl : lok p l k) : f_M_leap 49 54 l (nI k) μ = some (oI (lvl (pc p) l k)) := s_leap h (fun _ hc => aI_54 h hc) (fun c hc hn => (hm.2.2.1 c hc hn).2.2) hk hl
theorem s_goesTo {p : PT} {μ : MM} (hp' : WP p) (hw : Wf μ) (hm : MP p μ) {b : Nat} (hb : b < 24) : ∃ μ', f_M_goesTo 49 (nI b) μ = some μ' ∧ Sm Pgo μ μ' ∧ gI μ' 49 8 = oI (kx (pln p) (pa p) b) ∧ gI μ' 49 9 = oI (kx (pln p) (pb p) b) ∧ gI μ' 49 10 = oI (kx (pln p) (pc p) b) := by
  unfold f_M_goesTo
  obtain ⟨μ0, hμ0⟩ : ∃ x, x = sI (sI (sI μ 49 8 0) 49 9 0) 49 10 0 := ⟨_, rfl⟩
  have w1 : Wf (sI μ 49 8 0) := hw
  have w2 : Wf (sI (sI μ 49 8 0) 49 9 0) := hw
  have s0 : Sm Pgo μ μ0 := by rw [hμ0]; exact ((Sm.sI rfl).tr (Sm.sI rfl)).tr (Sm.sI rfl)
  rw [kO_49 hw, bsome, pI_49 hw, bsome, pI_49 w1, bsome, pI_49 w2, bsome, ← hμ0]
  have st := upM (b + 1) (fun k s => 0 < k ∧ Sm Pgo μ s ∧ gI s 49 8 = oI (kx (pln p) (pa p) (k - 1)) ∧ gI s 49 9 = oI (kx (pln p) (pb p) (k - 1)) ∧ gI s 49 10 = oI (kx (pln p) (pc p) (k - 1)))
    (fun n k s => f_M_goesTo_L17 49 (nI b) n (nI k) s) (fun μ' => Sm Pgo μ μ' ∧ gI μ' 49 8 = oI (kx (pln p) (pa p) b) ∧ gI μ' 49 9 = oI (kx (pln p) (pb p) b) ∧ gI μ' 49 10 = oI (kx (pln p) (pc p) b))
    (fun n s hi => ⟨s, by rw [e_M_goesTo_L17, if_pos (nI_lt (by omega) (by omega))], hi.2⟩)
    (fun n k s hk ⟨k0, hs, g8, g9, g10⟩ => Or.inr ?_) 1 FU μ0 (by omega) (by unfold FU; omega) ⟨by decide, s0, by rw [hμ0]; simp [gI_sI, gI_sI_ne, upd, kx]; rfl, by rw [hμ0]; simp [gI_sI, gI_sI_ne, upd, kx]; rfl, by rw [hμ0]; simp [gI_sI, gI_sI_ne, upd, kx]; rfl⟩
  · exact st
  · obtain ⟨j, rfl⟩ : ∃ j, k = j + 1 := ⟨k - 1, by omega⟩
    rw [Nat.add_sub_cancel] at g8 g9 g10
    have hws := hs.wf hw
    have hms := hm.go hs
    obtain ⟨s1, hs1⟩ : ∃ x, x = sI s 49 8 (oI (kx (pln p) (pa p) j + lvl (pa p) (pln p (j + 1)) (j + 1))) := ⟨_, rfl⟩
    obtain ⟨s2, hs2⟩ : ∃ x, x = sI s1 49 9 (oI (kx (pln p) (pb p) j + lvl (pb p) (pln p (j + 1)) (j + 1))) := ⟨_, rfl⟩
    obtain ⟨s3, hs3⟩ : ∃ x, x = sI s2 49 10 (oI (kx (pln p) (pc p) j + lvl (pc p) (pln p (j + 1)) (j + 1))) := ⟨_, rfl⟩
    have t1 : Sm Pgo s s1 := by rw [hs1]; exact Sm.sI rfl
    have t2 : Sm Pgo s1 s2 := by rw [hs2]; exact Sm.sI rfl
    have t3 : Sm Pgo s2 s3 := by rw [hs3]; exact Sm.sI rfl
    have hw1 := t1.wf hws
    have hw2 := t2.wf hw1
    have hm1 := hms.go t1
    have hm2 := hm1.go t2
    have hl := lok_pln hp' (k := j + 1) (by omega)
    refine ⟨s3, ?_, by omega, ((hs.tr t1).tr t2).tr t3, by rw [hs3, hs2, hs1]; simp [gI_sI, upd]; rfl, by rw [hs3, hs2, hs1]; simp [gI_sI, upd]; rfl, by rw [hs3, hs2, hs1]; simp [gI_sI, upd]; rfl⟩
    have g91 : gI s1 49 9 = gI s 49 9 := by rw [hs1]; simp [gI_sI, upd]
    have g101 : gI s2 49 10 = gI s 49 10 := by rw [hs2, hs1]; simp [gI_sI, upd]
    show f_M_goesTo_L17 49 (nI b) (n + 1) (nI (j + 1)) s = _
    rw [e_M_goesTo_L17, if_neg (nI_nlt (by omega) (by omega)), rI_49 hws, bsome, rR_49_3 hws, bsome, rR_49_7 hws, bsome, aI_56 hws (by omega), bsome, hms.2.1, s_leap2 hws hms (by omega) hl, bsome, g8, oI_add, pI_49 hws, bsome]
    rw [← hs1, rI_49 hw1, bsome, rR_49_4 hw1, bsome, rR_49_7 hw1, bsome, aI_56 hw1 (by omega), bsome, hm1.2.1, s_leap3 hw1 hm1 (by omega) hl, bsome, g91, g9, oI_add, pI_49 hw1, bsome]
    rw [← hs2, rI_49 hw2, bsome, rR_49_5 hw2, bsome, rR_49_7 hw2, bsome, aI_56 hw2 (by omega), bsome, hm2.2.1, s_leap5 hw2 hm2 (by omega) hl, bsome, g101, g10, oI_add, pI_49 hw2, bsome, nI_1]
    rw [← hs3]
theorem s_keynoteOf {p : PT} {μ : MM} (hp' : WP p) (hw : Wf μ) (hm : MP p μ) {b : Nat} (hb : b < 24) : ∃ μ', f_M_keynoteOf 49 (nI b) μ = some (oI (kmil p b), μ') ∧ Sm Pgo μ μ' ∧ gI μ' 49 8 = oI (kx (pln p) (pa p) b) ∧ gI μ' 49 9 = oI (kx (pln p) (pb p) b) ∧ gI μ' 49 10 = oI (kx (pln p) (pc p) b) := by
  obtain ⟨μ', e, s, g8, g9, g10⟩ := s_goesTo hp' hw hm hb
  refine ⟨μ', ?_, s, g8, g9, g10⟩
  unfold f_M_keynoteOf
  have w := s.wf hw
  rw [kO_49 hw, bsome, e, bsome, rI_49 w, bsome, rI_49 w, bsome, rI_49 w, bsome, g8, g9, g10, s_Mmills, bsome]; rfl
