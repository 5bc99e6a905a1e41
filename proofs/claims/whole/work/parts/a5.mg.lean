/-! LAYER 2: ways: way and change in both -/
def Nf (P : Nat → Nat → Bool) (μ μ' : MM) : Prop := Fr P R08 (μ'.1, μ.2) μ'
theorem Nf.rf {P : Nat → Nat → Bool} {μ : MM} : Nf P μ μ := Fr.rf
theorem Nf.sm {P : Nat → Nat → Bool} {μ μ1 μ2 : MM} (h : Nf P μ μ1) (s : Sm P μ1 μ2) : Nf P μ μ2 :=
  ⟨rfl, fun a k hk => (congrFun (s.gRf a) k).trans (h.2.1 a k hk), fun a k hk => ⟨(s.2.2 a k hk).1.trans (h.2.2 a k hk).1, (s.2.2 a k hk).2.trans (h.2.2 a k hk).2⟩⟩
theorem Nf.mono {P P' : Nat → Nat → Bool} {μ μ' : MM} (h : Nf P μ μ') (hp : ∀ a k, P' a k = false → P a k = false) : Nf P' μ μ' := Fr.mono h hp (fun _ _ z => z)
theorem Nf.ngI {P : Nat → Nat → Bool} {μ μ' : MM} (h : Nf P μ μ') (a : Nat) (ha : ∀ k, P a k = false) : gI μ' a = gI μ a := Fr.gI h a ha
theorem Nf.xc {p : PT} {μ μ' : MM} (h : Nf Pwy μ μ') (hx : XC p μ) : XC p μ' := by
  obtain ⟨h1, h2, h3⟩ := hx
  have g : ∀ a, a < 92 → gI μ' a = gI μ a := fun a ha => h.ngI a (fun _ => Pwy_n ha)
  exact ⟨by rw [g 2 (by decide)]; exact h1, by rw [g 6 (by decide)]; exact h2, fun c hc hn => by rw [g 3 (by decide), g 4 (by decide)]; exact h3 c hc hn⟩
theorem Nf.mp {p : PT} {μ μ' : MM} (h : Nf Pwy μ μ') (hm : MP p μ) : MP p μ' := by
  obtain ⟨h1, h2, h3, h4⟩ := hm
  have g : ∀ a, a < 92 → gI μ' a = gI μ a := fun a ha => h.ngI a (fun _ => Pwy_n ha)
  exact ⟨by rw [g 51 (by decide)]; exact h1, by rw [g 56 (by decide)]; exact h2, fun c hc hn => by rw [g 52 (by decide), g 53 (by decide), g 54 (by decide)]; exact h3 c hc hn, fun v hv b hb => by rw [g 55 (by decide)]; exact h4 v hv b hb⟩
/-- ways: not made yet, or as they must be -/
def WY (μ : MM) : Prop := (gR μ 0 8 = none ∧ μ.1.length = 92) ∨ (gR μ 0 8 = some 92 ∧ Ww μ ∧ z97 μ ∧ μ.1.length = 100)
def WZ (μ : MM) : Prop := gR μ 0 8 = some 92 ∧ Ww μ ∧ z97 μ ∧ μ.1.length = 100
theorem s_explored {p : PT} (hp' : WP p) {l : Nat} (hl : l < 24) (hlb : lbt p = nI l) {μ : MM} (hw : Wf μ) (hx : XC p μ) (hy : WY μ) : ∃ o μ', f_X_explored 0 μ = some (o, μ') ∧ Nf Pwy μ μ' ∧ Wf μ' ∧ WZ μ' ∧ ((o = none ∧ ∃ c, c ≤ l ∧ Bg p c) ∨ (o = some 92 ∧ WX p l μ')) := by
  have j22 : ∀ m, Nf Pwy μ m → Wf m → WZ m → ∃ o μ', f_X_explored_J22 0 m = some (o, μ') ∧ Nf Pwy μ μ' ∧ Wf μ' ∧ WZ μ' ∧ ((o = none ∧ ∃ c, c ≤ l ∧ Bg p c) ∨ (o = some 92 ∧ WX p l μ')) := fun m nf wm ⟨r8, ww, zz, ln⟩ => by
    obtain ⟨r, m', e, s, z', res⟩ := s_explore hp' hl hlb wm (nf.xc hx) ww zz
    have wm' := s.wf wm
    have r8' : gR m' 0 8 = some 92 := by rw [s.gRf 0]; exact r8
    unfold f_X_explored_J22
    rw [rR_0 wm, r8, bsome, e, bsome]
    rcases res with ⟨rfl, bg⟩ | ⟨rfl, hX⟩
    · rw [if_pos rfl]
      exact ⟨none, m', rfl, nf.sm s, wm', ⟨r8', s.ww ww, z', by rw [s.1]; exact ln⟩, Or.inl ⟨rfl, bg⟩⟩
    · rw [if_neg (show ¬ (1 : Int32) = 0 by decide), rN_0 wm', bsome, r8']
      exact ⟨some 92, m', rfl, nf.sm s, wm', ⟨r8', s.ww ww, z', by rw [s.1]; exact ln⟩, Or.inr ⟨rfl, hX⟩⟩
  rcases hy with ⟨r8, len⟩ | ⟨r8, ww, zz, ln⟩
  · obtain ⟨m1, e1, w1, ww1, r1, z1, l1, f1⟩ := s_create hw len r8
    rw [e1]
    exact j22 m1 f1 w1 ⟨r1, ww1, z1, l1⟩
  · unfold f_X_explored
    rw [kO_0 hw, bsome, rN_0 hw, bsome, r8]
    exact j22 μ Nf.rf hw ⟨r8, ww, zz, ln⟩
theorem lbt_c (p : PT) : lbt p = -1 ∨ ∃ l, l < 24 ∧ lbt p = nI l := by
  rcases lastb_c (f := snds p) 24 with ⟨h1, -⟩ | ⟨j, h1, h2, -, -⟩
  · exact Or.inl h1
  · exact Or.inr ⟨j, h1, h2⟩
def askd (x1 : Int32) : Prop := x1 = -1 ∨ ∃ a, 0 < a ∧ a < 24 ∧ x1 = nI a
theorem askd_c (x1 : Int32) : askd x1 ∨ (¬ x1 = -1 ∧ (x1 < (1 : Int32) ∨ (24 : Int32) ≤ x1) ∧ ¬ (1 ≤ x1.toInt ∧ x1.toInt ≤ 23)) := by
  by_cases q : x1 = -1
  · exact Or.inl (Or.inl q)
  · by_cases h : 1 ≤ x1.toInt ∧ x1.toInt ≤ 23
    · refine Or.inl (Or.inr ⟨x1.toInt.toNat, by omega, by omega, ?_⟩)
      have := (oI_eq (x := x1) (z := x1.toInt) (by omega) (by omega)).mp rfl
      rw [oI_nI, Int.toNat_of_nonneg (by omega)]; exact this
    · refine Or.inr ⟨q, ?_, h⟩
      by_cases h1 : x1 < (1 : Int32)
      · exact Or.inl h1
      · rw [toInt_lt] at h1
        have : (1 : Int32).toInt = 1 := by decide
        right
        rw [toInt_le, show (24 : Int32).toInt = 24 by decide]
        omega
theorem s_asksRow {p : PT} {μ : MM} (hw : Wf μ) (hx : XC p μ) {x1 : Int32} : (askd x1 → f_X_asksRow 0 x1 μ = some (if lbt p = -1 then 0 else 1)) ∧ (¬ x1 = -1 ∧ (x1 < (1 : Int32) ∨ (24 : Int32) ≤ x1) → f_X_asksRow 0 x1 μ = some 0) := by
  have j16 : f_X_asksRow_J16 0 μ = some (if lbt p = -1 then 0 else 1) := by
    unfold f_X_asksRow_J16
    rw [rR_0_0 hw, bsome, s_lastBeat hw hx, bsome]
    by_cases q : lbt p = -1
    · rw [if_pos q, if_pos q]
    · rw [if_neg q, if_neg q]
  constructor
  · rintro (h | ⟨a, a0, a1, rfl⟩)
    · unfold f_X_asksRow
      rw [kO_0 hw, bsome, if_pos h, j16]
    · unfold f_X_asksRow
      rw [kO_0 hw, bsome, if_neg (nI_ne_m1 (by omega)), if_neg (by rw [show (1 : Int32) = nI 1 from rfl, clt (by omega) (by omega)]; omega), if_neg (by rw [show (24 : Int32) = nI 24 from rfl, cle (by omega) (by omega)]; omega), j16]
  · rintro ⟨h1, h2⟩
    unfold f_X_asksRow
    rw [kO_0 hw, bsome, if_neg h1]
    by_cases q : x1 < (1 : Int32)
    · rw [if_pos q]
    · rw [if_neg q, if_pos (h2.resolve_left q)]
def Pzz (x k : Nat) : Bool := Pwy x k || Pmm x k
theorem Pzz_1 (x k : Nat) (h : Pzz x k = false) : Pwy x k = false := (Bool.or_eq_false_iff.mp h).1
theorem Pzz_2 (x k : Nat) (h : Pzz x k = false) : Pmm x k = false := (Bool.or_eq_false_iff.mp h).2
theorem WZ.sm {μ μ' : MM} (h : WZ μ) (s : Sm Pmm μ μ') : WZ μ' := by
  obtain ⟨h1, h2, h3, h4⟩ := h
  exact ⟨by rw [s.gRf 0]; exact h1, s.ww h2, fun b hb => by rw [s.gI 97 (fun _ => Pmm_n (Or.inr (by decide)) (by decide))]; exact h3 b hb, by rw [s.1]; exact h4⟩
/-- the same in both: by foulness, or by changes -/
theorem s_rowOf {p : PT} (hp' : WP p) {l : Nat} (hl : l < 24) {y : Bool} {x1 : Int32} (hk : askd x1) (hlb : lbt p = nI l) {μ : MM} (hw : Wf μ) (hm : MP p μ) : ∃ r μ', f_M_rowOf 49 x1 (bi y) μ = some (r, μ') ∧ Sm Pmm μ μ' ∧ ((r = -2 ∧ ∃ c, c < l + 1 ∧ Bg p c) ∨ ((∀ c, c < l + 1 → ¬ Bg p c) ∧ ((r = -2 ∧ DD p y l l 0 = none) ∨ ∃ v, DD p y l l 0 = some v ∧ r = if x1 = -1 then oI v else rwz p y l l 0 x1.toInt.toNat))) := by
  obtain ⟨r, μ1, e1, s1, res⟩ := s_finds hp' hl (y := y) hw hm
  have w1 := s1.wf hw
  have j30 : ∃ r μ', f_M_rowOf_J30 49 x1 (bi y) (nI l) μ = some (r, μ') ∧ Sm Pmm μ μ' ∧ ((r = -2 ∧ ∃ c, c < l + 1 ∧ Bg p c) ∨ ((∀ c, c < l + 1 → ¬ Bg p c) ∧ ((r = -2 ∧ DD p y l l 0 = none) ∨ ∃ v, DD p y l l 0 = some v ∧ r = if x1 = -1 then oI v else rwz p y l l 0 x1.toInt.toNat))) := by
    unfold f_M_rowOf_J30
    rw [e1, bsome]
    rcases res with ⟨rfl, bg⟩ | ⟨nb, ⟨rfl, no⟩ | ⟨rfl, v, hv, h17, row⟩⟩
    · rw [if_pos rfl]
      exact ⟨-2, μ1, rfl, s1, Or.inl ⟨rfl, bg⟩⟩
    · rw [if_pos rfl]
      exact ⟨-2, μ1, rfl, s1, Or.inr ⟨nb, Or.inl ⟨rfl, no⟩⟩⟩
    · rw [if_neg (show ¬ (1 : Int32) = 0 by decide)]
      rcases hk with h | ⟨a, a0, a1, rfl⟩
      · rw [if_pos h, rL_49 w1, bsome, h17]
        exact ⟨_, μ1, rfl, s1, Or.inr ⟨nb, Or.inr ⟨v, hv, by rw [if_pos h, lI_i]⟩⟩⟩
      · rw [if_neg (nI_ne_m1 (by omega)), rR_49_16 w1, bsome, aI_62 w1 a1, bsome, row a a0 a1]
        exact ⟨_, μ1, rfl, s1, Or.inr ⟨nb, Or.inr ⟨v, hv, by rw [if_neg (nI_ne_m1 (by omega)), nI_toInt (by omega), Int.toNat_natCast]⟩⟩⟩
  unfold f_M_rowOf
  rw [kO_49 hw, bsome, s_lastBeatM hw hm, bsome, hlb, if_neg (nI_ne_m1 (by omega))]
  rcases hk with h | ⟨a, a0, a1, rfl⟩
  · rw [if_pos h]; exact j30
  · rw [if_neg (nI_ne_m1 (by omega)), s_liesI _ _ _ 1 23 (by decide) (by decide), bsome, if_neg (by rw [nI_toInt (by omega), decide_eq_true (by omega)]; decide)]
    exact j30
theorem rows_ok {p : PT} (hp' : WP p) {l : Nat} (hl : l < 24) {y : Bool} {x1 : Int32} (hk : askd x1) (hlb : lbt p = nI l) {μ : MM} (hw : Wf μ) (hx : XC p μ) (hm : MP p μ) (hy : WY μ) : ∃ r μ1 μ2, ((f_X_explored 0 μ).bind fun q12 => q12.1.elim (some ((-2 : Int32), q12.2)) (fun z17 => (f_Wa_leastRow z17 (bi y) q12.2).bind fun q22 => if q22.1 = 0 then (some ((-2 : Int32), q22.2)) else (f_Wa_told z17 x1 q22.2).bind fun y30 => some (y30, q22.2))) = some (r, μ1) ∧ f_M_rowOf 49 x1 (bi y) μ1 = some (r, μ2) ∧ Nf Pzz μ μ2 ∧ Wf μ2 ∧ WZ μ2 ∧ Wf μ1 := by
  obtain ⟨o, m1, e1, n1, w1, z1, res⟩ := s_explored hp' hl hlb hw hx hy
  have hx1 := n1.xc hx
  have hm1 := n1.mp hm
  rw [e1, bsome]
  have fin : ∀ m r, Nf Pwy μ m → Wf m → WZ m → ∀ r' μ2, f_M_rowOf 49 x1 (bi y) m = some (r', μ2) → Sm Pmm m μ2 → r' = r → f_M_rowOf 49 x1 (bi y) m = some (r, μ2) ∧ Nf Pzz μ μ2 ∧ Wf μ2 ∧ WZ μ2 ∧ Wf m := fun m r nf wm zm r' μ2 e s er => ⟨by rw [e, er], (nf.mono Pzz_1).sm (s.mono Pzz_2), s.wf wm, zm.sm s, wm⟩
  rcases res with ⟨rfl, bg⟩ | ⟨rfl, hX⟩
  · obtain ⟨r', μ2, e2, s2, res2⟩ := s_rowOf hp' hl (y := y) hk hlb w1 hm1
    refine ⟨-2, m1, μ2, rfl, fin m1 (-2) n1 w1 z1 r' μ2 e2 s2 ?_⟩
    rcases res2 with ⟨h, -⟩ | ⟨nb, -⟩
    · exact h
    · obtain ⟨c, c1, c2⟩ := bg
      exact absurd c2 (nb c (by omega))
  · have nb : ∀ c, c < l + 1 → ¬ Bg p c := fun c hc => by
      obtain ⟨n, f, h1, h2⟩ := hX.2.1 c hc
      exact h2.nb h1.2.1
    obtain ⟨r, m2, e2, s2, n97, res2⟩ := s_leastRow hp' hl (y := y) w1 hx1 z1.2.1 hX
    have w2 := s2.wf w1
    have ww2 := s2.ww z1.2.1
    have z2 : WZ m2 := ⟨by rw [s2.gRf 0]; exact z1.1, ww2, fun b hb => by rw [n97]; exact z1.2.2.1 b hb, by rw [s2.1]; exact z1.2.2.2⟩
    have nf2 := n1.sm s2
    obtain ⟨r', μ3, e3, s3, res3⟩ := s_rowOf hp' hl (y := y) hk hlb w2 (nf2.mp hm)
    have good := res3.resolve_left (fun ⟨_, c, c1, c2⟩ => nb c c1 c2)
    dsimp only [Option.elim]
    rw [e2, bsome]
    rcases res2 with ⟨rfl, no⟩ | ⟨rfl, v, hv, g8, row⟩
    · rw [if_pos rfl]
      refine ⟨-2, m2, μ3, rfl, fin m2 (-2) nf2 w2 z2 r' μ3 e3 s3 ?_⟩
      rcases good.2 with ⟨h, -⟩ | ⟨v, hv, -⟩
      · exact h
      · rw [no] at hv; cases hv
    · rw [if_neg (show ¬ (1 : Int32) = 0 by decide)]
      have told : f_Wa_told 92 x1 m2 = some (if x1 = -1 then oI v else rwz p y l l 0 x1.toInt.toNat) := by
        unfold f_Wa_told f_Wa_told_J20
        rw [kO_92 ww2, bsome]
        rcases hk with h | ⟨a, a0, a1, rfl⟩
        · rw [if_pos (by rw [h]; decide), rI_92 ww2, bsome, g8, if_pos h]
        · rw [if_neg (by rw [show (1 : Int32) = nI 1 from rfl, clt (by omega) (by omega)]; omega), if_neg (by rw [show (24 : Int32) = nI 24 from rfl, cle (by omega) (by omega)]; omega), rR_92_7 ww2, bsome, aI_99 ww2 a1, bsome, row a a0 a1, if_neg (nI_ne_m1 (by omega)), nI_toInt (by omega), Int.toNat_natCast]
      rw [told, bsome]
      refine ⟨_, m2, μ3, rfl, fin m2 _ nf2 w2 z2 r' μ3 e3 s3 ?_⟩
      rcases good.2 with ⟨-, no⟩ | ⟨u, hu, h⟩
      · rw [hv] at no; cases no
      · rw [hv] at hu; cases hu; exact h
theorem rowOf_no {p : PT} {y : Bool} {x1 : Int32} {μ : MM} (hw : Wf μ) (hm : MP p μ) (h : lbt p = -1 ∨ (¬ x1 = -1 ∧ ¬ (1 ≤ x1.toInt ∧ x1.toInt ≤ 23))) : f_M_rowOf 49 x1 (bi y) μ = some (-1000000000, μ) := by
  unfold f_M_rowOf
  rw [kO_49 hw, bsome, s_lastBeatM hw hm, bsome]
  by_cases q : lbt p = -1
  · rw [if_pos q]
  · obtain ⟨h1, h2⟩ := h.resolve_left q
    rw [if_neg q, if_neg h1, s_liesI _ _ _ 1 23 (by decide) (by decide), bsome, if_pos (by rw [decide_eq_false h2]; rfl)]
theorem way_ok {p : PT} (hp' : WP p) {x1 : Int32} {μ : MM} (hw : Wf μ) (hx : XC p μ) (hm : MP p μ) (hy : WY μ) : ∃ r μ1 μ2, f_X_way 0 x1 μ = some (r, μ1) ∧ f_M_way 49 x1 μ1 = some (r, μ2) ∧ Nf Pzz μ μ2 ∧ Wf μ2 ∧ WY μ2 := by
  obtain ⟨a1, a2⟩ := s_asksRow (p := p) (x1 := x1) hw hx
  have no : f_X_asksRow 0 x1 μ = some 0 → (lbt p = -1 ∨ (¬ x1 = -1 ∧ ¬ (1 ≤ x1.toInt ∧ x1.toInt ≤ 23))) → ∃ r μ1 μ2, f_X_way 0 x1 μ = some (r, μ1) ∧ f_M_way 49 x1 μ1 = some (r, μ2) ∧ Nf Pzz μ μ2 ∧ Wf μ2 ∧ WY μ2 := fun e h => by
    refine ⟨-1000000000, μ, μ, ?_, ?_, Nf.rf, hw, hy⟩
    · unfold f_X_way
      rw [kO_0 hw, bsome, e, bsome, if_pos rfl]
    · unfold f_M_way
      rw [kO_49 hw, bsome, show (0 : Int32) = bi false from rfl, rowOf_no hw hm h]; rfl
  rcases askd_c x1 with hk | ⟨h1, h2, h3⟩
  · rcases lbt_c p with q | ⟨l, hl, hlb⟩
    · exact no (by rw [a1 hk, if_pos q]) (Or.inl q)
    · obtain ⟨r, μ1, μ2, e1, e2, nf, w2, z2, w1⟩ := rows_ok hp' hl (y := false) hk hlb hw hx hm hy
      refine ⟨r, μ1, μ2, ?_, ?_, nf, w2, Or.inr z2⟩
      · unfold f_X_way
        rw [kO_0 hw, bsome, a1 hk, bsome, if_neg (by rw [hlb, if_neg (nI_ne_m1 (by omega))]; decide)]
        exact e1
      · unfold f_M_way
        rw [kO_49 w1, bsome, show (0 : Int32) = bi false from rfl, e2]; rfl
  · exact no (a2 ⟨h1, h2⟩) (Or.inr ⟨h1, h3⟩)
theorem change_ok {p : PT} (hp' : WP p) {x1 : Int32} {μ : MM} (hw : Wf μ) (hx : XC p μ) (hm : MP p μ) (hy : WY μ) : ∃ r μ1 μ2, f_X_change 0 x1 μ = some (r, μ1) ∧ f_M_change 49 x1 μ1 = some (r, μ2) ∧ Nf Pzz μ μ2 ∧ Wf μ2 ∧ WY μ2 := by
  obtain ⟨a1, a2⟩ := s_asksRow (p := p) (x1 := x1) hw hx
  have no : f_X_asksRow 0 x1 μ = some 0 → (lbt p = -1 ∨ (¬ x1 = -1 ∧ ¬ (1 ≤ x1.toInt ∧ x1.toInt ≤ 23))) → ∃ r μ1 μ2, f_X_change 0 x1 μ = some (r, μ1) ∧ f_M_change 49 x1 μ1 = some (r, μ2) ∧ Nf Pzz μ μ2 ∧ Wf μ2 ∧ WY μ2 := fun e h => by
    refine ⟨-1000000000, μ, μ, ?_, ?_, Nf.rf, hw, hy⟩
    · unfold f_X_change
      rw [kO_0 hw, bsome, e, bsome, if_pos rfl]
    · unfold f_M_change
      rw [kO_49 hw, bsome, show (1 : Int32) = bi true from rfl, rowOf_no hw hm h]; rfl
  rcases askd_c x1 with hk | ⟨h1, h2, h3⟩
  · rcases lbt_c p with q | ⟨l, hl, hlb⟩
    · exact no (by rw [a1 hk, if_pos q]) (Or.inl q)
    · obtain ⟨r, μ1, μ2, e1, e2, nf, w2, z2, w1⟩ := rows_ok hp' hl (y := true) hk hlb hw hx hm hy
      refine ⟨r, μ1, μ2, ?_, ?_, nf, w2, Or.inr z2⟩
      · unfold f_X_change
        rw [kO_0 hw, bsome, a1 hk, bsome, if_neg (by rw [hlb, if_neg (nI_ne_m1 (by omega))]; decide)]
        exact e1
      · unfold f_M_change
        rw [kO_49 w1, bsome, show (1 : Int32) = bi true from rfl, e2]; rfl
  · exact no (a2 ⟨h1, h2⟩) (Or.inr ⟨h1, h3⟩)
