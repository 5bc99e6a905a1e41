/-! LAYER 2: ways, in the reference: the least of all rows -/
def LF (o : Option Int) : Int64 := match o with
  | none => lI 1000000000000000
  | some v => lI v
def Pcw (x k : Nat) : Bool := x == 61 || (x == 62 || (x == 49 && k == 17))
theorem Pcw_w (x k : Nat) (h : Pmm x k = false) : Pcw x k = false := by
  have n : ¬ x = 61 ∧ ¬ x = 62 ∧ ¬ (x = 49 ∧ k = 17) := by
    refine ⟨fun e => ?_, fun e => ?_, fun e => ?_⟩
    · rw [e, Pmm_y (by decide) (by decide)] at h; cases h
    · rw [e, Pmm_y (by decide) (by decide)] at h; cases h
    · rw [e.1, e.2] at h; cases h
  obtain ⟨n1, n2, n3⟩ := n
  unfold Pcw
  rw [show (x == 61) = false from beq_eq_false_iff_ne.mpr n1, show (x == 62) = false from beq_eq_false_iff_ne.mpr n2]
  cases e : (x == 49 && k == 17) with
  | false => rfl
  | true =>
    rw [Bool.and_eq_true] at e
    exact absurd ⟨eq_of_beq e.1, eq_of_beq e.2⟩ n3
theorem Pcw_n {x : Nat} (h1 : ¬ x = 61) (h2 : ¬ x = 62) (h3 : ¬ x = 49) (k : Nat) : Pcw x k = false := by
  unfold Pcw
  rw [show (x == 61) = false from beq_eq_false_iff_ne.mpr h1, show (x == 62) = false from beq_eq_false_iff_ne.mpr h2, show (x == 49) = false from beq_eq_false_iff_ne.mpr h3]; rfl
theorem RM.w {c n : Nat} {f : Nat → Int} {μ μ' : MM} (h : RM c n f μ) (s : Sm Pcw μ μ') : RM c n f μ' := h.c (by rw [s.gI 57 (Pcw_n (by decide) (by decide) (by decide))]) (fun _ _ => by rw [s.gI 58 (Pcw_n (by decide) (by decide) (by decide))]) (fun _ _ => by rw [s.gI 59 (Pcw_n (by decide) (by decide) (by decide))]) (fun _ _ => by rw [s.gI 60 (Pcw_n (by decide) (by decide) (by decide))])
theorem RM.u {p : PT} (hp' : WP p) {b n m : Nat} {f g : Nat → Int} {μ : MM} (hb : b < 24) (h : RM b n f μ) (h' : RM b m g μ) (e : En p b n f) (e' : En p b m g) : n = m ∧ ∀ k, k < n → f k = g k := by
  obtain ⟨a1, a2, a3⟩ := h
  obtain ⟨b1, b2, b3⟩ := h'
  have en : n = m := (nI_eq (by omega) (by omega)).mp (a1.symm.trans b1)
  refine ⟨en, fun k hk => ?_⟩
  obtain ⟨c1, c2, c3⟩ := a3 k hk
  obtain ⟨d1, d2, d3⟩ := b3 k (by omega)
  obtain ⟨x1, x2, x3, x4, -⟩ := RR_d hp' hb (e.2.1 k hk)
  obtain ⟨y1, y2, y3, y4, -⟩ := RR_d hp' hb (e'.2.1 k (by omega))
  have e1 := c1.symm.trans d1
  have e2 := c2.symm.trans d2
  have e3 := c3.symm.trans d3
  rw [oI_inj (by omega) (by omega)] at e1 e2 e3
  rw [x4, y4, e1, e2, e3]
theorem s_next1 {p : PT} (hp' : WP p) {b i k nx ny : Nat} {x yy : Nat → Int} (hb : b + 1 < 24) (hk : k < 7) (ha : al7 p (b + 1) k = true) {μ : MM} (hw : Wf μ) (hm : MP p μ) (hx : RM b nx x μ) (ex : En p b nx x) (hy : RM (b + 1) ny yy μ) (ey : En p (b + 1) ny yy) (hi : i < nx) : ∃ j, j < ny ∧ yy j = x i + sN7 p (b + 1) k ∧ f_M_nextOf 49 (nI (b + 1)) (nI i) (lk7 k) μ = some (nI j, μ) := by
  obtain ⟨rr, en⟩ := s_nextOf hp' hb hk ha hw hm hx hi (ex.2.1 i hi)
  rcases s_placeOf hp' hb hw hy ey.2.1 rr with ⟨j, j1, j2, j3⟩ | ⟨no, -⟩ | ⟨no, -⟩
  · exact ⟨j, j1, j2, by rw [en]; exact j3⟩
  · obtain ⟨j, j1, j2⟩ := ey.2.2 _ rr
    exact absurd j2 (no j j1)
  · obtain ⟨j, j1, j2⟩ := ey.2.2 _ rr
    exact absurd j2 (no j j1)
theorem s_costBy {p : PT} (hp' : WP p) {y : Bool} {b k : Nat} (hb : b < 24) (hk : k < 7) (ha : al7 p b k = true) {μ : MM} (hw : Wf μ) (hm : MP p μ) : f_M_costBy 49 (nI b) (lk7 k) (bi y) μ = some (lI (co7 p y b k)) := by
  unfold f_M_costBy co7
  rw [kO_49 hw, bsome]
  cases y with
  | false =>
    rw [if_pos (by decide), s_foulBy hp' hw hm hb (lok7 hk ha)]; rfl
  | true =>
    rw [if_neg (by decide), rR_49_7 hw, bsome, aI_56 hw hb, bsome, hm.2.1, if_pos rfl]
    by_cases q : lk7 k = pln p b
    · rw [if_pos q, if_pos q]; rfl
    · rw [if_neg q, if_neg q]; rfl
def Ld (p : PT) (y : Bool) (l b : Nat) (μ0 μ : MM) : Prop := ∀ c n f, b < c + 1 → c < l + 1 → RM c n f μ0 → En p c n f → ∀ i, i < n → gL μ 61 (300 * c + i) = LF (DD p y l (l - c) (f i))
theorem Ld.c {p : PT} {y : Bool} {l b : Nat} {μ0 μ μ' : MM} (h : Ld p y l (b + 1) μ0 μ) (e : ∀ k, 300 * (b + 1) < k + 1 → gL μ' 61 k = gL μ 61 k) : Ld p y l (b + 1) μ0 μ' := fun c n f h1 h2 hr he i hi => by
  rw [e _ (by omega)]; exact h c n f h1 h2 hr he i hi
theorem LF_le {o : Option Int} (h : ∀ v, o = some v → 0 ≤ v ∧ v ≤ 1800000000) : (LF o).toInt ≤ 1000000000000000 := by
  cases o with
  | none => exact Int.le_of_eq (lI_toInt (by decide) (by decide))
  | some v =>
    have := h v rfl
    show (lI v).toInt ≤ _
    rw [lI_toInt (by omega) (by omega)]; omega
theorem DK_b2 {p : PT} (hp' : WP p) {y : Bool} {l b k : Nat} (hl : l < 24) (h0 : 0 < b) (hb : b < l + 1) (hk : k < 8) (z : Int) : ∀ v, DK p y l b k z = some v → 0 ≤ v ∧ v ≤ 1800000000 := fun v h => by
  obtain ⟨⟨j, hj, e⟩, -⟩ := mnk_some k v h
  by_cases ha : al7 p b j = true
  · rw [if_pos ha] at e
    obtain ⟨a, e1, e2⟩ := pls_b e
    have := DD_b hp' y hl (l - b) (by omega) _ a e1
    have := co7_b hp' (y := y) (b := b) (by omega) (by omega) ha
    omega
  · rw [if_neg ha] at e; cases e
theorem DK_s {p : PT} {y : Bool} {l b k : Nat} (z : Int) (ha : al7 p b k = true) : DK p y l b (k + 1) z = om (DK p y l b k z) (pls (DD p y l (l - b) (z + sN7 p b k)) (co7 p y b k)) := by
  unfold DK
  show om _ (if al7 p b k = true then _ else none) = _
  rw [if_pos ha]
theorem DK_n {p : PT} {y : Bool} {l b k : Nat} (z : Int) (ha : ¬ al7 p b k = true) : DK p y l b (k + 1) z = DK p y l b k z := by
  unfold DK
  show om _ (if al7 p b k = true then _ else none) = _
  rw [if_neg ha, om_n]
theorem s_f163 {p : PT} (hp' : WP p) {l : Nat} (hl : l < 24) {y : Bool} {b k nx ny : Nat} {x yy : Nat → Int} (hb : b < l) (hk : k < 7) (ha : al7 p (b + 1) k = true) {μ0 : MM} (hw0 : Wf μ0) (hm0 : MP p μ0) (hx : RM b nx x μ0) (ex : En p b nx x) (hy : RM (b + 1) ny yy μ0) (ey : En p (b + 1) ny yy) (K83 K130 : Int32 → MM → Option (Int32 × MM)) (x2 : Int32) : ∀ (d g i : Nat) (μ : MM), i + d = nx → d < g → Sm Pcw μ0 μ → Ld p y l (b + 1) μ0 μ → (∀ j, j < nx → gL μ 61 (300 * b + j) = LF (if j < i then DK p y l (b + 1) (k + 1) (x j) else DK p y l (b + 1) k (x j))) → ∃ μ', f_M_finds_L163 K83 K130 49 (nI l) x2 (nI (b + 1)) (lk7 k) (lI (co7 p y (b + 1) k)) g (nI i) μ = K130 (lk7 (k + 1)) μ' ∧ Sm Pcw μ0 μ' ∧ Ld p y l (b + 1) μ0 μ' ∧ ∀ j, j < nx → gL μ' 61 (300 * b + j) = LF (DK p y l (b + 1) (k + 1) (x j)) := by
  have cb := co7_b hp' (y := y) (b := b + 1) (by omega) hk ha
  intro d
  induction d with
  | zero =>
    intro g i μ hi hg s0 hd hc
    obtain ⟨g, rfl⟩ : ∃ z, g = z + 1 := ⟨g - 1, by omega⟩
    have : i = nx := by omega
    subst this
    have hw := s0.wf hw0
    have n3 := hx.2.1
    refine ⟨μ, ?_, s0, hd, fun j hj => by rw [hc j hj, if_pos hj]⟩
    rw [e_M_finds_L163, rR_49_11 hw, bsome, nI_m1 (by omega), Nat.add_sub_cancel, aI_57 hw (by omega), bsome, (hx.w s0).1, if_pos (by rw [cle (by omega) (by omega)]; omega), lk7_s]
  | succ d ih =>
    intro g i μ hi hg s0 hd hc
    obtain ⟨g, rfl⟩ : ∃ z, g = z + 1 := ⟨g - 1, by omega⟩
    have hw := s0.wf hw0
    have hm := hm0.w (s0.mono Pcw_w)
    have n3 := hx.2.1
    have m3 := hy.2.1
    have ilt : i < nx := by omega
    obtain ⟨j, j1, j2, j3⟩ := s_next1 hp' (by omega) hk ha hw hm (hx.w s0) ex (hy.w s0) ey ilt
    have src : gL μ 61 (300 * (b + 1) + j) = LF (DD p y l (l - (b + 1)) (x i + sN7 p (b + 1) k)) := by rw [hd (b + 1) ny yy (by omega) (by omega) hy ey j j1, j2]
    have tgt : gL μ 61 (300 * b + i) = LF (DK p y l (b + 1) k (x i)) := by rw [hc i ilt, if_neg (by omega)]
    rw [e_M_finds_L163, rR_49_11 hw, bsome, nI_m1 (by omega), Nat.add_sub_cancel, aI_57 hw (by omega), bsome, (hx.w s0).1, if_neg (by rw [cle (by omega) (by omega)]; omega), rR_49_15 hw, bsome, j3, bsome]
    dsimp only
    rw [r3x, aL_61 hw (by omega), bsome, src, rR_49_15 hw, bsome, r3x, aL_61 hw (by omega), bsome, tgt]
    have bS : ∀ v, DD p y l (l - (b + 1)) (x i + sN7 p (b + 1) k) = some v → 0 ≤ v ∧ v ≤ 1700000000 := fun v h => by
      have := DD_b hp' y hl (l - (b + 1)) (by omega) _ v h
      omega
    have bO := DK_b2 hp' (y := y) (l := l) (b := b + 1) (k := k) hl (by omega) (by omega) (by omega) (x i)
    have stay : DK p y l (b + 1) (k + 1) (x i) = DK p y l (b + 1) k (x i) → ∃ μ', f_M_finds_L163 K83 K130 49 (nI l) x2 (nI (b + 1)) (lk7 k) (lI (co7 p y (b + 1) k)) g (nI (i + 1)) μ = K130 (lk7 (k + 1)) μ' ∧ Sm Pcw μ0 μ' ∧ Ld p y l (b + 1) μ0 μ' ∧ ∀ j, j < nx → gL μ' 61 (300 * b + j) = LF (DK p y l (b + 1) (k + 1) (x j)) := fun e => ih g (i + 1) μ (by omega) (by omega) s0 hd (fun a ha2 => by
      rw [hc a ha2]
      by_cases q : a < i
      · rw [if_pos q, if_pos (by omega)]
      · rw [if_neg q]
        by_cases q2 : a = i
        · rw [q2, if_pos (by omega), e]
        · rw [if_neg (by omega)])
    have put : ∀ v, DK p y l (b + 1) (k + 1) (x i) = some v → ∃ μ', f_M_finds_L163 K83 K130 49 (nI l) x2 (nI (b + 1)) (lk7 k) (lI (co7 p y (b + 1) k)) g (nI (i + 1)) (sL μ 61 (300 * b + i) (lI v)) = K130 (lk7 (k + 1)) μ' ∧ Sm Pcw μ0 μ' ∧ Ld p y l (b + 1) μ0 μ' ∧ ∀ j, j < nx → gL μ' 61 (300 * b + j) = LF (DK p y l (b + 1) (k + 1) (x j)) := fun v e => by
      refine ih g (i + 1) _ (by omega) (by omega) (s0.tr (Sm.sL rfl)) (hd.c (fun c hc2 => ?_)) (fun a ha2 => ?_)
      · rw [gL_sL]; unfold vp_updL; rw [if_neg (by omega)]
      · rw [gL_sL]; unfold vp_updL
        by_cases q2 : a = i
        · rw [q2, if_pos rfl, if_pos (by omega), e]; rfl
        · rw [if_neg (by omega), hc a ha2]
          by_cases q : a < i
          · rw [if_pos q, if_pos (by omega)]
          · rw [if_neg q, if_neg (by omega)]
    have hD := DK_s (y := y) (l := l) (x i) ha
    rw [show (1 : Int32) = nI 1 from rfl, nI_add]
    cases hs : DD p y l (l - (b + 1)) (x i + sN7 p (b + 1) k) with
    | none =>
      rw [hs] at hD
      have hD : DK p y l (b + 1) (k + 1) (x i) = om (DK p y l (b + 1) k (x i)) none := hD
      rw [om_n] at hD
      rw [if_pos (by
        rw [lgc_ge, show lI (co7 p y (b + 1) k) + LF none = lI (co7 p y (b + 1) k + 1000000000000000) from lI_add _ _, lI_toInt (by omega) (by omega)]
        have := LF_le bO
        omega)]
      exact stay hD
    | some v =>
      rw [hs] at hD
      have bv := bS v hs
      have hD : DK p y l (b + 1) (k + 1) (x i) = om (DK p y l (b + 1) k (x i)) (some (v + co7 p y (b + 1) k)) := hD
      rw [show lI (co7 p y (b + 1) k) + LF (some v) = lI (co7 p y (b + 1) k + v) from lI_add _ _, Int.add_comm (co7 p y (b + 1) k) v]
      cases ho : DK p y l (b + 1) k (x i) with
      | none =>
        rw [ho] at hD
        have hD : DK p y l (b + 1) (k + 1) (x i) = some (v + co7 p y (b + 1) k) := hD
        rw [if_neg (by
          rw [lgc_ge, lI_toInt (by omega) (by omega), show LF none = lI 1000000000000000 from rfl, lI_toInt (by omega) (by omega)]; omega), bsome, uL_61 hw (by omega), bsome]
        exact put _ hD
      | some o =>
        rw [ho] at hD
        have bo := bO o ho
        have hD : DK p y l (b + 1) (k + 1) (x i) = some (if v + co7 p y (b + 1) k < o then v + co7 p y (b + 1) k else o) := hD
        by_cases q : v + co7 p y (b + 1) k < o
        · rw [if_pos q] at hD
          rw [if_neg (by rw [lgc_ge, lI_toInt (by omega) (by omega), show LF (some o) = lI o from rfl, lI_toInt (by omega) (by omega)]; omega), bsome, uL_61 hw (by omega), bsome]
          exact put _ hD
        · rw [if_neg q] at hD
          rw [if_pos (by rw [lgc_ge, lI_toInt (by omega) (by omega), show LF (some o) = lI o from rfl, lI_toInt (by omega) (by omega)]; omega)]
          exact stay (by rw [hD, ho])
