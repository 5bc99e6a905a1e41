/-! LAYER 2: bounded in both -/
theorem s_b100 {p : PT} (hp' : WP p) {l : Nat} (hl : l < 24) {b : Nat} (hb : b < l) {μ0 : MM} (hw0 : Wf μ0) (hm0 : MP p μ0) (hW : WM p l μ0) (K92 : Int32 → MM → Option (Int32 × MM)) (x1 : Int32) : ∀ (d g k : Nat) (μ : MM), k + d = 7 → d < g → Sm Pcw μ0 μ → Ev p l b k μ0 μ → ∃ μ', f_M_bounded_L100 K92 49 x1 (nI l) (nI (b + 1)) g (lk7 k) μ = K92 (nI (b + 2)) μ' ∧ Sm Pcw μ0 μ' ∧ Ev p l (b + 1) 0 μ0 μ' := by
  obtain ⟨nx, x, hx, ex⟩ := hW b (by omega)
  obtain ⟨ny, yy, hy, ey⟩ := hW (b + 1) (by omega)
  intro d
  induction d with
  | zero =>
    intro g k μ hk hg s0 hd
    obtain ⟨g, rfl⟩ : ∃ z, g = z + 1 := ⟨g - 1, by omega⟩
    have : k = 7 := by omega
    subst this
    refine ⟨μ, ?_, s0, fun c n f h1 hr he i hi => ?_⟩
    · rw [e_M_bounded_L100, if_pos lk7_7, show (1 : Int32) = nI 1 from rfl, nI_add]
    · rw [hd c n f h1 hr he i hi]
      unfold ev
      by_cases q : c < b + 1
      · rw [if_pos q, if_pos (by omega)]
      · rw [if_neg q]
        by_cases q2 : c = b + 1
        · rw [if_pos q2, if_pos (by omega), q2]; rfl
        · rw [if_neg q2, if_neg (by omega)]
          by_cases q3 : c = b + 1 + 1
          · rw [if_pos q3]; rfl
          · rw [if_neg q3]
  | succ d ih =>
    intro g k μ hk hg s0 hd
    obtain ⟨g, rfl⟩ : ∃ z, g = z + 1 := ⟨g - 1, by omega⟩
    have hw := s0.wf hw0
    have hm := hm0.w (s0.mono Pcw_w)
    rw [e_M_bounded_L100, if_neg (lk7_n (by omega)), s_mayLink hw hm (by omega), bsome]
    cases ha : al7 p (b + 1) k with
    | false =>
      rw [if_pos (by decide), lk7_s]
      refine ih g (k + 1) μ (by omega) (by omega) s0 (fun c n f h1 hr he i hi => ?_)
      rw [hd c n f h1 hr he i hi]
      unfold ev
      rw [EK_n _ (by rw [ha]; decide)]
    | true =>
      obtain ⟨μ1, e1, s1, d1⟩ := s_b132 hp' hl hb (by omega) ha hw0 hm0 hx ex hy ey K92 (f_M_bounded_L100 K92 49 x1 (nI l) (nI (b + 1)) g) x1 hd nx FU 0 μ (by omega) (by have := hx.2.1; unfold FU; omega) s0 (fun _ _ => rfl) (fun j hj => ⟨fun ⟨a, a1, _⟩ => absurd a1 (by omega), fun _ => by
        rw [hd (b + 1) ny yy (by omega) hy ey j hj]
        unfold ev
        rw [if_neg (by omega), if_pos rfl]⟩)
      have fo := s_foulBy hp' hw hm (k := b + 1) (l := lk7 k) (by omega) (lok7 (by omega) ha)
      have co : fby p (b + 1) (lml p (lk7 k) (b + 1)) = co7 p false (b + 1) k := by unfold co7; rw [if_neg (by decide)]
      rw [if_neg (by decide), fo, bsome, co, show (0 : Int32) = nI 0 from rfl, e1]
      exact ih g (k + 1) μ1 (by omega) (by omega) s1 d1
theorem s_b228 {p : PT} (hp' : WP p) {l : Nat} (hl : l < 24) {x : Int} (hx0 : 0 ≤ x ∧ x ≤ 100000000) {μ0 : MM} (hw0 : Wf μ0) (hW : WM p l μ0) {m : MM} (sm : Sm Pcw μ0 m) {b k : Nat} (hb : l < b + 1) (hd : Ev p l b k μ0 m) : ∃ r, f_M_bounded_L228 49 (oI x) (nI l) m FU (-1000000000 : Int32) (nI 0) = some (oI r, m) ∧ Nr (Sn p x l) r := by
  have hw := sm.wf hw0
  obtain ⟨n, f, rl, el⟩ := hW l (by omega)
  have n3 := rl.2.1
  have rm := rl.w sm
  have go : ∀ (d g i : Nat) (r : Int), i + d = n → d < g → (-1000000000 ≤ r ∧ r ≤ 1000000000) → Nr (Si p x l f i) r → ∃ r', f_M_bounded_L228 49 (oI x) (nI l) m g (oI r) (nI i) = some (oI r', m) ∧ Nr (Sn p x l) r' := by
    intro d
    induction d with
    | zero =>
      intro g i r hi hg br hr
      obtain ⟨g, rfl⟩ : ∃ z, g = z + 1 := ⟨g - 1, by omega⟩
      have : i = n := by omega
      subst this
      refine ⟨r, ?_, hr.c (Si_Sn el)⟩
      rw [e_M_bounded_L228, rR_49_11 hw, bsome, aI_57 hw hl, bsome, rm.1, if_pos (by rw [cle (by omega) (by omega)]; omega)]
    | succ d ih =>
      intro g i r hi hg br hr
      obtain ⟨g, rfl⟩ : ∃ z, g = z + 1 := ⟨g - 1, by omega⟩
      have ilt : i < n := by omega
      have ce : gL m 61 (300 * l + i) = LF (EE p false l (f i)) := by
        rw [hd l n f (by omega) rl el i ilt]
        unfold ev
        rw [if_pos hb]
      obtain ⟨a1, a2, a3⟩ := rm.2.2 i ilt
      rw [e_M_bounded_L228, rR_49_11 hw, bsome, aI_57 hw hl, bsome, rm.1, if_neg (by rw [cle (by omega) (by omega)]; omega), rR_49_15 hw, bsome, r3x, aL_61 hw (by omega), bsome, ce, oI_l (z := x) (by omega) (by omega), show (1 : Int32) = nI 1 from rfl, nI_add]
      cases e : EE p false l (f i) with
      | none =>
        rw [if_neg (by rw [lgc_le, show LF none = lI 1000000000000000 from rfl, lI_toInt (by omega) (by omega), lI_toInt (by omega) (by omega)]; omega)]
        exact ih g (i + 1) r (by omega) (by omega) br (hr.c (Si_n (fun ⟨v, h, _⟩ => by rw [e] at h; cases h)))
      | some v =>
        have bv := EE_b hp' false l hl _ v e
        have rr := EE_RR l _ v e
        have bm := mlz_b hp' l hl _ rr
        by_cases q : x < v
        · rw [if_neg (by rw [lgc_le, show LF (some v) = lI v from rfl, lI_toInt (by omega) (by omega), lI_toInt (by omega) (by omega)]; omega)]
          exact ih g (i + 1) r (by omega) (by omega) br (hr.c (Si_n (fun ⟨u, h, h2⟩ => by rw [e] at h; cases h; omega)))
        · have bi := iabs_b (z := mlz (f i)) (a := 6000000 * (l : Int)) bm
          have brr := iabs_b (z := r) (a := 1000000000) (by omega)
          have go2 := ih g (i + 1) (nrx r (mlz (f i))) (by omega) (by omega) (nrx_b br (by omega)) (Nr_s hr (by omega) (Si_y e (by omega)))
          rw [if_pos (by rw [lgc_le, show LF (some v) = lI v from rfl, lI_toInt (by omega) (by omega), lI_toInt (by omega) (by omega)]; omega), rR_49_12 hw, bsome, aI_58 hw (by omega), bsome, rR_49_13 hw, bsome, aI_59 hw (by omega), bsome, rR_49_14 hw, bsome, aI_60 hw (by omega), bsome, a1, a2, a3, s_Mmills, bsome, show mil (dA7 (f i)) (dB7 (f i)) (dC7 (f i)) = mlz (f i) from rfl]
          by_cases c : r = -1000000000
          · have en : nrx r (mlz (f i)) = mlz (f i) := by
              unfold nrx
              rw [c, if_pos (by show iabs (mlz (f i)) < 1000000000; omega)]
            rw [en] at go2
            rw [if_pos (by rw [c]; rfl)]
            exact go2
          · rw [if_neg (show ¬ oI r = (-1000000000 : Int32) from fun h => by
              have h : oI r = oI (-1000000000) := by rw [h]; rfl
              rw [oI_inj (by omega) (by omega)] at h
              exact c h), oI_l (z := mlz (f i)) (by omega) (by omega), s_plain (by omega) (by omega), bsome, oI_l (z := r) (by omega) (by omega), s_plain (by omega) (by omega), bsome]
            by_cases q1 : iabs (mlz (f i)) < iabs r
            · rw [if_pos (by rw [lgc_lt, lI_toInt (by omega) (by omega), lI_toInt (by omega) (by omega)]; exact q1)]
              unfold nrx at go2
              rw [if_pos q1] at go2
              exact go2
            · rw [if_neg (by rw [lgc_lt, lI_toInt (by omega) (by omega), lI_toInt (by omega) (by omega)]; exact q1), bsome, bsome]
              unfold nrx at go2
              rw [if_neg q1] at go2
              by_cases q2 : iabs (mlz (f i)) = iabs r
              · rw [if_pos q2] at go2
                rw [if_pos (by rw [lgc_eq, lI_toInt (by omega) (by omega), lI_toInt (by omega) (by omega)]; exact q2)]
                by_cases q3 : r ≤ mlz (f i)
                · rw [if_pos q3] at go2
                  rw [if_pos (by rw [oI_leI (by omega) (by omega)]; exact q3)]
                  exact go2
                · rw [if_neg q3] at go2
                  rw [if_neg (by rw [oI_leI (by omega) (by omega)]; exact q3)]
                  exact go2
              · rw [if_neg q2] at go2
                rw [if_neg (by rw [lgc_eq, lI_toInt (by omega) (by omega), lI_toInt (by omega) (by omega)]; exact q2)]
                exact go2
  rw [show (-1000000000 : Int32) = oI (-1000000000) by decide]
  exact go n FU 0 (-1000000000) (by omega) (by unfold FU; omega) (by omega) (Or.inl ⟨rfl, fun m ⟨j, hj, _⟩ => absurd hj (by omega)⟩)
theorem s_b92 {p : PT} (hp' : WP p) {l : Nat} (hl : l < 24) {x : Int} (hx0 : 0 ≤ x ∧ x ≤ 100000000) {μ0 : MM} (hw0 : Wf μ0) (hm0 : MP p μ0) (hW : WM p l μ0) : ∀ (d g b : Nat) (m : MM), b + d = l → d < g → Sm Pcw μ0 m → Ev p l b 0 μ0 m → ∃ r m', f_M_bounded_L92 49 (oI x) (nI l) g (nI (b + 1)) m = some (oI r, m') ∧ Sm Pcw μ0 m' ∧ Nr (Sn p x l) r := by
  intro d
  induction d with
  | zero =>
    intro g b m hb hg sm hd
    obtain ⟨g, rfl⟩ : ∃ z, g = z + 1 := ⟨g - 1, by omega⟩
    obtain ⟨r, er, nr⟩ := s_b228 hp' hl hx0 hw0 hW sm (b := b) (k := 0) (by omega) hd
    refine ⟨r, m, ?_, sm, nr⟩
    rw [e_M_bounded_L92, if_pos (by rw [clt (by omega) (by omega)]; omega)]
    exact er
  | succ d ih =>
    intro g b m hb hg sm hd
    obtain ⟨g, rfl⟩ : ∃ z, g = z + 1 := ⟨g - 1, by omega⟩
    obtain ⟨m1, em1, sm1, hd1⟩ := s_b100 hp' hl (b := b) (by omega) hw0 hm0 hW (f_M_bounded_L92 49 (oI x) (nI l) g) (oI x) 7 FU 0 m (by omega) (by unfold FU; omega) sm hd
    rw [e_M_bounded_L92, if_neg (by rw [clt (by omega) (by omega)]; omega), show (-1 : Int32) = lk7 0 from rfl, em1]
    exact ih g (b + 1) m1 (by omega) (by omega) sm1 hd1
def In0 (p : PT) (b : Nat) (μ0 μ : MM) : Prop := ∀ c n f, c < b → RM c n f μ0 → En p c n f → ∀ i, i < n → gL μ 61 (300 * c + i) = if c = 0 then (0 : Int64) else 1000000000000000
theorem s_b43 {p : PT} (hp' : WP p) {l : Nat} (hl : l < 24) {b n : Nat} {f : Nat → Int} (hb : b < l + 1) {μ0 : MM} (hw0 : Wf μ0) (hr : RM b n f μ0) (he : En p b n f) (K35 : Int32 → MM → Option (Int32 × MM)) (x1 : Int32) : ∀ (d g i : Nat) (m : MM), i + d = n → d < g → Sm Pcw μ0 m → In0 p b μ0 m → (∀ j, j < i → gL m 61 (300 * b + j) = if b = 0 then (0 : Int64) else 1000000000000000) → ∃ m', f_M_bounded_L43 K35 49 x1 (nI l) (nI b) g (nI i) m = K35 (nI (b + 1)) m' ∧ Sm Pcw μ0 m' ∧ In0 p (b + 1) μ0 m' := by
  have n3 := hr.2.1
  intro d
  induction d with
  | zero =>
    intro g i m hi hg sm hd hc
    obtain ⟨g, rfl⟩ : ∃ z, g = z + 1 := ⟨g - 1, by omega⟩
    have : i = n := by omega
    subst this
    have hw := sm.wf hw0
    refine ⟨m, ?_, sm, fun c n' f' h1 hr' he' j hj => ?_⟩
    · rw [e_M_bounded_L43, rR_49_11 hw, bsome, aI_57 hw (by omega), bsome, (hr.w sm).1, if_pos (by rw [cle (by omega) (by omega)]; omega), show (1 : Int32) = nI 1 from rfl, nI_add]
    · by_cases q : c = b
      · subst q
        obtain ⟨en, -⟩ := hr'.u hp' (by omega) hr he' he
        exact hc j (by omega)
      · exact hd c n' f' (by omega) hr' he' j hj
  | succ d ih =>
    intro g i m hi hg sm hd hc
    obtain ⟨g, rfl⟩ : ∃ z, g = z + 1 := ⟨g - 1, by omega⟩
    have hw := sm.wf hw0
    have fin : ∀ v : Int64, v = (if b = 0 then (0 : Int64) else 1000000000000000) → ∃ m', f_M_bounded_J77 K35 (f_M_bounded_L43 K35 49 x1 (nI l) (nI b) g) 49 x1 (nI l) (nI b) (nI i) 61 (nI (300 * b + i)) v m = K35 (nI (b + 1)) m' ∧ Sm Pcw μ0 m' ∧ In0 p (b + 1) μ0 m' := fun v hv => by
      unfold f_M_bounded_J77
      rw [uL_61 hw (by omega), bsome, show (1 : Int32) = nI 1 from rfl, nI_add]
      refine ih g (i + 1) _ (by omega) (by omega) (sm.tr (Sm.sL rfl)) (fun c n' f' h1 hr' he' j hj => ?_) (fun j hj => ?_)
      · have := hr'.2.1
        rw [gL_sL]; unfold vp_updL
        rw [if_neg (by omega)]; exact hd c n' f' h1 hr' he' j hj
      · rw [gL_sL]; unfold vp_updL
        by_cases q : j = i
        · rw [q, if_pos rfl, hv]
        · rw [if_neg (by omega)]; exact hc j (by omega)
    rw [e_M_bounded_L43, rR_49_11 hw, bsome, aI_57 hw (by omega), bsome, (hr.w sm).1, if_neg (by rw [cle (by omega) (by omega)]; omega), rR_49_15 hw, bsome, r3x]
    by_cases q : b = 0
    · rw [if_pos (show nI b = (0 : Int32) by rw [q]; rfl)]
      exact fin 0 (by rw [if_pos q])
    · rw [if_neg (show ¬ nI b = (0 : Int32) from fun e => q ((nI_eq (a := b) (b := 0) (by omega) (by omega)).mp e))]
      exact fin 1000000000000000 (by rw [if_neg q])
theorem s_b35 {p : PT} (hp' : WP p) {l : Nat} (hl : l < 24) {x : Int} (hx0 : 0 ≤ x ∧ x ≤ 100000000) {μ0 : MM} (hw0 : Wf μ0) (hm0 : MP p μ0) (hW : WM p l μ0) : ∀ (d g b : Nat) (m : MM), b + d = l + 1 → d < g → Sm Pcw μ0 m → In0 p b μ0 m → ∃ r m', f_M_bounded_L35 49 (oI x) (nI l) g (nI b) m = some (oI r, m') ∧ Sm Pcw μ0 m' ∧ Nr (Sn p x l) r := by
  intro d
  induction d with
  | zero =>
    intro g b m hb hg sm hd
    obtain ⟨g, rfl⟩ : ∃ z, g = z + 1 := ⟨g - 1, by omega⟩
    rw [e_M_bounded_L35, if_pos (by rw [clt (by omega) (by omega)]; omega), show (1 : Int32) = nI (0 + 1) from rfl]
    refine s_b92 hp' hl hx0 hw0 hm0 hW l FU 0 m (by omega) (by unfold FU; omega) sm (fun c n f h1 hr he i hi => ?_)
    rw [hd c n f (by omega) hr he i hi]
    unfold ev
    by_cases q : c = 0
    · subst q
      have : f i = 0 := he.2.1 i hi
      rw [if_pos rfl, if_pos (by omega), this]; rfl
    · rw [if_neg q, if_neg (by omega)]
      by_cases q2 : c = 0 + 1
      · rw [if_pos q2]; rfl
      · rw [if_neg q2]; rfl
  | succ d ih =>
    intro g b m hb hg sm hd
    obtain ⟨g, rfl⟩ : ∃ z, g = z + 1 := ⟨g - 1, by omega⟩
    obtain ⟨n, f, hr, he⟩ := hW b (by omega)
    obtain ⟨m1, em1, sm1, hd1⟩ := s_b43 hp' hl (b := b) (by omega) hw0 hr he (f_M_bounded_L35 49 (oI x) (nI l) g) (oI x) n FU 0 m (by omega) (by have := hr.2.1; unfold FU; omega) sm hd (fun j hj => absurd hj (by omega))
    rw [e_M_bounded_L35, if_neg (by rw [clt (by omega) (by omega)]; omega), show (0 : Int32) = nI 0 from rfl, em1]
    exact ih g (b + 1) m1 (by omega) (by omega) sm1 hd1
theorem bounded_ok {p : PT} (hp' : WP p) {x1 : Int32} {μ : MM} (hw : Wf μ) (hx : XC p μ) (hm : MP p μ) (hy : WY μ) : ∃ r μ1 μ2, f_X_bounded 0 x1 μ = some (r, μ1) ∧ f_M_bounded 49 x1 μ1 = some (r, μ2) ∧ Nf Pzz μ μ2 ∧ Wf μ2 ∧ WY μ2 := by
  obtain ⟨x, ex⟩ : ∃ x, x = x1.toInt := ⟨_, rfl⟩
  have e1 : x1 = oI x := (oI_eq (x := x1) (z := x) (by rw [ex]; exact Int32.le_toInt x1) (by rw [ex]; exact Int32.toInt_lt x1)).mp ex.symm
  have b1 : -2147483648 ≤ x := by rw [ex]; exact Int32.le_toInt x1
  have b2 : x < 2147483648 := by rw [ex]; exact Int32.toInt_lt x1
  subst e1
  have no : ∀ m, m = μ → ((x < 0 ∨ 100000000 < x) ∨ lbt p = -1) → ∃ r μ1 μ2, f_X_bounded 0 (oI x) μ = some (r, μ1) ∧ f_M_bounded 49 (oI x) μ1 = some (r, μ2) ∧ Nf Pzz μ μ2 ∧ Wf μ2 ∧ WY μ2 := fun m _ h => by
    refine ⟨-1000000000, μ, μ, ?_, ?_, Nf.rf, hw, hy⟩
    · unfold f_X_bounded
      rw [kO_0 hw, bsome]
      by_cases q1 : x < 0
      · rw [if_pos (show oI x < (0 : Int32) by rw [toInt_lt, oI_toInt b1 b2]; exact q1)]
      · rw [if_neg (show ¬ oI x < (0 : Int32) by rw [toInt_lt, oI_toInt b1 b2]; exact q1)]
        by_cases q2 : 100000000 < x
        · rw [if_pos (show (100000000 : Int32) < oI x by rw [toInt_lt, oI_toInt b1 b2]; exact q2)]
        · rw [if_neg (show ¬ (100000000 : Int32) < oI x by rw [toInt_lt, oI_toInt b1 b2]; exact q2), rR_0_0 hw, bsome, s_lastBeat hw hx, bsome, if_pos (h.resolve_left (by omega))]
    · unfold f_M_bounded
      rw [kO_49 hw, bsome, s_lastBeatM hw hm, bsome]
      by_cases q : lbt p = -1
      · rw [if_pos q]
      · have := h.resolve_right q
        rw [if_neg q, s_liesI _ _ _ 0 100000000 (by decide) (by decide), bsome, if_pos (by rw [oI_toInt b1 b2, decide_eq_false (by omega)]; rfl)]
  by_cases hr : x < 0 ∨ 100000000 < x
  · exact no μ rfl (Or.inl hr)
  · rcases lbt_c p with q | ⟨l, hl, hlb⟩
    · exact no μ rfl (Or.inr q)
    · obtain ⟨o, m1, f1, n1, w1, z1, res⟩ := s_explored hp' hl hlb hw hx hy
      have hx1 := n1.xc hx
      have starts : ∀ m, Nf Pwy μ m → Wf m → WZ m → ∃ r m', f_M_bounded 49 (oI x) m = some (r, m') ∧ Nf Pzz μ m' ∧ Wf m' ∧ WZ m' ∧ ((r = -1000000000 ∧ ∃ c, c < l + 1 ∧ Bg p c) ∨ ((∀ c, c < l + 1 → ¬ Bg p c) ∧ ∃ v, r = oI v ∧ Nr (Sn p x l) v)) := fun m nf wm zm => by
        have hmm := nf.mp hm
        obtain ⟨r, m2, e2, s2, res2⟩ := s_lays hp' hl wm hmm
        unfold f_M_bounded
        rw [kO_49 wm, bsome, s_lastBeatM wm hmm, bsome, hlb, if_neg (nI_ne_m1 (by omega)), s_liesI _ _ _ 0 100000000 (by decide) (by decide), bsome, if_neg (by rw [oI_toInt b1 b2, decide_eq_true (by omega)]; decide), e2, bsome]
        rcases res2 with ⟨rfl, bg⟩ | ⟨rfl, hW⟩
        · rw [if_pos rfl]
          exact ⟨_, m2, rfl, (nf.mono Pzz_1).sm (s2.mono Pzz_2), s2.wf wm, zm.sm s2, Or.inl ⟨rfl, bg⟩⟩
        · rw [if_neg (show ¬ (1 : Int32) = 0 by decide), show (0 : Int32) = nI 0 from rfl]
          obtain ⟨v, m3, e3, s3, nr⟩ := s_b35 hp' hl (x := x) (by omega) (s2.wf wm) (hmm.w s2) hW (l + 1) FU 0 m2 (by omega) (by unfold FU; omega) Sm.rf (fun c n f h => absurd h (by omega))
          have s23 := s2.tr (s3.mono Pcw_w)
          exact ⟨oI v, m3, e3, (nf.mono Pzz_1).sm (s23.mono Pzz_2), s23.wf wm, zm.sm s23, Or.inr ⟨fun c hc => by
            obtain ⟨n, f, rx, ex⟩ := hW c hc
            exact ex.nb rx.2.1, v, rfl, nr⟩⟩
      have head : f_X_bounded 0 (oI x) μ = (some (o, m1) : Option (Option Nat × MM)).bind (fun q25 => q25.1.elim (some ((-1000000000 : Int32), q25.2)) (fun z30 => (f_Wa_nearest z30 (oI x) q25.2).bind fun q35 => some (q35.1, q35.2))) := by
        unfold f_X_bounded
        rw [kO_0 hw, bsome, if_neg (show ¬ oI x < (0 : Int32) by rw [toInt_lt, oI_toInt b1 b2]; show ¬ x < 0; omega), if_neg (show ¬ (100000000 : Int32) < oI x by rw [toInt_lt, oI_toInt b1 b2]; show ¬ 100000000 < x; omega), rR_0_0 hw, bsome, s_lastBeat hw hx, bsome, hlb, if_neg (nI_ne_m1 (by omega)), f1]
      rw [head, bsome]
      rcases res with ⟨rfl, bg⟩ | ⟨rfl, hX⟩
      · obtain ⟨r, m2, e2, f2, w2, z2, res2⟩ := starts m1 n1 w1 z1
        refine ⟨-1000000000, m1, m2, rfl, ?_, f2, w2, Or.inr z2⟩
        rcases res2 with ⟨h, -⟩ | ⟨nb, -⟩
        · rw [e2, h]
        · obtain ⟨c, c1, c2⟩ := bg
          exact absurd c2 (nb c (by omega))
      · have nb : ∀ c, c < l + 1 → ¬ Bg p c := fun c hc => by
          obtain ⟨n, f, h1, h2⟩ := hX.2.1 c hc
          exact h2.nb h1.2.1
        obtain ⟨v, m2, e2, s2, n97, nr⟩ := s_nearest hp' hl (x := x) (by omega) w1 hx1 z1.2.1 hX
        have w2 := s2.wf w1
        have z2 : WZ m2 := ⟨by rw [s2.gRf 0]; exact z1.1, s2.ww z1.2.1, fun b hb => by rw [n97]; exact z1.2.2.1 b hb, by rw [s2.1]; exact z1.2.2.2⟩
        obtain ⟨r, m3, e3, f3, w3, z3, res3⟩ := starts m2 (n1.sm s2) w2 z2
        dsimp only [Option.elim]
        rw [e2, bsome]
        refine ⟨oI v, m2, m3, rfl, ?_, f3, w3, Or.inr z3⟩
        rcases res3 with ⟨-, c, c1, c2⟩ | ⟨-, u, hu, nu⟩
        · exact absurd c2 (nb c c1)
        · rw [e3, hu, nr.u nu]
