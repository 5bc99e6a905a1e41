/-! LAYER 2: ways, in the reference: finds -/
def WM (p : PT) (l : Nat) (μ : MM) : Prop := ∀ c, c < l + 1 → CM p c μ
theorem CM.w {p : PT} {c : Nat} {μ μ' : MM} (h : CM p c μ) (s : Sm Pcw μ μ') : CM p c μ' := by
  obtain ⟨n, f, h1, h2⟩ := h
  exact ⟨n, f, h1.w s, h2⟩
theorem s_f130 {p : PT} (hp' : WP p) {l : Nat} (hl : l < 24) {y : Bool} {b nx ny : Nat} {x yy : Nat → Int} (hb : b < l) {μ0 : MM} (hw0 : Wf μ0) (hm0 : MP p μ0) (hx : RM b nx x μ0) (ex : En p b nx x) (hy : RM (b + 1) ny yy μ0) (ey : En p (b + 1) ny yy) (K83 : Int32 → MM → Option (Int32 × MM)) : ∀ (d g k : Nat) (μ : MM), k + d = 7 → d < g → Sm Pcw μ0 μ → Ld p y l (b + 1) μ0 μ → (∀ j, j < nx → gL μ 61 (300 * b + j) = LF (DK p y l (b + 1) k (x j))) → ∃ μ', f_M_finds_L130 K83 49 (nI l) (bi y) (nI (b + 1)) g (lk7 k) μ = K83 (nI b) μ' ∧ Sm Pcw μ0 μ' ∧ Ld p y l b μ0 μ' := by
  intro d
  induction d with
  | zero =>
    intro g k μ hk hg s0 hd hc
    obtain ⟨g, rfl⟩ : ∃ z, g = z + 1 := ⟨g - 1, by omega⟩
    have : k = 7 := by omega
    subst this
    refine ⟨μ, ?_, s0, fun c n f h1 h2 hr he i hi => ?_⟩
    · rw [e_M_finds_L130, if_pos lk7_7, nI_p, nI_m1 (by omega), Nat.add_sub_cancel]
    · by_cases q : c = b
      · subst q
        obtain ⟨en, ef⟩ := hr.u hp' (by omega) hx he ex
        subst en
        rw [hc i hi, DK_7 (by omega) (by omega), Nat.add_sub_cancel, ef i hi]
      · exact hd c n f (by omega) h2 hr he i hi
  | succ d ih =>
    intro g k μ hk hg s0 hd hc
    obtain ⟨g, rfl⟩ : ∃ z, g = z + 1 := ⟨g - 1, by omega⟩
    have hw := s0.wf hw0
    have hm := hm0.w (s0.mono Pcw_w)
    rw [e_M_finds_L130, if_neg (lk7_n (by omega)), s_mayLink hw hm (by omega), bsome]
    cases ha : al7 p (b + 1) k with
    | false =>
      rw [if_pos (by decide), lk7_s]
      exact ih g (k + 1) μ (by omega) (by omega) s0 hd (fun j hj => by rw [hc j hj, DK_n _ (by rw [ha]; decide)])
    | true =>
      obtain ⟨μ1, e1, s1, d1, c1⟩ := s_f163 hp' hl (y := y) hb (by omega) ha hw0 hm0 hx ex hy ey K83 (f_M_finds_L130 K83 49 (nI l) (bi y) (nI (b + 1)) g) (bi y) nx FU 0 μ (by omega) (by have := hx.2.1; unfold FU; omega) s0 hd (fun j hj => by rw [hc j hj, if_neg (by omega)])
      rw [if_neg (by decide), s_costBy hp' (by omega) (by omega) ha hw hm, bsome, show (0 : Int32) = nI 0 from rfl, e1]
      exact ih g (k + 1) μ1 (by omega) (by omega) s1 d1 c1
theorem s_f90 {p : PT} (hp' : WP p) {l : Nat} (hl : l < 24) {y : Bool} {b nx ny : Nat} {x yy : Nat → Int} (hb : b < l) {μ0 : MM} (hw0 : Wf μ0) (hm0 : MP p μ0) (hx : RM b nx x μ0) (ex : En p b nx x) (hy : RM (b + 1) ny yy μ0) (ey : En p (b + 1) ny yy) (K83 : Int32 → MM → Option (Int32 × MM)) : ∀ (d g i : Nat) (μ : MM), i + d = nx → d < g → Sm Pcw μ0 μ → Ld p y l (b + 1) μ0 μ → (∀ j, j < i → gL μ 61 (300 * b + j) = LF none) → ∃ μ', f_M_finds_L90 K83 49 (nI l) (bi y) (nI (b + 1)) g (nI i) μ = K83 (nI b) μ' ∧ Sm Pcw μ0 μ' ∧ Ld p y l b μ0 μ' := by
  intro d
  induction d with
  | zero =>
    intro g i μ hi hg s0 hd hc
    obtain ⟨g, rfl⟩ : ∃ z, g = z + 1 := ⟨g - 1, by omega⟩
    have : i = nx := by omega
    subst this
    have hw := s0.wf hw0
    have n3 := hx.2.1
    rw [e_M_finds_L90, rR_49_11 hw, bsome, nI_m1 (by omega), Nat.add_sub_cancel, aI_57 hw (by omega), bsome, (hx.w s0).1, if_pos (by rw [cle (by omega) (by omega)]; omega), show (-1 : Int32) = lk7 0 from rfl]
    exact s_f130 hp' hl hb hw0 hm0 hx ex hy ey K83 7 FU 0 μ (by omega) (by unfold FU; omega) s0 hd (fun j hj => by rw [hc j hj]; rfl)
  | succ d ih =>
    intro g i μ hi hg s0 hd hc
    obtain ⟨g, rfl⟩ : ∃ z, g = z + 1 := ⟨g - 1, by omega⟩
    have hw := s0.wf hw0
    have n3 := hx.2.1
    rw [e_M_finds_L90, rR_49_11 hw, bsome, nI_m1 (by omega), Nat.add_sub_cancel, aI_57 hw (by omega), bsome, (hx.w s0).1, if_neg (by rw [cle (by omega) (by omega)]; omega), rR_49_15 hw, bsome, r3x, uL_61 hw (by omega), bsome, show (1 : Int32) = nI 1 from rfl, nI_add]
    refine ih g (i + 1) _ (by omega) (by omega) (s0.tr (Sm.sL rfl)) (hd.c (fun c hc2 => ?_)) (fun j hj => ?_)
    · rw [gL_sL]; unfold vp_updL; rw [if_neg (by omega)]
    · rw [gL_sL]; unfold vp_updL
      by_cases q : j = i
      · rw [q, if_pos rfl]; rfl
      · rw [if_neg (by omega)]; exact hc j (by omega)
/-- following the least -/
theorem s_f318 {p : PT} (hp' : WP p) {l : Nat} (hl : l < 24) {y : Bool} {b nx ny i : Nat} {x yy : Nat → Int} (hb : b < l) {μ : MM} (hw : Wf μ) (hm : MP p μ) (hx : RM b nx x μ) (ex : En p b nx x) (hy : RM (b + 1) ny yy μ) (ey : En p (b + 1) ny yy) (hi : i < nx) (c1 : gL μ 61 (300 * b + i) = LF (DD p y l (l - b) (x i))) (c2 : ∀ j, j < ny → gL μ 61 (300 * (b + 1) + j) = LF (DD p y l (l - (b + 1)) (yy j))) {v : Int} (hv : DD p y l (l - b) (x i) = some v) (K : Int32 → Int32 → MM → Option (Int32 × MM)) : ∀ (d g k : Nat), k + d = stL p y l (l - (b + 1)) (x i) → d < g → ∃ j, j < ny ∧ yy j = x i + sN7 p (b + 1) (stL p y l (l - (b + 1)) (x i)) ∧ f_M_finds_L318 K 49 (nI l) (bi y) (nI i) (nI (b + 1)) g (lk7 k) μ = K (nI j) (nI (b + 2)) (sI μ 62 (b + 1) (lk7 (stL p y l (l - (b + 1)) (x i)))) := by
  have hv' : DD p y l (l - (b + 1) + 1) (x i) = some v := by rw [show l - (b + 1) + 1 = l - b by omega]; exact hv
  obtain ⟨k0, k1, k2⟩ := okL_ex hv'
  obtain ⟨S, hS⟩ : ∃ z, z = stL p y l (l - (b + 1)) (x i) := ⟨_, rfl⟩
  rw [← hS] at k0 k1 k2 ⊢
  have lb : l - (l - (b + 1)) = b + 1 := by omega
  have n3 := hx.2.1
  have m3 := hy.2.1
  have vb := DD_b hp' y hl (l - b) (by omega) _ v hv
  have at_ : gL μ 61 (300 * b + i) = lI v := by rw [c1, hv]; rfl
  have head : ∀ (g k : Nat), k < 7 → al7 p (b + 1) k = true → ∃ j, j < ny ∧ yy j = x i + sN7 p (b + 1) k ∧ f_M_nextOf 49 (nI (b + 1)) (nI i) (lk7 k) μ = some (nI j, μ) ∧ f_M_finds_L318 K 49 (nI l) (bi y) (nI i) (nI (b + 1)) (g + 1) (lk7 k) μ = if (lI (co7 p y (b + 1) k) + LF (DD p y l (l - (b + 1)) (x i + sN7 p (b + 1) k))).toInt = v then ((rR μ 49 1 16).bind fun y386 => (uI μ y386 (nI (b + 1)) (lk7 k)).bind fun μ393 => (f_M_nextOf 49 (nI (b + 1)) (nI i) (lk7 k) μ393).bind fun q400 => K q400.1 (nI (b + 1) + (1 : Int32)) q400.2) else f_M_finds_L318 K 49 (nI l) (bi y) (nI i) (nI (b + 1)) g (lk7 (k + 1)) μ := fun g k hk ha => by
    obtain ⟨j, j1, j2, j3⟩ := s_next1 hp' (by omega) hk ha hw hm hx ex hy ey hi
    refine ⟨j, j1, j2, j3, ?_⟩
    rw [e_M_finds_L318, s_mayLink hw hm (by omega), bsome, ha, if_neg (by decide), s_costBy hp' (by omega) hk ha hw hm, bsome, rR_49_15 hw, bsome, j3, bsome]
    dsimp only
    rw [r3x, aL_61 hw (by omega), bsome, c2 j j1, j2, rR_49_15 hw, bsome, nI_m1 (by omega), Nat.add_sub_cancel, r3x, aL_61 hw (by omega), bsome, at_, lk7_s]
    by_cases q : (lI (co7 p y (b + 1) k) + LF (DD p y l (l - (b + 1)) (x i + sN7 p (b + 1) k))).toInt = v
    · rw [if_pos q, if_pos (by rw [lgc_eq, lI_toInt (z := v) (by omega) (by omega)]; exact q)]
    · rw [if_neg q, if_neg (by rw [lgc_eq, lI_toInt (z := v) (by omega) (by omega)]; exact q)]
  intro d
  induction d with
  | zero =>
    intro g k hk hg
    obtain ⟨g, rfl⟩ : ∃ z, g = z + 1 := ⟨g - 1, by omega⟩
    have : k = S := by omega
    subst this
    obtain ⟨a1, u, a2, a3⟩ := okL_next k1
    rw [lb] at a1 a2 a3
    obtain ⟨j, j1, j2, j3, j4⟩ := head g k k0 a1
    have ub := DD_b hp' y hl (l - (b + 1)) (by omega) _ u a2
    have cb := co7_b hp' (y := y) (b := b + 1) (by omega) k0 a1
    have vu : v = u + co7 p y (b + 1) k := by rw [hv'] at a3; exact Option.some.inj a3
    refine ⟨j, j1, j2, ?_⟩
    obtain ⟨m1, e1⟩ : ∃ m, m = sI μ 62 (b + 1) (lk7 k) := ⟨_, rfl⟩
    have s1 : Sm Pcw μ m1 := by rw [e1]; exact Sm.sI rfl
    obtain ⟨j', i1, i2, i3⟩ := s_next1 hp' (by omega) k0 a1 (s1.wf hw) (hm.w (s1.mono Pcw_w)) (hx.w s1) ex (hy.w s1) ey hi
    have ej : j' = j := ey.ix i1 j1 (by rw [i2, j2])
    subst ej
    rw [j4, a2, if_pos (by
      rw [show lI (co7 p y (b + 1) k) + LF (some u) = lI (co7 p y (b + 1) k + u) from lI_add _ _, lI_toInt (by omega) (by omega)]; omega), rR_49_16 hw, bsome, uI_62 hw (by omega), bsome, ← e1, i3, bsome, show (1 : Int32) = nI 1 from rfl, nI_add]
  | succ d ih =>
    intro g k hk hg
    obtain ⟨g, rfl⟩ : ∃ z, g = z + 1 := ⟨g - 1, by omega⟩
    obtain ⟨j', p1, p2, p3⟩ := ih g (k + 1) (by omega) (by omega)
    refine ⟨j', p1, p2, ?_⟩
    rw [← p3]
    have bad := k2 k (by omega)
    by_cases ha : al7 p (b + 1) k = true
    · obtain ⟨j, j1, j2, j3, j4⟩ := head g k (by omega) ha
      have cb := co7_b hp' (y := y) (b := b + 1) (by omega) (by omega) ha
      rw [j4]
      unfold okL at bad
      rw [lb, ha] at bad
      cases e : DD p y l (l - (b + 1)) (x i + sN7 p (b + 1) k) with
      | none =>
        rw [if_neg]
        rw [show lI (co7 p y (b + 1) k) + LF none = lI (co7 p y (b + 1) k + 1000000000000000) from lI_add _ _, lI_toInt (by omega) (by omega)]; omega
      | some u =>
        have ub := DD_b hp' y hl (l - (b + 1)) (by omega) _ u e
        rw [e, hv', decide_eq_true (by simp)] at bad
        have ne : ¬ co7 p y (b + 1) k + u = v := fun z => by
          have : pls (some u) (co7 p y (b + 1) k) = some v := by rw [← z, Int.add_comm]; rfl
          rw [this, decide_eq_true rfl] at bad
          cases bad
        rw [if_neg]
        rw [show lI (co7 p y (b + 1) k) + LF (some u) = lI (co7 p y (b + 1) k + u) from lI_add _ _, lI_toInt (by omega) (by omega)]; exact ne
    · rw [e_M_finds_L318, s_mayLink hw hm (by omega), bsome, if_pos (by rw [Bool.eq_false_iff.mpr ha]; rfl), lk7_s]
def Res (p : PT) (y : Bool) (l : Nat) (μ0 : MM) (r : Int32) (μ' : MM) : Prop := Sm Pcw μ0 μ' ∧ ((r = 0 ∧ DD p y l l 0 = none) ∨ (r = 1 ∧ ∃ v, DD p y l l 0 = some v ∧ gL μ' 49 17 = lI v ∧ ∀ b, 0 < b → b < 24 → gI μ' 62 b = rwz p y l l 0 b))
theorem s_f309 {p : PT} (hp' : WP p) {l : Nat} (hl : l < 24) {y : Bool} {μ0 : MM} (hw0 : Wf μ0) (hm0 : MP p μ0) (hW : WM p l μ0) {v0 : Int} (hv0 : DD p y l l 0 = some v0) : ∀ (d g b n i : Nat) (x : Nat → Int) (v : Int) (μ1 : MM), b + d = l → d < g → RM b n x μ0 → En p b n x → i < n → DD p y l (l - b) (x i) = some v → Sm Pcw μ0 μ1 → Ld p y l 0 μ0 μ1 → gL μ1 49 17 = lI v0 → (∀ c, 0 < c → c < 24 → rwz p y l l 0 c = if c < b + 1 then gI μ1 62 c else rwz p y l (l - b) (x i) c) → (∀ c, b < c → c < 24 → gI μ1 62 c = -1) → ∃ r μ', f_M_finds_L309 49 (nI l) (bi y) g (nI i) (nI (b + 1)) μ1 = some (r, μ') ∧ Res p y l μ0 r μ' := by
  intro d
  induction d with
  | zero =>
    intro g b n i x v μ1 hb hg hr he hi hv s1 hd h17 hrow hm
    obtain ⟨g, rfl⟩ : ∃ z, g = z + 1 := ⟨g - 1, by omega⟩
    have : b = l := by omega
    subst this
    refine ⟨1, μ1, ?_, s1, Or.inr ⟨rfl, v0, hv0, h17, fun c hc1 hc2 => ?_⟩⟩
    · rw [e_M_finds_L309, if_pos (by rw [clt (by omega) (by omega)]; omega)]
    · rw [hrow c hc1 hc2]
      by_cases q : c < b + 1
      · rw [if_pos q]
      · rw [if_neg q, hm c (by omega) hc2, Nat.sub_self]; rfl
  | succ d ih =>
    intro g b n i x v μ1 hb hg hr he hi hv s1 hd h17 hrow hm
    obtain ⟨g, rfl⟩ : ∃ z, g = z + 1 := ⟨g - 1, by omega⟩
    have lb : l - (l - (b + 1)) = b + 1 := by omega
    have hv' : DD p y l (l - (b + 1) + 1) (x i) = some v := by rw [show l - (b + 1) + 1 = l - b by omega]; exact hv
    obtain ⟨k0, k1, k2⟩ := okL_ex hv'
    obtain ⟨a1, u, a2, a3⟩ := okL_next k1
    rw [lb] at a1 a2 a3
    obtain ⟨ny, yy, ry, ey⟩ := hW (b + 1) (by omega)
    obtain ⟨j, hj, ej, e1⟩ := s_f318 hp' hl (by omega) (s1.wf hw0) (hm0.w (s1.mono Pcw_w)) (hr.w s1) he (ry.w s1) ey hi (hd b n x (by omega) (by omega) hr he i hi) (fun j hj => hd (b + 1) ny yy (by omega) (by omega) ry ey j hj) hv (f_M_finds_L309 49 (nI l) (bi y) g) (stL p y l (l - (b + 1)) (x i)) FU 0 (by omega) (by unfold FU; omega)
    rw [e_M_finds_L309, if_neg (by rw [clt (by omega) (by omega)]; omega), show (-1 : Int32) = lk7 0 from rfl, e1]
    refine ih g (b + 1) ny j yy u _ (by omega) (by omega) ry ey hj (by rw [ej]; exact a2) (s1.tr (Sm.sI rfl)) (fun c n f h1 h2 hr he i hi => hd c n f h1 h2 hr he i hi) h17 (fun c hc1 hc2 => ?_) (fun c hc1 hc2 => ?_)
    · rw [hrow c hc1 hc2, gI_sI]
      by_cases q : c < b + 1
      · rw [if_pos q, if_pos (by omega), upd_o (by omega)]
      · rw [if_neg q, show l - b = l - (b + 1) + 1 by omega]
        show (if c = l - (l - (b + 1)) then lk7 (stL p y l (l - (b + 1)) (x i)) else rwz p y l (l - (b + 1)) (x i + sN7 p (l - (l - (b + 1))) (stL p y l (l - (b + 1)) (x i))) c) = _
        rw [lb]
        by_cases q2 : c = b + 1
        · rw [if_pos q2, if_pos (by omega), q2, upd_s]
        · rw [if_neg q2, if_neg (by omega), ej]
    · rw [gI_sI, upd_o (by omega)]; exact hm c (by omega) hc2
