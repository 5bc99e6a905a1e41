/-! LAYER 2: ways, in the reference: finds, whole -/
theorem s_f285 {p : PT} (hp' : WP p) {l : Nat} (hl : l < 24) {y : Bool} {μ0 : MM} (hw0 : Wf μ0) (hm0 : MP p μ0) (hW : WM p l μ0) {v0 : Int} (hv0 : DD p y l l 0 = some v0) : ∀ (d g k : Nat) (μ1 : MM), k + d = 24 → d < g → Sm Pcw μ0 μ1 → Ld p y l 0 μ0 μ1 → gL μ1 49 17 = lI v0 → (∀ c, c < k → gI μ1 62 c = -1) → ∃ r μ', f_M_finds_L285 49 (nI l) (bi y) (nI 0) g (nI k) μ1 = some (r, μ') ∧ Res p y l μ0 r μ' := by
  intro d
  induction d with
  | zero =>
    intro g k μ1 hk hg s1 hd h17 hm
    obtain ⟨g, rfl⟩ : ∃ z, g = z + 1 := ⟨g - 1, by omega⟩
    have : k = 24 := by omega
    subst this
    obtain ⟨n, x, rx, ex⟩ := hW 0 (by omega)
    obtain ⟨i, hi, ei⟩ := ex.2.2 0 rfl
    have i0 : i = 0 := by
      rcases Nat.eq_zero_or_pos i with h | h
      · exact h
      · have h1 : x 0 = 0 := ex.2.1 0 (by omega)
        exact absurd (by rw [h1, ei]) (ex.1 0 i h hi)
    subst i0
    rw [e_M_finds_L285, if_pos (by decide), show (1 : Int32) = nI (0 + 1) from rfl]
    exact s_f309 hp' hl hw0 hm0 hW hv0 l FU 0 n 0 x v0 μ1 (by omega) (by unfold FU; omega) rx ex hi (by rw [ei]; exact hv0) s1 hd h17 (fun c hc1 hc2 => by rw [if_neg (by omega), ei]; rfl) (fun c hc1 hc2 => hm c hc2)
  | succ d ih =>
    intro g k μ1 hk hg s1 hd h17 hm
    obtain ⟨g, rfl⟩ : ∃ z, g = z + 1 := ⟨g - 1, by omega⟩
    have hw := s1.wf hw0
    rw [e_M_finds_L285, if_neg (by rw [show (24 : Int32) = nI 24 from rfl, cle (by omega) (by omega)]; omega), rR_49_16 hw, bsome, uI_62 hw (by omega), bsome, show (1 : Int32) = nI 1 from rfl, nI_add]
    refine ih g (k + 1) _ (by omega) (by omega) (s1.tr (Sm.sI rfl)) (fun c n f h1 h2 hr he i hi => hd c n f h1 h2 hr he i hi) h17 (fun c hc => ?_)
    rw [gI_sI]
    by_cases q : c = k
    · rw [q, upd_s]; rfl
    · rw [upd_o q]; exact hm c (by omega)
theorem s_f83 {p : PT} (hp' : WP p) {l : Nat} (hl : l < 24) {y : Bool} {μ0 : MM} (hw0 : Wf μ0) (hm0 : MP p μ0) (hW : WM p l μ0) : ∀ (b g : Nat) (μ1 : MM), b < l + 1 → b < g → Sm Pcw μ0 μ1 → Ld p y l b μ0 μ1 → ∃ r μ', f_M_finds_L83 49 (nI l) (bi y) g (nI b) μ1 = some (r, μ') ∧ Res p y l μ0 r μ' := by
  intro b
  induction b with
  | zero =>
    intro g μ1 hb hg s1 hd
    obtain ⟨g, rfl⟩ : ∃ z, g = z + 1 := ⟨g - 1, by omega⟩
    have hw := s1.wf hw0
    obtain ⟨n, x, rx, ex⟩ := hW 0 (by omega)
    obtain ⟨i, hi, ei⟩ := ex.2.2 0 rfl
    have x00 : x 0 = 0 := ex.2.1 0 (by omega)
    have c0 : gL μ1 61 0 = LF (DD p y l l 0) := by
      have := hd 0 n x (by omega) (by omega) rx ex 0 (by omega)
      rw [x00] at this; exact this
    obtain ⟨m1, em1⟩ : ∃ z, z = sL μ1 49 17 (LF (DD p y l l 0)) := ⟨_, rfl⟩
    have t1 : Sm Pcw μ1 m1 := by rw [em1]; exact Sm.sL rfl
    have hwm := t1.wf hw
    have m17 : gL m1 49 17 = LF (DD p y l l 0) := by rw [em1, gL_sL]; unfold vp_updL; rw [if_pos rfl]
    have n61 : gL m1 61 = gL μ1 61 := by rw [em1, gL_sL_ne (by decide)]
    rw [e_M_finds_L83, if_pos (by decide), rR_49_15 hw, bsome, show (0 : Int32) = nI 0 from rfl, aL_61 hw (by omega), bsome, c0, pL_49 hw, bsome, ← em1, rL_49 hwm, bsome, m17]
    cases hv : DD p y l l 0 with
    | none =>
      rw [if_neg (by
        show ¬ lg_cmp (lI 1000000000000000) _ < (0 : Int32)
        rw [lgc_lt, lI_toInt (by omega) (by omega)]; decide)]
      exact ⟨0, m1, rfl, s1.tr t1, Or.inl ⟨rfl, hv⟩⟩
    | some v =>
      have vb := DD_b hp' y hl l (by omega) _ v hv
      rw [if_pos (by
        show lg_cmp (lI v) _ < (0 : Int32)
        rw [lgc_lt, lI_toInt (by omega) (by omega)]
        show v < 1000000000000000
        omega)]
      exact s_f285 hp' hl hw0 hm0 hW hv 24 FU 0 m1 (by omega) (by unfold FU; omega) (s1.tr t1) (fun c n f h1 h2 hr he i hi => by rw [n61]; exact hd c n f h1 h2 hr he i hi) (by rw [m17, hv]; rfl) (fun c hc => absurd hc (by omega))
  | succ b ih =>
    intro g μ1 hb hg s1 hd
    obtain ⟨g, rfl⟩ : ∃ z, g = z + 1 := ⟨g - 1, by omega⟩
    obtain ⟨nx, x, rx, ex⟩ := hW b (by omega)
    obtain ⟨ny, yy, ry, ey⟩ := hW (b + 1) (by omega)
    obtain ⟨m1, em1, sm1, hd1⟩ := s_f90 hp' hl (y := y) (b := b) (by omega) hw0 hm0 rx ex ry ey (f_M_finds_L83 49 (nI l) (bi y) g) nx FU 0 μ1 (by omega) (by have := rx.2.1; unfold FU; omega) s1 hd (fun j hj => absurd hj (by omega))
    rw [e_M_finds_L83, if_neg (show ¬ nI (b + 1) ≤ (0 : Int32) by rw [show (0 : Int32) = nI 0 from rfl, cle (by omega) (by omega)]; omega), show (0 : Int32) = nI 0 from rfl, em1]
    exact ih g m1 (by omega) (by omega) sm1 hd1
theorem s_f12 {p : PT} (hp' : WP p) {l : Nat} (hl : l < 24) {y : Bool} {μ0 : MM} (hw0 : Wf μ0) (hm0 : MP p μ0) (hW : WM p l μ0) {n : Nat} {x : Nat → Int} (hx : RM l n x μ0) (ex : En p l n x) : ∀ (d g i : Nat) (μ1 : MM), i + d = n → d < g → Sm Pcw μ0 μ1 → (∀ j, j < i → gL μ1 61 (300 * l + j) = LF (DD p y l 0 (x j))) → ∃ r μ', f_M_finds_L12 49 (nI l) (bi y) g (nI i) μ1 = some (r, μ') ∧ Res p y l μ0 r μ' := by
  intro d
  induction d with
  | zero =>
    intro g i μ1 hi hg s1 hc
    obtain ⟨g, rfl⟩ : ∃ z, g = z + 1 := ⟨g - 1, by omega⟩
    have : i = n := by omega
    subst this
    have hw := s1.wf hw0
    have n3 := hx.2.1
    rw [e_M_finds_L12, rR_49_11 hw, bsome, aI_57 hw hl, bsome, (hx.w s1).1, if_pos (by rw [cle (by omega) (by omega)]; omega)]
    refine s_f83 hp' hl hw0 hm0 hW l FU μ1 (by omega) (by unfold FU; omega) s1 (fun c m f h1 h2 hr he j hj => ?_)
    have : c = l := by omega
    subst this
    obtain ⟨en, ef⟩ := hr.u hp' hl hx he ex
    subst en
    rw [hc j hj, Nat.sub_self, ef j hj]
  | succ d ih =>
    intro g i μ1 hi hg s1 hc
    obtain ⟨g, rfl⟩ : ∃ z, g = z + 1 := ⟨g - 1, by omega⟩
    have hw := s1.wf hw0
    have n3 := hx.2.1
    have ilt : i < n := by omega
    obtain ⟨a1, a2, a3⟩ := (hx.w s1).2.2 i ilt
    obtain ⟨b1, b2, b3, b4, -⟩ := RR_d hp' hl (ex.2.1 i ilt)
    have fin : ∀ v : Int64, v = LF (DD p y l 0 (x i)) → ∃ r μ', f_M_finds_J74 (f_M_finds_L12 49 (nI l) (bi y) g) 49 (nI l) (bi y) (nI i) 61 (nI (300 * l + i)) v μ1 = some (r, μ') ∧ Res p y l μ0 r μ' := fun v hv => by
      unfold f_M_finds_J74
      rw [uL_61 hw (by omega), bsome, show (1 : Int32) = nI 1 from rfl, nI_add]
      refine ih g (i + 1) _ (by omega) (by omega) (s1.tr (Sm.sL rfl)) (fun j hj => ?_)
      rw [gL_sL]; unfold vp_updL
      by_cases q : j = i
      · rw [q, if_pos rfl, hv]
      · rw [if_neg (by omega)]; exact hc j (by omega)
    have far : ¬ x i = 0 → ∃ r μ', f_M_finds_J71 (f_M_finds_L12 49 (nI l) (bi y) g) 49 (nI l) (bi y) (nI i) 61 (nI (300 * l + i)) μ1 = some (r, μ') ∧ Res p y l μ0 r μ' := fun q => by
      refine fin _ ?_
      show _ = LF (if x i = 0 then some 0 else none)
      rw [if_neg q]; rfl
    rw [e_M_finds_L12, rR_49_11 hw, bsome, aI_57 hw hl, bsome, (hx.w s1).1, if_neg (by rw [cle (by omega) (by omega)]; omega), rR_49_15 hw, bsome, rR_49_12 hw, bsome, r3x, aI_58 hw (by omega), bsome, a1]
    by_cases q1 : dA7 (x i) = 0
    · rw [if_pos (by rw [q1]; rfl), rR_49_13 hw, bsome, aI_59 hw (by omega), bsome, a2]
      by_cases q2 : dB7 (x i) = 0
      · rw [if_pos (by rw [q2]; rfl), rR_49_14 hw, bsome, aI_60 hw (by omega), bsome, a3]
        by_cases q3 : dC7 (x i) = 0
        · rw [if_pos (by rw [q3]; rfl)]
          refine fin _ ?_
          show _ = LF (if x i = 0 then some 0 else none)
          rw [if_pos (by rw [b4, q1, q2, q3]; rfl)]; rfl
        · rw [if_neg (by rw [show (0 : Int32) = oI 0 from rfl, oI_inj (by omega) (by omega)]; exact q3)]
          exact far (fun e => q3 (by rw [e]; rfl))
      · rw [if_neg (by rw [show (0 : Int32) = oI 0 from rfl, oI_inj (by omega) (by omega)]; exact q2)]
        exact far (fun e => q2 (by rw [e]; rfl))
    · rw [if_neg (by rw [show (0 : Int32) = oI 0 from rfl, oI_inj (by omega) (by omega)]; exact q1)]
      exact far (fun e => q1 (by rw [e]; rfl))
theorem s_finds {p : PT} (hp' : WP p) {l : Nat} (hl : l < 24) {y : Bool} {μ : MM} (hw : Wf μ) (hm : MP p μ) : ∃ r μ', f_M_finds 49 (nI l) (bi y) μ = some (r, μ') ∧ Sm Pmm μ μ' ∧ ((r = 0 ∧ ∃ c, c < l + 1 ∧ Bg p c) ∨ ((∀ c, c < l + 1 → ¬ Bg p c) ∧ ((r = 0 ∧ DD p y l l 0 = none) ∨ (r = 1 ∧ ∃ v, DD p y l l 0 = some v ∧ gL μ' 49 17 = lI v ∧ ∀ b, 0 < b → b < 24 → gI μ' 62 b = rwz p y l l 0 b)))) := by
  obtain ⟨r, μ1, e1, s1, res⟩ := s_lays hp' hl hw hm
  unfold f_M_finds
  rw [kO_49 hw, bsome, e1, bsome]
  rcases res with ⟨rfl, bg⟩ | ⟨rfl, hW⟩
  · rw [if_pos rfl]
    exact ⟨0, μ1, rfl, s1, Or.inl ⟨rfl, bg⟩⟩
  · rw [if_neg (show ¬ (1 : Int32) = 0 by decide), show (0 : Int32) = nI 0 from rfl]
    obtain ⟨n, x, rx, ex⟩ := hW l (by omega)
    obtain ⟨r, μ2, e2, s2, res2⟩ := s_f12 hp' hl (y := y) (s1.wf hw) (hm.w s1) hW rx ex n FU 0 μ1 (by omega) (by have := rx.2.1; unfold FU; omega) Sm.rf (fun j hj => absurd hj (by omega))
    exact ⟨r, μ2, e2, s1.tr (s2.mono Pcw_w), Or.inr ⟨fun c hc => by
      obtain ⟨n, x, rx, ex⟩ := hW c hc
      exact ex.nb rx.2.1, res2⟩⟩
