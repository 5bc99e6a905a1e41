/-! LAYER 2: ways, in the first program: the least row; the nearest -/
theorem DD_RR {p : PT} (hp' : WP p) {y : Bool} {l : Nat} (hl : l < 24) : ∀ (j : Nat), j < l + 1 → ∀ z v, DD p y l j z = some v → RR p (l - j) z → RR p l 0
  | 0, _, z, v, h, hr => by
    have h : (if z = 0 then some (0 : Int) else none) = some v := h
    split at h
    · rename_i e; rw [e] at hr; exact hr
    · cases h
  | j + 1, hj, z, v, h, hr => by
    obtain ⟨⟨k, hk, e⟩, -⟩ := mnk_some 7 v h
    by_cases ha : al7 p (l - j) k = true
    · rw [if_pos ha] at e
      obtain ⟨a, e1, -⟩ := pls_b e
      have lj : l - j = (l - (j + 1)) + 1 := by omega
      rw [lj] at ha e1
      refine DD_RR hp' hl j (by omega) _ a e1 ?_
      rw [lj]
      exact (RR_s hp' (by omega) hr hk ha).1
    · rw [if_neg ha] at e; cases e
theorem cv0 {p : PT} {l : Nat} {μ : MM} (hX : WX p l μ) : ∃ n x, Rw 0 n x μ ∧ 0 < n ∧ x 0 = 0 := by
  obtain ⟨n, x, rx, ex⟩ := hX.2.1 0 (by omega)
  obtain ⟨i, hi, ei⟩ := ex.2.2 0 rfl
  exact ⟨n, x, rx, by omega, ex.2.1 0 (by omega)⟩
theorem s_ls51 {p : PT} (hp' : WP p) {l : Nat} (hl : l < 24) {y : Bool} {b : Nat} (hb : b < l) {μ0 : MM} (w0 : Ww μ0) (hX : WX p l μ0) (hz : Pz p y l μ0) (K : Int32 → MM → Option (Int32 × MM)) : ∀ (d g k : Nat) (μ : MM), k + d = 7 → d < g → Sm (Pc1 94) μ0 μ → Dc p y l (b + 1) k μ0 μ → ∃ μ', f_Wa_leastRow_L51 K 92 (nI (b + 1)) g (nI k) μ = K (nI b) μ' ∧ Sm (Pc1 94) μ0 μ' ∧ Dc p y l b 0 μ0 μ' := by
  intro d
  induction d with
  | zero =>
    intro g k μ hk hg s0 hd
    obtain ⟨g, rfl⟩ : ∃ z, g = z + 1 := ⟨g - 1, by omega⟩
    have : k = 7 := by omega
    subst this
    refine ⟨μ, ?_, s0, fun c n f hc hr i hi => ?_⟩
    · rw [e_Wa_leastRow_L51, if_pos (by decide), nI_p, nI_m1 (by omega), Nat.add_sub_cancel]
    · rw [hd c n f hc hr i hi]
      unfold dv
      by_cases q : b + 1 < c + 1
      · rw [if_pos q, if_pos (by omega)]
      · rw [if_neg q]
        by_cases q2 : c = b
        · rw [if_pos (by omega), if_pos (by omega), DK_7 (by omega) (by omega), Nat.add_sub_cancel, q2]
        · rw [if_neg (by omega), if_neg (by omega)]
          by_cases q3 : c + 1 = b
          · rw [if_pos q3]; rfl
          · rw [if_neg q3]
  | succ d ih =>
    intro g k μ hk hg s0 hd
    obtain ⟨g, rfl⟩ : ∃ z, g = z + 1 := ⟨g - 1, by omega⟩
    obtain ⟨μ1, e1, s1, d1⟩ := s_back hp' hl hb (by omega) w0 hX hz s0 hd
    rw [e_Wa_leastRow_L51, if_neg (by rw [show (7 : Int32) = nI 7 from rfl, cle (by omega) (by omega)]; omega), e1, bsome, show (1 : Int32) = nI 1 from rfl, nI_add]
    exact ih g (k + 1) μ1 (by omega) (by omega) s1 d1
theorem s_leastRow {p : PT} (hp' : WP p) {l : Nat} (hl : l < 24) {y : Bool} {μ : MM} (hw : Wf μ) (hx : XC p μ) (w : Ww μ) (hX : WX p l μ) : ∃ r μ', f_Wa_leastRow 92 (bi y) μ = some (r, μ') ∧ Sm Pwy μ μ' ∧ gI μ' 97 = gI μ 97 ∧ ((r = 0 ∧ DD p y l l 0 = none) ∨ (r = 1 ∧ ∃ v, DD p y l l 0 = some v ∧ gI μ' 92 8 = oI v ∧ ∀ b, 0 < b → b < 24 → gI μ' 99 b = rwz p y l l 0 b)) := by
  obtain ⟨nl, xl, rl, el⟩ := hX.2.1 l (by omega)
  unfold f_Wa_leastRow
  rw [kO_92 w, bsome, rI_92 w, bsome, hX.1]
  rcases s_wfind hl w rl (z := 0) (by omega) with ⟨i0, hi0, e0, fe⟩ | ⟨no, fe⟩
  · have l3 := rl.2.1
    rw [show (0 : Int32) = oI 0 from rfl, fe, bsome, if_neg (nI_ne_m1 (by omega))]
    obtain ⟨μ1, e1, s1, z1⟩ := s_price hp' hl (y := y) hw hx w hX
    have w1 := s1.ww w
    rw [e1, bsome, rR_92_2 w1, bsome]
    obtain ⟨μ2, e2, s2, f2⟩ := s_fill94 (2147483647 : Int32) w1
    have w2 := s2.ww w1
    rw [e2, bsome, rR_92_2 w2, bsome, uI_94 w2 (by omega), bsome]
    obtain ⟨μ3, e3⟩ : ∃ z, z = sI μ2 94 (300 * l + i0) (oI 0) := ⟨_, rfl⟩
    have s3 : Sm (Pc1 94) μ2 μ3 := by rw [e3]; exact Sm.sI Pc1_s
    have w3 := s3.ww w2
    have s13 : Sm (Pc1 94) μ1 μ3 := s2.tr s3
    have X1 := hX.s1 s1 (by decide) (by decide) (by decide) (by decide)
    have X3 := X1.s1 s13 (by decide) (by decide) (by decide) (by decide)
    rw [← e3, rI_92 w3, bsome, X3.1]
    have Z3 : Pz p y l μ3 := fun c j h1 h2 h3 => by rw [s13.gI 98 (Pc1_ne (by decide))]; exact z1 c j h1 h2 h3
    have d3 : Dc p y l l 0 μ3 μ3 := fun c n f hc hr i hi => by
      have n3 := hr.2.1
      rw [e3, gI_sI]
      by_cases q : c = l
      · subst q
        have rl3 : Rw c nl xl μ3 := rl.c (by rw [s13.gI 95 (Pc1_ne (by decide)), s1.gI 95 (Pc1_ne (by decide))]) (fun _ _ => by rw [s13.gI 93 (Pc1_ne (by decide)), s1.gI 93 (Pc1_ne (by decide))])
        obtain ⟨en, ef⟩ := hr.u rl3
        subst en
        unfold dv
        rw [if_pos (by omega), Nat.sub_self]
        show _ = fI (if f i = 0 then some 0 else none)
        by_cases qi : i = i0
        · rw [qi, upd_s, if_pos (by rw [ef i0 hi0]; exact e0)]; rfl
        · rw [upd_o (by omega), f2 _ (by omega), if_neg (fun z => by
            rw [ef i hi] at z
            rcases Nat.lt_trichotomy i i0 with h | h | h
            · have := rl.2.2.2.1 i i0 h hi0; omega
            · exact qi h
            · have := rl.2.2.2.1 i0 i h hi; omega)]; rfl
      · rw [upd_o (by omega), f2 _ (by omega)]
        unfold dv
        rw [if_neg (by omega)]
        by_cases q2 : c + 1 = l
        · rw [if_pos q2]; rfl
        · rw [if_neg q2]; rfl
    have go : ∀ (b g : Nat) (m : MM), b < l + 1 → b < g → Sm (Pc1 94) μ3 m → Dc p y l b 0 μ3 m → ∃ r μ', f_Wa_leastRow_L43 92 g (nI b) m = some (r, μ') ∧ Sm Pwy μ3 μ' ∧ gI μ' 97 = gI μ3 97 ∧ ((r = 0 ∧ DD p y l l 0 = none) ∨ (r = 1 ∧ ∃ v, DD p y l l 0 = some v ∧ gI μ' 92 8 = oI v ∧ ∀ b, 0 < b → b < 24 → gI μ' 99 b = rwz p y l l 0 b)) := by
      intro b
      induction b with
      | zero =>
        intro g m hb hg sm hd
        obtain ⟨g, rfl⟩ : ∃ z, g = z + 1 := ⟨g - 1, by omega⟩
        have wm := sm.ww w3
        obtain ⟨n0, x0, r0, n0p, x00⟩ := cv0 X3
        have c0 : gI m 94 0 = fI (DD p y l l 0) := by
          have := hd 0 n0 x0 (by omega) r0 0 n0p
          unfold dv at this
          rw [if_pos (by omega), x00] at this
          exact this
        obtain ⟨m1, em1⟩ : ∃ z, z = sI m 92 8 (fI (DD p y l l 0)) := ⟨_, rfl⟩
        have sm1 : Sm (Pc1 92) m m1 := by rw [em1]; exact Sm.sI Pc1_s
        have wm1 := sm1.ww wm
        have m8 : gI m1 92 8 = fI (DD p y l l 0) := by rw [em1, gI_sI, upd_s]
        have sw1 : Sm Pwy μ3 m1 := (sm.mono (Pc1_w (by decide))).tr (sm1.mono (Pc1_w (by decide)))
        have n97 : gI m1 97 = gI μ3 97 := by rw [sm1.gI 97 (Pc1_ne (by decide)), sm.gI 97 (Pc1_ne (by decide))]
        rw [e_Wa_leastRow_L43, if_pos (by decide), rR_92_2 wm, bsome, show (0 : Int32) = nI 0 from rfl, aI_94 wm (by omega), bsome, c0, pI_92 wm, bsome, ← em1, rI_92 wm1, bsome, m8]
        cases hv : DD p y l l 0 with
        | none =>
          rw [if_pos (by rfl)]
          exact ⟨0, m1, rfl, sw1, n97, Or.inl ⟨rfl, rfl⟩⟩
        | some v =>
          have vb := DD_b hp' y hl l (by omega) _ v hv
          have hne : ¬ fI (some v) = (2147483647 : Int32) := fun e => by
            have : oI v = oI 2147483647 := e
            rw [oI_inj (by omega) (by omega)] at this
            omega
          have Xm : WX p l m1 := by
            have a := X3.s1 sm (by decide) (by decide) (by decide) (by decide)
            exact a.c (by rw [em1, gI_sI, upd_o (by decide)]) (sm1.gI 93 (Pc1_ne (by decide))) (sm1.gI 95 (Pc1_ne (by decide))) (sm1.gI 97 (Pc1_ne (by decide)))
          have Zm : Pz p y l m1 := fun c j h1 h2 h3 => by rw [sm1.gI 98 (Pc1_ne (by decide)), sm.gI 98 (Pc1_ne (by decide))]; exact Z3 c j h1 h2 h3
          have Dm : Dc p y l 0 0 m1 m1 := fun c n f hc hr i hi => by
            have hr3 : Rw c n f μ3 := hr.c (by rw [sm1.gI 95 (Pc1_ne (by decide)), sm.gI 95 (Pc1_ne (by decide))]) (fun _ _ => by rw [sm1.gI 93 (Pc1_ne (by decide)), sm.gI 93 (Pc1_ne (by decide))])
            rw [sm1.gI 94 (Pc1_ne (by decide))]; exact hd c n f hc hr3 i hi
          obtain ⟨m2, em2, sm2, row⟩ := s_follow hp' hl wm1 Xm Zm Dm hv
          rw [if_neg hne, em2, bsome, if_neg (show ¬ (1 : Int32) = nI 0 by decide)]
          refine ⟨1, m2, rfl, sw1.tr (sm2.mono (Pc1_w (by decide))), by rw [sm2.gI 97 (Pc1_ne (by decide)), n97], Or.inr ⟨rfl, v, rfl, ?_, row⟩⟩
          rw [sm2.gI 92 (Pc1_ne (by decide)), m8, hv]; rfl
      | succ b ih =>
        intro g m hb hg sm hd
        obtain ⟨g, rfl⟩ : ∃ z, g = z + 1 := ⟨g - 1, by omega⟩
        obtain ⟨m1, em1, sm1, hd1⟩ := s_ls51 hp' hl (y := y) (b := b) (by omega) w3 X3 Z3 (f_Wa_leastRow_L43 92 g) 7 FU 0 m (by omega) (by unfold FU; omega) sm hd
        rw [e_Wa_leastRow_L43, if_neg (by rw [show (1 : Int32) = nI 1 from rfl, clt (by omega) (by omega)]; omega), show (0 : Int32) = nI 0 from rfl, em1]
        exact ih g m1 (by omega) (by omega) sm1 hd1
    obtain ⟨r, μ', h1, h2, h3, h4⟩ := go l FU μ3 (by omega) (by unfold FU; omega) Sm.rf d3
    exact ⟨r, μ', h1, ((s1.mono (Pc1_w (by decide))).tr (s13.mono (Pc1_w (by decide)))).tr h2, by rw [h3, s13.gI 97 (Pc1_ne (by decide)), s1.gI 97 (Pc1_ne (by decide))], h4⟩
  · refine ⟨0, μ, ?_, Sm.rf, rfl, Or.inl ⟨rfl, ?_⟩⟩
    · rw [show (0 : Int32) = oI 0 from rfl, fe, bsome, if_pos rfl]
    · cases h : DD p y l l 0 with
      | none => rfl
      | some v =>
        have := DD_RR hp' hl l (by omega) 0 v h (by rw [Nat.sub_self]; rfl)
        obtain ⟨j, j1, j2⟩ := el.2.2 0 this
        exact absurd j2 (no j j1)
