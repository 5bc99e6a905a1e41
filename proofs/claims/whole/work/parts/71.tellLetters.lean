/-! LAYER 2: the letters are told, in the class -/
theorem s_tellLetters {c : CT} {p : PT} {μ : MM} (hw : Wf μ) (hc : WC c) (hx : XG c μ) (hp' : WP p) (hxp : XP p μ) {t : Nat} {nb : Bool} (ht : gI μ 24 10 = nI t) (ht2 : t < 12) (hn : gI μ 24 11 = bi nb) {i b : Nat} (hi : i < cN c) (hb : b < 24) (h : sg c p i b = true) {last : Int32} (hl : lst c p i b last) {lp : Int} (hlp : ¬ last = -1 → gL μ 26 i = lI lp) (lpb : -PB ≤ lp ∧ lp ≤ PB) {many luck : Nat} (hmany : gI μ 24 14 = nI many) (hluck : gI μ 24 13 = nI luck) (lkb : luck < 65536) :
    f_Si_tellLetters 24 (nI i) (nI b) last μ = some (mL μ (ltr c p t (knw c nb i) i b last lp many luck) 12) := by
  have h8 := hc.1
  obtain ⟨h1, h2⟩ := sg_n hc hi hb h
  obtain ⟨k1, k2⟩ := kN_e hp' (show 24 * cV c i + b < 144 by omega) h2
  have lb := lpo_b hc hp' hi hb h hl
  obtain ⟨L, hL⟩ : ∃ x, x = ltr c p t (knw c nb i) i b last lp many luck := ⟨_, rfl⟩
  rw [← hL]
  have sm : ∀ k, Sm P27 μ (mL μ L k) := mL_sm μ L
  have w : ∀ k, Wf (mL μ L k) := fun k => (sm k).wf hw
  have xg : ∀ k, XG c (mL μ L k) := fun k => hx.sm (sm k) P27_Pcf
  have xp : ∀ k, XP p (mL μ L k) := fun k => hxp.sm (sm k) (fun a k h1 h2 => by simp [P27]; omega)
  have g24 : ∀ k, gI (mL μ L k) 24 = gI μ 24 := fun k => (sm k).gI 24 (fun _ => rfl)
  have g26 : ∀ k, gL (mL μ L k) 26 = gL μ 26 := fun k => (sm k).gL 26 (fun _ => rfl)
  have u : ∀ k, k < 12 → uI (mL μ L k) 27 (nI k) (L k) = some (mL μ L (k + 1)) := fun k hk => u_mL hw L hk
  have u0 : uI μ 27 0 (nI b) = some (mL μ L 1) := by have := u 0 (by decide); rw [hL] at this ⊢; exact this
  have u1 : uI (mL μ L 1) 27 1 (nI (cV c i)) = some (mL μ L 2) := by have := u 1 (by decide); rw [hL] at this ⊢; exact this
  have u2 : uI (mL μ L 2) 27 2 (nI i) = some (mL μ L 3) := by have := u 2 (by decide); rw [hL] at this ⊢; exact this
  have u3 : uI (mL μ L 3) 27 3 (bi (knw c nb i)) = some (mL μ L 4) := by have := u 3 (by decide); rw [hL] at this ⊢; exact this
  have u4 : uI (mL μ L 4) 27 4 (nI (cL c i)) = some (mL μ L 5) := by have := u 4 (by decide); rw [hL] at this ⊢; exact this
  have u5 : uI (mL μ L 5) 27 5 (bi (hld (pkey p) (nI (cV c i)) (nI b))) = some (mL μ L 6) := by have := u 5 (by decide); rw [hL] at this ⊢; exact this
  have u6 : uI (mL μ L 6) 27 6 (oI (iabs (lpo c p i b last))) = some (mL μ L 7) := by have := u 6 (by decide); rw [hL] at this ⊢; exact this
  have u7 : uI (mL μ L 7) 27 7 (bi (decide (0 < lpo c p i b last))) = some (mL μ L 8) := by have := u 7 (by decide); rw [hL] at this ⊢; exact this
  have u8 : uI (mL μ L 8) 27 8 (bi (pbr p (cV c i) b)) = some (mL μ L 9) := by have := u 8 (by decide); rw [hL] at this ⊢; exact this
  have u9 : uI (mL μ L 9) 27 9 (nI many) = some (mL μ L 10) := by have := u 9 (by decide); rw [hL] at this ⊢; exact this
  have u10 : uI (mL μ L 10) 27 10 (oI (ool c p t i last lp)) = some (mL μ L 11) := by have := u 10 (by decide); rw [hL] at this ⊢; exact this
  have u11 : uI (mL μ L 11) 27 11 (nI (luck % 100)) = some (mL μ L 12) := by have := u 11 (by decide); rw [hL] at this ⊢; exact this
  have c231 : f_Si_tellLetters_J231 24 27 10 (oI (ool c p t i last lp)) (mL μ L 10) = some (mL μ L 12) := by
    unfold f_Si_tellLetters_J231
    rw [u10, bsome, rR_24_4 (w 11), bsome, rI_24 (w 11), bsome, g24, hluck, irem_100 lkb, u11, bsome]
  have c184 : f_Si_tellLetters_J184 24 (nI i) last 27 8 (bi (pbr p (cV c i) b)) (mL μ L 8) = some (mL μ L 12) := by
    unfold f_Si_tellLetters_J184
    rw [u8, bsome, rR_24_4 (w 9), bsome, rI_24 (w 9), bsome, g24, hmany, u9, bsome, rR_24_4 (w 10), bsome, ← c231]
    unfold ool
    by_cases e : last = -1
    · rw [if_pos e, if_pos e]; rfl
    · rw [if_neg e, if_neg e]
      obtain ⟨k, hk, rfl, hs⟩ := hl.resolve_left e
      have tb := tab_b hc hp' (t := t) hi (show k < 24 by omega) hs
      rw [s_SitableOf (w 10) hc (xg 10) hp' (xp 10).1 (by rw [g24]; exact ht) ht2 hi (by omega) hs, bsome, rR_24_3 (w 10), bsome, aL_26 (w 10) (by omega), bsome, g26, hlp e, lI_sub, show (1000 : Int64) = lI 1000 from rfl, s_floorDiv (by unfold PB at lpb; omega) (by decide) (by decide), bsome, lI_i, nI_toInt (by omega), Int.toNat_natCast]
  have c159 : f_Si_tellLetters_J159 24 (nI i) (nI b) last (nI (cV c i)) 27 7 (bi (decide (0 < lpo c p i b last))) (mL μ L 7) = some (mL μ L 12) := by
    unfold f_Si_tellLetters_J159
    rw [u7, bsome, rR_24_4 (w 8), bsome, rR_24_0 (w 8), bsome, s_breathes (w 8) (xp 8).2.1 h1 hb, bsome, ← c184]
    cases pbr p (cV c i) b <;> rfl
  have c130 : f_Si_tellLetters_J130 24 (nI i) (nI b) last (nI (cV c i)) (oI (lpo c p i b last)) 27 5 (bi (hld (pkey p) (nI (cV c i)) (nI b))) (mL μ L 5) = some (mL μ L 12) := by
    unfold f_Si_tellLetters_J130
    rw [u5, bsome, rR_24_4 (w 6), bsome, s_absI (by omega) (by omega), bsome, u6, bsome, rR_24_4 (w 7), bsome, ← c159]
    by_cases e : 0 < lpo c p i b last
    · rw [if_neg (by rw [toInt_le, oI_toInt (by omega) (by omega)]; have : (0 : Int32).toInt = 0 := by decide
                     omega), decide_eq_true e]; rfl
    · rw [if_pos (by rw [toInt_le, oI_toInt (by omega) (by omega)]; have : (0 : Int32).toInt = 0 := by decide
                     omega), decide_eq_false e]; rfl
  have c91 : f_Si_tellLetters_J91 24 (nI i) (nI b) last (nI (cV c i)) (oI (lpo c p i b last)) 27 3 (bi (knw c nb i)) (mL μ L 3) = some (mL μ L 12) := by
    unfold f_Si_tellLetters_J91
    rw [u3, bsome, rR_24_4 (w 4), bsome, rR_24_1 (w 4), bsome, rR_9_3 (w 4), bsome, aI_12 (w 4) (by omega), bsome, ((xg 4).2.2.2.2.1 i hi).2.2.1, u4, bsome, rR_24_4 (w 5), bsome, rR_24_0 (w 5), bsome, s_holds (w 5), (xp 5).1.1, bsome, ← c130]
    cases hld (pkey p) (nI (cV c i)) (nI b) <;> rfl
  have c49 : f_Si_tellLetters_J49 24 (nI i) (nI b) last (nI (cV c i)) (oI (lpo c p i b last)) μ = some (mL μ L 12) := by
    unfold f_Si_tellLetters_J49
    rw [rR_24_4 hw, bsome, u0, bsome, rR_24_4 (w 1), bsome, u1, bsome, rR_24_4 (w 2), bsome, u2, bsome, rR_24_4 (w 3), bsome, s_isKnowing (w 3) hc (xg 3) (by rw [g24]; exact hn) hi, bsome, ← c91]
    cases knw c nb i <;> rfl
  unfold f_Si_tellLetters
  rw [kO_24 hw, bsome, rR_24_1 hw, bsome, rR_9_1 hw, bsome, aI_10 hw (by omega), bsome, (hx.2.2.2.2.1 i hi).1, ← c49]
  unfold lpo
  by_cases e : last = -1
  · rw [if_pos e, if_pos e]; rfl
  · rw [if_neg e, if_neg e]
    obtain ⟨k, hk, rfl, hs⟩ := hl.resolve_left e
    obtain ⟨g1, g2⟩ := sg_n hc hi (show k < 24 by omega) hs
    obtain ⟨l1, l2⟩ := kN_e hp' (show 24 * cV c i + k < 144 by omega) g2
    rw [rR_24_0 hw, bsome, rR_1_0 hw, bsome, s_cell, bsome, aI_2 hw (by omega), bsome, bsome, rR_1_0 hw, bsome, s_cell, bsome, aI_2 hw (by omega), bsome, hxp.1.1, k2, l2, nI_toInt (by omega), Int.toNat_natCast, oI_nI (kN p (24 * cV c i + b)), oI_nI (kN p (24 * cV c i + k)), oI_sub]; rfl
