/-! LAYER 2: the letters, in the reference -/
def chr : Nat → Nat
  | 0 => 98
  | 1 => 118
  | 2 => 105
  | 3 => 107
  | 4 => 102
  | 5 => 104
  | 6 => 106
  | 7 => 117
  | 8 => 114
  | 9 => 110
  | 10 => 111
  | _ => 120
/-- what the reference holds while a note is sung -/
def MV (c : CT) (p : PT) (t : Nat) (kn : Bool) (i b : Nat) (last : Int32) (lp : Int) (luck : Nat) (μ : MM) : Prop := Wf μ ∧ MG c μ ∧ MP p μ ∧ gI μ 49 53 = nI t ∧ gI μ 49 59 = nI i ∧ gI μ 49 60 = nI b ∧ gI μ 49 58 = nI luck ∧ gI μ 82 i = bi kn ∧ gI μ 85 i = last ∧ (¬ last = -1 → gI μ 84 i = oI lp)
theorem oI_ge0 {z : Int} (h1 : -2147483648 ≤ z) (h2 : z < 2147483648) : ((0 : Int32) ≤ oI z) = (0 ≤ z) := by
  rw [toInt_le, oI_toInt h1 h2]; rfl
theorem oI_le0 {z : Int} (h1 : -2147483648 ≤ z) (h2 : z < 2147483648) : (oI z ≤ (0 : Int32)) = (z ≤ 0) := by
  rw [toInt_le, oI_toInt h1 h2]; rfl
theorem s_leapOf {c : CT} {p : PT} {μ : MM} (hc : WC c) (hp' : WP p) {t : Nat} {kn : Bool} {i b luck : Nat} {last : Int32} {lp : Int} (hv : MV c p t kn i b last lp luck μ) (hi : i < cN c) (hb : b < 24) (h : sg c p i b = true) (hl : lst c p i b last) : f_M_leapOf 49 μ = some (oI (lpo c p i b last)) := by
  obtain ⟨hw, hm, hmp, -, h59, h60, -, -, h85, -⟩ := hv
  have h8 := hc.1
  unfold f_M_leapOf lpo
  rw [kO_49 hw, bsome, rR_49_56 hw, bsome, rI_49 hw, bsome, h59, aI_85 hw (by omega), bsome, h85]
  by_cases e : last = -1
  · rw [if_pos e, if_pos e]; rfl
  · rw [if_neg e, if_neg e]
    obtain ⟨k, hk, rfl, hs⟩ := hl.resolve_left e
    rw [bsome, rI_49 hw, bsome, h60, (s_keyOf hw hc (MG_v hm) hp' hmp.1 hi hb h).1, bsome, bsome, (s_keyOf hw hc (MG_v hm) hp' hmp.1 hi (by omega) hs).1, bsome, nI_toInt (by omega), Int.toNat_natCast, oI_nI (ky c p i b), oI_nI (ky c p i k), oI_sub]
theorem s_valueOf {c : CT} {p : PT} {μ : MM} (hc : WC c) (hp' : WP p) {t : Nat} (ht2 : t < 12) {kn : Bool} {i b luck : Nat} {last : Int32} {lp : Int} (hv : MV c p t kn i b last lp luck μ) (hi : i < cN c) (hb : b < 24) (h : sg c p i b = true) (hl : lst c p i b last) (lpb : -PB ≤ lp ∧ lp ≤ PB) (lkb : luck < 65536) : ∀ k, k < 12 → f_M_valueOf 49 (nI (chr k)) μ = some (ltr c p t kn i b last lp (hmn c p b) luck k) := by
  have h8 := hc.1
  have lb := lpo_b hc hp' hi hb h hl
  have hlp := s_leapOf hc hp' hv hi hb h hl
  obtain ⟨hw, hm, hmp, h53, h59, h60, h58, h82, h85, h84⟩ := hv
  obtain ⟨g1, g2⟩ := sg_n hc hi hb h
  have v := MG_v hm i hi
  intro k hk
  rcases (show k = 0 ∨ k = 1 ∨ k = 2 ∨ k = 3 ∨ k = 4 ∨ k = 5 ∨ k = 6 ∨ k = 7 ∨ k = 8 ∨ k = 9 ∨ k = 10 ∨ k = 11 by omega) with rfl | rfl | rfl | rfl | rfl | rfl | rfl | rfl | rfl | rfl | rfl | rfl
  · show f_M_valueOf 49 (98 : Int32) μ = _
    unfold f_M_valueOf
    rw [kO_49 hw, bsome, rR_49_22 hw, bsome, rI_49 hw, bsome, h59, aI_63 hw (by omega), bsome, if_pos rfl, rI_49 hw, bsome, h60]; rfl
  · show f_M_valueOf 49 (118 : Int32) μ = _
    unfold f_M_valueOf
    rw [kO_49 hw, bsome, rR_49_22 hw, bsome, rI_49 hw, bsome, h59, aI_63 hw (by omega), bsome, if_neg (by decide), if_neg (by decide), if_neg (by decide), if_neg (by decide), if_neg (by decide), if_neg (by decide), if_neg (by decide), if_neg (by decide), if_neg (by decide), if_neg (by decide), if_neg (by decide), if_neg (by decide), if_neg (by decide), if_neg (by decide), if_neg (by decide), if_neg (by decide), if_neg (by decide), if_neg (by decide), if_neg (by decide), if_neg (by decide), if_pos rfl, v]; rfl
  · show f_M_valueOf 49 (105 : Int32) μ = _
    unfold f_M_valueOf
    rw [kO_49 hw, bsome, rR_49_22 hw, bsome, rI_49 hw, bsome, h59, aI_63 hw (by omega), bsome, if_neg (by decide), if_neg (by decide), if_neg (by decide), if_neg (by decide), if_neg (by decide), if_neg (by decide), if_neg (by decide), if_pos rfl, bsome]; rfl
  · show f_M_valueOf 49 (107 : Int32) μ = _
    unfold f_M_valueOf
    rw [kO_49 hw, bsome, rR_49_22 hw, bsome, rI_49 hw, bsome, h59, aI_63 hw (by omega), bsome, if_neg (by decide), if_neg (by decide), if_neg (by decide), if_neg (by decide), if_neg (by decide), if_neg (by decide), if_neg (by decide), if_neg (by decide), if_neg (by decide), if_pos rfl, rR_49_51 hw, bsome, bsome, aI_82 hw (by omega), bsome, h82]; rfl
  · show f_M_valueOf 49 (102 : Int32) μ = _
    unfold f_M_valueOf
    rw [kO_49 hw, bsome, rR_49_22 hw, bsome, rI_49 hw, bsome, h59, aI_63 hw (by omega), bsome, if_neg (by decide), if_neg (by decide), if_neg (by decide), if_neg (by decide), if_pos rfl, rR_49_24 hw, bsome, bsome, aI_65 hw (by omega), bsome, (hm.2.2.2.2.1 i hi).2.2.1]; rfl
  · show f_M_valueOf 49 (104 : Int32) μ = _
    unfold f_M_valueOf
    rw [kO_49 hw, bsome, rR_49_22 hw, bsome, rI_49 hw, bsome, h59, aI_63 hw (by omega), bsome, if_neg (by decide), if_neg (by decide), if_neg (by decide), if_neg (by decide), if_neg (by decide), if_neg (by decide), if_pos rfl, rI_49 hw, bsome, h60, v, s_isHeld hw, hmp.1, bsome]
    show _ = some (bi (hld (pkey p) (nI (cV c i)) (nI b)))
    cases hld (pkey p) (nI (cV c i)) (nI b) <;> rfl
  · show f_M_valueOf 49 (106 : Int32) μ = _
    unfold f_M_valueOf
    rw [kO_49 hw, bsome, rR_49_22 hw, bsome, rI_49 hw, bsome, h59, aI_63 hw (by omega), bsome, if_neg (by decide), if_neg (by decide), if_neg (by decide), if_neg (by decide), if_neg (by decide), if_neg (by decide), if_neg (by decide), if_neg (by decide), if_pos rfl, hlp, bsome, bsome, bsome]
    show _ = some (oI (iabs (lpo c p i b last)))
    unfold iabs
    by_cases e : 0 ≤ lpo c p i b last
    · rw [if_pos (by rw [oI_ge0 (by omega) (by omega)]; exact e), if_pos e]
    · rw [if_neg (by rw [oI_ge0 (by omega) (by omega)]; exact e), if_neg e, oI_neg]
  · show f_M_valueOf 49 (117 : Int32) μ = _
    unfold f_M_valueOf
    rw [kO_49 hw, bsome, rR_49_22 hw, bsome, rI_49 hw, bsome, h59, aI_63 hw (by omega), bsome, if_neg (by decide), if_neg (by decide), if_neg (by decide), if_neg (by decide), if_neg (by decide), if_neg (by decide), if_neg (by decide), if_neg (by decide), if_neg (by decide), if_neg (by decide), if_neg (by decide), if_neg (by decide), if_neg (by decide), if_neg (by decide), if_neg (by decide), if_neg (by decide), if_neg (by decide), if_neg (by decide), if_neg (by decide), if_pos rfl, hlp, bsome]
    show _ = some (bi (decide (0 < lpo c p i b last)))
    by_cases e : 0 < lpo c p i b last
    · rw [if_neg (by rw [oI_le0 (by omega) (by omega)]; omega), decide_eq_true e]; rfl
    · rw [if_pos (by rw [oI_le0 (by omega) (by omega)]; omega), decide_eq_false e]; rfl
  · show f_M_valueOf 49 (114 : Int32) μ = _
    unfold f_M_valueOf
    rw [kO_49 hw, bsome, rR_49_22 hw, bsome, rI_49 hw, bsome, h59, aI_63 hw (by omega), bsome, if_neg (by decide), if_neg (by decide), if_neg (by decide), if_neg (by decide), if_neg (by decide), if_neg (by decide), if_neg (by decide), if_neg (by decide), if_neg (by decide), if_neg (by decide), if_neg (by decide), if_neg (by decide), if_neg (by decide), if_neg (by decide), if_neg (by decide), if_neg (by decide), if_pos rfl, rR_49_6 hw, bsome, rI_49 hw, bsome, h60, v]
    unfold f_M_cellOf
    rw [bsome, cellN', aB_55 hw (by omega), bsome, hmp.2.2.2 _ g1 b hb]
    show _ = some (bi (pbr p (cV c i) b))
    cases pbr p (cV c i) b <;> rfl
  · show f_M_valueOf 49 (110 : Int32) μ = _
    unfold f_M_valueOf
    rw [kO_49 hw, bsome, rR_49_22 hw, bsome, rI_49 hw, bsome, h59, aI_63 hw (by omega), bsome, if_neg (by decide), if_neg (by decide), if_neg (by decide), if_neg (by decide), if_neg (by decide), if_neg (by decide), if_neg (by decide), if_neg (by decide), if_neg (by decide), if_neg (by decide), if_neg (by decide), if_neg (by decide), if_pos rfl, rI_49 hw, bsome, h60, s_singing hw hc hm.1 (MG_v hm) hmp.1, bsome]; rfl
  · show f_M_valueOf 49 (111 : Int32) μ = _
    unfold f_M_valueOf
    rw [kO_49 hw, bsome, rR_49_22 hw, bsome, rI_49 hw, bsome, h59, aI_63 hw (by omega), bsome, if_neg (by decide), if_neg (by decide), if_neg (by decide), if_neg (by decide), if_neg (by decide), if_neg (by decide), if_neg (by decide), if_neg (by decide), if_neg (by decide), if_neg (by decide), if_neg (by decide), if_neg (by decide), if_neg (by decide), if_pos rfl, rR_49_56 hw, bsome, bsome, aI_85 hw (by omega), bsome, h85]
    show _ = some (oI (ool c p t i last lp))
    unfold ool
    by_cases e : last = -1
    · rw [if_pos e, if_pos e]; rfl
    · rw [if_neg e, if_neg e]
      obtain ⟨q, hq, rfl, hs⟩ := hl.resolve_left e
      have tb := tab_b hc hp' (t := t) hi (show q < 24 by omega) hs
      obtain ⟨k1, k2⟩ := s_keyOf hw hc (MG_v hm) hp' hmp.1 hi (show q < 24 by omega) hs
      unfold PB at lpb
      rw [bsome, bsome, bsome, aI_85 hw (by omega), bsome, h85, k1, bsome, s_tableOfM hw hm.2.2.2.2.2 h53 ht2 k2, bsome, rR_49_55 hw, bsome, bsome, aI_84 hw (by omega), bsome, h84 e, show tbl c t (ky c p i q) = tab c p t i q from rfl, oI_sub, oI_l (by omega) (by omega), show (1000 : Int64) = lI 1000 from rfl, s_floor (by omega) (by decide) (by decide) (by omega), bsome, lI_i, nI_toInt (by omega), Int.toNat_natCast]
  · show f_M_valueOf 49 (120 : Int32) μ = _
    unfold f_M_valueOf
    rw [kO_49 hw, bsome, rR_49_22 hw, bsome, rI_49 hw, bsome, h59, aI_63 hw (by omega), bsome, if_neg (by decide), if_neg (by decide), if_neg (by decide), if_neg (by decide), if_neg (by decide), if_neg (by decide), if_neg (by decide), if_neg (by decide), if_neg (by decide), if_neg (by decide), if_neg (by decide), if_neg (by decide), if_neg (by decide), if_neg (by decide), if_neg (by decide), if_neg (by decide), if_neg (by decide), if_neg (by decide), if_neg (by decide), if_neg (by decide), if_neg (by decide)]
    unfold f_M_valueOf_J279
    rw [rI_49 hw, bsome, h58, irem_100 lkb]; rfl
