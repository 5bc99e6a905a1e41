/-! LAYER 2: blown, given, table, place, singer -/
theorem lt_le_s {h : Int} (hh : -2147483648 ≤ h ∧ h + 1 < 2147483648) (x : Int32) : x < oI (h + 1) ↔ x ≤ oI h := by
  rw [toInt_lt, toInt_le, oI_toInt (by omega) (by omega), oI_toInt (by omega) (by omega)]; omega
theorem hi_given : -2147483648 ≤ (16777215 : Int) ∧ (16777215 : Int) + 1 < 2147483648 := by decide
theorem blown_ok {c : CT} {μ : MM} (hw : Wf μ) (hc : WC c) (hx : XG c μ) (hm : MG c μ) (x1 : Int32) : ∃ r μ1 μ2, f_X_blown 0 x1 μ = some (r, μ1) ∧ f_M_blown 49 x1 μ1 = some (r, μ2) ∧ CRes Pcf μ μ2 := by
  rcases bnd_c x1 (-200000) 200000 (by decide) (by decide) (by decide) with ⟨h1, h2⟩ | ⟨h1, h2, h3⟩ | ⟨h1, h2, h3, z, z1, z2, rfl⟩
  · refine ⟨0, μ, μ, ?_, ?_, Or.inl rfl⟩
    · unfold f_X_blown; rw [kO_0 hw, bsome, if_pos (show x1 < (-200000 : Int32) from h1)]
    · unfold f_M_blown; rw [kO_49 hw, bsome, s_liesI x1 (-200000) 200000 (-200000) 200000 (by decide) (by decide), h2]; rfl
  · refine ⟨0, μ, μ, ?_, ?_, Or.inl rfl⟩
    · unfold f_X_blown; rw [kO_0 hw, bsome, if_neg (show ¬ x1 < (-200000 : Int32) from h1), if_neg (show ¬ x1 ≤ (200000 : Int32) from h2)]
    · unfold f_M_blown; rw [kO_49 hw, bsome, s_liesI x1 (-200000) 200000 (-200000) 200000 (by decide) (by decide), h3]; rfl
  · obtain ⟨μa, hμa⟩ : ∃ x, x = sI μ 9 11 (oI z) := ⟨_, rfl⟩
    obtain ⟨μb, hμb⟩ : ∃ x, x = sI μa 0 9 (gI μa 0 9 + 1) := ⟨_, rfl⟩
    obtain ⟨μc, hμc⟩ : ∃ x, x = sI μb 49 20 (oI z) := ⟨_, rfl⟩
    have sa : Sm Pcf μ μa := by rw [hμa]; exact Pcf_sI rfl
    have sb : Sm Pcf μa μb := by rw [hμb]; exact Pcf_sI rfl
    have sc : Sm Pcf μb μc := by rw [hμc]; exact Pcf_sI rfl
    have wa := sa.wf hw
    have wb := sb.wf wa
    have ez : oI z = oI z := rfl
    refine ⟨1, μb, μc, ?_, ?_, Or.inr ⟨cset c (cN c) (cV c) (cP c) (cL c) (cK c) (cT c) (cU c) z (cG c), ?_, ?_, ?_, (sa.tr sb).tr sc, ?_⟩⟩
    · unfold f_X_blown; rw [kO_0 hw, bsome, if_neg (show ¬ oI z < (-200000 : Int32) from h1), if_pos (show oI z ≤ (200000 : Int32) from h2), rR_0_1 hw, bsome, pI_9 hw, bsome, ← hμa, s_changed wa, bsome, ← hμb]; rfl
    · unfold f_M_blown; rw [kO_49 wb, bsome, s_liesI _ (-200000) 200000 (-200000) 200000 (by decide) (by decide), h3, bsome, if_neg (by decide), pI_49 wb, bsome, ← hμc]
    · obtain ⟨a1, a2, a3, a4, a5, a6⟩ := hc
      exact ⟨a1, a2, a3, a4, ⟨z1, z2⟩, a6⟩
    · obtain ⟨a1, a2, a3, a4, a5, a6⟩ := hx
      subst hμc; subst hμb; subst hμa
      unfold XG
      simp (disch := decide) only [gI_sI, gI_sI_ne]
      exact ⟨a1, a2, ez, a4, a5, a6⟩
    · obtain ⟨a1, a2, a3, a4, a5, a6⟩ := hm
      subst hμc; subst hμb; subst hμa
      unfold MG
      simp (disch := decide) only [gI_sI, gI_sI_ne]
      exact ⟨a1, a2, ez, a4, a5, a6⟩
    · rw [hμc, gI_sI_ne (by decide), hμb, gI_sI, hμa, gI_sI_ne (by decide)]; simp [upd]
theorem given_ok {c : CT} {μ : MM} (hw : Wf μ) (hc : WC c) (hx : XG c μ) (hm : MG c μ) (x1 : Int32) : ∃ r μ1 μ2, f_X_given 0 x1 μ = some (r, μ1) ∧ f_M_given 49 x1 μ1 = some (r, μ2) ∧ CRes Pcf μ μ2 := by
  rcases bnd_c x1 (0) 16777215 (by decide) (by decide) (by decide) with ⟨h1, h2⟩ | ⟨h1, h2, h3⟩ | ⟨h1, h2, h3, z, z1, z2, rfl⟩
  · refine ⟨0, μ, μ, ?_, ?_, Or.inl rfl⟩
    · unfold f_X_given; rw [kO_0 hw, bsome, if_pos (show x1 < (0 : Int32) from h1)]
    · unfold f_M_given; rw [kO_49 hw, bsome, s_liesI x1 (0) 16777215 (0) 16777215 (by decide) (by decide), h2]; rfl
  · refine ⟨0, μ, μ, ?_, ?_, Or.inl rfl⟩
    · unfold f_X_given; rw [kO_0 hw, bsome, if_neg (show ¬ x1 < (0 : Int32) from h1), if_neg (show ¬ x1 < (16777216 : Int32) from fun q => h2 ((lt_le_s hi_given x1).mp q))]
    · unfold f_M_given; rw [kO_49 hw, bsome, s_liesI x1 (0) 16777215 (0) 16777215 (by decide) (by decide), h3]; rfl
  · obtain ⟨μa, hμa⟩ : ∃ x, x = sI μ 9 12 (oI z) := ⟨_, rfl⟩
    obtain ⟨μb, hμb⟩ : ∃ x, x = sI μa 0 9 (gI μa 0 9 + 1) := ⟨_, rfl⟩
    obtain ⟨μc, hμc⟩ : ∃ x, x = sI μb 49 21 (oI z) := ⟨_, rfl⟩
    have sa : Sm Pcf μ μa := by rw [hμa]; exact Pcf_sI rfl
    have sb : Sm Pcf μa μb := by rw [hμb]; exact Pcf_sI rfl
    have sc : Sm Pcf μb μc := by rw [hμc]; exact Pcf_sI rfl
    have wa := sa.wf hw
    have wb := sb.wf wa
    have ez : oI z = nI z.toNat := by rw [oI_nI]; congr 1; omega
    refine ⟨1, μb, μc, ?_, ?_, Or.inr ⟨cset c (cN c) (cV c) (cP c) (cL c) (cK c) (cT c) (cU c) (cW c) z.toNat, ?_, ?_, ?_, (sa.tr sb).tr sc, ?_⟩⟩
    · unfold f_X_given; rw [kO_0 hw, bsome, if_neg (show ¬ oI z < (0 : Int32) from h1), if_pos (show oI z < (16777216 : Int32) from (lt_le_s hi_given (oI z)).mpr h2), rR_0_1 hw, bsome, pI_9 hw, bsome, ← hμa, s_changed wa, bsome, ← hμb]; rfl
    · unfold f_M_given; rw [kO_49 wb, bsome, s_liesI _ (0) 16777215 (0) 16777215 (by decide) (by decide), h3, bsome, if_neg (by decide), pI_49 wb, bsome, ← hμc]
    · obtain ⟨a1, a2, a3, a4, a5, a6⟩ := hc
      exact ⟨a1, a2, a3, a4, a5, show z.toNat < 16777216 by omega⟩
    · obtain ⟨a1, a2, a3, a4, a5, a6⟩ := hx
      subst hμc; subst hμb; subst hμa
      unfold XG
      simp (disch := decide) only [gI_sI, gI_sI_ne]
      exact ⟨a1, a2, a3, ez, a5, a6⟩
    · obtain ⟨a1, a2, a3, a4, a5, a6⟩ := hm
      subst hμc; subst hμb; subst hμa
      unfold MG
      simp (disch := decide) only [gI_sI, gI_sI_ne]
      exact ⟨a1, a2, a3, ez, a5, a6⟩
    · rw [hμc, gI_sI_ne (by decide), hμb, gI_sI, hμa, gI_sI_ne (by decide)]; simp [upd]
theorem cell_c {n : Nat} {f g : Nat → Int32} {k : Nat} {y : Int32} (h : ∀ i, i < n → f i = g i) : ∀ i, i < n → upd f k y i = upd g k y i := fun i hi => by unfold upd; split; rfl; exact h i hi
theorem table_ok {c : CT} {μ : MM} (hw : Wf μ) (hc : WC c) (hx : XG c μ) (hm : MG c μ) (x1 x2 : Int32) : ∃ r μ1 μ2, f_X_table 0 x1 x2 μ = some (r, μ1) ∧ f_M_table 49 x1 x2 μ1 = some (r, μ2) ∧ CRes Pcf μ μ2 := by
  rcases ixc 12 12 rfl (by decide) x1 with ⟨g1, g2⟩ | ⟨g1, g2, g3⟩ | ⟨g1, g2, g3, k, hk, rfl⟩
  · refine ⟨0, μ, μ, ?_, ?_, Or.inl rfl⟩
    · unfold f_X_table; rw [kO_0 hw, bsome, if_pos g1]
    · unfold f_M_table; rw [kO_49 hw, bsome, s_liesI x1 0 11 0 11 (by decide) (by decide), inR_le x1 12 11 (by decide), g2]; rfl
  · refine ⟨0, μ, μ, ?_, ?_, Or.inl rfl⟩
    · unfold f_X_table; rw [kO_0 hw, bsome, if_neg g1, if_pos g2]
    · unfold f_M_table; rw [kO_49 hw, bsome, s_liesI x1 0 11 0 11 (by decide) (by decide), inR_le x1 12 11 (by decide), g3]; rfl
  rcases bnd_c x2 (-60000) 60000 (by decide) (by decide) (by decide) with ⟨h1, h2⟩ | ⟨h1, h2, h3⟩ | ⟨h1, h2, h3, z, z1, z2, rfl⟩
  · refine ⟨0, μ, μ, ?_, ?_, Or.inl rfl⟩
    · unfold f_X_table; rw [kO_0 hw, bsome, if_neg g1, if_neg g2, if_pos (show x2 < (-60000 : Int32) from h1)]
    · unfold f_M_table; rw [kO_49 hw, bsome, s_liesI _ 0 11 0 11 (by decide) (by decide), inR_le _ 12 11 (by decide), g3, bsome, if_neg (by decide), s_liesI x2 (-60000) 60000 (-60000) 60000 (by decide) (by decide), h2]; rfl
  · refine ⟨0, μ, μ, ?_, ?_, Or.inl rfl⟩
    · unfold f_X_table; rw [kO_0 hw, bsome, if_neg g1, if_neg g2, if_neg (show ¬ x2 < (-60000 : Int32) from h1), if_neg (show ¬ x2 ≤ (60000 : Int32) from h2)]
    · unfold f_M_table; rw [kO_49 hw, bsome, s_liesI _ 0 11 0 11 (by decide) (by decide), inR_le _ 12 11 (by decide), g3, bsome, if_neg (by decide), s_liesI x2 (-60000) 60000 (-60000) 60000 (by decide) (by decide), h3]; rfl
  · obtain ⟨μa, hμa⟩ : ∃ x, x = sI μ 16 k (oI z) := ⟨_, rfl⟩
    obtain ⟨μb, hμb⟩ : ∃ x, x = sI μa 0 9 (gI μa 0 9 + 1) := ⟨_, rfl⟩
    obtain ⟨μc, hμc⟩ : ∃ x, x = sI μb 67 k (oI z) := ⟨_, rfl⟩
    have sa : Sm Pcf μ μa := by rw [hμa]; exact Pcf_sI rfl
    have sb : Sm Pcf μa μb := by rw [hμb]; exact Pcf_sI rfl
    have sc : Sm Pcf μb μc := by rw [hμc]; exact Pcf_sI rfl
    have wa := sa.wf hw
    have wb := sb.wf wa
    refine ⟨1, μb, μc, ?_, ?_, Or.inr ⟨cset c (cN c) (cV c) (cP c) (cL c) (cK c) (fun j => if j = k then z else cT c j) (cU c) (cW c) (cG c), ?_, ?_, ?_, (sa.tr sb).tr sc, ?_⟩⟩
    · unfold f_X_table; rw [kO_0 hw, bsome, if_neg g1, if_neg g2, if_neg (show ¬ oI z < (-60000 : Int32) from h1), if_pos (show oI z ≤ (60000 : Int32) from h2), rR_0_1 hw, bsome, rR_9_7 hw, bsome, uI_16 hw hk, bsome, ← hμa, s_changed wa, bsome, ← hμb]; rfl
    · unfold f_M_table; rw [kO_49 wb, bsome, s_liesI _ 0 11 0 11 (by decide) (by decide), inR_le _ 12 11 (by decide), g3, bsome, if_neg (by decide), s_liesI _ (-60000) 60000 (-60000) 60000 (by decide) (by decide), h3, bsome, if_neg (by decide), rR_49_26 wb, bsome, uI_67 wb hk, bsome, ← hμc]
    · obtain ⟨a1, a2, a3, a4, a5, a6⟩ := hc
      refine ⟨a1, a2, fun j hj => ?_, a4, a5, a6⟩
      show -60000 ≤ (if j = k then z else cT c j) ∧ (if j = k then z else cT c j) ≤ 60000
      by_cases e : j = k
      · rw [if_pos e]; exact ⟨z1, z2⟩
      · rw [if_neg e]; exact a3 j hj
    · obtain ⟨a1, a2, a3, a4, a5, a6⟩ := hx
      subst hμc; subst hμb; subst hμa
      unfold XG
      simp (disch := decide) only [gI_sI, gI_sI_ne]
      refine ⟨a1, a2, a3, a4, a5, fun j hj => ?_⟩
      show upd (gI μ 16) k (oI z) j = oI (if j = k then z else cT c j)
      unfold upd
      by_cases e : j = k
      · rw [if_pos e, if_pos e]
      · rw [if_neg e, if_neg e]; exact a6 j hj
    · obtain ⟨a1, a2, a3, a4, a5, a6⟩ := hm
      subst hμc; subst hμb; subst hμa
      unfold MG
      simp (disch := decide) only [gI_sI, gI_sI_ne]
      refine ⟨a1, a2, a3, a4, a5, fun j hj => ?_⟩
      show upd (gI μ 67) k (oI z) j = oI (if j = k then z else cT c j)
      unfold upd
      by_cases e : j = k
      · rw [if_pos e, if_pos e]
      · rw [if_neg e, if_neg e]; exact a6 j hj
    · rw [hμc, gI_sI_ne (by decide), hμb, gI_sI, hμa, gI_sI_ne (by decide)]; simp [upd]
theorem place_ok {c : CT} {μ : MM} (hw : Wf μ) (hc : WC c) (hx : XG c μ) (hm : MG c μ) (x1 x2 : Int32) : ∃ r μ1 μ2, f_X_place 0 x1 x2 μ = some (r, μ1) ∧ f_M_place 49 x1 x2 μ1 = some (r, μ2) ∧ CRes Pcf μ μ2 := by
  have h8 := hc.1
  have no : inR x1 (cN c) = false → ∃ r μ1 μ2, f_X_place 0 x1 x2 μ = some (r, μ1) ∧ f_M_place 49 x1 x2 μ1 = some (r, μ2) ∧ CRes Pcf μ μ2 := fun g => by
    refine ⟨0, μ, μ, ?_, ?_, Or.inl rfl⟩
    · unfold f_X_place; rw [kO_0 hw, bsome, rR_0_1 hw, bsome, s_chas hw hc hx, g]; rfl
    · unfold f_M_place; rw [kO_49 hw, bsome, s_isSinger hw hc hm, g]; rfl
  rcases ixc (cN c) _ rfl (by omega) x1 with ⟨g1, g2⟩ | ⟨g1, g2, g3⟩ | ⟨g1, g2, g3, k, hk, rfl⟩
  · exact no g2
  · exact no g3
  rcases ixc 16 16 rfl (by decide) x2 with ⟨h1, h2⟩ | ⟨h1, h2, h3⟩ | ⟨h1, h2, h3, z, hz, rfl⟩
  · refine ⟨0, μ, μ, ?_, ?_, Or.inl rfl⟩
    · unfold f_X_place; rw [kO_0 hw, bsome, rR_0_1 hw, bsome, s_chas hw hc hx, g3, bsome, if_neg (by decide), if_pos h1]
    · unfold f_M_place; rw [kO_49 hw, bsome, s_isSinger hw hc hm, g3, bsome, if_neg (by decide), s_liesI x2 0 15 0 15 (by decide) (by decide), inR_le x2 16 15 (by decide), h2]; rfl
  · refine ⟨0, μ, μ, ?_, ?_, Or.inl rfl⟩
    · unfold f_X_place; rw [kO_0 hw, bsome, rR_0_1 hw, bsome, s_chas hw hc hx, g3, bsome, if_neg (by decide), if_neg h1, if_neg (show ¬ x2 < (16 : Int32) by rw [toInt_lt]; rw [toInt_le] at h2; omega)]
    · unfold f_M_place; rw [kO_49 hw, bsome, s_isSinger hw hc hm, g3, bsome, if_neg (by decide), s_liesI x2 0 15 0 15 (by decide) (by decide), inR_le x2 16 15 (by decide), h3]; rfl
  · obtain ⟨μa, hμa⟩ : ∃ x, x = sI μ 11 k (nI z) := ⟨_, rfl⟩
    obtain ⟨μb, hμb⟩ : ∃ x, x = sI μa 0 9 (gI μa 0 9 + 1) := ⟨_, rfl⟩
    obtain ⟨μc, hμc⟩ : ∃ x, x = sI μb 64 k (nI z) := ⟨_, rfl⟩
    have sa : Sm Pcf μ μa := by rw [hμa]; exact Pcf_sI rfl
    have sb : Sm Pcf μa μb := by rw [hμb]; exact Pcf_sI rfl
    have sc : Sm Pcf μb μc := by rw [hμc]; exact Pcf_sI rfl
    have wa := sa.wf hw
    have wb := sb.wf wa
    have mb : MG c μb := by
      subst hμb; subst hμa
      unfold MG
      simp (disch := decide) only [gI_sI_ne]
      exact hm
    have lz : nI z < (16 : Int32) := by rw [show (16 : Int32) = nI 16 from rfl, clt (by omega) (by decide)]; exact hz
    refine ⟨1, μb, μc, ?_, ?_, Or.inr ⟨cset c (cN c) (cV c) (fun j => if j = k then z else cP c j) (cL c) (cK c) (cT c) (cU c) (cW c) (cG c), ?_, ?_, ?_, (sa.tr sb).tr sc, ?_⟩⟩
    · unfold f_X_place; rw [kO_0 hw, bsome, rR_0_1 hw, bsome, s_chas hw hc hx, g3, bsome, if_neg (by decide), if_neg h1, if_pos lz, bsome, rR_9_2 hw, bsome, uI_11 hw (by omega), bsome, ← hμa, s_changed wa, bsome, ← hμb]; rfl
    · unfold f_M_place; rw [kO_49 wb, bsome, s_isSinger wb hc mb, g3, bsome, if_neg (by decide), s_liesI _ 0 15 0 15 (by decide) (by decide), inR_le _ 16 15 (by decide), h3, bsome, if_neg (by decide), rR_49_23 wb, bsome, uI_64 wb (by omega), bsome, ← hμc]
    · obtain ⟨a1, a2, a3, a4, a5, a6⟩ := hc
      refine ⟨a1, fun j hj => ?_, a3, a4, a5, a6⟩
      obtain ⟨b1, b2, b3⟩ := a2 j hj
      refine ⟨b1, ?_, b3⟩
      show (if j = k then z else cP c j) < 16
      by_cases e : j = k
      · rw [if_pos e]; exact hz
      · rw [if_neg e]; exact b2
    · obtain ⟨a1, a2, a3, a4, a5, a6⟩ := hx
      subst hμc; subst hμb; subst hμa
      unfold XG
      simp (disch := decide) only [gI_sI, gI_sI_ne]
      refine ⟨a1, a2, a3, a4, fun j hj => ?_, a6⟩
      obtain ⟨b1, b2, b3⟩ := a5 j hj
      refine ⟨b1, ?_, b3⟩
      show upd (gI μ 11) k (nI z) j = nI (if j = k then z else cP c j)
      unfold upd
      by_cases e : j = k
      · rw [if_pos e, if_pos e]
      · rw [if_neg e, if_neg e]; exact b2
    · obtain ⟨a1, a2, a3, a4, a5, a6⟩ := hm
      subst hμc; subst hμb; subst hμa
      unfold MG
      simp (disch := decide) only [gI_sI, gI_sI_ne]
      refine ⟨a1, a2, a3, a4, fun j hj => ?_, a6⟩
      obtain ⟨b1, b2, b3⟩ := a5 j hj
      refine ⟨b1, ?_, b3⟩
      show upd (gI μ 64) k (nI z) j = nI (if j = k then z else cP c j)
      unfold upd
      by_cases e : j = k
      · rw [if_pos e, if_pos e]
      · rw [if_neg e, if_neg e]; exact b2
    · rw [hμc, gI_sI_ne (by decide), hμb, gI_sI, hμa, gI_sI_ne (by decide)]; simp [upd]
