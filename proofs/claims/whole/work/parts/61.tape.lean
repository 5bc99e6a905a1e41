/-! LAYER 2: tape -/
abbrev RT : Type := (Nat → Nat → Bool) × (Nat → Int)
def WR (d : RT) : Prop := ∀ k, k < 192 → -10000000 ≤ d.2 k ∧ d.2 k ≤ 10000000
def XR (d : RT) (μ : MM) : Prop := (∀ i, i < 8 → ∃ m, m < 2 ^ 24 ∧ gI μ 15 i = nI m ∧ ∀ b, b < 24 → m.testBit b = d.1 i b) ∧ ∀ k, k < 192 → gI μ 14 k = oI (d.2 k)
def MR (d : RT) (μ : MM) : Prop := (∀ i, i < 8 → ∀ b, b < 24 → gI μ 91 (24 * i + b) = bi (d.1 i b)) ∧ ∀ k, k < 192 → gI μ 90 k = oI (d.2 k)
def Ptp (a _k : Nat) : Bool := a == 14 || a == 15 || a == 90 || a == 91
theorem MG.sm {P : Nat → Nat → Bool} {c : CT} {μ μ' : MM} (h : MG c μ) (s : Sm P μ μ') (hP : ∀ a k, Pcf a k = true → P a k = false) : MG c μ' := by
  unfold MG
  rw [(s.2.2 49 18 (hP 49 18 rfl)).1, (s.2.2 49 19 (hP 49 19 rfl)).1, (s.2.2 49 20 (hP 49 20 rfl)).1, (s.2.2 49 21 (hP 49 21 rfl)).1, s.gI 63 (fun k => hP 63 k rfl), s.gI 64 (fun k => hP 64 k rfl), s.gI 65 (fun k => hP 65 k rfl), s.gI 66 (fun k => hP 66 k rfl), s.gI 67 (fun k => hP 67 k rfl)]
  exact h
theorem XG.sm {P : Nat → Nat → Bool} {c : CT} {μ μ' : MM} (h : XG c μ) (s : Sm P μ μ') (hP : ∀ a k, Pcf a k = true → P a k = false) : XG c μ' := by
  unfold XG
  rw [(s.2.2 9 9 (hP 9 9 rfl)).1, (s.2.2 9 10 (hP 9 10 rfl)).1, (s.2.2 9 11 (hP 9 11 rfl)).1, (s.2.2 9 12 (hP 9 12 rfl)).1, s.gI 10 (fun k => hP 10 k rfl), s.gI 11 (fun k => hP 11 k rfl), s.gI 12 (fun k => hP 12 k rfl), s.gI 13 (fun k => hP 13 k rfl), s.gI 16 (fun k => hP 16 k rfl)]
  exact h
theorem Ptp_Pcf : ∀ a k, Pcf a k = true → Ptp a k = false := by
  intro a k h
  by_cases e : a = 14 ∨ a = 15 ∨ a = 90 ∨ a = 91
  · rcases e with rfl | rfl | rfl | rfl <;> simp [Pcf] at h
  · simp only [not_or] at e
    simp [Ptp, e]
theorem tape_ok {c : CT} {d : RT} {μ : MM} (hw : Wf μ) (hc : WC c) (hx : XG c μ) (hm : MG c μ) (hd : WR d) (hxr : XR d μ) (hmr : MR d μ) (x1 x2 x3 : Int32) : ∃ r μ1 μ2, f_X_tape 0 x1 x2 x3 μ = some (r, μ1) ∧ f_M_tape 49 x1 x2 x3 μ1 = some (r, μ2) ∧ Sm Ptp μ μ2 ∧ ∃ d', WR d' ∧ XR d' μ2 ∧ MR d' μ2 := by
  have h8 := hc.1
  have mo : f_X_tape 0 x1 x2 x3 μ = some (0, μ) → f_M_tape 49 x1 x2 x3 μ = some (0, μ) → ∃ r μ1 μ2, f_X_tape 0 x1 x2 x3 μ = some (r, μ1) ∧ f_M_tape 49 x1 x2 x3 μ1 = some (r, μ2) ∧ Sm Ptp μ μ2 ∧ ∃ d', WR d' ∧ XR d' μ2 ∧ MR d' μ2 := fun a b => ⟨0, μ, μ, a, b, Sm.rf, d, hd, hxr, hmr⟩
  have no : inR x1 (cN c) = false → ∃ r μ1 μ2, f_X_tape 0 x1 x2 x3 μ = some (r, μ1) ∧ f_M_tape 49 x1 x2 x3 μ1 = some (r, μ2) ∧ Sm Ptp μ μ2 ∧ ∃ d', WR d' ∧ XR d' μ2 ∧ MR d' μ2 := fun g => by
    refine mo ?_ ?_
    · unfold f_X_tape; rw [kO_0 hw, bsome, rR_0_1 hw, bsome, s_chas hw hc hx, g]; rfl
    · unfold f_M_tape; rw [kO_49 hw, bsome, s_isSinger hw hc hm, g]; rfl
  rcases ixc (cN c) _ rfl (by omega) x1 with ⟨g1, g2⟩ | ⟨g1, g2, g3⟩ | ⟨-, -, g3, i, hi, ei⟩
  · exact no g2
  · exact no g3
  rcases ixc 24 24 rfl (by decide) x2 with ⟨b1, b2⟩ | ⟨b1, b2, b3⟩ | ⟨b1, b2, b3, b, hb, eb⟩
  · refine mo ?_ ?_
    · unfold f_X_tape; rw [kO_0 hw, bsome, rR_0_1 hw, bsome, s_chas hw hc hx, g3, bsome, if_neg (by decide), if_pos b1]
    · unfold f_M_tape; rw [kO_49 hw, bsome, s_isSinger hw hc hm, g3, bsome, if_neg (by decide), s_isBeat, b2]; rfl
  · refine mo ?_ ?_
    · unfold f_X_tape; rw [kO_0 hw, bsome, rR_0_1 hw, bsome, s_chas hw hc hx, g3, bsome, if_neg (by decide), if_neg b1, if_pos b2]
    · unfold f_M_tape; rw [kO_49 hw, bsome, s_isSinger hw hc hm, g3, bsome, if_neg (by decide), s_isBeat, b3]; rfl
  rcases bnd_c x3 (-10000000) 10000000 (by decide) (by decide) (by decide) with ⟨h1, h2⟩ | ⟨h1, h2, h3⟩ | ⟨h1, h2, h3, z, z1, z2, ez⟩
  · refine mo ?_ ?_
    · unfold f_X_tape; rw [kO_0 hw, bsome, rR_0_1 hw, bsome, s_chas hw hc hx, g3, bsome, if_neg (by decide), if_neg b1, if_neg b2, if_pos (show x3 < (-10000000 : Int32) from h1)]
    · unfold f_M_tape; rw [kO_49 hw, bsome, s_isSinger hw hc hm, g3, bsome, if_neg (by decide), s_isBeat, b3, bsome, if_neg (by decide), s_liesI x3 (-10000000) 10000000 (-10000000) 10000000 (by decide) (by decide), h2]; rfl
  · refine mo ?_ ?_
    · unfold f_X_tape; rw [kO_0 hw, bsome, rR_0_1 hw, bsome, s_chas hw hc hx, g3, bsome, if_neg (by decide), if_neg b1, if_neg b2, if_neg (show ¬ x3 < (-10000000 : Int32) from h1), if_neg (show ¬ x3 ≤ (10000000 : Int32) from h2)]
    · unfold f_M_tape; rw [kO_49 hw, bsome, s_isSinger hw hc hm, g3, bsome, if_neg (by decide), s_isBeat, b3, bsome, if_neg (by decide), s_liesI x3 (-10000000) 10000000 (-10000000) 10000000 (by decide) (by decide), h3]; rfl
  obtain ⟨m, hm24, em, hmb⟩ := hxr.1 i (by omega)
  obtain ⟨μa, hμa⟩ : ∃ x, x = sI μ 14 (24 * i + b) (oI z) := ⟨_, rfl⟩
  obtain ⟨μb, hμb⟩ : ∃ x, x = sI μa 15 i (nI (m ||| 2 ^ b)) := ⟨_, rfl⟩
  obtain ⟨μc, hμc⟩ : ∃ x, x = sI μb 90 (24 * i + b) (oI z) := ⟨_, rfl⟩
  obtain ⟨μd, hμd⟩ : ∃ x, x = sI μc 91 (24 * i + b) 1 := ⟨_, rfl⟩
  have sa : Sm Ptp μ μa := by rw [hμa]; exact Sm.sI rfl
  have sb : Sm Ptp μ μb := by rw [hμb]; exact sa.tr (Sm.sI rfl)
  have sc : Sm Ptp μ μc := by rw [hμc]; exact sb.tr (Sm.sI rfl)
  have sd : Sm Ptp μ μd := by rw [hμd]; exact sc.tr (Sm.sI rfl)
  have wa := sa.wf hw
  have wb := sb.wf hw
  have wc := sc.wf hw
  have ga : gI μa 15 i = nI m := by rw [hμa, gI_sI_ne (by decide)]; exact em
  have mb := hm.sm sb Ptp_Pcf
  have g14 : gI μd 14 = upd (gI μ 14) (24 * i + b) (oI z) := by rw [hμd, gI_sI_ne (by decide), hμc, gI_sI_ne (by decide), hμb, gI_sI_ne (by decide), hμa, gI_sI]
  have g15 : gI μd 15 = upd (gI μ 15) i (nI (m ||| 2 ^ b)) := by rw [hμd, gI_sI_ne (by decide), hμc, gI_sI_ne (by decide), hμb, gI_sI, hμa, gI_sI_ne (by decide)]
  have g90 : gI μd 90 = upd (gI μ 90) (24 * i + b) (oI z) := by rw [hμd, gI_sI_ne (by decide), hμc, gI_sI, hμb, gI_sI_ne (by decide), hμa, gI_sI_ne (by decide)]
  have g91 : gI μd 91 = upd (gI μ 91) (24 * i + b) 1 := by rw [hμd, gI_sI, hμc, gI_sI_ne (by decide), hμb, gI_sI_ne (by decide), hμa, gI_sI_ne (by decide)]
  refine ⟨1, μb, μd, ?_, ?_, sd, ((fun j k => if j = i ∧ k = b then true else d.1 j k), (fun k => if k = 24 * i + b then z else d.2 k)), fun k hk => ?_, ⟨fun j hj => ?_, fun k hk => ?_⟩, fun j hj k hk => ?_, fun k hk => ?_⟩
  · unfold f_X_tape f_Ch_putRecord
    rw [kO_0 hw, bsome, rR_0_1 hw, bsome, s_chas hw hc hx, g3, bsome, if_neg (by decide), if_neg b1, if_neg b2, if_neg (show ¬ x3 < (-10000000 : Int32) from h1), if_pos (show x3 ≤ (10000000 : Int32) from h2), bsome, kO_9 hw, bsome, s_chas hw hc hx, g3, bsome, if_neg (by decide), if_neg b1, if_neg b2, rR_9_5 hw, bsome, ei, eb, cellN, uI_14 hw (by omega), bsome, ez, ← hμa, rR_9_6 wa, bsome, aI_15 wa (by omega), bsome, ga, ishl_1 b (by omega), nI_or, uI_15 wa (by omega), bsome, ← hμb, bsome]
  · unfold f_M_tape
    rw [kO_49 wb, bsome, s_isSinger wb hc mb, g3, bsome, if_neg (by decide), s_isBeat, b3, bsome, if_neg (by decide), s_liesI x3 (-10000000) 10000000 (-10000000) 10000000 (by decide) (by decide), h3, bsome, if_neg (by decide), rR_49_69 wb, bsome, ei, eb, cellN', uI_90 wb (by omega), bsome, ez, ← hμc, rR_49_70 wc, bsome, uB_91 wc (by omega) (Or.inr rfl), bsome, ← hμd]
  · show -10000000 ≤ (if k = 24 * i + b then z else d.2 k) ∧ (if k = 24 * i + b then z else d.2 k) ≤ 10000000
    by_cases e : k = 24 * i + b
    · rw [if_pos e]; exact ⟨z1, z2⟩
    · rw [if_neg e]; exact hd k hk
  · rw [g15]
    unfold upd
    by_cases e : j = i
    · subst e
      refine ⟨m ||| 2 ^ b, Nat.or_lt_two_pow hm24 (Nat.pow_lt_pow_right (by decide) hb), if_pos rfl, fun k hk => ?_⟩
      show _ = if j = j ∧ k = b then true else d.1 j k
      rw [Nat.testBit_or, Nat.testBit_two_pow, hmb k hk]
      by_cases ek : k = b
      · rw [if_pos ⟨rfl, ek⟩, decide_eq_true ek.symm, Bool.or_true]
      · rw [if_neg (fun q => ek q.2), decide_eq_false (fun q => ek q.symm), Bool.or_false]
    · obtain ⟨m2, q1, q2, q3⟩ := hxr.1 j hj
      refine ⟨m2, q1, by rw [if_neg e]; exact q2, fun k hk => ?_⟩
      show _ = if j = i ∧ k = b then true else d.1 j k
      rw [if_neg (fun q => e q.1)]; exact q3 k hk
  · rw [g14]
    show upd (gI μ 14) (24 * i + b) (oI z) k = oI (if k = 24 * i + b then z else d.2 k)
    unfold upd
    by_cases e : k = 24 * i + b
    · rw [if_pos e, if_pos e]
    · rw [if_neg e, if_neg e]; exact hxr.2 k hk
  · rw [g91]
    show upd (gI μ 91) (24 * i + b) 1 (24 * j + k) = bi (if j = i ∧ k = b then true else d.1 j k)
    unfold upd
    by_cases e : j = i ∧ k = b
    · rw [if_pos e, if_pos (by omega)]; rfl
    · rw [if_neg e, if_neg (by omega)]; exact hmr.1 j hj k hk
  · rw [g90]
    show upd (gI μ 90) (24 * i + b) (oI z) k = oI (if k = 24 * i + b then z else d.2 k)
    unfold upd
    by_cases e : k = 24 * i + b
    · rw [if_pos e, if_pos e]
    · rw [if_neg e, if_neg e]; exact hmr.2 k hk
