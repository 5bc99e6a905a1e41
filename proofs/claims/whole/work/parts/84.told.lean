/-! LAYER 2: sung as all is told; pitch, beat -/
/-- what calls that sing may change -/
def Pxx (a k : Nat) : Bool := a == 20 || a == 25 || a == 26 || a == 27 || a == 28 || a == 29 || a == 30 || a == 45 || a == 34 || a == 35 || a == 36 || a == 37 || a == 81 || a == 82 || a == 83 || a == 84 || a == 85 || a == 86 || a == 87 || a == 88 || a == 89 || (a == 24 && (k == 9 || k == 10 || k == 11 || k == 12 || k == 13 || k == 14)) || (a == 49 && (k == 8 || k == 9 || k == 10 || k == 52 || k == 53 || k == 58 || k == 59 || k == 60 || k == 61 || k == 64 || k == 65 || k == 66 || k == 67))
theorem Pxx_Psg (a k : Nat) (h : Pxx a k = false) : Psg a k = false := by
  simp [Pxx] at h
  simp [Psg, Psn, Pmd]
  omega
theorem Pxx_Pis (a k : Nat) (h : Pxx a k = false) : Pis a k = false := by
  simp [Pxx] at h
  simp [Pis, Pms, Pme]
  omega
theorem Pxx_Prd (a k : Nat) (h : Pxx a k = false) : Prd a k = false := by
  simp [Pxx] at h
  simp [Prd]
  omega
theorem Pxx_Pgo (a k : Nat) (h : Pxx a k = false) : Pgo a k = false := by
  simp [Pxx] at h
  simp [Pgo]
  omega
theorem Pxx_Pcf : ∀ a k, Pcf a k = true → Pxx a k = false := by
  intro a k h
  simp [Pcf] at h
  simp [Pxx]
  omega
theorem Pxx_xp (a k : Nat) (h1 : 2 ≤ a) (h2 : a ≤ 8) : Pxx a k = false := by
  simp [Pxx]
  omega
theorem Pxx_mp (a k : Nat) (h1 : 51 ≤ a) (h2 : a ≤ 56) : Pxx a k = false := by
  simp [Pxx]
  omega
theorem Pxx_ts (a k : Nat) (h : tcl a = true ∨ (a = 49 ∧ k = 27)) : Pxx a k = false := by
  simp [tcl] at h
  simp [Pxx]
  omega
theorem Prd_Pcf : ∀ a k, Pcf a k = true → Prd a k = false := by
  intro a k h
  simp [Pcf] at h
  simp [Prd]
  omega
theorem s_asTold {tw : (Nat → Int32) → Nat → Int} {c : CT} (hc : WC c) {p : PT} (hp' : WP p) {μ : MM} (hw : Wf μ) (hx : XG c μ) (hxp : XP p μ) (htx : TXs tw μ) : ∃ μ', f_Si_asTold 24 μ = some μ' ∧ Sy Psg μ μ' ∧ XS c p 24 0 (sal tw c p 0 (cG c) (cP c) false 24) μ' ∧ XQ tw c p 0 (cG c) (cP c) false μ' := by
  obtain ⟨μ', e1, e2, e3, e4⟩ := s_sing hc hp' (t := 0) (by decide) (g := cG c) hc.2.2.2.2.2 (pl := cP c) (fun j hj => (hc.2.1 j hj).2.1) (nb := false) hw hx hxp htx (q := 11) (Or.inl rfl) (fun j hj => (hx.2.2.2.2.1 j hj).2.1)
  have e1 : f_Si_sing 24 11 (nI (cG c)) 0 0 μ = some μ' := e1
  refine ⟨μ', ?_, e2, e3, e4⟩
  unfold f_Si_asTold
  rw [kO_24 hw, bsome, rR_24_1 hw, bsome, rR_9_2 hw, bsome, bsome, rI_9 hw, bsome, hx.2.2.2.1, e1, bsome]
theorem knw_f {c : CT} (hc : WC c) {i : Nat} (hi : i < cN c) : nI (cK c i) = bi (knw c false i) := by
  have := (hc.2.1 i hi).2.2.2
  unfold knw
  rcases (show cK c i = 0 ∨ cK c i = 1 by omega) with e | e <;> rw [e] <;> rfl
theorem s_plainlyG {tw : (Nat → Int32) → Nat → Int} {c : CT} (hc : WC c) {p : PT} (hp' : WP p) {μ : MM} (hw : Wf μ) (hm : MG c μ) (hmp : MP p μ) (htx : TXs tw μ) : ∃ μ', f_M_plainly 49 μ = some μ' ∧ Sm Pxx μ μ' ∧ MS c p 24 0 (sal tw c p 0 (cG c) (cP c) false 24) μ' ∧ MQs tw c p 0 (cG c) (cP c) false μ' ∧ ∀ k, k < 24 → gI μ' 86 k = oI (gvn c (cG c) k) := by
  obtain ⟨m1, r1, s1, g1, g52, g53⟩ := s_readies hw hc hm
  have sx := s1.mono Pxx_Prd
  have hq : MQs tw c p 0 (cG c) (cP c) false m1 := by
    refine ⟨s1.wf hw, hm.sm s1 Prd_Pcf, hmp.sm sx Pxx_mp, htx.ts (TS.sm sx Pxx_ts), g52, g53, fun j hj => ⟨(hc.2.1 j hj).2.1, (g1 j hj).1⟩, fun j hj => ?_⟩
    rw [(g1 j hj).2, knw_f hc hj]
  obtain ⟨μ', e1, e2, e3, e4⟩ := s_isSungG hc hp' (by decide) hc.2.2.2.2.2 hq
  refine ⟨μ', ?_, sx.tr (e2.mono Pxx_Pis), e3, hq.sm e2, e4⟩
  unfold f_M_plainly
  rw [kO_49 hw, bsome, r1, bsome, e1, bsome]
theorem s_plainly {tw : (Nat → Int32) → Nat → Int} {c : CT} (hc : WC c) {p : PT} (hp' : WP p) {μ : MM} (hw : Wf μ) (hm : MG c μ) (hmp : MP p μ) (htx : TXs tw μ) : ∃ μ', f_M_plainly 49 μ = some μ' ∧ Sm Pxx μ μ' ∧ MS c p 24 0 (sal tw c p 0 (cG c) (cP c) false 24) μ' ∧ MQs tw c p 0 (cG c) (cP c) false μ' := by
  obtain ⟨μ', e1, e2, e3, e4, -⟩ := s_plainlyG hc hp' hw hm hmp htx
  exact ⟨μ', e1, e2, e3, e4⟩
theorem s_singsO {c : CT} {μ : MM} (hw : Wf μ) (hc : WC c) (hx : XG c μ) {x1 : Int32} (h : inR x1 (cN c) = false) (x2 : Int32) : f_Ch_sings 9 x1 x2 μ = some 0 := by
  unfold f_Ch_sings
  rw [kO_9 hw, bsome, s_chas hw hc hx, h]; rfl
/-- both have sung: the class on the memory, the reference on what the class left -/
theorem both_sung {tw : (Nat → Int32) → Nat → Int} {c : CT} (hc : WC c) {p : PT} (hp' : WP p) {μ : MM} (hw : Wf μ) (hx : XG c μ) (hm : MG c μ) (hxp : XP p μ) (hmp : MP p μ) (htx : TXs tw μ) : ∃ μ1 μ2, f_Si_asTold 24 μ = some μ1 ∧ f_M_plainly 49 μ1 = some μ2 ∧ Sy Pxx μ μ1 ∧ Sm Pxx μ1 μ2 ∧ XS c p 24 0 (sal tw c p 0 (cG c) (cP c) false 24) μ1 ∧ XQ tw c p 0 (cG c) (cP c) false μ1 ∧ MS c p 24 0 (sal tw c p 0 (cG c) (cP c) false 24) μ2 ∧ MQs tw c p 0 (cG c) (cP c) false μ2 ∧ Wf μ1 ∧ MG c μ1 ∧ MP p μ1 ∧ TXs tw μ1 := by
  obtain ⟨μ1, a1, a2, a3, a4⟩ := s_asTold hc hp' hw hx hxp htx
  have s1 := a2.mono Pxx_Psg
  have w1 := s1.wf hw
  have m1 := s1.mg hm Pxx_Pcf
  have p1 := s1.mp hmp Pxx_mp
  have t1 := htx.ts (TS.sy s1 Pxx_ts)
  obtain ⟨μ2, b1, b2, b3, b4⟩ := s_plainly hc hp' w1 m1 p1 t1
  exact ⟨μ1, μ2, a1, b1, s1, b2, a3, a4, b3, b4, w1, m1, p1, t1⟩
theorem pitch_ok {tw : (Nat → Int32) → Nat → Int} {c : CT} (hc : WC c) {p : PT} (hp' : WP p) {μ : MM} (hw : Wf μ) (hx : XG c μ) (hm : MG c μ) (hxp : XP p μ) (hmp : MP p μ) (htx : TXs tw μ) (x1 x2 : Int32) : ∃ r μ1 μ2, f_X_pitch 0 x1 x2 μ = some (r, μ1) ∧ f_M_pitch 49 x1 x2 μ1 = some (r, μ2) ∧ Sy Pxx μ μ2 := by
  have h8 := hc.1
  have no : inR x1 (cN c) = false → ∃ r μ1 μ2, f_X_pitch 0 x1 x2 μ = some (r, μ1) ∧ f_M_pitch 49 x1 x2 μ1 = some (r, μ2) ∧ Sy Pxx μ μ2 := fun g => by
    refine ⟨-1000000000, μ, μ, ?_, ?_, Sy.rf⟩
    · unfold f_X_pitch; rw [kO_0 hw, bsome, rR_0_1 hw, bsome, s_singsO hw hc hx g, bsome, if_pos rfl]
    · unfold f_M_pitch; rw [kO_49 hw, bsome, s_isSinger hw hc hm, g]; rfl
  rcases ixc (cN c) _ rfl (by omega) x1 with ⟨g1, g2⟩ | ⟨g1, g2, g3⟩ | ⟨-, -, g3, i, hi, rfl⟩
  · exact no g2
  · exact no g3
  cases hs : snd (pkey p) (nI (cV c i)) x2 with
  | false =>
    refine ⟨-1000000000, μ, μ, ?_, ?_, Sy.rf⟩
    · unfold f_X_pitch; rw [kO_0 hw, bsome, rR_0_1 hw, bsome, s_sings hw hc hx hxp.1 hi, hs, bsome, if_pos (by decide)]
    · unfold f_M_pitch; rw [kO_49 hw, bsome, s_isSinger hw hc hm, g3, bsome, if_neg (by decide), s_isBeat, bsome, s_singsM hw hc (MG_v hm) hmp.1 hi, hs]
      cases inR x2 24 <;> rfl
  | true =>
    obtain ⟨v, b, hv, hb, -, rfl, -⟩ := snd_in hs
    obtain ⟨μ1, μ2, a1, b1, s1, s2, xs, xq, ms, mq, w1, m1, p1, t1⟩ := both_sung hc hp' hw hx hm hxp hmp htx
    have xpit := XS_pit t1.1 hc hp' xs
    have mpit := MS_pit t1.1 hc hp' ms
    refine ⟨oI ((sal tw c p 0 (cG c) (cP c) false 24).1 (24 * i + b)), μ1, μ2, ?_, ?_, s1.tr (Sy.of s2)⟩
    · unfold f_X_pitch; rw [kO_0 hw, bsome, rR_0_1 hw, bsome, s_sings hw hc hx hxp.1 hi, hs, bsome, if_neg (by decide), rR_0_2 hw, bsome, a1, bsome, rR_0_2 w1, bsome, s_sung w1 hc xq.2.1 xq.2.2.1.1 xpit hi hb hs, bsome, lI_i]
    · unfold f_M_pitch; rw [kO_49 w1, bsome, s_isSinger w1 hc m1, g3, bsome, if_neg (by decide), s_isBeat, inR_nI hb (by decide), bsome, if_neg (by decide), s_singsM w1 hc (MG_v m1) p1.1 hi, hs, bsome, if_neg (by decide), b1, bsome, rR_49_54 mq.1, bsome, cellN', aI_83 mq.1 (by omega), bsome, (mpit i b hi hb hs).1]
theorem beat_ok {tw : (Nat → Int32) → Nat → Int} {c : CT} (hc : WC c) {p : PT} (hp' : WP p) {μ : MM} (hw : Wf μ) (hx : XG c μ) (hm : MG c μ) (hxp : XP p μ) (hmp : MP p μ) (htx : TXs tw μ) (x1 x2 : Int32) : ∃ r μ1 μ2, f_X_beat 0 x1 x2 μ = some (r, μ1) ∧ f_M_beat 49 x1 x2 μ1 = some (r, μ2) ∧ Sy Pxx μ μ2 := by
  rcases ixc 24 24 rfl (by decide) x1 with ⟨g1, g2⟩ | ⟨g1, g2, g3⟩ | ⟨g1, g2, g3, b, hb, rfl⟩
  · refine ⟨-1000000000, μ, μ, ?_, ?_, Sy.rf⟩
    · unfold f_X_beat; rw [kO_0 hw, bsome, if_pos g1]; rfl
    · unfold f_M_beat; rw [kO_49 hw, bsome, s_isBeat, g2]; rfl
  · refine ⟨-1000000000, μ, μ, ?_, ?_, Sy.rf⟩
    · unfold f_X_beat; rw [kO_0 hw, bsome, if_neg g1, if_neg (by rw [toInt_lt]; rw [toInt_le] at g2; omega)]; rfl
    · unfold f_M_beat; rw [kO_49 hw, bsome, s_isBeat, g3]; rfl
  have gl : nI b < (24 : Int32) := nI_lt (b := 24) hb (by decide)
  have no : inR x2 4 = false → ∃ r μ1 μ2, f_X_beat 0 (nI b) x2 μ = some (r, μ1) ∧ f_M_beat 49 (nI b) x2 μ1 = some (r, μ2) ∧ Sy Pxx μ μ2 := fun h => by
    have nn := @out_ne 4 (by decide) x2 h
    refine ⟨-1000000000, μ, μ, ?_, ?_, Sy.rf⟩
    · unfold f_X_beat; rw [kO_0 hw, bsome, if_neg g1, if_pos gl, if_neg (show ¬ x2 = (0 : Int32) from nn (j := 0) (by decide)), if_neg (show ¬ x2 = (1 : Int32) from nn (j := 1) (by decide)), if_neg (show ¬ x2 = (2 : Int32) from nn (j := 2) (by decide)), if_neg (show ¬ x2 = (3 : Int32) from nn (j := 3) (by decide))]
    · unfold f_M_beat; rw [kO_49 hw, bsome, s_isBeat, g3, bsome, if_neg (by decide), s_liesI x2 0 3 0 3 (by decide) (by decide), inR_le x2 4 3 (by decide), h]; rfl
  rcases ixc 4 4 rfl (by decide) x2 with ⟨h1, h2⟩ | ⟨h1, h2, h3⟩ | ⟨h1, h2, h3, k, hk, rfl⟩
  · exact no h2
  · exact no h3
  obtain ⟨μ1, μ2, a1, b1, s1, s2, xs, xq, ms, mq, w1, m1, p1, t1⟩ := both_sung hc hp' hw hx hm hxp hmp htx
  have xpit := XS_pit t1.1 hc hp' xs
  have mpit := MS_pit t1.1 hc hp' ms
  have hh := hmn_b hc p b
  have M0 : ∀ {m}, Wf m → MG c m → MP p m → f_M_beat 49 (nI b) (nI k) m = if nI k = 0 then (if nI (hmn c p b) = 0 then f_M_beat_J31 m else f_M_beat_J35 49 (nI b) (nI k) m) else f_M_beat_J35 49 (nI b) (nI k) m := fun {m} wm mm pm => by
    unfold f_M_beat
    rw [kO_49 wm, bsome, s_isBeat, g3, bsome, if_neg (by decide), s_liesI _ 0 3 0 3 (by decide) (by decide), inR_le _ 4 3 (by decide), h3, bsome, if_neg (by decide), s_singing wm hc mm.1 (MG_v mm) pm.1, bsome]
  rcases (show k = 0 ∨ k = 1 ∨ k = 2 ∨ k = 3 by omega) with rfl | rfl | rfl | rfl
  · by_cases e : hmn c p b = 0
    · refine ⟨-1000000000, μ1, μ1, ?_, ?_, s1⟩
      · unfold f_X_beat; rw [kO_0 hw, bsome, if_neg g1, if_pos gl, if_pos (by decide), rR_0_2 hw, bsome, a1, bsome, rR_0_1 w1, bsome, s_howMany w1 hc xq.2.1 xq.2.2.1.1, bsome, e, if_pos (by decide)]
      · rw [M0 w1 m1 p1, if_pos (by decide), if_pos (by rw [e]; rfl)]; rfl
    · refine ⟨lI (off c p 0 (sal tw c p 0 (cG c) (cP c) false 24).1 b), μ1, μ2, ?_, ?_, s1.tr (Sy.of s2)⟩
      · unfold f_X_beat; rw [kO_0 hw, bsome, if_neg g1, if_pos gl, if_pos (by decide), rR_0_2 hw, bsome, a1, bsome, rR_0_1 w1, bsome, s_howMany w1 hc xq.2.1 xq.2.2.1.1, bsome, if_neg (show ¬ nI (hmn c p b) = (0 : Int32) by rw [show (0 : Int32) = nI 0 from rfl, ceq (by omega) (by decide)]; exact e), rR_0_2 w1, bsome, s_off w1 hc xq.2.1 hp' xq.2.2.1.1 xq.2.2.2.2.2.1 (by decide) xpit hb, bsome]
      · rw [M0 w1 m1 p1, if_pos (by decide), if_neg (show ¬ nI (hmn c p b) = (0 : Int32) by rw [show (0 : Int32) = nI 0 from rfl, ceq (by omega) (by decide)]; exact e)]
        unfold f_M_beat_J35
        rw [b1, bsome, if_pos (by decide), s_offOf mq.1 hc mq.2.1 hp' mq.2.2.1 mq.2.2.2.2.2.1 (by decide) mpit hb (by omega), bsome]
  · refine ⟨lI (fou c p (sal tw c p 0 (cG c) (cP c) false 24).1 b), μ1, μ2, ?_, ?_, s1.tr (Sy.of s2)⟩
    · unfold f_X_beat; rw [kO_0 hw, bsome, if_neg g1, if_pos gl, if_neg (by decide), if_pos (by decide), rR_0_2 hw, bsome, a1, bsome, rR_0_2 w1, bsome, s_foul w1 hc xq.2.1 hp' xq.2.2.1.1 xpit hb, bsome]
    · rw [M0 w1 m1 p1, if_neg (by decide)]
      unfold f_M_beat_J35
      rw [b1, bsome, if_neg (by decide), if_pos (by decide), s_foulOf mq.1 hc mq.2.1 hp' mq.2.2.1 mpit hb, bsome]
  · obtain ⟨μ3, b3, s3, ms3, mq3⟩ := s_plainly hc hp' hw hm hmp htx
    refine ⟨(nI (hmn c p b)).toInt64, μ, μ3, ?_, ?_, Sy.of s3⟩
    · unfold f_X_beat; rw [kO_0 hw, bsome, if_neg g1, if_pos gl, if_neg (by decide), if_neg (by decide), if_pos (by decide), rR_0_1 hw, bsome, s_howMany hw hc hx hxp.1, bsome]
    · rw [M0 hw hm hmp, if_neg (by decide)]
      unfold f_M_beat_J35
      rw [b3, bsome, if_neg (by decide), if_neg (by decide), if_pos (by decide), s_singing mq3.1 hc mq3.2.1.1 (MG_v mq3.2.1) mq3.2.2.1.1, bsome]
  · obtain ⟨μ3, b3, s3, ms3, mq3⟩ := s_plainly hc hp' hw hm hmp htx
    refine ⟨lI (tfl c p b), μ, μ3, ?_, ?_, Sy.of s3⟩
    · unfold f_X_beat; rw [kO_0 hw, bsome, if_neg g1, if_pos gl, if_neg (by decide), if_neg (by decide), if_neg (by decide), if_pos (by decide), rR_0_1 hw, bsome, s_tableFoul hw hc hx hp' hxp.1 hb, bsome]
    · rw [M0 hw hm hmp, if_neg (by decide)]
      unfold f_M_beat_J35
      rw [b3, bsome, if_neg (by decide), if_neg (by decide), if_neg (by decide), s_tableFoulM mq3.1 hc mq3.2.1.2.2.2.2.2 mq3.2.2.2.2.2.1 hp' mq3.2.2.1 hb, bsome]
