/-! LAYER 2: sunk, knows, mind -/
theorem sy_sm {P : Nat → Nat → Bool} {μ μ1 μ2 : MM} (h1 : Sy P μ μ1) (h2 : Sm P μ1 μ2) : Sy P μ μ2 := h1.tr (Sy.of h2)
def pl0 (tw : (Nat → Int32) → Nat → Int) (c : CT) (p : PT) : SS := sal tw c p 0 (cG c) (cP c) false 24
theorem sunk_ok {tw : (Nat → Int32) → Nat → Int} {c : CT} (hc : WC c) {p : PT} (hp' : WP p) {μ : MM} (hw : Wf μ) (hx : XG c μ) (hm : MG c μ) (hxp : XP p μ) (hmp : MP p μ) (htx : TXs tw μ) (x1 : Int32) : ∃ r μ1 μ2, f_X_sunk 0 x1 μ = some (r, μ1) ∧ f_M_sunk 49 x1 μ1 = some (r, μ2) ∧ Sy Pxx μ μ2 := by
  by_cases hf : fbt c p = -1
  · refine ⟨-1000000000, μ, μ, ?_, ?_, Sy.rf⟩
    · unfold f_X_sunk; rw [kO_0 hw, bsome, rR_0_1 hw, bsome, s_firstBeat hw hc hx hxp.1, bsome, if_pos hf]
      repeat' split
      all_goals rfl
    · unfold f_M_sunk; rw [kO_49 hw, bsome, s_firstSung hw hc hm.1 (MG_v hm) hmp.1, bsome, if_pos hf]; rfl
  have no : inR x1 5 = false → ∃ r μ1 μ2, f_X_sunk 0 x1 μ = some (r, μ1) ∧ f_M_sunk 49 x1 μ1 = some (r, μ2) ∧ Sy Pxx μ μ2 := fun h => by
    refine ⟨-1000000000, μ, μ, ?_, ?_, Sy.rf⟩
    · unfold f_X_sunk; rw [kO_0 hw, bsome]
      by_cases e : x1 < 0
      · rw [if_pos e]; rfl
      · rw [if_neg e, if_pos]
        · rfl
        · unfold inR at h
          have h := of_decide_eq_false h
          rw [toInt_lt] at e ⊢
          have e0 : (0 : Int32).toInt = 0 := by decide
          have e4 : (4 : Int32).toInt = 4 := by decide
          omega
    · unfold f_M_sunk; rw [kO_49 hw, bsome, s_firstSung hw hc hm.1 (MG_v hm) hmp.1, bsome, if_neg hf, s_liesI x1 0 4 0 4 (by decide) (by decide), inR_le x1 5 4 (by decide), h]; rfl
  rcases ixc 5 5 rfl (by decide) x1 with ⟨h1, h2⟩ | ⟨h1, h2, h3⟩ | ⟨h1, h2, h3, k, hk, rfl⟩
  · exact no h2
  · exact no h3
  obtain ⟨f, l, f1, l1, f2, l2, f3, l3, -⟩ := fbt_in hf
  obtain ⟨μ1, μ2, a1, b1, s1, s2, xs, xq, ms, mq, w1, m1, p1, t1⟩ := both_sung hc hp' hw hx hm hxp hmp htx
  have xpit := XS_pit t1.1 hc hp' xs
  have mpit := MS_pit t1.1 hc hp' ms
  have db : -(160000 * ((24 : Nat) : Int)) ≤ (pl0 tw c p).2.2.2 ∧ (pl0 tw c p).2.2.2 ≤ 160000 * ((24 : Nat) : Int) := sal_d t1.1 hc (p := p) (t := 0) (g := cG c) (pl := cP c) (nb := false) 24 (Nat.le_refl _)
  have hb1 := hms_b hc p
  have hb2 := hms_p hc hf
  obtain ⟨w2, mg2, mp2, -, -, g53, -⟩ := mq
  obtain ⟨-, xg1, xp1, -, -, g10, -⟩ := xq
  obtain ⟨μ3, c1, s3, -⟩ := s_keynoteOf hp' w2 mp2 l1
  have w3 := s3.wf w2
  have mp3 := mp2.go s3
  have sx3 := s3.mono Pxx_Pgo
  have mg3 := mg2.sm sx3 Pxx_Pcf
  obtain ⟨μ4, c2, s4, -⟩ := s_keynoteOf hp' w3 mp3 f1
  have w4 := s4.wf w3
  have mp4 := mp3.go s4
  have sx4 := s4.mono Pxx_Pgo
  have mg4 := mg3.sm sx4 Pxx_Pcf
  have sx24 := sx3.tr sx4
  have g61 : gL μ4 49 61 = lI (pl0 tw c p).2.2.2 := by
    rw [(s4.2.2 49 61 rfl).2, (s3.2.2 49 61 rfl).2]; exact ms.2.2.2.2
  have mpit4 : MPit c p (pl0 tw c p).1 μ4 := fun j b hj hb hs => by
    have := mpit j b hj hb hs
    rw [s4.gI 83 (fun _ => rfl), s3.gI 83 (fun _ => rfl)]
    exact this
  obtain ⟨D, hD⟩ : ∃ x, x = (pl0 tw c p).2.2.2 / (hms c p : Int) := ⟨_, rfl⟩
  obtain ⟨S, hS⟩ : ∃ x, x = snk c p 0 (pl0 tw c p).1 := ⟨_, rfl⟩
  obtain ⟨U, hU⟩ : ∃ x, x = (oI (kmil p l) - oI (kmil p f)).toInt64 := ⟨_, rfl⟩
  have xS : f_Si_sinking 24 μ1 = some (lI S) := by rw [hS]; exact s_sinking w1 hc xg1 hp' xp1.1 g10 (by decide) xpit hf
  have xD : f_Si_drifting 24 μ1 = some (lI D) := by
    rw [hD]; exact s_drifting w1 hc xg1 xp1.1 xs.2.2.2 (by omega) hf
  have xF := s_foulTogether w1 hc xg1 hp' xp1.1 xpit
  have mS : f_M_sunkNow 49 μ2 = some (lI S) := by rw [hS]; exact s_sunkNow w2 hc mg2 hp' mp2 g53 (by decide) mpit hf
  have mF := s_allFoul w4 hc mg4 hp' mp4 mpit4
  have mD : f_M_floor (lI (pl0 tw c p).2.2.2) (nI (hms c p)).toInt64 = some (lI D) := by
    rw [hD, oI_nI, oI_l (by omega) (by omega)]
    exact s_floor (by omega) (by omega) (by omega) (by omega)
  have e7l : aI μ1 7 (nI l) = some (oI (kmil p l)) := (rd_xp w1 xp1 l1).1
  have e7f : aI μ1 7 (nI f) = some (oI (kmil p f)) := (rd_xp w1 xp1 f1).1
  have n4 : ¬ (4 : Int32) < nI k := nI_nlt (a := 4) (by omega) (by decide)
  refine ⟨if nI k = 0 then lI S else if nI k = 1 then U else if nI k = 2 then lI D else if nI k = 3 then lI S - U - lI D else lI (foA c p (pl0 tw c p).1), μ1, μ4, ?_, ?_, sy_sm s1 (s2.tr sx24)⟩
  · unfold f_X_sunk
    rw [kO_0 hw, bsome, if_neg h1, if_neg n4, rR_0_1 hw, bsome, s_firstBeat hw hc hx hxp.1, bsome, if_neg hf, rR_0_2 hw, bsome, a1, bsome, rR_0_0 w1, bsome, rR_1_5 w1, bsome, rR_0_1 w1, bsome, s_lastBeatC w1 hc xg1 xp1.1, bsome, l2, e7l, bsome, bsome, rR_1_5 w1, bsome, bsome, s_firstBeat w1 hc xg1 xp1.1, bsome, f2, e7f, bsome, rR_0_2 w1, ← hU]
    simp only [bsm]
    rw [xS, xD]
    simp only [bsm]
    rw [xF]
    simp only [bsm]
    repeat' split
    all_goals rfl
  · unfold f_M_sunk
    rw [kO_49 w1, bsome, s_firstSung w1 hc m1.1 (MG_v m1) p1.1, bsome, if_neg hf, s_liesI _ 0 4 0 4 (by decide) (by decide), inR_le _ 5 4 (by decide), h3, bsome, if_neg (by decide), b1, bsome, mS, bsome, s_lastSung w2 hc mg2.1 (MG_v mg2) mp2.1, bsome, l2, c1, bsome, s_firstSung w3 hc mg3.1 (MG_v mg3) mp3.1, bsome, f2, c2, bsome, rL_49 w4, bsome, g61, s_sungMany w4 hc mg4 mp4.1, bsome, mD, bsome, mF]
    simp only [bsm]
    rw [← hU]
    repeat' split
    all_goals rfl
theorem knows_ok {tw : (Nat → Int32) → Nat → Int} {c : CT} (hc : WC c) {p : PT} (hp' : WP p) {μ : MM} (hw : Wf μ) (hx : XG c μ) (hm : MG c μ) (hxp : XP p μ) (hmp : MP p μ) (htx : TXs tw μ) : ∃ r μ1 μ2, f_X_knows 0 μ = some (r, μ1) ∧ f_M_knows 49 μ1 = some (r, μ2) ∧ Sy Pxx μ μ2 := by
  have h8 := hc.1
  by_cases hf : fbt c p = -1
  · refine ⟨-1000000000, μ, μ, ?_, ?_, Sy.rf⟩
    · unfold f_X_knows; rw [kO_0 hw, bsome, rR_0_1 hw, bsome, s_firstBeat hw hc hx hxp.1, bsome, if_pos hf]
    · unfold f_M_knows; rw [kO_49 hw, bsome, s_firstSung hw hc hm.1 (MG_v hm) hmp.1, bsome, if_pos hf]
  obtain ⟨μ1, a1, a2, a3, a4⟩ := s_asTold hc hp' hw hx hxp htx
  obtain ⟨w1, xg1, xp1, t1, -, g10, -⟩ := a4
  have s1 := a2.mono Pxx_Psg
  have xS1 := s_sinking w1 hc xg1 hp' xp1.1 g10 (by decide) (XS_pit t1.1 hc hp' a3) hf
  obtain ⟨μ2, b1, b2, b3, b4⟩ := s_sing hc hp' (t := 0) (by decide) (g := cG c) hc.2.2.2.2.2 (pl := cP c) (fun j hj => (hc.2.1 j hj).2.1) (nb := true) w1 xg1 xp1 t1 (q := 11) (Or.inl rfl) (fun j hj => (xg1.2.2.2.2.1 j hj).2.1)
  have b1 : f_Si_sing 24 11 (nI (cG c)) 0 1 μ1 = some μ2 := b1
  obtain ⟨w2, xg2, xp2, t2, -, h10, -⟩ := b4
  have s2 := s1.tr (b2.mono Pxx_Psg)
  have xS2 := s_sinking w2 hc xg2 hp' xp2.1 h10 (by decide) (XS_pit t2.1 hc hp' b3) hf
  have m2 := s2.mg hm Pxx_Pcf
  have p2 := s2.mp hmp Pxx_mp
  obtain ⟨μ3, d1, d2, d3, d4⟩ := s_plainly hc hp' w2 m2 p2 t2
  obtain ⟨w3, m3, p3, t3, e52, e53, e81, e82⟩ := d4
  have mS3 := s_sunkNow w3 hc m3 hp' p3 e53 (by decide) (MS_pit t3.1 hc hp' d3) hf
  obtain ⟨S0, hS0⟩ : ∃ x, x = snk c p 0 (sal tw c p 0 (cG c) (cP c) false 24).1 := ⟨_, rfl⟩
  obtain ⟨S1, hS1⟩ : ∃ x, x = snk c p 0 (sal tw c p 0 (cG c) (cP c) true 24).1 := ⟨_, rfl⟩
  rw [← hS0] at xS1 mS3
  rw [← hS1] at xS2
  have loop : ∃ q, f_M_knows_L23 49 (lI S0) FU 0 μ3 = some (lI S0 - lI S1, q) ∧ Sm Pxx μ3 q := by
    refine upR (cN c) (fun n m => Sm (Pc1 82) μ3 m ∧ ∀ j, j < n → gI m 82 j = 0) (fun n k m => f_M_knows_L23 49 (lI S0) n (nI k) m) (fun x => ∃ q, x = some (lI S0 - lI S1, q) ∧ Sm Pxx μ3 q) (fun n m hi => ?_) (fun n k m hk hi => Or.inr ?_) 0 FU μ3 (by omega) (by unfold FU; omega) ⟨Sm.rf, fun j hj => absurd hj (by omega)⟩
    · obtain ⟨sm, hi⟩ := hi
      have sx : Sm Pxx μ3 m := sm.mono (fun a k z => Pc1_ne (fun e => by subst e; cases z) k)
      have hq : MQs tw c p 0 (cG c) (cP c) true m := by
        refine ⟨sm.wf w3, m3.sm sx Pxx_Pcf, p3.sm sx Pxx_mp, t3.ts (TS.sm sx Pxx_ts), ?_, ?_, ?_, fun j hj => ?_⟩
        · rw [sm.gI 49 (fun _ => rfl)]; exact e52
        · rw [sm.gI 49 (fun _ => rfl)]; exact e53
        · rw [sm.gI 81 (fun _ => rfl)]; exact e81
        · rw [hi j hj]
          unfold knw
          rw [Bool.not_true, Bool.and_false]; rfl
      obtain ⟨m', r1, r2, r3⟩ := s_isSung hc hp' (by decide) hc.2.2.2.2.2 hq
      have hq' := hq.sm r2
      have mS := s_sunkNow hq'.1 hc hq'.2.1 hp' hq'.2.2.1 hq'.2.2.2.2.2.1 (by decide) (MS_pit t3.1 hc hp' r3) hf
      rw [← hS1] at mS
      refine ⟨m', ?_, sx.tr (r2.mono Pxx_Pis)⟩
      show f_M_knows_L23 49 (lI S0) (n + 1) (nI (cN c)) m = _
      rw [e_M_knows_L23, rI_49 hq.1, bsome, hq.2.1.1, if_pos (show nI (cN c) ≤ nI (cN c) by rw [cle (by omega) (by omega)]; omega), r1, bsome, mS, bsome]
    · obtain ⟨sm, hi⟩ := hi
      have w := sm.wf w3
      obtain ⟨m4, h4⟩ : ∃ x, x = sI m 82 k 0 := ⟨_, rfl⟩
      refine ⟨m4, ?_, by rw [h4]; exact sm.tr (Sm.sI (by simp [Pc1])), fun j hj => ?_⟩
      · show f_M_knows_L23 49 (lI S0) (n + 1) (nI k) m = f_M_knows_L23 49 (lI S0) n (nI (k + 1)) m4
        have gn : gI m 49 18 = nI (cN c) := by rw [sm.gI 49 (fun _ => rfl)]; exact m3.1
        rw [e_M_knows_L23, rI_49 w, bsome, gn, if_neg (show ¬ nI (cN c) ≤ nI k by rw [cle (by omega) (by omega)]; omega), rR_49_51 w, bsome, uI_82 w (by omega), bsome, ← h4, nI_1]
      · rw [h4, gI_sI]
        unfold upd
        split
        · rfl
        · exact hi j (by omega)
  obtain ⟨q, l1, l2⟩ := loop
  refine ⟨lI S0 - lI S1, μ2, q, ?_, ?_, sy_sm s2 (d2.tr l2)⟩
  · unfold f_X_knows
    rw [kO_0 hw, bsome, rR_0_1 hw, bsome, s_firstBeat hw hc hx hxp.1, bsome, if_neg hf, rR_0_2 hw, bsome, a1, bsome, rR_0_2 w1, bsome, xS1, bsome, bsome, rR_0_1 w1, bsome, rR_9_2 w1, bsome, bsome, rI_9 w1, bsome, xg1.2.2.2.1, b1, bsome, rR_0_2 w2, bsome, xS2, bsome]
  · unfold f_M_knows
    rw [kO_49 w2, bsome, s_firstSung w2 hc m2.1 (MG_v m2) p2.1, bsome, if_neg hf, d1, bsome, mS3, bsome, l1]
/-- how much hearers mind -/
def mnd (c : CT) (p : PT) (t : Nat) (pit : Nat → Int) (a b : Int) : Int := a * (iabs (snk c p t pit) / 1000) + b * (foA c p pit / 1000)
theorem l_mnd {c : CT} (hc : WC c) {p : PT} (hp' : WP p) {t : Nat} {pit : Nat → Int} (h : PBd c p pit) (hf : ¬ fbt c p = -1) {a b : Int} (ha : 0 ≤ a ∧ a ≤ 100) (hb : 0 ≤ b ∧ b ≤ 100) : (oI a).toInt64 * (lI (iabs (snk c p t pit)) / (1000 : Int64)) + (oI b).toInt64 * (lI (foA c p pit) / (1000 : Int64)) = lI (mnd c p t pit a b) ∧ 0 ≤ mnd c p t pit a b ∧ mnd c p t pit a b ≤ 1000000000000 := by
  have h1 := iabs_b (snk_b hc hp' (t := t) h hf)
  have h2 := foA_b hc hp' h
  have d1 : 0 ≤ iabs (snk c p t pit) / 1000 ∧ iabs (snk c p t pit) / 1000 ≤ 20000000 := by omega
  have d2 : 0 ≤ foA c p pit / 1000 ∧ foA c p pit / 1000 ≤ 4608000000 := by omega
  refine ⟨?_, ?_⟩
  · rw [show (1000 : Int64) = lI 1000 from rfl, lI_tdiv (by omega) (by decide) (by decide), lI_tdiv (by omega) (by decide) (by decide), Int.tdiv_eq_ediv_of_nonneg h1.1, Int.tdiv_eq_ediv_of_nonneg h2.1, oI_l (by omega) (by omega), oI_l (by omega) (by omega), lI_mul, lI_mul, lI_add]; rfl
  · unfold mnd
    have m1 := mul100 (x := a) (z := iabs (snk c p t pit) / 1000) (M := 20000000) ha (by decide) (by omega)
    have m2 := mul100 (x := b) (z := foA c p pit / 1000) (M := 4608000000) hb (by decide) (by omega)
    have p1 := Int.mul_nonneg ha.1 d1.1
    have p2 := Int.mul_nonneg hb.1 d2.1
    omega
theorem s_minded {tw : (Nat → Int32) → Nat → Int} {c : CT} (hc : WC c) {p : PT} (hp' : WP p) {μ : MM} (hw : Wf μ) (hx : XG c μ) (hxp : XP p μ) (htx : TXs tw μ) (hf : ¬ fbt c p = -1) {a b : Int} (ha : 0 ≤ a ∧ a ≤ 100) (hb : 0 ≤ b ∧ b ≤ 100) {t : Nat} (ht : t < 12) : ∃ μ', f_X_minded 0 (oI a) (oI b) (nI t) μ = some (lI (mnd c p t (sal tw c p t (cG c) (cP c) false 24).1 a b), μ') ∧ Sy Pxx μ μ' ∧ Wf μ' ∧ XG c μ' ∧ XP p μ' ∧ TXs tw μ' := by
  obtain ⟨μ2, b1, b2, b3, b4⟩ := s_sing hc hp' (t := t) ht (g := cG c) hc.2.2.2.2.2 (pl := cP c) (fun j hj => (hc.2.1 j hj).2.1) (nb := false) hw hx hxp htx (q := 11) (Or.inl rfl) (fun j hj => (hx.2.2.2.2.1 j hj).2.1)
  have b1 : f_Si_sing 24 11 (nI (cG c)) (nI t) 0 μ = some μ2 := b1
  obtain ⟨w2, xg2, xp2, t2, -, h10, -⟩ := b4
  have xpit := XS_pit t2.1 hc hp' b3
  have xS2 := s_sinking w2 hc xg2 hp' xp2.1 h10 ht xpit hf
  have xF2 := s_foulTogether w2 hc xg2 hp' xp2.1 xpit
  have sb := snk_b hc hp' (t := t) xpit.b hf
  refine ⟨μ2, ?_, b2.mono Pxx_Psg, w2, xg2, xp2, t2⟩
  unfold f_X_minded
  rw [kO_0 hw, bsome, rR_0_2 hw, bsome, rR_0_1 hw, bsome, rR_9_2 hw, bsome, bsome, rI_9 hw, bsome, hx.2.2.2.1, b1, bsome, rR_0_2 w2, bsome, xS2, bsome, s_absJ (by omega) (by omega), bsome, bsome, xF2, bsome, (l_mnd hc hp' xpit.b hf ha hb).1]
theorem s_minds {c : CT} (hc : WC c) {p : PT} (hp' : WP p) {μ : MM} (hw : Wf μ) (hm : MG c μ) (hmp : MP p μ) {t : Nat} (h53 : gI μ 49 53 = nI t) (ht : t < 12) {pit : Nat → Int} (hpit : MPit c p pit μ) (hf : ¬ fbt c p = -1) {a b : Int} (ha : 0 ≤ a ∧ a ≤ 100) (hb : 0 ≤ b ∧ b ≤ 100) : f_M_minds 49 (oI a) (oI b) μ = some (lI (mnd c p t pit a b)) := by
  have sb := snk_b hc hp' (t := t) hpit.b hf
  unfold f_M_minds
  rw [kO_49 hw, bsome, s_sunkNow hw hc hm hp' hmp h53 ht hpit hf, bsome, s_plain (by omega) (by omega), bsome, s_allFoul hw hc hm hp' hmp hpit, bsome, (l_mnd hc hp' hpit.b hf ha hb).1]
/-- the least that hearers mind, over the first turns -/
def mst (m : Nat → Int) : Nat → Int × Nat
  | 0 => (m 0, 0)
  | k + 1 => if m (k + 1) < (mst m k).1 then (m (k + 1), k + 1) else mst m k
theorem mst_c (m : Nat → Int) : ∀ k, ∃ j, j ≤ k ∧ mst m k = (m j, j)
  | 0 => ⟨0, Nat.le_refl _, rfl⟩
  | k + 1 => by
    obtain ⟨j, h1, h2⟩ := mst_c m k
    simp only [mst]
    split
    · exact ⟨k + 1, Nat.le_refl _, rfl⟩
    · exact ⟨j, by omega, h2⟩
def mns (tw : (Nat → Int32) → Nat → Int) (c : CT) (p : PT) (a b : Int) (t : Nat) : Int := mnd c p t (sal tw c p t (cG c) (cP c) false 24).1 a b
theorem sal_PB {tw : (Nat → Int32) → Nat → Int} (ht : TWB tw) {c : CT} (hc : WC c) {p : PT} (hp' : WP p) {t g : Nat} {pl : Nat → Nat} {nb : Bool} : PBd c p (sal tw c p t g pl nb 24).1 := fun j b _ _ _ => by
  have := (sal_b ht hc hp' (t := t) (g := g) (pl := pl) (nb := nb) 24 (Nat.le_refl _)).1 (24 * j + b)
  unfold PB; omega
theorem mns_b {tw : (Nat → Int32) → Nat → Int} (ht : TWB tw) {c : CT} (hc : WC c) {p : PT} (hp' : WP p) (hf : ¬ fbt c p = -1) {a b : Int} (ha : 0 ≤ a ∧ a ≤ 100) (hb : 0 ≤ b ∧ b ≤ 100) (t : Nat) : 0 ≤ mns tw c p a b t ∧ mns tw c p a b t ≤ 1000000000000 := (l_mnd hc hp' (sal_PB ht hc hp') hf ha hb).2
theorem mst_b {tw : (Nat → Int32) → Nat → Int} (ht : TWB tw) {c : CT} (hc : WC c) {p : PT} (hp' : WP p) (hf : ¬ fbt c p = -1) {a b : Int} (ha : 0 ≤ a ∧ a ≤ 100) (hb : 0 ≤ b ∧ b ≤ 100) (k : Nat) : 0 ≤ (mst (mns tw c p a b) k).1 ∧ (mst (mns tw c p a b) k).1 ≤ 1000000000000 := by
  obtain ⟨j, -, e⟩ := mst_c (mns tw c p a b) k
  rw [e]
  exact mns_b ht hc hp' hf ha hb j
theorem mind_X {tw : (Nat → Int32) → Nat → Int} {c : CT} (hc : WC c) {p : PT} (hp' : WP p) {μ : MM} (hw : Wf μ) (hx : XG c μ) (hxp : XP p μ) (htx : TXs tw μ) (hf : ¬ fbt c p = -1) {a b : Int} (ha : 0 ≤ a ∧ a ≤ 100) (hb : 0 ≤ b ∧ b ≤ 100) {k : Nat} (hk : k < 3) : ∃ μ', f_X_mind_J34 0 (oI a) (oI b) (nI k) 1 μ = some (if nI k = 0 then lI (mns tw c p a b 0) else if nI k = 1 then lI (mst (mns tw c p a b) 11).1 else lI ((mst (mns tw c p a b) 11).2 : Nat), μ') ∧ Sy Pxx μ μ' := by
  obtain ⟨m0, r1, s1, w1, x1, p1, t1⟩ := s_minded hc hp' hw hx hxp htx hf ha hb (t := 0) (by decide)
  have r1 : f_X_minded 0 (oI a) (oI b) 0 μ = some (lI (mns tw c p a b 0), m0) := r1
  have pre : f_X_mind_J34 0 (oI a) (oI b) (nI k) 1 μ = f_X_mind_L71 0 (oI a) (oI b) (nI k) FU (lI (mns tw c p a b 0)) 0 1 m0 := by
    unfold f_X_mind_J34
    rw [if_neg (by decide), rR_0_1 hw, bsome, s_firstBeat hw hc hx hxp.1, bsome, if_neg hf, r1, bsome]
  rw [pre]
  by_cases k0 : k = 0
  · subst k0
    refine ⟨m0, ?_, s1⟩
    rw [show FU = 999999999 + 1 from rfl, e_X_mind_L71, if_neg (by decide), if_pos (by decide)]; rfl
  · have kp : ¬ nI k ≤ 0 := by rw [nI_le0 (by omega)]; exact k0
    have kz : ¬ nI k = 0 := by rw [show (0 : Int32) = nI 0 from rfl, ceq (by omega) (by decide)]; exact k0
    refine upR 11 (fun j (q : Int64 × Int32 × MM) => q.1 = lI (mst (mns tw c p a b) j).1 ∧ q.2.1 = nI (mst (mns tw c p a b) j).2 ∧ Sy Pxx μ q.2.2 ∧ Wf q.2.2 ∧ XG c q.2.2 ∧ XP p q.2.2 ∧ TXs tw q.2.2) (fun n j q => f_X_mind_L71 0 (oI a) (oI b) (nI k) n q.1 q.2.1 (nI (j + 1)) q.2.2) (fun x => ∃ μ', x = some (if nI k = 0 then lI (mns tw c p a b 0) else if nI k = 1 then lI (mst (mns tw c p a b) 11).1 else lI ((mst (mns tw c p a b) 11).2 : Nat), μ') ∧ Sy Pxx μ μ') (fun n q hi => ?_) (fun n j q hj hi => Or.inr ?_) 0 FU (lI (mns tw c p a b 0), 0, m0) (by decide) (by decide) ⟨rfl, rfl, s1, w1, x1, p1, t1⟩
    · obtain ⟨q1, q2, m⟩ := q
      obtain ⟨h1, h2, h3, -⟩ := hi
      have h1 : q1 = lI (mst (mns tw c p a b) 11).1 := h1
      have h2 : q2 = nI (mst (mns tw c p a b) 11).2 := h2
      obtain ⟨j, jl, je⟩ := mst_c (mns tw c p a b) 11
      have jt : (mst (mns tw c p a b) 11).2 ≤ 11 := by rw [je]; exact jl
      refine ⟨m, ?_, h3⟩
      show f_X_mind_L71 0 (oI a) (oI b) (nI k) (n + 1) q1 q2 (nI 12) m = _
      rw [e_X_mind_L71, if_pos (by decide), if_neg kz]
      unfold f_X_mind_J114
      rcases (show k = 1 ∨ k = 2 by omega) with rfl | rfl
      · rw [if_neg (by decide), if_pos (by decide), h1]
      · rw [if_pos (by decide), if_neg (by decide), h2, oI_nI, oI_l (by omega) (by omega)]
    · obtain ⟨q1, q2, m⟩ := q
      obtain ⟨h1, h2, h3, h4, h5, h6, h7⟩ := hi
      have h1 : q1 = lI (mst (mns tw c p a b) j).1 := h1
      have h2 : q2 = nI (mst (mns tw c p a b) j).2 := h2
      obtain ⟨m1, r2, s2, w2, x2, p2, t2⟩ := s_minded hc hp' h4 h5 h6 h7 hf ha hb (t := j + 1) (by omega)
      have r2 : f_X_minded 0 (oI a) (oI b) (nI (j + 1)) m = some (lI (mns tw c p a b (j + 1)), m1) := r2
      have b1 := mns_b h7.1 hc hp' hf ha hb (j + 1)
      have b2 := mst_b h7.1 hc hp' hf ha hb j
      have st : f_X_mind_L71 0 (oI a) (oI b) (nI k) (n + 1) q1 q2 (nI (j + 1)) m = if mns tw c p a b (j + 1) < (mst (mns tw c p a b) j).1 then f_X_mind_L71 0 (oI a) (oI b) (nI k) n (lI (mns tw c p a b (j + 1))) (nI (j + 1)) (nI (j + 1 + 1)) m1 else f_X_mind_L71 0 (oI a) (oI b) (nI k) n q1 q2 (nI (j + 1 + 1)) m1 := by
        rw [e_X_mind_L71, if_neg (show ¬ (12 : Int32) ≤ nI (j + 1) from nI_ge (b := 12) (by omega) (by omega)), if_neg kp, r2, bsome, h1, nI_1]
        simp only [lgc_ge, lI_toInt (z := mns tw c p a b (j + 1)) (by omega) (by omega), lI_toInt (z := (mst (mns tw c p a b) j).1) (by omega) (by omega)]
        by_cases e : mns tw c p a b (j + 1) < (mst (mns tw c p a b) j).1
        · rw [if_neg (by omega), if_pos e]
        · rw [if_pos (by omega), if_neg e]
      by_cases e : mns tw c p a b (j + 1) < (mst (mns tw c p a b) j).1
      · refine ⟨(lI (mns tw c p a b (j + 1)), nI (j + 1), m1), ?_, ?_, ?_, h3.tr s2, w2, x2, p2, t2⟩
        · show f_X_mind_L71 0 (oI a) (oI b) (nI k) (n + 1) q1 q2 (nI (j + 1)) m = _
          rw [st, if_pos e]
        · simp only [mst]; rw [if_pos e]
        · simp only [mst]; rw [if_pos e]
      · refine ⟨(q1, q2, m1), ?_, ?_, ?_, h3.tr s2, w2, x2, p2, t2⟩
        · show f_X_mind_L71 0 (oI a) (oI b) (nI k) (n + 1) q1 q2 (nI (j + 1)) m = _
          rw [st, if_neg e]
        · simp only [mst]; rw [if_neg e]; exact h1
        · simp only [mst]; rw [if_neg e]; exact h2
theorem mind_M {tw : (Nat → Int32) → Nat → Int} {c : CT} (hc : WC c) {p : PT} (hp' : WP p) {μ : MM} (hw : Wf μ) (hm : MG c μ) (hmp : MP p μ) (htx : TXs tw μ) (hf : ¬ fbt c p = -1) {a b : Int} (ha : 0 ≤ a ∧ a ≤ 100) (hb : 0 ≤ b ∧ b ≤ 100) {k : Nat} (hk : k < 3) : ∃ μ', f_M_mind 49 (oI a) (oI b) (nI k) μ = some (if nI k = 0 then lI (mns tw c p a b 0) else if nI k = 1 then lI (mst (mns tw c p a b) 11).1 else lI ((mst (mns tw c p a b) 11).2 : Nat), μ') ∧ Sm Pxx μ μ' := by
  obtain ⟨m0, r1, s1, ms, mq⟩ := s_plainly hc hp' hw hm hmp htx
  have mM : f_M_minds 49 (oI a) (oI b) m0 = some (lI (mns tw c p a b 0)) := s_minds hc hp' mq.1 mq.2.1 mq.2.2.1 mq.2.2.2.2.2.1 (by decide) (MS_pit htx.1 hc hp' ms) hf ha hb
  have pre : f_M_mind 49 (oI a) (oI b) (nI k) μ = if nI k = 0 then some (lI (mns tw c p a b 0), m0) else f_M_mind_L77 49 (oI a) (oI b) (nI k) FU 0 (lI (mns tw c p a b 0)) 1 m0 := by
    unfold f_M_mind
    rw [kO_49 hw, bsome, s_liesI _ 0 100 0 100 (by decide) (by decide), oI_toInt (by omega) (by omega), decide_eq_true ha, bsome, if_neg (by decide), s_liesI _ 0 100 0 100 (by decide) (by decide), oI_toInt (by omega) (by omega), decide_eq_true hb, bsome, if_neg (by decide), s_liesI _ 0 2 0 2 (by decide) (by decide), inR_le _ 3 2 (by decide), inR_nI hk (by decide), bsome, if_neg (by decide), s_firstSung hw hc hm.1 (MG_v hm) hmp.1, bsome, if_neg hf, r1, bsome, mM, bsome]
  rw [pre]
  by_cases kz : nI k = 0
  · rw [if_pos kz, if_pos kz]; exact ⟨m0, rfl, s1⟩
  · rw [if_neg kz, if_neg kz]
    have k0 : ¬ k = 0 := fun z => kz (by rw [z]; rfl)
    refine upR 11 (fun j (q : Int32 × Int64 × MM) => q.2.1 = lI (mst (mns tw c p a b) j).1 ∧ q.1 = nI (mst (mns tw c p a b) j).2 ∧ Sm Pxx μ q.2.2 ∧ Sm Pxx m0 q.2.2 ∧ gI q.2.2 81 = gI m0 81 ∧ gI q.2.2 82 = gI m0 82 ∧ gI q.2.2 49 52 = gI m0 49 52) (fun n j q => f_M_mind_L77 49 (oI a) (oI b) (nI k) n q.1 q.2.1 (nI (j + 1)) q.2.2) (fun x => ∃ μ', x = some (if nI k = 1 then lI (mst (mns tw c p a b) 11).1 else lI ((mst (mns tw c p a b) 11).2 : Nat), μ') ∧ Sm Pxx μ μ') (fun n q hi => ?_) (fun n j q hj hi => Or.inr ?_) 0 FU (0, lI (mns tw c p a b 0), m0) (by decide) (by decide) ⟨rfl, rfl, s1, Sm.rf, rfl, rfl, rfl⟩
    · obtain ⟨q2, q1, m⟩ := q
      obtain ⟨h1, h2, h3, -⟩ := hi
      have h1 : q1 = lI (mst (mns tw c p a b) 11).1 := h1
      have h2 : q2 = nI (mst (mns tw c p a b) 11).2 := h2
      have h3 : Sm Pxx μ m := h3
      obtain ⟨j, jl, je⟩ := mst_c (mns tw c p a b) 11
      have jt : (mst (mns tw c p a b) 11).2 ≤ 11 := by rw [je]; exact jl
      obtain ⟨m2, e2⟩ : ∃ x, x = sI m 49 53 0 := ⟨_, rfl⟩
      refine ⟨m2, ?_, by rw [e2]; exact h3.tr (Sm.sI rfl)⟩
      show f_M_mind_L77 49 (oI a) (oI b) (nI k) (n + 1) q2 q1 (nI 12) m = _
      rw [e_M_mind_L77, if_pos (by decide), pI_49 (h3.wf hw), bsome, ← e2]
      rcases (show k = 1 ∨ k = 2 by omega) with rfl | rfl
      · rw [if_pos (by decide), if_pos (by decide), h1]
      · rw [if_neg (by decide), if_neg (by decide), h2, oI_nI, oI_l (by omega) (by omega)]
    · obtain ⟨q2, q1, m⟩ := q
      obtain ⟨h1, h2, h3, h4, h5, h6, h7⟩ := hi
      have h1 : q1 = lI (mst (mns tw c p a b) j).1 := h1
      have h2 : q2 = nI (mst (mns tw c p a b) j).2 := h2
      have h3 : Sm Pxx μ m := h3
      have h4 : Sm Pxx m0 m := h4
      have h5 : gI m 81 = gI m0 81 := h5
      have h6 : gI m 82 = gI m0 82 := h6
      have h7 : gI m 49 52 = gI m0 49 52 := h7
      obtain ⟨m2, e2⟩ : ∃ x, x = sI m 49 53 (nI (j + 1)) := ⟨_, rfl⟩
      have s2 : Sm Pxx m m2 := by rw [e2]; exact Sm.sI rfl
      have s02 := h3.tr s2
      have hq : MQs tw c p (j + 1) (cG c) (cP c) false m2 := by
        obtain ⟨y1, y2, y3, y4, y5, y6, y7, y8⟩ := mq
        refine ⟨s02.wf hw, hm.sm s02 Pxx_Pcf, hmp.sm s02 Pxx_mp, htx.ts (TS.sm s02 Pxx_ts), ?_, ?_, ?_, ?_⟩
        · rw [e2, gI_sI]; unfold upd; rw [if_neg (by decide), h7]; exact y5
        · rw [e2, gI_sI]; simp [upd]
        · rw [e2, gI_sI_ne (by decide), h5]; exact y7
        · rw [e2, gI_sI_ne (by decide), h6]; exact y8
      obtain ⟨m3, r2, r3, r4⟩ := s_isSung hc hp' (t := j + 1) (by omega) hc.2.2.2.2.2 hq
      have hq3 := hq.sm r3
      have mM3 : f_M_minds 49 (oI a) (oI b) m3 = some (lI (mns tw c p a b (j + 1))) := s_minds hc hp' hq3.1 hq3.2.1 hq3.2.2.1 hq3.2.2.2.2.2.1 (by omega) (MS_pit htx.1 hc hp' r4) hf ha hb
      have b1 := mns_b htx.1 hc hp' hf ha hb (j + 1)
      have b2 := mst_b htx.1 hc hp' hf ha hb j
      have s23 := r3.mono Pxx_Pis
      have f81 : gI m3 81 = gI m0 81 := by rw [r3.gI 81 (fun _ => rfl), e2, gI_sI_ne (by decide), h5]
      have f82 : gI m3 82 = gI m0 82 := by rw [r3.gI 82 (fun _ => rfl), e2, gI_sI_ne (by decide), h6]
      have f52 : gI m3 49 52 = gI m0 49 52 := by rw [(r3.2.2 49 52 rfl).1, e2, gI_sI]; unfold upd; rw [if_neg (by decide), h7]
      have st : f_M_mind_L77 49 (oI a) (oI b) (nI k) (n + 1) q2 q1 (nI (j + 1)) m = if mns tw c p a b (j + 1) < (mst (mns tw c p a b) j).1 then f_M_mind_L77 49 (oI a) (oI b) (nI k) n (nI (j + 1)) (lI (mns tw c p a b (j + 1))) (nI (j + 1 + 1)) m3 else f_M_mind_L77 49 (oI a) (oI b) (nI k) n q2 q1 (nI (j + 1 + 1)) m3 := by
        rw [e_M_mind_L77, if_neg (show ¬ (12 : Int32) ≤ nI (j + 1) from nI_ge (b := 12) (by omega) (by omega)), pI_49 (h3.wf hw), bsome, ← e2, r2, bsome, mM3, bsome, h1, nI_1]
        simp only [lgc_lt, lI_toInt (z := mns tw c p a b (j + 1)) (by omega) (by omega), lI_toInt (z := (mst (mns tw c p a b) j).1) (by omega) (by omega)]
      by_cases e : mns tw c p a b (j + 1) < (mst (mns tw c p a b) j).1
      · refine ⟨(nI (j + 1), lI (mns tw c p a b (j + 1)), m3), ?_, ?_, ?_, s02.tr s23, (h4.tr s2).tr s23, f81, f82, f52⟩
        · show f_M_mind_L77 49 (oI a) (oI b) (nI k) (n + 1) q2 q1 (nI (j + 1)) m = _
          rw [st, if_pos e]
        · simp only [mst]; rw [if_pos e]
        · simp only [mst]; rw [if_pos e]
      · refine ⟨(q2, q1, m3), ?_, ?_, ?_, s02.tr s23, (h4.tr s2).tr s23, f81, f82, f52⟩
        · show f_M_mind_L77 49 (oI a) (oI b) (nI k) (n + 1) q2 q1 (nI (j + 1)) m = _
          rw [st, if_neg e]
        · simp only [mst]; rw [if_neg e]; exact h1
        · simp only [mst]; rw [if_neg e]; exact h2
theorem mind_ok {tw : (Nat → Int32) → Nat → Int} {c : CT} (hc : WC c) {p : PT} (hp' : WP p) {μ : MM} (hw : Wf μ) (hx : XG c μ) (hm : MG c μ) (hxp : XP p μ) (hmp : MP p μ) (htx : TXs tw μ) (x1 x2 x3 : Int32) : ∃ r μ1 μ2, f_X_mind 0 x1 x2 x3 μ = some (r, μ1) ∧ f_M_mind 49 x1 x2 x3 μ1 = some (r, μ2) ∧ Sy Pxx μ μ2 := by
  have mo : f_X_mind 0 x1 x2 x3 μ = some (-1, μ) → f_M_mind 49 x1 x2 x3 μ = some (-1, μ) → ∃ r μ1 μ2, f_X_mind 0 x1 x2 x3 μ = some (r, μ1) ∧ f_M_mind 49 x1 x2 x3 μ1 = some (r, μ2) ∧ Sy Pxx μ μ2 := fun a b => ⟨-1, μ, μ, a, b, Sy.rf⟩
  have f33 : f_X_mind_J33 0 x1 x2 x3 μ = some (-1, μ) := by unfold f_X_mind_J33 f_X_mind_J34; rw [if_pos rfl]; rfl
  rcases lo_c x1 0 100 (by decide) (by decide) (by decide) with ⟨c1, c2⟩ | ⟨c1, c2, c3⟩ | ⟨c1, c2, c3, a, a1, a2, ea⟩
  · refine mo ?_ ?_
    · unfold f_X_mind; rw [kO_0 hw, bsome, if_pos (show x1 < 0 from c1), f33]
    · unfold f_M_mind; rw [kO_49 hw, bsome, s_liesI x1 0 100 0 100 (by decide) (by decide), c2]; rfl
  · refine mo ?_ ?_
    · unfold f_X_mind; rw [kO_0 hw, bsome, if_neg (show ¬ x1 < 0 from c1), if_pos (show (100 : Int32) < x1 from c2), f33]
    · unfold f_M_mind; rw [kO_49 hw, bsome, s_liesI x1 0 100 0 100 (by decide) (by decide), c3]; rfl
  rcases lo_c x2 0 100 (by decide) (by decide) (by decide) with ⟨d1, d2⟩ | ⟨d1, d2, d3⟩ | ⟨d1, d2, d3, b, b1, b2, eb⟩
  · refine mo ?_ ?_
    · unfold f_X_mind; rw [kO_0 hw, bsome, if_neg (show ¬ x1 < 0 from c1), if_neg (show ¬ (100 : Int32) < x1 from c2), if_pos (show x2 < 0 from d1), f33]
    · unfold f_M_mind; rw [kO_49 hw, bsome, s_liesI x1 0 100 0 100 (by decide) (by decide), c3, bsome, if_neg (show ¬ bi true = 0 by decide), s_liesI x2 0 100 0 100 (by decide) (by decide), d2]; rfl
  · refine mo ?_ ?_
    · unfold f_X_mind; rw [kO_0 hw, bsome, if_neg (show ¬ x1 < 0 from c1), if_neg (show ¬ (100 : Int32) < x1 from c2), if_neg (show ¬ x2 < 0 from d1), if_pos (show (100 : Int32) < x2 from d2), f33]
    · unfold f_M_mind; rw [kO_49 hw, bsome, s_liesI x1 0 100 0 100 (by decide) (by decide), c3, bsome, if_neg (show ¬ bi true = 0 by decide), s_liesI x2 0 100 0 100 (by decide) (by decide), d3]; rfl
  rcases lo_c x3 0 2 (by decide) (by decide) (by decide) with ⟨g1, g2⟩ | ⟨g1, g2, g3⟩ | ⟨g1, g2, g3, z, z1, z2, ez⟩
  · refine mo ?_ ?_
    · unfold f_X_mind; rw [kO_0 hw, bsome, if_neg (show ¬ x1 < 0 from c1), if_neg (show ¬ (100 : Int32) < x1 from c2), if_neg (show ¬ x2 < 0 from d1), if_neg (show ¬ (100 : Int32) < x2 from d2), if_pos (show x3 < 0 from g1), f33]
    · unfold f_M_mind; rw [kO_49 hw, bsome, s_liesI x1 0 100 0 100 (by decide) (by decide), c3, bsome, if_neg (show ¬ bi true = 0 by decide), s_liesI x2 0 100 0 100 (by decide) (by decide), d3, bsome, if_neg (show ¬ bi true = 0 by decide), s_liesI x3 0 2 0 2 (by decide) (by decide), g2]; rfl
  · refine mo ?_ ?_
    · unfold f_X_mind; rw [kO_0 hw, bsome, if_neg (show ¬ x1 < 0 from c1), if_neg (show ¬ (100 : Int32) < x1 from c2), if_neg (show ¬ x2 < 0 from d1), if_neg (show ¬ (100 : Int32) < x2 from d2), if_neg (show ¬ x3 < 0 from g1), if_pos (show (2 : Int32) < x3 from g2), f33]
    · unfold f_M_mind; rw [kO_49 hw, bsome, s_liesI x1 0 100 0 100 (by decide) (by decide), c3, bsome, if_neg (show ¬ bi true = 0 by decide), s_liesI x2 0 100 0 100 (by decide) (by decide), d3, bsome, if_neg (show ¬ bi true = 0 by decide), s_liesI x3 0 2 0 2 (by decide) (by decide), g3]; rfl
  have X1 : f_X_mind 0 x1 x2 x3 μ = f_X_mind_J34 0 x1 x2 x3 1 μ := by unfold f_X_mind; rw [kO_0 hw, bsome, if_neg (show ¬ x1 < 0 from c1), if_neg (show ¬ (100 : Int32) < x1 from c2), if_neg (show ¬ x2 < 0 from d1), if_neg (show ¬ (100 : Int32) < x2 from d2), if_neg (show ¬ x3 < 0 from g1), if_neg (show ¬ (2 : Int32) < x3 from g2)]
  by_cases hf : fbt c p = -1
  · refine mo ?_ ?_
    · rw [X1]; unfold f_X_mind_J34; rw [if_neg (by decide), rR_0_1 hw, bsome, s_firstBeat hw hc hx hxp.1, bsome, if_pos hf]; rfl
    · unfold f_M_mind; rw [kO_49 hw, bsome, s_liesI x1 0 100 0 100 (by decide) (by decide), c3, bsome, if_neg (show ¬ bi true = 0 by decide), s_liesI x2 0 100 0 100 (by decide) (by decide), d3, bsome, if_neg (show ¬ bi true = 0 by decide), s_liesI x3 0 2 0 2 (by decide) (by decide), g3, bsome, if_neg (show ¬ bi true = 0 by decide), s_firstSung hw hc hm.1 (MG_v hm) hmp.1, bsome, if_pos hf]; rfl
  rw [oI_of (by omega)] at ez
  subst ea; subst eb; subst ez
  obtain ⟨μ1, e1, s1⟩ := mind_X hc hp' hw hx hxp htx hf ⟨a1, a2⟩ ⟨b1, b2⟩ (k := z.toNat) (by omega)
  obtain ⟨μ2, e2, s2⟩ := mind_M hc hp' (s1.wf hw) (s1.mg hm Pxx_Pcf) (s1.mp hmp Pxx_mp) (htx.ts (TS.sy s1 Pxx_ts)) hf ⟨a1, a2⟩ ⟨b1, b2⟩ (k := z.toNat) (by omega)
  exact ⟨_, μ1, μ2, X1.trans e1, e2, sy_sm s1 s2⟩
