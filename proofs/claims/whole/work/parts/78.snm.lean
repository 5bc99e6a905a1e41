/-! LAYER 2: a note is sung, in the reference: the step -/
def Pme (a k : Nat) : Bool := a == 87 || a == 88 || (a == 49 && (k == 58 || k == 59 || k == 60 || k == 61 || k == 64 || k == 65 || k == 66 || k == 67))
def Pms (a k : Nat) : Bool := a == 83 || a == 84 || a == 85 || Pme a k
theorem Pme_Pms (a k : Nat) (h : Pms a k = false) : Pme a k = false := (Bool.or_eq_false_iff.mp h).2
theorem Pms_Pcf : ∀ a k, Pcf a k = true → Pms a k = false := by
  intro a k h
  simp [Pcf] at h
  simp [Pms, Pme]
  omega
theorem Pms_mp (a k : Nat) (h1 : 51 ≤ a) (h2 : a ≤ 56) : Pms a k = false := by
  simp [Pms, Pme]
  omega
theorem Pms_ts (a k : Nat) (h : tcl a = true ∨ (a = 49 ∧ k = 27)) : Pms a k = false := by
  simp [tcl] at h
  simp [Pms, Pme]
  omega
theorem Pls_Pme (a k : Nat) (h : Pme a k = false) : Pls a k = false := by
  simp [Pme] at h
  simp [Pls]
  omega
theorem Pwk_Pme (a k : Nat) (h : Pme a k = false) : Pwk a k = false := by
  simp [Pme] at h
  simp [Pwk]
  omega
theorem Pwk_Pcf : ∀ a k, Pcf a k = true → Pwk a k = false := by
  intro a k h
  simp [Pcf] at h
  simp [Pwk]
  omega
theorem MV.wk {c : CT} {p : PT} {t : Nat} {kn : Bool} {i b luck : Nat} {last : Int32} {lp : Int} {μ μ' : MM} (hv : MV c p t kn i b last lp luck μ) (s : Sm Pwk μ μ') : MV c p t kn i b last lp luck μ' := by
  obtain ⟨a1, a2, a3, a4, a5, a6, a7, a8, a9, a10⟩ := hv
  refine ⟨s.wf a1, a2.sm s Pwk_Pcf, a3.sm s (fun a k h1 h2 => by simp [Pwk]; omega), ?_, ?_, ?_, ?_, ?_, ?_, ?_⟩
  · rw [s.gI 49 (fun _ => rfl)]; exact a4
  · rw [s.gI 49 (fun _ => rfl)]; exact a5
  · rw [s.gI 49 (fun _ => rfl)]; exact a6
  · rw [s.gI 49 (fun _ => rfl)]; exact a7
  · rw [s.gI 82 (fun _ => rfl)]; exact a8
  · rw [s.gI 85 (fun _ => rfl)]; exact a9
  · rw [s.gI 84 (fun _ => rfl)]; exact a10
/-- held: the last note is that of the beat ahead -/
theorem lnt_hld {c : CT} (hc : WC c) {p : PT} {i b : Nat} (hi : i < cN c) (hb : b < 24) (h : hld (pkey p) (nI (cV c i)) (nI b) = true) : lnt c p i b = nI b - 1 := by
  have hv := (hc.2.1 i hi).1
  obtain ⟨b0, h1, h2, h3⟩ := hld_c hv hb h
  have hs : sg c p i (b - 1) = true := by
    unfold sg sd
    rw [snd_nI hv (by omega)]
    exact decide_eq_true h2
  rw [nI_m1 b0]
  rcases lastb_c (f := sg c p i) b with ⟨g1, g2⟩ | ⟨j, g1, g2, g3, g4⟩
  · rw [g2 (b - 1) (by omega)] at hs; cases hs
  · have : j = b - 1 := by
      rcases Nat.lt_or_ge j (b - 1) with z | z
      · rw [g4 (b - 1) z (by omega)] at hs; cases hs
      · omega
    rw [← this]; exact g2
set_option maxHeartbeats 4000000 in
theorem s_singsNote {tw : (Nat → Int32) → Nat → Int} {c : CT} {p : PT} {μ : MM} (hw : Wf μ) (hc : WC c) (hm : MG c μ) (hp' : WP p) (hmp : MP p μ) (htx : TXs tw μ) {t g : Nat} {nb : Bool} (ht : gI μ 49 53 = nI t) (ht2 : t < 12) {i b : Nat} (hi : i < cN c) (hb : b < 24) (h : sg c p i b = true) {lp : Int} (h85 : gI μ 85 i = lnt c p i b) (hlp : ¬ lnt c p i b = -1 → gI μ 84 i = oI lp) (hg : gI μ 86 b = oI (gvn c g b)) {luck : Nat} (hluck : gI μ 49 58 = nI luck) (lkb : luck < 65536) {pl : Nat → Nat} (hpl : ∀ j, j < cN c → pl j < 16 ∧ gI μ 81 j = nI (pl j)) (hkn : gI μ 82 i = bi (knw c nb i)) {pit : Nat → Int} {B : Int} (hB : 300000 ≤ B) (hB2 : B ≤ PB) (hpit : ∀ j, j < i → sg c p j b = true → gI μ 83 (24 * j + b) = oI (pit (24 * j + b)) ∧ -B ≤ pit (24 * j + b) ∧ pit (24 * j + b) ≤ B) (lpb : -B ≤ lp ∧ lp ≤ B) {df : Int} (hdf : gL μ 49 61 = lI df) :
    ∃ μ', f_M_singsNote 49 (nI i) (nI b) μ = some μ' ∧ Sm Pms μ μ' ∧ gI μ' 83 = upd (gI μ 83) (24 * i + b) (oI (ptc tw c p t g pl (knw c nb i) pit i b (lnt c p i b) lp (lk' luck))) ∧ gI μ' 84 = upd (gI μ 84) i (oI (ptc tw c p t g pl (knw c nb i) pit i b (lnt c p i b) lp (lk' luck))) ∧ gI μ' 85 = upd (gI μ 85) i (nI b) ∧ gI μ' 49 58 = nI (lk' luck) ∧ gL μ' 49 61 = lI (df + drf tw c p t (knw c nb i) i b (lnt c p i b) lp (lk' luck)) := by
  have h8 := hc.1
  have hl := lst_lnt c p i b
  have hhld := lnt_hld hc (p := p) hi hb
  generalize lnt c p i b = last at h85 hlp hl hhld ⊢
  have hbp : B ≤ 1200000000 := hB2
  obtain ⟨L, hL⟩ : ∃ x, x = ltr c p t (knw c nb i) i b last lp (hmn c p b) (lk' luck) := ⟨_, rfl⟩
  obtain ⟨m1, h1⟩ : ∃ x, x = sI μ 49 58 (nI (lk' luck)) := ⟨_, rfl⟩
  obtain ⟨m2, h2⟩ : ∃ x, x = sI m1 49 59 (nI i) := ⟨_, rfl⟩
  obtain ⟨m3, h3⟩ : ∃ x, x = sI m2 49 60 (nI b) := ⟨_, rfl⟩
  have s1 : Sm Pme μ m1 := by rw [h1]; exact Sm.sI rfl
  have s2 : Sm Pme μ m2 := by rw [h2]; exact s1.tr (Sm.sI rfl)
  have s3 : Sm Pme μ m3 := by rw [h3]; exact s2.tr (Sm.sI rfl)
  have w1 := s1.wf hw
  have w2 := s2.wf hw
  have w3 := s3.wf hw
  have mg : ∀ {m}, Sm Pme μ m → MG c m := fun s => hm.sm s (fun a k z => Pme_Pms a k (Pms_Pcf a k z))
  have mp : ∀ {m}, Sm Pme μ m → MP p m := fun s => hmp.sm s (fun a k h1 h2 => Pme_Pms a k (Pms_mp a k h1 h2))
  obtain ⟨m4, e4, s34, c0, a0⟩ := s_listens w3 hc (mg s3) hp' (mp s3) hi hb h (pl := pl) (fun j hj => by rw [s3.gI 81 (fun _ => rfl)]; exact hpl j hj) (pit := pit) (fun j hj hs => by
    obtain ⟨y1, y2, y3⟩ := hpit j hj hs
    rw [s3.gI 83 (fun _ => rfl)]
    exact ⟨y1, by unfold PB; omega, by unfold PB; omega⟩)
  have s4 : Sm Pme μ m4 := s3.tr (s34.mono Pls_Pme)
  have w4 := s4.wf hw
  obtain ⟨m5, h5⟩ : ∃ x, x = sI m4 49 67 (bi (decide (¬ last = -1))) := ⟨_, rfl⟩
  have s45 : Sm Pme m4 m5 := by rw [h5]; exact Sm.sI rfl
  have s5 := s4.tr s45
  have w5 := s5.wf hw
  obtain ⟨m6, h6⟩ : ∃ x, x = sL m5 49 65 (lI (own c p i b last lp)) := ⟨_, rfl⟩
  have s56 : Sm Pme m5 m6 := by rw [h6]; exact Sm.sL rfl
  have s6 := s5.tr s56
  have w6 := s6.wf hw
  have g84 : ∀ {m}, Sm Pme μ m → gI m 84 = gI μ 84 := fun s => s.gI 84 (fun _ => rfl)
  have g85 : ∀ {m}, Sm Pme μ m → gI m 85 = gI μ 85 := fun s => s.gI 85 (fun _ => rfl)
  have i36 : ∀ k, Pls 49 k = false → ¬ k = 67 → gI m6 49 k = gI m3 49 k := fun k q1 q2 => by
    rw [h6, gI_sL, h5, gI_sI]
    unfold upd
    rw [if_neg q2]
    exact (s34.2.2 49 k q1).1
  have mv : MV c p t (knw c nb i) i b last lp (lk' luck) m6 := by
    refine ⟨w6, mg s6, mp s6, ?_, ?_, ?_, ?_, ?_, ?_, ?_⟩
    · rw [(s6.2.2 49 53 rfl).1]; exact ht
    · rw [i36 59 rfl (by decide), h3, gI_sI, h2, gI_sI]; simp [upd]
    · rw [i36 60 rfl (by decide), h3, gI_sI]; simp [upd]
    · rw [i36 58 rfl (by decide), h3, gI_sI, h2, gI_sI, h1, gI_sI]; simp [upd]
    · rw [s6.gI 82 (fun _ => rfl)]; exact hkn
    · rw [g85 s6]; exact h85
    · rw [g84 s6]; exact hlp
  obtain ⟨tb, a, ea, htx2⟩ := htx.ts (TS.sm s6 (fun a k z => Pme_Pms a k (Pms_ts a k z)))
  have tl : ∀ m, Sm Pwk m6 m → ∀ w, w < 5 → ∃ m', f_M_tells 49 (nI (wch w)) (oI (wlo w)) (oI (whi w)) m = some (oI (tw L w), m') ∧ Sm Pwk m6 m' := fun m s w hw5 => by
    obtain ⟨m', y1, y2⟩ := (htx2 m (s.wf w6) (TS.sm s (fun a k z => by
      simp [tcl] at z
      simp [Pwk]
      omega))).2 L (fun k hk m2 sm2 => by
      rw [hL]
      exact s_valueOf hc hp' ht2 (mv.wk (s.tr sm2)) hi hb h hl (by unfold PB; omega) (lk_b luck) k hk) w hw5
    exact ⟨m', y1, s.tr y2⟩
  obtain ⟨n1, t1, u1⟩ := tl m6 Sm.rf 0 (by decide)
  obtain ⟨n2, t2, u2⟩ := tl n1 u1 1 (by decide)
  obtain ⟨n3, t3, u3⟩ := tl n2 u2 2 (by decide)
  obtain ⟨n4, t4, u4⟩ := tl n3 u3 3 (by decide)
  obtain ⟨n5, t5, u5⟩ := tl n4 u4 4 (by decide)
  have t1 : f_M_tells 49 (112 : Int32) (0 : Int32) (100 : Int32) m6 = some (oI (tw L 0), n1) := t1
  have t2 : f_M_tells 49 (115 : Int32) (0 : Int32) (100 : Int32) n1 = some (oI (tw L 1), n2) := t2
  have t3 : f_M_tells 49 (116 : Int32) (0 : Int32) (100 : Int32) n2 = some (oI (tw L 2), n3) := t3
  have t4 : f_M_tells 49 (107 : Int32) (0 : Int32) (100 : Int32) n3 = some (oI (tw L 3), n4) := t4
  have t5 : f_M_tells 49 (100 : Int32) (-20000 : Int32) (20000 : Int32) n4 = some (oI (tw L 4), n5) := t5
  have d4 := TWB.d tb L
  have b0 := TWB.w tb L 0 (by decide)
  have b1 := TWB.w tb L 1 (by decide)
  have b2 := TWB.w tb L 2 (by decide)
  have b3 := TWB.w tb L 3 (by decide)
  have v5 : Sm Pme μ n5 := s6.tr (u5.mono Pwk_Pme)
  have x5 := v5.wf hw
  obtain ⟨n6, h7⟩ : ∃ x, x = sL n5 49 61 (lI (df + tw L 4)) := ⟨_, rfl⟩
  have s57 : Sm Pme n5 n6 := by rw [h7]; exact Sm.sL rfl
  have v6 := v5.tr s57
  have x6 := v6.wf hw
  have mv5 := mv.wk u5
  have gdf : gL n5 49 61 = lI df := by
    rw [u5.gL 49 (fun _ => rfl), h6, gL_sL]
    unfold vp_updL
    rw [if_neg (by decide), h5, gL_sI, (s34.2.2 49 61 rfl).2, h3, gL_sI, h2, gL_sI, h1, gL_sI]
    exact hdf
  have ab := amn_b hc hp' (t := t) (pl := pl) (gvn_b hc g b) hi hb h hl hB (pit := pit) (fun j hj hs => (hpit j hj hs).2) lpb
  have gI6 : ∀ k, gI n6 49 k = gI m6 49 k := fun k => by rw [h7, gI_sL, u5.gI 49 (fun _ => rfl)]
  have gL6 : ∀ k, ¬ k = 61 → gL n6 49 k = gL m6 49 k := fun k hk => by
    rw [h7, gL_sL]
    unfold vp_updL
    rw [if_neg hk, u5.gL 49 (fun _ => rfl)]
  have eA := s_aimOf x6 hc (mg v6) hp' (mp v6) (t := t) (by rw [(v6.2.2 49 53 rfl).1]; exact ht) ht2 hi hb h (cb := cbn c p pl (knw c nb i) i b last) (w := tw L) (a := amn c p t pl (gvn c g b) pit i b last lp) (gv := gvn c g b) (by rw [v6.gI 86 (fun _ => rfl)]; exact hg) (gvn_b hc g b) (by
      rw [gI6, h6, gI_sL, h5, gI_sI]
      unfold upd
      rw [if_neg (by decide)]
      exact c0) (by
      rw [gI6, h6, gI_sL, h5, gI_sI]
      simp [upd, cbn]) rfl (by
      rw [gL6 64 (by decide), h6, gL_sL, h5, gL_sI]
      unfold vp_updL
      rw [if_neg (by decide)]
      exact a0) (by
      rw [gL6 65 (by decide), h6, gL_sL]
      simp [vp_updL, amn]) rfl rfl (TWB.w tb L) (fun k hk => by
      have := ab k hk
      omega)
  unfold ptc drf
  rw [← hL]
  obtain ⟨Q, hQ⟩ : ∃ x, x = mix (cbn c p pl (knw c nb i) i b last) (tw L) (amn c p t pl (gvn c g b) pit i b last lp) := ⟨_, rfl⟩
  rw [← hQ] at eA ⊢
  obtain ⟨n7, h8'⟩ : ∃ x, x = sI n6 83 (24 * i + b) (oI (Q + tw L 4)) := ⟨_, rfl⟩
  obtain ⟨n8, h9⟩ : ∃ x, x = sI n7 84 i (oI (Q + tw L 4)) := ⟨_, rfl⟩
  obtain ⟨n9, h10⟩ : ∃ x, x = sI n8 85 i (nI b) := ⟨_, rfl⟩
  have v7 : Sm Pms μ n7 := by rw [h8']; exact (v6.mono Pme_Pms).tr (Sm.sI rfl)
  have v8 : Sm Pms μ n8 := by rw [h9]; exact v7.tr (Sm.sI rfl)
  have v9 : Sm Pms μ n9 := by rw [h10]; exact v8.tr (Sm.sI rfl)
  have x7 := v7.wf hw
  have x8 := v8.wf hw
  refine ⟨n9, ?_, v9, ?_, ?_, ?_, ?_, ?_⟩
  · have c218 : f_M_singsNote_J218 49 (nI i) (nI b) (oI (tw L 4)) 49 (nI i) (nI b) (lI (tw L 0)) (lI (tw L 1)) (lI (tw L 2)) (lI (if knw c nb i = true then tw L 3 else 0)) n6 = some n9 := by
      have eA : f_M_aimOf 49 (nI i) (nI b) (lI (tw L 0)) (lI (tw L 1)) (lI (tw L 2)) (lI (if knw c nb i = true then tw L 3 else 0)) n6 = some (lI Q) := eA
      unfold f_M_singsNote_J218
      rw [eA, bsome, rR_49_54 x6, bsome, cellN', oI_l (by omega) (by omega), lI_add, lI_i, uI_83 x6 (by omega), bsome, ← h8', rR_49_55 x7, bsome, uI_84 x7 (by omega), bsome, ← h9, rR_49_56 x8, bsome, uI_85 x8 (by omega), bsome, ← h10]
    have c116 : f_M_singsNote_J116 49 (nI i) (nI b) 49 (lI (own c p i b last lp)) m5 = some n9 := by
      unfold f_M_singsNote_J116
      rw [pL_49 w5, bsome, ← h6, t1, bsome, t2, bsome, t3, bsome, t4, bsome, t5, bsome, rL_49 x5, bsome, gdf, oI_l (z := tw L 4) (by omega) (by omega), lI_add, pL_49 x5, bsome, ← h7, rR_49_51 x6, bsome, aI_82 x6 (by omega), bsome, v6.gI 82 (fun _ => rfl), hkn, oI_l (z := tw L 0) (by omega) (by omega), oI_l (z := tw L 1) (by omega) (by omega), oI_l (z := tw L 2) (by omega) (by omega), oI_l (z := tw L 3) (by omega) (by omega), ← c218]
      cases knw c nb i <;> rfl
    have c54 : f_M_singsNote_J54 49 (nI i) (nI b) last 49 (bi (decide (¬ last = -1))) m4 = some n9 := by
      unfold f_M_singsNote_J54
      rw [pZ_49 w4 (bi_01 _), bsome, ← h5, rI_49 w5, bsome, show gI m5 49 67 = bi (decide (¬ last = -1)) by rw [h5, gI_sI]; simp [upd], ← c116]
      unfold own
      by_cases e : last = -1
      · rw [if_pos (by rw [decide_eq_false (fun z => z e)]; rfl), if_pos e]; rfl
      · rw [if_neg (by rw [decide_eq_true e]; decide), if_neg e, rR_49_22 w5, bsome, aI_63 w5 (by omega), bsome, MG_v (mg s5) i hi, s_isHeld w5, (mp s5).1, bsome, rR_49_55 w5, bsome, aI_84 w5 (by omega), bsome, g84 s5, hlp e, oI_l (z := lp) (by omega) (by omega)]
        cases hh : hld (pkey p) (nI (cV c i)) (nI b) with
        | true => rw [if_neg (by decide), if_pos ⟨hhld hh, rfl⟩, bsome, aI_84 w5 (by omega), bsome, g84 s5, hlp e, oI_l (z := lp) (by omega) (by omega)]
        | false =>
          rw [if_pos (by decide), if_neg (fun z => by cases z.2)]
          obtain ⟨k, hk, rfl, hsk⟩ := hl.resolve_left e
          have z1 := mz_b hc hp' hi hb h
          have z2 := mz_b hc hp' hi (show k < 24 by omega) hsk
          rw [s_sizeFor w5 hc (MG_v (mg s5)) (mp s5) hi hb h, bsome, s_sizeFor w5 hc (MG_v (mg s5)) (mp s5) hi (by omega) hsk, bsome, oI_l (by omega) (by omega), oI_l (by omega) (by omega), lI_add, lI_sub, nI_toInt (by omega), Int.toNat_natCast]
    unfold f_M_singsNote
    rw [kO_49 hw, bsome, rI_49 hw, bsome, hluck, lk_M lkb, pI_49 hw, bsome, ← h1, pI_49 w1, bsome, ← h2, pI_49 w2, bsome, ← h3, e4, bsome, rR_49_56 w4, bsome, aI_85 w4 (by omega), bsome, g85 s4, h85, ← c54]
    by_cases e : last = -1
    · rw [if_pos e, decide_eq_false (fun z => z e)]; rfl
    · rw [if_neg e, decide_eq_true e]; rfl
  · rw [h10, gI_sI_ne (by decide), h9, gI_sI_ne (by decide), h8', gI_sI, v6.gI 83 (fun _ => rfl)]
  · rw [h10, gI_sI_ne (by decide), h9, gI_sI, h8', gI_sI_ne (by decide), v6.gI 84 (fun _ => rfl)]
  · rw [h10, gI_sI, h9, gI_sI_ne (by decide), h8', gI_sI_ne (by decide), v6.gI 85 (fun _ => rfl)]
  · rw [h10, gI_sI_ne (by decide), h9, gI_sI_ne (by decide), h8', gI_sI_ne (by decide), gI6]
    exact mv.2.2.2.2.2.2.1
  · rw [h10, gL_sI, h9, gL_sI, h8', gL_sI, h7, gL_sL]; simp [vp_updL]
