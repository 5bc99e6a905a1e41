/-! LAYER 2: standing, in the reference; standing -/
theorem swp_c {f : Nat → Nat} {i j : Nat} (h : ¬ i = j) : swp f i j = swp f j i := by
  funext k
  unfold swp
  by_cases e1 : k = j
  · rw [if_pos e1, if_neg (fun z => h (by omega)), if_pos e1]
  · rw [if_neg e1]
    by_cases e2 : k = i
    · rw [if_pos e2, if_pos e2]
    · rw [if_neg e2, if_neg e2, if_neg e1]
theorem s_swaps {μ : MM} (hw : Wf μ) {N : Nat} (hN : N ≤ 8) {f : Nat → Nat} (hf : PLs 81 N f μ) {i j : Nat} (hi : i < N) (hj : j < N) : ∃ μ', f_M_swaps 49 (nI i) (nI j) μ = some μ' ∧ Sm (Pc1 81) μ μ' ∧ PLs 81 N (swp f i j) μ' := by
  obtain ⟨m1, h1⟩ : ∃ x, x = sI μ 81 i (gI μ 81 j) := ⟨_, rfl⟩
  obtain ⟨m2, h2⟩ : ∃ x, x = sI m1 81 j (gI μ 81 i) := ⟨_, rfl⟩
  have s1 : Sm (Pc1 81) μ m1 := by rw [h1]; exact Sm.sI (by simp [Pc1])
  have s2 : Sm (Pc1 81) μ m2 := by rw [h2]; exact s1.tr (Sm.sI (by simp [Pc1]))
  refine ⟨m2, ?_, s2, PLs_upd hf hi hj (by rw [h2, gI_sI, h1, gI_sI])⟩
  unfold f_M_swaps
  rw [kO_49 hw, bsome, rR_49_50 hw, bsome, aI_81 hw (by omega), bsome, bsome, bsome, aI_81 hw (by omega), bsome, uI_81 hw (by omega), bsome, ← h1, rR_49_50 (s1.wf hw), bsome, uI_81 (s1.wf hw) (by omega), bsome, ← h2]
theorem stand_in {N i : Nat} (hN : N ≤ 8) (x1 : Int32) (k54 : Int32 → MM → Option (Int64 × MM)) : ∀ (j n : Nat) (f : Nat → Nat) (μ : MM), j < N → j < n → Wf μ → PLs 81 N f μ → ∃ μ', f_M_standing_L64 k54 49 x1 (nI i) n (nI j) μ = k54 (nI (i + 1)) μ' ∧ Sm (Pc1 81) μ μ' ∧ PLs 81 N (ins 0 j f) μ' := by
  intro j
  induction j with
  | zero =>
    intro n f μ hj hn hw hf
    obtain ⟨n, rfl⟩ : ∃ m, n = m + 1 := ⟨n - 1, by omega⟩
    exact ⟨μ, by rw [e_M_standing_L64, if_pos (by rw [nI_le0 (by omega)]), nI_1], Sm.rf, hf⟩
  | succ j ih =>
    intro n f μ hj hn hw hf
    obtain ⟨n, rfl⟩ : ∃ m, n = m + 1 := ⟨n - 1, by omega⟩
    obtain ⟨g1, b1⟩ := hf (j + 1) hj
    obtain ⟨g0, b0⟩ := hf j (by omega)
    have pre : f_M_standing_L64 k54 49 x1 (nI i) (n + 1) (nI (j + 1)) μ = if f j ≤ f (j + 1) then k54 (nI (i + 1)) μ else (f_M_swaps 49 (nI j) (nI (j + 1)) μ).bind fun μ42 => f_M_standing_L64 k54 49 x1 (nI i) n (nI j) μ42 := by
      rw [e_M_standing_L64, if_neg (by rw [nI_le0 (by omega)]; omega), rR_49_50 hw, bsome, nI_pred', aI_81 hw (by omega), bsome, bsome, aI_81 hw (by omega), bsome, g1, g0, nI_1, nI_dec]
      by_cases e : f j ≤ f (j + 1)
      · rw [if_pos (by rw [cle (by omega) (by omega)]; exact e), if_pos e]
      · rw [if_neg (by rw [cle (by omega) (by omega)]; exact e), if_neg e]
    by_cases e : f j ≤ f (j + 1)
    · refine ⟨μ, by rw [pre, if_pos e], Sm.rf, ?_⟩
      unfold ins; rw [if_neg (by omega)]; exact hf
    · obtain ⟨m1, r1, s1, f1⟩ := s_swaps hw hN hf (show j < N by omega) hj
      rw [swp_c (by omega)] at f1
      obtain ⟨m2, r2, s2, f2⟩ := ih n (swp f (j + 1) j) m1 (by omega) (by omega) (s1.wf hw) f1
      refine ⟨m2, by rw [pre, if_neg e, r1, bsome, r2], s1.tr s2, ?_⟩
      unfold ins; rw [if_pos (by omega)]; exact f2
theorem s_stepsOn {c : CT} (hc : WC c) (h1N : 1 ≤ cN c) {μ : MM} (hw : Wf μ) (hx : gI μ 49 18 = nI (cN c)) {f : Nat → Nat} (hf : PLs 81 (cN c) f μ) : (nxt (cN c) f = none ∧ f_M_stepsOn 49 μ = some (0, μ)) ∨ ∃ g μ', nxt (cN c) f = some g ∧ rk f (cN c) (cN c) < rk g (cN c) (cN c) ∧ f_M_stepsOn 49 μ = some (1, μ') ∧ Sm (Pc1 81) μ μ' ∧ PLs 81 (cN c) g μ' := by
  have h8 := hc.1
  have pre : f_M_stepsOn 49 μ = f_M_stepsOn_J34 49 (pvi f (cN c)) μ := by
    unfold f_M_stepsOn
    rw [kO_49 hw, bsome, rI_49 hw, bsome, hx, nI_m2 h1N]
    refine dn (cN c - 1) (fun k => pvi f (cN c) = lastb (fun i => decide (f i < f (i + 1))) k) (fun n x => f_M_stepsOn_L7 49 μ n x) _ (fun n x hx0 hi2 => ?_) (fun n k hk hi2 => ?_) (cN c - 1) FU (Nat.le_refl _) (by unfold FU; omega) rfl
    · show f_M_stepsOn_L7 49 μ (n + 1) x = _
      rw [e_M_stepsOn_L7, if_pos hx0, hi2]
      unfold f_M_stepsOn_J34
      rw [if_neg, if_neg]
      · show ¬ (0 : Int32) ≤ -1; decide
      · rw [toInt_le]; rw [toInt_lt] at hx0; omega
    · show f_M_stepsOn_L7 49 μ (n + 1) (nI k) = _ ∨ f_M_stepsOn_L7 49 μ (n + 1) (nI k) = f_M_stepsOn_L7 49 μ n (nI k + (-1)) ∧ _
      obtain ⟨g0, b0⟩ := hf k (by omega)
      obtain ⟨g1, b1⟩ := hf (k + 1) (by omega)
      rw [e_M_stepsOn_L7, if_neg (nI_pos (by omega)), rR_49_50 hw, bsome, aI_81 hw (by omega), bsome, bsome, nI_1, aI_81 hw (by omega), bsome, g0, g1]
      simp only [lastb] at hi2
      by_cases e : f k < f (k + 1)
      · left
        rw [if_pos (by rw [clt (by omega) (by omega)]; exact e)]
        rw [if_pos (decide_eq_true e)] at hi2
        rw [hi2]
      · right
        rw [if_neg (by rw [clt (by omega) (by omega)]; exact e)]
        rw [if_neg (by rw [decide_eq_false e]; decide)] at hi2
        exact ⟨rfl, hi2⟩
  rcases nxt_c h8 f with ⟨p1, p2, -⟩ | ⟨i, j, hp, p1, p2, p3⟩
  · refine Or.inl ⟨p2, ?_⟩
    rw [pre, p1]; rfl
  · right
    have hp0 := hp
    obtain ⟨q1, q2, q3, q4, q5, q6, q7⟩ := hp
    obtain ⟨gi, bi'⟩ := hf i (by omega)
    obtain ⟨m1, r1, s1, f1⟩ := s_swaps hw h8 hf (show i < cN c by omega) q5
    have w1 := s1.wf hw
    obtain ⟨a, ha⟩ : ∃ a, a = i + 1 := ⟨_, rfl⟩
    obtain ⟨h, hh⟩ : ∃ h, h = swp f i j := ⟨_, rfl⟩
    rw [← hh] at f1
    have turn : ∃ m2, f_M_stepsOn_L86 49 FU (nI a) (nI (cN c - 1)) m1 = some (1, m2) ∧ Sm (Pc1 81) m1 m2 ∧ PLs 81 (cN c) (rvf a (cN c) h) m2 := by
      have := wh (σ := Nat × MM) (β := Int32 × MM) (fun s => a + s.1 + s.1 ≤ cN c ∧ Sm (Pc1 81) m1 s.2 ∧ PLs 81 (cN c) (hsr a (cN c) h s.1) s.2) (fun s => cN c - s.1) (fun n s => f_M_stepsOn_L86 49 n (nI (a + s.1)) (nI (cN c - 1 - s.1)) s.2) (fun x => ∃ m2, x = (1, m2) ∧ Sm (Pc1 81) m1 m2 ∧ PLs 81 (cN c) (rvf a (cN c) h) m2) (fun n s hi => by
        obtain ⟨t, m⟩ := s
        obtain ⟨i1, sm, i2⟩ := hi
        have i1 : a + t + t ≤ cN c := i1
        have sm : Sm (Pc1 81) m1 m := sm
        have i2 : PLs 81 (cN c) (hsr a (cN c) h t) m := i2
        have w := sm.wf w1
        by_cases e : cN c - 1 - t ≤ a + t
        · left
          refine ⟨(1, m), ?_, m, rfl, sm, ?_⟩
          · show f_M_stepsOn_L86 49 (n + 1) (nI (a + t)) (nI (cN c - 1 - t)) m = _
            rw [e_M_stepsOn_L86, if_pos (by rw [cle (by omega) (by omega)]; exact e)]
          · rw [hsr_e h (by omega) i1] at i2; exact i2
        · right
          obtain ⟨m3, r3, s3, f3⟩ := s_swaps w h8 i2 (show a + t < cN c by omega) (show cN c - 1 - t < cN c by omega)
          refine ⟨(t + 1, m3), by show cN c - (t + 1) < cN c - t; omega, ⟨by show a + (t + 1) + (t + 1) ≤ cN c; omega, sm.tr s3, ?_⟩, ?_⟩
          · show PLs 81 (cN c) (hsr a (cN c) h (t + 1)) m3
            rw [hsr_s h (by omega)]; exact f3
          · show f_M_stepsOn_L86 49 (n + 1) (nI (a + t)) (nI (cN c - 1 - t)) m = f_M_stepsOn_L86 49 n (nI (a + (t + 1))) (nI (cN c - 1 - (t + 1))) m3
            rw [e_M_stepsOn_L86, if_neg (by rw [cle (by omega) (by omega)]; exact e), r3, bsome, nI_1, show cN c - 1 - t = (cN c - 1 - (t + 1)) + 1 by omega, nI_dec]
            rfl) FU (0, m1) (by show cN c - 0 < FU; unfold FU; omega) ⟨by show a + 0 + 0 ≤ cN c; omega, Sm.rf, by show PLs 81 (cN c) (hsr a (cN c) h 0) m1; rw [hsr_0]; exact f1⟩
      obtain ⟨x, e1, m2, e2, e3⟩ := this
      refine ⟨m2, ?_, e3⟩
      rw [← e2]
      exact e1
    obtain ⟨m2, r2, s2, f2⟩ := turn
    have e34 : f_M_stepsOn_J34 49 (nI i) μ = some (1, m2) := by
      unfold f_M_stepsOn_J34
      rw [if_pos (show (0 : Int32) ≤ nI i from nI_pos' (by omega)), rI_49 hw, bsome, hx, ← nI_p]
      refine dn (cN c) (fun k => pvj f i (cN c) = lastb (fun j => decide (f i < f j)) k ∧ i + 1 < k) (fun n x => f_M_stepsOn_L47 49 (nI i) μ n x) _ (fun n x hx0 hi2 => absurd hi2.2 (by omega)) (fun n k hk hi2 => ?_) (cN c) FU (Nat.le_refl _) (by unfold FU; omega) ⟨rfl, by omega⟩
      show f_M_stepsOn_L47 49 (nI i) μ (n + 1) (nI k) = _ ∨ f_M_stepsOn_L47 49 (nI i) μ (n + 1) (nI k) = f_M_stepsOn_L47 49 (nI i) μ n (nI k + (-1)) ∧ _
      obtain ⟨hi2, hi3⟩ := hi2
      simp only [lastb] at hi2
      obtain ⟨g0, b0⟩ := hf k (by omega)
      rw [e_M_stepsOn_L47, rR_49_50 hw, bsome, aI_81 hw (by omega), bsome, bsome, aI_81 hw (by omega), bsome, g0, gi]
      by_cases e : f i < f k
      · left
        rw [if_pos (by rw [clt (by omega) (by omega)]; exact e)]
        rw [if_pos (decide_eq_true e)] at hi2
        have : k = j := (nI_eq (by omega) (by omega)).mp (hi2.symm.trans p2)
        have gn : gI m1 49 18 = nI (cN c) := by rw [s1.gI 49 (Pc1_ne (by decide))]; exact hx
        have en : nI (cN c) - (1 : Int32) = nI (cN c - 1) := nI_m1 (by omega)
        rw [this, r1, bsome, rI_49 w1, bsome, gn, nI_1, en, ← ha, r2]
      · right
        rw [if_neg (by rw [clt (by omega) (by omega)]; exact e)]
        rw [if_neg (by rw [decide_eq_false e]; decide)] at hi2
        refine ⟨rfl, hi2, ?_⟩
        rcases Nat.lt_or_ge (i + 1) k with z | z
        · exact z
        · have : k = i + 1 := by omega
          subst this; exact absurd q2 e
    refine ⟨_, m2, p3, rk_next hp0, ?_, s1.tr s2, ?_⟩
    · rw [pre, p1, e34]
    · rw [← ha, ← hh]; exact f2
/-- what the reference's search goes by -/
def MW2 (tw : (Nat → Int32) → Nat → Int) (c : CT) (p : PT) (f : Nat → Nat) (μ : MM) : Prop := Wf μ ∧ MG c μ ∧ MP p μ ∧ TXs tw μ ∧ gI μ 49 52 = nI (cG c) ∧ gI μ 49 53 = 0 ∧ PLs 81 (cN c) f μ ∧ ∀ j, j < cN c → gI μ 82 j = bi (knw c false j)
theorem MW2.q {tw : (Nat → Int32) → Nat → Int} {c : CT} {p : PT} {f : Nat → Nat} {μ : MM} (h : MW2 tw c p f μ) : MQs tw c p 0 (cG c) f false μ := by
  obtain ⟨a1, a2, a3, a4, a5, a6, a7, a8⟩ := h
  exact ⟨a1, a2, a3, a4, a5, a6, fun j hj => ⟨(a7 j hj).2, (a7 j hj).1⟩, a8⟩
def Ps8 (a _k : Nat) : Bool := a == 81 || a == 89
theorem Pxx_Ps8 (a k : Nat) (h : Pxx a k = false) : Ps8 a k = false := by
  simp [Pxx] at h
  simp [Ps8]
  omega
theorem MW2.sm {tw : (Nat → Int32) → Nat → Int} {c : CT} {p : PT} {f g : Nat → Nat} {μ μ' : MM} (h : MW2 tw c p f μ) (s : Sm Ps8 μ μ') (hg : PLs 81 (cN c) g μ') : MW2 tw c p g μ' := by
  obtain ⟨a1, a2, a3, a4, a5, a6, a7, a8⟩ := h
  have sx := s.mono Pxx_Ps8
  refine ⟨s.wf a1, a2.sm sx Pxx_Pcf, a3.sm sx Pxx_mp, a4.ts (TS.sm sx Pxx_ts), ?_, ?_, hg, ?_⟩
  · rw [s.gI 49 (fun _ => rfl)]; exact a5
  · rw [s.gI 49 (fun _ => rfl)]; exact a6
  · rw [s.gI 82 (fun _ => rfl)]; exact a8
/-- what is answered of the best row -/
def sta (s : SR) (x1 : Int32) : Int64 := if x1 = -1 then lI s.1 else if x1 = 8 then lI s.2.1 else (nI (s.2.2 x1.toInt.toNat)).toInt64
theorem stand_go {tw : (Nat → Int32) → Nat → Int} {c : CT} (hc : WC c) (h1N : 1 ≤ cN c) (h6 : cN c ≤ 6) {p : PT} (hp' : WP p) (hf0 : ¬ fbt c p = -1) {x1 : Int32} (hx1 : x1 = -1 ∨ x1 = 8 ∨ ∃ i, i < cN c ∧ x1 = nI i) : ∀ (d n : Nat) (f : Nat → Nat) (s : SR) (x2 : Int32) (x3 x5 : Int64) (μ : MM), 0 < d → d < n → 720 ≤ rk f (cN c) (cN c) + d → MW2 tw c p f μ → SRb s → ((x2 = 0 ∧ s = (stS tw c p f, stF tw c p f, f)) ∨ (¬ x2 = 0 ∧ x3 = lI s.1 ∧ x5 = lI s.2.1 ∧ ∀ j, j < cN c → gI μ 89 j = nI (s.2.2 j))) → ∃ μ', f_M_standing_L115 49 x1 n x2 x3 x5 1 μ = some (sta (sgo tw c p d f s) x1, μ') ∧ Sm Pxx μ μ' := by
  have h8 := hc.1
  have fin : ∀ (n : Nat) (s : SR) (m : MM) (x2 : Int32), Wf m → (∀ j, j < cN c → gI m 89 j = nI (s.2.2 j)) → f_M_standing_L115 49 x1 (n + 1) x2 (lI s.1) (lI s.2.1) 0 m = some (sta s x1, m) := fun n s m x2 w h => by
    rw [e_M_standing_L115, if_pos rfl]
    unfold sta
    by_cases e1 : x1 = -1
    · rw [if_pos e1, if_pos e1]
    rw [if_neg e1, if_neg e1]
    by_cases e2 : x1 = 8
    · rw [if_pos e2, if_pos e2]
    rw [if_neg e2, if_neg e2]
    obtain ⟨i, hi, rfl⟩ := (hx1.resolve_left e1).resolve_left e2
    rw [rR_49_68 w, bsome, aI_89 w (by omega), bsome, h i hi, nI_toInt (by omega), Int.toNat_natCast]
  intro d
  induction d with
  | zero => intro n f s x2 x3 x5 μ hd; omega
  | succ d ih =>
    intro n f s x2 x3 x5 μ _ hn hr hM hs hk
    obtain ⟨n, rfl⟩ : ∃ m, n = m + 1 := ⟨n - 1, by omega⟩
    obtain ⟨n, rfl⟩ : ∃ m, n = m + 1 := ⟨n - 1, by omega⟩
    have hq := hM.q
    have tb : TWB tw := hM.2.2.2.1.1
    obtain ⟨m1, r1, s1, ms⟩ := s_isSung hc hp' (by decide) hc.2.2.2.2.2 hq
    have q1 := hq.sm s1
    have sx1 := s1.mono Pxx_Pis
    have mpit := MS_pit tb hc hp' ms
    have mS : f_M_sunkNow 49 m1 = some (lI (stS tw c p f)) := s_sunkNow q1.1 hc q1.2.1 hp' q1.2.2.1 q1.2.2.2.2.2.1 (by decide) mpit hf0
    have mF : f_M_allFoul 49 m1 = some (lI (stF tw c p f)) := s_allFoul q1.1 hc q1.2.1 hp' q1.2.2.1 mpit
    have f1 : PLs 81 (cN c) f m1 := by unfold PLs; rw [s1.gI 81 (fun _ => rfl)]; exact hM.2.2.2.2.2.2.1
    have M1 : MW2 tw c p f m1 := ⟨q1.1, q1.2.1, q1.2.2.1, q1.2.2.2.1, q1.2.2.2.2.1, q1.2.2.2.2.2.1, f1, q1.2.2.2.2.2.2.2⟩
    have bf := st_b tb hc hp' hf0 f
    have b1 : -20000000000 ≤ stS tw c p f ∧ stS tw c p f ≤ 20000000000 := bf.1
    have b2 : 0 ≤ stF tw c p f ∧ stF tw c p f ≤ 4608000000000 := bf.2
    have hbb := bet_b tb hc hp' hf0 hs f
    have rest : ∀ (m : MM) (y2 : Int32), ¬ y2 = 0 → MW2 tw c p f m → Sm Pxx μ m → (∀ j, j < cN c → gI m 89 j = nI ((bet tw c p s f).2.2 j)) → ∃ μ', f_M_standing_J215 (f_M_standing_L115 49 x1 (n + 1)) 49 x1 y2 (lI (bet tw c p s f).1) (lI (bet tw c p s f).2.1) m = some (sta (sgo tw c p (d + 1) f s) x1, μ') ∧ Sm Pxx μ μ' := fun m y2 hy hm sm h89 => by
      unfold f_M_standing_J215
      rcases s_stepsOn hc h1N hm.1 hm.2.1.1 hm.2.2.2.2.2.2.1 with ⟨z1, z2⟩ | ⟨g, m2, z1, z2, z3, z4, z5⟩
      · refine ⟨m, ?_, sm⟩
        rw [z2, bsome, fin n (bet tw c p s f) m y2 hm.1 h89]
        unfold sgo; rw [z1]
      · have s8 : Sm Ps8 m m2 := z4.mono (fun a k z => by
          simp [Ps8] at z
          simp [Pc1]
          omega)
        have hm2 := hm.sm s8 z5
        have eg : sgo tw c p (d + 1) f s = sgo tw c p d g (bet tw c p s f) := by
          show (match nxt (cN c) f with | none => bet tw c p s f | some g => sgo tw c p d g (bet tw c p s f)) = _
          rw [z1]
        have rg := rk_720 h6 g
        obtain ⟨μ', t1, t2⟩ := ih (n + 1) g (bet tw c p s f) y2 (lI (bet tw c p s f).1) (lI (bet tw c p s f).2.1) m2 (by omega) (by omega) (by omega) hm2 hbb (Or.inr ⟨hy, rfl, rfl, fun j hj => by
          rw [z4.gI 89 (Pc1_ne (by decide))]; exact h89 j hj⟩)
        refine ⟨μ', ?_, (sm.tr (s8.mono Pxx_Ps8)).tr t2⟩
        rw [z3, bsome, t1, eg]
    have take : bet tw c p s f = (stS tw c p f, stF tw c p f, f) → ∃ μ', f_M_standing_J174 (f_M_standing_L115 49 x1 (n + 1)) 49 x1 (lI (stS tw c p f)) (lI (stF tw c p f)) m1 = some (sta (sgo tw c p (d + 1) f s) x1, μ') ∧ Sm Pxx μ μ' := fun eb => by
      unfold f_M_standing_J174
      refine upR (cN c) (fun k m => Sm (Pc1 89) m1 m ∧ ∀ j, j < k → gI m 89 j = nI (f j)) (fun q k m => f_M_standing_L186 (f_M_standing_L115 49 x1 (n + 1)) 49 x1 1 (lI (stS tw c p f)) (lI (stF tw c p f)) q (nI k) m) (fun x => ∃ μ', x = some (sta (sgo tw c p (d + 1) f s) x1, μ') ∧ Sm Pxx μ μ') (fun q m hi => ?_) (fun q k m hk hi => Or.inr ?_) 0 FU m1 (by omega) (by unfold FU; omega) ⟨Sm.rf, fun j hj => by omega⟩
      · obtain ⟨sm, hi⟩ := hi
        have s8 : Sm Ps8 m1 m := sm.mono (fun a k z => by
          simp [Ps8] at z
          simp [Pc1]
          omega)
        have hm := M1.sm s8 (f1.sm sm (Pc1_ne (by decide)))
        obtain ⟨μ', t1, t2⟩ := rest m 1 (by decide) hm (sx1.tr (s8.mono Pxx_Ps8)) (by rw [eb]; exact hi)
        refine ⟨μ', ?_, t2⟩
        show f_M_standing_L186 (f_M_standing_L115 49 x1 (n + 1)) 49 x1 1 (lI (stS tw c p f)) (lI (stF tw c p f)) (q + 1) (nI (cN c)) m = _
        rw [e_M_standing_L186, rI_49 hm.1, bsome, hm.2.1.1, if_pos (by rw [cle (by omega) (by omega)]; omega)]
        rw [eb] at t1
        exact t1
      · obtain ⟨sm, hi⟩ := hi
        have w := sm.wf q1.1
        obtain ⟨m3, h3⟩ : ∃ x, x = sI m 89 k (nI (f k)) := ⟨_, rfl⟩
        refine ⟨m3, ?_, by rw [h3]; exact sm.tr (Sm.sI (by simp [Pc1])), fun j hj => ?_⟩
        · show f_M_standing_L186 (f_M_standing_L115 49 x1 (n + 1)) 49 x1 1 (lI (stS tw c p f)) (lI (stF tw c p f)) (q + 1) (nI k) m = f_M_standing_L186 (f_M_standing_L115 49 x1 (n + 1)) 49 x1 1 (lI (stS tw c p f)) (lI (stF tw c p f)) q (nI (k + 1)) m3
          have gn : gI m 49 18 = nI (cN c) := by rw [sm.gI 49 (Pc1_ne (by decide))]; exact q1.2.1.1
          have g81 : gI m 81 k = nI (f k) := by rw [sm.gI 81 (Pc1_ne (by decide))]; exact (f1 k hk).1
          rw [e_M_standing_L186, rI_49 w, bsome, gn, if_neg (by rw [cle (by omega) (by omega)]; omega), rR_49_68 w, bsome, rR_49_50 w, bsome, aI_81 w (by omega), bsome, g81, uI_89 w (by omega), bsome, ← h3, nI_1]
        · rw [h3, gI_sI]
          unfold upd
          by_cases e : j = k
          · rw [if_pos e, e]
          · rw [if_neg e]; exact hi j (by omega)
    have ab1 := iabs_b (z := stS tw c p f) (a := 20000000000) (by omega)
    rcases hk with ⟨k0, es⟩ | ⟨k0, k1, k2, k3⟩
    · have eb : bet tw c p s f = (stS tw c p f, stF tw c p f, f) := by
        unfold bet
        rw [es]
        split
        · rfl
        · rfl
      obtain ⟨μ', t1, t2⟩ := take eb
      refine ⟨μ', ?_, t2⟩
      rw [e_M_standing_L115, if_neg (by decide), r1, bsome, mS, bsome, mF, bsome, if_pos k0, t1]
    · obtain ⟨hb1, hb2⟩ := hs
      have ab2 := iabs_b (z := s.1) (a := 20000000000) (by omega)
      have pre : f_M_standing_L115 49 x1 (n + 1 + 1) x2 x3 x5 1 μ = if iabs (stS tw c p f) < iabs s.1 then f_M_standing_J174 (f_M_standing_L115 49 x1 (n + 1)) 49 x1 (lI (stS tw c p f)) (lI (stF tw c p f)) m1 else if iabs (stS tw c p f) = iabs s.1 then (if s.2.1 ≤ stF tw c p f then f_M_standing_J215 (f_M_standing_L115 49 x1 (n + 1)) 49 x1 x2 x3 x5 m1 else f_M_standing_J174 (f_M_standing_L115 49 x1 (n + 1)) 49 x1 (lI (stS tw c p f)) (lI (stF tw c p f)) m1) else f_M_standing_J215 (f_M_standing_L115 49 x1 (n + 1)) 49 x1 x2 x3 x5 m1 := by
        rw [e_M_standing_L115, if_neg (by decide), r1, bsome, mS, bsome, mF, bsome, if_neg k0, k1, k2, s_plain (by omega) (by omega), bsome, s_plain (by omega) (by omega), bsome, bsome, bsome]
        simp only [lgc_lt, lgc_eq, lgc_ge, lI_toInt (z := iabs (stS tw c p f)) (by omega) (by omega), lI_toInt (z := iabs s.1) (by omega) (by omega), lI_toInt (z := stF tw c p f) (by omega) (by omega), lI_toInt (z := s.2.1) (by omega) (by omega)]
      rw [pre]
      have keep : bet tw c p s f = s → ∃ μ', f_M_standing_J215 (f_M_standing_L115 49 x1 (n + 1)) 49 x1 x2 x3 x5 m1 = some (sta (sgo tw c p (d + 1) f s) x1, μ') ∧ Sm Pxx μ μ' := fun eb => by
        obtain ⟨μ', t1, t2⟩ := rest m1 x2 k0 M1 sx1 (fun j hj => by rw [eb, s1.gI 89 (fun _ => rfl)]; exact k3 j hj)
        rw [eb, ← k1, ← k2] at t1
        exact ⟨μ', t1, t2⟩
      by_cases c1 : iabs (stS tw c p f) < iabs s.1
      · rw [if_pos c1]
        exact take (by unfold bet; rw [if_pos (Or.inl c1)])
      · rw [if_neg c1]
        by_cases c2 : iabs (stS tw c p f) = iabs s.1
        · rw [if_pos c2]
          by_cases c3 : s.2.1 ≤ stF tw c p f
          · rw [if_pos c3]
            exact keep (by unfold bet; rw [if_neg (by omega)])
          · rw [if_neg c3]
            exact take (by unfold bet; rw [if_pos (Or.inr ⟨c2, by omega⟩)])
        · rw [if_neg c2]
          exact keep (by unfold bet; rw [if_neg (by omega)])
theorem stand_M {tw : (Nat → Int32) → Nat → Int} {c : CT} (hc : WC c) (h1N : 1 ≤ cN c) (h6 : cN c ≤ 6) {p : PT} (hp' : WP p) (hf0 : ¬ fbt c p = -1) {x1 : Int32} (hx1 : x1 = -1 ∨ x1 = 8 ∨ ∃ i, i < cN c ∧ x1 = nI i) {μ : MM} (hw : Wf μ) (hm : MG c μ) (hmp : MP p μ) (htx : TXs tw μ) : ∃ μ', f_M_standing_J23 49 x1 μ = some (sta (Std tw c p) x1, μ') ∧ Sm Pxx μ μ' := by
  have h8 := hc.1
  obtain ⟨m1, r1, s1, g1, g52, g53⟩ := s_readies hw hc hm
  have sx := s1.mono Pxx_Prd
  have w1 := s1.wf hw
  have M1 : MW2 tw c p (cP c) m1 := by
    refine ⟨w1, hm.sm sx Pxx_Pcf, hmp.sm sx Pxx_mp, htx.ts (TS.sm sx Pxx_ts), g52, g53, fun j hj => ⟨(g1 j hj).1, (hc.2.1 j hj).2.1⟩, fun j hj => ?_⟩
    rw [(g1 j hj).2, knw_f hc hj]
  unfold f_M_standing_J23
  rw [s_firstSung hw hc hm.1 (MG_v hm) hmp.1, bsome, if_neg hf0, rI_49 hw, bsome, hm.1, if_pos (show nI (cN c) ≤ (6 : Int32) from nI_le (b := 6) h6 (by decide)), r1, bsome]
  refine upR (cN c - 1) (fun k m => Sm (Pc1 81) m1 m ∧ PLs 81 (cN c) (srt 0 (k + 1) (cP c)) m) (fun n k m => f_M_standing_L54 49 x1 n (nI (k + 1)) m) (fun x => ∃ μ', x = some (sta (Std tw c p) x1, μ') ∧ Sm Pxx μ μ') (fun n m hi => ?_) (fun n k m hk hi => Or.inr ?_) 0 FU m1 (by omega) (by unfold FU; omega) ⟨Sm.rf, M1.2.2.2.2.2.2.1⟩
  · obtain ⟨sm, hi⟩ := hi
    rw [show cN c - 1 + 1 = cN c by omega] at hi
    have s8 : Sm Ps8 m1 m := sm.mono (fun a k z => by
      simp [Ps8] at z
      simp [Pc1]
      omega)
    have hm2 := M1.sm s8 hi
    obtain ⟨μ', t1, t2⟩ := stand_go hc h1N h6 hp' hf0 hx1 720 FU (srt 0 (cN c) (cP c)) (stS tw c p (srt 0 (cN c) (cP c)), stF tw c p (srt 0 (cN c) (cP c)), srt 0 (cN c) (cP c)) 0 0 0 m (by decide) (by unfold FU; omega) (by omega) hm2 (st_b htx.1 hc hp' hf0 _) (Or.inl ⟨rfl, rfl⟩)
    refine ⟨μ', ?_, (sx.tr (s8.mono Pxx_Ps8)).tr t2⟩
    show f_M_standing_L54 49 x1 (n + 1) (nI (cN c - 1 + 1)) m = _
    rw [e_M_standing_L54, rI_49 hm2.1, bsome, hm2.2.1.1, if_pos (by rw [cle (by omega) (by omega)]; omega)]
    exact t1
  · obtain ⟨sm, hi⟩ := hi
    have w := sm.wf w1
    have gn : gI m 49 18 = nI (cN c) := by rw [sm.gI 49 (Pc1_ne (by decide))]; exact M1.2.1.1
    obtain ⟨m2, r2, s2, f2⟩ := stand_in h8 x1 (f_M_standing_L54 49 x1 n) (i := k + 1) (k + 1) FU (srt 0 (k + 1) (cP c)) m (by omega) (by unfold FU; omega) w hi
    refine ⟨m2, ?_, sm.tr s2, ?_⟩
    · show f_M_standing_L54 49 x1 (n + 1) (nI (k + 1)) m = f_M_standing_L54 49 x1 n (nI (k + 1 + 1)) m2
      rw [e_M_standing_L54, rI_49 w, bsome, gn, if_neg (by rw [cle (by omega) (by omega)]; omega), r2]
    · show PLs 81 (cN c) (ins 0 (0 + (k + 1)) (srt 0 (k + 1) (cP c))) m2
      rw [Nat.zero_add]; exact f2
/-- the class's memory of what it has found -/
def SC (tw : (Nat → Int32) → Nat → Int) (c : CT) (p : PT) (M : Nat) (μ : MM) : Prop := ∃ (m : Nat) (f : Int), m ≤ M ∧ gI μ 0 9 = nI m ∧ gI μ 31 6 = oI f ∧ -1 ≤ f ∧ f ≤ m ∧ (f = m → 1 ≤ cN c ∧ cN c ≤ 6 ∧ ¬ fbt c p = -1 ∧ XB2 c (Std tw c p) μ)
def Psx (a k : Nat) : Bool := Pst a k || Pxx a k
theorem Psx_Pst (a k : Nat) (h : Psx a k = false) : Pst a k = false := (Bool.or_eq_false_iff.mp h).1
theorem Psx_Pxx (a k : Nat) (h : Psx a k = false) : Pxx a k = false := (Bool.or_eq_false_iff.mp h).2
theorem stand_ok {tw : (Nat → Int32) → Nat → Int} {c : CT} (hc : WC c) {p : PT} (hp' : WP p) {μ : MM} (hw : Wf μ) (hx : XG c μ) (hm : MG c μ) (hxp : XP p μ) (hmp : MP p μ) (htx : TXs tw μ) {M : Nat} (hM : M < 1000000) (hS : SC tw c p M μ) (x1 : Int32) : ∃ r μ1 μ2, f_X_standing 0 x1 μ = some (r, μ1) ∧ f_M_standing 49 x1 μ1 = some (r, μ2) ∧ Sy Psx μ μ2 ∧ SC tw c p M μ2 := by
  have h8 := hc.1
  obtain ⟨k, f, k1, k2, k3, k4, k5, k6⟩ := hS
  have hS0 : SC tw c p M μ := ⟨k, f, k1, k2, k3, k4, k5, k6⟩
  by_cases ha : x1 = -1 ∨ x1 = 8 ∨ ∃ i, i < cN c ∧ x1 = nI i
  · have X0 : f_X_standing 0 x1 μ = f_X_standing_J27 0 x1 1 μ := by
      unfold f_X_standing f_X_standing_J22
      rw [kO_0 hw, bsome, rR_0_1 hw, bsome, s_chas hw hc hx]
      by_cases e1 : x1 = -1
      · rw [if_pos e1]
      rw [if_neg e1]
      by_cases e2 : x1 = 8
      · rw [if_pos e2]
      rw [if_neg e2, bsome]
      obtain ⟨i, hi, rfl⟩ := (ha.resolve_left e1).resolve_left e2
      rw [inR_nI hi (by omega), if_neg (by decide)]
    have M0 : ∀ {m}, Wf m → MG c m → f_M_standing 49 x1 m = f_M_standing_J23 49 x1 m := fun {m} w mg => by
      unfold f_M_standing
      rw [kO_49 w, bsome, s_isSinger w hc mg]
      by_cases e1 : x1 = -1
      · rw [if_pos e1]
      rw [if_neg e1]
      by_cases e2 : x1 = 8
      · rw [if_pos e2]
      rw [if_neg e2, bsome]
      obtain ⟨i, hi, rfl⟩ := (ha.resolve_left e1).resolve_left e2
      rw [inR_nI hi (by omega), if_neg (by decide)]
    by_cases hf0 : fbt c p = -1
    · refine ⟨-1000000000, μ, μ, ?_, ?_, Sy.rf, hS0⟩
      · rw [X0]; unfold f_X_standing_J27
        rw [if_neg (by decide), rR_0_1 hw, bsome, s_firstBeat hw hc hx hxp.1, bsome, if_pos hf0]; rfl
      · rw [M0 hw hm]; unfold f_M_standing_J23
        rw [s_firstSung hw hc hm.1 (MG_v hm) hmp.1, bsome, if_pos hf0]
    have h1N : 1 ≤ cN c := by
      obtain ⟨q, -, q1, -, -, -, q2, -⟩ := fbt_in hf0
      have := cnt_b (fun i => sg c p i q) (cN c)
      unfold hmn at q2
      omega
    by_cases h6 : cN c ≤ 6
    · have c6 : nI (cN c) ≤ (6 : Int32) := nI_le (b := 6) h6 (by decide)
      -- the class finds, or has found
      have found : ∃ μ1, f_St_find 31 (gI μ 0 9) μ = some μ1 ∧ Sy Pst μ μ1 ∧ XB2 c (Std tw c p) μ1 ∧ gI μ1 31 6 = gI μ 0 9 := by
        by_cases e : gI μ 31 6 = gI μ 0 9
        · have ef : f = k := by
            rw [k3, k2, oI_nI] at e
            have := congrArg Int32.toInt e
            rw [oI_toInt (by omega) (by omega), oI_toInt (by omega) (by omega)] at this
            exact this
          refine ⟨μ, ?_, Sy.rf, (k6 ef).2.2.2, e⟩
          unfold f_St_find
          rw [kO_31 hw, bsome, rI_31 hw, bsome, if_pos e]
        · exact s_Stfind hc h1N hp' hf0 ⟨hw, hx, hxp, htx⟩ e
      obtain ⟨μ1, a1, a2, a3, a4⟩ := found
      have w1 := a2.wf hw
      have m1 := a2.mg hm Pst_Pcf
      have p1 := a2.mp hmp Pst_mp
      have t1 := htx.ts (TS.sy a2 Pst_ts)
      have g0 : gI μ1 0 9 = gI μ 0 9 := by rw [a2.gI 0 (fun _ => rfl)]
      obtain ⟨μ2, b1, b2⟩ := stand_M hc h1N h6 hp' hf0 ha w1 m1 p1 t1
      refine ⟨sta (Std tw c p) x1, μ1, μ2, ?_, ?_, (a2.mono Psx_Pst).tr (Sy.of (b2.mono Psx_Pxx)), ?_⟩
      · rw [X0]; unfold f_X_standing_J27
        rw [if_neg (by decide), rR_0_1 hw, bsome, s_firstBeat hw hc hx hxp.1, bsome, if_neg hf0, bsome, rI_9 hw, bsome, hx.1, if_pos c6, rR_0_3 hw, bsome, rI_0 hw, bsome, a1, bsome]
        unfold sta
        by_cases e1 : x1 = -1
        · rw [if_pos e1, if_pos e1, rR_0_3 w1, bsome, rL_31 w1, bsome, a3.1]
        rw [if_neg e1, if_neg e1]
        by_cases e2 : x1 = 8
        · rw [if_pos e2, if_pos e2, rR_0_3 w1, bsome, rL_31 w1, bsome, a3.2.1]
        rw [if_neg e2, if_neg e2]
        obtain ⟨i, hi, rfl⟩ := (ha.resolve_left e1).resolve_left e2
        rw [rR_0_3 w1, bsome, rR_31_3 w1, bsome, aI_33 w1 (by omega), bsome, a3.2.2 i hi, nI_toInt (by omega), Int.toNat_natCast]
      · rw [M0 w1 m1, b1]
      · refine ⟨k, k, k1, ?_, ?_, by omega, Int.le_refl _, fun _ => ⟨h1N, h6, hf0, ?_⟩⟩
        · rw [b2.gI 0 (fun _ => rfl), g0]; exact k2
        · rw [b2.gI 31 (fun _ => rfl), a4, k2, oI_nI]
        · unfold XB2
          rw [b2.gL 31 (fun _ => rfl), b2.gI 33 (fun _ => rfl)]; exact a3
    · have c6 : ¬ nI (cN c) ≤ (6 : Int32) := nI_ge (a := 6) (by omega) (by omega)
      refine ⟨-2000000000, μ, μ, ?_, ?_, Sy.rf, hS0⟩
      · rw [X0]; unfold f_X_standing_J27
        rw [if_neg (by decide), rR_0_1 hw, bsome, s_firstBeat hw hc hx hxp.1, bsome, if_neg hf0, bsome, rI_9 hw, bsome, hx.1, if_neg c6]
      · rw [M0 hw hm]; unfold f_M_standing_J23
        rw [s_firstSung hw hc hm.1 (MG_v hm) hmp.1, bsome, if_neg hf0, rI_49 hw, bsome, hm.1, if_neg c6]
  · have n1 : ¬ x1 = -1 := fun z => ha (Or.inl z)
    have n2 : ¬ x1 = 8 := fun z => ha (Or.inr (Or.inl z))
    have n3 : inR x1 (cN c) = false := by
      rcases ixc (cN c) _ rfl (by omega) x1 with ⟨-, g⟩ | ⟨-, -, g⟩ | ⟨-, -, -, i, hi, ei⟩
      · exact g
      · exact g
      · exact absurd (Or.inr (Or.inr ⟨i, hi, ei⟩)) ha
    refine ⟨-1000000000, μ, μ, ?_, ?_, Sy.rf, hS0⟩
    · unfold f_X_standing
      rw [kO_0 hw, bsome, if_neg n1, if_neg n2, rR_0_1 hw, bsome, s_chas hw hc hx, n3, bsome, if_pos (by decide)]
      unfold f_X_standing_J27
      rw [if_pos rfl]; rfl
    · unfold f_M_standing
      rw [kO_49 hw, bsome, if_neg n1, if_neg n2, s_isSinger hw hc hm, n3, bsome, if_pos (by decide)]
