/-! LAYER 2: check -/
def numb (f : Nat → Int32) (k : Nat) : Int32 := (((ishl (f (4 * k)) 24) ||| (ishl (f (4 * k + 1)) 16)) ||| (ishl (f (4 * k + 2)) 8)) ||| f (4 * k + 3)
theorem ishl_bv (x : Int32) : (ishl x 8).toBitVec = x.toBitVec <<< 8 ∧ (ishl x 16).toBitVec = x.toBitVec <<< 16 ∧ (ishl x 24).toBitVec = x.toBitVec <<< 24 := ⟨rfl, rfl, rfl⟩
theorem numb_alg (b0 b1 b2 b3 : Int32) : (ishl ((ishl ((ishl ((ishl 0 8) ||| b0) 8) ||| b1) 8) ||| b2) 8) ||| b3 = (((ishl b0 24) ||| (ishl b1 16)) ||| (ishl b2 8)) ||| b3 := by
  apply Int32.toBitVec_inj.mp
  simp only [Int32.toBitVec_or, (ishl_bv _).1, (ishl_bv _).2.1, (ishl_bv _).2.2]
  rw [show Int32.toBitVec 0 = 0#32 from rfl, BitVec.zero_shiftLeft, BitVec.zero_or]
  simp only [BitVec.shiftLeft_or_distrib, ← BitVec.shiftLeft_add]
theorem s_number {μ : MM} (hw : Wf μ) {n : Nat} (hn : n ≤ 220) (h38 : gI μ 38 1 = nI n) {k : Nat} (hk : k < n / 4) : f_Rl_number 38 (nI k) μ = some (numb (gI μ 39) k) := by
  unfold f_Rl_number numb
  have e4 : (4 : Int32) * nI k = nI (4 * k) := by rw [show (4 : Int32) = nI 4 from rfl, pk_mul]
  rw [kO_38 hw, bsome, if_neg (nI_pos (by omega)), rI_38 hw, bsome, h38, show (4 : Int32) = nI 4 from rfl, pk_div (by omega) (by decide) (by decide), if_pos (nI_lt hk (by omega)), rR_38_0 hw, bsome, show nI 4 = (4 : Int32) from rfl, e4, aI_39 hw (by omega), bsome, bsome, nI_1, aI_39 hw (by omega), bsome, bsome, show (2 : Int32) = nI 2 from rfl, nI_add, aI_39 hw (by omega), bsome, bsome, show (3 : Int32) = nI 3 from rfl, nI_add, aI_39 hw (by omega), bsome]
theorem s_numberAt {μ : MM} (hw : Wf μ) {k : Nat} (hk : 4 * k + 3 < 220) : f_M_numberAt 49 (nI k) μ = some (numb (fun j => gI μ 50 j &&& 255) k) := by
  have e4 : (4 : Int32) * nI k = nI (4 * k) := by rw [show (4 : Int32) = nI 4 from rfl, pk_mul]
  have st : ∀ (n j : Nat) (x : Int32), j < 4 → f_M_numberAt_L4 49 (nI k) μ (n + 1) x (nI j) = f_M_numberAt_L4 49 (nI k) μ n ((ishl x 8) ||| (gI μ 50 (4 * k + j) &&& 255)) (nI (j + 1)) := fun n j x hj => by
    rw [e_M_numberAt_L4, if_neg (show ¬ (4 : Int32) ≤ nI j from nI_ge (b := 4) (by omega) (by omega)), rR_49_0 hw, bsome, e4, nI_add, aB_50 hw (by omega), bsome, nI_1]
  unfold f_M_numberAt
  rw [kO_49 hw, bsome, show FU = 999999995 + 1 + 1 + 1 + 1 + 1 from rfl]
  show f_M_numberAt_L4 49 (nI k) μ _ 0 (nI 0) = _
  rw [st _ 0 _ (by decide), st _ 1 _ (by decide), st _ 2 _ (by decide), st _ 3 _ (by decide), e_M_numberAt_L4, if_pos (show (4 : Int32) ≤ nI (3 + 1) by decide), numb_alg]
  rfl
def Pck (a k : Nat) : Bool := Pxx a k || (a == 38 && k == 1) || (a == 49 && k == 1)
theorem Pck_Pxx (a k : Nat) (h : Pck a k = false) : Pxx a k = false := (Bool.or_eq_false_iff.mp (Bool.or_eq_false_iff.mp h).1).1
theorem Pck_Pcf : ∀ a k, Pcf a k = true → Pck a k = false := by
  intro a k h
  simp [Pcf] at h
  simp [Pck, Pxx]
  omega
theorem Pck_xp (a k : Nat) (h1 : 2 ≤ a) (h2 : a ≤ 8) : Pck a k = false := by
  simp [Pck, Pxx]
  omega
theorem Pck_mp (a k : Nat) (h1 : 51 ≤ a) (h2 : a ≤ 56) : Pck a k = false := by
  simp [Pck, Pxx]
  omega
theorem Pck_ts (a k : Nat) (h : tcl a = true ∨ (a = 49 ∧ k = 27)) : Pck a k = false := by
  simp [tcl] at h
  simp [Pck, Pxx]
  omega
theorem oI_eq {x : Int32} {z : Int} (h1 : -2147483648 ≤ z) (h2 : z < 2147483648) : (x.toInt = z) = (x = oI z) := by
  apply propext
  constructor
  · intro h
    apply Int32.toInt_inj.mp
    rw [oI_toInt h1 h2]; exact h
  · intro h
    rw [h, oI_toInt h1 h2]
/-- both walk through the notes in step -/
theorem wrong_both {c : CT} (hc : WC c) {p : PT} {μ1 μ2 : MM} (w1 : Wf μ1) (xg : XG c μ1) (xc : XC p μ1) {pit : Nat → Int} (xpit : XPit c p pit μ1) (w2 : Wf μ2) (mg : MG c μ2) (mp : gI μ2 51 = pkey p) (mpit : MPit c p pit μ2) {n : Nat} (hn : n ≤ 220) (h38 : gI μ1 38 1 = nI n) (hb : ∀ k, k < 220 → gI μ1 39 k = gI μ2 50 k &&& 255) {nn : Nat} (hnn : nn ≤ n / 12) : ∃ r, f_X_firstWrong 0 (nI nn) μ1 = some r ∧ f_M_check_L31 49 (nI nn) μ2 FU 0 0 = some (r, μ2) := by
  have h8 := hc.1
  have num : ∀ k, k < n / 4 → ∃ z, f_Rl_number 38 (nI k) μ1 = some z ∧ f_M_numberAt 49 (nI k) μ2 = some z := fun k hk => by
    refine ⟨_, s_number w1 hn h38 hk, ?_⟩
    rw [s_numberAt w2 (by omega)]
    unfold numb
    simp only []
    rw [hb (4 * k) (by omega), hb (4 * k + 1) (by omega), hb (4 * k + 2) (by omega), hb (4 * k + 3) (by omega)]
  unfold f_X_firstWrong
  rw [kO_0 w1, bsome]
  refine upR (σ := Int32) (β := Option Int32 × Option (Int32 × MM)) (cN c) (fun _ s => ∃ k, k ≤ nn ∧ s = nI k) (fun f i s => (f_X_firstWrong_L4 0 (nI nn) μ1 f s (nI i), f_M_check_L31 49 (nI nn) μ2 f s (nI i))) (fun q => ∃ r, q.1 = some r ∧ q.2 = some (r, μ2)) (fun f s hi => ?_) (fun f i s hi2 hi => ?_) 0 FU 0 (by omega) (by unfold FU; omega) ⟨0, by omega, rfl⟩
  · obtain ⟨k, hk, rfl⟩ := hi
    show ∃ r, f_X_firstWrong_L4 0 (nI nn) μ1 (f + 1) (nI k) (nI (cN c)) = some r ∧ f_M_check_L31 49 (nI nn) μ2 (f + 1) (nI k) (nI (cN c)) = some (r, μ2)
    rw [e_X_firstWrong_L4, rR_0_1 w1, bsome, rI_9 w1, bsome, xg.1, if_pos (show nI (cN c) ≤ nI (cN c) by rw [cle (by omega) (by omega)]; omega), e_M_check_L31, rI_49 w2, bsome, mg.1, if_pos (show nI (cN c) ≤ nI (cN c) by rw [cle (by omega) (by omega)]; omega)]
    by_cases e : nI k = nI nn
    · rw [if_pos e, if_pos e]; exact ⟨_, rfl, rfl⟩
    · rw [if_neg e, if_neg e]; exact ⟨_, rfl, rfl⟩
  · obtain ⟨k, hk, rfl⟩ := hi
    have pre : (f_X_firstWrong_L4 0 (nI nn) μ1 (f + 1) (nI k) (nI i), f_M_check_L31 49 (nI nn) μ2 (f + 1) (nI k) (nI i)) = (f_X_firstWrong_L18 (f_X_firstWrong_L4 0 (nI nn) μ1 f) 0 (nI nn) (nI i) μ1 FU (nI k) 0, f_M_check_L42 (f_M_check_L31 49 (nI nn) μ2 f) 49 (nI nn) (nI i) μ2 FU (nI k) 0) := by
      rw [e_X_firstWrong_L4, rR_0_1 w1, bsome, rI_9 w1, bsome, xg.1, if_neg (show ¬ nI (cN c) ≤ nI i by rw [cle (by omega) (by omega)]; omega), e_M_check_L31, rI_49 w2, bsome, mg.1, if_neg (show ¬ nI (cN c) ≤ nI i by rw [cle (by omega) (by omega)]; omega)]
    show (∃ r, (f_X_firstWrong_L4 0 (nI nn) μ1 (f + 1) (nI k) (nI i), f_M_check_L31 49 (nI nn) μ2 (f + 1) (nI k) (nI i)).1 = some r ∧ (f_X_firstWrong_L4 0 (nI nn) μ1 (f + 1) (nI k) (nI i), f_M_check_L31 49 (nI nn) μ2 (f + 1) (nI k) (nI i)).2 = some (r, μ2)) ∨ ∃ s', (f_X_firstWrong_L4 0 (nI nn) μ1 (f + 1) (nI k) (nI i), f_M_check_L31 49 (nI nn) μ2 (f + 1) (nI k) (nI i)) = (f_X_firstWrong_L4 0 (nI nn) μ1 f s' (nI (i + 1)), f_M_check_L31 49 (nI nn) μ2 f s' (nI (i + 1))) ∧ ∃ k, k ≤ nn ∧ s' = nI k
    rw [pre]
    refine upR (σ := Int32) (β := Option Int32 × Option (Int32 × MM)) 24 (fun _ s => ∃ k, k ≤ nn ∧ s = nI k) (fun f2 b s => (f_X_firstWrong_L18 (f_X_firstWrong_L4 0 (nI nn) μ1 f) 0 (nI nn) (nI i) μ1 f2 s (nI b), f_M_check_L42 (f_M_check_L31 49 (nI nn) μ2 f) 49 (nI nn) (nI i) μ2 f2 s (nI b))) (fun q => (∃ r, q.1 = some r ∧ q.2 = some (r, μ2)) ∨ ∃ s', q = (f_X_firstWrong_L4 0 (nI nn) μ1 f s' (nI (i + 1)), f_M_check_L31 49 (nI nn) μ2 f s' (nI (i + 1))) ∧ ∃ k, k ≤ nn ∧ s' = nI k) (fun f2 s hi => Or.inr ?_) (fun f2 b s hb2 hi => ?_) 0 FU (nI k) (by decide) (by decide) ⟨k, hk, rfl⟩
    · refine ⟨s, ?_, hi⟩
      show (f_X_firstWrong_L18 (f_X_firstWrong_L4 0 (nI nn) μ1 f) 0 (nI nn) (nI i) μ1 (f2 + 1) s (nI 24), f_M_check_L42 (f_M_check_L31 49 (nI nn) μ2 f) 49 (nI nn) (nI i) μ2 (f2 + 1) s (nI 24)) = _
      rw [e_X_firstWrong_L18, if_pos (by decide), e_M_check_L42, if_pos (by decide), nI_1]
    · obtain ⟨k2, hk2, rfl⟩ := hi
      have e3 : (3 : Int32) * nI k2 = nI (3 * k2) := by rw [show (3 : Int32) = nI 3 from rfl, pk_mul]
      have en : (3 : Int32) * nI nn = nI (3 * nn) := by rw [show (3 : Int32) = nI 3 from rfl, pk_mul]
      have l24 : ¬ (24 : Int32) ≤ nI b := nI_ge (b := 24) (by omega) (by omega)
      show ((∃ r, f_X_firstWrong_L18 (f_X_firstWrong_L4 0 (nI nn) μ1 f) 0 (nI nn) (nI i) μ1 (f2 + 1) (nI k2) (nI b) = some r ∧ f_M_check_L42 (f_M_check_L31 49 (nI nn) μ2 f) 49 (nI nn) (nI i) μ2 (f2 + 1) (nI k2) (nI b) = some (r, μ2)) ∨ ∃ s', (f_X_firstWrong_L18 (f_X_firstWrong_L4 0 (nI nn) μ1 f) 0 (nI nn) (nI i) μ1 (f2 + 1) (nI k2) (nI b), f_M_check_L42 (f_M_check_L31 49 (nI nn) μ2 f) 49 (nI nn) (nI i) μ2 (f2 + 1) (nI k2) (nI b)) = (f_X_firstWrong_L4 0 (nI nn) μ1 f s' (nI (i + 1)), f_M_check_L31 49 (nI nn) μ2 f s' (nI (i + 1))) ∧ ∃ k, k ≤ nn ∧ s' = nI k) ∨ ∃ s' : Int32, (f_X_firstWrong_L18 (f_X_firstWrong_L4 0 (nI nn) μ1 f) 0 (nI nn) (nI i) μ1 (f2 + 1) (nI k2) (nI b), f_M_check_L42 (f_M_check_L31 49 (nI nn) μ2 f) 49 (nI nn) (nI i) μ2 (f2 + 1) (nI k2) (nI b)) = (f_X_firstWrong_L18 (f_X_firstWrong_L4 0 (nI nn) μ1 f) 0 (nI nn) (nI i) μ1 f2 s' (nI (b + 1)), f_M_check_L42 (f_M_check_L31 49 (nI nn) μ2 f) 49 (nI nn) (nI i) μ2 f2 s' (nI (b + 1))) ∧ ∃ k, k ≤ nn ∧ s' = nI k
      rw [e_X_firstWrong_L18, if_neg l24, rR_0_1 w1, bsome, s_sings w1 hc xg xc hi2, bsome, e_M_check_L42, if_neg l24, s_singsM w2 hc (MG_v mg) mp hi2, bsome, nI_1]
      cases hs : snd (pkey p) (nI (cV c i)) (nI b) with
      | false =>
        rw [if_pos (show bi false = 0 from rfl), if_pos (show bi false = 0 from rfl)]
        exact Or.inr ⟨nI k2, rfl, k2, hk2, rfl⟩
      | true =>
        rw [if_neg (show ¬ bi true = 0 by decide), if_neg (show ¬ bi true = 0 by decide)]
        by_cases e : nI k2 = nI nn
        · rw [if_pos e, if_pos e, e]
          exact Or.inl (Or.inl ⟨_, rfl, rfl⟩)
        · have hlt : k2 < nn := by
            rcases Nat.lt_or_ge k2 nn with z | z
            · exact z
            · exact absurd (by rw [show k2 = nn by omega]) e
          obtain ⟨z0, x0, y0⟩ := num (3 * k2) (by omega)
          obtain ⟨z1, x1, y1⟩ := num (3 * k2 + 1) (by omega)
          obtain ⟨z2, x2, y2⟩ := num (3 * k2 + 2) (by omega)
          obtain ⟨gp, gb⟩ := mpit i b hi2 hb2 hs
          unfold PB at gb
          have cmp : (lg_cmp z2.toInt64 (lI (pit (24 * i + b))) = 0) = (z2 = oI (pit (24 * i + b))) := by
            rw [lgc_eq, Int32.toInt_toInt64, lI_toInt (by omega) (by omega), oI_eq (by omega) (by omega)]
          rw [if_neg e, if_neg e, rR_0_6 w1, bsome, e3, nI_1, show (2 : Int32) = nI 2 from rfl, nI_add, x0, bsome, y0, bsome, bsome, bsome]
          by_cases c0 : z0 = nI i
          · rw [if_pos c0, if_pos c0, x1, bsome, y1, bsome]
            by_cases c1 : z1 = nI b
            · rw [if_pos c1, if_pos c1, x2, bsome, y2, bsome, rR_0_2 w1, bsome, s_sung w1 hc xg xc xpit hi2 hb2 hs, bsome, rR_49_54 w2, bsome, cellN', aI_83 w2 (by omega), bsome, gp]
              simp only [cmp]
              by_cases c2 : z2 = oI (pit (24 * i + b))
              · rw [if_pos c2, if_pos c2]
                exact Or.inr ⟨nI k2 + 1, rfl, k2 + 1, by omega, nI_1 _⟩
              · rw [if_neg c2, if_neg c2]
                exact Or.inl (Or.inl ⟨_, rfl, rfl⟩)
            · rw [if_neg c1, if_neg c1]
              exact Or.inl (Or.inl ⟨_, rfl, rfl⟩)
          · rw [if_neg c0, if_neg c0]
            unfold f_X_firstWrong_J60
            rw [e3]
            exact Or.inl (Or.inl ⟨_, rfl, rfl⟩)
theorem check_ok {tw : (Nat → Int32) → Nat → Int} {c : CT} (hc : WC c) {p : PT} (hp' : WP p) {μ : MM} (hw : Wf μ) (hx : XG c μ) (hm : MG c μ) (hxp : XP p μ) (hmp : MP p μ) (htx : TXs tw μ) {n : Nat} (hn : n ≤ 220) (hr : RLx n μ) (x1 : Int32) : ∃ r μ1 μ2, f_X_check 0 x1 μ = some (r, μ1) ∧ f_M_check 49 x1 μ1 = some (r, μ2) ∧ Sy Pck μ μ2 ∧ ∃ n', n' ≤ 220 ∧ RLx n' μ2 := by
  have e12 : nI n / (12 : Int32) = nI (n / 12) := by rw [show (12 : Int32) = nI 12 from rfl, pk_div (by omega) (by decide) (by decide)]
  by_cases h0 : x1 < 0
  · refine ⟨-2, μ, μ, ?_, ?_, Sy.rf, n, hn, hr⟩
    · unfold f_X_check; rw [kO_0 hw, bsome, if_pos h0]
    · unfold f_M_check; rw [kO_49 hw, bsome, if_pos h0]
  by_cases h1 : x1 ≤ nI (n / 12)
  · obtain ⟨nn, hnn, rfl⟩ : ∃ nn, nn ≤ n / 12 ∧ x1 = nI nn := by
      obtain ⟨j, hj, e⟩ := nI_of h0
      refine ⟨j, ?_, e⟩
      rw [e, cle hj (by omega)] at h1
      exact h1
    obtain ⟨μ1, a1, a2, a3, a4⟩ := s_asTold hc hp' hw hx hxp htx
    obtain ⟨w1, xg1, xp1, t1, -⟩ := a4
    have s1 := a2.mono Pxx_Psg
    obtain ⟨m2, e2⟩ : ∃ x, x = sI μ1 38 1 0 := ⟨_, rfl⟩
    obtain ⟨m3, e3⟩ : ∃ x, x = sI m2 49 1 0 := ⟨_, rfl⟩
    have s2 : Sm Pck μ1 m2 := by rw [e2]; exact Sm.sI rfl
    have s3 : Sm Pck m2 m3 := by rw [e3]; exact Sm.sI rfl
    have w2 := s2.wf w1
    have y3 : Sy Pck μ m3 := (s1.mono Pck_Pxx).tr (Sy.of (s2.tr s3))
    have w3 := y3.wf hw
    have m3g := y3.mg hm Pck_Pcf
    have m3p := y3.mp hmp Pck_mp
    have t3 := htx.ts (TS.sy y3 Pck_ts)
    obtain ⟨μ4, b1, b2, b3, b4⟩ := s_plainly hc hp' w3 m3g m3p t3
    obtain ⟨r, r1, r2⟩ := wrong_both hc w1 xg1 xp1.1 (XS_pit t1.1 hc hp' a3) b4.1 b4.2.1 b4.2.2.1.1 (MS_pit t1.1 hc hp' b3) hn (by rw [s1.gI 38 (fun _ => rfl)]; exact hr.1) (fun k hk => by
      rw [s1.gI 39 (fun _ => rfl), b2.gI 50 (fun _ => rfl), e3, gI_sI_ne (by decide), e2, gI_sI_ne (by decide), s1.gI 50 (fun _ => rfl)]
      exact hr.2.2 k hk) hnn
    refine ⟨r, m2, μ4, ?_, ?_, y3.tr (Sy.of (b2.mono Pck_Pxx)), 0, by decide, ?_, ?_, ?_⟩
    · unfold f_X_check
      rw [kO_0 hw, bsome, if_neg h0, rR_0_6 hw, bsome, rI_38 hw, bsome, hr.1, e12, if_pos h1, rR_0_2 hw, bsome, a1, bsome, r1, bsome, rR_0_6 w1, bsome, pI_38 w1, bsome, ← e2]
    · unfold f_M_check
      have g49 : gI m2 49 1 = nI n := by rw [e2, gI_sI_ne (by decide), (s1.at 49 1 rfl).1]; exact hr.2.1
      rw [kO_49 w2, bsome, if_neg h0, rI_49 w2, bsome, g49, e12, if_pos h1, pI_49 w2, bsome, ← e3, b1, bsome, r2]
    · rw [b2.gI 38 (fun _ => rfl), e3, gI_sI_ne (by decide), e2, gI_sI]; rfl
    · rw [(b2.2.2 49 1 rfl).1, e3, gI_sI]; rfl
    · intro k hk
      rw [b2.gI 39 (fun _ => rfl), b2.gI 50 (fun _ => rfl), e3, gI_sI_ne (by decide), gI_sI_ne (by decide), e2, gI_sI_ne (by decide), gI_sI_ne (by decide), s1.gI 39 (fun _ => rfl), s1.gI 50 (fun _ => rfl)]
      exact hr.2.2 k hk
  · refine ⟨-2, μ, μ, ?_, ?_, Sy.rf, n, hn, hr⟩
    · unfold f_X_check; rw [kO_0 hw, bsome, if_neg h0, rR_0_6 hw, bsome, rI_38 hw, bsome, hr.1, e12, if_neg h1]
    · unfold f_M_check; rw [kO_49 hw, bsome, if_neg h0, rI_49 hw, bsome, hr.2.1, e12, if_neg h1]
