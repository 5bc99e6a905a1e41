/-! LAYER 2: fit: the reference differs; fit -/
/-- what the reference holds after it has sung, while it fits -/
def MF (tw : (Nat → Int32) → Nat → Int) (c : CT) (p : PT) (d : RT) (μ : MM) : Prop := Wf μ ∧ MG c μ ∧ MP p μ ∧ MR d μ ∧ gI μ 49 53 = 0 ∧ (∀ j, j < cN c → cP c j < 16 ∧ gI μ 81 j = nI (cP c j)) ∧ MPit c p (pl0 tw c p).1 μ ∧ ∀ k, k < 24 → gI μ 86 k = oI (gvn c (cG c) k)
def Pdf (a k : Nat) : Bool := a == 49 && (k == 64 || k == 65 || k == 66 || k == 67)
theorem Pxx_Pdf (a k : Nat) (h : Pxx a k = false) : Pdf a k = false := by
  simp [Pxx] at h
  simp [Pdf]
  omega
theorem Pdf_Pls (a k : Nat) (h : Pdf a k = false) : Pls a k = false := by
  simp [Pdf] at h
  simp [Pls]
  omega
theorem MF.sm {tw : (Nat → Int32) → Nat → Int} {c : CT} {p : PT} {d : RT} {μ μ' : MM} (h : MF tw c p d μ) (s : Sm Pdf μ μ') : MF tw c p d μ' := by
  obtain ⟨a1, a2, a3, a4, a5, a6, a7, a8⟩ := h
  refine ⟨s.wf a1, a2.sm s (fun a k z => Pxx_Pdf a k (Pxx_Pcf a k z)), a3.sm s (fun a k h1 h2 => Pxx_Pdf a k (Pxx_mp a k h1 h2)), ?_, ?_, ?_, ?_, ?_⟩
  · unfold MR; rw [s.gI 90 (fun _ => rfl), s.gI 91 (fun _ => rfl)]; exact a4
  · rw [(s.2.2 49 53 rfl).1]; exact a5
  · rw [s.gI 81 (fun _ => rfl)]; exact a6
  · unfold MPit; rw [s.gI 83 (fun _ => rfl)]; exact a7
  · rw [s.gI 86 (fun _ => rfl)]; exact a8
theorem s_differs {tw : (Nat → Int32) → Nat → Int} (ht : TWB tw) {c : CT} (hc : WC c) {p : PT} (hp' : WP p) {d : RT} (hd : WR d) {μ : MM} (hF : MF tw c p d μ) {i : Nat} (hi : i < cN c) {r : Nat} (hr : r < 64) : ∃ μ', f_M_differs 49 (nI i) (nI (r / 16)) (nI (r / 4 % 4)) (nI (r % 4)) μ = some (lI (dfs tw c p d i r), μ') ∧ Sm Pdf μ μ' := by
  have h8 := hc.1
  unfold f_M_differs
  rw [kO_49 hF.1, bsome]
  refine upR (σ := Int64 × Int32 × MM) 24 (fun b q => q.1 = lI (fsum (dft tw c p d i r) b) ∧ q.2.1 = lrc c p d i b ∧ Sm Pdf μ q.2.2) (fun n b q => f_M_differs_L9 49 (nI i) (nI (r / 16)) (nI (r / 4 % 4)) (nI (r % 4)) n q.1 q.2.1 (nI b) q.2.2) (fun x => ∃ μ', x = some (lI (dfs tw c p d i r), μ') ∧ Sm Pdf μ μ') (fun n q hi2 => ?_) (fun n b q hb hi2 => Or.inr ?_) 0 FU (0, -1, μ) (by decide) (by decide) ⟨rfl, rfl, Sm.rf⟩
  · obtain ⟨q1, q2, m⟩ := q
    obtain ⟨h1, h2, sm⟩ := hi2
    have h1 : q1 = lI (fsum (dft tw c p d i r) 24) := h1
    refine ⟨m, ?_, sm⟩
    show f_M_differs_L9 49 (nI i) (nI (r / 16)) (nI (r / 4 % 4)) (nI (r % 4)) (n + 1) q1 q2 (nI 24) m = _
    rw [e_M_differs_L9, if_pos (by decide), h1]; rfl
  · obtain ⟨q1, q2, m⟩ := q
    obtain ⟨h1, h2, sm⟩ := hi2
    have h1 : q1 = lI (fsum (dft tw c p d i r) b) := h1
    have h2 : q2 = lrc c p d i b := h2
    have sm : Sm Pdf μ m := sm
    have F := hF.sm sm
    obtain ⟨w, mg, mp, mr, g53, g81, mpit, g86⟩ := F
    have l24 : ¬ (24 : Int32) ≤ nI b := nI_ge (b := 24) (by omega) (by omega)
    cases e : rcd c p d i b with
    | false =>
      refine ⟨(q1, q2, m), ?_, ?_, ?_, sm⟩
      · show f_M_differs_L9 49 (nI i) (nI (r / 16)) (nI (r / 4 % 4)) (nI (r % 4)) (n + 1) q1 q2 (nI b) m = f_M_differs_L9 49 (nI i) (nI (r / 16)) (nI (r / 4 % 4)) (nI (r % 4)) n q1 q2 (nI (b + 1)) m
        rw [e_M_differs_L9, if_neg l24, s_isTaped w hc mg mp.1 mr hi hb, e, bsome, if_pos (by decide), nI_1]
      · show q1 = lI (fsum (dft tw c p d i r) b + dft tw c p d i r b)
        unfold dft
        rw [if_neg (show ¬ rcd c p d i b = true by rw [e]; decide), Int.add_zero]; exact h1
      · show q2 = (if rcd c p d i b = true then nI b else lastb (rcd c p d i) b)
        rw [if_neg (by rw [e]; decide)]; exact h2
    | true =>
      have hs := rcd_s e
      have pb := sal_PB ht hc hp' (t := 0) (g := cG c) (pl := cP c) (nb := false)
      have lb := lrp_b hc (p := p) hd hi (show b ≤ 24 by omega)
      have ab := dfa_b ht hc hp' hd hi hb e
      have mb := dfm_b ht hc hp' hd hi hb hr e
      have rb := hd (24 * i + b) (by omega)
      obtain ⟨m1, e1, s1, c0, a0⟩ := s_listens w hc mg hp' mp hi hb hs (pl := cP c) g81 (pit := (pl0 tw c p).1) (fun j hj hs => mpit j b (by omega) hb hs)
      have s1' : Sm Pdf m m1 := s1.mono Pdf_Pls
      obtain ⟨m2, h2'⟩ : ∃ x, x = sI m1 49 67 (bi (decide (¬ lrc c p d i b = -1))) := ⟨_, rfl⟩
      have s2 : Sm Pdf m1 m2 := by rw [h2']; exact Sm.sI rfl
      obtain ⟨m3, h3⟩ : ∃ x, x = sL m2 49 65 (lI (own c p i b (lrc c p d i b) (lrp c p d i b))) := ⟨_, rfl⟩
      have s3 : Sm Pdf m2 m3 := by rw [h3]; exact Sm.sL rfl
      have w1 := s1'.wf w
      have w2 := s2.wf w1
      have F0 : MF tw c p d m := ⟨w, mg, mp, mr, g53, g81, mpit, g86⟩
      have F2 := F0.sm (s1'.tr s2)
      have F3 := F2.sm s3
      obtain ⟨w3, mg3, mp3, mr3, h53, -, -, k86⟩ := F3
      have eA := s_aimOf w3 hc mg3 hp' mp3 (t := 0) h53 (by decide) hi hb hs (cb := cbn c p (cP c) (knw c false i) i b (lrc c p d i b)) (w := wrw r) (a := amn c p 0 (cP c) (gvn c (cG c) b) (pl0 tw c p).1 i b (lrc c p d i b) (lrp c p d i b)) (gv := gvn c (cG c) b) (k86 b hb) (gvn_b hc (cG c) b) (by
          rw [h3, gI_sL, h2', gI_sI]
          unfold upd
          rw [if_neg (by decide)]
          exact c0) (by
          rw [h3, gI_sL, h2', gI_sI]
          simp [upd, cbn]) rfl (by
          rw [h3, gL_sL, h2', gL_sI]
          unfold vp_updL
          rw [if_neg (by decide)]
          exact a0) (by
          rw [h3, gL_sL]
          simp [vp_updL, amn]) rfl rfl (wrw_b hr) (fun k hk => by
          have := ab k hk
          omega)
      have eA : f_M_aimOf 49 (nI i) (nI b) (nI (r / 16)).toInt64 (nI (r / 4 % 4)).toInt64 (nI (r % 4)).toInt64 0 m3 = some (lI (dfm tw c p d i r b)) := by
        rw [oI_nI (r / 16), oI_nI (r / 4 % 4), oI_nI (r % 4), oI_l (by omega) (by omega), oI_l (by omega) (by omega), oI_l (by omega) (by omega)]
        have z : (if cbn c p (cP c) (knw c false i) i b (lrc c p d i b) 3 = true then wrw r 3 else 0) = 0 := by split <;> rfl
        rw [z] at eA
        exact eA
      have c138 : f_M_differs_J138 (f_M_differs_L9 49 (nI i) (nI (r / 16)) (nI (r / 4 % 4)) (nI (r % 4)) n) 49 (nI i) (nI (r / 16)) (nI (r / 4 % 4)) (nI (r % 4)) q1 (nI b) 49 (lI (own c p i b (lrc c p d i b) (lrp c p d i b))) m2 = f_M_differs_L9 49 (nI i) (nI (r / 16)) (nI (r / 4 % 4)) (nI (r % 4)) n (lI (fsum (dft tw c p d i r) b + dft tw c p d i r b)) (nI b) (nI (b + 1)) m3 := by
        unfold f_M_differs_J138
        rw [pL_49 w2, bsome, ← h3, eA, bsome, rR_49_69 w3, bsome, cellN', aI_90 w3 (by omega), bsome, mr3.2 _ (by omega), oI_l (by omega) (by omega), lI_sub, s_plain (by omega) (by omega), bsome, h1, lI_add, nI_1]
        unfold dft
        rw [if_pos e]
      have hl := lst_lrc c p d i b
      have c73 : f_M_differs_J73 (f_M_differs_L9 49 (nI i) (nI (r / 16)) (nI (r / 4 % 4)) (nI (r % 4)) n) 49 (nI i) (nI (r / 16)) (nI (r / 4 % 4)) (nI (r % 4)) q1 q2 (nI b) (oI (lrp c p d i b)) m2 = f_M_differs_L9 49 (nI i) (nI (r / 16)) (nI (r / 4 % 4)) (nI (r % 4)) n (lI (fsum (dft tw c p d i r) b + dft tw c p d i r b)) (nI b) (nI (b + 1)) m3 := by
        rw [← c138]
        unfold f_M_differs_J73 f_M_differs_J117
        rw [rI_49 w2, bsome, show gI m2 49 67 = bi (decide (¬ lrc c p d i b = -1)) by rw [h2', gI_sI]; simp [upd], h2]
        unfold own
        by_cases e2 : lrc c p d i b = -1
        · rw [decide_eq_false (fun z => z e2), if_pos (by decide), if_pos e2]; rfl
        · rw [decide_eq_true e2, if_neg (by decide), if_neg e2, rR_49_22 w2, bsome, aI_63 w2 (by omega), bsome, MG_v F2.2.1 i hi, s_isHeld w2, F2.2.2.1.1, bsome, oI_l (z := lrp c p d i b) (by omega) (by omega)]
          obtain ⟨k, hk, ek, hsk⟩ := hl.resolve_left e2
          have z1 := mz_b hc hp' hi hb hs
          have z2 := mz_b hc hp' hi (show k < 24 by omega) hsk
          have j117 : ((f_M_sizeFor 49 (nI i) (nI b) m2).bind fun y124 => (f_M_sizeFor 49 (nI i) (lrc c p d i b) m2).bind fun y133 => f_M_differs_J138 (f_M_differs_L9 49 (nI i) (nI (r / 16)) (nI (r / 4 % 4)) (nI (r % 4)) n) 49 (nI i) (nI (r / 16)) (nI (r / 4 % 4)) (nI (r % 4)) q1 (nI b) 49 ((lI (lrp c p d i b) + y124.toInt64) - y133.toInt64) m2) = f_M_differs_J138 (f_M_differs_L9 49 (nI i) (nI (r / 16)) (nI (r / 4 % 4)) (nI (r % 4)) n) 49 (nI i) (nI (r / 16)) (nI (r / 4 % 4)) (nI (r % 4)) q1 (nI b) 49 (lI (lrp c p d i b + mz c p i b - mz c p i (lrc c p d i b).toInt.toNat)) m2 := by
            rw [ek, s_sizeFor w2 hc (MG_v F2.2.1) F2.2.2.1 hi hb hs, bsome, s_sizeFor w2 hc (MG_v F2.2.1) F2.2.2.1 hi (by omega) hsk, bsome, oI_l (z := mz c p i b) (by omega) (by omega), oI_l (z := mz c p i k) (by omega) (by omega), lI_add, lI_sub, nI_toInt (by omega), Int.toNat_natCast]
          by_cases e3 : lrc c p d i b = nI b - 1
          · rw [if_pos e3]
            cases hh : hld (pkey p) (nI (cV c i)) (nI b) with
            | false =>
              rw [if_pos (by decide), if_neg (fun z => by cases z.2)]
              exact j117
            | true => rw [if_neg (by decide), if_pos ⟨e3, rfl⟩]
          · rw [if_neg e3, if_neg (fun z => e3 z.1)]
            exact j117
      have c48 : f_M_differs_J48 (f_M_differs_L9 49 (nI i) (nI (r / 16)) (nI (r / 4 % 4)) (nI (r % 4)) n) 49 (nI i) (nI (r / 16)) (nI (r / 4 % 4)) (nI (r % 4)) q1 q2 (nI b) 49 (bi (decide (¬ lrc c p d i b = -1))) m1 = f_M_differs_L9 49 (nI i) (nI (r / 16)) (nI (r / 4 % 4)) (nI (r % 4)) n (lI (fsum (dft tw c p d i r) b + dft tw c p d i r b)) (nI b) (nI (b + 1)) m3 := by
        rw [← c73]
        unfold f_M_differs_J48
        rw [pZ_49 w1 (bi_01 _), bsome, ← h2', h2]
        by_cases e2 : lrc c p d i b = -1
        · rw [if_pos e2]
          congr 1
          unfold lrp
          rw [if_pos e2]; rfl
        · obtain ⟨k, hk, ek, hsk⟩ := hl.resolve_left e2
          rw [if_neg e2, ek, rR_49_69 w2, bsome, cellN', aI_90 w2 (by omega), bsome, F2.2.2.2.1.2 _ (by omega)]
          congr 1
          unfold lrp
          rw [if_neg e2, ek, nI_toInt (by omega), Int.toNat_natCast]
      refine ⟨(lI (fsum (dft tw c p d i r) b + dft tw c p d i r b), nI b, m3), ?_, rfl, ?_, ((sm.tr s1').tr s2).tr s3⟩
      · show f_M_differs_L9 49 (nI i) (nI (r / 16)) (nI (r / 4 % 4)) (nI (r % 4)) (n + 1) q1 q2 (nI b) m = f_M_differs_L9 49 (nI i) (nI (r / 16)) (nI (r / 4 % 4)) (nI (r % 4)) n (lI (fsum (dft tw c p d i r) b + dft tw c p d i r b)) (nI b) (nI (b + 1)) m3
        rw [e_M_differs_L9, if_neg l24, s_isTaped w hc mg mp.1 mr hi hb, e, bsome, if_neg (by decide), e1, bsome, ← c48]
        by_cases e2 : lrc c p d i b = -1
        · rw [if_pos (h2.trans e2), decide_eq_false (fun z => z e2)]; rfl
        · rw [if_neg (fun z => e2 (h2.symm.trans z)), decide_eq_true e2]; rfl
      · show nI b = (if rcd c p d i b = true then nI b else lastb (rcd c p d i) b)
        rw [if_pos e]
theorem fit_M {tw : (Nat → Int32) → Nat → Int} (ht : TWB tw) {c : CT} (hc : WC c) {p : PT} (hp' : WP p) {d : RT} (hd : WR d) {μ : MM} (hF : MF tw c p d μ) {i : Nat} (hi : i < cN c) {k : Nat} (hk : k < 4) : ∃ μ', f_M_fit_L85 49 (nI i) (nI k) FU 0 1000000000000000 1 μ = some (ftv tw c p d i (nI k), μ') ∧ Sm Pdf μ μ' := by
  have db : ∀ r, r < 64 → 0 ≤ dfs tw c p d i r ∧ dfs tw c p d i r ≤ 30000000000 := fun r hr => dfS_b ht hc hp' hd hi hr (Nat.le_refl 24)
  have st : ∀ (n r : Nat) (x : Int32) (l : Int) (m : MM), 0 < r → r < 64 → (-1 < l ∧ l < 10000000000000000) → Sm Pdf μ m → ∃ m', f_M_fit_L85 49 (nI i) (nI k) (n + 1) x (lI l) (nI r) m = (if dfs tw c p d i r < l then f_M_fit_L85 49 (nI i) (nI k) n (nI r) (lI (dfs tw c p d i r)) (nI (r + 1)) m' else f_M_fit_L85 49 (nI i) (nI k) n x (lI l) (nI (r + 1)) m') ∧ Sm Pdf μ m' := fun n r x l m r0 r1 hl sm => by
    obtain ⟨m', e1, s1⟩ := s_differs ht hc hp' hd (hF.sm sm) hi r1
    obtain ⟨-, -, -, z4, z5, z6⟩ := r_bits r r1
    have d1 := db r r1
    refine ⟨m', ?_, sm.tr s1⟩
    rw [e_M_fit_L85, if_neg (show ¬ (64 : Int32) ≤ nI r from nI_ge (b := 64) (by omega) (by omega)), z4, z5, z6, e1, bsome, nI_1]
    simp only [lgc_lt, lI_toInt (z := dfs tw c p d i r) (by omega) (by omega), lI_toInt (z := l) (by omega) (by omega)]
  obtain ⟨m1, e1, s1⟩ := st 999999999 1 0 1000000000000000 μ (by decide) (by decide) (by decide) Sm.rf
  have d1 := db 1 (by decide)
  rw [if_pos (by omega)] at e1
  have e1 : f_M_fit_L85 49 (nI i) (nI k) FU 0 1000000000000000 1 μ = f_M_fit_L85 49 (nI i) (nI k) 999999999 (nI 1) (lI (dfs tw c p d i 1)) (nI (1 + 1)) m1 := e1
  rw [e1]
  refine upR (σ := Int32 × Int64 × MM) 62 (fun j q => q.1 = nI (bst (dfs tw c p d i) j) ∧ q.2.1 = lI (dfs tw c p d i (bst (dfs tw c p d i) j)) ∧ Sm Pdf μ q.2.2) (fun n j q => f_M_fit_L85 49 (nI i) (nI k) n q.1 q.2.1 (nI (j + 2)) q.2.2) (fun x => ∃ μ', x = some (ftv tw c p d i (nI k), μ') ∧ Sm Pdf μ μ') (fun n q hi2 => ?_) (fun n j q hj hi2 => Or.inr ?_) 0 999999999 (nI 1, lI (dfs tw c p d i 1), m1) (by decide) (by decide) ⟨rfl, rfl, s1⟩
  · obtain ⟨q1, q2, m⟩ := q
    obtain ⟨h1, h2, sm⟩ := hi2
    have h1 : q1 = nI (bst (dfs tw c p d i) 62) := h1
    have h2 : q2 = lI (dfs tw c p d i (bst (dfs tw c p d i) 62)) := h2
    have bb := bst_b (dfs tw c p d i) 62
    obtain ⟨-, -, -, z4, z5, z6⟩ := r_bits (bst (dfs tw c p d i) 62) (by omega)
    refine ⟨m, ?_, sm⟩
    show f_M_fit_L85 49 (nI i) (nI k) (n + 1) q1 q2 (nI 64) m = _
    rw [e_M_fit_L85, if_pos (by decide), h1, h2, z4, z5, z6]
    unfold ftv
    by_cases q0 : nI k = 0
    · rw [if_pos q0, if_pos q0]
    rw [if_neg q0, if_neg q0]
    by_cases q1 : nI k = 1
    · rw [if_pos q1, if_pos q1]
    rw [if_neg q1, if_neg q1]
    by_cases q2 : nI k = 2
    · rw [if_pos q2, if_pos q2]
    rw [if_neg q2, if_neg q2]
  · obtain ⟨q1, q2, m⟩ := q
    obtain ⟨h1, h2, sm⟩ := hi2
    have h1 : q1 = nI (bst (dfs tw c p d i) j) := h1
    have h2 : q2 = lI (dfs tw c p d i (bst (dfs tw c p d i) j)) := h2
    have bb := bst_b (dfs tw c p d i) j
    have d2 := db (bst (dfs tw c p d i) j) (by omega)
    obtain ⟨m', e2, s2⟩ := st n (j + 2) q1 (dfs tw c p d i (bst (dfs tw c p d i) j)) m (by omega) (by omega) (by omega) sm
    by_cases e : dfs tw c p d i (j + 2) < dfs tw c p d i (bst (dfs tw c p d i) j)
    · rw [if_pos e] at e2
      refine ⟨(nI (j + 2), lI (dfs tw c p d i (j + 2)), m'), ?_, ?_, ?_, s2⟩
      · show f_M_fit_L85 49 (nI i) (nI k) (n + 1) q1 q2 (nI (j + 2)) m = _
        rw [h2, e2]
      · simp only [bst]; rw [if_pos e]
      · simp only [bst]; rw [if_pos e]
    · rw [if_neg e] at e2
      refine ⟨(q1, q2, m'), ?_, ?_, ?_, s2⟩
      · show f_M_fit_L85 49 (nI i) (nI k) (n + 1) q1 q2 (nI (j + 2)) m = _
        rw [h2, e2]
      · simp only [bst]; rw [if_neg e]; exact h1
      · simp only [bst]; rw [if_neg e]; exact h2
theorem fit_any {c : CT} (hc : WC c) {p : PT} {d : RT} {μ : MM} (w : Wf μ) (mg : MG c μ) (mp : gI μ 51 = pkey p) (mr : MR d μ) {i : Nat} (hi : i < cN c) (x2 : Int32) : f_M_fit_L29 49 (nI i) x2 μ FU 0 0 = f_M_fit_L29 49 (nI i) x2 μ 1 (bi (decide (¬ lrc c p d i 24 = -1))) (nI 24) := by
  refine upA 24 (fun n b => f_M_fit_L29 49 (nI i) x2 μ n (bi (decide (¬ lrc c p d i b = -1))) (nI b)) _ (fun n => ?_) (fun n b hb => ?_) 0 FU (by decide) (by decide)
  · show f_M_fit_L29 49 (nI i) x2 μ (n + 1) _ (nI 24) = _
    rw [e_M_fit_L29, e_M_fit_L29, if_pos (show (24 : Int32) ≤ nI 24 by decide), if_pos (show (24 : Int32) ≤ nI 24 by decide)]
  · show f_M_fit_L29 49 (nI i) x2 μ (n + 1) (bi (decide (¬ lrc c p d i b = -1))) (nI b) = f_M_fit_L29 49 (nI i) x2 μ n (bi (decide (¬ (if rcd c p d i b = true then nI b else lrc c p d i b) = -1))) (nI (b + 1))
    rw [e_M_fit_L29, if_neg (show ¬ (24 : Int32) ≤ nI b from nI_ge (b := 24) (by omega) (by omega)), s_isTaped w hc mg mp mr hi hb, bsome, nI_1]
    by_cases e : lrc c p d i b = -1
    · rw [decide_eq_false (fun z => z e), if_pos (by decide)]
      cases e2 : rcd c p d i b with
      | false => rw [if_pos (by decide), if_neg (by decide), decide_eq_false (fun z => z e)]; rfl
      | true => rw [if_neg (by decide), if_pos rfl, decide_eq_true (nI_ne_m1 (by omega))]; rfl
    · rw [decide_eq_true e, if_neg (by decide)]
      have : ¬ (if rcd c p d i b = true then nI b else lrc c p d i b) = -1 := by
        split
        · exact nI_ne_m1 (by omega)
        · exact e
      rw [decide_eq_true this]; rfl
theorem fit_ok {tw : (Nat → Int32) → Nat → Int} {c : CT} (hc : WC c) {p : PT} (hp' : WP p) {d : RT} (hd : WR d) {μ : MM} (hw : Wf μ) (hx : XG c μ) (hm : MG c μ) (hxp : XP p μ) (hmp : MP p μ) (htx : TXs tw μ) (hxr : XR d μ) (hmr : MR d μ) (x1 x2 : Int32) : ∃ r μ1 μ2, f_X_fit 0 x1 x2 μ = some (r, μ1) ∧ f_M_fit 49 x1 x2 μ1 = some (r, μ2) ∧ Sy Pxx μ μ2 := by
  have h8 := hc.1
  have mo : f_X_fit 0 x1 x2 μ = some (-1, μ) → f_M_fit 49 x1 x2 μ = some (-1, μ) → ∃ r μ1 μ2, f_X_fit 0 x1 x2 μ = some (r, μ1) ∧ f_M_fit 49 x1 x2 μ1 = some (r, μ2) ∧ Sy Pxx μ μ2 := fun a b => ⟨-1, μ, μ, a, b, Sy.rf⟩
  have no : inR x1 (cN c) = false → ∃ r μ1 μ2, f_X_fit 0 x1 x2 μ = some (r, μ1) ∧ f_M_fit 49 x1 x2 μ1 = some (r, μ2) ∧ Sy Pxx μ μ2 := fun g => by
    refine mo ?_ ?_
    · unfold f_X_fit; rw [kO_0 hw, bsome, rR_0_1 hw, bsome, s_chas hw hc hx, g]; rfl
    · unfold f_M_fit; rw [kO_49 hw, bsome, s_isSinger hw hc hm, g]; rfl
  rcases ixc (cN c) _ rfl (by omega) x1 with ⟨g1, g2⟩ | ⟨g1, g2, g3⟩ | ⟨-, -, g3, i, hi, ei⟩
  · exact no g2
  · exact no g3
  rcases ixc 4 4 rfl (by decide) x2 with ⟨h1, h2⟩ | ⟨h1, h2, h3⟩ | ⟨h1, h2, h3, k, hk, ek⟩
  · refine mo ?_ ?_
    · unfold f_X_fit; rw [kO_0 hw, bsome, rR_0_1 hw, bsome, s_chas hw hc hx, g3, bsome, if_neg (by decide), if_pos h1]; rfl
    · unfold f_M_fit; rw [kO_49 hw, bsome, s_isSinger hw hc hm, g3, bsome, if_neg (by decide), s_liesI x2 0 3 0 3 (by decide) (by decide), inR_le x2 4 3 (by decide), h2]; rfl
  · refine mo ?_ ?_
    · unfold f_X_fit; rw [kO_0 hw, bsome, rR_0_1 hw, bsome, s_chas hw hc hx, g3, bsome, if_neg (by decide), if_neg h1, if_neg]
      · rfl
      · rw [toInt_le] at h2 ⊢
        have e1 : (4 : Int32).toInt = 4 := by decide
        have e2 : (3 : Int32).toInt = 3 := by decide
        omega
    · unfold f_M_fit; rw [kO_49 hw, bsome, s_isSinger hw hc hm, g3, bsome, if_neg (by decide), s_liesI x2 0 3 0 3 (by decide) (by decide), inR_le x2 4 3 (by decide), h3]; rfl
  obtain ⟨μ1, a1, a2, a3, a4⟩ := s_asTold hc hp' hw hx hxp htx
  have s1 := a2.mono Pxx_Psg
  obtain ⟨w1, xg1, xp1, t1, z9, z10, z11, q, zq1, zq2, zq3⟩ := a4
  have xr1 : XR d μ1 := by unfold XR; rw [s1.gI 14 (fun _ => rfl), s1.gI 15 (fun _ => rfl)]; exact hxr
  have F1 : XF tw c p d μ1 := ⟨w1, xg1, xp1, xr1, z9, z10, z11, ⟨q, zq1, zq2, zq3⟩, XS_pit t1.1 hc hp' a3⟩
  obtain ⟨μ2, b1, b2, b3, b4⟩ := s_find t1.1 hc hp' hd F1 hi
  have s2 : Sy Pxx μ μ2 := sy_sm s1 (b2.mono Pxx_Pft)
  have w2 := s2.wf hw
  have m2 := s2.mg hm Pxx_Pcf
  have p2 := s2.mp hmp Pxx_mp
  have t2 := htx.ts (TS.sy s2 Pxx_ts)
  have mr2 : MR d μ2 := by unfold MR; rw [s2.gI 90 (fun _ => rfl), s2.gI 91 (fun _ => rfl)]; exact hmr
  have kle : nI k ≤ (3 : Int32) := nI_le (b := 3) (by omega) (by decide)
  have M0 : f_M_fit 49 x1 x2 μ2 = f_M_fit_L29 49 (nI i) (nI k) μ2 1 (bi (decide (¬ lrc c p d i 24 = -1))) (nI 24) := by
    unfold f_M_fit
    rw [kO_49 w2, bsome, s_isSinger w2 hc m2, g3, bsome, if_neg (by decide), s_liesI x2 0 3 0 3 (by decide) (by decide), inR_le x2 4 3 (by decide), h3, bsome, if_neg (by decide), ei, ek, fit_any hc w2 m2 p2.1 mr2 hi]
  have X0 : f_X_fit 0 x1 x2 μ = if bi (decide (¬ lrc c p d i 24 = -1)) = 0 then some (-2, μ2) else some (ftv tw c p d i (nI k), μ2) := by
    unfold f_X_fit
    rw [kO_0 hw, bsome, rR_0_1 hw, bsome, s_chas hw hc hx, g3, bsome, if_neg (by decide), if_neg h1, ei, ek, if_pos kle, rR_0_2 hw, bsome, a1, bsome, rR_0_5 w1, bsome, b1, bsome, rR_0_5 w2, bsome, s_told w2 b3 b4, bsome]
  by_cases e : lrc c p d i 24 = -1
  · rw [decide_eq_false (fun z => z e)] at X0 M0
    refine ⟨-2, μ2, μ2, X0, ?_, s2⟩
    rw [M0, e_M_fit_L29, if_pos (by decide), if_pos (by decide)]
  · rw [decide_eq_true e] at X0 M0
    obtain ⟨μ3, d1, d2, d3, d4, d5⟩ := s_plainlyG hc hp' w2 m2 p2 t2
    obtain ⟨w3, m3, p3, t3, e52, e53, e81, e82⟩ := d4
    have F3 : MF tw c p d μ3 := ⟨w3, m3, p3, by unfold MR; rw [d2.gI 90 (fun _ => rfl), d2.gI 91 (fun _ => rfl)]; exact mr2, e53, e81, MS_pit t3.1 hc hp' d3, d5⟩
    obtain ⟨μ4, f1, f2⟩ := fit_M t3.1 hc hp' hd F3 hi hk
    refine ⟨_, μ2, μ4, X0, ?_, sy_sm s2 (d2.tr (f2.mono Pxx_Pdf))⟩
    rw [M0, e_M_fit_L29, if_pos (by decide), if_neg (by decide), d1, bsome, f1]
