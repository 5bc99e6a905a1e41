/-! LAYER 2: fit: the class finds -/
theorem s_fillL {μ : MM} (hw : Wf μ) : ∃ μ', f_Ar_fill_BJ 37 0 μ = some μ' ∧ Sm Pft μ μ' ∧ ∀ r, r < 64 → gL μ' 37 r = lI 0 := by
  unfold f_Ar_fill_BJ
  rw [aN_37 hw, bsome]
  refine upM 64 (fun j m => Sm Pft μ m ∧ ∀ r, r < j → gL m 37 r = lI 0) (fun n j m => f_Ar_fill_BJ_L6 37 0 (nI 64) n (nI j) m) _ (fun n m hi => ?_) (fun n j m hj hi => Or.inr ?_) 0 FU μ (by decide) (by decide) ⟨Sm.rf, fun r hr => by omega⟩
  · refine ⟨m, ?_, hi⟩
    show f_Ar_fill_BJ_L6 37 0 (nI 64) (n + 1) (nI 64) m = _
    rw [e_Ar_fill_BJ_L6, if_pos (by decide)]
  · obtain ⟨sm, hi⟩ := hi
    obtain ⟨m2, h2⟩ : ∃ x, x = sL m 37 j 0 := ⟨_, rfl⟩
    refine ⟨m2, ?_, by rw [h2]; exact sm.tr (Sm.sL rfl), fun r hr => ?_⟩
    · show f_Ar_fill_BJ_L6 37 0 (nI 64) (n + 1) (nI j) m = f_Ar_fill_BJ_L6 37 0 (nI 64) n (nI (j + 1)) m2
      rw [e_Ar_fill_BJ_L6, if_neg (show ¬ nI 64 ≤ nI j from nI_ge (b := 64) (by omega) (by omega)), uL_37 (sm.wf hw) hj, bsome, ← h2, nI_1]
    · rw [h2, gL_sL]
      unfold vp_updL
      split
      · rfl
      · exact hi r (by omega)
theorem find_L47 {tw : (Nat → Int32) → Nat → Int} (ht : TWB tw) {c : CT} (hc : WC c) {p : PT} (hp' : WP p) {d : RT} (hd : WR d) {μ : MM} (hF : XF tw c p d μ) {i : Nat} (hi : i < cN c) (hD : ∀ r, 0 < r → r < 64 → gL μ 37 r = lI (dfs tw c p d i r)) (hr : gI μ 36 4 = nI 1) : ∃ μ', f_Fi_find_L47 36 (nI i) FU 2 μ = some (bi (decide (¬ lrc c p d i 24 = -1)), μ') ∧ Sm Pft μ μ' ∧ gI μ' 36 4 = nI (bst (dfs tw c p d i) 62) ∧ ∀ r, 0 < r → r < 64 → gL μ' 37 r = lI (dfs tw c p d i r) := by
  have db : ∀ r, r < 64 → 0 ≤ dfs tw c p d i r ∧ dfs tw c p d i r ≤ 30000000000 := fun r hr => dfS_b ht hc hp' hd hi hr (Nat.le_refl 24)
  refine upR 62 (fun j m => Sm Pft μ m ∧ gI m 36 4 = nI (bst (dfs tw c p d i) j) ∧ gL m 37 = gL μ 37) (fun n j m => f_Fi_find_L47 36 (nI i) n (nI (j + 2)) m) (fun x => ∃ μ', x = some (bi (decide (¬ lrc c p d i 24 = -1)), μ') ∧ Sm Pft μ μ' ∧ gI μ' 36 4 = nI (bst (dfs tw c p d i) 62) ∧ ∀ r, 0 < r → r < 64 → gL μ' 37 r = lI (dfs tw c p d i r)) (fun n m hi2 => ?_) (fun n j m hj hi2 => Or.inr ?_) 0 FU μ (by decide) (by decide) ⟨Sm.rf, hr, rfl⟩
  · obtain ⟨sm, g4, g37⟩ := hi2
    obtain ⟨w, xg, xp, xr, -⟩ := hF.sm sm
    refine ⟨m, ?_, sm, g4, fun r r1 r2 => by rw [g37]; exact hD r r1 r2⟩
    show f_Fi_find_L47 36 (nI i) (n + 1) (nI 64) m = _
    rw [e_Fi_find_L47, if_pos (by decide), rR_36_1 w, bsome, show f_Ch_lastRecord 9 (nI i) (24 : Int32) m = _ from s_lastRecord w hc xg xp.1 xr hi (b := 24) (Nat.le_refl _), bsome]
    by_cases e : lrc c p d i 24 = -1
    · rw [if_pos e, decide_eq_false (fun z => z e)]; rfl
    · rw [if_neg e, decide_eq_true e]; rfl
  · obtain ⟨sm, g4, g37⟩ := hi2
    obtain ⟨w, xg, xp, xr, -⟩ := hF.sm sm
    have bb := bst_b (dfs tw c p d i) j
    have d1 := db (j + 2) (by omega)
    have d2 := db (bst (dfs tw c p d i) j) (by omega)
    have pre : f_Fi_find_L47 36 (nI i) (n + 1) (nI (j + 2)) m = if dfs tw c p d i (j + 2) < dfs tw c p d i (bst (dfs tw c p d i) j) then (pI m 36 3 4 (nI (j + 2))).bind fun μ74 => f_Fi_find_L47 36 (nI i) n (nI (j + 2 + 1)) μ74 else f_Fi_find_L47 36 (nI i) n (nI (j + 2 + 1)) m := by
      rw [e_Fi_find_L47, if_neg (show ¬ (64 : Int32) ≤ nI (j + 2) from nI_ge (b := 64) (by omega) (by omega)), rR_36_3 w, bsome, aL_37 w (by omega), bsome, bsome, rI_36 w, bsome, g4, aL_37 w (by omega), bsome, g37, hD _ (by omega) (by omega), hD _ (by omega) (by omega), nI_1]
      simp only [lgc_ge, lI_toInt (z := dfs tw c p d i (j + 2)) (by omega) (by omega), lI_toInt (z := dfs tw c p d i (bst (dfs tw c p d i) j)) (by omega) (by omega)]
      by_cases e : dfs tw c p d i (j + 2) < dfs tw c p d i (bst (dfs tw c p d i) j)
      · rw [if_neg (by omega), if_pos e]
      · rw [if_pos (by omega), if_neg e]
    by_cases e : dfs tw c p d i (j + 2) < dfs tw c p d i (bst (dfs tw c p d i) j)
    · obtain ⟨m2, h2⟩ : ∃ x, x = sI m 36 4 (nI (j + 2)) := ⟨_, rfl⟩
      refine ⟨m2, ?_, by rw [h2]; exact sm.tr (Sm.sI rfl), ?_, ?_⟩
      · show f_Fi_find_L47 36 (nI i) (n + 1) (nI (j + 2)) m = f_Fi_find_L47 36 (nI i) n (nI (j + 1 + 2)) m2
        rw [pre, if_pos e, pI_36 w, bsome, ← h2]
      · rw [h2, gI_sI]; simp only [bst]; rw [if_pos e]; simp [upd]
      · rw [h2, gL_sI]; exact g37
    · refine ⟨m, ?_, sm, ?_, g37⟩
      · show f_Fi_find_L47 36 (nI i) (n + 1) (nI (j + 2)) m = f_Fi_find_L47 36 (nI i) n (nI (j + 1 + 2)) m
        rw [pre, if_neg e]
      · simp only [bst]; rw [if_neg e]; exact g4
theorem s_find {tw : (Nat → Int32) → Nat → Int} (ht : TWB tw) {c : CT} (hc : WC c) {p : PT} (hp' : WP p) {d : RT} (hd : WR d) {μ : MM} (hF : XF tw c p d μ) {i : Nat} (hi : i < cN c) : ∃ μ', f_Fi_find 36 (nI i) μ = some (bi (decide (¬ lrc c p d i 24 = -1)), μ') ∧ Sm Pft μ μ' ∧ gI μ' 36 4 = nI (bst (dfs tw c p d i) 62) ∧ ∀ r, 0 < r → r < 64 → gL μ' 37 r = lI (dfs tw c p d i r) := by
  obtain ⟨m0, e0, s0, z0⟩ := s_fillL hF.1
  have F0 := hF.sm s0
  unfold f_Fi_find
  rw [kO_36 hF.1, bsome, rR_36_3 hF.1, bsome, e0, bsome]
  refine upR 24 (fun b m => Sm Pft m0 m ∧ ∀ r, 0 < r → r < 64 → gL m 37 r = lI (fsum (dft tw c p d i r) b)) (fun n b m => f_Fi_find_L10 36 (nI i) n (nI b) m) (fun x => ∃ μ', x = some (bi (decide (¬ lrc c p d i 24 = -1)), μ') ∧ Sm Pft μ μ' ∧ gI μ' 36 4 = nI (bst (dfs tw c p d i) 62) ∧ ∀ r, 0 < r → r < 64 → gL μ' 37 r = lI (dfs tw c p d i r)) (fun n m hi2 => ?_) (fun n b m hb hi2 => Or.inr ?_) 0 FU m0 (by decide) (by decide) ⟨Sm.rf, fun r r1 r2 => z0 r r2⟩
  · obtain ⟨sm, q⟩ := hi2
    have F := F0.sm sm
    obtain ⟨m2, h2⟩ : ∃ x, x = sI m 36 4 1 := ⟨_, rfl⟩
    have s2 : Sm Pft m m2 := by rw [h2]; exact Sm.sI rfl
    obtain ⟨μ', r1, r2, r3, r4⟩ := find_L47 ht hc hp' hd (F.sm s2) hi (fun r r1 r2 => by rw [h2, gL_sI]; exact q r r1 r2) (by rw [h2, gI_sI]; rfl)
    refine ⟨μ', ?_, ((s0.tr sm).tr s2).tr r2, r3, r4⟩
    show f_Fi_find_L10 36 (nI i) (n + 1) (nI 24) m = _
    rw [e_Fi_find_L10, if_pos (by decide), pI_36 F.1, bsome, ← h2, r1]
  · obtain ⟨sm, q⟩ := hi2
    have F := F0.sm sm
    have pre : f_Fi_find_L10 36 (nI i) (n + 1) (nI b) m = if bi (rcd c p d i b) = 0 then f_Fi_find_L10 36 (nI i) n (nI (b + 1)) m else (f_Fi_addBeat 36 (nI i) (nI b) m).bind fun m2 => f_Fi_find_L10 36 (nI i) n (nI (b + 1)) m2 := by
      rw [e_Fi_find_L10, if_neg (show ¬ (24 : Int32) ≤ nI b from nI_ge (b := 24) (by omega) (by omega)), rR_36_1 F.1, bsome, s_isRecorded F.1 hc F.2.1 F.2.2.1.1 F.2.2.2.1 hi hb, bsome, nI_1]
    cases e : rcd c p d i b with
    | false =>
      refine ⟨m, ?_, sm, fun r r1 r2 => ?_⟩
      · show f_Fi_find_L10 36 (nI i) (n + 1) (nI b) m = f_Fi_find_L10 36 (nI i) n (nI (b + 1)) m
        rw [pre, e, if_pos (by decide)]
      · rw [q r r1 r2]
        show lI (fsum (dft tw c p d i r) b) = lI (fsum (dft tw c p d i r) b + dft tw c p d i r b)
        unfold dft
        rw [if_neg (show ¬ rcd c p d i b = true by rw [e]; decide), Int.add_zero]
    | true =>
      obtain ⟨m2, r1, r2, r3⟩ := s_addBeat ht hc hp' hd F hi hb e q
      refine ⟨m2, ?_, sm.tr r2, r3⟩
      show f_Fi_find_L10 36 (nI i) (n + 1) (nI b) m = f_Fi_find_L10 36 (nI i) n (nI (b + 1)) m2
      rw [pre, e, if_neg (by decide), r1, bsome]
def ftv (tw : (Nat → Int32) → Nat → Int) (c : CT) (p : PT) (d : RT) (i : Nat) (x : Int32) : Int64 := if x = 0 then (nI (bst (dfs tw c p d i) 62 / 16)).toInt64 else if x = 1 then (nI (bst (dfs tw c p d i) 62 / 4 % 4)).toInt64 else if x = 2 then (nI (bst (dfs tw c p d i) 62 % 4)).toInt64 else lI (dfs tw c p d i (bst (dfs tw c p d i) 62))
theorem s_told {tw : (Nat → Int32) → Nat → Int} {c : CT} {p : PT} {d : RT} {μ : MM} (hw : Wf μ) {i : Nat} (hr : gI μ 36 4 = nI (bst (dfs tw c p d i) 62)) (hD : ∀ r, 0 < r → r < 64 → gL μ 37 r = lI (dfs tw c p d i r)) (x : Int32) : f_Fi_told 36 x μ = some (ftv tw c p d i x) := by
  have bb := bst_b (dfs tw c p d i) 62
  obtain ⟨z1, z2, z3, -⟩ := r_bits (bst (dfs tw c p d i) 62) (by omega)
  unfold f_Fi_told ftv
  rw [kO_36 hw, bsome, rI_36 hw, hr]
  simp only [bsm]
  rw [z1, z2, z3, rR_36_3 hw]
  simp only [bsm]
  rw [aL_37 hw (by omega), hD _ (by omega) (by omega), if_neg (nI_pos (show bst (dfs tw c p d i) 62 < 2 ^ 31 by omega)), if_neg (show ¬ (64 : Int32) ≤ nI (bst (dfs tw c p d i) 62) from nI_ge (b := 64) (by omega) (by omega))]
  simp only [bsm]
  by_cases q0 : x = 0
  · rw [if_pos q0, if_pos q0]
  rw [if_neg q0, if_neg q0]
  by_cases q1 : x = 1
  · rw [if_pos q1, if_pos q1]
  rw [if_neg q1, if_neg q1]
  by_cases q2 : x = 2
  · rw [if_pos q2, if_pos q2]
  rw [if_neg q2, if_neg q2]
