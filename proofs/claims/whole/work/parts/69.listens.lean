/-! LAYER 2: the aims of a note, in the reference -/
def Pls (a k : Nat) : Bool := a == 49 && (k == 64 || k == 66)
theorem MG_v {c : CT} {μ : MM} (hm : MG c μ) : ∀ i, i < cN c → gI μ 63 i = nI (cV c i) := fun i hi => (hm.2.2.2.2.1 i hi).1
theorem s_listens {c : CT} {p : PT} {μ : MM} (hw : Wf μ) (hc : WC c) (hm : MG c μ) (hp' : WP p) (hmp : MP p μ) {i b : Nat} (hi : i < cN c) (hb : b < 24) (h : sg c p i b = true) {pl : Nat → Nat} (hpl : ∀ j, j < cN c → pl j < 16 ∧ gI μ 81 j = nI (pl j)) {pit : Nat → Int} (hpit : ∀ j, j < i → sg c p j b = true → gI μ 83 (24 * j + b) = oI (pit (24 * j + b)) ∧ -PB ≤ pit (24 * j + b) ∧ pit (24 * j + b) ≤ PB) :
    ∃ μ', f_M_listens 49 (nI i) (nI b) μ = some μ' ∧ Sm Pls μ μ' ∧ gI μ' 49 66 = bi (decide (0 < ears c p pl i b i)) ∧ gL μ' 49 64 = lI (oth c p pl pit i b) := by
  have h8 := hc.1
  have eb := ears_b hc p (pl := pl) (i := i) (b := b) (k := i) (by omega)
  have hbd := herd_b hc hp' (pl := pl) (pit := pit) hi hb h (fun j hj hs => (hpit j hj hs).2) (k := i) (Nat.le_refl _)
  obtain ⟨m1, h1⟩ : ∃ x, x = sI μ 49 66 (bi (decide (0 < ears c p pl i b i))) := ⟨_, rfl⟩
  obtain ⟨m2, h2⟩ : ∃ x, x = sL m1 49 64 (lI (oth c p pl pit i b)) := ⟨_, rfl⟩
  have s1 : Sm Pls μ m1 := by rw [h1]; exact Sm.sI rfl
  have s2 : Sm Pls μ m2 := by rw [h2]; exact s1.tr (Sm.sL rfl)
  have w1 := s1.wf hw
  refine ⟨m2, ?_, s2, ?_, ?_⟩
  · have c99 : f_M_listens_J99 49 (lI (herd c p pl pit i b i)) (lI (ears c p pl i b i)) 49 (bi (decide (0 < ears c p pl i b i))) μ = some m2 := by
      unfold f_M_listens_J99 f_M_listens_J120
      rw [show pZ μ 49 1 66 (bi (decide (0 < ears c p pl i b i))) = some m1 by rw [h1]; exact pZ_49 hw (bi_01 _), bsome, rI_49 w1, bsome, show gI m1 49 66 = bi (decide (0 < ears c p pl i b i)) by rw [h1, gI_sI]; rfl, pL_49 w1, bsome, h2]
      unfold oth
      by_cases e : 0 < ears c p pl i b i
      · rw [if_neg (by rw [decide_eq_true e]; decide), if_pos e, s_floor (by omega) e (by omega) (by omega), bsome, pL_49 w1, bsome]
      · rw [if_pos (by rw [decide_eq_false e]; decide), if_neg e]; rfl
    unfold f_M_listens
    rw [kO_49 hw, bsome]
    refine upA i (fun n j => f_M_listens_L8 49 (nI i) (nI b) μ n (lI (herd c p pl pit i b j)) (lI (ears c p pl i b j)) (nI j)) _ (fun n => ?_) (fun n j hj => ?_) 0 FU (by omega) (by unfold FU; omega)
    · show f_M_listens_L8 49 (nI i) (nI b) μ (n + 1) _ _ (nI i) = _
      rw [e_M_listens_L8, if_pos (show nI i ≤ nI i by rw [cle (by omega) (by omega)]; omega), ← c99]
      simp only [lgc_le, lI_toInt (z := ears c p pl i b i) (by omega) (by omega), show (0 : Int64).toInt = 0 by decide]
      by_cases e : 0 < ears c p pl i b i
      · rw [if_neg (by omega), decide_eq_true e]; rfl
      · rw [if_pos (by omega), decide_eq_false e]; rfl
    · show f_M_listens_L8 49 (nI i) (nI b) μ (n + 1) _ _ (nI j) = f_M_listens_L8 49 (nI i) (nI b) μ n (lI (herd c p pl pit i b j + if sg c p j b = true then hrw c pl i j * (pit (24 * j + b) + mz c p i b - mz c p j b) else 0)) (lI (ears c p pl i b j + if sg c p j b = true then hrw c pl i j else 0)) (nI (j + 1))
      have hjc : j < cN c := by omega
      rw [e_M_listens_L8, if_neg (show ¬ nI i ≤ nI j by rw [cle (by omega) (by omega)]; omega), s_singsM hw hc (MG_v hm) hmp.1 hjc, bsome, nI_1]
      cases e : sg c p j b with
      | false =>
        rw [show snd (pkey p) (nI (cV c j)) (nI b) = false from e, if_pos (by decide), if_neg (by decide), if_neg (by decide), Int.add_zero, Int.add_zero]
      | true =>
        have hr := hrw_b hc (pl := pl) (i := i) hjc
        have hpj := hpit j hj e
        have z1 := mz_b hc hp' hi hb h
        have z2 := mz_b hc hp' hjc hb e
        have hh : nI (hrd (cL c j) (pl i) (pl j)) = oI (hrw c pl i j) := by rw [oI_nI]; rfl
        rw [show snd (pkey p) (nI (cV c j)) (nI b) = true from e, if_neg (by decide), s_hearsOf hw hc (fun i hi => (hm.2.2.2.2.1 i hi).2.2.1) hpl hi hjc, bsome, hh, rR_49_54 hw, bsome, cellN', aI_83 hw (by omega), bsome, hpj.1, s_sizeFor hw hc (MG_v hm) hmp hi hb h, bsome, s_sizeFor hw hc (MG_v hm) hmp hjc hb e, bsome, oI_l (by omega) (by omega), oI_l (by unfold PB at hpj; omega) (by unfold PB at hpj; omega), oI_l (by omega) (by omega), oI_l (by omega) (by omega), lI_add, lI_sub, lI_mul, lI_add, lI_add, if_pos rfl, if_pos rfl]
  · rw [h2, gI_sL, h1, gI_sI]; rfl
  · rw [h2, gL_sL]; rfl
theorem s_aimOf {c : CT} {p : PT} {μ : MM} (hw : Wf μ) (hc : WC c) (hm : MG c μ) (hp' : WP p) (hmp : MP p μ) {t : Nat} (h53 : gI μ 49 53 = nI t) (ht : t < 12) {i b : Nat} (hi : i < cN c) (hb : b < 24) (h : sg c p i b = true) {cb : Nat → Bool} {w a : Nat → Int} {gv : Int} (hgv : gI μ 86 b = oI gv) (gvb : -200000 ≤ gv ∧ gv ≤ 200000) (c0 : gI μ 49 66 = bi (cb 0)) (c1 : gI μ 49 67 = bi (cb 1)) (c2 : cb 2 = true) (a0 : gL μ 49 64 = lI (a 0)) (a1 : gL μ 49 65 = lI (a 1)) (a2 : a 2 = tab c p t i b + gv) (a3 : a 3 = tab c p t i b) (hW : WB w) (hA : AB a) :
    f_M_aimOf 49 (nI i) (nI b) (lI (w 0)) (lI (w 1)) (lI (w 2)) (lI (if cb 3 = true then w 3 else 0)) μ = some (lI (mix cb w a)) := by
  have bW := mW_b (cb := cb) hW
  have bT := mT_b (cb := cb) hW hA
  have tb := tab_b hc hp' (t := t) hi hb h
  obtain ⟨k1, k2⟩ := s_keyOf hw hc (MG_v hm) hp' hmp.1 hi hb h
  have eW : mW cb w 4 = (if cb 0 = true then w 0 else 0) + (if cb 1 = true then w 1 else 0) + w 2 + (if cb 3 = true then w 3 else 0) := by
    show 0 + (if cb 0 = true then w 0 else 0) + (if cb 1 = true then w 1 else 0) + (if cb 2 = true then w 2 else 0) + (if cb 3 = true then w 3 else 0) = _
    rw [if_pos c2, Int.zero_add]
  have eT : mT cb w a 4 = (if cb 0 = true then w 0 else 0) * a 0 + (if cb 1 = true then w 1 else 0) * a 1 + w 2 * a 2 + (if cb 3 = true then w 3 else 0) * a 3 := by
    show 0 + (if cb 0 = true then w 0 * a 0 else 0) + (if cb 1 = true then w 1 * a 1 else 0) + (if cb 2 = true then w 2 * a 2 else 0) + (if cb 3 = true then w 3 * a 3 else 0) = _
    have f : ∀ k, (if cb k = true then w k * a k else 0) = (if cb k = true then w k else 0) * a k := fun k => by split; rfl; rw [Int.zero_mul]
    rw [f 0, f 1, f 3, if_pos c2, Int.zero_add]
  have fin : f_M_aimOf_J27 49 (nI i) (nI b) (lI (w 2)) (lI (if cb 3 = true then w 3 else 0)) (lI (if cb 0 = true then w 0 else 0)) (lI (if cb 1 = true then w 1 else 0)) μ = some (lI (mix cb w a)) := by
    unfold f_M_aimOf_J27
    rw [k1, bsome, s_tableOfM hw hm.2.2.2.2.2 h53 ht k2, bsome, rR_49_57 hw, bsome, aI_86 hw hb, bsome, hgv, show tbl c t (ky c p i b) = tab c p t i b from rfl, oI_l (by omega) (by omega), oI_l (by omega) (by omega)]
    simp only [lI_add]
    rw [← eW]
    simp only [lgc_eq, lI_toInt (z := mW cb w 4) (by omega) (by omega), show (0 : Int64).toInt = 0 by decide]
    unfold mix
    by_cases e : 0 < mW cb w 4
    · rw [if_neg (by omega), if_pos e, rL_49 hw, bsome, rL_49 hw, bsome, a0, a1, ← a2, ← a3]
      simp only [lI_mul, lI_add]
      rw [← eT, s_floor (by omega) e (by omega) (by omega), bsome]
    · rw [if_pos (by omega), if_neg e, a2]
  unfold f_M_aimOf f_M_aimOf_J12
  rw [kO_49 hw, bsome, rI_49 hw, bsome, c0, rI_49 hw, bsome, c1, ← fin]
  cases cb 0 <;> cases cb 1 <;> rfl
