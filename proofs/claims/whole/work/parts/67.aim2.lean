/-! LAYER 2: the aims of a note, in the class: heard ones -/
theorem heard_e {c : CT} (hc : WC c) {pl : Nat → Nat} (hpl : ∀ j, j < cN c → pl j < 16) {i j : Nat} (hi : i < cN c) (hj : j < cN c) : f_Ch_heard (nI (cL c j)) (nI (pl i)) (nI (pl j)) = some (oI (hrw c pl i j)) := by
  have := (hc.2.1 j hj).2.2.1
  rw [heard_t _ (by omega) _ (hpl i hi) _ (hpl j hj), oI_nI]; rfl
theorem s_aim {c : CT} {p : PT} {μ : MM} (hw : Wf μ) (hc : WC c) (hx : XG c μ) (hp' : WP p) (hxc : XC p μ) {t g : Nat} {nb : Bool} (ht : gI μ 24 10 = nI t) (ht2 : t < 12) (hg : gI μ 24 9 = nI g) (hg2 : g < 16777216) (hn : gI μ 24 11 = bi nb) {i b : Nat} (hi : i < cN c) (hb : b < 24) (h : sg c p i b = true) {last : Int32} (hl : lst c p i b last) (lp : Int)
    {q : Nat} (hq : gR μ 24 8 = some q) (hq2 : μ.1[q]? = some (1, 8)) {pl : Nat → Nat} (hpl : ∀ j, j < cN c → pl j < 16) (hpq : ∀ j, j < cN c → gI μ q j = nI (pl j)) {pit : Nat → Int} (hpit : ∀ j, j < i → sg c p j b = true → gL μ 25 (24 * j + b) = lI (pit (24 * j + b)) ∧ -PB ≤ pit (24 * j + b) ∧ pit (24 * j + b) ≤ PB) :
    ∃ μ', f_Si_aim 24 (nI i) (nI b) last (lI lp) μ = some μ' ∧ Sm Pai μ μ' ∧ (gI μ' 30 0 = bi (decide (0 < ears c p pl i b i)) ∧ gI μ' 30 1 = bi (decide (¬ last = -1)) ∧ gI μ' 30 2 = 1 ∧ gI μ' 30 3 = bi (knw c nb i)) ∧ gL μ' 29 0 = lI (oth c p pl pit i b) ∧ gL μ' 29 1 = lI (own c p i b last lp) ∧ gL μ' 29 2 = lI (tab c p t i b + gvn c g b) ∧ gL μ' 29 3 = lI (tab c p t i b) := by
  have h8 := hc.1
  have eb := ears_b hc p (pl := pl) (i := i) (b := b) (k := i) (by omega)
  have hbd := herd_b hc hp' (pl := pl) (pit := pit) hi hb h (fun j hj hs => (hpit j hj hs).2) (k := i) (Nat.le_refl _)
  obtain ⟨m1, h1⟩ : ∃ x, x = sI μ 30 0 (bi (decide (0 < ears c p pl i b i))) := ⟨_, rfl⟩
  obtain ⟨m2, h2⟩ : ∃ x, x = sL m1 29 0 (lI (oth c p pl pit i b)) := ⟨_, rfl⟩
  have s1 : Sm Pai μ m1 := by rw [h1]; exact Sm.sI rfl
  have s2 : Sm Pai μ m2 := by rw [h2]; exact s1.tr (Sm.sL rfl)
  have w1 := s1.wf hw
  have w2 := s2.wf hw
  have g24 := s2.gI 24 (fun _ => rfl)
  obtain ⟨μ', r1, r2, r3, r4⟩ := s_aim2 w2 hc (hx.sm s2 Pai_Pcf) hp' (hxc.sm s2 (fun _ => rfl) (fun _ => rfl) (fun _ => rfl) (fun _ => rfl)) (t := t) (g := g) (nb := nb) (by rw [g24]; exact ht) ht2 (by rw [g24]; exact hg) hg2 (by rw [g24]; exact hn) hi hb h hl lp (decide (¬ last = -1))
  refine ⟨μ', ?_, s2.tr r2, ⟨?_, ?_, ?_, ?_⟩, ?_, ?_, ?_, ?_⟩
  · have c147 : f_Si_aim_J147 24 (nI i) (nI b) last (lI lp) 29 0 (lI (oth c p pl pit i b)) m1 = some μ' := by
      unfold f_Si_aim_J147
      rw [show uL m1 29 0 (lI (oth c p pl pit i b)) = some m2 by rw [h2]; exact uL_29 w1 (k := 0) (by decide), bsome, rR_24_7 w2, bsome, ← r1]
      by_cases e : last = -1
      · rw [if_pos e, decide_eq_false (fun z => z e)]; rfl
      · rw [if_neg e, decide_eq_true e]; rfl
    have c123 : f_Si_aim_J123 24 (nI i) (nI b) last (lI lp) (lI (ears c p pl i b i)) (lI (herd c p pl pit i b i)) 30 0 (bi (decide (0 < ears c p pl i b i))) μ = some μ' := by
      unfold f_Si_aim_J123
      rw [show uB μ 30 0 (bi (decide (0 < ears c p pl i b i))) = some m1 by rw [h1]; exact uB_30 hw (k := 0) (by decide) (bi_01 _), bsome, rR_24_6 w1, bsome]
      simp only [lgc_le, lI_toInt (z := ears c p pl i b i) (by omega) (by omega), show (0 : Int64).toInt = 0 by decide]
      rw [← c147]
      unfold oth
      by_cases e : 0 < ears c p pl i b i
      · rw [if_neg (by omega), if_pos e, s_floorDiv (by omega) e (by omega), bsome]
      · rw [if_pos (by omega), if_neg e]; rfl
    unfold f_Si_aim
    rw [kO_24 hw, bsome]
    refine upA i (fun n j => f_Si_aim_L9 24 (nI i) (nI b) last (lI lp) μ n (lI (ears c p pl i b j)) (lI (herd c p pl pit i b j)) (nI j)) _ (fun n => ?_) (fun n j hj => ?_) 0 FU (by omega) (by unfold FU; omega)
    · show f_Si_aim_L9 24 (nI i) (nI b) last (lI lp) μ (n + 1) _ _ (nI i) = _
      rw [e_Si_aim_L9, if_pos (show nI i ≤ nI i by rw [cle (by omega) (by omega)]; omega), rR_24_7 hw, bsome, ← c123]
      simp only [lgc_le, lI_toInt (z := ears c p pl i b i) (by omega) (by omega), show (0 : Int64).toInt = 0 by decide]
      by_cases e : 0 < ears c p pl i b i
      · rw [if_neg (by omega), decide_eq_true e]; rfl
      · rw [if_pos (by omega), decide_eq_false e]; rfl
    · show f_Si_aim_L9 24 (nI i) (nI b) last (lI lp) μ (n + 1) _ _ (nI j) = f_Si_aim_L9 24 (nI i) (nI b) last (lI lp) μ n (lI (ears c p pl i b j + if sg c p j b = true then hrw c pl i j else 0)) (lI (herd c p pl pit i b j + if sg c p j b = true then hrw c pl i j * (pit (24 * j + b) + mz c p i b - mz c p j b) else 0)) (nI (j + 1))
      have hjc : j < cN c := by omega
      rw [e_Si_aim_L9, if_neg (show ¬ nI i ≤ nI j by rw [cle (by omega) (by omega)]; omega), rR_24_1 hw, bsome, s_sings hw hc hx hxc hjc, bsome, nI_1]
      cases e : sg c p j b with
      | false =>
        rw [show snd (pkey p) (nI (cV c j)) (nI b) = false from e, if_pos (by decide), if_neg (by decide), if_neg (by decide), Int.add_zero, Int.add_zero]
      | true =>
        have hr := hrw_b hc (pl := pl) (i := i) hjc
        rw [show snd (pkey p) (nI (cV c j)) (nI b) = true from e, if_neg (by decide), bsome, rR_9_3 hw, bsome, aI_12 hw (by omega), bsome, rR_24 hw, hq, bsome, aI_ok hq2 (show i < 8 by omega) (by decide), bsome, bsome, aI_ok hq2 (show j < 8 by omega) (by decide), bsome, hpq i hi, hpq j hjc, (hx.2.2.2.2.1 j hjc).2.2.1, heard_e hc hpl hi hjc, bsome, rR_24_2 hw, bsome, cellN, aL_25 hw (by omega), bsome, s_millsOf hw hc hx hp' hxc hi hb h, bsome, s_millsOf hw hc hx hp' hxc hjc hb e, bsome, (hpit j hj e).1, oI_l (by omega) (by omega), lI_add, lI_add, lI_sub, lI_mul, lI_add, if_pos rfl, if_pos rfl]
  · rw [r3, h2, gI_sL, h1, gI_sI]; rfl
  · rw [r3]; rfl
  · rw [r3]; rfl
  · rw [r3]; rfl
  · rw [r4, h2, gL_sL]; rfl
  · rw [r4]; rfl
  · rw [r4]; rfl
  · rw [r4]; rfl
