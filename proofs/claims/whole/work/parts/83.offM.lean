/-! LAYER 2: how far off, how foul, in the reference -/
theorem s_offOf {c : CT} {p : PT} {μ : MM} (hw : Wf μ) (hc : WC c) (hm : MG c μ) (hp' : WP p) (hmp : MP p μ) {t : Nat} (h53 : gI μ 49 53 = nI t) (ht2 : t < 12) {pit : Nat → Int} (hpit : MPit c p pit μ) {b : Nat} (hb : b < 24) (hh : 0 < hmn c p b) : f_M_offOf 49 (nI b) μ = some (lI (off c p t pit b)) := by
  have h8 := hc.1
  have hmb := hmn_b hc p b
  have bS := ofS_b hc hp' (t := t) hpit.b hb (Nat.le_refl (cN c))
  unfold f_M_offOf
  rw [kO_49 hw, bsome]
  refine upA (cN c) (fun n i => f_M_offOf_L5 49 (nI b) μ n (lI (fsum (ofw c p t pit b) i)) (nI i)) _ (fun n => ?_) (fun n i hi => ?_) 0 FU (by omega) (by unfold FU; omega)
  · show f_M_offOf_L5 49 (nI b) μ (n + 1) _ (nI (cN c)) = _
    rw [e_M_offOf_L5, rI_49 hw, bsome, hm.1, if_pos (show nI (cN c) ≤ nI (cN c) by rw [cle (by omega) (by omega)]; omega), s_singing hw hc hm.1 (MG_v hm) hmp.1, bsome, oI_nI, oI_l (by omega) (by omega), s_floor (by omega) (by omega) (by omega) (by omega), bsome]
    rfl
  · show f_M_offOf_L5 49 (nI b) μ (n + 1) _ (nI i) = f_M_offOf_L5 49 (nI b) μ n (lI (fsum (ofw c p t pit b) i + ofw c p t pit b i)) (nI (i + 1))
    rw [e_M_offOf_L5, rI_49 hw, bsome, hm.1, if_neg (show ¬ nI (cN c) ≤ nI i by rw [cle (by omega) (by omega)]; omega), s_singsM hw hc (MG_v hm) hmp.1 hi, bsome]
    unfold ofw f_M_offOf_J54
    rw [nI_1]
    cases e : sg c p i b with
    | false =>
      rw [show snd (pkey p) (nI (cV c i)) (nI b) = false from e, if_pos (by decide), if_neg (by decide), show (0 : Int64) = lI 0 from rfl, lI_add]
    | true =>
      obtain ⟨k1, k2⟩ := s_keyOf hw hc (MG_v hm) hp' hmp.1 hi hb e
      obtain ⟨y1, y2⟩ := hpit i b hi hb e
      have tb := tab_b hc hp' (t := t) hi hb e
      unfold PB at y2
      rw [show snd (pkey p) (nI (cV c i)) (nI b) = true from e, if_neg (by decide), rR_49_54 hw, bsome, cellN', aI_83 hw (by omega), bsome, k1, bsome, s_tableOfM hw hm.2.2.2.2.2 h53 ht2 k2, bsome, y1, show tbl c t (ky c p i b) = tab c p t i b from rfl, oI_sub, oI_l (by omega) (by omega), lI_add, if_pos rfl]
theorem s_foulOf {c : CT} {p : PT} {μ : MM} (hw : Wf μ) (hc : WC c) (hm : MG c μ) (hp' : WP p) (hmp : MP p μ) {pit : Nat → Int} (hpit : MPit c p pit μ) {b : Nat} (hb : b < 24) : f_M_foulOf 49 (nI b) μ = some (lI (fou c p pit b)) := by
  have h8 := hc.1
  unfold f_M_foulOf
  rw [kO_49 hw, bsome]
  refine upA (cN c) (fun n v => f_M_foulOf_L5 49 (nI b) μ n (lI (fsum (fun x => fsum (fow c p pit b x) x) v)) (nI v)) _ (fun n => ?_) (fun n v hv => ?_) 0 FU (by omega) (by unfold FU; omega)
  · show f_M_foulOf_L5 49 (nI b) μ (n + 1) _ (nI (cN c)) = _
    rw [e_M_foulOf_L5, rI_49 hw, bsome, hm.1, if_pos (show nI (cN c) ≤ nI (cN c) by rw [cle (by omega) (by omega)]; omega)]; rfl
  · show f_M_foulOf_L5 49 (nI b) μ (n + 1) _ (nI v) = f_M_foulOf_L5 49 (nI b) μ n (lI (fsum (fun x => fsum (fow c p pit b x) x) v + fsum (fow c p pit b v) v)) (nI (v + 1))
    rw [e_M_foulOf_L5, rI_49 hw, bsome, hm.1, if_neg (show ¬ nI (cN c) ≤ nI v by rw [cle (by omega) (by omega)]; omega)]
    refine upA v (fun n2 w => f_M_foulOf_L17 (f_M_foulOf_L5 49 (nI b) μ n) 49 (nI b) (nI v) μ n2 (lI (fsum (fun x => fsum (fow c p pit b x) x) v + fsum (fow c p pit b v) w)) (nI w)) _ (fun n2 => ?_) (fun n2 w hw2 => ?_) 0 FU (by omega) (by unfold FU; omega) |> fun h => by
      have h : f_M_foulOf_L17 (f_M_foulOf_L5 49 (nI b) μ n) 49 (nI b) (nI v) μ FU (lI (fsum (fun x => fsum (fow c p pit b x) x) v + 0)) (nI 0) = _ := h
      rw [Int.add_zero] at h
      exact h
    · show f_M_foulOf_L17 (f_M_foulOf_L5 49 (nI b) μ n) 49 (nI b) (nI v) μ (n2 + 1) _ (nI v) = _
      rw [e_M_foulOf_L17, if_pos (show nI v ≤ nI v by rw [cle (by omega) (by omega)]; omega), nI_1]
    · show f_M_foulOf_L17 (f_M_foulOf_L5 49 (nI b) μ n) 49 (nI b) (nI v) μ (n2 + 1) _ (nI w) = f_M_foulOf_L17 (f_M_foulOf_L5 49 (nI b) μ n) 49 (nI b) (nI v) μ n2 (lI (fsum (fun x => fsum (fow c p pit b x) x) v + (fsum (fow c p pit b v) w + fow c p pit b v w))) (nI (w + 1))
      have hwc : w < cN c := by omega
      rw [e_M_foulOf_L17, if_neg (show ¬ nI v ≤ nI w by rw [cle (by omega) (by omega)]; omega), s_singsM hw hc (MG_v hm) hmp.1 hv, bsome, nI_1]
      unfold fow
      cases e1 : sg c p v b with
      | false =>
        rw [show snd (pkey p) (nI (cV c v)) (nI b) = false from e1, if_pos (by decide), if_neg (fun q => by cases q.1), Int.add_zero]
      | true =>
        rw [show snd (pkey p) (nI (cV c v)) (nI b) = true from e1, if_neg (by decide), s_singsM hw hc (MG_v hm) hmp.1 hwc, bsome]
        cases e2 : sg c p w b with
        | false =>
          rw [show snd (pkey p) (nI (cV c w)) (nI b) = false from e2, if_pos (by decide), if_neg (fun q => by cases q.2), Int.add_zero]
        | true =>
          obtain ⟨y1, b1⟩ := hpit v b hv hb e1
          obtain ⟨y2, b2⟩ := hpit w b hwc hb e2
          have b3 := mz_b hc hp' hv hb e1
          have b4 := mz_b hc hp' hwc hb e2
          unfold PB at b1 b2
          rw [show snd (pkey p) (nI (cV c w)) (nI b) = true from e2, if_neg (by decide), rR_49_54 hw, bsome, cellN', aI_83 hw (by omega), bsome, bsome, cellN', aI_83 hw (by omega), bsome, y1, y2, s_sizeFor hw hc (MG_v hm) hmp hv hb e1, bsome, s_sizeFor hw hc (MG_v hm) hmp hwc hb e2, bsome, oI_sub, oI_l (by omega) (by omega), oI_l (by omega) (by omega), oI_l (by omega) (by omega), lI_sub, lI_sub, s_plain (by omega) (by omega), bsome, lI_add, if_pos ⟨rfl, rfl⟩, Int.add_assoc]
theorem s_allFoul {c : CT} {p : PT} {μ : MM} (hw : Wf μ) (hc : WC c) (hm : MG c μ) (hp' : WP p) (hmp : MP p μ) {pit : Nat → Int} (hpit : MPit c p pit μ) : f_M_allFoul 49 μ = some (lI (foA c p pit)) := by
  unfold f_M_allFoul
  rw [kO_49 hw, bsome]
  refine upA 24 (fun n b => f_M_allFoul_L4 49 μ n (lI (fsum (fou c p pit) b)) (nI b)) _ (fun n => ?_) (fun n b hb => ?_) 0 FU (by decide) (by decide)
  · show f_M_allFoul_L4 49 μ (n + 1) _ (nI 24) = _
    rw [e_M_allFoul_L4, if_pos (by decide)]; rfl
  · show f_M_allFoul_L4 49 μ (n + 1) _ (nI b) = f_M_allFoul_L4 49 μ n (lI (fsum (fou c p pit) b + fou c p pit b)) (nI (b + 1))
    rw [e_M_allFoul_L4, if_neg (show ¬ (24 : Int32) ≤ nI b from nI_ge (b := 24) (by omega) (by omega)), s_foulOf hw hc hm hp' hmp hpit hb, bsome, lI_add, nI_1]
theorem s_sunkNow {c : CT} {p : PT} {μ : MM} (hw : Wf μ) (hc : WC c) (hm : MG c μ) (hp' : WP p) (hmp : MP p μ) {t : Nat} (h53 : gI μ 49 53 = nI t) (ht2 : t < 12) {pit : Nat → Int} (hpit : MPit c p pit μ) (hf : ¬ fbt c p = -1) : f_M_sunkNow 49 μ = some (lI (snk c p t pit)) := by
  obtain ⟨f, l, f1, l1, f2, l2, f3, l3, -⟩ := fbt_in hf
  unfold f_M_sunkNow snk
  rw [kO_49 hw, bsome, s_lastSung hw hc hm.1 (MG_v hm) hmp.1, bsome, l2, s_offOf hw hc hm hp' hmp h53 ht2 hpit l1 l3, bsome, s_firstSung hw hc hm.1 (MG_v hm) hmp.1, bsome, f2, s_offOf hw hc hm hp' hmp h53 ht2 hpit f1 f3, bsome, lI_sub, nI_toInt (by omega), nI_toInt (by omega), Int.toNat_natCast, Int.toNat_natCast]
theorem s_sungMany {c : CT} {p : PT} {μ : MM} (hw : Wf μ) (hc : WC c) (hm : MG c μ) (hmp : gI μ 51 = pkey p) : f_M_sungMany 49 μ = some (nI (hms c p)) := by
  have h8 := hc.1
  unfold f_M_sungMany
  rw [kO_49 hw, bsome]
  refine upA (cN c) (fun n i => f_M_sungMany_L4 49 μ n (nI (cnt (fun i => decide (¬ lnt c p i 24 = -1)) i)) (nI i)) _ (fun n => ?_) (fun n i hi => ?_) 0 FU (by omega) (by unfold FU; omega)
  · show f_M_sungMany_L4 49 μ (n + 1) _ (nI (cN c)) = _
    rw [e_M_sungMany_L4, rI_49 hw, bsome, hm.1, if_pos (show nI (cN c) ≤ nI (cN c) by rw [cle (by omega) (by omega)]; omega)]; rfl
  · show f_M_sungMany_L4 49 μ (n + 1) (nI (cnt (fun i => decide (¬ lnt c p i 24 = -1)) i)) (nI i) = f_M_sungMany_L4 49 μ n _ (nI (i + 1))
    rw [e_M_sungMany_L4, rI_49 hw, bsome, hm.1, if_neg (show ¬ nI (cN c) ≤ nI i by rw [cle (by omega) (by omega)]; omega)]
    refine upA 24 (fun n2 k => f_M_sungMany_L17 (f_M_sungMany_L4 49 μ n) 49 (nI (cnt (fun i => decide (¬ lnt c p i 24 = -1)) i)) (nI i) μ n2 (bi (decide (¬ lnt c p i k = -1))) (nI k)) _ (fun n2 => ?_) (fun n2 k hk => ?_) 0 FU (by decide) (by decide)
    · show f_M_sungMany_L17 (f_M_sungMany_L4 49 μ n) 49 (nI (cnt (fun i => decide (¬ lnt c p i 24 = -1)) i)) (nI i) μ (n2 + 1) (bi (decide (¬ lnt c p i 24 = -1))) (nI 24) = _
      rw [e_M_sungMany_L17, if_pos (by decide), nI_1, nI_1, show (0 : Int32) = nI 0 from rfl, nI_add]
      by_cases e : lnt c p i 24 = -1
      · rw [cnt_f (f := fun i => decide (¬ lnt c p i 24 = -1)) (decide_eq_false (fun z => z e)), decide_eq_false (fun z => z e), if_pos (by decide)]
      · rw [cnt_t (f := fun i => decide (¬ lnt c p i 24 = -1)) (decide_eq_true e), decide_eq_true e, if_neg (by decide)]
    · show f_M_sungMany_L17 (f_M_sungMany_L4 49 μ n) 49 (nI (cnt (fun i => decide (¬ lnt c p i 24 = -1)) i)) (nI i) μ (n2 + 1) (bi (decide (¬ lnt c p i k = -1))) (nI k) = f_M_sungMany_L17 (f_M_sungMany_L4 49 μ n) 49 (nI (cnt (fun i => decide (¬ lnt c p i 24 = -1)) i)) (nI i) μ n2 (bi (decide (¬ lnt c p i (k + 1) = -1))) (nI (k + 1))
      rw [e_M_sungMany_L17, if_neg (show ¬ (24 : Int32) ≤ nI k from nI_ge (b := 24) (by omega) (by omega)), s_singsM hw hc (MG_v hm) hmp hi, bsome, lnt_s, nI_1]
      by_cases e : lnt c p i k = -1
      · rw [decide_eq_false (fun z => z e), if_pos (by decide)]
        cases e2 : sg c p i k with
        | false => rw [show snd (pkey p) (nI (cV c i)) (nI k) = false from e2, if_pos (by decide), if_neg (by decide), decide_eq_false (fun z => z e)]; rfl
        | true => rw [show snd (pkey p) (nI (cV c i)) (nI k) = true from e2, if_neg (by decide), if_pos rfl, decide_eq_true (nI_ne_m1 (by omega))]; rfl
      · rw [decide_eq_true e, if_neg (by decide)]
        have : ¬ (if sg c p i k = true then nI k else lnt c p i k) = -1 := by
          split
          · exact nI_ne_m1 (by omega)
          · exact e
        rw [decide_eq_true this]; rfl
/-! the drift's bound -/
theorem sal_d {tw : (Nat → Int32) → Nat → Int} (ht : TWB tw) {c : CT} (hc : WC c) {p : PT} {t g : Nat} {pl : Nat → Nat} {nb : Bool} : ∀ b : Nat, b ≤ 24 → -(160000 * (b : Int)) ≤ (sal tw c p t g pl nb b).2.2.2 ∧ (sal tw c p t g pl nb b).2.2.2 ≤ 160000 * b
  | 0, _ => by show _ ≤ (0 : Int) ∧ (0 : Int) ≤ _; omega
  | b + 1, hb => by
    have h8 := hc.1
    have ih := sal_d ht hc (p := p) (t := t) (g := g) (pl := pl) (nb := nb) b (by omega)
    have e0 : (gvs c p t g b (sal tw c p t g pl nb b)).2.2.2 = (sal tw c p t g pl nb b).2.2.2 := by unfold gvs; split <;> rfl
    have st : ∀ n, n ≤ cN c → -(160000 * (b : Int) + 20000 * n) ≤ (snb tw c p t g pl nb b (gvs c p t g b (sal tw c p t g pl nb b)) n).2.2.2 ∧ (snb tw c p t g pl nb b (gvs c p t g b (sal tw c p t g pl nb b)) n).2.2.2 ≤ 160000 * (b : Int) + 20000 * n := fun n => by
      induction n with
      | zero =>
        intro _
        show _ ≤ (gvs c p t g b (sal tw c p t g pl nb b)).2.2.2 ∧ (gvs c p t g b (sal tw c p t g pl nb b)).2.2.2 ≤ _
        rw [e0]; omega
      | succ n ih =>
        intro hn
        have ih := ih (by omega)
        show _ ≤ (sn1 tw c p t g pl nb b n (snb tw c p t g pl nb b (gvs c p t g b (sal tw c p t g pl nb b)) n)).2.2.2 ∧ (sn1 tw c p t g pl nb b n (snb tw c p t g pl nb b (gvs c p t g b (sal tw c p t g pl nb b)) n)).2.2.2 ≤ _
        generalize snb tw c p t g pl nb b (gvs c p t g b (sal tw c p t g pl nb b)) n = s at ih
        unfold sn1
        split
        · have := TWB.d ht (ltr c p t (knw c nb n) n b (lnt c p n b) (s.2.1 n) (hmn c p b) (lk' s.2.2.1))
          show _ ≤ s.2.2.2 + drf tw c p t (knw c nb n) n b (lnt c p n b) (s.2.1 n) (lk' s.2.2.1) ∧ s.2.2.2 + drf tw c p t (knw c nb n) n b (lnt c p n b) (s.2.1 n) (lk' s.2.2.1) ≤ _
          unfold drf
          omega
        · omega
    have := st (cN c) (Nat.le_refl _)
    show _ ≤ (snb tw c p t g pl nb b (gvs c p t g b (sal tw c p t g pl nb b)) (cN c)).2.2.2 ∧ (snb tw c p t g pl nb b (gvs c p t g b (sal tw c p t g pl nb b)) (cN c)).2.2.2 ≤ _
    omega
theorem XS_pit {tw : (Nat → Int32) → Nat → Int} (ht : TWB tw) {c : CT} (hc : WC c) {p : PT} (hp' : WP p) {t g : Nat} {pl : Nat → Nat} {nb : Bool} {μ : MM} (h : XS c p 24 0 (sal tw c p t g pl nb 24) μ) : XPit c p (sal tw c p t g pl nb 24).1 μ := fun j b hj hb hs => by
  have := (sal_b ht hc hp' (t := t) (g := g) (pl := pl) (nb := nb) 24 (Nat.le_refl _)).1 (24 * j + b)
  exact ⟨h.1 j b hj hs (Or.inl hb) hb, by unfold PB; omega⟩
theorem MS_pit {tw : (Nat → Int32) → Nat → Int} (ht : TWB tw) {c : CT} (hc : WC c) {p : PT} (hp' : WP p) {t g : Nat} {pl : Nat → Nat} {nb : Bool} {μ : MM} (h : MS c p 24 0 (sal tw c p t g pl nb 24) μ) : MPit c p (sal tw c p t g pl nb 24).1 μ := fun j b hj hb hs => by
  have := (sal_b ht hc hp' (t := t) (g := g) (pl := pl) (nb := nb) 24 (Nat.le_refl _)).1 (24 * j + b)
  exact ⟨h.1 j b hj hs (Or.inl hb) hb, by unfold PB; omega⟩
