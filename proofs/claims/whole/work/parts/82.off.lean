/-! LAYER 2: how far off, how foul -/
theorem s_absJ {z : Int} (h1 : -9223372036854775808 < z) (h2 : z < 9223372036854775808) : f_Mt_abs_J (lI z) = some (lI (iabs z)) := by
  unfold f_Mt_abs_J iabs
  simp only [lgc_ge, lgc_lt, lI_toInt (z := z) (by omega) h2, show (0 : Int64).toInt = 0 by decide]
  by_cases h : 0 ≤ z
  · simp only [if_pos h, if_neg (show ¬ z < 0 by omega)]
  · simp only [if_neg h, if_pos (show z < 0 by omega), lI_neg]
def XPit (c : CT) (p : PT) (pit : Nat → Int) (μ : MM) : Prop := ∀ j b, j < cN c → b < 24 → sg c p j b = true → gL μ 25 (24 * j + b) = lI (pit (24 * j + b)) ∧ -PB ≤ pit (24 * j + b) ∧ pit (24 * j + b) ≤ PB
def MPit (c : CT) (p : PT) (pit : Nat → Int) (μ : MM) : Prop := ∀ j b, j < cN c → b < 24 → sg c p j b = true → gI μ 83 (24 * j + b) = oI (pit (24 * j + b)) ∧ -PB ≤ pit (24 * j + b) ∧ pit (24 * j + b) ≤ PB
def ofw (c : CT) (p : PT) (t : Nat) (pit : Nat → Int) (b i : Nat) : Int := if sg c p i b = true then pit (24 * i + b) - tab c p t i b else 0
def off (c : CT) (p : PT) (t : Nat) (pit : Nat → Int) (b : Nat) : Int := fsum (ofw c p t pit b) (cN c) / (hmn c p b : Int)
def fow (c : CT) (p : PT) (pit : Nat → Int) (b x y : Nat) : Int := if sg c p x b = true ∧ sg c p y b = true then iabs (pit (24 * x + b) - pit (24 * y + b) - (mz c p x b - mz c p y b)) else 0
def fou (c : CT) (p : PT) (pit : Nat → Int) (b : Nat) : Int := fsum (fun x => fsum (fow c p pit b x) x) (cN c)
def foA (c : CT) (p : PT) (pit : Nat → Int) : Int := fsum (fou c p pit) 24
def snk (c : CT) (p : PT) (t : Nat) (pit : Nat → Int) : Int := off c p t pit (lbg c p).toInt.toNat - off c p t pit (fbt c p).toInt.toNat
/-- the pitches that are sung lie within bounds -/
def PBd (c : CT) (p : PT) (pit : Nat → Int) : Prop := ∀ j b, j < cN c → b < 24 → sg c p j b = true → -PB ≤ pit (24 * j + b) ∧ pit (24 * j + b) ≤ PB
theorem XPit.b {c : CT} {p : PT} {pit : Nat → Int} {μ : MM} (h : XPit c p pit μ) : PBd c p pit := fun j b hj hb hs => (h j b hj hb hs).2
theorem MPit.b {c : CT} {p : PT} {pit : Nat → Int} {μ : MM} (h : MPit c p pit μ) : PBd c p pit := fun j b hj hb hs => (h j b hj hb hs).2
theorem ofw_b {c : CT} (hc : WC c) {p : PT} (hp' : WP p) {t : Nat} {pit : Nat → Int} (h : PBd c p pit) {b i : Nat} (hb : b < 24) (hi : i < cN c) : -1210000000 ≤ ofw c p t pit b i ∧ ofw c p t pit b i ≤ 1210000000 := by
  unfold ofw
  split
  · rename_i e
    have h1 := h i b hi hb e
    have h2 := tab_b hc hp' (t := t) hi hb e
    unfold PB at h1
    omega
  · omega
theorem ofS_b {c : CT} (hc : WC c) {p : PT} (hp' : WP p) {t : Nat} {pit : Nat → Int} (h : PBd c p pit) {b : Nat} (hb : b < 24) {n : Nat} (hn : n ≤ cN c) : -10000000000 ≤ fsum (ofw c p t pit b) n ∧ fsum (ofw c p t pit b) n ≤ 10000000000 := by
  have h8 := hc.1
  have := fsum_b (f := ofw c p t pit b) (lo := -1210000000) (hi := 1210000000) n (fun i hi => ofw_b hc hp' h hb (by omega))
  omega
theorem off_b {c : CT} (hc : WC c) {p : PT} (hp' : WP p) {t : Nat} {pit : Nat → Int} (h : PBd c p pit) {b : Nat} (hb : b < 24) : -10000000000 ≤ off c p t pit b ∧ off c p t pit b ≤ 10000000000 := by
  have h1 := ofS_b hc hp' (t := t) h hb (Nat.le_refl (cN c))
  unfold off
  by_cases e : hmn c p b = 0
  · rw [e]
    have : fsum (ofw c p t pit b) (cN c) / ((0 : Nat) : Int) = 0 := Int.ediv_zero _
    omega
  · exact wav_b (by omega) (by omega) (by omega)
theorem fow_b {c : CT} (hc : WC c) {p : PT} (hp' : WP p) {pit : Nat → Int} (h : PBd c p pit) {b x y : Nat} (hb : b < 24) (hx : x < cN c) (hy : y < cN c) : 0 ≤ fow c p pit b x y ∧ fow c p pit b x y ≤ 3000000000 := by
  unfold fow
  split
  · rename_i e
    have h1 := h x b hx hb e.1
    have h2 := h y b hy hb e.2
    have h3 := mz_b hc hp' hx hb e.1
    have h4 := mz_b hc hp' hy hb e.2
    unfold PB at h1 h2
    exact iabs_b (by omega)
  · omega
theorem fox_b {c : CT} (hc : WC c) {p : PT} (hp' : WP p) {pit : Nat → Int} (h : PBd c p pit) {b x : Nat} (hb : b < 24) (hx : x < cN c) {n : Nat} (hn : n ≤ x) : 0 ≤ fsum (fow c p pit b x) n ∧ fsum (fow c p pit b x) n ≤ 24000000000 := by
  have h8 := hc.1
  have := fsum_b (f := fow c p pit b x) (lo := 0) (hi := 3000000000) n (fun y hy => fow_b hc hp' h hb hx (by omega))
  omega
theorem fou_b {c : CT} (hc : WC c) {p : PT} (hp' : WP p) {pit : Nat → Int} (h : PBd c p pit) {b : Nat} (hb : b < 24) : 0 ≤ fou c p pit b ∧ fou c p pit b ≤ 192000000000 := by
  have h8 := hc.1
  have := fsum_b (f := fun x => fsum (fow c p pit b x) x) (lo := 0) (hi := 24000000000) (cN c) (fun x hx => fox_b hc hp' h hb hx (Nat.le_refl _))
  unfold fou; omega
theorem foA_b {c : CT} (hc : WC c) {p : PT} (hp' : WP p) {pit : Nat → Int} (h : PBd c p pit) : 0 ≤ foA c p pit ∧ foA c p pit ≤ 4608000000000 := by
  have := fsum_b (f := fou c p pit) (lo := 0) (hi := 192000000000) 24 (fun b hb => fou_b hc hp' h hb)
  unfold foA; omega
theorem s_sung {c : CT} {p : PT} {μ : MM} (hw : Wf μ) (hc : WC c) (hx : XG c μ) (hxc : XC p μ) {pit : Nat → Int} (hpit : XPit c p pit μ) {i b : Nat} (hi : i < cN c) (hb : b < 24) (h : sg c p i b = true) : f_Si_sung 24 (nI i) (nI b) μ = some (lI (pit (24 * i + b))) := by
  have h8 := hc.1
  unfold f_Si_sung
  rw [kO_24 hw, bsome, rR_24_1 hw, bsome, s_sings hw hc hx hxc hi, show snd (pkey p) (nI (cV c i)) (nI b) = true from h, bsome, if_neg (by decide), rR_24_2 hw, bsome, cellN, aL_25 hw (by omega), bsome, (hpit i b hi hb h).1]
theorem s_off {c : CT} {p : PT} {μ : MM} (hw : Wf μ) (hc : WC c) (hx : XG c μ) (hp' : WP p) (hxc : XC p μ) {t : Nat} (ht : gI μ 24 10 = nI t) (ht2 : t < 12) {pit : Nat → Int} (hpit : XPit c p pit μ) {b : Nat} (hb : b < 24) : f_Si_off 24 (nI b) μ = some (lI (off c p t pit b)) := by
  have h8 := hc.1
  have hm := hmn_b hc p b
  have bS := ofS_b hc hp' (t := t) hpit.b hb (Nat.le_refl (cN c))
  unfold f_Si_off
  rw [kO_24 hw, bsome]
  refine upA (cN c) (fun n i => f_Si_off_L8 24 (nI b) μ n (lI (fsum (ofw c p t pit b) i)) (lI (cnt (fun i => sg c p i b) i : Nat)) (nI i)) _ (fun n => ?_) (fun n i hi => ?_) 0 FU (by omega) (by unfold FU; omega)
  · show f_Si_off_L8 24 (nI b) μ (n + 1) _ (lI (hmn c p b : Nat)) (nI (cN c)) = _
    rw [e_Si_off_L8, rR_24_1 hw, bsome, rI_9 hw, bsome, hx.1, if_pos (show nI (cN c) ≤ nI (cN c) by rw [cle (by omega) (by omega)]; omega)]
    simp only [lgc_le, lI_toInt (z := (hmn c p b : Int)) (by omega) (by omega), show (0 : Int64).toInt = 0 by decide]
    unfold off
    by_cases e : hmn c p b = 0
    · rw [if_pos (by omega), e]
      have : fsum (ofw c p t pit b) (cN c) / ((0 : Nat) : Int) = 0 := Int.ediv_zero _
      rw [this]; rfl
    · rw [if_neg (by omega), s_floorDiv (by omega) (by omega) (by omega), bsome]
  · show f_Si_off_L8 24 (nI b) μ (n + 1) _ _ (nI i) = f_Si_off_L8 24 (nI b) μ n (lI (fsum (ofw c p t pit b) i + ofw c p t pit b i)) (lI (cnt (fun i => sg c p i b) (i + 1) : Nat)) (nI (i + 1))
    rw [e_Si_off_L8, rR_24_1 hw, bsome, rI_9 hw, bsome, hx.1, if_neg (show ¬ nI (cN c) ≤ nI i by rw [cle (by omega) (by omega)]; omega), bsome, s_sings hw hc hx hxc hi, bsome, nI_1]
    unfold ofw
    cases e : sg c p i b with
    | false =>
      rw [show snd (pkey p) (nI (cV c i)) (nI b) = false from e, if_pos (by decide), if_neg (by decide), Int.add_zero, cnt_f (f := fun i => sg c p i b) e]; rfl
    | true =>
      rw [show snd (pkey p) (nI (cV c i)) (nI b) = true from e, if_neg (by decide), s_sung hw hc hx hxc hpit hi hb e, bsome, s_SitableOf hw hc hx hp' hxc ht ht2 hi hb e, bsome, lI_sub, lI_add, if_pos rfl, cnt_t (f := fun i => sg c p i b) e, show (1 : Int64) = lI 1 from rfl, lI_add]
      rfl
theorem s_foul {c : CT} {p : PT} {μ : MM} (hw : Wf μ) (hc : WC c) (hx : XG c μ) (hp' : WP p) (hxc : XC p μ) {pit : Nat → Int} (hpit : XPit c p pit μ) {b : Nat} (hb : b < 24) : f_Si_foul 24 (nI b) μ = some (lI (fou c p pit b)) := by
  have h8 := hc.1
  unfold f_Si_foul
  rw [kO_24 hw, bsome]
  refine upA (cN c) (fun n v => f_Si_foul_L5 24 (nI b) μ n (lI (fsum (fun x => fsum (fow c p pit b x) x) v)) (nI v)) _ (fun n => ?_) (fun n v hv => ?_) 0 FU (by omega) (by unfold FU; omega)
  · show f_Si_foul_L5 24 (nI b) μ (n + 1) _ (nI (cN c)) = _
    rw [e_Si_foul_L5, rR_24_1 hw, bsome, rI_9 hw, bsome, hx.1, if_pos (show nI (cN c) ≤ nI (cN c) by rw [cle (by omega) (by omega)]; omega)]; rfl
  · show f_Si_foul_L5 24 (nI b) μ (n + 1) _ (nI v) = f_Si_foul_L5 24 (nI b) μ n (lI (fsum (fun x => fsum (fow c p pit b x) x) v + fsum (fow c p pit b v) v)) (nI (v + 1))
    rw [e_Si_foul_L5, rR_24_1 hw, bsome, rI_9 hw, bsome, hx.1, if_neg (show ¬ nI (cN c) ≤ nI v by rw [cle (by omega) (by omega)]; omega)]
    refine upA v (fun n2 w => f_Si_foul_L20 (f_Si_foul_L5 24 (nI b) μ n) 24 (nI b) (nI v) μ n2 (lI (fsum (fun x => fsum (fow c p pit b x) x) v + fsum (fow c p pit b v) w)) (nI w)) _ (fun n2 => ?_) (fun n2 w hw2 => ?_) 0 FU (by omega) (by unfold FU; omega) |> fun h => by
      have h : f_Si_foul_L20 (f_Si_foul_L5 24 (nI b) μ n) 24 (nI b) (nI v) μ FU (lI (fsum (fun x => fsum (fow c p pit b x) x) v + 0)) (nI 0) = _ := h
      rw [Int.add_zero] at h
      exact h
    · show f_Si_foul_L20 (f_Si_foul_L5 24 (nI b) μ n) 24 (nI b) (nI v) μ (n2 + 1) _ (nI v) = _
      rw [e_Si_foul_L20, if_pos (show nI v ≤ nI v by rw [cle (by omega) (by omega)]; omega), nI_1]
    · show f_Si_foul_L20 (f_Si_foul_L5 24 (nI b) μ n) 24 (nI b) (nI v) μ (n2 + 1) _ (nI w) = f_Si_foul_L20 (f_Si_foul_L5 24 (nI b) μ n) 24 (nI b) (nI v) μ n2 (lI (fsum (fun x => fsum (fow c p pit b x) x) v + (fsum (fow c p pit b v) w + fow c p pit b v w))) (nI (w + 1))
      have hwc : w < cN c := by omega
      rw [e_Si_foul_L20, if_neg (show ¬ nI v ≤ nI w by rw [cle (by omega) (by omega)]; omega), rR_24_1 hw, bsome, s_sings hw hc hx hxc hv, bsome, nI_1]
      unfold fow
      cases e1 : sg c p v b with
      | false =>
        rw [show snd (pkey p) (nI (cV c v)) (nI b) = false from e1, if_pos (by decide), if_neg (fun q => by cases q.1), Int.add_zero]
      | true =>
        rw [show snd (pkey p) (nI (cV c v)) (nI b) = true from e1, if_neg (by decide), bsome, s_sings hw hc hx hxc hwc, bsome]
        cases e2 : sg c p w b with
        | false =>
          rw [show snd (pkey p) (nI (cV c w)) (nI b) = false from e2, if_pos (by decide), if_neg (fun q => by cases q.2), Int.add_zero]
        | true =>
          have b1 := hpit.b v b hv hb e1
          have b2 := hpit.b w b hwc hb e2
          have b3 := mz_b hc hp' hv hb e1
          have b4 := mz_b hc hp' hwc hb e2
          unfold PB at b1 b2
          rw [show snd (pkey p) (nI (cV c w)) (nI b) = true from e2, if_neg (by decide), s_sung hw hc hx hxc hpit hv hb e1, bsome, s_sung hw hc hx hxc hpit hwc hb e2, bsome, s_millsOf hw hc hx hp' hxc hv hb e1, bsome, s_millsOf hw hc hx hp' hxc hwc hb e2, bsome, lI_sub, lI_sub, lI_sub, s_absJ (by omega) (by omega), bsome, lI_add, if_pos ⟨rfl, rfl⟩, Int.add_assoc]
theorem s_foulTogether {c : CT} {p : PT} {μ : MM} (hw : Wf μ) (hc : WC c) (hx : XG c μ) (hp' : WP p) (hxc : XC p μ) {pit : Nat → Int} (hpit : XPit c p pit μ) : f_Si_foulTogether 24 μ = some (lI (foA c p pit)) := by
  unfold f_Si_foulTogether
  rw [kO_24 hw, bsome]
  refine upA 24 (fun n b => f_Si_foulTogether_L4 24 μ n (lI (fsum (fou c p pit) b)) (nI b)) _ (fun n => ?_) (fun n b hb => ?_) 0 FU (by decide) (by decide)
  · show f_Si_foulTogether_L4 24 μ (n + 1) _ (nI 24) = _
    rw [e_Si_foulTogether_L4, if_pos (by decide)]; rfl
  · show f_Si_foulTogether_L4 24 μ (n + 1) _ (nI b) = f_Si_foulTogether_L4 24 μ n (lI (fsum (fou c p pit) b + fou c p pit b)) (nI (b + 1))
    rw [e_Si_foulTogether_L4, if_neg (show ¬ (24 : Int32) ≤ nI b from nI_ge (b := 24) (by omega) (by omega)), s_foul hw hc hx hp' hxc hpit hb, bsome, lI_add, nI_1]
/-- somebody sings: the first and the last beat -/
theorem fbt_in {c : CT} {p : PT} (h : ¬ fbt c p = -1) : ∃ f l, f < 24 ∧ l < 24 ∧ fbt c p = nI f ∧ lbg c p = nI l ∧ 0 < hmn c p f ∧ 0 < hmn c p l ∧ f ≤ l ∧ (∀ k, k < f → hmn c p k = 0) ∧ ∀ k, l < k → k < 24 → hmn c p k = 0 := by
  rcases fstb_c (f := fun b => decide (0 < hmn c p b)) 24 0 with ⟨h1, -⟩ | ⟨f, -, f1, f2, f3, f4⟩
  · exact absurd h1 h
  · have f3 : 0 < hmn c p f := of_decide_eq_true f3
    rcases lastb_c (f := fun b => decide (0 < hmn c p b)) 24 with ⟨g1, g2⟩ | ⟨l, g1, g2, g3, g4⟩
    · have := g2 f (by omega)
      exact absurd f3 (of_decide_eq_false this)
    · refine ⟨f, l, by omega, g1, f2, g2, f3, of_decide_eq_true g3, ?_, fun k hk => ?_, fun k h1 h2 => ?_⟩
      · rcases Nat.lt_or_ge l f with z | z
        · exact absurd f3 (of_decide_eq_false (g4 f z (by omega)))
        · exact z
      · have := of_decide_eq_false (f4 k (by omega) hk)
        omega
      · have := of_decide_eq_false (g4 k h1 h2)
        omega
theorem s_sinking {c : CT} {p : PT} {μ : MM} (hw : Wf μ) (hc : WC c) (hx : XG c μ) (hp' : WP p) (hxc : XC p μ) {t : Nat} (ht : gI μ 24 10 = nI t) (ht2 : t < 12) {pit : Nat → Int} (hpit : XPit c p pit μ) (hf : ¬ fbt c p = -1) : f_Si_sinking 24 μ = some (lI (snk c p t pit)) := by
  obtain ⟨f, l, f1, l1, f2, l2, -⟩ := fbt_in hf
  unfold f_Si_sinking snk
  rw [kO_24 hw, bsome, rR_24_1 hw, bsome, s_lastBeatC hw hc hx hxc, bsome, l2, s_off hw hc hx hp' hxc ht ht2 hpit l1, bsome, bsome, s_firstBeat hw hc hx hxc, bsome, f2, s_off hw hc hx hp' hxc ht ht2 hpit f1, bsome, lI_sub, nI_toInt (by omega), nI_toInt (by omega), Int.toNat_natCast, Int.toNat_natCast]
theorem snk_b {c : CT} (hc : WC c) {p : PT} (hp' : WP p) {t : Nat} {pit : Nat → Int} (h : PBd c p pit) (hf : ¬ fbt c p = -1) : -20000000000 ≤ snk c p t pit ∧ snk c p t pit ≤ 20000000000 := by
  obtain ⟨f, l, f1, l1, f2, l2, -⟩ := fbt_in hf
  have b1 := off_b hc hp' (t := t) h f1
  have b2 := off_b hc hp' (t := t) h l1
  unfold snk
  rw [f2, l2, nI_toInt (by omega), nI_toInt (by omega), Int.toNat_natCast, Int.toNat_natCast]
  omega
/-- how many sing at all -/
def hms (c : CT) (p : PT) : Nat := cnt (fun i => decide (¬ lnt c p i 24 = -1)) (cN c)
theorem s_howManySing {c : CT} {p : PT} {μ : MM} (hw : Wf μ) (hc : WC c) (hx : XG c μ) (hxc : XC p μ) : f_Ch_howManySing 9 μ = some (nI (hms c p)) := by
  have h8 := hc.1
  unfold f_Ch_howManySing
  rw [kO_9 hw, bsome]
  refine upA (cN c) (fun n i => f_Ch_howManySing_L4 9 μ n (nI (cnt (fun i => decide (¬ lnt c p i 24 = -1)) i)) (nI i)) _ (fun n => ?_) (fun n i hi => ?_) 0 FU (by omega) (by unfold FU; omega)
  · show f_Ch_howManySing_L4 9 μ (n + 1) _ (nI (cN c)) = _
    rw [e_Ch_howManySing_L4, rI_9 hw, bsome, hx.1, if_pos (show nI (cN c) ≤ nI (cN c) by rw [cle (by omega) (by omega)]; omega)]; rfl
  · show f_Ch_howManySing_L4 9 μ (n + 1) _ (nI i) = f_Ch_howManySing_L4 9 μ n _ (nI (i + 1))
    rw [e_Ch_howManySing_L4, rI_9 hw, bsome, hx.1, if_neg (show ¬ nI (cN c) ≤ nI i by rw [cle (by omega) (by omega)]; omega), show f_Ch_lastNote 9 (nI i) (24 : Int32) μ = _ from s_lastNote hw hc hx hxc hi (b := 24) (by decide), bsome, nI_1, show (0 : Int32) = nI 0 from rfl, nI_add, nI_1]
    by_cases e : lnt c p i 24 = -1
    · rw [if_pos e, cnt_f (f := fun i => decide (¬ lnt c p i 24 = -1)) (decide_eq_false (fun z => z e))]
    · rw [if_neg e, cnt_t (f := fun i => decide (¬ lnt c p i 24 = -1)) (decide_eq_true e)]
theorem hms_b {c : CT} (hc : WC c) (p : PT) : hms c p ≤ 8 := Nat.le_trans (cnt_b _ _) hc.1
theorem hms_p {c : CT} (hc : WC c) {p : PT} (h : ¬ fbt c p = -1) : 0 < hms c p := by
  obtain ⟨f, l, f1, l1, f2, l2, f3, -⟩ := fbt_in h
  rcases Nat.eq_zero_or_pos (hms c p) with e | e
  · have z : ∀ i, i < cN c → sg c p i f = false := fun i hi => by
      have := cnt_0 (f := fun i => decide (¬ lnt c p i 24 = -1)) e hi
      have := of_decide_eq_false this
      have h1 : lnt c p i 24 = -1 := Classical.byContradiction this
      rcases lastb_c (f := sg c p i) 24 with ⟨-, g2⟩ | ⟨j, g1, g2, -⟩
      · exact g2 f f1
      · exact absurd (show nI j = -1 from g2.symm.trans h1) (nI_ne_m1 (by omega))
    have : hmn c p f = 0 := by
      unfold hmn
      have : ∀ n, n ≤ cN c → cnt (fun i => sg c p i f) n = 0 := fun n => by
        induction n with
        | zero => intro _; rfl
        | succ n ih => intro hn; rw [cnt_f (f := fun i => sg c p i f) (z n (by omega)), ih (by omega)]
      exact this _ (Nat.le_refl _)
    omega
  · exact e
theorem s_drifting {c : CT} {p : PT} {μ : MM} (hw : Wf μ) (hc : WC c) (hx : XG c μ) (hxc : XC p μ) {d : Int} (hd : gL μ 24 12 = lI d) (db : -1000000000 ≤ d ∧ d ≤ 1000000000) (hf : ¬ fbt c p = -1) : f_Si_drifting 24 μ = some (lI (d / (hms c p : Int))) := by
  have h1 := hms_b hc p
  have h2 := hms_p hc hf
  unfold f_Si_drifting
  rw [kO_24 hw, bsome, rR_24_1 hw, bsome, s_howManySing hw hc hx hxc, bsome, oI_nI, oI_l (by omega) (by omega)]
  simp only [lgc_le, lI_toInt (z := (hms c p : Int)) (by omega) (by omega), show (0 : Int64).toInt = 0 by decide]
  rw [if_neg (by omega), rL_24 hw, bsome, hd, s_floorDiv (by omega) (by omega) (by omega), bsome]
