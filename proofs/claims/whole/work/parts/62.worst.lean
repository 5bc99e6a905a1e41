/-! LAYER 2: the table, worst -/
theorem tbl_t : ∀ k, k < 61 → ∀ t, t < 12 → f_Mt_floorMod (nI k - nI t) 12 = some (nI ((k + 12 - t) % 12)) ∧ irem ((irem (nI k) 12 - nI t) + 12) 12 = nI ((k + 12 - t) % 12) := by decide +kernel
def tbl (c : CT) (t k : Nat) : Int := 100000 * (k : Int) + cT c ((k + 12 - t) % 12)
theorem tbl_b {c : CT} (hc : WC c) {t k : Nat} (hk : k < 61) : -60000 ≤ tbl c t k ∧ tbl c t k ≤ 6060000 := by
  have := hc.2.2.1 ((k + 12 - t) % 12) (Nat.mod_lt _ (by decide))
  unfold tbl; omega
theorem tbl_e (c : CT) (t k : Nat) : (100000 : Int32) * nI k + oI (cT c ((k + 12 - t) % 12)) = oI (tbl c t k) := by
  rw [show (100000 : Int32) = oI 100000 from rfl, oI_nI, oI_mul, oI_add]; rfl
theorem s_tableOf {c : CT} {μ : MM} (hw : Wf μ) (hx : XG c μ) {t k : Nat} (ht : t < 12) (hk : k < 61) : f_Ch_tableOf 9 (nI k) (nI t) μ = some (oI (tbl c t k)) := by
  unfold f_Ch_tableOf
  rw [kO_9 hw, bsome, rR_9_7 hw, bsome, (tbl_t k hk t ht).1, bsome, aI_16 hw (Nat.mod_lt _ (by decide)), bsome, hx.2.2.2.2.2 _ (Nat.mod_lt _ (by decide)), tbl_e]
theorem s_tableOfM {c : CT} {μ : MM} (hw : Wf μ) (hm : ∀ k, k < 12 → gI μ 67 k = oI (cT c k)) {t k : Nat} (h53 : gI μ 49 53 = nI t) (ht : t < 12) (hk : k < 61) : f_M_tableOf 49 (nI k) μ = some (oI (tbl c t k)) := by
  unfold f_M_tableOf
  rw [kO_49 hw, bsome, rR_49_26 hw, bsome, rI_49 hw, bsome, h53, (tbl_t k hk t ht).2, aI_67 hw (Nat.mod_lt _ (by decide)), bsome, hm _ (Nat.mod_lt _ (by decide)), tbl_e]
/-- the key of a cell -/
def kN (p : PT) (x : Nat) : Nat := (pkey p x).toInt.toNat
theorem kN_e {p : PT} (hp' : WP p) {x : Nat} (hx : x < 144) (hn : ¬ pkey p x = -1) : kN p x < 61 ∧ pkey p x = nI (kN p x) := by
  rcases hp'.1 x hx with h | ⟨k, hk, e⟩
  · exact absurd h hn
  · unfold kN
    rw [e, nI_toInt (by omega), Int.toNat_natCast]
    exact ⟨by omega, rfl⟩
def sd (p : PT) (v b : Nat) : Bool := snd (pkey p) (nI v) (nI b)
theorem sd_n {p : PT} {v b : Nat} (hv : v < 6) (hb : b < 24) (h : sd p v b = true) : ¬ pkey p (24 * v + b) = -1 := by
  unfold sd at h
  rw [snd_nI hv hb] at h
  exact of_decide_eq_true h
def abv (c : CT) (p : PT) (v b : Nat) : Int := tbl c 0 (kN p (24 * v + b)) - ml3 p (24 * v + b)
theorem s_above {c : CT} {p : PT} {μ : MM} (hw : Wf μ) (hx : XG c μ) (hp' : WP p) (hxc : XC p μ) {v b : Nat} (hv : v < 6) (hb : b < 24) (h : sd p v b = true) : f_Ch_above 9 (nI v) (nI b) μ = some (oI (abv c p v b)) := by
  have n := sd_n hv hb h
  obtain ⟨k1, k2⟩ := kN_e hp' (show 24 * v + b < 144 by omega) n
  unfold f_Ch_above
  rw [kO_9 hw, bsome, s_cell, bsome, rR_9_0 hw, bsome, rR_1_0 hw, bsome, aI_2 hw (by omega), bsome, hxc.1, k2, show f_Ch_tableOf 9 (nI (kN p (24 * v + b))) 0 μ = _ from s_tableOf hw hx (t := 0) (by decide) k1, bsome, bsome, rR_1_2 hw, bsome, aI_4 hw (by omega), bsome, (hxc.2.2 _ (by omega) n).2, oI_sub]; rfl
def tfw (c : CT) (p : PT) (b v w : Nat) : Int := if sd p v b = true ∧ sd p w b = true then iabs (abv c p v b - abv c p w b) else 0
def tfl (c : CT) (p : PT) (b : Nat) : Int := fsum (fun v => fsum (tfw c p b v) v) 6
theorem abv_b {c : CT} {p : PT} (hc : WC c) (hp' : WP p) {v b : Nat} (hv : v < 6) (hb : b < 24) (h : sd p v b = true) : -9100000 ≤ abv c p v b ∧ abv c p v b ≤ 9100000 := by
  have n := sd_n hv hb h
  obtain ⟨k1, k2⟩ := kN_e hp' (show 24 * v + b < 144 by omega) n
  have b1 := tbl_b hc (t := 0) k1
  have b2 := ml3_b hp' (c := 24 * v + b) (by omega) n
  unfold abv; omega
theorem tfw_b {c : CT} {p : PT} (hc : WC c) (hp' : WP p) {b v w : Nat} (hb : b < 24) (hv : v < 6) (hw : w < 6) : 0 ≤ tfw c p b v w ∧ tfw c p b v w ≤ 18200000 := by
  unfold tfw
  split
  · rename_i h
    have b1 := abv_b hc hp' hv hb h.1
    have b2 := abv_b hc hp' hw hb h.2
    exact iabs_b (by omega)
  · decide
theorem tfl_b {c : CT} {p : PT} (hc : WC c) (hp' : WP p) {b : Nat} (hb : b < 24) : 0 ≤ tfl c p b ∧ tfl c p b ≤ 655200000 := by
  have := fsum_b (f := fun v => fsum (tfw c p b v) v) (lo := 0) (hi := 109200000) 6 (fun v hv => by
    have := fsum_b (f := tfw c p b v) (lo := 0) (hi := 18200000) v (fun w hw => tfw_b hc hp' hb hv (by omega))
    show 0 ≤ fsum (tfw c p b v) v ∧ fsum (tfw c p b v) v ≤ 109200000
    omega)
  unfold tfl; omega
theorem s_tableFoul {c : CT} {p : PT} {μ : MM} (hw : Wf μ) (hc : WC c) (hx : XG c μ) (hp' : WP p) (hxc : XC p μ) {b : Nat} (hb : b < 24) : f_Ch_tableFoul 9 (nI b) μ = some (lI (tfl c p b)) := by
  unfold f_Ch_tableFoul
  rw [kO_9 hw, bsome]
  refine upA 6 (fun n v => f_Ch_tableFoul_L5 9 (nI b) μ n (lI (fsum (fun v => fsum (tfw c p b v) v) v)) (nI v)) _ (fun n => ?_) (fun n v hv => ?_) 0 FU (by decide) (by decide)
  · show f_Ch_tableFoul_L5 9 (nI b) μ (n + 1) _ (nI 6) = _
    rw [e_Ch_tableFoul_L5, if_pos (by decide)]; rfl
  · show f_Ch_tableFoul_L5 9 (nI b) μ (n + 1) _ (nI v) = f_Ch_tableFoul_L5 9 (nI b) μ n (lI (fsum (fun v => fsum (tfw c p b v) v) v + fsum (tfw c p b v) v)) (nI (v + 1))
    rw [e_Ch_tableFoul_L5, if_neg (show ¬ (6 : Int32) ≤ nI v from nI_ge (b := 6) (by omega) (by omega))]
    refine upA v (fun n2 w => f_Ch_tableFoul_L15 (f_Ch_tableFoul_L5 9 (nI b) μ n) 9 (nI b) (nI v) μ n2 (lI (fsum (fun v => fsum (tfw c p b v) v) v + fsum (tfw c p b v) w)) (nI w)) _ (fun n2 => ?_) (fun n2 w hw2 => ?_) 0 FU (by omega) (by unfold FU; omega) |> fun h => by
      have h : f_Ch_tableFoul_L15 (f_Ch_tableFoul_L5 9 (nI b) μ n) 9 (nI b) (nI v) μ FU (lI (fsum (fun v => fsum (tfw c p b v) v) v + 0)) (nI 0) = _ := h
      rw [Int.add_zero] at h
      exact h
    · show f_Ch_tableFoul_L15 (f_Ch_tableFoul_L5 9 (nI b) μ n) 9 (nI b) (nI v) μ (n2 + 1) _ (nI v) = _
      rw [e_Ch_tableFoul_L15, if_pos (show nI v ≤ nI v by rw [cle (by omega) (by omega)]; omega), nI_1]
    · show f_Ch_tableFoul_L15 (f_Ch_tableFoul_L5 9 (nI b) μ n) 9 (nI b) (nI v) μ (n2 + 1) _ (nI w) = f_Ch_tableFoul_L15 (f_Ch_tableFoul_L5 9 (nI b) μ n) 9 (nI b) (nI v) μ n2 (lI (fsum (fun v => fsum (tfw c p b v) v) v + (fsum (tfw c p b v) w + tfw c p b v w))) (nI (w + 1))
      rw [e_Ch_tableFoul_L15, if_neg (show ¬ nI v ≤ nI w by rw [cle (by omega) (by omega)]; omega), rR_9_0 hw, bsome, s_sounds hw, hxc.1, bsome, nI_1]
      unfold tfw
      cases e1 : sd p v b with
      | false =>
        rw [show snd (pkey p) (nI v) (nI b) = false from e1, if_pos (by decide), if_neg (fun q => by cases q.1), Int.add_zero]
      | true =>
        rw [show snd (pkey p) (nI v) (nI b) = true from e1, if_neg (by decide), bsome, s_sounds hw, hxc.1, bsome]
        cases e2 : sd p w b with
        | false =>
          rw [show snd (pkey p) (nI w) (nI b) = false from e2, if_pos (by decide), if_neg (fun q => by cases q.2), Int.add_zero]
        | true =>
          have b1 := abv_b hc hp' hv hb e1
          have b2 := abv_b hc hp' (show w < 6 by omega) hb e2
          have b3 := iabs_b (z := abv c p v b - abv c p w b) (a := 18200000) (by omega)
          rw [show snd (pkey p) (nI w) (nI b) = true from e2, if_neg (by decide), s_above hw hx hp' hxc hv hb e1, bsome, s_above hw hx hp' hxc (by omega) hb e2, bsome, oI_sub, s_absI (by omega) (by omega), bsome, oI_l (by omega) (by omega), lI_add, if_pos ⟨rfl, rfl⟩, Int.add_assoc]
theorem s_tableFoulM {c : CT} {p : PT} {μ : MM} (hw : Wf μ) (hc : WC c) (hm : ∀ k, k < 12 → gI μ 67 k = oI (cT c k)) (h53 : gI μ 49 53 = 0) (hp' : WP p) (hmp : MP p μ) {b : Nat} (hb : b < 24) : f_M_tableFoul 49 (nI b) μ = some (lI (tfl c p b)) := by
  unfold f_M_tableFoul
  rw [kO_49 hw, bsome]
  refine upA 6 (fun n v => f_M_tableFoul_L5 49 (nI b) μ n (lI (fsum (fun v => fsum (tfw c p b v) v) v)) (nI v)) _ (fun n => ?_) (fun n v hv => ?_) 0 FU (by decide) (by decide)
  · show f_M_tableFoul_L5 49 (nI b) μ (n + 1) _ (nI 6) = _
    rw [e_M_tableFoul_L5, if_pos (by decide)]; rfl
  · show f_M_tableFoul_L5 49 (nI b) μ (n + 1) _ (nI v) = f_M_tableFoul_L5 49 (nI b) μ n (lI (fsum (fun v => fsum (tfw c p b v) v) v + fsum (tfw c p b v) v)) (nI (v + 1))
    rw [e_M_tableFoul_L5, if_neg (show ¬ (6 : Int32) ≤ nI v from nI_ge (b := 6) (by omega) (by omega))]
    refine upA v (fun n2 w => f_M_tableFoul_L15 (f_M_tableFoul_L5 49 (nI b) μ n) 49 (nI b) (nI v) μ n2 (lI (fsum (fun v => fsum (tfw c p b v) v) v + fsum (tfw c p b v) w)) (nI w)) _ (fun n2 => ?_) (fun n2 w hw2 => ?_) 0 FU (by omega) (by unfold FU; omega) |> fun h => by
      have h : f_M_tableFoul_L15 (f_M_tableFoul_L5 49 (nI b) μ n) 49 (nI b) (nI v) μ FU (lI (fsum (fun v => fsum (tfw c p b v) v) v + 0)) (nI 0) = _ := h
      rw [Int.add_zero] at h
      exact h
    · show f_M_tableFoul_L15 (f_M_tableFoul_L5 49 (nI b) μ n) 49 (nI b) (nI v) μ (n2 + 1) _ (nI v) = _
      rw [e_M_tableFoul_L15, if_pos (show nI v ≤ nI v by rw [cle (by omega) (by omega)]; omega), nI_1]
    · show f_M_tableFoul_L15 (f_M_tableFoul_L5 49 (nI b) μ n) 49 (nI b) (nI v) μ (n2 + 1) _ (nI w) = f_M_tableFoul_L15 (f_M_tableFoul_L5 49 (nI b) μ n) 49 (nI b) (nI v) μ n2 (lI (fsum (fun v => fsum (tfw c p b v) v) v + (fsum (tfw c p b v) w + tfw c p b v w))) (nI (w + 1))
      rw [e_M_tableFoul_L15, if_neg (show ¬ nI v ≤ nI w by rw [cle (by omega) (by omega)]; omega), s_isNote hw, hmp.1, bsome, nI_1]
      unfold tfw
      cases e1 : sd p v b with
      | false =>
        rw [show snd (pkey p) (nI v) (nI b) = false from e1, if_pos (by decide), if_neg (fun q => by cases q.1), Int.add_zero]
      | true =>
        rw [show snd (pkey p) (nI v) (nI b) = true from e1, if_neg (by decide), s_isNote hw, hmp.1, bsome]
        cases e2 : sd p w b with
        | false =>
          rw [show snd (pkey p) (nI w) (nI b) = false from e2, if_pos (by decide), if_neg (fun q => by cases q.2), Int.add_zero]
        | true =>
          have hw6 : w < 6 := by omega
          have n1 := sd_n hv hb e1
          have n2' := sd_n hw6 hb e2
          obtain ⟨k1, k2⟩ := kN_e hp' (show 24 * v + b < 144 by omega) n1
          obtain ⟨l1, l2⟩ := kN_e hp' (show 24 * w + b < 144 by omega) n2'
          have m1 := ml3_b hp' (c := 24 * v + b) (by omega) n1
          have m2 := ml3_b hp' (c := 24 * w + b) (by omega) n2'
          have t1 := tbl_b hc (t := 0) k1
          have t2 := tbl_b hc (t := 0) l1
          have ee : tbl c 0 (kN p (24 * v + b)) - tbl c 0 (kN p (24 * w + b)) - (ml3 p (24 * v + b) - ml3 p (24 * w + b)) = abv c p v b - abv c p w b := by unfold abv; omega
          rw [show snd (pkey p) (nI w) (nI b) = true from e2, if_neg (by decide)]
          unfold f_M_cellOf
          rw [rR_49_2 hw, bsome, bsome, cellN', aI_51 hw (by omega), bsome, hmp.1, k2, s_tableOfM hw hm (t := 0) h53 (by decide) k1, bsome, bsome, bsome, cellN', aI_51 hw (by omega), bsome, hmp.1, l2, s_tableOfM hw hm (t := 0) h53 (by decide) l1, bsome, s_sizeAt hw hmp hv hb n1, bsome, s_sizeAt hw hmp hw6 hb n2', bsome, oI_sub, oI_l (by omega) (by omega), oI_l (by omega) (by omega), oI_l (by omega) (by omega), lI_sub, lI_sub, ee, s_plain (by unfold abv; omega) (by unfold abv; omega), bsome, lI_add, if_pos ⟨rfl, rfl⟩, Int.add_assoc]
/-- the worst beat of the first ones -/
def wst (c : CT) (p : PT) : Nat → Int32
  | 0 => -1
  | b + 1 => if snds p b = true then (if wst c p b = -1 then nI b else if tfl c p b ≤ tfl c p (wst c p b).toInt.toNat then wst c p b else nI b) else wst c p b
theorem wst_c (c : CT) (p : PT) : ∀ b, wst c p b = -1 ∨ ∃ j, j < b ∧ wst c p b = nI j
  | 0 => Or.inl rfl
  | b + 1 => by
    have ih := wst_c c p b
    have up : wst c p b = -1 ∨ ∃ j, j < b + 1 ∧ wst c p b = nI j := by
      rcases ih with h | ⟨j, h1, h2⟩
      · exact Or.inl h
      · exact Or.inr ⟨j, by omega, h2⟩
    simp only [wst]
    split
    · split
      · exact Or.inr ⟨b, by omega, rfl⟩
      · split
        · exact up
        · exact Or.inr ⟨b, by omega, rfl⟩
    · exact up
theorem tf_le {c : CT} {p : PT} (hc : WC c) (hp' : WP p) {a b : Nat} (ha : a < 24) (hb : b < 24) : (lg_cmp (lI (tfl c p a)) (lI (tfl c p b)) ≤ 0) = (tfl c p a ≤ tfl c p b) := by
  have h1 := tfl_b hc hp' ha
  have h2 := tfl_b hc hp' hb
  rw [lgc_le, lI_toInt (by omega) (by omega), lI_toInt (by omega) (by omega)]
theorem s_worstX {c : CT} {p : PT} {μ : MM} (hw : Wf μ) (hc : WC c) (hx : XG c μ) (hp' : WP p) (hxc : XC p μ) : f_X_worst 0 μ = some (wst c p 24) := by
  unfold f_X_worst
  rw [kO_0 hw, bsome]
  refine upA 24 (fun n b => f_X_worst_L4 0 μ n (wst c p b) (nI b)) _ (fun n => ?_) (fun n b hb => ?_) 0 FU (by decide) (by decide)
  · show f_X_worst_L4 0 μ (n + 1) _ (nI 24) = _
    rw [e_X_worst_L4, if_pos (by decide)]
  · show f_X_worst_L4 0 μ (n + 1) (wst c p b) (nI b) = f_X_worst_L4 0 μ n (wst c p (b + 1)) (nI (b + 1))
    rw [e_X_worst_L4, if_neg (show ¬ (24 : Int32) ≤ nI b from nI_ge (b := 24) (by omega) (by omega)), rR_0_0 hw, bsome, s_soundsIn hw hxc, bsome, nI_1]
    simp only [wst]
    cases e : snds p b with
    | false => rw [if_pos (by decide), if_neg (by decide)]
    | true =>
      rw [if_neg (by decide), if_pos rfl]
      rcases wst_c c p b with h | ⟨j, h1, h2⟩
      · rw [if_pos h, if_pos h]
      · rw [h2, if_neg (nI_ne_m1 (by omega)), if_neg (nI_ne_m1 (by omega)), rR_0_1 hw, bsome, s_tableFoul hw hc hx hp' hxc hb, bsome, bsome, s_tableFoul hw hc hx hp' hxc (by omega), bsome, nI_toInt (by omega), Int.toNat_natCast]
        by_cases q : tfl c p b ≤ tfl c p j
        · rw [if_pos (by rw [tf_le hc hp' hb (by omega)]; exact q), if_pos q]
        · rw [if_neg (by rw [tf_le hc hp' hb (by omega)]; exact q), if_neg q]
theorem s_worstL {c : CT} {p : PT} {μ : MM} (hw : Wf μ) (hc : WC c) (hm : ∀ k, k < 12 → gI μ 67 k = oI (cT c k)) (h53 : gI μ 49 53 = 0) (hp' : WP p) (hmp : MP p μ) : f_M_worst_L8 49 μ FU (-1) 0 = some (wst c p 24, μ) := by
  refine upA 24 (fun n b => f_M_worst_L8 49 μ n (wst c p b) (nI b)) _ (fun n => ?_) (fun n b hb => ?_) 0 FU (by decide) (by decide)
  · show f_M_worst_L8 49 μ (n + 1) _ (nI 24) = _
    rw [e_M_worst_L8, if_pos (by decide)]
  · show f_M_worst_L8 49 μ (n + 1) (wst c p b) (nI b) = f_M_worst_L8 49 μ n (wst c p (b + 1)) (nI (b + 1))
    rw [e_M_worst_L8, if_neg (show ¬ (24 : Int32) ≤ nI b from nI_ge (b := 24) (by omega) (by omega))]
    refine upA 6 (fun n2 v => f_M_worst_L19 (f_M_worst_L8 49 μ n) 49 (wst c p b) (nI b) μ n2 (bi (anyN (fun v => snd (pkey p) (nI v) (nI b)) v)) (nI v)) _ (fun n2 => ?_) (fun n2 v hv => ?_) 0 FU (by decide) (by decide)
    · show f_M_worst_L19 (f_M_worst_L8 49 μ n) 49 (wst c p b) (nI b) μ (n2 + 1) (bi (snds p b)) (nI 6) = _
      rw [e_M_worst_L19, if_pos (by decide), nI_1]
      simp only [wst]
      cases e : snds p b with
      | false => rw [if_pos (by decide), if_neg (by decide)]
      | true =>
        rw [if_neg (by decide), if_pos rfl]
        rcases wst_c c p b with h | ⟨j, h1, h2⟩
        · rw [if_pos h, if_pos h]
        · rw [h2, if_neg (nI_ne_m1 (by omega)), if_neg (nI_ne_m1 (by omega)), s_tableFoulM hw hc hm h53 hp' hmp hb, bsome, s_tableFoulM hw hc hm h53 hp' hmp (by omega), bsome, nI_toInt (by omega), Int.toNat_natCast]
          by_cases q : tfl c p b ≤ tfl c p j
          · rw [if_pos (by rw [tf_le hc hp' hb (by omega)]; exact q), if_pos q]
          · rw [if_neg (by rw [tf_le hc hp' hb (by omega)]; exact q), if_neg q]
    · show f_M_worst_L19 (f_M_worst_L8 49 μ n) 49 (wst c p b) (nI b) μ (n2 + 1) _ (nI v) = f_M_worst_L19 (f_M_worst_L8 49 μ n) 49 (wst c p b) (nI b) μ n2 (bi (anyN (fun v => snd (pkey p) (nI v) (nI b)) v || snd (pkey p) (nI v) (nI b))) (nI (v + 1))
      rw [e_M_worst_L19, if_neg (show ¬ (6 : Int32) ≤ nI v from nI_ge (b := 6) (by omega) (by omega)), s_isNote hw, hmp.1, bsome, nI_1]
      cases anyN (fun v => snd (pkey p) (nI v) (nI b)) v with
      | true => rw [if_neg (by decide)]; rfl
      | false =>
        rw [if_pos (by decide)]
        cases snd (pkey p) (nI v) (nI b) with
        | true => rw [if_neg (by decide)]; rfl
        | false => rw [if_pos (by decide)]; rfl
theorem worst_ok {c : CT} {p : PT} {μ : MM} (hw : Wf μ) (hc : WC c) (hx : XG c μ) (hm : MG c μ) (hp' : WP p) (hxp : XP p μ) (hmp : MP p μ) : ∃ r μ2, f_X_worst 0 μ = some r ∧ f_M_worst 49 μ = some (r, μ2) ∧ Sm Prd μ μ2 := by
  obtain ⟨μ', er, sr, gr, -, g53⟩ := s_readies hw hc hm
  refine ⟨wst c p 24, μ', s_worstX hw hc hx hp' hxp.1, ?_, sr⟩
  unfold f_M_worst
  rw [kO_49 hw, bsome, er, bsome]
  exact s_worstL (sr.wf hw) hc (fun k hk => by rw [sr.gI 67 (fun _ => rfl)]; exact hm.2.2.2.2.2 k hk) g53 hp' (hmp.sm sr (fun a k h1 h2 => by
    have : a = 51 ∨ a = 52 ∨ a = 53 ∨ a = 54 ∨ a = 55 ∨ a = 56 := by omega
    rcases this with rfl | rfl | rfl | rfl | rfl | rfl <;> rfl))
