/-! LAYER 2: what a note is sung by -/
def ky (c : CT) (p : PT) (i b : Nat) : Nat := kN p (24 * cV c i + b)
def mz (c : CT) (p : PT) (i b : Nat) : Int := ml3 p (24 * cV c i + b)
def tab (c : CT) (p : PT) (t i b : Nat) : Int := tbl c t (ky c p i b)
theorem sg_n {c : CT} (hc : WC c) {p : PT} {i b : Nat} (hi : i < cN c) (hb : b < 24) (h : sg c p i b = true) : cV c i < 6 ∧ ¬ pkey p (24 * cV c i + b) = -1 := by
  have := (hc.2.1 i hi).1
  exact ⟨this, sd_n this hb h⟩
theorem mz_b {c : CT} (hc : WC c) {p : PT} (hp' : WP p) {i b : Nat} (hi : i < cN c) (hb : b < 24) (h : sg c p i b = true) : -3000000 ≤ mz c p i b ∧ mz c p i b ≤ 3000000 := by
  obtain ⟨h1, h2⟩ := sg_n hc hi hb h
  exact ml3_b hp' (by omega) h2
theorem tab_b {c : CT} (hc : WC c) {p : PT} (hp' : WP p) {t i b : Nat} (hi : i < cN c) (hb : b < 24) (h : sg c p i b = true) : -60000 ≤ tab c p t i b ∧ tab c p t i b ≤ 6060000 := by
  obtain ⟨h1, h2⟩ := sg_n hc hi hb h
  exact tbl_b hc (kN_e hp' (by omega) h2).1
theorem s_SitableOf {c : CT} {p : PT} {μ : MM} (hw : Wf μ) (hc : WC c) (hx : XG c μ) (hp' : WP p) (hxc : XC p μ) {t i b : Nat} (ht : gI μ 24 10 = nI t) (ht2 : t < 12) (hi : i < cN c) (hb : b < 24) (h : sg c p i b = true) : f_Si_tableOf 24 (nI i) (nI b) μ = some (lI (tab c p t i b)) := by
  have h8 := hc.1
  obtain ⟨h1, h2⟩ := sg_n hc hi hb h
  obtain ⟨k1, k2⟩ := kN_e hp' (show 24 * cV c i + b < 144 by omega) h2
  have bb := tab_b hc hp' (t := t) hi hb h
  unfold f_Si_tableOf
  rw [kO_24 hw, bsome, rR_24_1 hw, bsome, rR_24_0 hw, bsome, rR_1_0 hw, bsome, bsome, rR_9_1 hw, bsome, aI_10 hw (by omega), bsome, (hx.2.2.2.2.1 i hi).1, s_cell, bsome, aI_2 hw (by omega), bsome, rI_24 hw, bsome, ht, hxc.1, k2, s_tableOf hw hx ht2 k1, bsome, oI_l (by unfold tab ky at bb; omega) (by unfold tab ky at bb; omega)]; rfl
theorem s_millsOf {c : CT} {p : PT} {μ : MM} (hw : Wf μ) (hc : WC c) (hx : XG c μ) (hp' : WP p) (hxc : XC p μ) {i b : Nat} (hi : i < cN c) (hb : b < 24) (h : sg c p i b = true) : f_Si_millsOf 24 (nI i) (nI b) μ = some (lI (mz c p i b)) := by
  have h8 := hc.1
  obtain ⟨h1, h2⟩ := sg_n hc hi hb h
  have bb := mz_b hc hp' hi hb h
  unfold mz at bb
  unfold f_Si_millsOf
  rw [kO_24 hw, bsome, rR_24_0 hw, bsome, rR_1_2 hw, bsome, rR_24_1 hw, bsome, rR_9_1 hw, bsome, aI_10 hw (by omega), bsome, (hx.2.2.2.2.1 i hi).1, s_cell, bsome, aI_4 hw (by omega), bsome, (hxc.2.2 _ (by omega) h2).2, oI_l (by omega) (by omega)]; rfl
theorem s_keyOf {c : CT} {p : PT} {μ : MM} (hw : Wf μ) (hc : WC c) (hv : ∀ i, i < cN c → gI μ 63 i = nI (cV c i)) (hp' : WP p) (hm : gI μ 51 = pkey p) {i b : Nat} (hi : i < cN c) (hb : b < 24) (h : sg c p i b = true) : f_M_keyOf 49 (nI i) (nI b) μ = some (nI (ky c p i b)) ∧ ky c p i b < 61 := by
  have h8 := hc.1
  obtain ⟨h1, h2⟩ := sg_n hc hi hb h
  obtain ⟨k1, k2⟩ := kN_e hp' (show 24 * cV c i + b < 144 by omega) h2
  refine ⟨?_, k1⟩
  unfold f_M_keyOf f_M_cellOf
  rw [kO_49 hw, bsome, rR_49_2 hw, bsome, rR_49_22 hw, bsome, aI_63 hw (by omega), bsome, hv i hi, bsome, cellN', aI_51 hw (by omega), bsome, hm, k2]; rfl
theorem s_sizeFor {c : CT} {p : PT} {μ : MM} (hw : Wf μ) (hc : WC c) (hv : ∀ i, i < cN c → gI μ 63 i = nI (cV c i)) (hm : MP p μ) {i b : Nat} (hi : i < cN c) (hb : b < 24) (h : sg c p i b = true) : f_M_sizeFor 49 (nI i) (nI b) μ = some (oI (mz c p i b)) := by
  have h8 := hc.1
  obtain ⟨h1, h2⟩ := sg_n hc hi hb h
  unfold f_M_sizeFor
  rw [kO_49 hw, bsome, rR_49_22 hw, bsome, aI_63 hw (by omega), bsome, hv i hi, s_sizeAt hw hm h1 hb h2, bsome]; rfl
/-- how much wind there is yet -/
def gvn (c : CT) (g b : Nat) : Int := if g % 2 ^ (b + 1) = 0 then cW c else 0
theorem ishl_2 : ∀ b, b < 24 → ishl 2 (nI b) - 1 = nI (2 ^ (b + 1) - 1) := by decide +kernel
theorem s_givenIn {c : CT} {μ : MM} (hw : Wf μ) (hx : XG c μ) {g b : Nat} (hg : gI μ 24 9 = nI g) (hg2 : g < 16777216) (hb : b < 24) : f_Si_givenIn 24 (nI b) μ = some (oI (gvn c g b)) := by
  unfold f_Si_givenIn gvn
  have hm : g % 2 ^ (b + 1) < 2 ^ 31 := Nat.lt_of_le_of_lt (Nat.mod_le _ _) (by omega)
  rw [kO_24 hw, bsome, rI_24 hw, bsome, hg, ishl_2 b hb, nI_and, Nat.and_two_pow_sub_one_eq_mod, rR_24_1 hw, bsome, rI_9 hw, bsome, hx.2.2.1]
  by_cases e : g % 2 ^ (b + 1) = 0
  · rw [if_pos e, if_pos (by rw [e]; rfl)]
  · rw [if_neg e, if_neg (by rw [show (0 : Int32) = nI 0 from rfl, ceq hm (by decide)]; exact e)]; rfl
theorem gvn_s (c : CT) (g b : Nat) : gvn c g (b + 1) = if g.testBit (b + 1) = true then 0 else gvn c g b := by
  unfold gvn
  rw [Nat.pow_succ 2 (b + 1), Nat.mod_mul, Nat.testBit_eq_decide_div_mod_eq]
  have hp := Nat.two_pow_pos (b + 1)
  rcases Nat.mod_two_eq_zero_or_one (g / 2 ^ (b + 1)) with e | e
  · rw [e, if_neg (show ¬ decide ((0 : Nat) = 1) = true by decide), Nat.mul_zero, Nat.add_zero]
  · rw [e, if_pos (show decide ((1 : Nat) = 1) = true by decide), if_neg (by omega)]
theorem gvn_0 (c : CT) (g : Nat) : gvn c g 0 = if g.testBit 0 = true then 0 else cW c := by
  unfold gvn
  rw [Nat.testBit_zero]
  rcases Nat.mod_two_eq_zero_or_one g with e | e
  · rw [if_pos (show g % 2 ^ (0 + 1) = 0 from e), if_neg (by rw [decide_eq_true_eq]; omega)]
  · rw [if_neg (show ¬ g % 2 ^ (0 + 1) = 0 by rw [show g % 2 ^ (0 + 1) = 1 from e]; decide), if_pos (by rw [decide_eq_true_eq]; omega)]
/-- who knows -/
def knw (c : CT) (nb : Bool) (i : Nat) : Bool := decide (cK c i = 1) && !nb
theorem s_isKnowing {c : CT} {μ : MM} (hw : Wf μ) (hc : WC c) (hx : XG c μ) {nb : Bool} (hn : gI μ 24 11 = bi nb) {i : Nat} (hi : i < cN c) : f_Si_isKnowing 24 (nI i) μ = some (bi (knw c nb i)) := by
  have h8 := hc.1
  have hk := (hc.2.1 i hi).2.2.2
  unfold f_Si_isKnowing knw
  rw [kO_24 hw, bsome, rR_24_1 hw, bsome, rR_9_4 hw, bsome, aI_13 hw (by omega), bsome, (hx.2.2.2.2.1 i hi).2.2.2, rI_24 hw, bsome, hn]
  by_cases e : cK c i = 1
  · rw [if_pos (by rw [e]; rfl), decide_eq_true e]
    cases nb <;> rfl
  · rw [if_neg (show ¬ nI (cK c i) = (1 : Int32) by rw [show (1 : Int32) = nI 1 from rfl, ceq (by omega) (by decide)]; exact e), decide_eq_false e]
    rfl
