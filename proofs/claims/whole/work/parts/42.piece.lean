/-! LAYER 2: notes, held notes -/
theorem s_lies (x lo hi : Int64) : f_M_lies x lo hi = some (bi (decide (lo.toInt ≤ x.toInt ∧ x.toInt ≤ hi.toInt))) := by
  unfold f_M_lies
  simp only [lgc_lt, lgc_gt]
  by_cases h1 : x.toInt < lo.toInt
  · rw [if_pos h1, decide_eq_false (by omega)]; rfl
  · rw [if_neg h1]
    by_cases h2 : hi.toInt < x.toInt
    · rw [if_pos h2, decide_eq_false (by omega)]; rfl
    · rw [if_neg h2, decide_eq_true (by omega)]; rfl
theorem s_liesI (x : Int32) (lo hi : Int64) (a b : Int) (ha : lo.toInt = a) (hb : hi.toInt = b) : f_M_lies x.toInt64 lo hi = some (bi (decide (a ≤ x.toInt ∧ x.toInt ≤ b))) := by
  rw [s_lies, ha, hb, Int32.toInt_toInt64]
theorem inR_le (x : Int32) (n : Nat) (m : Int) (h : m + 1 = n) : decide (0 ≤ x.toInt ∧ x.toInt ≤ m) = inR x n := by
  unfold inR; congr 1; apply propext; omega
theorem s_isVoice (x : Int32) : f_M_isVoice x = some (bi (inR x 6)) := by
  unfold f_M_isVoice
  rw [s_liesI x 0 5 0 5 (by decide) (by decide), bsome, inR_le x 6 5 (by decide), rz_bi]; rfl
theorem s_isBeat (x : Int32) : f_M_isBeat x = some (bi (inR x 24)) := by
  unfold f_M_isBeat
  rw [s_liesI x 0 23 0 23 (by decide) (by decide), bsome, inR_le x 24 23 (by decide), rz_bi]; rfl
/-- the cell of a voice and a beat -/
def cel (x b : Int32) : Nat := 24 * x.toInt.toNat + b.toInt.toNat
theorem cel_nI {v k : Nat} (hv : v < 2 ^ 31) (hk : k < 2 ^ 31) : cel (nI v) (nI k) = 24 * v + k := by
  unfold cel; rw [nI_toInt hv, nI_toInt hk]; rfl
def snd (key : Nat → Int32) (x b : Int32) : Bool := inR x 6 && (inR b 24 && decide (¬ key (cel x b) = -1))
def hld (key : Nat → Int32) (x b : Int32) : Bool := snd key x b && (snd key x (b - 1) && decide (key (cel x b) = key (cel x (b - 1))))
theorem s_has (x b : Int32) : f_Sc_has x b = some (bi (inR x 6 && inR b 24)) := by
  unfold f_Sc_has
  rcases ixc 6 6 rfl (by decide) x with ⟨h1, h2⟩ | ⟨h1, h2, h3⟩ | ⟨h1, h2, h3, v, hv, rfl⟩
  · rw [if_pos h1, h2]; rfl
  · rw [if_neg h1, if_pos h2, h3]; rfl
  · rw [if_neg h1, if_neg h2, h3]
    rcases ixc 24 24 rfl (by decide) b with ⟨g1, g2⟩ | ⟨g1, g2, g3⟩ | ⟨g1, g2, g3, k, hk, rfl⟩
    · rw [if_pos g1, g2]; rfl
    · rw [if_neg g1, if_pos g2, g3]; rfl
    · rw [if_neg g1, if_neg g2, g3]; rfl
theorem cellN {v k : Nat} : nI v * (24 : Int32) + nI k = nI (24 * v + k) := by
  rw [show (24 : Int32) = nI 24 from rfl, pk_mul, nI_add, Nat.mul_comm]
theorem cellN' {v k : Nat} : (24 : Int32) * nI v + nI k = nI (24 * v + k) := by
  rw [show (24 : Int32) = nI 24 from rfl, pk_mul, nI_add]
theorem s_sounds {μ : MM} (h : Wf μ) (x b : Int32) : f_Sc_sounds 1 x b μ = some (bi (snd (gI μ 2) x b)) := by
  unfold f_Sc_sounds snd
  rw [kO_1 h, bsome]
  rcases ixc 6 6 rfl (by decide) x with ⟨h1, h2⟩ | ⟨h1, h2, h3⟩ | ⟨h1, h2, h3, v, hv, rfl⟩
  · rw [if_pos h1, h2]; rfl
  · rw [if_neg h1, if_pos h2, h3]; rfl
  · rw [if_neg h1, if_neg h2, h3]
    rcases ixc 24 24 rfl (by decide) b with ⟨g1, g2⟩ | ⟨g1, g2, g3⟩ | ⟨g1, g2, g3, k, hk, rfl⟩
    · rw [if_pos g1, g2]; rfl
    · rw [if_neg g1, if_pos g2, g3]; rfl
    · rw [if_neg g1, if_neg g2, g3, rR_1_0 h, bsome, cellN, aI_2 h (by omega), bsome, cel_nI (by omega) (by omega)]
      by_cases e : gI μ 2 (24 * v + k) = -1 <;> simp [e, bi]
theorem s_isNote {μ : MM} (h : Wf μ) (x b : Int32) : f_M_isNote 49 x b μ = some (bi (snd (gI μ 51) x b)) := by
  unfold f_M_isNote snd
  rw [kO_49 h, bsome, s_isVoice, bsome]
  rcases ixc 6 6 rfl (by decide) x with ⟨h1, h2⟩ | ⟨h1, h2, h3⟩ | ⟨h1, h2, h3, v, hv, rfl⟩
  · rw [h2]; rfl
  · rw [h3]; rfl
  · rw [h3, s_isBeat]
    rcases ixc 24 24 rfl (by decide) b with ⟨g1, g2⟩ | ⟨g1, g2, g3⟩ | ⟨g1, g2, g3, k, hk, rfl⟩
    · rw [g2]; rfl
    · rw [g3]; rfl
    · rw [g3, if_neg (by decide), bsome, if_neg (by decide), rR_49_2 h, bsome]
      unfold f_M_cellOf
      rw [bsome, cellN', aI_51 h (by omega), bsome, cel_nI (by omega) (by omega)]
      by_cases e : gI μ 51 (24 * v + k) = -1 <;> simp [e, bi]
theorem snd_in {key : Nat → Int32} {x b : Int32} (h : snd key x b = true) : ∃ v k, v < 6 ∧ k < 24 ∧ x = nI v ∧ b = nI k ∧ ¬ key (24 * v + k) = -1 := by
  unfold snd at h
  rcases ixc 6 6 rfl (by decide) x with ⟨h1, h2⟩ | ⟨h1, h2, h3⟩ | ⟨h1, h2, h3, v, hv, rfl⟩
  · rw [h2] at h; cases h
  · rw [h3] at h; cases h
  · rcases ixc 24 24 rfl (by decide) b with ⟨g1, g2⟩ | ⟨g1, g2, g3⟩ | ⟨g1, g2, g3, k, hk, rfl⟩
    · rw [h3, g2] at h; cases h
    · rw [h3, g3] at h; cases h
    · rw [h3, g3, cel_nI (by omega) (by omega)] at h
      exact ⟨v, k, hv, hk, rfl, rfl, of_decide_eq_true h⟩
theorem pred_nI {k k2 : Nat} (hk : k < 2 ^ 31) (hk2 : k2 < 2 ^ 31) (e : nI k - 1 = nI k2) : 0 < k ∧ k2 = k - 1 := by
  rcases Nat.eq_zero_or_pos k with z | z
  · subst z
    exfalso
    have := congrArg Int32.toInt e
    rw [nI_toInt hk2] at this
    have h4 : (nI 0 - 1).toInt = -1 := by decide
    omega
  · rw [nI_m1 z] at e
    exact ⟨z, ((nI_eq (by omega) hk2).mp e).symm⟩
theorem s_holds {μ : MM} (h : Wf μ) (x b : Int32) : f_Sc_holds 1 x b μ = some (bi (hld (gI μ 2) x b)) := by
  unfold f_Sc_holds hld
  rw [kO_1 h, bsome, s_sounds h, bsome]
  cases hs : snd (gI μ 2) x b with
  | false => rfl
  | true =>
    rw [if_neg (by decide), s_sounds h, bsome]
    cases hs2 : snd (gI μ 2) x (b - 1) with
    | false => rfl
    | true =>
      obtain ⟨v, k, hv, hk, rfl, rfl, -⟩ := snd_in hs
      obtain ⟨v2, k2, hv2, hk2, e, e2, -⟩ := snd_in hs2
      obtain ⟨h0, rfl⟩ := pred_nI (by omega) (by omega) e2
      have e3 : nI (24 * v + k) - 1 = nI (24 * v + (k - 1)) := by
        rw [nI_m1 (by omega)]; congr 1; omega
      rw [if_neg (by decide), rR_1_0 h, bsome, cellN, aI_2 h (by omega), bsome, bsome, e3, aI_2 h (by omega), bsome, e2, cel_nI (by omega) (by omega), cel_nI (by omega) (by omega)]
      by_cases e : gI μ 2 (24 * v + k) = gI μ 2 (24 * v + (k - 1)) <;> simp [e, bi]
theorem s_isHeld {μ : MM} (h : Wf μ) (x b : Int32) : f_M_isHeld 49 x b μ = some (bi (hld (gI μ 51) x b)) := by
  unfold f_M_isHeld hld
  rw [kO_49 h, bsome, s_isNote h, bsome]
  cases hs : snd (gI μ 51) x b with
  | false => rfl
  | true =>
    rw [if_neg (by decide), s_isNote h, bsome]
    cases hs2 : snd (gI μ 51) x (b - 1) with
    | false => rfl
    | true =>
      obtain ⟨v, k, hv, hk, rfl, rfl, -⟩ := snd_in hs
      obtain ⟨v2, k2, hv2, hk2, e, e2, -⟩ := snd_in hs2
      unfold f_M_cellOf
      rw [if_neg (by decide), rR_49_2 h, bsome, bsome, cellN', aI_51 h (by omega), bsome, bsome, bsome, e2, cellN', aI_51 h (by omega), bsome, cel_nI (by omega) (by omega), cel_nI (by omega) (by omega)]
      by_cases e : gI μ 51 (24 * v + k) = gI μ 51 (24 * v + k2) <;> simp [e, bi]
theorem hld_in {key : Nat → Int32} {x b : Int32} (h : hld key x b = true) : ∃ v k, v < 6 ∧ 0 < k ∧ k < 24 ∧ x = nI v ∧ b = nI k ∧ ¬ key (24 * v + k) = -1 ∧ key (24 * v + k) = key (24 * v + (k - 1)) := by
  unfold hld at h
  simp only [Bool.and_eq_true] at h
  obtain ⟨h1, h2, h3⟩ := h
  obtain ⟨v, k, hv, hk, rfl, rfl, hne⟩ := snd_in h1
  obtain ⟨v2, k2, hv2, hk2, e, e2, -⟩ := snd_in h2
  have h0 : 0 < k := by
    exact (pred_nI (by omega) (by omega) e2).1
  refine ⟨v, k, hv, h0, hk, rfl, rfl, hne, ?_⟩
  have h3 := of_decide_eq_true h3
  rw [nI_m1 h0, cel_nI (by omega) (by omega), cel_nI (by omega) (by omega)] at h3
  exact h3
