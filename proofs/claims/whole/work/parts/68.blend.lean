/-! LAYER 2: the blend of the aims -/
def mW (cb : Nat → Bool) (w : Nat → Int) : Nat → Int := fsum (fun k => if cb k = true then w k else 0)
def mT (cb : Nat → Bool) (w a : Nat → Int) : Nat → Int := fsum (fun k => if cb k = true then w k * a k else 0)
def mix (cb : Nat → Bool) (w a : Nat → Int) : Int := if 0 < mW cb w 4 then mT cb w a 4 / mW cb w 4 else a 2
theorem mul100 {x z M : Int} (ha : 0 ≤ x ∧ x ≤ 100) (hM : 0 ≤ M) (hz : -M ≤ z ∧ z ≤ M) : -(100 * M) ≤ x * z ∧ x * z ≤ 100 * M := by
  have h1 : x * z ≤ x * M := Int.mul_le_mul_of_nonneg_left hz.2 ha.1
  have h2 : x * (-M) ≤ x * z := Int.mul_le_mul_of_nonneg_left hz.1 ha.1
  have h3 : x * M ≤ 100 * M := Int.mul_le_mul_of_nonneg_right ha.2 hM
  rw [Int.mul_neg] at h2
  omega
def WB (w : Nat → Int) : Prop := ∀ k, k < 4 → 0 ≤ w k ∧ w k ≤ 100
def AB (a : Nat → Int) : Prop := ∀ k, k < 4 → -2000000000 ≤ a k ∧ a k ≤ 2000000000
theorem mW_b {cb : Nat → Bool} {w : Nat → Int} (hw : WB w) : 0 ≤ mW cb w 4 ∧ mW cb w 4 ≤ 400 := by
  have := fsum_b (f := fun k => if cb k = true then w k else 0) (lo := 0) (hi := 100) 4 (fun k hk => by
    have := hw k hk
    by_cases h : cb k = true
    · simp only [if_pos h]; exact this
    · simp only [if_neg h]; decide)
  unfold mW; omega
theorem mT_b {cb : Nat → Bool} {w a : Nat → Int} (hw : WB w) (ha : AB a) : -800000000000 ≤ mT cb w a 4 ∧ mT cb w a 4 ≤ 800000000000 := by
  have := fsum_b (f := fun k => if cb k = true then w k * a k else 0) (lo := -200000000000) (hi := 200000000000) 4 (fun k hk => by
    have := mul100 (hw k hk) (M := 2000000000) (by decide) (ha k hk)
    by_cases h : cb k = true
    · simp only [if_pos h]; omega
    · simp only [if_neg h]; decide)
  unfold mT; omega
theorem s_blend {μ : MM} (hw : Wf μ) {cb : Nat → Bool} {w a : Nat → Int} (hW : WB w) (hA : AB a) (h30 : ∀ k, k < 4 → gI μ 30 k = bi (cb k)) (h29 : ∀ k, k < 4 → gL μ 29 k = lI (a k)) : f_Si_blend 24 (oI (w 0)) (oI (w 1)) (oI (w 2)) (oI (w 3)) μ = some (lI (mix cb w a)) := by
  have bW := mW_b (cb := cb) hW
  have bT := mT_b (cb := cb) hW hA
  unfold f_Si_blend
  rw [kO_24 hw, bsome]
  refine upA 4 (fun n k => f_Si_blend_L9 24 (oI (w 0)) (oI (w 1)) (oI (w 2)) (oI (w 3)) μ n (lI (mT cb w a k)) (lI (mW cb w k)) (nI k)) _ (fun n => ?_) (fun n k hk => ?_) 0 FU (by decide) (by decide)
  · show f_Si_blend_L9 24 (oI (w 0)) (oI (w 1)) (oI (w 2)) (oI (w 3)) μ (n + 1) _ _ (nI 4) = _
    rw [e_Si_blend_L9, rR_24_6 hw, bsome, aN_29 hw, bsome, if_pos (by decide)]
    simp only [lgc_le, lI_toInt (z := mW cb w 4) (by omega) (by omega), show (0 : Int64).toInt = 0 by decide]
    unfold mix
    by_cases e : 0 < mW cb w 4
    · rw [if_neg (by omega), if_pos e, s_floorDiv (by omega) e (by omega), bsome]
    · rw [if_pos (by omega), if_neg e, show (2 : Int32) = nI 2 from rfl, bsome, aL_29 hw (by decide), bsome, h29 2 (by decide)]
  · show f_Si_blend_L9 24 (oI (w 0)) (oI (w 1)) (oI (w 2)) (oI (w 3)) μ (n + 1) (lI (mT cb w a k)) (lI (mW cb w k)) (nI k) = f_Si_blend_L9 24 (oI (w 0)) (oI (w 1)) (oI (w 2)) (oI (w 3)) μ n (lI (mT cb w a k + if cb k = true then w k * a k else 0)) (lI (mW cb w k + if cb k = true then w k else 0)) (nI (k + 1))
    have j50 : ∀ X1 X2 X3 X4 : Int32, f_Si_blend_J50 (f_Si_blend_L9 24 X1 X2 X3 X4 μ n) 24 X1 X2 X3 X4 (lI (mT cb w a k)) (lI (mW cb w k)) (nI k) (oI (w k)) μ = f_Si_blend_L9 24 X1 X2 X3 X4 μ n (lI (mT cb w a k + if cb k = true then w k * a k else 0)) (lI (mW cb w k + if cb k = true then w k else 0)) (nI (k + 1)) := fun X1 X2 X3 X4 => by
      have b := hW k hk
      unfold f_Si_blend_J50
      rw [rR_24_7 hw, bsome, aB_30 hw hk, bsome, h30 k hk, rR_24_6 hw, bsome, aL_29 hw hk, bsome, h29 k hk, oI_l (by omega) (by omega), lI_mul, lI_add, lI_add, nI_1]
      cases cb k with
      | false => rw [if_pos (by decide), if_neg (by decide), if_neg (by decide), Int.add_zero, Int.add_zero]
      | true => rw [if_neg (by decide), if_pos rfl, if_pos rfl]
    rw [e_Si_blend_L9, rR_24_6 hw, bsome, aN_29 hw, bsome, if_neg (show ¬ nI 4 ≤ nI k by rw [cle (by decide) (by omega)]; omega)]
    rcases (show k = 0 ∨ k = 1 ∨ k = 2 ∨ k = 3 by omega) with rfl | rfl | rfl | rfl
    · rw [if_pos (by decide), j50]
    · rw [if_neg (by decide), if_pos (by decide), j50]
    · rw [if_neg (by decide), if_neg (by decide), if_pos (by decide), j50]
    · rw [if_neg (by decide), if_neg (by decide), if_neg (by decide), j50]
