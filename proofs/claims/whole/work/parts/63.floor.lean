/-! LAYER 2: long division down -/
theorem xor_sgn (x y : Int64) (hy : 0 ≤ y.toInt) : (0 ≤ (x ^^^ y).toInt) ↔ 0 ≤ x.toInt := by
  have e : ∀ z : Int64, z.toBitVec.msb = decide (z.toInt < 0) := fun z => BitVec.msb_eq_toInt
  have h := e (x ^^^ y)
  rw [Int64.toBitVec_xor, BitVec.msb_xor, e x, e y, decide_eq_false (show ¬ y.toInt < 0 by omega), Bool.xor_false, decide_eq_decide] at h
  omega
theorem tdiv_c {a b : Int} (hb : 0 < b) : (0 ≤ a ∧ a.tdiv b = a / b ∧ 0 ≤ a / b ∧ a / b ≤ a) ∨ (a < 0 ∧ a.tdiv b = -((-a) / b) ∧ 0 ≤ (-a) / b ∧ (-a) / b ≤ -a) := by
  rcases Int.lt_or_le a 0 with h | h
  · refine Or.inr ⟨h, ?_, Int.ediv_nonneg (by omega) (by omega), Int.ediv_le_self _ (by omega)⟩
    have := Int.neg_tdiv (a := -a) (b := b)
    rw [Int.neg_neg] at this
    rw [this, Int.tdiv_eq_ediv_of_nonneg (by omega)]
  · exact Or.inl ⟨h, Int.tdiv_eq_ediv_of_nonneg h, Int.ediv_nonneg h (by omega), Int.ediv_le_self _ h⟩
theorem lI_tdiv {a b : Int} (ha : -4611686018427387904 ≤ a ∧ a ≤ 4611686018427387904) (hb : 0 < b) (hb2 : b ≤ 4611686018427387904) : lI a / lI b = lI (a.tdiv b) := by
  apply Int64.toInt_inj.mp
  rw [Int64.toInt_div, lI_toInt (by omega) (by omega), lI_toInt (by omega) (by omega)]
  rcases tdiv_c (a := a) hb with ⟨h, h1, h2, h3⟩ | ⟨h, h1, h2, h3⟩
  · rw [lI_toInt (by omega) (by omega)]
    exact Int.bmod_eq_of_le (by omega) (by omega)
  · rw [lI_toInt (by omega) (by omega)]
    exact Int.bmod_eq_of_le (by omega) (by omega)
theorem ediv_neg_c {a b : Int} (hb : 0 < b) (ha : a < 0) : ((-a) % b = 0 ∧ a / b = -((-a) / b) ∧ (-a) / b * b = -a ∧ (b - 1 - a) / b = (-a) / b) ∨ (¬ (-a) % b = 0 ∧ a / b = -((-a) / b) - 1 ∧ ¬ (-a) / b * b = -a ∧ (b - 1 - a) / b = (-a) / b + 1) := by
  have h1 := Int.emod_add_mul_ediv (-a) b
  have h2 := Int.emod_nonneg (-a) (show b ≠ 0 by omega)
  have h3 := Int.emod_lt_of_pos (-a) hb
  have hc := Int.mul_comm b ((-a) / b)
  by_cases hr : (-a) % b = 0
  · refine Or.inl ⟨hr, ?_, by omega, ?_⟩
    · refine ((Int.ediv_emod_unique (a := a) (b := b) (q := -((-a) / b)) (r := 0) hb).mpr ⟨?_, by omega, hb⟩).1
      rw [Int.mul_neg]; omega
    · refine ((Int.ediv_emod_unique (a := b - 1 - a) (b := b) (q := (-a) / b) (r := b - 1) hb).mpr ⟨by omega, by omega, by omega⟩).1
  · refine Or.inr ⟨hr, ?_, by omega, ?_⟩
    · refine ((Int.ediv_emod_unique (a := a) (b := b) (q := -((-a) / b) - 1) (r := b - (-a) % b) hb).mpr ⟨?_, by omega, by omega⟩).1
      rw [Int.mul_sub, Int.mul_neg, Int.mul_one]; omega
    · refine ((Int.ediv_emod_unique (a := b - 1 - a) (b := b) (q := (-a) / b + 1) (r := (-a) % b - 1) hb).mpr ⟨?_, by omega, by omega⟩).1
      rw [Int.mul_add, Int.mul_one]; omega
theorem gdl_ok {b : Int} (hb : 0 < b) (hb2 : b ≤ 4611686018427387904) : gdl (lI b) = some () := by
  unfold gdl
  rw [if_neg]
  intro e
  have := congrArg Int64.toInt e
  rw [lI_toInt (by omega) (by omega)] at this
  have h0 : (0 : Int64).toInt = 0 := by decide
  omega
theorem s_floorDiv {a b : Int} (ha : -4611686018427387903 ≤ a ∧ a ≤ 4611686018427387903) (hb : 0 < b) (hb2 : b ≤ 1000000000000) : f_Mt_floorDiv (lI a) (lI b) = some (lI (a / b)) := by
  unfold f_Mt_floorDiv
  rw [gdl_ok hb (by omega), bsome]
  simp only [lgc_ge, lgc_eq, show (0 : Int64).toInt = 0 by decide]
  rw [lI_tdiv (by omega) hb (by omega)]
  simp only [xor_sgn (lI a) (lI b) (by rw [lI_toInt (by omega) (by omega)]; omega), lI_mul]
  rw [lI_toInt (z := a) (by omega) (by omega)]
  rcases tdiv_c (a := a) hb with ⟨h, h1, h2, h3⟩ | ⟨h, h1, h2, h3⟩
  · rw [if_pos h, h1]
  · rw [if_neg (by omega), h1]
    have hm : -(-a / b) * b = -(-a / b * b) := Int.neg_mul _ _
    rcases ediv_neg_c hb h with ⟨r, e1, e2, e3⟩ | ⟨r, e1, e2, e3⟩
    · rw [hm, e2, lI_toInt (by omega) (by omega), if_pos (by omega), e1]
    · have hq : 0 ≤ -a / b * b ∧ -a / b * b ≤ -a := by
        have := Int.emod_add_mul_ediv (-a) b
        have := Int.emod_nonneg (-a) (show b ≠ 0 by omega)
        have := Int.mul_comm b ((-a) / b)
        exact ⟨Int.mul_nonneg h2 (by omega), by omega⟩
      rw [hm, lI_toInt (by omega) (by omega), if_neg (by omega), show (1 : Int64) = lI 1 from rfl, lI_sub, e1]
theorem s_floor {a b : Int} (ha : -4611686018427387903 ≤ a ∧ a ≤ 4000000000000000000) (hb : 0 < b) (hb2 : b ≤ 1000000000000) (ha2 : -4000000000000000000 ≤ a) : f_M_floor (lI a) (lI b) = some (lI (a / b)) := by
  unfold f_M_floor
  rw [gdl_ok hb (by omega), bsome, bsome]
  simp only [lgc_lt, show (0 : Int64).toInt = 0 by decide]
  rw [lI_toInt (z := a) (by omega) (by omega), lI_tdiv (by omega) hb (by omega)]
  rcases tdiv_c (a := a) hb with ⟨h, h1, h2, h3⟩ | ⟨h, h1, h2, h3⟩
  · rw [if_neg (by omega), h1]
  · rw [if_pos h, show (1 : Int64) = lI 1 from rfl, lI_sub, lI_sub, lI_tdiv (by omega) hb (by omega), lI_neg, Int.tdiv_eq_ediv_of_nonneg (by omega)]
    rcases ediv_neg_c hb h with ⟨r, e1, e2, e3⟩ | ⟨r, e1, e2, e3⟩
    · rw [e3, e1]
    · rw [e3, e1, Int.neg_add]; rfl
