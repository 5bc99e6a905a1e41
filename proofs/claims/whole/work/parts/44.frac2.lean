/-! LAYER 2: exponents and sizes -/
def oI (z : Int) : Int32 := Int32.ofInt z
theorem oI_add (a b : Int) : oI a + oI b = oI (a + b) := (Int32.ofInt_add a b).symm
theorem oI_sub (a b : Int) : oI a - oI b = oI (a - b) := (Int32.ofInt_sub a b).symm
theorem oI_mul (a b : Int) : oI a * oI b = oI (a * b) := (Int32.ofInt_mul a b).symm
theorem oI_nI (n : Nat) : nI n = oI n := (Int32.ofInt_eq_ofNat (n := n)).symm
theorem oI_toInt {z : Int} (h1 : -2147483648 ≤ z) (h2 : z < 2147483648) : (oI z).toInt = z := by
  unfold oI
  rw [Int32.toInt_ofInt]
  have hs : Int32.size = 4294967296 := rfl
  rw [hs]
  exact Int.bmod_eq_of_le (by omega) (by omega)
def mil (a b c : Int) : Int := 1200000 * a + 1901955 * b + 2786314 * c
def pk (a b c : Int) : Int32 := oI (1048576 * a + 1024 * b + c)
theorem pk_packN (a b c : Nat) : packN a b c = pk a b c := by
  unfold packN pk; rw [oI_nI]; congr 1
theorem pk_sub3 (a b c a' b' c' : Int) : pk a b c - pk a' b' c' = pk (a - a') (b - b') (c - c') := by
  unfold pk; rw [oI_sub]; congr 1; omega
theorem pk_add3 (a b c a' b' c' : Int) : pk a b c + pk a' b' c' = pk (a + a') (b + b') (c + c') := by
  unfold pk; rw [oI_add]; congr 1; omega
theorem pk_inj {a b c a' b' c' : Int} (h1 : -512 < a ∧ a < 512 ∧ -512 < b ∧ b < 512 ∧ -512 < c ∧ c < 512) (h2 : -512 < a' ∧ a' < 512 ∧ -512 < b' ∧ b' < 512 ∧ -512 < c' ∧ c' < 512) (h : pk a b c = pk a' b' c') : a = a' ∧ b = b' ∧ c = c' := by
  have := congrArg Int32.toInt h
  unfold pk at this
  rw [oI_toInt (by omega) (by omega), oI_toInt (by omega) (by omega)] at this
  omega
theorem pk_mid {a b c : Int} (h : -512 ≤ a ∧ a < 512 ∧ -512 ≤ b ∧ b < 512 ∧ -512 ≤ c ∧ c < 512) : pk a b c + (537395712 : Int32) = nI (1048576 * (a + 512).toNat + 1024 * (b + 512).toNat + (c + 512).toNat) := by
  rw [show (537395712 : Int32) = oI 537395712 from rfl]
  unfold pk
  rw [oI_add, oI_nI]
  congr 1
  omega
theorem s_exponent {a b c : Int} (h : -512 ≤ a ∧ a < 512 ∧ -512 ≤ b ∧ b < 512 ∧ -512 ≤ c ∧ c < 512) : f_Fr_exponent (pk a b c) 1 = some (oI a) ∧ f_Fr_exponent (pk a b c) 2 = some (oI b) ∧ f_Fr_exponent (pk a b c) 3 = some (oI c) := by
  unfold f_Fr_exponent ishr
  rw [pk_mid h]
  have hN : 1048576 * (a + 512).toNat + 1024 * (b + 512).toNat + (c + 512).toNat < 2 ^ 31 := by omega
  refine ⟨?_, ?_, ?_⟩
  · rw [pk_shrN hN _ 20 (by decide), pk_andN (by omega) 10 (by decide), show (512 : Int32) = oI 512 from rfl, oI_nI, oI_sub]
    congr 2; omega
  · rw [pk_shrN hN _ 10 (by decide), pk_andN (by omega) 10 (by decide), show (512 : Int32) = oI 512 from rfl, oI_nI, oI_sub]
    congr 2; omega
  · rw [pk_shrN hN _ 0 (by decide), pk_andN (by omega) 10 (by decide), show (512 : Int32) = oI 512 from rfl, oI_nI, oI_sub]
    congr 2; omega
theorem milI (a b c : Int) : (((1200000 : Int32) * oI a) + ((1901955 : Int32) * oI b)) + ((2786314 : Int32) * oI c) = oI (mil a b c) := by
  rw [show (1200000 : Int32) = oI 1200000 from rfl, show (1901955 : Int32) = oI 1901955 from rfl, show (2786314 : Int32) = oI 2786314 from rfl, oI_mul, oI_mul, oI_mul, oI_add, oI_add]
  rfl
theorem s_Frmills {a b c : Int} (h : -512 ≤ a ∧ a < 512 ∧ -512 ≤ b ∧ b < 512 ∧ -512 ≤ c ∧ c < 512) : f_Fr_mills (pk a b c) = some (oI (mil a b c)) := by
  unfold f_Fr_mills
  obtain ⟨h1, h2, h3⟩ := s_exponent h
  rw [h1, bsome, h2, bsome, h3, bsome, milI]
theorem s_Mmills (a b c : Int) : f_M_mills (oI a) (oI b) (oI c) = some (oI (mil a b c)) := by
  unfold f_M_mills; rw [milI]
theorem fr_big {x : Int32} (h : x < 1 ∨ ¬ x ≤ (2000 : Int32)) : f_Fr_ofNumber x = some (-2147483648) ∧ f_M_lies x.toInt64 (1 : Int64) (2000 : Int64) = some 0 := by
  rw [s_liesI x 1 2000 1 2000 (by decide) (by decide)]
  rw [toInt_lt, toInt_le] at h
  have e1 : (1 : Int32).toInt = 1 := by decide
  have e2 : (2000 : Int32).toInt = 2000 := by decide
  rw [e1, e2] at h
  constructor
  · unfold f_Fr_ofNumber
    by_cases h1 : x < (1 : Int32)
    · rw [if_pos h1]
    · rw [if_neg h1]
      have h2 : ¬ x ≤ (2000 : Int32) := by
        rw [toInt_lt, e1] at h1
        rw [toInt_le, e2]; omega
      rw [if_neg h2]
  · rw [decide_eq_false (by omega)]; rfl
theorem fr_in {x : Int32} (h : ¬ x < 1 ∧ x ≤ (2000 : Int32)) : ∃ n, 0 < n ∧ n < 2001 ∧ x = nI n ∧ f_M_lies x.toInt64 (1 : Int64) (2000 : Int64) = some 1 := by
  rw [s_liesI x 1 2000 1 2000 (by decide) (by decide)]
  rw [toInt_lt, toInt_le] at h
  have e1 : (1 : Int32).toInt = 1 := by decide
  have e2 : (2000 : Int32).toInt = 2000 := by decide
  rw [e1, e2] at h
  refine ⟨x.toInt.toNat, by omega, by omega, ?_, by rw [decide_eq_true (by omega)]; rfl⟩
  apply Int32.toInt_inj.mp
  rw [nI_toInt (by omega)]
  omega
/-- the bounds of a fraction's exponents -/
def fb3 (a b c : Int) : Prop := -10 ≤ a ∧ a ≤ 10 ∧ -6 ≤ b ∧ b ≤ 6 ∧ -4 ≤ c ∧ c ≤ 4
theorem fb3.w {a b c : Int} (h : fb3 a b c) : -512 ≤ a ∧ a < 512 ∧ -512 ≤ b ∧ b < 512 ∧ -512 ≤ c ∧ c < 512 := by unfold fb3 at h; omega
theorem pk_ne_min {a b c : Int} (h : -512 ≤ a ∧ a < 512 ∧ -512 ≤ b ∧ b < 512 ∧ -512 ≤ c ∧ c < 512) : ¬ pk a b c = (-2147483648 : Int32) := by
  intro e
  have := congrArg Int32.toInt e
  unfold pk at this
  rw [oI_toInt (by omega) (by omega)] at this
  have h2 : (-2147483648 : Int32).toInt = -2147483648 := by decide
  omega
/-- a fraction is taken by both or by none -/
theorem of_case (x y : Int32) : (f_Fr_of x y = some (-2147483648) ∧ f_M_isFraction x y = some 0) ∨
    ∃ a b c : Int, fb3 a b c ∧ (-3000000 ≤ mil a b c ∧ mil a b c ≤ 3000000) ∧ f_Fr_of x y = some (pk a b c) ∧ f_M_isFraction x y = some 1 ∧ f_M_fraction x y = some (oI (mil a b c)) ∧
      (∃ u w, f_M_powerOf x 2 = some u ∧ f_M_powerOf y 2 = some w ∧ u - w = oI a) ∧ (∃ u w, f_M_powerOf x 3 = some u ∧ f_M_powerOf y 3 = some w ∧ u - w = oI b) ∧ (∃ u w, f_M_powerOf x 5 = some u ∧ f_M_powerOf y 5 = some w ∧ u - w = oI c) := by
  by_cases hx : x < 1 ∨ ¬ x ≤ (2000 : Int32)
  · obtain ⟨h1, h2⟩ := fr_big hx
    left
    constructor
    · unfold f_Fr_of
      rw [h1, bsome]
      have : ∃ w, f_Fr_ofNumber y = some w := by
        by_cases hy : y < 1 ∨ ¬ y ≤ (2000 : Int32)
        · exact ⟨_, (fr_big hy).1⟩
        · obtain ⟨n, n0, n1, rfl, -⟩ := fr_in (x := y) ⟨fun z => hy (Or.inl z), Classical.byContradiction fun z => hy (Or.inr z)⟩
          exact ⟨_, (fr_num n1 n0).1⟩
      obtain ⟨w, hw⟩ := this
      rw [hw]; rfl
    · unfold f_M_isFraction
      rw [h2]; rfl
  · obtain ⟨n, n0, n1, rfl, hl⟩ := fr_in (x := x) ⟨fun z => hx (Or.inl z), Classical.byContradiction fun z => hx (Or.inr z)⟩
    obtain ⟨A1, A2, A3, A4, A5, A6, A7, A8⟩ := fr_num n1 n0
    by_cases hy : y < 1 ∨ ¬ y ≤ (2000 : Int32)
    · obtain ⟨h1, h2⟩ := fr_big hy
      left
      constructor
      · unfold f_Fr_of
        rw [A1, h1, bsome, bsome]
        by_cases e : (if smo n = true then packN (q2 n) (q3 n) (q5 n) else -2147483648) = (-2147483648 : Int32)
        · rw [if_pos e]
        · rw [if_neg e]; rfl
      · unfold f_M_isFraction
        rw [hl, h2]; rfl
    · obtain ⟨k, k0, k1, rfl, hk⟩ := fr_in (x := y) ⟨fun z => hy (Or.inl z), Classical.byContradiction fun z => hy (Or.inr z)⟩
      obtain ⟨B1, B2, B3, B4, B5, B6, B7, B8⟩ := fr_num k1 k0
      have m1 : ∀ {z : Nat}, z < 2001 → (nI z = (1 : Int32)) = (z = 1) := fun hz => ceq (b := 1) (by omega) (by decide)
      cases hs : smo n with
      | false =>
        left
        constructor
        · unfold f_Fr_of
          rw [A1, B1, bsome, bsome, hs]; rfl
        · unfold f_M_isFraction
          rw [hl, hk, A5, bsome, bsome, bsome, if_neg (by decide), if_neg (by decide), if_neg]
          rw [m1 A7, A6, hs]; decide
      | true =>
        cases hs2 : smo k with
        | false =>
          left
          constructor
          · unfold f_Fr_of
            rw [A1, B1, bsome, bsome, hs, hs2]
            by_cases e : packN (q2 n) (q3 n) (q5 n) = (-2147483648 : Int32) <;> simp [e]
          · unfold f_M_isFraction
            rw [hl, hk, A5, bsome, bsome, bsome, if_neg (by decide), if_neg (by decide), if_pos, B5, bsome, if_neg]
            · rw [m1 B7, B6, hs2]; decide
            · rw [m1 A7, A6, hs]
        | true =>
          have hb : fb3 ((q2 n : Int) - q2 k) ((q3 n : Int) - q3 k) ((q5 n : Int) - q5 k) := by unfold fb3; omega
          have F1 : f_M_fraction (nI n) (nI k) = some (oI (mil ((q2 n : Int) - q2 k) ((q3 n : Int) - q3 k) ((q5 n : Int) - q5 k))) := by
            unfold f_M_fraction
            rw [A2, B2, A3, B3, A4, B4]
            simp only [bsome]
            rw [oI_nI, oI_nI, oI_nI, oI_nI, oI_nI, oI_nI, oI_sub, oI_sub, oI_sub, s_Mmills]; rfl
          have hmb : -100000000 < mil ((q2 n : Int) - q2 k) ((q3 n : Int) - q3 k) ((q5 n : Int) - q5 k) ∧ mil ((q2 n : Int) - q2 k) ((q3 n : Int) - q3 k) ((q5 n : Int) - q5 k) < 100000000 := by
            unfold fb3 at hb; unfold mil; omega
          have F2 : f_M_isFraction (nI n) (nI k) = some (bi (decide (-3000000 ≤ mil ((q2 n : Int) - q2 k) ((q3 n : Int) - q3 k) ((q5 n : Int) - q5 k) ∧ mil ((q2 n : Int) - q2 k) ((q3 n : Int) - q3 k) ((q5 n : Int) - q5 k) ≤ 3000000))) := by
            unfold f_M_isFraction
            rw [hl, hk, A5, bsome, bsome, bsome, if_neg (by decide), if_neg (by decide), if_pos, B5, bsome, if_pos, F1, bsome, s_liesI _ (-3000000) 3000000 (-3000000) 3000000 (by decide) (by decide), bsome, oI_toInt (by omega) (by omega)]
            · by_cases e : -3000000 ≤ mil ((q2 n : Int) - q2 k) ((q3 n : Int) - q3 k) ((q5 n : Int) - q5 k) ∧ mil ((q2 n : Int) - q2 k) ((q3 n : Int) - q3 k) ((q5 n : Int) - q5 k) ≤ 3000000
              · rw [decide_eq_true e]; rfl
              · rw [decide_eq_false e]; rfl
            · rw [m1 B7, B6, hs2]
            · rw [m1 A7, A6, hs]
          have F3 : f_Fr_of (nI n) (nI k) = some (if -3000000 ≤ mil ((q2 n : Int) - q2 k) ((q3 n : Int) - q3 k) ((q5 n : Int) - q5 k) ∧ mil ((q2 n : Int) - q2 k) ((q3 n : Int) - q3 k) ((q5 n : Int) - q5 k) ≤ 3000000 then pk ((q2 n : Int) - q2 k) ((q3 n : Int) - q3 k) ((q5 n : Int) - q5 k) else -2147483648) := by
            unfold f_Fr_of
            rw [A1, B1, bsome, bsome, hs, hs2, if_pos rfl, if_pos rfl, pk_packN, pk_packN, if_neg (pk_ne_min (by omega)), if_neg (pk_ne_min (by omega)), pk_sub3, s_Frmills hb.w, bsome]
            simp only [toInt_lt, toInt_le]
            simp only [oI_toInt (z := mil ((q2 n : Int) - q2 k) ((q3 n : Int) - q3 k) ((q5 n : Int) - q5 k)) (by omega) (by omega), show (-3000000 : Int32).toInt = -3000000 by decide, show (3000000 : Int32).toInt = 3000000 by decide]
            by_cases e1 : mil ((q2 n : Int) - q2 k) ((q3 n : Int) - q3 k) ((q5 n : Int) - q5 k) < -3000000
            · rw [if_pos e1, if_neg (by omega)]
            · rw [if_neg e1]
              by_cases e2 : mil ((q2 n : Int) - q2 k) ((q3 n : Int) - q3 k) ((q5 n : Int) - q5 k) ≤ 3000000
              · rw [if_pos e2, if_pos (by omega)]
              · rw [if_neg e2, if_neg (by omega)]
          by_cases e : -3000000 ≤ mil ((q2 n : Int) - q2 k) ((q3 n : Int) - q3 k) ((q5 n : Int) - q5 k) ∧ mil ((q2 n : Int) - q2 k) ((q3 n : Int) - q3 k) ((q5 n : Int) - q5 k) ≤ 3000000
          · right
            rw [if_pos e] at F3
            rw [decide_eq_true e] at F2
            exact ⟨_, _, _, hb, e, F3, F2, F1, ⟨_, _, A2, B2, by rw [oI_nI, oI_nI, oI_sub]⟩, ⟨_, _, A3, B3, by rw [oI_nI, oI_nI, oI_sub]⟩, ⟨_, _, A4, B4, by rw [oI_nI, oI_nI, oI_sub]⟩⟩
          · left
            rw [if_neg e] at F3
            rw [decide_eq_false e] at F2
            exact ⟨F3, F2⟩
