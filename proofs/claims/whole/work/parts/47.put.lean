/-! LAYER 2: notes are put, links fall -/
def flk (key ln : Nat → Int32) (v b : Nat) : Nat → Int32 := fun x => if (x = b ∨ x = b + 1) ∧ x < 24 ∧ ln x = nI v ∧ hld key (nI v) (nI x) = false then -1 else ln x
def fs1 (μ : MM) (a kc v k : Nat) : MM := if gI μ a k = nI v ∧ hld (gI μ kc) (nI v) (nI k) = false then sI μ a k (-1) else μ
def fs2 (μ : MM) (a kc v b : Nat) : MM := if b + 1 < 24 then fs1 (fs1 μ a kc v b) a kc v (b + 1) else fs1 μ a kc v b
def Pc1 (c : Nat) (a _k : Nat) : Bool := a == c
theorem fs1_sm (μ : MM) (a kc v k : Nat) : Sm (Pc1 a) μ (fs1 μ a kc v k) := by
  unfold fs1
  split
  · exact Sm.sI (by simp [Pc1])
  · exact Sm.rf
theorem fs2_sm (μ : MM) (a kc v b : Nat) : Sm (Pc1 a) μ (fs2 μ a kc v b) := by
  unfold fs2
  split
  · exact (fs1_sm _ _ _ _ _).tr (fs1_sm _ _ _ _ _)
  · exact fs1_sm _ _ _ _ _
theorem Pc1_ne {c a : Nat} (h : a ≠ c) (k : Nat) : Pc1 c a k = false := by simp [Pc1, h]
theorem fs1_g {μ : MM} {a kc v k : Nat} : gI (fs1 μ a kc v k) a = fun x => if x = k ∧ gI μ a x = nI v ∧ hld (gI μ kc) (nI v) (nI x) = false then -1 else gI μ a x := by
  funext x
  unfold fs1
  by_cases hc : gI μ a k = nI v ∧ hld (gI μ kc) (nI v) (nI k) = false
  · rw [if_pos hc, gI_sI]
    unfold upd
    by_cases e : x = k
    · subst e; rw [if_pos rfl, if_pos ⟨rfl, hc⟩]
    · rw [if_neg e, if_neg (fun z => e z.1)]
  · rw [if_neg hc, if_neg]
    rintro ⟨rfl, z⟩
    exact hc z
theorem fs2_g {μ : MM} {a kc v b : Nat} (hne : kc ≠ a) (hb : b < 24) : gI (fs2 μ a kc v b) a = flk (gI μ kc) (gI μ a) v b := by
  funext x
  unfold fs2 flk
  by_cases h1 : b + 1 < 24
  · rw [if_pos h1, fs1_g, (fs1_sm μ a kc v b).gI kc (Pc1_ne hne), fs1_g]
    by_cases e1 : x = b + 1
    · subst e1
      have : ¬ (b + 1 = b) := by omega
      simp [this, h1]
    · by_cases e2 : x = b
      · subst e2
        simp [hb]
      · simp [e1, e2]
  · rw [if_neg h1, fs1_g]
    by_cases e2 : x = b
    · subst e2; simp [hb]
    · by_cases e1 : x = b + 1
      · subst e1; simp [h1]
      · simp [e1, e2]
theorem put_step {μ : MM} (hw : Wf μ) {v b k n : Nat} (hv : v < 6) (hb : b < 24) (hk : k ≤ b + 1) (hk2 : k < 24) : f_Sc_put_L50 1 (nI v) (nI b) (n + 1) (nI k) μ = f_Sc_put_L50 1 (nI v) (nI b) n (nI (k + 1)) (fs1 μ 6 2 v k) := by
  rw [e_Sc_put_L50, nI_1, if_neg (nI_nlt (by omega) (by omega)), if_neg (show ¬ (24 : Int32) ≤ nI k from nI_ge (b := 24) (by omega) (by omega)), rR_1_4 hw, bsome, aI_6 hw (by omega), bsome, s_holds hw, bsome, bsome, uI_6 hw (by omega), bsome, nI_1]
  unfold fs1
  by_cases h1 : gI μ 6 k = nI v
  · rw [if_pos h1]
    cases h2 : hld (gI μ 2) (nI v) (nI k) with
    | false => rw [if_pos (by decide), if_pos ⟨h1, rfl⟩]
    | true => rw [if_neg (by decide), if_neg (fun z => by cases z.2)]
  · rw [if_neg h1, if_neg (fun z => h1 z.1)]
theorem put_end {μ : MM} {v b k n : Nat} (hb : b < 24) (hk : b + 1 < k ∨ 24 ≤ k) (hk2 : k < 100) : f_Sc_put_L50 1 (nI v) (nI b) (n + 1) (nI k) μ = f_Sc_put_J100 1 μ := by
  rw [e_Sc_put_L50, nI_1]
  by_cases h : b + 1 < k
  · rw [if_pos (nI_lt h (by omega))]
  · rw [if_neg (nI_nlt (by omega) (by omega)), if_pos (show (24 : Int32) ≤ nI k from nI_le (a := 24) (by omega) (by omega))]
theorem put_all {μ : MM} (hw : Wf μ) {v b n : Nat} (hv : v < 6) (hb : b < 24) : f_Sc_put_L50 1 (nI v) (nI b) (n + 3) (nI b) μ = f_Sc_tune 1 (fs2 μ 6 2 v b) := by
  have fin : ∀ μ, f_Sc_put_J100 1 μ = f_Sc_tune 1 μ := fun μ => by
    unfold f_Sc_put_J100
    cases f_Sc_tune 1 μ <;> rfl
  rw [show n + 3 = n + 2 + 1 from rfl, put_step hw hv hb (by omega) hb]
  unfold fs2
  have hw1 : Wf (fs1 μ 6 2 v b) := (fs1_sm _ _ _ _ _).wf hw
  by_cases h1 : b + 1 < 24
  · rw [if_pos h1, show n + 2 = n + 1 + 1 from rfl, put_step hw1 hv hb (by omega) h1, put_end hb (by omega) (by omega), fin]
  · rw [if_neg h1, show n + 2 = n + 1 + 1 from rfl, put_end hb (by omega) (by omega), fin]
theorem fal_step {μ : MM} (hw : Wf μ) {v b k n : Nat} (hv : v < 6) (hb : b < 24) (hk : k ≤ b + 1) (hk2 : k < 24) : f_M_falls_L2 49 (nI v) (nI b) (n + 1) (nI k) μ = f_M_falls_L2 49 (nI v) (nI b) n (nI (k + 1)) (fs1 μ 56 51 v k) := by
  rw [e_M_falls_L2, nI_1, if_neg (show ¬ (24 : Int32) ≤ nI k from nI_ge (b := 24) (by omega) (by omega)), if_neg (nI_nlt (by omega) (by omega)), rR_49_7 hw, bsome, aI_56 hw (by omega), bsome, s_isHeld hw, bsome, bsome, uI_56 hw (by omega), bsome, nI_1]
  unfold fs1
  by_cases h1 : gI μ 56 k = nI v
  · rw [if_pos h1]
    cases h2 : hld (gI μ 51) (nI v) (nI k) with
    | false => rw [if_pos (by decide), if_pos ⟨h1, rfl⟩]
    | true => rw [if_neg (by decide), if_neg (fun z => by cases z.2)]
  · rw [if_neg h1, if_neg (fun z => h1 z.1)]
theorem fal_end {μ : MM} {v b k n : Nat} (hb : b < 24) (hk : b + 1 < k ∨ 24 ≤ k) (hk2 : k < 100) : f_M_falls_L2 49 (nI v) (nI b) (n + 1) (nI k) μ = some μ := by
  rw [e_M_falls_L2, nI_1]
  by_cases h : 24 ≤ k
  · rw [if_pos (show (24 : Int32) ≤ nI k from nI_le (a := 24) (by omega) (by omega))]
  · rw [if_neg (show ¬ (24 : Int32) ≤ nI k from nI_ge (b := 24) (by omega) (by omega)), if_pos (nI_lt (by omega) (by omega))]
theorem fal_all {μ : MM} (hw : Wf μ) {v b : Nat} (hv : v < 6) (hb : b < 24) : f_M_falls 49 (nI v) (nI b) μ = some (fs2 μ 56 51 v b) := by
  unfold f_M_falls
  rw [kO_49 hw, bsome, show FU = 999999997 + 2 + 1 from rfl, fal_step hw hv hb (by omega) hb]
  unfold fs2
  have hw1 : Wf (fs1 μ 56 51 v b) := (fs1_sm _ _ _ _ _).wf hw
  by_cases h1 : b + 1 < 24
  · rw [if_pos h1, show 999999997 + 2 = 999999998 + 1 from rfl, fal_step hw1 hv hb (by omega) h1, show 999999998 = 999999997 + 1 from rfl, fal_end hb (by omega) (by omega)]
  · rw [if_neg h1, show 999999997 + 2 = 999999998 + 1 from rfl, fal_end hb (by omega) (by omega)]
/-- a note put in place: key, exponents; then the links fall -/
def pput (p : PT) (v b : Nat) (k : Int32) (a b' c : Int) : PT :=
  let key := upd (pkey p) (24 * v + b) k
  (key, (fun x => if x = 24 * v + b then a else pa p x), (fun x => if x = 24 * v + b then b' else pb p x), (fun x => if x = 24 * v + b then c else pc p x), pbr p, flk key (pln p) v b)
