/-! LAYER 2: hears -/
def dst (a b : Nat) : Nat := (a - b) + (b - a)
def hrd (l a b : Nat) : Nat := l * (8 - dst a b)
theorem heard_t : ∀ l, l < 10 → ∀ a, a < 16 → ∀ b, b < 16 → f_Ch_heard (nI l) (nI a) (nI b) = some (nI (hrd l a b)) := by decide +kernel
theorem heard_u : ∀ l, l < 10 → ∀ d, d < 16 → (if (8 : Int32) ≤ nI d then (0 : Int32) else nI l * ((8 : Int32) - nI d)) = nI (l * (8 - d)) := by decide +kernel
def Prd (a k : Nat) : Bool := a == 81 || a == 82 || (a == 49 && (k == 52 || k == 53))
theorem s_readies {c : CT} {μ : MM} (hw : Wf μ) (hc : WC c) (hm : MG c μ) : ∃ μ', f_M_readies 49 μ = some μ' ∧ Sm Prd μ μ' ∧ (∀ i, i < cN c → gI μ' 81 i = nI (cP c i) ∧ gI μ' 82 i = nI (cK c i)) ∧ gI μ' 49 52 = nI (cG c) ∧ gI μ' 49 53 = 0 := by
  have h8 := hc.1
  unfold f_M_readies
  rw [kO_49 hw, bsome]
  refine upM (cN c) (fun k s => Sm Prd μ s ∧ gI s 49 18 = gI μ 49 18 ∧ gI s 49 21 = gI μ 49 21 ∧ ∀ i, i < k → gI s 81 i = nI (cP c i) ∧ gI s 82 i = nI (cK c i)) (fun n k s => f_M_readies_L2 49 n (nI k) s) _ (fun n s hi => ?_) (fun n k s hk hi => Or.inr ?_) 0 FU μ (by omega) (by unfold FU; omega) ⟨Sm.rf, rfl, rfl, fun i hi => absurd hi (by omega)⟩
  · obtain ⟨hs, e18, e21, hi⟩ := hi
    have ws := hs.wf hw
    obtain ⟨s1, hs1⟩ : ∃ x, x = sI s 49 52 (nI (cG c)) := ⟨_, rfl⟩
    obtain ⟨s2, hs2⟩ : ∃ x, x = sI s1 49 53 (0 : Int32) := ⟨_, rfl⟩
    have t1 : Sm Prd μ s1 := by rw [hs1]; exact hs.tr (Sm.sI rfl)
    have t2 : Sm Prd μ s2 := by rw [hs2]; exact t1.tr (Sm.sI rfl)
    refine ⟨s2, ?_, t2, ?_, ?_, ?_⟩
    · show f_M_readies_L2 49 (n + 1) (nI (cN c)) s = _
      rw [e_M_readies_L2, rI_49 ws, bsome, e18, hm.1, if_pos (show nI (cN c) ≤ nI (cN c) by rw [cle (by omega) (by omega)]; omega), rI_49 ws, bsome, e21, hm.2.2.2.1, pI_49 ws, bsome, ← hs1, pI_49 (t1.wf hw), bsome, ← hs2]
    · rw [hs2, gI_sI_ne (by decide), gI_sI_ne (by decide), hs1, gI_sI_ne (by decide), gI_sI_ne (by decide)]; exact hi
    · rw [hs2, hs1]; simp [gI_sI, upd]
    · rw [hs2]; simp [gI_sI, upd]
  · obtain ⟨hs, e18, e21, hi⟩ := hi
    have ws := hs.wf hw
    have g64 : gI s 64 k = nI (cP c k) := by rw [hs.gI 64 (fun _ => rfl)]; exact (hm.2.2.2.2.1 k hk).2.1
    obtain ⟨s1, hs1⟩ : ∃ x, x = sI s 81 k (nI (cP c k)) := ⟨_, rfl⟩
    obtain ⟨s2, hs2⟩ : ∃ x, x = sI s1 82 k (nI (cK c k)) := ⟨_, rfl⟩
    have t1 : Sm Prd μ s1 := by rw [hs1]; exact hs.tr (Sm.sI rfl)
    have t2 : Sm Prd μ s2 := by rw [hs2]; exact t1.tr (Sm.sI rfl)
    have w1 := t1.wf hw
    have g66 : gI s1 66 k = nI (cK c k) := by rw [t1.gI 66 (fun _ => rfl)]; exact (hm.2.2.2.2.1 k hk).2.2.2
    refine ⟨s2, ?_, t2, ?_, ?_, fun i hi2 => ?_⟩
    · show f_M_readies_L2 49 (n + 1) (nI k) s = f_M_readies_L2 49 n (nI (k + 1)) s2
      rw [e_M_readies_L2, rI_49 ws, bsome, e18, hm.1, if_neg (show ¬ nI (cN c) ≤ nI k by rw [cle (by omega) (by omega)]; omega), rR_49_50 ws, bsome, rR_49_23 ws, bsome, aI_64 ws (by omega), bsome, g64, uI_81 ws (by omega), bsome, ← hs1, rR_49_51 w1, bsome, rR_49_25 w1, bsome, aI_66 w1 (by omega), bsome, g66, uI_82 w1 (by omega), bsome, ← hs2, nI_1]
    · rw [hs2, gI_sI_ne (by decide), hs1, gI_sI_ne (by decide)]; exact e18
    · rw [hs2, gI_sI_ne (by decide), hs1, gI_sI_ne (by decide)]; exact e21
    · have g81 : gI s2 81 = upd (gI s 81) k (nI (cP c k)) := by rw [hs2, gI_sI_ne (by decide), hs1, gI_sI]
      have g82 : gI s2 82 = upd (gI s 82) k (nI (cK c k)) := by rw [hs2, gI_sI, hs1, gI_sI_ne (by decide)]
      rw [g81, g82]
      unfold upd
      by_cases e : i = k
      · subst e; rw [if_pos rfl, if_pos rfl]; exact ⟨rfl, rfl⟩
      · rw [if_neg e, if_neg e]; exact hi i (by omega)
theorem s_hearsOf {c : CT} {μ : MM} (hw : Wf μ) (hc : WC c) (hm : ∀ i, i < cN c → gI μ 65 i = nI (cL c i)) {pl : Nat → Nat} (hpl : ∀ i, i < cN c → pl i < 16 ∧ gI μ 81 i = nI (pl i)) {x y : Nat} (hx : x < cN c) (hy : y < cN c) : f_M_hearsOf 49 (nI x) (nI y) μ = some (nI (hrd (cL c y) (pl x) (pl y))) := by
  have h8 := hc.1
  have ly := (hc.2.1 y hy).2.2.1
  obtain ⟨px, ex⟩ := hpl x hx
  obtain ⟨py, ey⟩ := hpl y hy
  have fin : ∀ d, d < 16 → f_M_hearsOf_J44 49 (nI y) (nI d) μ = some (nI (cL c y * (8 - d))) := fun d hd => by
    unfold f_M_hearsOf_J44
    rw [rR_49_24 hw, bsome, aI_65 hw (by omega), bsome, hm y hy, ← heard_u (cL c y) (by omega) d hd]
    split <;> rfl
  unfold f_M_hearsOf
  rw [kO_49 hw, bsome, rR_49_50 hw]
  simp only [bsm]
  rw [aI_81 hw (show x < 8 by omega), aI_81 hw (show y < 8 by omega)]
  simp only [bsm]
  rw [ex, ey]
  unfold hrd dst
  by_cases h : pl y ≤ pl x
  · rw [if_pos (show nI (pl y) ≤ nI (pl x) by rw [cle (by omega) (by omega)]; exact h), pk_sub h, fin _ (by omega)]
    congr 3; omega
  · rw [if_neg (show ¬ nI (pl y) ≤ nI (pl x) by rw [cle (by omega) (by omega)]; exact h), pk_sub (by omega), fin _ (by omega)]
    congr 3; omega
theorem hears_ok {c : CT} {μ : MM} (hw : Wf μ) (hc : WC c) (hx : XG c μ) (hm : MG c μ) (x1 x2 : Int32) : ∃ r μ2, f_X_hears 0 x1 x2 μ = some r ∧ f_M_hears 49 x1 x2 μ = some (r, μ2) ∧ Sm Prd μ μ2 := by
  have h8 := hc.1
  have no : inR x1 (cN c) = false → ∃ r μ2, f_X_hears 0 x1 x2 μ = some r ∧ f_M_hears 49 x1 x2 μ = some (r, μ2) ∧ Sm Prd μ μ2 := fun g => by
    refine ⟨-1, μ, ?_, ?_, Sm.rf⟩
    · unfold f_X_hears; rw [kO_0 hw, bsome, rR_0_1 hw, bsome, s_chas hw hc hx, g]; rfl
    · unfold f_M_hears; rw [kO_49 hw, bsome, s_isSinger hw hc hm, g]; rfl
  rcases ixc (cN c) _ rfl (by omega) x1 with ⟨g1, g2⟩ | ⟨g1, g2, g3⟩ | ⟨-, -, g3, x, hx1, rfl⟩
  · exact no g2
  · exact no g3
  have no2 : inR x2 (cN c) = false → ∃ r μ2, f_X_hears 0 (nI x) x2 μ = some r ∧ f_M_hears 49 (nI x) x2 μ = some (r, μ2) ∧ Sm Prd μ μ2 := fun g => by
    refine ⟨-1, μ, ?_, ?_, Sm.rf⟩
    · unfold f_X_hears; rw [kO_0 hw, bsome, rR_0_1 hw, bsome, s_chas hw hc hx, g3, bsome, if_neg (by decide), bsome, s_chas hw hc hx, g]; rfl
    · unfold f_M_hears; rw [kO_49 hw, bsome, s_isSinger hw hc hm, g3, bsome, if_neg (by decide), s_isSinger hw hc hm, g]; rfl
  rcases ixc (cN c) _ rfl (by omega) x2 with ⟨k1, k2⟩ | ⟨k1, k2, k3⟩ | ⟨-, -, k3, y, hy1, rfl⟩
  · exact no2 k2
  · exact no2 k3
  by_cases e : nI x = nI y
  · refine ⟨-1, μ, ?_, ?_, Sm.rf⟩
    · unfold f_X_hears; rw [kO_0 hw, bsome, rR_0_1 hw, bsome, s_chas hw hc hx, g3, bsome, if_neg (by decide), bsome, s_chas hw hc hx, k3, bsome, if_neg (by decide), if_pos e]
    · unfold f_M_hears; rw [kO_49 hw, bsome, s_isSinger hw hc hm, g3, bsome, if_neg (by decide), s_isSinger hw hc hm, k3, bsome, if_neg (by decide), if_pos e]
  · obtain ⟨μ', er, sr, gr, -, -⟩ := s_readies hw hc hm
    have bx := hc.2.1 x hx1
    have by' := hc.2.1 y hy1
    refine ⟨nI (hrd (cL c y) (cP c x) (cP c y)), μ', ?_, ?_, sr⟩
    · unfold f_X_hears
      rw [kO_0 hw, bsome, rR_0_1 hw, bsome, s_chas hw hc hx, g3, bsome, if_neg (by decide), bsome, s_chas hw hc hx, k3, bsome, if_neg (by decide), if_neg e, bsome, rR_9_3 hw, bsome, aI_12 hw (by omega), bsome, bsome, rR_9_2 hw, bsome, aI_11 hw (by omega), bsome, bsome, rR_9_2 hw, bsome, aI_11 hw (by omega), bsome, (hx.2.2.2.2.1 x hx1).2.1, (hx.2.2.2.2.1 y hy1).2.1, (hx.2.2.2.2.1 y hy1).2.2.1, heard_t _ (by omega) _ (by omega) _ (by omega), bsome]
    · unfold f_M_hears
      rw [kO_49 hw, bsome, s_isSinger hw hc hm, g3, bsome, if_neg (by decide), s_isSinger hw hc hm, k3, bsome, if_neg (by decide), if_neg e, er, bsome, s_hearsOf (sr.wf hw) hc (fun i hi => by rw [sr.gI 65 (fun _ => rfl)]; exact (hm.2.2.2.2.1 i hi).2.2.1) (fun i hi => ⟨(hc.2.1 i hi).2.1, (gr i hi).1⟩) hx1 hy1, bsome]
