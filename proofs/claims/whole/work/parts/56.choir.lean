/-! LAYER 2: the singers as both programs hold them: how many, voices, places, louds, knowing, table, luck, wind, givings -/
abbrev CT : Type := Nat × (Nat → Nat) × (Nat → Nat) × (Nat → Nat) × (Nat → Nat) × (Nat → Int) × Nat × Int × Nat
def cN (c : CT) : Nat := c.1
def cV (c : CT) : Nat → Nat := c.2.1
def cP (c : CT) : Nat → Nat := c.2.2.1
def cL (c : CT) : Nat → Nat := c.2.2.2.1
def cK (c : CT) : Nat → Nat := c.2.2.2.2.1
def cT (c : CT) : Nat → Int := c.2.2.2.2.2.1
def cU (c : CT) : Nat := c.2.2.2.2.2.2.1
def cW (c : CT) : Int := c.2.2.2.2.2.2.2.1
def cG (c : CT) : Nat := c.2.2.2.2.2.2.2.2
def WC (c : CT) : Prop := cN c ≤ 8 ∧ (∀ i, i < cN c → cV c i < 6 ∧ cP c i < 16 ∧ (0 < cL c i ∧ cL c i ≤ 9) ∧ cK c i ≤ 1) ∧ (∀ k, k < 12 → -60000 ≤ cT c k ∧ cT c k ≤ 60000) ∧ cU c < 65536 ∧ (-200000 ≤ cW c ∧ cW c ≤ 200000) ∧ cG c < 16777216
def XG (c : CT) (μ : MM) : Prop := gI μ 9 9 = nI (cN c) ∧ gI μ 9 10 = nI (cU c) ∧ gI μ 9 11 = oI (cW c) ∧ gI μ 9 12 = nI (cG c) ∧ (∀ i, i < cN c → gI μ 10 i = nI (cV c i) ∧ gI μ 11 i = nI (cP c i) ∧ gI μ 12 i = nI (cL c i) ∧ gI μ 13 i = nI (cK c i)) ∧ ∀ k, k < 12 → gI μ 16 k = oI (cT c k)
def MG (c : CT) (μ : MM) : Prop := gI μ 49 18 = nI (cN c) ∧ gI μ 49 19 = nI (cU c) ∧ gI μ 49 20 = oI (cW c) ∧ gI μ 49 21 = nI (cG c) ∧ (∀ i, i < cN c → gI μ 63 i = nI (cV c i) ∧ gI μ 64 i = nI (cP c i) ∧ gI μ 65 i = nI (cL c i) ∧ gI μ 66 i = nI (cK c i)) ∧ ∀ k, k < 12 → gI μ 67 k = oI (cT c k)
def Pcf (a k : Nat) : Bool := (a == 9 && (k == 9 || k == 10 || k == 11 || k == 12)) || a == 10 || a == 11 || a == 12 || a == 13 || a == 16 || a == 63 || a == 64 || a == 65 || a == 66 || a == 67 || (a == 49 && (k == 18 || k == 19 || k == 20 || k == 21)) || (a == 0 && k == 9)
def CRes (P : Nat → Nat → Bool) (μ μ2 : MM) : Prop := μ2 = μ ∨ ∃ c', WC c' ∧ XG c' μ2 ∧ MG c' μ2 ∧ Sm P μ μ2 ∧ gI μ2 0 9 = gI μ 0 9 + 1
theorem s_chas {c : CT} {μ : MM} (hw : Wf μ) (hc : WC c) (hx : XG c μ) (x : Int32) : f_Ch_has 9 x μ = some (bi (inR x (cN c))) := by
  unfold f_Ch_has
  have h8 := hc.1
  rw [kO_9 hw, bsome, rI_9 hw, bsome, hx.1]
  rcases ixc (cN c) _ rfl (by omega) x with ⟨h1, h2⟩ | ⟨h1, h2, h3⟩ | ⟨h1, h2, h3, v, hv, rfl⟩
  · rw [if_pos h1, h2]; rfl
  · rw [if_neg h1, if_pos h2, h3]; rfl
  · rw [if_neg h1, if_neg h2, h3, if_neg (show ¬ (8 : Int32) ≤ nI v from nI_ge (b := 8) (by omega) (by omega))]; rfl
theorem s_isSinger {c : CT} {μ : MM} (hw : Wf μ) (hc : WC c) (hm : MG c μ) (x : Int32) : f_M_isSinger 49 x μ = some (bi (inR x (cN c))) := by
  unfold f_M_isSinger
  have h8 := hc.1
  have e : (nI (cN c) - 1).toInt64.toInt = (cN c : Int) - 1 := by
    rw [Int32.toInt_toInt64, show (1 : Int32) = oI 1 from rfl, oI_nI, oI_sub, oI_toInt (by omega) (by omega)]
  rw [kO_49 hw, bsome, rI_49 hw, bsome, hm.1, s_liesI x 0 _ 0 ((cN c : Int) - 1) (by decide) e, bsome, inR_le x (cN c) _ (by omega), rz_bi]; rfl
/-- an int within lower and upper bound -/
theorem bnd_c (x : Int32) (lo hi : Int) (hl : -2147483648 ≤ lo) (hh : hi < 2147483648) (hlh : lo ≤ hi) : (x < oI lo ∧ decide (lo ≤ x.toInt ∧ x.toInt ≤ hi) = false) ∨ (¬ x < oI lo ∧ ¬ x ≤ oI hi ∧ decide (lo ≤ x.toInt ∧ x.toInt ≤ hi) = false) ∨ (¬ x < oI lo ∧ x ≤ oI hi ∧ decide (lo ≤ x.toInt ∧ x.toInt ≤ hi) = true ∧ ∃ z, lo ≤ z ∧ z ≤ hi ∧ x = oI z) := by
  rw [toInt_lt, toInt_le, oI_toInt hl (by omega), oI_toInt (by omega) hh]
  by_cases h1 : x.toInt < lo
  · exact Or.inl ⟨h1, decide_eq_false (by omega)⟩
  · by_cases h2 : x.toInt ≤ hi
    · refine Or.inr (Or.inr ⟨h1, h2, decide_eq_true (by omega), x.toInt, by omega, h2, ?_⟩)
      apply Int32.toInt_inj.mp
      rw [oI_toInt (by omega) (by omega)]
    · exact Or.inr (Or.inl ⟨h1, h2, decide_eq_false (by omega)⟩)
/-- the singers, written after one of them or of what is told is changed -/
theorem WC.mk {c : CT} (hc : WC c) : cN c ≤ 8 := hc.1
def cset (c : CT) (n : Nat) (v p l k : Nat → Nat) (t : Nat → Int) (u : Nat) (w : Int) (g : Nat) : CT := (n, v, p, l, k, t, u, w, g)
theorem Pcf_sI {μ : MM} {a k : Nat} {v : Int32} (h : Pcf a k = true) : Sm Pcf μ (sI μ a k v) := Sm.sI h
theorem seed_ok {c : CT} {μ : MM} (hw : Wf μ) (hc : WC c) (hx : XG c μ) (hm : MG c μ) (x1 : Int32) : ∃ r μ1 μ2, f_X_seed 0 x1 μ = some (r, μ1) ∧ f_M_seed 49 x1 μ1 = some (r, μ2) ∧ CRes Pcf μ μ2 := by
  rcases bnd_c x1 0 65535 (by decide) (by decide) (by decide) with ⟨h1, h2⟩ | ⟨h1, h2, h3⟩ | ⟨h1, h2, h3, z, z1, z2, rfl⟩
  · refine ⟨0, μ, μ, ?_, ?_, Or.inl rfl⟩
    · unfold f_X_seed; rw [kO_0 hw, bsome, if_pos (show x1 < 0 from h1)]
    · unfold f_M_seed; rw [kO_49 hw, bsome, s_liesI x1 0 65535 0 65535 (by decide) (by decide), h2]; rfl
  · refine ⟨0, μ, μ, ?_, ?_, Or.inl rfl⟩
    · unfold f_X_seed; rw [kO_0 hw, bsome, if_neg (show ¬ x1 < 0 from h1), if_neg (show ¬ x1 ≤ (65535 : Int32) from h2)]
    · unfold f_M_seed; rw [kO_49 hw, bsome, s_liesI x1 0 65535 0 65535 (by decide) (by decide), h3]; rfl
  · obtain ⟨μa, hμa⟩ : ∃ x, x = sI μ 9 10 (oI z) := ⟨_, rfl⟩
    obtain ⟨μb, hμb⟩ : ∃ x, x = sI μa 0 9 (gI μa 0 9 + 1) := ⟨_, rfl⟩
    obtain ⟨μc, hμc⟩ : ∃ x, x = sI μb 49 19 (oI z) := ⟨_, rfl⟩
    have sa : Sm Pcf μ μa := by rw [hμa]; exact Pcf_sI rfl
    have sb : Sm Pcf μa μb := by rw [hμb]; exact Pcf_sI rfl
    have sc : Sm Pcf μb μc := by rw [hμc]; exact Pcf_sI rfl
    have wa := sa.wf hw
    have wb := sb.wf wa
    have ez : oI z = nI z.toNat := by rw [oI_nI]; congr 1; omega
    refine ⟨1, μb, μc, ?_, ?_, Or.inr ⟨cset c (cN c) (cV c) (cP c) (cL c) (cK c) (cT c) z.toNat (cW c) (cG c), ?_, ?_, ?_, (sa.tr sb).tr sc, ?_⟩⟩
    · unfold f_X_seed; rw [kO_0 hw, bsome, if_neg (show ¬ oI z < 0 from h1), if_pos (show oI z ≤ (65535 : Int32) from h2), rR_0_1 hw, bsome, pI_9 hw, bsome, ← hμa, s_changed wa, bsome, ← hμb]; rfl
    · unfold f_M_seed; rw [kO_49 wb, bsome, s_liesI _ 0 65535 0 65535 (by decide) (by decide), h3, bsome, if_neg (by decide), pI_49 wb, bsome, ← hμc]
    · obtain ⟨a1, a2, a3, a4, a5, a6⟩ := hc
      exact ⟨a1, a2, a3, show z.toNat < 65536 by omega, a5, a6⟩
    · obtain ⟨a1, a2, a3, a4, a5, a6⟩ := hx
      subst hμc; subst hμb; subst hμa
      unfold XG
      simp (disch := decide) only [gI_sI, gI_sI_ne]
      exact ⟨a1, ez, a3, a4, a5, a6⟩
    · obtain ⟨a1, a2, a3, a4, a5, a6⟩ := hm
      subst hμc; subst hμb; subst hμa
      unfold MG
      simp (disch := decide) only [gI_sI, gI_sI_ne]
      exact ⟨a1, ez, a3, a4, a5, a6⟩
    · rw [hμc, gI_sI_ne (by decide), hμb, gI_sI, hμa, gI_sI_ne (by decide)]; simp [upd]
