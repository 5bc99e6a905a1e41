/-! LAYER 2: the piece as both programs hold it: keys, exponents of 2, 3, 5, breaths, links -/
abbrev PT : Type := (Nat → Int32) × (Nat → Int) × (Nat → Int) × (Nat → Int) × (Nat → Nat → Bool) × (Nat → Int32)
def pkey (p : PT) : Nat → Int32 := p.1
def pa (p : PT) : Nat → Int := p.2.1
def pb (p : PT) : Nat → Int := p.2.2.1
def pc (p : PT) : Nat → Int := p.2.2.2.1
def pbr (p : PT) : Nat → Nat → Bool := p.2.2.2.2.1
def pln (p : PT) : Nat → Int32 := p.2.2.2.2.2
/-- by how much a link moves an exponent -/
def lmv (ln : Nat → Int32) (e : Nat → Int) (b : Nat) : Int := if ln b = -1 then 0 else e (24 * (ln b).toInt.toNat + (b - 1)) - e (24 * (ln b).toInt.toNat + b)
def kx (ln : Nat → Int32) (e : Nat → Int) : Nat → Int
  | 0 => 0
  | b + 1 => kx ln e b + lmv ln e (b + 1)
def ml3 (p : PT) (c : Nat) : Int := mil (pa p c) (pb p c) (pc p c)
def WP (p : PT) : Prop := (∀ c, c < 144 → pkey p c = -1 ∨ ∃ k, k ≤ 60 ∧ pkey p c = nI k) ∧ (∀ c, c < 144 → ¬ pkey p c = -1 → fb3 (pa p c) (pb p c) (pc p c) ∧ -3000000 ≤ ml3 p c ∧ ml3 p c ≤ 3000000) ∧ (∀ b, b < 24 → pln p b = -1 ∨ hld (pkey p) (pln p b) (nI b) = true)
def XC (p : PT) (μ : MM) : Prop := gI μ 2 = pkey p ∧ gI μ 6 = pln p ∧ ∀ c, c < 144 → ¬ pkey p c = -1 → gI μ 3 c = pk (pa p c) (pb p c) (pc p c) ∧ gI μ 4 c = oI (ml3 p c)
def kmil (p : PT) (b : Nat) : Int := mil (kx (pln p) (pa p) b) (kx (pln p) (pb p) b) (kx (pln p) (pc p) b)
def XT (p : PT) (μ : MM) (b : Nat) : Prop := gI μ 8 b = pk (kx (pln p) (pa p) b) (kx (pln p) (pb p) b) (kx (pln p) (pc p) b) ∧ gI μ 7 b = oI (kmil p b)
theorem XC.sm {P : Nat → Nat → Bool} {p : PT} {μ μ' : MM} (h : XC p μ) (s : Sm P μ μ') (h2 : ∀ k, P 2 k = false) (h3 : ∀ k, P 3 k = false) (h4 : ∀ k, P 4 k = false) (h6 : ∀ k, P 6 k = false) : XC p μ' := by
  unfold XC
  rw [s.gI 2 h2, s.gI 3 h3, s.gI 4 h4, s.gI 6 h6]
  exact h
/-- a held note at c: the note at c and the one ahead -/
theorem hld_c {key : Nat → Int32} {v k : Nat} (hv : v < 6) (hk : k < 24) (h : hld key (nI v) (nI k) = true) : 0 < k ∧ ¬ key (24 * v + k) = -1 ∧ ¬ key (24 * v + (k - 1)) = -1 ∧ key (24 * v + k) = key (24 * v + (k - 1)) := by
  obtain ⟨v2, k2, a1, a2, a3, a4, a5, a6, a7⟩ := hld_in h
  have e1 := (nI_eq (by omega) (by omega)).mp a4
  have e2 := (nI_eq (by omega) (by omega)).mp a5
  subst e1; subst e2
  exact ⟨a2, a6, by rw [← a7]; exact a6, a7⟩
theorem s_cell {v k : Nat} : f_Sc_cell (nI v) (nI k) = some (nI (24 * v + k)) := by unfold f_Sc_cell; rw [cellN]
theorem s_shift {p : PT} {μ : MM} (h : Wf μ) (hx : XC p μ) {v k : Nat} (hv : v < 6) (hk : k < 24) : f_Sc_shift 1 (nI v) (nI k) μ = some (if hld (pkey p) (nI v) (nI k) = true then pk (pa p (24 * v + (k - 1)) - pa p (24 * v + k)) (pb p (24 * v + (k - 1)) - pb p (24 * v + k)) (pc p (24 * v + (k - 1)) - pc p (24 * v + k)) else 0) := by
  unfold f_Sc_shift
  rw [kO_1 h, bsome, s_holds h, hx.1, bsome]
  cases hh : hld (pkey p) (nI v) (nI k) with
  | false => rfl
  | true =>
    obtain ⟨k0, n1, n2, -⟩ := hld_c hv hk hh
    rw [if_neg (by decide), rR_1_1 h, bsome, nI_m1 k0, s_cell, s_cell, bsome, aI_3 h (by omega), bsome, bsome, bsome, aI_3 h (by omega), bsome, (hx.2.2 _ (by omega) n1).1, (hx.2.2 _ (by omega) n2).1, pk_sub3, if_pos rfl]
theorem hld_m1 (key : Nat → Int32) (b : Int32) : hld key (-1) b = false := by
  unfold hld snd
  have : inR (-1) 6 = false := by decide
  rw [this]; rfl
/-- the move by the link of a beat -/
theorem s_shiftL {p : PT} {μ : MM} (h : Wf μ) (hp : WP p) (hx : XC p μ) {k : Nat} (hk : k < 24) : f_Sc_shift 1 (pln p k) (nI k) μ = some (pk (lmv (pln p) (pa p) k) (lmv (pln p) (pb p) k) (lmv (pln p) (pc p) k)) := by
  rcases hp.2.2 k hk with e | e
  · unfold f_Sc_shift lmv
    rw [kO_1 h, bsome, s_holds h, hx.1, bsome, e, hld_m1]
    rfl
  · obtain ⟨v, k2, a1, a2, a3, a4, a5, a6, a7⟩ := hld_in e
    have e2 := (nI_eq (by omega) (by omega)).mp a5
    subst e2
    rw [a4] at e
    rw [a4, s_shift h hx a1 hk, if_pos e]
    unfold lmv
    rw [a4, if_neg (nI_ne_m1 (by omega)), if_neg (nI_ne_m1 (by omega)), if_neg (nI_ne_m1 (by omega)), nI_toInt (by omega)]
    rfl
theorem lmv_b {p : PT} (hp : WP p) {k : Nat} (hk : k < 24) : (-20 ≤ lmv (pln p) (pa p) k ∧ lmv (pln p) (pa p) k ≤ 20) ∧ (-12 ≤ lmv (pln p) (pb p) k ∧ lmv (pln p) (pb p) k ≤ 12) ∧ (-8 ≤ lmv (pln p) (pc p) k ∧ lmv (pln p) (pc p) k ≤ 8) ∧ -6000000 ≤ mil (lmv (pln p) (pa p) k) (lmv (pln p) (pb p) k) (lmv (pln p) (pc p) k) ∧ mil (lmv (pln p) (pa p) k) (lmv (pln p) (pb p) k) (lmv (pln p) (pc p) k) ≤ 6000000 := by
  rcases hp.2.2 k hk with e | e
  · unfold lmv; rw [e, if_pos rfl, if_pos rfl, if_pos rfl]; decide
  · obtain ⟨v, k2, a1, a2, a3, a4, a5, a6, a7⟩ := hld_in e
    have e2 := (nI_eq (by omega) (by omega)).mp a5
    subst e2
    obtain ⟨⟨b1, b2, b3, b4, b5, b6⟩, b7, b8⟩ := hp.2.1 _ (by omega) a6
    obtain ⟨⟨c1, c2, c3, c4, c5, c6⟩, c7, c8⟩ := hp.2.1 (24 * v + (k - 1)) (by omega) (by rw [← a7]; exact a6)
    unfold ml3 mil at b7 b8 c7 c8
    unfold lmv mil
    rw [a4, if_neg (nI_ne_m1 (by omega)), if_neg (nI_ne_m1 (by omega)), if_neg (nI_ne_m1 (by omega)), nI_toInt (by omega), Int.toNat_natCast]
    omega
theorem kx_b {p : PT} (hp : WP p) : ∀ {k : Nat}, k < 24 → (-(20 * (k : Int)) ≤ kx (pln p) (pa p) k ∧ kx (pln p) (pa p) k ≤ 20 * k) ∧ (-(12 * (k : Int)) ≤ kx (pln p) (pb p) k ∧ kx (pln p) (pb p) k ≤ 12 * k) ∧ (-(8 * (k : Int)) ≤ kx (pln p) (pc p) k ∧ kx (pln p) (pc p) k ≤ 8 * k) ∧ -(6000000 * (k : Int)) ≤ kmil p k ∧ kmil p k ≤ 6000000 * k
  | 0, _ => by unfold kmil kx mil; decide
  | k + 1, hk => by
    have ih := kx_b hp (k := k) (by omega)
    have l := lmv_b hp hk
    unfold kmil mil at ih ⊢
    unfold mil at l
    simp only [kx]
    omega
theorem kx_w {p : PT} (hp : WP p) {k : Nat} (hk : k < 24) : -512 ≤ kx (pln p) (pa p) k ∧ kx (pln p) (pa p) k < 512 ∧ -512 ≤ kx (pln p) (pb p) k ∧ kx (pln p) (pb p) k < 512 ∧ -512 ≤ kx (pln p) (pc p) k ∧ kx (pln p) (pc p) k < 512 := by
  have := kx_b hp hk
  omega
def P78 (a _k : Nat) : Bool := a == 7 || a == 8
theorem tune_L {p : PT} (hp : WP p) : ∀ (r n k : Nat) (μ : MM), 24 - k = r → r < n → 0 < k → k ≤ 24 → Wf μ → XC p μ → (∀ b, b < k → XT p μ b) → ∃ μ', f_Sc_tune_L2 1 n (nI k) μ = some μ' ∧ Sm P78 μ μ' ∧ ∀ b, b < 24 → XT p μ' b := by
  intro r
  induction r with
  | zero =>
    intro n k μ hr hn h0 hk hw hx ht
    obtain ⟨n, rfl⟩ : ∃ m, n = m + 1 := ⟨n - 1, by omega⟩
    have : k = 24 := by omega
    subst this
    exact ⟨μ, by rw [e_Sc_tune_L2, if_pos (by decide)], Sm.rf, ht⟩
  | succ r ih =>
    intro n k μ hr hn h0 hk hw hx ht
    obtain ⟨n, rfl⟩ : ∃ m, n = m + 1 := ⟨n - 1, by omega⟩
    have hb1 := ht (k - 1) (by omega)
    obtain ⟨j, rfl⟩ : ∃ j, k = j + 1 := ⟨k - 1, by omega⟩
    rw [Nat.add_sub_cancel] at hb1
    obtain ⟨μ1, hμ1⟩ : ∃ x, x = sI μ 8 (j + 1) (pk (kx (pln p) (pa p) j + lmv (pln p) (pa p) (j + 1)) (kx (pln p) (pb p) j + lmv (pln p) (pb p) (j + 1)) (kx (pln p) (pc p) j + lmv (pln p) (pc p) (j + 1))) := ⟨_, rfl⟩
    have s1 : Sm P78 μ μ1 := by rw [hμ1]; exact Sm.sI rfl
    have hw1 := s1.wf hw
    have g1 : gI μ1 8 (j + 1) = pk (kx (pln p) (pa p) (j + 1)) (kx (pln p) (pb p) (j + 1)) (kx (pln p) (pc p) (j + 1)) := by rw [hμ1, gI_sI]; simp [upd, kx]
    obtain ⟨μ2, hμ2⟩ : ∃ x, x = sI μ1 7 (j + 1) (oI (mil (kx (pln p) (pa p) (j + 1)) (kx (pln p) (pb p) (j + 1)) (kx (pln p) (pc p) (j + 1)))) := ⟨_, rfl⟩
    have s2 : Sm P78 μ1 μ2 := by rw [hμ2]; exact Sm.sI rfl
    have s12 := s1.tr s2
    have k7 : gI μ2 7 = upd (gI μ 7) (j + 1) (oI (kmil p (j + 1))) := by rw [hμ2, gI_sI, hμ1, gI_sI_ne (by decide)]; rfl
    have k8 : gI μ2 8 = upd (gI μ 8) (j + 1) (pk (kx (pln p) (pa p) (j + 1)) (kx (pln p) (pb p) (j + 1)) (kx (pln p) (pc p) (j + 1))) := by rw [hμ2, gI_sI_ne (by decide), hμ1, gI_sI]; rfl
    obtain ⟨μ', e, s3, t3⟩ := ih n (j + 1 + 1) μ2 (by omega) (by omega) (by omega) (by omega) (s12.wf hw) (hx.sm s12 (fun _ => rfl) (fun _ => rfl) (fun _ => rfl) (fun _ => rfl)) (fun b hb => by
      unfold XT
      rw [k7, k8]
      unfold upd
      by_cases e : b = j + 1
      · subst e; rw [if_pos rfl, if_pos rfl]; exact ⟨rfl, rfl⟩
      · rw [if_neg e, if_neg e]; exact ht b (by omega))
    refine ⟨μ', ?_, s12.tr s3, t3⟩
    rw [e_Sc_tune_L2, if_neg (show ¬ (24 : Int32) ≤ nI (j + 1) from nI_ge (b := 24) (by omega) (by omega)), rR_1_6 hw, bsome, bsome, nI_m1 (by omega), aI_8 hw (by omega), bsome, rR_1_4 hw, bsome, aI_6 hw (by omega), bsome, hx.2.1, s_shiftL hw hp hx (by omega), bsome, Nat.add_sub_cancel, hb1.1, pk_add3, uI_8 hw (by omega), bsome, ← hμ1]
    rw [rR_1_5 hw1, bsome, rR_1_6 hw1, bsome, aI_8 hw1 (by omega), bsome, g1, s_Frmills (kx_w hp (by omega)), bsome, uI_7 hw1 (by omega), bsome, nI_1, ← hμ2]
    exact e
theorem s_tune {p : PT} {μ : MM} (hp : WP p) (hw : Wf μ) (hx : XC p μ) (h0 : XT p μ 0) : ∃ μ', f_Sc_tune 1 μ = some μ' ∧ Sm P78 μ μ' ∧ ∀ b, b < 24 → XT p μ' b := by
  unfold f_Sc_tune
  rw [kO_1 hw, bsome]
  exact tune_L hp 23 FU 1 μ rfl (by decide) (by decide) (by decide) hw hx (fun b hb => by
    have : b = 0 := by omega
    subst this; exact h0)
