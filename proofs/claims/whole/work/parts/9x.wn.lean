/-! LAYER 2: ways, in the first program: the nearest end -/
theorem EE_RR {p : PT} {y : Bool} : ∀ (b : Nat) (z v : Int), EE p y b z = some v → RR p b z
  | 0, z, v, h => by
    have h : (if z = 0 then some (0 : Int) else none) = some v := h
    split at h
    · assumption
    · cases h
  | b + 1, z, v, h => by
    obtain ⟨⟨k, hk, e⟩, -⟩ := mnk_some 7 v h
    by_cases ha : al7 p (b + 1) k = true
    · rw [if_pos ha] at e
      obtain ⟨a, e1, -⟩ := pls_b e
      exact ⟨k, hk, ha, EE_RR b _ a e1⟩
    · rw [if_neg ha] at e; cases e
def mlz (z : Int) : Int := mil (dA7 z) (dB7 z) (dC7 z)
theorem mlz_b {p : PT} (hp' : WP p) : ∀ (b : Nat), b < 24 → ∀ z, RR p b z → -(6000000 * (b : Int)) ≤ mlz z ∧ mlz z ≤ 6000000 * b
  | 0, _, z, h => by rw [show z = 0 from h]; decide
  | b + 1, hb, z, ⟨k, hk, ha, hr⟩ => by
    have h1 := mlz_b hp' b (by omega) _ hr
    obtain ⟨e1, e2, e3, e4⟩ := RR_s hp' hb hr hk ha
    rw [Int.sub_add_cancel] at e2 e3 e4
    have h2 := lml_b hp' hb (lok7 hk ha)
    rw [← mil7] at h2
    have : mlz z = mlz (z - sN7 p (b + 1) k) + mil (sA7 p (b + 1) k) (sB7 p (b + 1) k) (sC7 p (b + 1) k) := by
      unfold mlz
      rw [e2, e3, e4]
      unfold mil
      omega
    omega
def EK (p : PT) (y : Bool) (b k : Nat) (z : Int) : Option Int := mnk (fun j => if al7 p (b + 1) j = true then pls (EE p y b (z - sN7 p (b + 1) j)) (co7 p y (b + 1) j) else none) k
theorem EK_b {p : PT} (hp' : WP p) {y : Bool} {b k : Nat} (hb : b + 1 < 24) (hk : k < 8) (z : Int) : Bd (EK p y b k z) := fun v h => by
  obtain ⟨⟨j, hj, e⟩, -⟩ := mnk_some k v h
  by_cases ha : al7 p (b + 1) j = true
  · rw [if_pos ha] at e
    obtain ⟨a, e1, e2⟩ := pls_b e
    have := EE_b hp' y b (by omega) _ a e1
    have := co7_b hp' (y := y) (b := b + 1) (by omega) (by omega) ha
    omega
  · rw [if_neg ha] at e; cases e
def ev (p : PT) (y : Bool) (b k c : Nat) (z : Int) : Option Int := if c < b + 1 then EE p y c z else if c = b + 1 then EK p y b k z else none
def Ec (p : PT) (y : Bool) (l b k : Nat) (μ0 μ : MM) : Prop := ∀ c n f, c < l + 1 → Rw c n f μ0 → ∀ i, i < n → gI μ 94 (300 * c + i) = fI (ev p y b k c (f i))
theorem s_forw {p : PT} (hp' : WP p) {l : Nat} (hl : l < 24) {y : Bool} {b k : Nat} (hb : b < l) (hk : k < 7) {μ0 μ : MM} (w0 : Ww μ0) (hX : WX p l μ0) (hz : Pz p y l μ0) (s0 : Sm (Pc1 94) μ0 μ) (hd : Ec p y l b k μ0 μ) : ∃ μ', f_Wa_relax 92 (nI (b + 1)) (nI k) 1 μ = some μ' ∧ Sm (Pc1 94) μ0 μ' ∧ Ec p y l b (k + 1) μ0 μ' := by
  have w := s0.ww w0
  have hz1 : Pz p y l μ := fun c j h1 h2 h3 => by rw [s0.gI 98 (Pc1_ne (by decide))]; exact hz c j h1 h2 h3
  by_cases ha : al7 p (b + 1) k = true
  · have hX1 := hX.s1 s0 (by decide) (by decide) (by decide) (by decide)
    have n93 : gI μ 93 = gI μ0 93 := s0.gI 93 (Pc1_ne (by decide))
    have n95 : gI μ 95 = gI μ0 95 := s0.gI 95 (Pc1_ne (by decide))
    obtain ⟨nx, x, rx, ex⟩ := hX.2.1 b (by omega)
    obtain ⟨ny, yy, ry, ey⟩ := hX.2.1 (b + 1) (by omega)
    have rx1 : Rw b nx x μ := rx.c (by rw [n95]) (fun _ _ => by rw [n93])
    have ry1 : Rw (b + 1) ny yy μ := ry.c (by rw [n95]) (fun _ _ => by rw [n93])
    obtain ⟨q, hq⟩ := qx hp' (by omega) hk ha ex ey
    have l3 := ry.2.1
    obtain ⟨μ', e', s', t', n'⟩ := s_relax1 hp' hl (y := y) (fl := true) (b := b + 1) (by omega) (by omega) hk w hX1 hz1 ha rx1 ry1 q hq (fun i => EK p y b k (x i + sN7 p (b + 1) k)) (fun i => EE p y b (x i)) (fun i => 300 * (b + 1) + q i) (fun i => 300 * b + i) (fun i => (if_pos rfl).symm) (fun i => (if_pos rfl).symm) (fun i hi => by
        have := hd (b + 1) ny yy (by omega) ry (q i) (hq i hi).1
        unfold ev at this
        rw [if_neg (by omega), if_pos rfl, (hq i hi).2] at this
        exact this) (fun i hi => by
        have := hd b nx x (by omega) rx i hi
        unfold ev at this
        rw [if_pos (by omega)] at this
        exact this) (fun i hi => EK_b hp' (by omega) (by omega) _) (fun i v hi hv => by
        have := EE_b hp' y b (by omega) _ v hv
        omega)
    refine ⟨μ', e', s0.tr s', fun c n f hc hr i hi => ?_⟩
    by_cases qc : c = b + 1
    · subst qc
      obtain ⟨en, ef⟩ := hr.u ry
      subst en
      unfold ev
      rw [if_neg (by omega), if_pos rfl]
      unfold EK
      show _ = fI (om _ (if al7 p (b + 1) k = true then _ else none))
      rw [if_pos ha, ef i hi]
      by_cases hit : ∃ a, a < nx ∧ q a = i
      · obtain ⟨a, a1, a2⟩ := hit
        have := (hq a a1).2
        rw [a2] at this
        rw [← a2, t' a a1, a2, this, Int.add_sub_cancel]
        rfl
      · rw [n' _ (fun j hj e => hit ⟨j, hj, by omega⟩), hd (b + 1) n f (by omega) hr i hi]
        unfold ev
        rw [if_neg (by omega), if_pos rfl, ef i hi]
        cases e : EE p y b (yy i - sN7 p (b + 1) k) with
        | none =>
          show _ = fI (om _ none)
          rw [om_n]; rfl
        | some v =>
          obtain ⟨a, a1, a2⟩ := ex.2.2 _ (EE_RR b _ v e)
          obtain ⟨a3, a4⟩ := hq a a1
          exact absurd ⟨a, a1, ey.ix a3 hi (by rw [a4, a2, Int.sub_add_cancel])⟩ hit
    · rw [n' _ (fun j hj => by have := hr.2.1; have := (hq j hj).1; omega), hd c n f hc hr i hi]
      unfold ev
      by_cases q1 : c < b + 1
      · rw [if_pos q1, if_pos q1]
      · rw [if_neg q1, if_neg q1, if_neg (by omega), if_neg (by omega)]
  · refine ⟨μ, s_relax0 hl (by omega) (by omega) hk 1 w hz1 ha, s0, fun c n f hc hr i hi => ?_⟩
    rw [hd c n f hc hr i hi]
    unfold ev
    have : EK p y b (k + 1) (f i) = EK p y b k (f i) := by
      unfold EK
      show om _ (if al7 p (b + 1) k = true then _ else none) = _
      rw [if_neg ha, om_n]
    rw [this]
theorem s_nr33 {p : PT} (hp' : WP p) {l : Nat} (hl : l < 24) {y : Bool} {b : Nat} (hb : b < l) {μ0 : MM} (w0 : Ww μ0) (hX : WX p l μ0) (hz : Pz p y l μ0) (K : Int32 → MM → Option (Int32 × MM)) (x1 : Int32) : ∀ (d g k : Nat) (μ : MM), k + d = 7 → d < g → Sm (Pc1 94) μ0 μ → Ec p y l b k μ0 μ → ∃ μ', f_Wa_nearest_L33 K 92 x1 (nI (b + 1)) g (nI k) μ = K (nI (b + 2)) μ' ∧ Sm (Pc1 94) μ0 μ' ∧ Ec p y l (b + 1) 0 μ0 μ' := by
  intro d
  induction d with
  | zero =>
    intro g k μ hk hg s0 hd
    obtain ⟨g, rfl⟩ : ∃ z, g = z + 1 := ⟨g - 1, by omega⟩
    have : k = 7 := by omega
    subst this
    refine ⟨μ, ?_, s0, fun c n f hc hr i hi => ?_⟩
    · rw [e_Wa_nearest_L33, if_pos (by decide), show (1 : Int32) = nI 1 from rfl, nI_add]
    · rw [hd c n f hc hr i hi]
      unfold ev
      by_cases q : c < b + 1
      · rw [if_pos q, if_pos (by omega)]
      · rw [if_neg q]
        by_cases q2 : c = b + 1
        · rw [if_pos q2, if_pos (by omega), q2]; rfl
        · rw [if_neg q2, if_neg (by omega)]
          by_cases q3 : c = b + 1 + 1
          · rw [if_pos q3]; rfl
          · rw [if_neg q3]
  | succ d ih =>
    intro g k μ hk hg s0 hd
    obtain ⟨g, rfl⟩ : ∃ z, g = z + 1 := ⟨g - 1, by omega⟩
    obtain ⟨μ1, e1, s1, d1⟩ := s_forw hp' hl hb (by omega) w0 hX hz s0 hd
    rw [e_Wa_nearest_L33, if_neg (by rw [show (7 : Int32) = nI 7 from rfl, cle (by omega) (by omega)]; omega), e1, bsome, show (1 : Int32) = nI 1 from rfl, nI_add]
    exact ih g (k + 1) μ1 (by omega) (by omega) s1 d1
