/-! LAYER 2: ways, purely: keynotes as whole numbers (1048576 a + 1024 b + c), what links lead to, what they cost -/
def lk7 (k : Nat) : Int32 := if k = 0 then -1 else nI (k - 1)
def al7 (p : PT) (b k : Nat) : Bool := if k = 0 then true else hp p (k - 1) b
def sA7 (p : PT) (b k : Nat) : Int := lvl (pa p) (lk7 k) b
def sB7 (p : PT) (b k : Nat) : Int := lvl (pb p) (lk7 k) b
def sC7 (p : PT) (b k : Nat) : Int := lvl (pc p) (lk7 k) b
def zN (a b c : Int) : Int := 1048576 * a + 1024 * b + c
def sN7 (p : PT) (b k : Nat) : Int := zN (sA7 p b k) (sB7 p b k) (sC7 p b k)
def co7 (p : PT) (by_ : Bool) (b k : Nat) : Int := if by_ = true then (if lk7 k = pln p b then 0 else 1) else fby p b (lml p (lk7 k) b)
theorem lok7 {p : PT} {b k : Nat} (hk : k < 7) (h : al7 p b k = true) : lok p (lk7 k) b := by
  unfold lk7
  unfold al7 at h
  by_cases e : k = 0
  · rw [if_pos e]; exact Or.inl rfl
  · rw [if_neg e] at h ⊢
    exact Or.inr ⟨k - 1, by omega, rfl, h⟩
theorem s7_b {p : PT} (hp' : WP p) {b k : Nat} (hb : b < 24) (hk : k < 7) (h : al7 p b k = true) : (-20 ≤ sA7 p b k ∧ sA7 p b k ≤ 20) ∧ (-12 ≤ sB7 p b k ∧ sB7 p b k ≤ 12) ∧ (-8 ≤ sC7 p b k ∧ sC7 p b k ≤ 8) := by
  unfold sA7 sB7 sC7 lvl
  rcases lok7 hk h with e | ⟨v, hv, e, hh⟩
  · rw [e, if_pos rfl, if_pos rfl, if_pos rfl]; decide
  · obtain ⟨g0, g1, g2, -⟩ := hp_c hv hb hh
    obtain ⟨⟨b1, b2, b3, b4, b5, b6⟩, -⟩ := hp'.2.1 (24 * v + b) (by omega) g1
    obtain ⟨⟨c1, c2, c3, c4, c5, c6⟩, -⟩ := hp'.2.1 (24 * v + (b - 1)) (by omega) g2
    rw [e, if_neg (nI_ne_m1 (by omega)), if_neg (nI_ne_m1 (by omega)), if_neg (nI_ne_m1 (by omega)), nI_toInt (by omega), Int.toNat_natCast]
    omega
theorem mil7 (p : PT) (b k : Nat) : mil (sA7 p b k) (sB7 p b k) (sC7 p b k) = lml p (lk7 k) b := by
  unfold sA7 sB7 sC7 lvl lml ml3 mil
  by_cases h : lk7 k = -1
  · rw [if_pos h, if_pos h, if_pos h, if_pos h]; rfl
  · rw [if_neg h, if_neg h, if_neg h, if_neg h]; omega
theorem co7_b {p : PT} (hp' : WP p) {y : Bool} {b k : Nat} (hb : b < 24) (hk : k < 7) (h : al7 p b k = true) : 0 ≤ co7 p y b k ∧ co7 p y b k ≤ 72000000 := by
  unfold co7
  cases y with
  | true =>
    rw [if_pos rfl]
    split <;> decide
  | false =>
    rw [if_neg (by decide)]
    exact fby_b hp' hb (lml_b hp' hb (lok7 hk h))
def RR (p : PT) : Nat → Int → Prop
  | 0, z => z = 0
  | b + 1, z => ∃ k, k < 7 ∧ al7 p (b + 1) k = true ∧ RR p b (z - sN7 p (b + 1) k)
theorem RR_b {p : PT} (hp' : WP p) : ∀ (b : Nat) (z : Int), b < 24 → RR p b z → ∃ x y w : Int, (-(20 * (b : Int)) ≤ x ∧ x ≤ 20 * b) ∧ (-(12 * (b : Int)) ≤ y ∧ y ≤ 12 * b) ∧ (-(8 * (b : Int)) ≤ w ∧ w ≤ 8 * b) ∧ z = zN x y w
  | 0, z, _, h => ⟨0, 0, 0, by omega, by omega, by omega, by rw [show z = 0 from h]; rfl⟩
  | b + 1, z, hb, ⟨k, hk, ha, hr⟩ => by
    obtain ⟨x, y, w, h1, h2, h3, h4⟩ := RR_b hp' b _ (by omega) hr
    have s := s7_b hp' hb hk ha
    refine ⟨x + sA7 p (b + 1) k, y + sB7 p (b + 1) k, w + sC7 p (b + 1) k, by omega, by omega, by omega, ?_⟩
    have : z = zN x y w + sN7 p (b + 1) k := by omega
    rw [this]
    unfold sN7 zN
    omega
def dC7 (z : Int) : Int := (z + 512) % 1024 - 512
def dB7 (z : Int) : Int := ((z - dC7 z) / 1024 + 512) % 1024 - 512
def dA7 (z : Int) : Int := ((z - dC7 z) / 1024 - dB7 z) / 1024
theorem dec_N {a b c : Int} (hb : -512 ≤ b ∧ b < 512) (hc : -512 ≤ c ∧ c < 512) : dA7 (zN a b c) = a ∧ dB7 (zN a b c) = b ∧ dC7 (zN a b c) = c := by
  have h1 : dC7 (zN a b c) = c := by unfold dC7 zN; omega
  have h2 : dB7 (zN a b c) = b := by unfold dB7; rw [h1]; unfold zN; omega
  have h3 : dA7 (zN a b c) = a := by unfold dA7; rw [h1, h2]; unfold zN; omega
  exact ⟨h3, h2, h1⟩
/-- what a keynote that is reached looks like -/
theorem RR_d {p : PT} (hp' : WP p) {b : Nat} (hb : b < 24) {z : Int} (h : RR p b z) : (-460 ≤ dA7 z ∧ dA7 z ≤ 460) ∧ (-276 ≤ dB7 z ∧ dB7 z ≤ 276) ∧ (-184 ≤ dC7 z ∧ dC7 z ≤ 184) ∧ z = zN (dA7 z) (dB7 z) (dC7 z) ∧ -483000000 ≤ z ∧ z ≤ 483000000 := by
  obtain ⟨x, y, w, h1, h2, h3, h4⟩ := RR_b hp' b z hb h
  obtain ⟨e1, e2, e3⟩ := dec_N (a := x) (b := y) (c := w) (by omega) (by omega)
  rw [← h4] at e1 e2 e3
  rw [e1, e2, e3]
  refine ⟨by omega, by omega, by omega, h4, ?_⟩
  unfold zN at h4; omega
theorem RR_s {p : PT} (hp' : WP p) {b k : Nat} (hb : b + 1 < 24) {z : Int} (h : RR p b z) (hk : k < 7) (ha : al7 p (b + 1) k = true) : RR p (b + 1) (z + sN7 p (b + 1) k) ∧ dA7 (z + sN7 p (b + 1) k) = dA7 z + sA7 p (b + 1) k ∧ dB7 (z + sN7 p (b + 1) k) = dB7 z + sB7 p (b + 1) k ∧ dC7 (z + sN7 p (b + 1) k) = dC7 z + sC7 p (b + 1) k := by
  refine ⟨⟨k, hk, ha, by rw [Int.add_sub_cancel]; exact h⟩, ?_⟩
  obtain ⟨h1, h2, h3, h4, -⟩ := RR_d hp' (by omega) h
  have s := s7_b hp' hb hk ha
  have : z + sN7 p (b + 1) k = zN (dA7 z + sA7 p (b + 1) k) (dB7 z + sB7 p (b + 1) k) (dC7 z + sC7 p (b + 1) k) := by
    have e : z + sN7 p (b + 1) k = zN (dA7 z) (dB7 z) (dC7 z) + sN7 p (b + 1) k := by rw [← h4]
    rw [e]
    unfold sN7 zN
    omega
  rw [this]
  exact dec_N (by omega) (by omega)
/-! no more of them than of places -/
theorem pigeon : ∀ (n m : Nat) (g : Nat → Nat), (∀ i, i < m → g i < n) → (∀ i j, i < j → j < m → ¬ g i = g j) → m ≤ n
  | n, 0, _, _, _ => Nat.zero_le _
  | 0, m + 1, g, h, _ => absurd (h 0 (Nat.succ_pos _)) (Nat.not_lt_zero _)
  | n + 1, m + 1, g, h, inj => by
    have gm := h m (Nat.lt_succ_self _)
    refine Nat.succ_le_succ (pigeon n m (fun i => if g i = n then g m else g i) (fun i hi => ?_) (fun i j hij hj => ?_))
    · have gi := h i (by omega)
      have ne := inj i m hi (Nat.lt_succ_self _)
      show (if g i = n then g m else g i) < n
      split <;> omega
    · have ni := inj i m (by omega) (Nat.lt_succ_self _)
      have nj := inj j m hj (Nat.lt_succ_self _)
      have nij := inj i j hij (by omega)
      show ¬ (if g i = n then g m else g i) = (if g j = n then g m else g j)
      split <;> split <;> omega
/-- a row that has each keynote of a beat once -/
def En (p : PT) (b n : Nat) (f : Nat → Int) : Prop := (∀ i j, i < j → j < n → ¬ f i = f j) ∧ (∀ k, k < n → RR p b (f k)) ∧ ∀ z, RR p b z → ∃ k, k < n ∧ f k = z
def Bg (p : PT) (b : Nat) : Prop := ∃ f : Nat → Int, (∀ i j, i < j → j < 301 → ¬ f i = f j) ∧ ∀ k, k < 301 → RR p b (f k)
theorem En.nb {p : PT} {b n : Nat} {f : Nat → Int} (h : En p b n f) (hn : n ≤ 300) : ¬ Bg p b := fun ⟨g, g1, g2⟩ => by
  have c : ∀ i, ∃ k, i < 301 → k < n ∧ f k = g i := fun i => by
    by_cases hi : i < 301
    · obtain ⟨k, hk⟩ := h.2.2 (g i) (g2 i hi)
      exact ⟨k, fun _ => hk⟩
    · exact ⟨0, fun q => absurd q hi⟩
  have := pigeon n 301 (fun i => Classical.choose (c i)) (fun i hi => (Classical.choose_spec (c i) hi).1) (fun i j hij hj e => by
    have e1 := (Classical.choose_spec (c i) (by omega)).2
    have e2 := (Classical.choose_spec (c j) hj).2
    refine g1 i j hij hj ?_
    rw [← e1, ← e2]
    exact congrArg f e)
  omega
theorem En.ix {p : PT} {b n : Nat} {f : Nat → Int} (h : En p b n f) {i j : Nat} (hi : i < n) (hj : j < n) (e : f i = f j) : i = j := by
  rcases Nat.lt_trichotomy i j with q | q | q
  · exact absurd e (h.1 i j q hj)
  · exact q
  · exact absurd e.symm (h.1 j i q hi)
/-! least of some, none of none -/
def om (x y : Option Int) : Option Int := match x, y with
  | none, y => y
  | some a, none => some a
  | some a, some b => some (if b < a then b else a)
def mnk (f : Nat → Option Int) : Nat → Option Int
  | 0 => none
  | n + 1 => om (mnk f n) (f n)
theorem om_n (x : Option Int) : om x none = x := by cases x <;> rfl
theorem mnk_none {f : Nat → Option Int} : ∀ n, mnk f n = none → ∀ k, k < n → f k = none
  | 0, _, k, hk => absurd hk (by omega)
  | n + 1, h, k, hk => by
    have h : om (mnk f n) (f n) = none := h
    cases e1 : mnk f n with
    | some a =>
      rw [e1] at h
      cases e2 : f n with
      | none => rw [e2] at h; cases h
      | some b => rw [e2] at h; cases h
    | none =>
      rw [e1] at h
      by_cases q : k = n
      · rw [q]; exact h
      · exact mnk_none n e1 k (by omega)
theorem mnk_some {f : Nat → Option Int} : ∀ n x, mnk f n = some x → (∃ k, k < n ∧ f k = some x) ∧ ∀ k y, k < n → f k = some y → x ≤ y
  | 0, x, h => by cases h
  | n + 1, x, h => by
    have h : om (mnk f n) (f n) = some x := h
    cases e1 : mnk f n with
    | none =>
      rw [e1] at h
      have h : f n = some x := h
      refine ⟨⟨n, Nat.lt_succ_self _, h⟩, fun k y hk hy => ?_⟩
      by_cases q : k = n
      · rw [q, h] at hy; cases hy; exact Int.le_refl _
      · rw [mnk_none n e1 k (by omega)] at hy; cases hy
    | some a =>
      obtain ⟨⟨k0, hk0, ek0⟩, least⟩ := mnk_some n a e1
      rw [e1] at h
      cases e2 : f n with
      | none =>
        rw [e2] at h
        cases h
        refine ⟨⟨k0, by omega, ek0⟩, fun k y hk hy => ?_⟩
        by_cases q : k = n
        · rw [q, e2] at hy; cases hy
        · exact least k y (by omega) hy
      | some b =>
        rw [e2] at h
        have h : some (if b < a then b else a) = some x := h
        have hx := Option.some.inj h
        by_cases q : b < a
        · rw [if_pos q] at hx
          subst hx
          refine ⟨⟨n, Nat.lt_succ_self _, e2⟩, fun k y hk hy => ?_⟩
          by_cases q2 : k = n
          · rw [q2, e2] at hy; cases hy; exact Int.le_refl _
          · have := least k y (by omega) hy; omega
        · rw [if_neg q] at hx
          subst hx
          refine ⟨⟨k0, by omega, ek0⟩, fun k y hk hy => ?_⟩
          by_cases q2 : k = n
          · rw [q2, e2] at hy; cases hy; omega
          · exact least k y (by omega) hy
theorem mnk_c {f g : Nat → Option Int} : ∀ n, (∀ k, k < n → f k = g k) → mnk f n = mnk g n
  | 0, _ => rfl
  | n + 1, h => by
    show om (mnk f n) (f n) = om (mnk g n) (g n)
    rw [mnk_c n (fun k hk => h k (by omega)), h n (by omega)]
def pls (x : Option Int) (c : Int) : Option Int := match x with
  | none => none
  | some a => some (a + c)
/-- from the beginning, and back from the last beat -/
def EE (p : PT) (y : Bool) : Nat → Int → Option Int
  | 0, z => if z = 0 then some 0 else none
  | b + 1, z => mnk (fun k => if al7 p (b + 1) k = true then pls (EE p y b (z - sN7 p (b + 1) k)) (co7 p y (b + 1) k) else none) 7
def DD (p : PT) (y : Bool) (l : Nat) : Nat → Int → Option Int
  | 0, z => if z = 0 then some 0 else none
  | j + 1, z => mnk (fun k => if al7 p (l - j) k = true then pls (DD p y l j (z + sN7 p (l - j) k)) (co7 p y (l - j) k) else none) 7
theorem pls_b {x : Option Int} {c : Int} {v : Int} (h : pls x c = some v) : ∃ a, x = some a ∧ v = a + c := by
  cases x with
  | none => cases h
  | some a => cases h; exact ⟨a, rfl, rfl⟩
theorem EE_b {p : PT} (hp' : WP p) (y : Bool) : ∀ (b : Nat), b < 24 → ∀ z v, EE p y b z = some v → 0 ≤ v ∧ v ≤ 72000000 * b
  | 0, _, z, v, h => by
    have h : (if z = 0 then some (0 : Int) else none) = some v := h
    split at h
    · cases h; omega
    · cases h
  | b + 1, hb, z, v, h => by
    obtain ⟨⟨k, hk, e⟩, -⟩ := mnk_some 7 v h
    by_cases ha : al7 p (b + 1) k = true
    · rw [if_pos ha] at e
      obtain ⟨a, e1, e2⟩ := pls_b e
      have := EE_b hp' y b (by omega) _ a e1
      have := co7_b hp' (y := y) hb hk ha
      omega
    · rw [if_neg ha] at e; cases e
theorem DD_b {p : PT} (hp' : WP p) (y : Bool) {l : Nat} (hl : l < 24) : ∀ (j : Nat), j ≤ l → ∀ z v, DD p y l j z = some v → 0 ≤ v ∧ v ≤ 72000000 * j
  | 0, _, z, v, h => by
    have h : (if z = 0 then some (0 : Int) else none) = some v := h
    split at h
    · cases h; omega
    · cases h
  | j + 1, hj, z, v, h => by
    obtain ⟨⟨k, hk, e⟩, -⟩ := mnk_some 7 v h
    by_cases ha : al7 p (l - j) k = true
    · rw [if_pos ha] at e
      obtain ⟨a, e1, e2⟩ := pls_b e
      have := DD_b hp' y hl j (by omega) _ a e1
      have := co7_b hp' (y := y) (b := l - j) (by omega) hk ha
      omega
    · rw [if_neg ha] at e; cases e
/-- the least link that keeps to the least cost -/
def okL (p : PT) (y : Bool) (l j : Nat) (z : Int) (k : Nat) : Bool := al7 p (l - j) k && (decide (¬ DD p y l j (z + sN7 p (l - j) k) = none) && decide (pls (DD p y l j (z + sN7 p (l - j) k)) (co7 p y (l - j) k) = DD p y l (j + 1) z))
def frst (f : Nat → Bool) : Nat → Nat → Nat
  | 0, a => a
  | n + 1, a => if f a = true then a else frst f n (a + 1)
theorem frst_s {f : Nat → Bool} : ∀ (n a : Nat), (∃ k, a ≤ k ∧ k < a + n ∧ f k = true) → a ≤ frst f n a ∧ frst f n a < a + n ∧ f (frst f n a) = true ∧ ∀ k, a ≤ k → k < frst f n a → f k = false
  | 0, a, ⟨k, h1, h2, _⟩ => absurd h2 (by omega)
  | n + 1, a, ⟨k, h1, h2, h3⟩ => by
    unfold frst
    by_cases e : f a = true
    · rw [if_pos e]
      exact ⟨Nat.le_refl _, by omega, e, fun j h4 h5 => absurd h5 (by omega)⟩
    · rw [if_neg e]
      have hk : ¬ k = a := fun q => e (by rw [← q]; exact h3)
      obtain ⟨g1, g2, g3, g4⟩ := frst_s n (a + 1) ⟨k, by omega, by omega, h3⟩
      refine ⟨by omega, by omega, g3, fun j h4 h5 => ?_⟩
      by_cases q : j = a
      · rw [q]; exact Bool.eq_false_iff.mpr e
      · exact g4 j (by omega) h5
def stL (p : PT) (y : Bool) (l j : Nat) (z : Int) : Nat := frst (okL p y l j z) 7 0
theorem okL_ex {p : PT} {y : Bool} {l j : Nat} {z v : Int} (h : DD p y l (j + 1) z = some v) : stL p y l j z < 7 ∧ okL p y l j z (stL p y l j z) = true ∧ ∀ k, k < stL p y l j z → okL p y l j z k = false := by
  obtain ⟨⟨k, hk, e⟩, -⟩ := mnk_some 7 v h
  have ok : okL p y l j z k = true := by
    by_cases ha : al7 p (l - j) k = true
    · rw [if_pos ha] at e
      obtain ⟨a, e1, -⟩ := pls_b e
      unfold okL
      rw [ha, h, e, decide_eq_true rfl, decide_eq_true (by rw [e1]; simp)]; rfl
    · rw [if_neg ha] at e; cases e
  obtain ⟨g1, g2, g3, g4⟩ := frst_s (f := okL p y l j z) 7 0 ⟨k, by omega, by omega, ok⟩
  exact ⟨by unfold stL; omega, g3, fun i hi => g4 i (Nat.zero_le _) hi⟩
theorem okL_next {p : PT} {y : Bool} {l j : Nat} {z : Int} {k : Nat} (h : okL p y l j z k = true) : al7 p (l - j) k = true ∧ (∃ w, DD p y l j (z + sN7 p (l - j) k) = some w ∧ DD p y l (j + 1) z = some (w + co7 p y (l - j) k)) := by
  unfold okL at h
  simp only [Bool.and_eq_true, decide_eq_true_eq] at h
  obtain ⟨h1, h2, h3⟩ := h
  refine ⟨h1, ?_⟩
  cases e : DD p y l j (z + sN7 p (l - j) k) with
  | none => exact absurd e h2
  | some w => rw [e] at h3; exact ⟨w, rfl, h3.symm⟩
/-- the row: by beats, from a keynote on, with so many beats left -/
def rwz (p : PT) (y : Bool) (l : Nat) : Nat → Int → Nat → Int32
  | 0, _, _ => -1
  | j + 1, z, b => if b = l - j then lk7 (stL p y l j z) else rwz p y l j (z + sN7 p (l - j) (stL p y l j z)) b
