/-! LAYER 2: luck, and the pitch of a note -/
def lk' (l : Nat) : Nat := (25173 * l + 13849) % 65536
theorem lk_b (l : Nat) : lk' l < 65536 := Nat.mod_lt _ (by decide)
theorem lk_X {l : Nat} (h : l < 65536) : (((25173 : Int32) * nI l) + (13849 : Int32)) &&& (65535 : Int32) = nI (lk' l) := by
  rw [show (25173 : Int32) = nI 25173 from rfl, show (13849 : Int32) = nI 13849 from rfl, pk_mul, nI_add, pk_andN (by omega) 16 (by decide)]; rfl
theorem lk_M {l : Nat} (h : l < 65536) : irem (((25173 : Int32) * nI l) + (13849 : Int32)) (65536 : Int32) = nI (lk' l) := by
  unfold irem
  rw [show (25173 : Int32) = nI 25173 from rfl, show (13849 : Int32) = nI 13849 from rfl, show (65536 : Int32) = nI 65536 from rfl, pk_mul, nI_add]
  exact pk_rem (by omega) (by decide) (by decide)
def cbn (c : CT) (p : PT) (pl : Nat → Nat) (kn : Bool) (i b : Nat) (last : Int32) : Nat → Bool
  | 0 => decide (0 < ears c p pl i b i)
  | 1 => decide (¬ last = -1)
  | 2 => true
  | _ => kn
def amn (c : CT) (p : PT) (t : Nat) (pl : Nat → Nat) (gv : Int) (pit : Nat → Int) (i b : Nat) (last : Int32) (lp : Int) : Nat → Int
  | 0 => oth c p pl pit i b
  | 1 => own c p i b last lp
  | 2 => tab c p t i b + gv
  | _ => tab c p t i b
theorem amn_b {c : CT} (hc : WC c) {p : PT} (hp' : WP p) {t : Nat} {pl : Nat → Nat} {gv : Int} (hgv : -200000 ≤ gv ∧ gv ≤ 200000) {pit : Nat → Int} {i b : Nat} (hi : i < cN c) (hb : b < 24) (h : sg c p i b = true) {last : Int32} (hl : lst c p i b last) {lp B : Int} (hB : 300000 ≤ B) (hpit : ∀ j, j < i → sg c p j b = true → -B ≤ pit (24 * j + b) ∧ pit (24 * j + b) ≤ B) (hlp : -B ≤ lp ∧ lp ≤ B) : ∀ k, k < 4 → -(B + 6000000) ≤ amn c p t pl gv pit i b last lp k ∧ amn c p t pl gv pit i b last lp k ≤ B + 6000000 := by
  have tb := tab_b hc hp' (t := t) hi hb h
  intro k hk
  rcases (show k = 0 ∨ k = 1 ∨ k = 2 ∨ k = 3 by omega) with rfl | rfl | rfl | rfl
  · exact oth_b hc hp' hi hb h (by omega) hpit
  · exact own_b hc hp' hi hb h hl (by omega) hlp
  · show -(B + 6000000) ≤ tab c p t i b + gv ∧ tab c p t i b + gv ≤ B + 6000000
    omega
  · show -(B + 6000000) ≤ tab c p t i b ∧ tab c p t i b ≤ B + 6000000
    omega
