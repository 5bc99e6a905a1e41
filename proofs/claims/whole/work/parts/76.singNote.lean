/-! LAYER 2: a note is sung, in the class -/
def ptc (tw : (Nat → Int32) → Nat → Int) (c : CT) (p : PT) (t g : Nat) (pl : Nat → Nat) (kn : Bool) (pit : Nat → Int) (i b : Nat) (last : Int32) (lp : Int) (luck : Nat) : Int :=
  mix (cbn c p pl kn i b last) (tw (ltr c p t kn i b last lp (hmn c p b) luck)) (amn c p t pl (gvn c g b) pit i b last lp) + tw (ltr c p t kn i b last lp (hmn c p b) luck) 4
def drf (tw : (Nat → Int32) → Nat → Int) (c : CT) (p : PT) (t : Nat) (kn : Bool) (i b : Nat) (last : Int32) (lp : Int) (luck : Nat) : Int := tw (ltr c p t kn i b last lp (hmn c p b) luck) 4
def TWB (tw : (Nat → Int32) → Nat → Int) : Prop := ∀ L w, w < 5 → wlo w ≤ tw L w ∧ tw L w ≤ whi w
theorem TWB.w {tw : (Nat → Int32) → Nat → Int} (h : TWB tw) (L : Nat → Int32) : WB (tw L) := fun k hk => by
  have := h L k (by omega)
  unfold wlo whi at this
  rw [if_neg (by omega), if_neg (by omega)] at this
  exact this
theorem TWB.d {tw : (Nat → Int32) → Nat → Int} (h : TWB tw) (L : Nat → Int32) : -20000 ≤ tw L 4 ∧ tw L 4 ≤ 20000 := h L 4 (by decide)
theorem ptc_b {tw : (Nat → Int32) → Nat → Int} (ht : TWB tw) {c : CT} (hc : WC c) {p : PT} (hp' : WP p) {t g : Nat} {pl : Nat → Nat} {kn : Bool} {pit : Nat → Int} {i b luck : Nat} (hi : i < cN c) (hb : b < 24) (h : sg c p i b = true) {last : Int32} (hl : lst c p i b last) {lp B : Int} (hB : 300000 ≤ B) (hpit : ∀ j, j < i → sg c p j b = true → -B ≤ pit (24 * j + b) ∧ pit (24 * j + b) ≤ B) (hlp : -B ≤ lp ∧ lp ≤ B) : -(B + 6020000) ≤ ptc tw c p t g pl kn pit i b last lp luck ∧ ptc tw c p t g pl kn pit i b last lp luck ≤ B + 6020000 := by
  have gb : -200000 ≤ gvn c g b ∧ gvn c g b ≤ 200000 := by
    have := hc.2.2.2.2.1
    unfold gvn; split <;> omega
  have h1 := mix_b (cb := cbn c p pl kn i b last) (ht.w (ltr c p t kn i b last lp (hmn c p b) luck)) (amn_b hc hp' (t := t) (pl := pl) gb hi hb h hl hB hpit hlp)
  have h2 := ht.d (ltr c p t kn i b last lp (hmn c p b) luck)
  unfold ptc; omega
