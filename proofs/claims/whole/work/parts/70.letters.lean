/-! LAYER 2: the letters, in the class -/
def lpo (c : CT) (p : PT) (i b : Nat) (last : Int32) : Int := if last = -1 then 0 else (ky c p i b : Int) - (ky c p i last.toInt.toNat : Int)
def ool (c : CT) (p : PT) (t i : Nat) (last : Int32) (lp : Int) : Int := if last = -1 then 0 else (tab c p t i last.toInt.toNat - lp) / 1000
def ltr (c : CT) (p : PT) (t : Nat) (kn : Bool) (i b : Nat) (last : Int32) (lp : Int) (many luck : Nat) : Nat → Int32
  | 0 => nI b
  | 1 => nI (cV c i)
  | 2 => nI i
  | 3 => bi kn
  | 4 => nI (cL c i)
  | 5 => bi (hld (pkey p) (nI (cV c i)) (nI b))
  | 6 => oI (iabs (lpo c p i b last))
  | 7 => bi (decide (0 < lpo c p i b last))
  | 8 => bi (pbr p (cV c i) b)
  | 9 => nI many
  | 10 => oI (ool c p t i last lp)
  | _ => nI (luck % 100)
/-- the first letters written -/
def mL (μ : MM) (L : Nat → Int32) : Nat → MM
  | 0 => μ
  | k + 1 => sI (mL μ L k) 27 k (L k)
def P27 (a _k : Nat) : Bool := a == 27
theorem mL_sm (μ : MM) (L : Nat → Int32) : ∀ n, Sm P27 μ (mL μ L n)
  | 0 => Sm.rf
  | n + 1 => (mL_sm μ L n).tr (Sm.sI rfl)
theorem mL_g (μ : MM) (L : Nat → Int32) : ∀ (n k : Nat), k < n → gI (mL μ L n) 27 k = L k
  | n + 1, k, h => by
    show gI (sI (mL μ L n) 27 n (L n)) 27 k = L k
    rw [gI_sI]
    unfold upd
    by_cases e : k = n
    · rw [if_pos e, e]
    · rw [if_neg e]; exact mL_g μ L n k (by omega)
theorem u_mL {μ : MM} (hw : Wf μ) (L : Nat → Int32) {k : Nat} (hk : k < 12) : uI (mL μ L k) 27 (nI k) (L k) = some (mL μ L (k + 1)) := uI_27 ((mL_sm μ L k).wf hw) hk
theorem P27_Pcf : ∀ a k, Pcf a k = true → P27 a k = false := by
  intro a k h
  by_cases e : a = 27
  · subst e; simp [Pcf] at h
  · simp [P27, e]
theorem lpo_b {c : CT} (hc : WC c) {p : PT} (hp' : WP p) {i b : Nat} (hi : i < cN c) (hb : b < 24) (h : sg c p i b = true) {last : Int32} (hl : lst c p i b last) : -61 ≤ lpo c p i b last ∧ lpo c p i b last ≤ 61 := by
  unfold lpo
  obtain ⟨h1, h2⟩ := sg_n hc hi hb h
  have k1 := (kN_e hp' (show 24 * cV c i + b < 144 by omega) h2).1
  rcases hl with rfl | ⟨k, hk, rfl, hs⟩
  · rw [if_pos rfl]; decide
  · obtain ⟨g1, g2⟩ := sg_n hc hi (show k < 24 by omega) hs
    have k2 := (kN_e hp' (show 24 * cV c i + k < 144 by omega) g2).1
    rw [if_neg (nI_ne_m1 (by omega)), nI_toInt (by omega), Int.toNat_natCast]
    unfold ky; omega
theorem irem_100 {k : Nat} (hk : k < 65536) : irem (nI k) 100 = nI (k % 100) := by
  unfold irem
  rw [show (100 : Int32) = nI 100 from rfl]
  exact pk_rem (by omega) (by decide) (by decide)
