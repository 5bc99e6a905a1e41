/-! LAYER 2: all beats are sung: purely; memories that differ in the places too -/
abbrev SS : Type := (Nat → Int) × (Nat → Int) × Nat × Int
def uZ (f : Nat → Int) (k : Nat) (z : Int) : Nat → Int := fun x => if x = k then z else f x
def snv (tw : (Nat → Int32) → Nat → Int) (c : CT) (p : PT) (t g : Nat) (pl : Nat → Nat) (nb : Bool) (b i : Nat) (s : SS) : Int := ptc tw c p t g pl (knw c nb i) s.1 i b (lnt c p i b) (s.2.1 i) (lk' s.2.2.1)
def sn1 (tw : (Nat → Int32) → Nat → Int) (c : CT) (p : PT) (t g : Nat) (pl : Nat → Nat) (nb : Bool) (b i : Nat) (s : SS) : SS := if sg c p i b = true then (uZ s.1 (24 * i + b) (snv tw c p t g pl nb b i s), uZ s.2.1 i (snv tw c p t g pl nb b i s), lk' s.2.2.1, s.2.2.2 + drf tw c p t (knw c nb i) i b (lnt c p i b) (s.2.1 i) (lk' s.2.2.1)) else s
def snb (tw : (Nat → Int32) → Nat → Int) (c : CT) (p : PT) (t g : Nat) (pl : Nat → Nat) (nb : Bool) (b : Nat) (s : SS) : Nat → SS
  | 0 => s
  | i + 1 => sn1 tw c p t g pl nb b i (snb tw c p t g pl nb b s i)
def gvl (c : CT) (p : PT) (t b : Nat) (las : Nat → Int) (n : Nat) : Nat → Int := fun i => if i < n ∧ ¬ lnt c p i b = -1 then tab c p t i (lnt c p i b).toInt.toNat else las i
def gvs (c : CT) (p : PT) (t g b : Nat) (s : SS) : SS := if g.testBit b = true then (s.1, gvl c p t b s.2.1 (cN c), s.2.2) else s
def sal (tw : (Nat → Int32) → Nat → Int) (c : CT) (p : PT) (t g : Nat) (pl : Nat → Nat) (nb : Bool) : Nat → SS
  | 0 => (fun _ => 0, fun _ => 0, cU c, 0)
  | b + 1 => snb tw c p t g pl nb b (gvs c p t g b (sal tw c p t g pl nb b)) (cN c)
def SB (B : Int) (s : SS) : Prop := (∀ k, -B ≤ s.1 k ∧ s.1 k ≤ B) ∧ (∀ k, -B ≤ s.2.1 k ∧ s.2.1 k ≤ B) ∧ s.2.2.1 < 65536
theorem SB.mono {B B' : Int} {s : SS} (h : SB B s) (hb : B ≤ B') : SB B' s := ⟨fun k => by have := h.1 k; omega, fun k => by have := h.2.1 k; omega, h.2.2⟩
theorem sn1_b {tw : (Nat → Int32) → Nat → Int} (ht : TWB tw) {c : CT} (hc : WC c) {p : PT} (hp' : WP p) {t g : Nat} {pl : Nat → Nat} {nb : Bool} {b i : Nat} (hi : i < cN c) (hb : b < 24) {s : SS} {B : Int} (hB : 300000 ≤ B) (h : SB B s) : SB (B + 6020000) (sn1 tw c p t g pl nb b i s) := by
  unfold sn1
  by_cases e : sg c p i b = true
  · rw [if_pos e]
    have q := ptc_b ht hc hp' (t := t) (g := g) (pl := pl) (kn := knw c nb i) (pit := s.1) (luck := lk' s.2.2.1) hi hb e (lst_lnt c p i b) hB (fun j _ _ => h.1 _) (h.2.1 i)
    refine ⟨fun k => ?_, fun k => ?_, lk_b _⟩
    · show -(B + 6020000) ≤ uZ s.1 (24 * i + b) (snv tw c p t g pl nb b i s) k ∧ uZ s.1 (24 * i + b) (snv tw c p t g pl nb b i s) k ≤ B + 6020000
      unfold uZ
      have := h.1 k
      split
      · exact q
      · omega
    · show -(B + 6020000) ≤ uZ s.2.1 i (snv tw c p t g pl nb b i s) k ∧ uZ s.2.1 i (snv tw c p t g pl nb b i s) k ≤ B + 6020000
      unfold uZ
      have := h.2.1 k
      split
      · exact q
      · omega
  · rw [if_neg e]
    exact h.mono (by omega)
theorem snb_b {tw : (Nat → Int32) → Nat → Int} (ht : TWB tw) {c : CT} (hc : WC c) {p : PT} (hp' : WP p) {t g : Nat} {pl : Nat → Nat} {nb : Bool} {b : Nat} (hb : b < 24) {s : SS} {B : Int} (hB : 300000 ≤ B) (h : SB B s) : ∀ i, i ≤ cN c → SB (B + 6020000 * i) (snb tw c p t g pl nb b s i)
  | 0, _ => h.mono (by omega)
  | i + 1, hi => by
    have ih := snb_b ht hc hp' (t := t) (g := g) (pl := pl) (nb := nb) hb hB h i (by omega)
    have := sn1_b ht hc hp' (t := t) (g := g) (pl := pl) (nb := nb) (i := i) (by omega) hb (by omega) ih
    exact this.mono (by omega)
theorem gvl_b {c : CT} (hc : WC c) {p : PT} (hp' : WP p) {t b : Nat} (hb : b ≤ 24) {las : Nat → Int} {B : Int} (hB : 6300000 ≤ B) (h : ∀ k, -B ≤ las k ∧ las k ≤ B) {n : Nat} (hn : n ≤ cN c) : ∀ k, -B ≤ gvl c p t b las n k ∧ gvl c p t b las n k ≤ B := fun k => by
  unfold gvl
  split
  · rename_i e
    rcases lst_lnt c p k b with h1 | ⟨j, h1, h2, h3⟩
    · exact absurd h1 e.2
    · have := tab_b hc hp' (t := t) (show k < cN c by omega) (show j < 24 by omega) h3
      rw [h2, nI_toInt (by omega), Int.toNat_natCast]
      omega
  · exact h k
theorem gvs_b {c : CT} (hc : WC c) {p : PT} (hp' : WP p) {t g b : Nat} (hb : b ≤ 24) {s : SS} {B : Int} (hB : 6300000 ≤ B) (h : SB B s) : SB B (gvs c p t g b s) := by
  unfold gvs
  split
  · exact ⟨h.1, gvl_b hc hp' hb hB h.2.1 (Nat.le_refl _), h.2.2⟩
  · exact h
theorem sal_b {tw : (Nat → Int32) → Nat → Int} (ht : TWB tw) {c : CT} (hc : WC c) {p : PT} (hp' : WP p) {t g : Nat} {pl : Nat → Nat} {nb : Bool} : ∀ b : Nat, b ≤ 24 → SB (6300000 + 48160000 * b) (sal tw c p t g pl nb b)
  | 0, _ => ⟨fun _ => by show _ ≤ (0 : Int) ∧ (0 : Int) ≤ _; omega, fun _ => by show _ ≤ (0 : Int) ∧ (0 : Int) ≤ _; omega, hc.2.2.2.1⟩
  | b + 1, hb => by
    have h8 := hc.1
    have ih := sal_b ht hc hp' (t := t) (g := g) (pl := pl) (nb := nb) b (by omega)
    have h1 := gvs_b hc hp' (t := t) (g := g) (b := b) (by omega) (by omega) ih
    have h2 := snb_b ht hc hp' (t := t) (g := g) (pl := pl) (nb := nb) (b := b) (by omega) (by omega) h1 (cN c) (Nat.le_refl _)
    exact h2.mono (by omega)
theorem lnt_s (c : CT) (p : PT) (i b : Nat) : lnt c p i (b + 1) = if sg c p i b = true then nI b else lnt c p i b := rfl
theorem upR {σ β : Type} (N : Nat) (I : Nat → σ → Prop) (G : Nat → Nat → σ → β) (R : β → Prop) (hend : ∀ n s, I N s → R (G (n + 1) N s)) (hstep : ∀ n k s, k < N → I k s → R (G (n + 1) k s) ∨ ∃ s', G (n + 1) k s = G n (k + 1) s' ∧ I (k + 1) s') : ∀ k n s, k ≤ N → N - k < n → I k s → R (G n k s) := by
  intro k n
  induction n generalizing k with
  | zero => intro s _ h; omega
  | succ n ih =>
    intro s h h1 hi
    rcases Nat.lt_or_ge k N with z | z
    · rcases hstep n k s z hi with w | ⟨s', h3, h2⟩
      · exact w
      · rw [h3]; exact ih (k + 1) s' (by omega) (by omega) h2
    · have : k = N := by omega
      subst this
      exact hend n s hi
/-- the memories agree but where P allows and in the places that the singing goes by -/
def Sy (P : Nat → Nat → Bool) (μ μ' : MM) : Prop := ∃ v, Sm P (sR μ 24 8 v) μ'
theorem sR_wf {μ : MM} (h : Wf μ) (v : Option Nat) : Wf (sR μ 24 8 v) := by
  refine ⟨h.1, fun q hq => ?_⟩
  have hn : ¬ (q.1 = 24 ∧ q.2.1 = 8) := by
    have : ∀ q ∈ RL, ¬ (q.1 = 24 ∧ q.2.1 = 8) := by decide
    exact this q hq
  have e := h.2 q hq
  show (if q.1 = 24 then va_up (μ.2.2.2 q.1) 8 v else μ.2.2.2 q.1) q.2.1 = some q.2.2
  by_cases e1 : q.1 = 24
  · rw [if_pos e1]
    unfold va_up
    rw [if_neg (fun z => hn ⟨e1, z⟩)]
    exact e
  · rw [if_neg e1]; exact e
theorem sR_ww {μ : MM} (h : Ww μ) (v : Option Nat) : Ww (sR μ 24 8 v) := by
  refine ⟨h.1, fun q hq => ?_⟩
  have hn : ¬ q.1 = 24 := by
    have : ∀ q ∈ RW, ¬ q.1 = 24 := by decide
    exact this q hq
  have e := h.2 q hq
  show (if q.1 = 24 then va_up (μ.2.2.2 q.1) 8 v else μ.2.2.2 q.1) q.2.1 = some q.2.2
  rw [if_neg hn]; exact e
theorem sR_same (μ : MM) : sR μ 24 8 (gR μ 24 8) = μ := by
  obtain ⟨a, b, c, d⟩ := μ
  show (a, b, c, fun x => if x = 24 then va_up (d x) 8 (d 24 8) else d x) = (a, b, c, d)
  congr 3
  funext x
  split
  · rename_i e
    funext j
    unfold va_up
    split
    · rename_i e2; rw [e, e2]
    · rfl
  · rfl
theorem sR_twice (μ : MM) (v w : Option Nat) : sR (sR μ 24 8 v) 24 8 w = sR μ 24 8 w := by
  obtain ⟨a, b, c, d⟩ := μ
  show (a, b, c, fun x => if x = 24 then va_up ((fun x => if x = 24 then va_up (d x) 8 v else d x) x) 8 w else (fun x => if x = 24 then va_up (d x) 8 v else d x) x) = (a, b, c, fun x => if x = 24 then va_up (d x) 8 w else d x)
  congr 3
  funext x
  by_cases e : x = 24
  · simp only [if_pos e]
    funext j
    unfold va_up
    split
    · rfl
    · rfl
  · simp only [if_neg e]
theorem Sm.sRR {P : Nat → Nat → Bool} {μ μ' : MM} (h : Sm P μ μ') (v : Option Nat) : Sm P (sR μ 24 8 v) (sR μ' 24 8 v) := by
  refine ⟨h.1, ?_, h.2.2⟩
  show (fun c => if c = 24 then va_up (μ'.2.2.2 c) 8 v else μ'.2.2.2 c) = (fun c => if c = 24 then va_up (μ.2.2.2 c) 8 v else μ.2.2.2 c)
  rw [h.2.1]
theorem Sy.of {P : Nat → Nat → Bool} {μ μ' : MM} (h : Sm P μ μ') : Sy P μ μ' := ⟨gR μ 24 8, by rw [sR_same]; exact h⟩
theorem Sy.rf {P : Nat → Nat → Bool} {μ : MM} : Sy P μ μ := Sy.of Sm.rf
theorem Sy.tr {P : Nat → Nat → Bool} {μ μ1 μ2 : MM} (h1 : Sy P μ μ1) (h2 : Sy P μ1 μ2) : Sy P μ μ2 := by
  obtain ⟨v, h1⟩ := h1
  obtain ⟨w, h2⟩ := h2
  have := h1.sRR w
  rw [sR_twice] at this
  exact ⟨w, this.tr h2⟩
theorem Sy.mono {P P' : Nat → Nat → Bool} {μ μ' : MM} (h : Sy P μ μ') (hp : ∀ a k, P' a k = false → P a k = false) : Sy P' μ μ' := by
  obtain ⟨v, h⟩ := h
  exact ⟨v, h.mono hp⟩
theorem Sy.wf {P : Nat → Nat → Bool} {μ μ' : MM} (h : Sy P μ μ') (w : Wf μ) : Wf μ' := by
  obtain ⟨v, h⟩ := h
  exact h.wf (sR_wf w v)
theorem Sy.ww {P : Nat → Nat → Bool} {μ μ' : MM} (h : Sy P μ μ') (w : Ww μ) : Ww μ' := by
  obtain ⟨v, h⟩ := h
  exact h.ww (sR_ww w v)
theorem Sy.c {P : Nat → Nat → Bool} {μ μ' : MM} (h : Sy P μ μ') : μ'.1 = μ.1 := by
  obtain ⟨v, h⟩ := h
  exact h.1
theorem Sy.at {P : Nat → Nat → Bool} {μ μ' : MM} (h : Sy P μ μ') (a k : Nat) (hp : P a k = false) : gI μ' a k = gI μ a k ∧ gL μ' a k = gL μ a k := by
  obtain ⟨v, h⟩ := h
  exact h.2.2 a k hp
theorem Sy.gI {P : Nat → Nat → Bool} {μ μ' : MM} (h : Sy P μ μ') (a : Nat) (ha : ∀ k, P a k = false) : gI μ' a = gI μ a := funext fun k => (h.at a k (ha k)).1
theorem Sy.gL {P : Nat → Nat → Bool} {μ μ' : MM} (h : Sy P μ μ') (a : Nat) (ha : ∀ k, P a k = false) : gL μ' a = gL μ a := funext fun k => (h.at a k (ha k)).2
theorem Sy.gRf {P : Nat → Nat → Bool} {μ μ' : MM} (h : Sy P μ μ') (a k : Nat) (ha : ¬ (a = 24 ∧ k = 8)) : gR μ' a k = gR μ a k := by
  obtain ⟨v, h⟩ := h
  rw [h.gRf a]
  show (if a = 24 then va_up (μ.2.2.2 a) 8 v else μ.2.2.2 a) k = μ.2.2.2 a k
  by_cases e : a = 24
  · rw [if_pos e]
    unfold va_up
    rw [if_neg (fun z => ha ⟨e, z⟩)]
  · rw [if_neg e]
theorem Sy.xg {P : Nat → Nat → Bool} {c : CT} {μ μ' : MM} (s : Sy P μ μ') (h : XG c μ) (hP : ∀ a k, Pcf a k = true → P a k = false) : XG c μ' := by
  obtain ⟨v, s⟩ := s
  exact XG.sm (μ := sR μ 24 8 v) h s hP
theorem Sy.mg {P : Nat → Nat → Bool} {c : CT} {μ μ' : MM} (s : Sy P μ μ') (h : MG c μ) (hP : ∀ a k, Pcf a k = true → P a k = false) : MG c μ' := by
  obtain ⟨v, s⟩ := s
  exact MG.sm (μ := sR μ 24 8 v) h s hP
theorem Sy.xp {P : Nat → Nat → Bool} {p : PT} {μ μ' : MM} (s : Sy P μ μ') (h : XP p μ) (hP : ∀ a k, 2 ≤ a → a ≤ 8 → P a k = false) : XP p μ' := by
  obtain ⟨v, s⟩ := s
  exact XP.sm (μ := sR μ 24 8 v) h s hP
theorem Sy.mp {P : Nat → Nat → Bool} {p : PT} {μ μ' : MM} (s : Sy P μ μ') (h : MP p μ) (hP : ∀ a k, 51 ≤ a → a ≤ 56 → P a k = false) : MP p μ' := by
  obtain ⟨v, s⟩ := s
  exact MP.sm (μ := sR μ 24 8 v) h s hP
theorem TS.sy {P : Nat → Nat → Bool} {μ μ' : MM} (s : Sy P μ μ') (hP : ∀ a k, (tcl a = true ∨ (a = 49 ∧ k = 27)) → P a k = false) : TS μ μ' :=
  ⟨s.wf, s.gRf 9 8 (by decide), fun a h => s.gI a (fun k => hP a k (Or.inl h)), (s.at 49 27 (hP 49 27 (Or.inr ⟨rfl, rfl⟩))).1⟩
