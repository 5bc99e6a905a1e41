/-! LAYER 2: leader, purely: what was sung ahead of a giving does not matter behind it -/
theorem fsum_ci {f g : Nat → Int} : ∀ (n : Nat), (∀ k, k < n → f k = g k) → fsum f n = fsum g n := fun n h => fsum_c n h
section
variable {tw : (Nat → Int32) → Nat → Int} {c : CT} {p : PT} {t : Nat} {pl : Nat → Nat} {nb : Bool}
theorem ptc_eq {g g' : Nat} {kn : Bool} {pit pit' : Nat → Int} {i b : Nat} {last : Int32} {lp lp' : Int} {luck : Nat} (hg : gvn c g b = gvn c g' b) (hp : ∀ j, j < i → sg c p j b = true → pit (24 * j + b) = pit' (24 * j + b)) (hl : ¬ last = -1 → lp = lp') : ptc tw c p t g pl kn pit i b last lp luck = ptc tw c p t g' pl kn pit' i b last lp' luck := by
  have e1 : ltr c p t kn i b last lp (hmn c p b) luck = ltr c p t kn i b last lp' (hmn c p b) luck := by
    have : ool c p t i last lp = ool c p t i last lp' := by
      unfold ool
      by_cases e : last = -1
      · rw [if_pos e, if_pos e]
      · rw [if_neg e, if_neg e, hl e]
    funext k
    match k with
    | 0 => rfl
    | 1 => rfl
    | 2 => rfl
    | 3 => rfl
    | 4 => rfl
    | 5 => rfl
    | 6 => rfl
    | 7 => rfl
    | 8 => rfl
    | 9 => rfl
    | 10 => show oI (ool c p t i last lp) = oI (ool c p t i last lp'); rw [this]
    | _ + 11 => rfl
  have e2 : oth c p pl pit i b = oth c p pl pit' i b := by
    unfold oth herd
    rw [fsum_c (f := fun j => if sg c p j b = true then hrw c pl i j * (pit (24 * j + b) + mz c p i b - mz c p j b) else 0) i (fun j hj => by
      show (if sg c p j b = true then _ else 0) = (if sg c p j b = true then hrw c pl i j * (pit' (24 * j + b) + mz c p i b - mz c p j b) else 0)
      by_cases e : sg c p j b = true
      · rw [if_pos e, if_pos e, hp j hj e]
      · rw [if_neg e, if_neg e])]
  have e3 : own c p i b last lp = own c p i b last lp' := by
    unfold own
    by_cases e : last = -1
    · rw [if_pos e, if_pos e]
    · rw [if_neg e, if_neg e, hl e]
  have e4 : amn c p t pl (gvn c g b) pit i b last lp = amn c p t pl (gvn c g' b) pit' i b last lp' := by
    funext k
    match k with
    | 0 => exact e2
    | 1 => exact e3
    | 2 => show tab c p t i b + gvn c g b = tab c p t i b + gvn c g' b; rw [hg]
    | _ + 3 => rfl
  unfold ptc
  rw [e1, e4]
theorem sn1_luck {g g' : Nat} {b i : Nat} {s s' : SS} (h : s.2.2.1 = s'.2.2.1) : (sn1 tw c p t g pl nb b i s).2.2.1 = (sn1 tw c p t g' pl nb b i s').2.2.1 := by
  unfold sn1
  by_cases e : sg c p i b = true
  · rw [if_pos e, if_pos e]
    show lk' s.2.2.1 = lk' s'.2.2.1
    rw [h]
  · rw [if_neg e, if_neg e]; exact h
theorem snb_luck {g g' : Nat} {b : Nat} {s s' : SS} (h : s.2.2.1 = s'.2.2.1) : ∀ n, (snb tw c p t g pl nb b s n).2.2.1 = (snb tw c p t g' pl nb b s' n).2.2.1
  | 0 => h
  | n + 1 => sn1_luck (snb_luck h n)
theorem gvs_luck {g b : Nat} {s : SS} : (gvs c p t g b s).2.2.1 = s.2.2.1 := by
  unfold gvs
  split <;> rfl
theorem sal_luck {g g' : Nat} : ∀ b, (sal tw c p t g pl nb b).2.2.1 = (sal tw c p t g' pl nb b).2.2.1
  | 0 => rfl
  | b + 1 => snb_luck (by rw [gvs_luck, gvs_luck]; exact sal_luck b) _
/-- what matters at a beat -/
def Rl (c : CT) (p : PT) (b i : Nat) (s s' : SS) : Prop := (∀ j, j < cN c → ¬ lnt c p j (if j < i then b + 1 else b) = -1 → s.2.1 j = s'.2.1 j) ∧ (∀ j, j < i → sg c p j b = true → s.1 (24 * j + b) = s'.1 (24 * j + b)) ∧ s.2.2.1 = s'.2.2.1
theorem Rl_1 {g g' b i : Nat} (hi : i < cN c) (hb : b < 24) (hg : gvn c g b = gvn c g' b) {s s' : SS} (h : Rl c p b i s s') : Rl c p b (i + 1) (sn1 tw c p t g pl nb b i s) (sn1 tw c p t g' pl nb b i s') := by
  obtain ⟨h1, h2, h3⟩ := h
  by_cases e : sg c p i b = true
  · have v : snv tw c p t g pl nb b i s = snv tw c p t g' pl nb b i s' := by
      unfold snv
      rw [h3]
      exact ptc_eq hg h2 (fun q => h1 i hi (by rw [if_neg (Nat.lt_irrefl i)]; exact q))
    unfold sn1
    rw [if_pos e, if_pos e]
    refine ⟨fun j hj hl => ?_, fun j hj hs => ?_, by show lk' s.2.2.1 = lk' s'.2.2.1; rw [h3]⟩
    · show uZ s.2.1 i _ j = uZ s'.2.1 i _ j
      unfold uZ
      by_cases q : j = i
      · rw [if_pos q, if_pos q, v]
      · rw [if_neg q, if_neg q]
        refine h1 j hj ?_
        by_cases q2 : j < i
        · rw [if_pos q2]; rw [if_pos (by omega)] at hl; exact hl
        · rw [if_neg q2]; rw [if_neg (by omega)] at hl; exact hl
    · show uZ s.1 (24 * i + b) _ (24 * j + b) = uZ s'.1 (24 * i + b) _ (24 * j + b)
      unfold uZ
      by_cases q : j = i
      · rw [if_pos (by omega), if_pos (by omega), v]
      · rw [if_neg (by omega), if_neg (by omega)]
        exact h2 j (by omega) hs
  · unfold sn1
    rw [if_neg e, if_neg e]
    have ef : sg c p i b = false := Bool.eq_false_iff.mpr e
    refine ⟨fun j hj hl => ?_, fun j hj hs => ?_, h3⟩
    · refine h1 j hj ?_
      by_cases q2 : j < i
      · rw [if_pos q2]; rw [if_pos (by omega)] at hl; exact hl
      · rw [if_neg q2]
        by_cases q : j = i
        · subst q
          rw [if_pos (by omega), lnt_skip ef] at hl; exact hl
        · rw [if_neg (by omega)] at hl; exact hl
    · by_cases q : j = i
      · subst q; exact absurd hs e
      · exact h2 j (by omega) hs
theorem Rl_n {g g' b : Nat} (hb : b < 24) (hg : gvn c g b = gvn c g' b) {s s' : SS} (h : Rl c p b 0 s s') : ∀ n, n ≤ cN c → Rl c p b n (snb tw c p t g pl nb b s n) (snb tw c p t g' pl nb b s' n)
  | 0, _ => h
  | n + 1, hn => Rl_1 (by omega) hb hg (Rl_n hb hg h n (by omega))
theorem Rl_next {b : Nat} {s s' : SS} (h : Rl c p b (cN c) s s') : Rl c p (b + 1) 0 s s' := by
  obtain ⟨h1, h2, h3⟩ := h
  refine ⟨fun j hj hl => h1 j hj ?_, fun j hj => absurd hj (by omega), h3⟩
  rw [if_pos hj]; rw [if_neg (by omega)] at hl; exact hl
theorem Rl_give {g g' b : Nat} (e1 : g.testBit b = true) (e2 : g'.testBit b = true) {s s' : SS} (h3 : s.2.2.1 = s'.2.2.1) : Rl c p b 0 (gvs c p t g b s) (gvs c p t g' b s') := by
  unfold gvs
  rw [if_pos e1, if_pos e2]
  refine ⟨fun j hj hl => ?_, fun j hj => absurd hj (by omega), h3⟩
  rw [if_neg (by omega)] at hl
  show gvl c p t b s.2.1 (cN c) j = gvl c p t b s'.2.1 (cN c) j
  unfold gvl
  rw [if_pos ⟨hj, hl⟩, if_pos ⟨hj, hl⟩]
theorem Rl_gvs {g g' b : Nat} (e : g.testBit b = g'.testBit b) {s s' : SS} (h : Rl c p b 0 s s') : Rl c p b 0 (gvs c p t g b s) (gvs c p t g' b s') := by
  by_cases e1 : g.testBit b = true
  · exact Rl_give e1 (by rw [← e]; exact e1) h.2.2
  · unfold gvs
    rw [if_neg e1, if_neg (by rw [← e]; exact e1)]
    exact h
/-- from a giving, or from the beginning, on: the same is sung, as long as the same is given -/
theorem sal_rel {g g' a m : Nat} (hm : m < 24) (h0 : a = 0 ∨ (g.testBit a = true ∧ g'.testBit a = true)) (hb : ∀ b, a ≤ b → b ≤ m → g.testBit b = g'.testBit b) (hg : ∀ b, a ≤ b → b ≤ m → gvn c g b = gvn c g' b) : ∀ d, a + d ≤ m → Rl c p (a + d) (cN c) (sal tw c p t g pl nb (a + d + 1)) (sal tw c p t g' pl nb (a + d + 1))
  | 0, hd => by
    have hd : a ≤ m := hd
    show Rl c p a (cN c) (snb tw c p t g pl nb a (gvs c p t g a (sal tw c p t g pl nb a)) (cN c)) (snb tw c p t g' pl nb a (gvs c p t g' a (sal tw c p t g' pl nb a)) (cN c))
    refine Rl_n (by omega) (hg a (Nat.le_refl _) hd) ?_ _ (Nat.le_refl _)
    rcases h0 with e | ⟨e1, e2⟩
    · subst e
      exact Rl_gvs (hb 0 (Nat.le_refl _) hd) ⟨fun _ _ _ => rfl, fun j hj => absurd hj (by omega), rfl⟩
    · exact Rl_give e1 e2 (sal_luck a)
  | d + 1, hd => by
    have ih := sal_rel hm h0 hb hg d (by omega)
    show Rl c p (a + d + 1) (cN c) (snb tw c p t g pl nb (a + d + 1) (gvs c p t g (a + d + 1) (sal tw c p t g pl nb (a + d + 1))) (cN c)) (snb tw c p t g' pl nb (a + d + 1) (gvs c p t g' (a + d + 1) (sal tw c p t g' pl nb (a + d + 1))) (cN c))
    exact Rl_n (by omega) (hg _ (by omega) (by omega)) (Rl_gvs (hb _ (by omega) (by omega)) (Rl_next ih)) _ (Nat.le_refl _)
/-- later beats leave a pitch -/
theorem snb_pit {g b b' i : Nat} (hb : b < 24) (hb' : b' < 24) (hne : ¬ b = b') {s : SS} : ∀ n, (snb tw c p t g pl nb b' s n).1 (24 * i + b) = s.1 (24 * i + b)
  | 0 => rfl
  | n + 1 => by
    show (sn1 tw c p t g pl nb b' n (snb tw c p t g pl nb b' s n)).1 (24 * i + b) = _
    unfold sn1
    split
    · show uZ _ _ _ _ = _
      unfold uZ
      rw [if_neg (by omega)]
      exact snb_pit hb hb' hne n
    · exact snb_pit hb hb' hne n
theorem sal_pit {g b i : Nat} (hb : b < 24) : ∀ d, b + 1 + d ≤ 24 → (sal tw c p t g pl nb (b + 1 + d)).1 (24 * i + b) = (sal tw c p t g pl nb (b + 1)).1 (24 * i + b)
  | 0, _ => rfl
  | d + 1, hd => by
    show (snb tw c p t g pl nb (b + 1 + d) (gvs c p t g (b + 1 + d) (sal tw c p t g pl nb (b + 1 + d))) (cN c)).1 (24 * i + b) = _
    rw [snb_pit hb (by omega) (by omega)]
    have : (gvs c p t g (b + 1 + d) (sal tw c p t g pl nb (b + 1 + d))).1 = (sal tw c p t g pl nb (b + 1 + d)).1 := by
      unfold gvs; split <;> rfl
    rw [this]
    exact sal_pit hb d (by omega)
theorem sal_same {g g' a m : Nat} (hm : m < 24) (h0 : a = 0 ∨ (g.testBit a = true ∧ g'.testBit a = true)) (hb : ∀ b, a ≤ b → b ≤ m → g.testBit b = g'.testBit b) (hg : ∀ b, a ≤ b → b ≤ m → gvn c g b = gvn c g' b) {b : Nat} (h1 : a ≤ b) (h2 : b ≤ m) : off c p t (sal tw c p t g pl nb 24).1 b = off c p t (sal tw c p t g' pl nb 24).1 b := by
  have r := sal_rel (tw := tw) (p := p) (t := t) (pl := pl) (nb := nb) hm h0 hb hg (b - a) (by omega)
  rw [show a + (b - a) = b by omega] at r
  unfold off
  rw [fsum_c (f := ofw c p t (sal tw c p t g pl nb 24).1 b) (cN c) (fun i hi => ?_)]
  show (if sg c p i b = true then _ else 0) = (if sg c p i b = true then _ else 0)
  by_cases e : sg c p i b = true
  · rw [if_pos e, if_pos e]
    have p1 := sal_pit (tw := tw) (c := c) (p := p) (t := t) (pl := pl) (nb := nb) (g := g) (b := b) (i := i) (by omega) (23 - b) (by omega)
    have p2 := sal_pit (tw := tw) (c := c) (p := p) (t := t) (pl := pl) (nb := nb) (g := g') (b := b) (i := i) (by omega) (23 - b) (by omega)
    rw [show b + 1 + (23 - b) = 24 by omega] at p1 p2
    rw [p1, p2, r.2.1 i hi e]
  · rw [if_neg e, if_neg e]
end
theorem gvn_z0 {c : CT} {g a b : Nat} (h : g.testBit a = true) (hab : a ≤ b) : gvn c g b = 0 := by
  unfold gvn
  rw [if_neg]
  intro q
  have := Nat.testBit_mod_two_pow g (b + 1) a
  rw [q, h, Nat.zero_testBit, decide_eq_true (by omega)] at this
  exact absurd this (by decide)
theorem gvn_n {c : CT} {g b : Nat} (h : ∀ j, j ≤ b → g.testBit j = false) : gvn c g b = gvn c 0 b := by
  unfold gvn
  have : g % 2 ^ (b + 1) = 0 := by
    apply Nat.eq_of_testBit_eq
    intro i
    rw [Nat.testBit_mod_two_pow, Nat.zero_testBit]
    by_cases q : i < b + 1
    · rw [h i (by omega), Bool.and_false]
    · rw [decide_eq_false q, Bool.false_and]
  rw [if_pos this, if_pos (Nat.zero_mod _)]
/-- the greatest of some, from a on -/
def mxr (f : Nat → Int) (a : Nat) : Nat → Int
  | 0 => 0
  | n + 1 => if mxr f a n < f (a + n) then f (a + n) else mxr f a n
def mx2 (x y : Int) : Int := if x < y then y else x
theorem mxr_0 (f : Nat → Int) (a : Nat) : ∀ n, 0 ≤ mxr f a n
  | 0 => Int.le_refl _
  | n + 1 => by
    have := mxr_0 f a n
    show 0 ≤ (if mxr f a n < f (a + n) then f (a + n) else mxr f a n)
    split <;> omega
theorem mxr_b {f : Nat → Int} {a : Nat} {B : Int} (hB : 0 ≤ B) : ∀ n, (∀ k, k < n → f (a + k) ≤ B) → mxr f a n ≤ B
  | 0, _ => hB
  | n + 1, h => by
    have := mxr_b hB n (fun k hk => h k (by omega))
    have := h n (by omega)
    show (if mxr f a n < f (a + n) then f (a + n) else mxr f a n) ≤ B
    split <;> omega
theorem mxr_app (f : Nat → Int) (a n : Nat) : ∀ m, mxr f a (n + m) = mx2 (mxr f a n) (mxr f (a + n) m)
  | 0 => by
    have := mxr_0 f a n
    show mxr f a n = (if mxr f a n < 0 then 0 else mxr f a n)
    rw [if_neg (by omega)]
  | m + 1 => by
    have ih := mxr_app f a n m
    show (if mxr f a (n + m) < f (a + (n + m)) then f (a + (n + m)) else mxr f a (n + m)) = _
    rw [ih]
    show (if mx2 _ _ < f (a + (n + m)) then f (a + (n + m)) else mx2 _ _) = mx2 (mxr f a n) (if mxr f (a + n) m < f (a + n + m) then f (a + n + m) else mxr f (a + n) m)
    rw [show a + (n + m) = a + n + m by omega]
    unfold mx2
    repeat' split
    all_goals omega
theorem mxr_c {f g : Nat → Int} {a : Nat} : ∀ n, (∀ k, k < n → f (a + k) = g (a + k)) → mxr f a n = mxr g a n
  | 0, _ => rfl
  | n + 1, h => by
    show (if mxr f a n < f (a + n) then f (a + n) else mxr f a n) = (if mxr g a n < g (a + n) then g (a + n) else mxr g a n)
    rw [mxr_c n (fun k hk => h k (by omega)), h n (by omega)]
theorem mxr_z {f : Nat → Int} {a n : Nat} : ∀ m, (∀ k, n ≤ k → k < n + m → f (a + k) = 0) → mxr f a (n + m) = mxr f a n
  | 0, _ => rfl
  | m + 1, h => by
    have := mxr_0 f a (n + m)
    show (if mxr f a (n + m) < f (a + (n + m)) then f (a + (n + m)) else mxr f a (n + m)) = _
    rw [h (n + m) (by omega) (by omega), if_neg (by omega)]
    exact mxr_z m (fun k h1 h2 => h k h1 (by omega))
def ofa (tw : (Nat → Int32) → Nat → Int) (c : CT) (p : PT) (g b : Nat) : Int := iabs (off c p 0 (sal tw c p 0 g (cP c) false 24).1 b)
def gst (b : Nat) : Nat := if b = 0 then 0 else 2 ^ b
def Fr_ (tw : (Nat → Int32) → Nat → Int) (c : CT) (p : PT) (a e : Nat) : Int := mxr (ofa tw c p (gst a)) a (e - a)
theorem tb2 (a b : Nat) : (2 ^ a).testBit b = decide (a = b) := Nat.testBit_two_pow
theorem or3_t {a b d : Nat} (j : Nat) : (2 ^ a ||| 2 ^ b ||| 2 ^ d).testBit j = (decide (a = j) || decide (b = j) || decide (d = j)) := by
  rw [Nat.testBit_or, Nat.testBit_or, tb2, tb2, tb2]
/-- the greatest, by its parts -/
theorem far_G {tw : (Nat → Int32) → Nat → Int} {c : CT} {p : PT} {a b d l : Nat} (ha : 0 < a) (hab : a ≤ b) (hbd : b ≤ d) (hdl : d ≤ l) (hl : l < 24) : mxr (ofa tw c p (2 ^ a ||| 2 ^ b ||| 2 ^ d)) 0 (l + 1) = mx2 (mx2 (Fr_ tw c p 0 a) (Fr_ tw c p a b)) (mx2 (Fr_ tw c p b d) (Fr_ tw c p d (l + 1))) := by
  obtain ⟨G, hG⟩ : ∃ G, G = 2 ^ a ||| 2 ^ b ||| 2 ^ d := ⟨_, rfl⟩
  have tG : ∀ j, G.testBit j = (decide (a = j) || decide (b = j) || decide (d = j)) := fun j => by rw [hG]; exact or3_t j
  have part : ∀ (s e : Nat), 0 < s → (s = a ∨ s = b ∨ s = d) → e ≤ 24 → (∀ j, s < j → j < e → ¬ a = j ∧ ¬ b = j ∧ ¬ d = j) → mxr (ofa tw c p G) s (e - s) = Fr_ tw c p s e := by
    intro s e hs hx he hj
    unfold Fr_
    refine mxr_c _ (fun k hk => ?_)
    unfold ofa
    have gs : gst s = 2 ^ s := if_neg (by omega)
    rw [gs]
    have ts : G.testBit s = true := by
      rw [tG]
      rcases hx with q | q | q <;> rw [q] <;> simp
    have t2 : (2 ^ s).testBit s = true := by rw [tb2]; simp
    rw [sal_same (m := e - 1) (a := s) (by omega) (Or.inr ⟨ts, t2⟩) (fun j h1 h2 => ?_) (fun j h1 h2 => by rw [gvn_z0 ts h1, gvn_z0 t2 h1]) (by omega) (by omega)]
    by_cases q : j = s
    · rw [q, ts, t2]
    · obtain ⟨n1, n2, n3⟩ := hj j (by omega) (by omega)
      rw [tG, tb2, decide_eq_false n1, decide_eq_false n2, decide_eq_false n3, decide_eq_false (fun z => q z.symm)]; rfl
  have first : mxr (ofa tw c p G) 0 a = Fr_ tw c p 0 a := by
    unfold Fr_
    refine mxr_c _ (fun k hk => ?_)
    unfold ofa
    have lo : ∀ j, j ≤ a - 1 → G.testBit j = false := fun j hj => by
      rw [tG, decide_eq_false (by omega), decide_eq_false (by omega), decide_eq_false (by omega)]; rfl
    have gs : gst 0 = 0 := rfl
    rw [gs, sal_same (m := a - 1) (a := 0) (by omega) (Or.inl rfl) (fun j _ h2 => by rw [lo j h2, Nat.zero_testBit]) (fun j _ h2 => gvn_n (fun i hi => lo i (by omega))) (by omega) (by omega)]
  rw [← hG, show l + 1 = a + (b - a) + ((d - b) + (l + 1 - d)) by omega, mxr_app, mxr_app, mxr_app, first]
  rw [show 0 + a = a by omega, show 0 + (a + (b - a)) = b by omega, show b + (d - b) = d by omega]
  rw [show a + (b - a) + ((d - b) + (l + 1 - d)) = l + 1 by omega]
  rw [part a b (by omega) (Or.inl rfl) (by omega) (fun j h1 h2 => by omega), part b d (by omega) (Or.inr (Or.inl rfl)) (by omega) (fun j h1 h2 => by omega), part d (l + 1) (by omega) (Or.inr (Or.inr rfl)) (by omega) (fun j h1 h2 => by omega)]
