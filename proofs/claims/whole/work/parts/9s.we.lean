/-! LAYER 2: ways, in the first program: which keynotes can be reached -/
def z97 (μ : MM) : Prop := ∀ b, b < 24 → gI μ 97 (7 * b) = 0
def Cv (p : PT) (b : Nat) (μ : MM) : Prop := ∃ n f, Rw b n f μ ∧ En p b n f
def Sf (p : PT) (b k : Nat) (μ : MM) : Prop := ∀ j, j < k → al7 p b j = true → gI μ 97 (7 * b + j) = oI (sN7 p b j)
def PR (p : PT) (b v : Nat) (z : Int) : Prop := ∃ k, k < v + 1 ∧ al7 p (b + 1) k = true ∧ RR p b (z - sN7 p (b + 1) k)
def WX (p : PT) (l : Nat) (μ : MM) : Prop := gI μ 92 9 = nI l ∧ (∀ b, b < l + 1 → Cv p b μ) ∧ ∀ b, 0 < b → b < l + 1 → Sf p b 7 μ
def WJ (p : PT) (l b v : Nat) (μ : MM) : Prop := z97 μ ∧ gI μ 92 9 = nI l ∧ (∀ j, j < b + 1 → Cv p j μ) ∧ (∀ j, 0 < j → j < b + 1 → Sf p j 7 μ) ∧ Sf p (b + 1) (v + 1) μ ∧ ∃ n f, Rw (b + 1) n f μ ∧ ∀ z, (∃ k, k < n ∧ f k = z) ↔ PR p b v z
theorem sN7_0 (p : PT) (b : Nat) : sN7 p b 0 = 0 := by
  unfold sN7 sA7 sB7 sC7 lvl lk7
  rw [if_pos rfl, if_pos rfl, if_pos rfl, if_pos rfl]; rfl
theorem PR_0 (p : PT) (b : Nat) (z : Int) : PR p b 0 z ↔ RR p b z := by
  unfold PR
  constructor
  · rintro ⟨k, hk, ha, hr⟩
    have : k = 0 := by omega
    subst this
    rw [sN7_0, Int.sub_zero] at hr; exact hr
  · intro h
    exact ⟨0, by omega, rfl, by rw [sN7_0, Int.sub_zero]; exact h⟩
theorem PR_RR {p : PT} {b v : Nat} {z : Int} (hv : v < 7) (h : PR p b v z) : RR p (b + 1) z := by
  obtain ⟨k, hk, ha, hr⟩ := h
  exact ⟨k, by omega, ha, hr⟩
theorem sN7_b {p : PT} (hp' : WP p) {b k : Nat} (hb : b < 24) (hk : k < 7) (h : al7 p b k = true) : -21000000 ≤ sN7 p b k ∧ sN7 p b k ≤ 21000000 := by
  obtain ⟨h1, h2, h3⟩ := s7_b hp' hb hk h
  unfold sN7 zN; omega
theorem Cv.c {p : PT} {b : Nat} {μ μ' : MM} (h : Cv p b μ) (g95 : gI μ' 95 b = gI μ 95 b) (g93 : ∀ k, k < 300 → gI μ' 93 (300 * b + k) = gI μ 93 (300 * b + k)) : Cv p b μ' := by
  obtain ⟨n, f, h1, h2⟩ := h
  exact ⟨n, f, h1.c g95 g93, h2⟩
theorem s_ex80 {p : PT} (hp' : WP p) {l b : Nat} (hl : l < 24) (hbl : b + 1 ≤ l) (K : Int32 → MM → Option (Int32 × MM)) {μ0 : MM} (hw0 : Wf μ0) (hx0 : XC p μ0) (w0 : Ww μ0) : ∀ (d g v : Nat) (μ : MM), v + d = 6 → d < g → Sm Pwy μ0 μ → WJ p l b v μ → (∃ μ', f_Wa_explore_L80 K 92 (nI (b + 1)) g (nI v) μ = K (nI (b + 2)) μ' ∧ Sm Pwy μ0 μ' ∧ WJ p l b 6 μ') ∨ ∃ μ', f_Wa_explore_L80 K 92 (nI (b + 1)) g (nI v) μ = some (0, μ') ∧ Sm Pwy μ0 μ' ∧ z97 μ' ∧ Bg p (b + 1) := by
  intro d
  induction d with
  | zero =>
    intro g v μ hv hg s0 hj
    obtain ⟨g, rfl⟩ : ∃ z, g = z + 1 := ⟨g - 1, by omega⟩
    have : v = 6 := by omega
    subst this
    refine Or.inl ⟨μ, ?_, s0, hj⟩
    rw [e_Wa_explore_L80, if_pos (by decide), show (1 : Int32) = nI 1 from rfl, nI_add]
  | succ d ih =>
    intro g v μ hv hg s0 hj
    obtain ⟨g, rfl⟩ : ∃ z, g = z + 1 := ⟨g - 1, by omega⟩
    obtain ⟨zz, jl, jc, js, jb, n, f, jr, jf⟩ := hj
    have hv6 : v < 6 := by omega
    have hw := s0.wf hw0
    have w := s0.ww w0
    have xs : ∀ {μ' : MM}, Sm Pwy μ0 μ' → XC p μ' := fun s => hx0.sm s (fun _ => Pwy_n (by decide)) (fun _ => Pwy_n (by decide)) (fun _ => Pwy_n (by decide)) (fun _ => Pwy_n (by decide))
    have hx := xs s0
    obtain ⟨sv, hsv⟩ : ∃ z, z = (if hp p v (b + 1) = true then oI (sN7 p (b + 1) (v + 1)) else 0) := ⟨_, rfl⟩
    have esh : f_Sc_shift 1 (nI v) (nI (b + 1)) μ = some sv := by
      rw [s_shift hw hx hv6 (by omega), hsv]
      show some (if hp p v (b + 1) = true then _ else _) = _
      by_cases q : hp p v (b + 1) = true
      · rw [if_pos q, if_pos q]
        unfold sN7 sA7 sB7 sC7 lvl lk7
        rw [if_neg (show ¬ v + 1 = 0 by omega), show v + 1 - 1 = v from rfl, if_neg (nI_ne_m1 (by omega)), if_neg (nI_ne_m1 (by omega)), if_neg (nI_ne_m1 (by omega)), nI_toInt (by omega), Int.toNat_natCast]
        rfl
      · rw [if_neg q, if_neg q]
    obtain ⟨μ1, e1⟩ : ∃ z, z = sI μ 97 (7 * (b + 1) + (v + 1)) sv := ⟨_, rfl⟩
    have s1 : Sm Pwy μ μ1 := by rw [e1]; exact Sm.sI (Pwy_y (by decide))
    have s01 := s0.tr s1
    have w1 := s1.ww w
    have hw1 := s1.wf hw
    have hx1 := xs s01
    have o1 : ∀ a, ¬ a = 97 → gI μ1 a = gI μ a := fun a ha => by rw [e1, gI_sI_ne ha]
    have z1 : z97 μ1 := fun c hc => by rw [e1, gI_sI, upd_o (by omega)]; exact zz c hc
    have c1 : ∀ j, j < b + 1 → Cv p j μ1 := fun j hj => (jc j hj).c (by rw [o1 95 (by decide)]) (fun k _ => by rw [o1 93 (by decide)])
    have f1 : ∀ j, 0 < j → j < b + 1 → Sf p j 7 μ1 := fun j h0 hj k hk ha => by rw [e1, gI_sI, upd_o (by omega)]; exact js j h0 hj k hk ha
    have b1 : Sf p (b + 1) (v + 1 + 1) μ1 := fun k hk ha => by
      by_cases q : k = v + 1
      · subst q
        have ha' : hp p v (b + 1) = true := ha
        rw [e1, gI_sI, upd_s, hsv, if_pos ha']
      · rw [e1, gI_sI, upd_o (by omega)]; exact jb k (by omega) ha
    have r1 : Rw (b + 1) n f μ1 := jr.c (by rw [o1 95 (by decide)]) (fun k _ => by rw [o1 93 (by decide)])
    rw [e_Wa_explore_L80, if_neg (by rw [show (6 : Int32) = nI 6 from rfl, cle (by omega) (by omega)]; omega), rR_92_0 w, bsome, esh, bsome, rR_92_5 w, bsome, rx7, show (1 : Int32) = nI 1 from rfl, nI_add, uI_97 w (by omega), bsome, show 7 * (b + 1) + v + 1 = 7 * (b + 1) + (v + 1) from rfl, ← e1, rR_92_0 w1, bsome, s_hp hw1 hx1, bsome]
    by_cases q : hp p v (b + 1) = true
    · rw [if_neg (by rw [q]; decide)]
      have esv : sv = oI (sN7 p (b + 1) (v + 1)) := by rw [hsv, if_pos q]
      have ha : al7 p (b + 1) (v + 1) = true := q
      have sb := sN7_b hp' (b := b + 1) (k := v + 1) (by omega) (by omega) ha
      obtain ⟨nx, x, rx, ex⟩ := c1 b (by omega)
      have inR : ∀ k, k < nx → RR p (b + 1) (x k + sN7 p (b + 1) (v + 1)) := fun k hk => (RR_s hp' (by omega) (ex.2.1 k hk) (by omega) ha).1
      obtain ⟨r, μ2, e2, s2, res⟩ := s_spread (b := b + 1) (by omega) (by omega) sb w1 rx r1 (fun k hk => by
        have := (RR_d hp' (by omega) (inR k hk)).2.2.2.2
        omega)
      have s2' : Sm Pwy μ1 μ2 := s2.mono Psp_w
      have s02 := s01.tr s2'
      have n97 : gI μ2 97 = gI μ1 97 := s2.gI 97 (fun _ => rfl)
      have n92 : gI μ2 92 = gI μ1 92 := s2.gI 92 (fun _ => rfl)
      have z2 : z97 μ2 := fun c hc => by rw [n97]; exact z1 c hc
      have some_PR : ∀ z, ((∃ a, a < nx ∧ x a + sN7 p (b + 1) (v + 1) = z) ∨ ∃ a, a < n ∧ f a = z) ↔ PR p b (v + 1) z := fun z => by
        constructor
        · rintro (⟨a, a1, a2⟩ | h)
          · exact ⟨v + 1, by omega, ha, by rw [← a2, Int.add_sub_cancel]; exact ex.2.1 a a1⟩
          · obtain ⟨k, k1, k2, k3⟩ := (jf z).mp h
            exact ⟨k, by omega, k2, k3⟩
        · rintro ⟨k, k1, k2, k3⟩
          by_cases c : k = v + 1
          · subst c
            obtain ⟨a, a1, a2⟩ := ex.2.2 _ k3
            exact Or.inl ⟨a, a1, by omega⟩
          · exact Or.inr ((jf z).mpr ⟨k, by omega, k2, k3⟩)
      rw [esv, e2, bsome]
      rcases res with ⟨rfl, n2, f2, r2, i2⟩ | ⟨rfl, f2, d2, i2⟩
      · rw [if_neg (show ¬ (1 : Int32) = 0 by decide), nI_add]
        refine ih g (v + 1) μ2 (by omega) (by omega) s02 ⟨z2, by rw [n92, o1 92 (by decide)]; exact jl, fun j hj => (c1 j hj).c ?_ (fun k hk => ?_), fun j h0 hj k hk h => by rw [n97]; exact f1 j h0 hj k hk h, fun k hk h => by rw [n97]; exact b1 k hk h, n2, f2, r2, fun z => (i2 z).trans (some_PR z)⟩
        · have : Psp (b + 1) 95 j = false := by
            have : ¬ j = b + 1 := by omega
            simp [Psp, this]
          exact (s2.2.2 95 j this).1
        · have : Psp (b + 1) 93 (300 * j + k) = false := by
            have : ¬ 300 * (b + 1) ≤ 300 * j + k := by omega
            simp [Psp, this]
          exact (s2.2.2 93 _ this).1
      · rw [if_pos rfl]
        exact Or.inr ⟨μ2, rfl, s02, z2, f2, d2, fun k hk => PR_RR (by omega) ((some_PR _).mp (i2 k hk))⟩
    · rw [if_pos (by rw [Bool.eq_false_iff.mpr q]; rfl), nI_add]
      refine ih g (v + 1) μ1 (by omega) (by omega) s01 ⟨z1, by rw [o1 92 (by decide)]; exact jl, c1, f1, b1, n, f, r1, fun z => (jf z).trans ?_⟩
      constructor
      · rintro ⟨k, k1, k2, k3⟩
        exact ⟨k, by omega, k2, k3⟩
      · rintro ⟨k, k1, k2, k3⟩
        refine ⟨k, ?_, k2, k3⟩
        by_cases c : k = v + 1
        · subst c; exact absurd k2 q
        · omega
theorem s_ex27 {p : PT} (hp' : WP p) {l : Nat} (hl : l < 24) {μ0 : MM} (hw0 : Wf μ0) (hx0 : XC p μ0) (w0 : Ww μ0) : ∀ (d g b : Nat) (μ : MM), b + d = l → d < g → Sm Pwy μ0 μ → z97 μ → gI μ 92 9 = nI l → (∀ j, j < b + 1 → Cv p j μ) → (∀ j, 0 < j → j < b + 1 → Sf p j 7 μ) → ∃ r μ', f_Wa_explore_L27 92 g (nI (b + 1)) μ = some (r, μ') ∧ Sm Pwy μ0 μ' ∧ z97 μ' ∧ ((r = 0 ∧ ∃ c, c ≤ l ∧ Bg p c) ∨ (r = 1 ∧ WX p l μ')) := by
  intro d
  induction d with
  | zero =>
    intro g b μ hb hg s0 zz jl jc js
    obtain ⟨g, rfl⟩ : ∃ z, g = z + 1 := ⟨g - 1, by omega⟩
    have : b = l := by omega
    subst this
    have w := s0.ww w0
    refine ⟨1, μ, ?_, s0, zz, Or.inr ⟨rfl, jl, jc, js⟩⟩
    rw [e_Wa_explore_L27, rI_92 w, bsome, jl, if_pos (by rw [clt (by omega) (by omega)]; omega), bsome, if_neg (nI_ne_m1 (by omega))]
  | succ d ih =>
    intro g b μ hb hg s0 zz jl jc js
    obtain ⟨g, rfl⟩ : ∃ z, g = z + 1 := ⟨g - 1, by omega⟩
    have w := s0.ww w0
    obtain ⟨n, f, rw1, en⟩ := jc b (by omega)
    have n3 := rw1.2.1
    obtain ⟨μ1, e1⟩ : ∃ z, z = sI μ 95 (b + 1) (nI n) := ⟨_, rfl⟩
    have s1 : Sm Pwy μ μ1 := by rw [e1]; exact Sm.sI (Pwy_y (by decide))
    have w1 := s1.ww w
    obtain ⟨μ2, e2⟩ : ∃ z, z = sF μ1 93 (va_cpy (gI μ1 93) (gI μ1 93) (300 * b) (300 * (b + 1)) n) := ⟨_, rfl⟩
    have s2 : Sm Pwy μ1 μ2 := by rw [e2]; exact Sm.sF (fun _ => Pwy_y (by decide))
    have s02 := (s0.tr s1).tr s2
    have g2 : ∀ k, gI μ2 93 k = if 300 * (b + 1) ≤ k ∧ k < 300 * (b + 1) + n then gI μ1 93 (300 * b + (k - 300 * (b + 1))) else gI μ1 93 k := fun k => by rw [e2, gI_sF]; rfl
    have g1 : gI μ1 93 = gI μ 93 := by rw [e1, gI_sI_ne (by decide)]
    have o2 : ∀ a, ¬ a = 93 → gI μ2 a = gI μ1 a := fun a ha => by rw [e2, gI_sF_ne ha]
    have o1 : ∀ a, ¬ a = 95 → gI μ1 a = gI μ a := fun a ha => by rw [e1, gI_sI_ne ha]
    have n97 : gI μ2 97 = gI μ 97 := by rw [o2 97 (by decide), o1 97 (by decide)]
    have n92 : gI μ2 92 = gI μ 92 := by rw [o2 92 (by decide), o1 92 (by decide)]
    have row : Rw (b + 1) n f μ2 := by
      refine ⟨by rw [o2 95 (by decide), e1, gI_sI, upd_s], n3, fun k hk => ?_, rw1.2.2.2.1, rw1.2.2.2.2⟩
      rw [g2, if_pos ⟨by omega, by omega⟩, g1, show 300 * b + (300 * (b + 1) + k - 300 * (b + 1)) = 300 * b + k by omega]
      exact rw1.2.2.1 k hk
    have hJ : WJ p l b 0 μ2 := by
      refine ⟨fun c hc => by rw [n97]; exact zz c hc, by rw [n92]; exact jl, fun j hj => (jc j hj).c ?_ (fun k hk => ?_), fun j h0 hj k hk h => by rw [n97]; exact js j h0 hj k hk h, fun k hk h => ?_, n, f, row, fun z => ?_⟩
      · rw [o2 95 (by decide), e1, gI_sI, upd_o (by omega)]
      · rw [g2, if_neg (by omega), g1]
      · have : k = 0 := by omega
        subst this
        rw [n97, sN7_0]; exact zz (b + 1) (by omega)
      · rw [PR_0]
        constructor
        · rintro ⟨k, k1, k2⟩; rw [← k2]; exact en.2.1 k k1
        · exact en.2.2 z
    rw [e_Wa_explore_L27, rI_92 w, bsome, jl, if_neg (by rw [clt (by omega) (by omega)]; omega), rR_92_3 w, bsome, bsome, nI_m1 (by omega), Nat.add_sub_cancel, aI_95 w (by omega), bsome, rw1.1, uI_95 w (by omega), bsome, ← e1, rR_92_1 w1, bsome, bsome, rR_92_3 w1, bsome, aI_95 w1 (by omega), bsome, rx30, rx30, show gI μ1 95 (b + 1) = nI n by rw [e1, gI_sI, upd_s], cpA (w1.k 1 (by decide) rfl) (w1.k 1 (by decide) rfl) (by omega) (by omega) (by decide) (by decide), bsome, ← e2, show (0 : Int32) = nI 0 from rfl]
    rcases s_ex80 hp' hl (by omega) (f_Wa_explore_L27 92 g) hw0 hx0 w0 6 FU 0 μ2 (by decide) (by unfold FU; omega) s02 hJ with ⟨μ3, e3, s3, zz3, l3, c3, f3, b3, n', f', r3, i3⟩ | ⟨μ3, e3, s3, zz3, bg⟩
    · rw [e3]
      refine ih g (b + 1) μ3 (by omega) (by omega) s3 zz3 l3 (fun j hj => ?_) (fun j h0 hj => ?_)
      · by_cases q : j = b + 1
        · subst q
          refine ⟨n', f', r3, fun i j hij hj e => ?_, fun k hk => PR_RR (v := 6) (by omega) ((i3 _).mp ⟨k, hk, rfl⟩), fun z hz => (i3 z).mpr ?_⟩
          · have := r3.2.2.2.1 i j hij hj; omega
          · obtain ⟨k, k1, k2, k3⟩ := hz
            exact ⟨k, k1, k2, k3⟩
        · exact c3 j (by omega)
      · by_cases q : j = b + 1
        · subst q; exact b3
        · exact f3 j h0 (by omega)
    · exact ⟨0, μ3, e3, s3, zz3, Or.inl ⟨rfl, b + 1, by omega, bg⟩⟩
theorem s_explore {p : PT} (hp' : WP p) {l : Nat} (hl : l < 24) (hlb : lbt p = nI l) {μ : MM} (hw : Wf μ) (hx : XC p μ) (w : Ww μ) (zz : z97 μ) : ∃ r μ', f_Wa_explore 92 μ = some (r, μ') ∧ Sm Pwy μ μ' ∧ z97 μ' ∧ ((r = 0 ∧ ∃ c, c ≤ l ∧ Bg p c) ∨ (r = 1 ∧ WX p l μ')) := by
  unfold f_Wa_explore
  rw [kO_92 w, bsome, rR_92_0 w, bsome, s_lastBeat hw hx, bsome, hlb, pI_92 w, bsome]
  obtain ⟨μ1, e1⟩ : ∃ z, z = sI μ 92 9 (nI l) := ⟨_, rfl⟩
  have s1 : Sm Pwy μ μ1 := by rw [e1]; exact Sm.sI (Pwy_y (by decide))
  have w1 := s1.ww w
  rw [← e1, rR_92_1 w1, bsome, show (0 : Int32) = nI 0 from rfl, uI_93 w1 (by decide), bsome]
  obtain ⟨μ2, e2⟩ : ∃ z, z = sI μ1 93 0 (nI 0) := ⟨_, rfl⟩
  have s2 : Sm Pwy μ1 μ2 := by rw [e2]; exact Sm.sI (Pwy_y (by decide))
  have w2 := s2.ww w1
  rw [← e2, rR_92_3 w2, bsome, uI_95 w2 (by decide), bsome]
  obtain ⟨μ3, e3⟩ : ∃ z, z = sI μ2 95 0 (1 : Int32) := ⟨_, rfl⟩
  have s3 : Sm Pwy μ2 μ3 := by rw [e3]; exact Sm.sI (Pwy_y (by decide))
  rw [← e3, show (1 : Int32) = nI (0 + 1) from rfl]
  have n97 : gI μ3 97 = gI μ 97 := by rw [e3, gI_sI_ne (by decide), e2, gI_sI_ne (by decide), e1, gI_sI_ne (by decide)]
  refine s_ex27 hp' hl hw hx w l FU 0 μ3 (by omega) (by unfold FU; omega) ((s1.tr s2).tr s3) (fun c hc => by rw [n97]; exact zz c hc) ?_ (fun j hj => ?_) (fun j h0 hj => absurd hj (by omega))
  · rw [e3, gI_sI_ne (by decide), e2, gI_sI_ne (by decide), e1, gI_sI, upd_s]
  · have : j = 0 := by omega
    subst this
    refine ⟨1, fun _ => 0, ⟨by rw [e3, gI_sI, upd_s]; rfl, by omega, fun k hk => ?_, fun i j hij hj => absurd hij (by omega), fun k _ => (show (-500000000 : Int) ≤ 0 ∧ (0 : Int) ≤ 500000000 by decide)⟩, fun i j hij hj => absurd hij (by omega), fun k _ => rfl, fun z hz => ⟨0, by omega, hz.symm⟩⟩
    have : k = 0 := by omega
    subst this
    rw [e3, gI_sI_ne (by decide), e2, gI_sI, upd_s]; rfl
