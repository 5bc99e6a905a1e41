/-! LAYER 2: ways, in the reference: all keynotes laid -/
theorem lk7_s {k : Nat} : lk7 k + (1 : Int32) = lk7 (k + 1) := by
  unfold lk7
  rw [if_neg (show ¬ k + 1 = 0 by omega), Nat.add_sub_cancel]
  by_cases q : k = 0
  · rw [if_pos q, q]; rfl
  · rw [if_neg q, show (1 : Int32) = nI 1 from rfl, nI_add, show k - 1 + 1 = k by omega]
theorem lk7_7 : (6 : Int32) ≤ lk7 7 := by decide
theorem lk7_n {k : Nat} (hk : k < 7) : ¬ (6 : Int32) ≤ lk7 k := by
  unfold lk7
  by_cases q : k = 0
  · rw [if_pos q]; decide
  · rw [if_neg q, show (6 : Int32) = nI 6 from rfl, cle (by omega) (by omega)]; omega
def z57 (b l : Nat) (μ : MM) : Prop := ∀ c, b < c → c < l + 1 → gI μ 57 c = nI 0
theorem z57.o {b l : Nat} {μ μ' : MM} (h : z57 b l μ) (s : Sm (Pmr b) μ μ') : z57 b l μ' := fun c h1 h2 => by
  have : (c == b) = false := beq_eq_false_iff_ne.mpr (by omega)
  rw [(s.2.2 57 c (by simp [Pmr, this])).1]
  exact h c h1 h2
def CM (p : PT) (b : Nat) (μ : MM) : Prop := ∃ n f, RM b n f μ ∧ En p b n f
theorem CM.o {p : PT} {b c : Nat} {μ μ' : MM} (h : CM p c μ) (s : Sm (Pmr b) μ μ') (hc : ¬ c = b) : CM p c μ' := by
  obtain ⟨n, f, h1, h2⟩ := h
  exact ⟨n, f, h1.o s hc, h2⟩
def LJ (p : PT) (b : Nat) (x : Nat → Int) (i k n : Nat) (f : Nat → Int) : Prop := (∀ a c, a < c → c < n → ¬ f a = f c) ∧ (∀ a, a < n → RR p (b + 1) (f a)) ∧ (∀ i' j, i' < i → j < 7 → al7 p (b + 1) j = true → ∃ a, a < n ∧ f a = x i' + sN7 p (b + 1) j) ∧ ∀ j, j < k → al7 p (b + 1) j = true → ∃ a, a < n ∧ f a = x i + sN7 p (b + 1) j
theorem LJ.step {p : PT} {b : Nat} {x : Nat → Int} {i n : Nat} {f : Nat → Int} (h : LJ p b x i 7 n f) : LJ p b x (i + 1) 0 n f := by
  obtain ⟨h1, h2, h3, h4⟩ := h
  refine ⟨h1, h2, fun i' j hi hj ha => ?_, fun j hj => absurd hj (by omega)⟩
  by_cases q : i' = i
  · rw [q]; exact h4 j hj ha
  · exact h3 i' j (by omega) hj ha
theorem LJ.skip {p : PT} {b : Nat} {x : Nat → Int} {i k n : Nat} {f : Nat → Int} (h : LJ p b x i k n f) (hk : al7 p (b + 1) k = true → ∃ a, a < n ∧ f a = x i + sN7 p (b + 1) k) : LJ p b x i (k + 1) n f := by
  obtain ⟨h1, h2, h3, h4⟩ := h
  refine ⟨h1, h2, h3, fun j hj ha => ?_⟩
  by_cases q : j = k
  · rw [q] at ha ⊢; exact hk ha
  · exact h4 j (by omega) ha
theorem LJ.add {p : PT} {b : Nat} {x : Nat → Int} {i k n : Nat} {f : Nat → Int} {z : Int} (h : LJ p b x i k n f) (hn : ∀ a, a < n → ¬ f a = z) (hz : RR p (b + 1) z) : LJ p b x i k (n + 1) (uM f n z) := by
  obtain ⟨h1, h2, h3, h4⟩ := h
  have old : ∀ w, (∃ a, a < n ∧ f a = w) → ∃ a, a < n + 1 ∧ uM f n z a = w := fun w ⟨a, a1, a2⟩ => ⟨a, by omega, by rw [uM_o (by omega)]; exact a2⟩
  refine ⟨fun a c hac hc e => ?_, fun a ha => ?_, fun i' j hi hj hal => old _ (h3 i' j hi hj hal), fun j hj hal => old _ (h4 j hj hal)⟩
  · by_cases q : c = n
    · rw [q, uM_s, uM_o (by omega)] at e; exact hn a (by omega) e
    · rw [uM_o q, uM_o (by omega)] at e; exact h1 a c hac (by omega) e
  · by_cases q : a = n
    · rw [q, uM_s]; exact hz
    · rw [uM_o q]; exact h2 a (by omega)
theorem LJ.en {p : PT} {b nx n : Nat} {x f : Nat → Int} (h : LJ p b x nx 0 n f) (ex : En p b nx x) : En p (b + 1) n f := by
  obtain ⟨h1, h2, h3, h4⟩ := h
  refine ⟨h1, h2, fun z ⟨k, hk, ha, hr⟩ => ?_⟩
  obtain ⟨i, i1, i2⟩ := ex.2.2 _ hr
  obtain ⟨a, a1, a2⟩ := h3 i k i1 hk ha
  exact ⟨a, a1, by rw [a2, i2, Int.sub_add_cancel]⟩
theorem s_ly55 {p : PT} (hp' : WP p) {l b nx i : Nat} {x : Nat → Int} (hb : b + 1 < 24) (hi : i < nx) (ex : En p b nx x) (K31 K39 : Int32 → MM → Option (Int32 × MM)) (x1 x2 : Int32) {μ0 : MM} (hw0 : Wf μ0) (hm0 : MP p μ0) : ∀ (d g k n : Nat) (f : Nat → Int) (μ : MM), k + d = 7 → d < g → Sm Pmm μ0 μ → z57 (b + 1) l μ → (∀ c, c < b + 1 → CM p c μ) → RM b nx x μ → RM (b + 1) n f μ → LJ p b x i k n f → (∃ n' f' μ', f_M_lays_L55 K31 K39 49 x1 x2 (nI (b + 1)) (nI i) g (lk7 k) μ = K39 (nI (i + 1)) μ' ∧ Sm Pmm μ0 μ' ∧ z57 (b + 1) l μ' ∧ (∀ c, c < b + 1 → CM p c μ') ∧ RM b nx x μ' ∧ RM (b + 1) n' f' μ' ∧ LJ p b x i 7 n' f') ∨ ∃ μ', f_M_lays_L55 K31 K39 49 x1 x2 (nI (b + 1)) (nI i) g (lk7 k) μ = some (0, μ') ∧ Sm Pmm μ0 μ' ∧ Bg p (b + 1) := by
  intro d
  induction d with
  | zero =>
    intro g k n f μ hk hg s0 hz hc hx hr hj
    obtain ⟨g, rfl⟩ : ∃ z, g = z + 1 := ⟨g - 1, by omega⟩
    have : k = 7 := by omega
    subst this
    refine Or.inl ⟨n, f, μ, ?_, s0, hz, hc, hx, hr, hj⟩
    rw [e_M_lays_L55, if_pos lk7_7, show (1 : Int32) = nI 1 from rfl, nI_add]
  | succ d ih =>
    intro g k n f μ hk hg s0 hz hc hx hr hj
    obtain ⟨g, rfl⟩ : ∃ z, g = z + 1 := ⟨g - 1, by omega⟩
    have hw := s0.wf hw0
    have hm := hm0.w s0
    rw [e_M_lays_L55, if_neg (lk7_n (by omega)), s_mayLink hw hm (by omega), bsome]
    cases ha : al7 p (b + 1) k with
    | false =>
      rw [if_pos (by decide), lk7_s]
      exact ih g (k + 1) n f μ (by omega) (by omega) s0 hz hc hx hr (hj.skip (fun h => by rw [ha] at h; cases h))
    | true =>
      rw [if_neg (by decide)]
      obtain ⟨rr, en⟩ := s_nextOf hp' hb (by omega) ha hw hm hx hi (ex.2.1 i hi)
      rw [en]
      rcases s_placeOf hp' hb hw hr hj.2.1 rr with ⟨j, j1, j2, j3⟩ | ⟨no, n3, e3⟩ | ⟨no, n3, μ1, e1, s1, r1⟩
      · have := hr.2.1
        rw [j3, bsome, if_neg (show ¬ nI j = -1 from nI_ne_m1 (by omega)), lk7_s]
        exact ih g (k + 1) n f μ (by omega) (by omega) s0 hz hc hx hr (hj.skip (fun _ => ⟨j, j1, j2⟩))
      · rw [e3, bsome, if_pos rfl]
        refine Or.inr ⟨μ, rfl, s0, uM f n (x i + sN7 p (b + 1) k), ?_, ?_⟩
        · obtain ⟨h1, -⟩ := hj.add no rr
          rw [n3] at h1 ⊢; exact h1
        · obtain ⟨-, h2, -⟩ := hj.add no rr
          rw [n3] at h2 ⊢; exact h2
      · rw [e1, bsome, if_neg (show ¬ nI n = -1 from nI_ne_m1 (by omega)), lk7_s]
        exact ih g (k + 1) (n + 1) _ μ1 (by omega) (by omega) (s0.tr (s1.mono Pmr_w)) (hz.o s1) (fun c hcb => (hc c hcb).o s1 (by omega)) (hx.o s1 (by omega)) r1 ((hj.add no rr).skip (fun _ => ⟨n, by omega, uM_s⟩))
theorem s_ly39 {p : PT} (hp' : WP p) {l b nx : Nat} {x : Nat → Int} (hb : b + 1 < 24) (ex : En p b nx x) (K31 : Int32 → MM → Option (Int32 × MM)) (x1 x2 : Int32) {μ0 : MM} (hw0 : Wf μ0) (hm0 : MP p μ0) : ∀ (d g i n : Nat) (f : Nat → Int) (μ : MM), i + d = nx → d < g → Sm Pmm μ0 μ → z57 (b + 1) l μ → (∀ c, c < b + 1 → CM p c μ) → RM b nx x μ → RM (b + 1) n f μ → LJ p b x i 0 n f → (∃ μ', f_M_lays_L39 K31 49 x1 x2 (nI (b + 1)) g (nI i) μ = K31 (nI (b + 2)) μ' ∧ Sm Pmm μ0 μ' ∧ z57 (b + 1) l μ' ∧ ∀ c, c < b + 2 → CM p c μ') ∨ ∃ μ', f_M_lays_L39 K31 49 x1 x2 (nI (b + 1)) g (nI i) μ = some (0, μ') ∧ Sm Pmm μ0 μ' ∧ Bg p (b + 1) := by
  intro d
  induction d with
  | zero =>
    intro g i n f μ hi hg s0 hz hc hx hr hj
    obtain ⟨g, rfl⟩ : ∃ z, g = z + 1 := ⟨g - 1, by omega⟩
    have : i = nx := by omega
    subst this
    have hw := s0.wf hw0
    have := hx.2.1
    refine Or.inl ⟨μ, ?_, s0, hz, fun c hcb => ?_⟩
    · rw [e_M_lays_L39, rR_49_11 hw, bsome, nI_m1 (by omega), Nat.add_sub_cancel, aI_57 hw (by omega), bsome, hx.1, if_pos (by rw [cle (by omega) (by omega)]; omega), show (1 : Int32) = nI 1 from rfl, nI_add]
    · by_cases q : c = b + 1
      · rw [q]; exact ⟨n, f, hr, hj.en ex⟩
      · exact hc c (by omega)
  | succ d ih =>
    intro g i n f μ hi hg s0 hz hc hx hr hj
    obtain ⟨g, rfl⟩ : ∃ z, g = z + 1 := ⟨g - 1, by omega⟩
    have hw := s0.wf hw0
    have := hx.2.1
    rw [e_M_lays_L39, rR_49_11 hw, bsome, nI_m1 (by omega), Nat.add_sub_cancel, aI_57 hw (by omega), bsome, hx.1, if_neg (by rw [cle (by omega) (by omega)]; omega), show (-1 : Int32) = lk7 0 from rfl]
    rcases s_ly55 hp' hb (i := i) (by omega) ex K31 (f_M_lays_L39 K31 49 x1 x2 (nI (b + 1)) g) x1 x2 hw0 hm0 7 FU 0 n f μ (by omega) (by unfold FU; omega) s0 hz hc hx hr hj with ⟨n', f', μ', e1, s1, hz1, c1, x1', r1, j1⟩ | ⟨μ', e1, s1, bg⟩
    · rw [e1]
      exact ih g (i + 1) n' f' μ' (by omega) (by omega) s1 hz1 c1 x1' r1 j1.step
    · exact Or.inr ⟨μ', e1, s1, bg⟩
theorem s_lays {p : PT} (hp' : WP p) {l : Nat} (hl : l < 24) {μ : MM} (hw : Wf μ) (hm : MP p μ) : ∃ r μ', f_M_lays 49 (nI l) μ = some (r, μ') ∧ Sm Pmm μ μ' ∧ ((r = 0 ∧ ∃ c, c < l + 1 ∧ Bg p c) ∨ (r = 1 ∧ ∀ c, c < l + 1 → CM p c μ')) := by
  have go31 : ∀ (d g b : Nat) (m : MM), b + d = l → d < g → Sm Pmm μ m → (∀ c, c < b + 1 → CM p c m) → z57 b l m → ∃ r μ', f_M_lays_L31 49 (nI l) (nI 0) g (nI (b + 1)) m = some (r, μ') ∧ Sm Pmm μ μ' ∧ ((r = 0 ∧ ∃ c, c < l + 1 ∧ Bg p c) ∨ (r = 1 ∧ ∀ c, c < l + 1 → CM p c μ')) := by
    intro d
    induction d with
    | zero =>
      intro g b m hb hg s hc hz
      obtain ⟨g, rfl⟩ : ∃ z, g = z + 1 := ⟨g - 1, by omega⟩
      have : b = l := by omega
      subst this
      exact ⟨1, m, by rw [e_M_lays_L31, if_pos (by rw [clt (by omega) (by omega)]; omega)], s, Or.inr ⟨rfl, hc⟩⟩
    | succ d ih =>
      intro g b m hb hg s hc hz
      obtain ⟨g, rfl⟩ : ∃ z, g = z + 1 := ⟨g - 1, by omega⟩
      obtain ⟨nx, x, rx, ex⟩ := hc b (by omega)
      rw [e_M_lays_L31, if_neg (by rw [clt (by omega) (by omega)]; omega)]
      rcases s_ly39 hp' (b := b) (by omega) ex (f_M_lays_L31 49 (nI l) (nI 0) g) (nI l) (nI 0) hw hm nx FU 0 0 (fun _ => 0) m (by omega) (by have := rx.2.1; unfold FU; omega) s (fun c h1 h2 => hz c (by omega) h2) hc rx ⟨hz (b + 1) (by omega) (by omega), by omega, fun k hk => absurd hk (by omega)⟩ ⟨fun a c _ hc2 => absurd hc2 (by omega), fun a ha => absurd ha (by omega), fun i' j hi => absurd hi (by omega), fun j hj => absurd hj (by omega)⟩ with ⟨m1, e1, s1, hz1, c1⟩ | ⟨m1, e1, s1, bg⟩
      · rw [e1]
        exact ih g (b + 1) m1 (by omega) (by omega) s1 c1 hz1
      · exact ⟨0, m1, e1, s1, Or.inl ⟨rfl, b + 1, by omega, bg⟩⟩
  have go2 : ∀ (d g b : Nat) (m : MM), b + d = l + 1 → d < g → Sm Pmm μ m → (∀ c, c < b → gI m 57 c = nI 0) → ∃ r μ', f_M_lays_L2 49 (nI l) g (nI b) m = some (r, μ') ∧ Sm Pmm μ μ' ∧ ((r = 0 ∧ ∃ c, c < l + 1 ∧ Bg p c) ∨ (r = 1 ∧ ∀ c, c < l + 1 → CM p c μ')) := by
    intro d
    induction d with
    | zero =>
      intro g b m hb hg s hz
      obtain ⟨g, rfl⟩ : ∃ z, g = z + 1 := ⟨g - 1, by omega⟩
      have hwm := s.wf hw
      rw [e_M_lays_L2, if_pos (by rw [clt (by omega) (by omega)]; omega)]
      rcases s_placeOf hp' (b := 0) (n := 0) (f := fun _ => 0) (z := 0) (by omega) hwm ⟨hz 0 (by omega), by omega, fun k hk => absurd hk (by omega)⟩ (fun k hk => absurd hk (by omega)) rfl with ⟨j, j1, -⟩ | ⟨-, n3, -⟩ | ⟨-, -, m1, e1, s1, r1⟩
      · omega
      · omega
      · have e1' : f_M_placeOf 49 (0 : Int32) (0 : Int32) (0 : Int32) (0 : Int32) m = some (nI 0, m1) := e1
        rw [e1', bsome, show (1 : Int32) = nI (0 + 1) from rfl]
        refine go31 l FU 0 m1 (by omega) (by unfold FU; omega) (s.tr (s1.mono Pmr_w)) (fun c hc => ?_) (z57.o (fun c h1 h2 => hz c (by omega)) s1)
        have : c = 0 := by omega
        subst this
        refine ⟨1, _, r1, fun a c h1 h2 => absurd h1 (by omega), fun k hk => ?_, fun z hz => ⟨0, by omega, ?_⟩⟩
        · have : k = 0 := by omega
          subst this
          rw [uM_s]; exact rfl
        · rw [uM_s]; exact (show z = 0 from hz).symm
    | succ d ih =>
      intro g b m hb hg s hz
      obtain ⟨g, rfl⟩ : ∃ z, g = z + 1 := ⟨g - 1, by omega⟩
      have hwm := s.wf hw
      rw [e_M_lays_L2, if_neg (by rw [clt (by omega) (by omega)]; omega), rR_49_11 hwm, bsome, show (0 : Int32) = nI 0 from rfl, uI_57 hwm (by omega), bsome, show (1 : Int32) = nI 1 from rfl, nI_add]
      refine ih g (b + 1) _ (by omega) (by omega) (s.tr (Sm.sI (Pmm_y (by decide) (by decide)))) (fun c hc => ?_)
      rw [gI_sI]
      by_cases q : c = b
      · rw [q, upd_s]
      · rw [upd_o q]; exact hz c (by omega)
  unfold f_M_lays
  rw [kO_49 hw, bsome, show (0 : Int32) = nI 0 from rfl]
  exact go2 (l + 1) FU 0 μ (by omega) (by unfold FU; omega) Sm.rf (fun c hc => absurd hc (by omega))
