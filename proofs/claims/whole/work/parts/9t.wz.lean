/-! LAYER 2: ways, in the first program: what links cost; finding a keynote; filling -/
theorem oI_leI {a b : Int} (ha : -2147483648 ≤ a ∧ a < 2147483648) (hb : -2147483648 ≤ b ∧ b < 2147483648) : (oI a ≤ oI b) = (a ≤ b) := by
  rw [Int32.le_iff_toInt_le, oI_toInt ha.1 ha.2, oI_toInt hb.1 hb.2]
theorem oI_inj {a b : Int} (ha : -2147483648 ≤ a ∧ a < 2147483648) (hb : -2147483648 ≤ b ∧ b < 2147483648) : (oI a = oI b) = (a = b) := by
  refine propext ⟨fun h => ?_, fun h => by rw [h]⟩
  have := congrArg Int32.toInt h
  rw [oI_toInt ha.1 ha.2, oI_toInt hb.1 hb.2] at this
  exact this
def pz (p : PT) (y : Bool) (b k : Nat) : Option Int := if al7 p b k = true then some (co7 p y b k) else none
def Pz (p : PT) (y : Bool) (l : Nat) (μ : MM) : Prop := ∀ b k, 0 < b → b < l + 1 → k < 7 → gI μ 98 (7 * b + k) = fI (pz p y b k)
def Wz (p : PT) (y : Bool) (b k : Nat) (μ : MM) : Prop := ∀ c j, 0 < c → j < 7 → (c < b ∨ (c = b ∧ j < k)) → gI μ 98 (7 * c + j) = fI (pz p y c j)
theorem Pc1_w {a : Nat} (ha : 92 ≤ a) (x k : Nat) (h : Pwy x k = false) : Pc1 a x k = false := by
  have : x < 92 := by
    have := of_decide_eq_false h
    omega
  exact Pc1_ne (by omega) k
theorem WX.c {p : PT} {l : Nat} {μ μ' : MM} (h : WX p l μ) (g92 : gI μ' 92 9 = gI μ 92 9) (g93 : gI μ' 93 = gI μ 93) (g95 : gI μ' 95 = gI μ 95) (g97 : gI μ' 97 = gI μ 97) : WX p l μ' := by
  obtain ⟨h1, h2, h3⟩ := h
  exact ⟨by rw [g92]; exact h1, fun b hb => (h2 b hb).c (by rw [g95]) (fun k _ => by rw [g93]), fun b h0 hb k hk ha => by rw [g97]; exact h3 b h0 hb k hk ha⟩
theorem WX.s1 {p : PT} {l a : Nat} {μ μ' : MM} (h : WX p l μ) (s : Sm (Pc1 a) μ μ') (h2 : ¬ 92 = a) (h3 : ¬ 93 = a) (h5 : ¬ 95 = a) (h7 : ¬ 97 = a) : WX p l μ' := h.c (by rw [s.gI 92 (Pc1_ne h2)]) (s.gI 93 (Pc1_ne h3)) (s.gI 95 (Pc1_ne h5)) (s.gI 97 (Pc1_ne h7))
theorem XC.w {p : PT} {μ μ' : MM} (h : XC p μ) (s : Sm Pwy μ μ') : XC p μ' := h.sm s (fun _ => Pwy_n (by decide)) (fun _ => Pwy_n (by decide)) (fun _ => Pwy_n (by decide)) (fun _ => Pwy_n (by decide))
theorem s_J52 {p : PT} (hp' : WP p) {l : Nat} (hl : l < 24) {y : Bool} {b k : Nat} (hb : b < 24) (hk : k < 7) (ha : al7 p b k = true) (k2 k12 : Int32 → MM → Option MM) {μ : MM} (hw : Wf μ) (hx : XC p μ) (w : Ww μ) (sf : Sf p b 7 μ) : f_Wa_price_J52 k2 k12 92 (bi y) (nI b) (nI k) (lk7 k) μ = k12 (nI (k + 1)) (sI μ 98 (7 * b + k) (fI (some (co7 p y b k)))) := by
  have fin : ∀ v : Int32, f_Wa_price_J104 k2 k12 92 (bi y) (nI b) (nI k) v μ = k12 (nI (k + 1)) (sI μ 98 (7 * b + k) v) := fun v => by
    unfold f_Wa_price_J104 f_Wa_price_J106
    rw [rR_92_6 w, bsome, rx7, uI_98 w (by omega), bsome, show (1 : Int32) = nI 1 from rfl, nI_add]
  have j71 : ∀ s0 : Int32, (y = true → s0 = fI (some (co7 p y b k))) → f_Wa_price_J71 k2 k12 92 (bi y) (nI b) (nI k) s0 μ = k12 (nI (k + 1)) (sI μ 98 (7 * b + k) (fI (some (co7 p y b k)))) := fun s0 h0 => by
    unfold f_Wa_price_J71
    cases y with
    | true => rw [if_neg (by decide), fin, h0 rfl]
    | false =>
      obtain ⟨b1, b2, b3⟩ := s7_b hp' hb hk ha
      rw [if_pos (by decide), rR_92_0 w, bsome, rR_92_5 w, bsome, rx7, aI_97 w (by omega), bsome, sf k hk ha, show oI (sN7 p b k) = pk (sA7 p b k) (sB7 p b k) (sC7 p b k) from rfl, s_Frmills (by omega), bsome, mil7, s_foulnessBy hp' hw hx hb (lml_b hp' hb (lok7 hk ha)), bsome, fin]
      rfl
  unfold f_Wa_price_J52
  rw [rR_92_0 w, bsome, rR_1_4 hw, bsome, aI_6 hw hb, bsome, hx.2.1]
  by_cases q : lk7 k = pln p b
  · rw [if_pos q]
    refine j71 0 (fun h => ?_)
    unfold co7
    rw [if_pos h, if_pos q]; rfl
  · rw [if_neg q]
    refine j71 1 (fun h => ?_)
    unfold co7
    rw [if_pos h, if_neg q]; rfl
theorem s_pr12 {p : PT} (hp' : WP p) {l : Nat} (hl : l < 24) {y : Bool} {b : Nat} (h0 : 0 < b) (hb : b < l + 1) (K : Int32 → MM → Option MM) {μ0 : MM} (hw0 : Wf μ0) (hx0 : XC p μ0) (w0 : Ww μ0) (hX : WX p l μ0) : ∀ (d g k : Nat) (μ : MM), k + d = 7 → d < g → Sm (Pc1 98) μ0 μ → Wz p y b k μ → ∃ μ', f_Wa_price_L12 K 92 (bi y) (nI b) g (nI k) μ = K (nI (b + 1)) μ' ∧ Sm (Pc1 98) μ0 μ' ∧ Wz p y b 7 μ' := by
  intro d
  induction d with
  | zero =>
    intro g k μ hk hg s0 hz
    obtain ⟨g, rfl⟩ : ∃ z, g = z + 1 := ⟨g - 1, by omega⟩
    have : k = 7 := by omega
    subst this
    refine ⟨μ, ?_, s0, hz⟩
    rw [e_Wa_price_L12, if_pos (by decide), show (1 : Int32) = nI 1 from rfl, nI_add]
  | succ d ih =>
    intro g k μ hk hg s0 hz
    obtain ⟨g, rfl⟩ : ∃ z, g = z + 1 := ⟨g - 1, by omega⟩
    have hw := s0.wf hw0
    have w := s0.ww w0
    have sw := s0.mono (Pc1_w (by decide))
    have hx := hx0.w sw
    have sf : Sf p b 7 μ := fun j hj ha => by rw [s0.gI 97 (Pc1_ne (by decide))]; exact hX.2.2 b h0 hb j hj ha
    have step : f_Wa_price_L12 K 92 (bi y) (nI b) (g + 1) (nI k) μ = f_Wa_price_L12 K 92 (bi y) (nI b) g (nI (k + 1)) (sI μ 98 (7 * b + k) (fI (pz p y b k))) := by
      rw [e_Wa_price_L12, if_neg (by rw [show (7 : Int32) = nI 7 from rfl, cle (by omega) (by omega)]; omega)]
      unfold f_Wa_price_J29
      by_cases q : k = 0
      · subst q
        have ha : al7 p b 0 = true := rfl
        rw [if_pos (show nI 0 = 0 from rfl), if_pos (show nI 0 = 0 from rfl)]
        have := s_J52 hp' hl (y := y) (b := b) (k := 0) (by omega) (by omega) ha K (f_Wa_price_L12 K 92 (bi y) (nI b) g) hw hx w sf
        rw [show lk7 0 = (-1 : Int32) from rfl] at this
        rw [this]
        unfold pz
        rw [if_pos ha]
      · have nk : ¬ nI k = 0 := fun e => q ((nI_eq (a := k) (b := 0) (by omega) (by omega)).mp e)
        rw [if_neg nk, if_neg nk, nI_m1 (by omega), rR_92_0 w, bsome, s_hp hw hx, bsome]
        have hal : al7 p b k = hp p (k - 1) b := by unfold al7; rw [if_neg q]
        by_cases c : hp p (k - 1) b = true
        · rw [if_neg (by rw [c]; decide)]
          have ha : al7 p b k = true := by rw [hal]; exact c
          have := s_J52 hp' hl (y := y) (b := b) (k := k) (by omega) (by omega) ha K (f_Wa_price_L12 K 92 (bi y) (nI b) g) hw hx w sf
          rw [show lk7 k = nI (k - 1) from if_neg q] at this
          rw [this]
          unfold pz
          rw [if_pos ha]
        · rw [if_pos (by rw [Bool.eq_false_iff.mpr c]; rfl)]
          unfold f_Wa_price_J106
          rw [rR_92_6 w, bsome, rx7, uI_98 w (by omega), bsome, show (1 : Int32) = nI 1 from rfl, nI_add]
          unfold pz
          rw [if_neg (by rw [hal]; exact c)]; rfl
    rw [step]
    refine ih g (k + 1) _ (by omega) (by omega) (s0.tr (Sm.sI Pc1_s)) (fun c j hc hj hcj => ?_)
    rw [gI_sI]
    by_cases q : c = b ∧ j = k
    · obtain ⟨rfl, rfl⟩ := q
      rw [upd_s]
    · rw [upd_o (by omega)]
      exact hz c j hc hj (by omega)
theorem s_price {p : PT} (hp' : WP p) {l : Nat} (hl : l < 24) {y : Bool} {μ : MM} (hw : Wf μ) (hx : XC p μ) (w : Ww μ) (hX : WX p l μ) : ∃ μ', f_Wa_price 92 (bi y) μ = some μ' ∧ Sm (Pc1 98) μ μ' ∧ Pz p y l μ' := by
  have go : ∀ (d g b : Nat) (μ1 : MM), b + d = l + 1 → 0 < b → d < g → Sm (Pc1 98) μ μ1 → Wz p y b 0 μ1 → ∃ μ', f_Wa_price_L2 92 (bi y) g (nI b) μ1 = some μ' ∧ Sm (Pc1 98) μ μ' ∧ Pz p y l μ' := by
    intro d
    induction d with
    | zero =>
      intro g b μ1 hb h0 hg s1 hz
      obtain ⟨g, rfl⟩ : ∃ z, g = z + 1 := ⟨g - 1, by omega⟩
      refine ⟨μ1, ?_, s1, fun c j hc hcl hj => hz c j hc hj (by omega)⟩
      rw [e_Wa_price_L2, rI_92 (s1.ww w), bsome, s1.gI 92 (Pc1_ne (by decide)), hX.1, if_pos (by rw [clt (by omega) (by omega)]; omega)]
    | succ d ih =>
      intro g b μ1 hb h0 hg s1 hz
      obtain ⟨g, rfl⟩ : ∃ z, g = z + 1 := ⟨g - 1, by omega⟩
      obtain ⟨μ2, e2, s2, z2⟩ := s_pr12 hp' hl (y := y) h0 (by omega) (f_Wa_price_L2 92 (bi y) g) hw hx w hX 7 FU 0 μ1 (by omega) (by unfold FU; omega) s1 hz
      rw [e_Wa_price_L2, rI_92 (s1.ww w), bsome, s1.gI 92 (Pc1_ne (by decide)), hX.1, if_neg (by rw [clt (by omega) (by omega)]; omega), show (0 : Int32) = nI 0 from rfl, e2]
      exact ih g (b + 1) μ2 (by omega) (by omega) (by omega) s2 (fun c j hc hj hcj => z2 c j hc hj (by omega))
  unfold f_Wa_price
  rw [kO_92 w, bsome]
  exact go l FU 1 μ (by omega) (by omega) (by unfold FU; omega) Sm.rf (fun c j hc hj hcj => absurd hcj (by omega))
theorem s_wfind {b n : Nat} {f : Nat → Int} (hb : b < 24) {μ : MM} (w : Ww μ) (hr : Rw b n f μ) {z : Int} (hz : -1000000000 ≤ z ∧ z ≤ 1000000000) : (∃ k, k < n ∧ f k = z ∧ f_Wa_find 92 (nI b) (oI z) μ = some (nI (300 * b + k))) ∨ ((∀ k, k < n → ¬ f k = z) ∧ f_Wa_find 92 (nI b) (oI z) μ = some (-1)) := by
  obtain ⟨h1, h2, h3, h4, h5⟩ := hr
  have go : ∀ (d g i : Nat), i + d = n → d < g → (∀ k, k < i → ¬ f k = z) → (∃ k, k < n ∧ f k = z ∧ f_Wa_find_L2 92 (nI b) (oI z) μ g (nI i) = some (nI (300 * b + k))) ∨ ((∀ k, k < n → ¬ f k = z) ∧ f_Wa_find_L2 92 (nI b) (oI z) μ g (nI i) = some (-1)) := by
    intro d
    induction d with
    | zero =>
      intro g i hi hg hn
      obtain ⟨g, rfl⟩ : ∃ z, g = z + 1 := ⟨g - 1, by omega⟩
      refine Or.inr ⟨fun k hk => hn k (by omega), ?_⟩
      rw [e_Wa_find_L2, if_neg (nI_pos (by omega)), if_neg (by rw [show (24 : Int32) = nI 24 from rfl, cle (by omega) (by omega)]; omega), rR_92_3 w, bsome, aI_95 w hb, bsome, h1, if_pos (by rw [cle (by omega) (by omega)]; omega)]
    | succ d ih =>
      intro g i hi hg hn
      obtain ⟨g, rfl⟩ : ∃ z, g = z + 1 := ⟨g - 1, by omega⟩
      rw [e_Wa_find_L2, if_neg (nI_pos (by omega)), if_neg (by rw [show (24 : Int32) = nI 24 from rfl, cle (by omega) (by omega)]; omega), rR_92_3 w, bsome, aI_95 w hb, bsome, h1, if_neg (by rw [cle (by omega) (by omega)]; omega), rR_92_1 w, bsome, rx3, aI_93 w (by omega), bsome, h3 i (by omega)]
      have := h5 i (by omega)
      by_cases q : f i = z
      · rw [if_pos (by rw [q])]
        exact Or.inl ⟨i, by omega, q, rfl⟩
      · rw [if_neg (by rw [oI_inj (by omega) (by omega)]; exact q), show (1 : Int32) = nI 1 from rfl, nI_add]
        exact ih g (i + 1) (by omega) (by omega) (fun k hk => by
          by_cases c : k = i
          · rw [c]; exact q
          · exact hn k (by omega))
  unfold f_Wa_find
  rw [kO_92 w, bsome, show (0 : Int32) = nI 0 from rfl]
  exact go n FU 0 (by omega) (by unfold FU; omega) (fun k hk => absurd hk (by omega))
theorem s_fillw {a na : Nat} (hna : na < 10000) (hu : ∀ {μ : MM} (_ : Ww μ) {k : Nat} {v : Int32}, k < na → uI μ a (nI k) v = some (sI μ a k v)) (hn : ∀ {μ : MM} (_ : Ww μ), aN μ a = some (nI na)) (v : Int32) {μ : MM} (w : Ww μ) : ∃ m, f_Ar_fill_AI a v μ = some m ∧ Sm (Pc1 a) μ m ∧ ∀ j, j < na → gI m a j = v := by
  unfold f_Ar_fill_AI
  rw [hn w, bsome]
  have go : ∀ (d g k : Nat) (m : MM), k + d = na → d < g → Sm (Pc1 a) μ m → (∀ j, j < k → gI m a j = v) → ∃ m', f_Ar_fill_AI_L5 a v (nI na) g (nI k) m = some m' ∧ Sm (Pc1 a) μ m' ∧ ∀ j, j < na → gI m' a j = v := by
    intro d
    induction d with
    | zero =>
      intro g k m hk hg s hj
      obtain ⟨g, rfl⟩ : ∃ z, g = z + 1 := ⟨g - 1, by omega⟩
      exact ⟨m, by rw [e_Ar_fill_AI_L5, if_pos (by rw [cle (by omega) (by omega)]; omega)], s, fun j hjn => hj j (by omega)⟩
    | succ d ih =>
      intro g k m hk hg s hj
      obtain ⟨g, rfl⟩ : ∃ z, g = z + 1 := ⟨g - 1, by omega⟩
      rw [e_Ar_fill_AI_L5, if_neg (by rw [cle (by omega) (by omega)]; omega), hu (s.ww w) (by omega), bsome, show (1 : Int32) = nI 1 from rfl, nI_add]
      refine ih g (k + 1) _ (by omega) (by omega) (s.tr (Sm.sI Pc1_s)) (fun j hj2 => ?_)
      rw [gI_sI]
      by_cases q : j = k
      · rw [q, upd_s]
      · rw [upd_o q]; exact hj j (by omega)
  exact go na FU 0 μ (by omega) (by unfold FU; omega) Sm.rf (fun j hj => absurd hj (by omega))
theorem s_fill94 (v : Int32) {μ : MM} (w : Ww μ) : ∃ m, f_Ar_fill_AI 94 v μ = some m ∧ Sm (Pc1 94) μ m ∧ ∀ j, j < 7200 → gI m 94 j = v := s_fillw (by decide) (fun {_} w {_} {_} hk => uI_94 w hk) (fun {_} w => aN_94 w) v w
theorem s_fill99 (v : Int32) {μ : MM} (w : Ww μ) : ∃ m, f_Ar_fill_AI 99 v μ = some m ∧ Sm (Pc1 99) μ m ∧ ∀ j, j < 24 → gI m 99 j = v := s_fillw (by decide) (fun {_} w {_} {_} hk => uI_99 w hk) (fun {_} w => aN_99 w) v w
