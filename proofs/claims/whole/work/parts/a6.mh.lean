/-! LAYER 2: ways, in the reference: the nearest end -/
def Ev (p : PT) (l b k : Nat) (μ0 μ : MM) : Prop := ∀ c n f, c < l + 1 → RM c n f μ0 → En p c n f → ∀ i, i < n → gL μ 61 (300 * c + i) = LF (ev p false b k c (f i))
theorem EK_s {p : PT} {y : Bool} {b k : Nat} (z : Int) (ha : al7 p (b + 1) k = true) : EK p y b (k + 1) z = om (EK p y b k z) (pls (EE p y b (z - sN7 p (b + 1) k)) (co7 p y (b + 1) k)) := by
  unfold EK
  show om _ (if al7 p (b + 1) k = true then _ else none) = _
  rw [if_pos ha]
theorem EK_n {p : PT} {y : Bool} {b k : Nat} (z : Int) (ha : ¬ al7 p (b + 1) k = true) : EK p y b (k + 1) z = EK p y b k z := by
  unfold EK
  show om _ (if al7 p (b + 1) k = true then _ else none) = _
  rw [if_neg ha, om_n]
theorem EK_b2 {p : PT} (hp' : WP p) {y : Bool} {b k : Nat} (hb : b + 1 < 24) (hk : k < 8) (z : Int) : ∀ v, EK p y b k z = some v → 0 ≤ v ∧ v ≤ 1800000000 := fun v h => by
  obtain ⟨⟨j, hj, e⟩, -⟩ := mnk_some k v h
  by_cases ha : al7 p (b + 1) j = true
  · rw [if_pos ha] at e
    obtain ⟨a, e1, e2⟩ := pls_b e
    have := EE_b hp' y b (by omega) _ a e1
    have := co7_b hp' (y := y) (b := b + 1) (by omega) (by omega) ha
    omega
  · rw [if_neg ha] at e; cases e
theorem s_b132 {p : PT} (hp' : WP p) {l : Nat} (hl : l < 24) {b k nx ny : Nat} {x yy : Nat → Int} (hb : b < l) (hk : k < 7) (ha : al7 p (b + 1) k = true) {μ0 : MM} (hw0 : Wf μ0) (hm0 : MP p μ0) (hx : RM b nx x μ0) (ex : En p b nx x) (hy : RM (b + 1) ny yy μ0) (ey : En p (b + 1) ny yy) (K92 K100 : Int32 → MM → Option (Int32 × MM)) (x1 : Int32) {μs : MM} (hs : Ev p l b k μ0 μs) : ∀ (d g i : Nat) (μ : MM), i + d = nx → d < g → Sm Pcw μ0 μ → (∀ c, (∀ j, j < ny → ¬ c = 300 * (b + 1) + j) → gL μ 61 c = gL μs 61 c) → (∀ j, j < ny → ((∃ a, a < i ∧ x a + sN7 p (b + 1) k = yy j) → gL μ 61 (300 * (b + 1) + j) = LF (EK p false b (k + 1) (yy j))) ∧ ((¬ ∃ a, a < i ∧ x a + sN7 p (b + 1) k = yy j) → gL μ 61 (300 * (b + 1) + j) = LF (EK p false b k (yy j)))) → ∃ μ', f_M_bounded_L132 K92 K100 49 x1 (nI l) (nI (b + 1)) (lk7 k) (lI (co7 p false (b + 1) k)) g (nI i) μ = K100 (lk7 (k + 1)) μ' ∧ Sm Pcw μ0 μ' ∧ Ev p l b (k + 1) μ0 μ' := by
  have cb := co7_b hp' (y := false) (b := b + 1) (by omega) hk ha
  have m3 := hy.2.1
  have n3 := hx.2.1
  intro d
  induction d with
  | zero =>
    intro g i μ hi hg s0 ho hc
    obtain ⟨g, rfl⟩ : ∃ z, g = z + 1 := ⟨g - 1, by omega⟩
    have : i = nx := by omega
    subst this
    have hw := s0.wf hw0
    refine ⟨μ, ?_, s0, fun c n f h1 hr he j hj => ?_⟩
    · rw [e_M_bounded_L132, rR_49_11 hw, bsome, nI_m1 (by omega), Nat.add_sub_cancel, aI_57 hw (by omega), bsome, (hx.w s0).1, if_pos (by rw [cle (by omega) (by omega)]; omega), lk7_s]
    · by_cases q : c = b + 1
      · subst q
        obtain ⟨en, ef⟩ := hr.u hp' (by omega) hy he ey
        subst en
        obtain ⟨h2, h3⟩ := hc j hj
        rw [ef j hj]
        unfold ev
        rw [if_neg (by omega), if_pos rfl]
        by_cases hit : ∃ a, a < i ∧ x a + sN7 p (b + 1) k = yy j
        · exact h2 hit
        · rw [h3 hit, EK_s _ ha]
          cases e : EE p false b (yy j - sN7 p (b + 1) k) with
          | none =>
            show _ = LF (om _ none)
            rw [om_n]
          | some v =>
            obtain ⟨a, a1, a2⟩ := ex.2.2 _ (EE_RR b _ v e)
            exact absurd ⟨a, a1, by omega⟩ hit
      · rw [ho _ (fun a ha2 => by have := hr.2.1; omega), hs c n f h1 hr he j hj]
        unfold ev
        by_cases q2 : c < b + 1
        · rw [if_pos q2, if_pos q2]
        · rw [if_neg q2, if_neg q2, if_neg q, if_neg q]
  | succ d ih =>
    intro g i μ hi hg s0 ho hc
    obtain ⟨g, rfl⟩ : ∃ z, g = z + 1 := ⟨g - 1, by omega⟩
    have hw := s0.wf hw0
    have hm := hm0.w (s0.mono Pcw_w)
    have ilt : i < nx := by omega
    obtain ⟨j, j1, j2, j3⟩ := s_next1 hp' (by omega) hk ha hw hm (hx.w s0) ex (hy.w s0) ey ilt
    have src : gL μ 61 (300 * b + i) = LF (EE p false b (x i)) := by
      rw [ho _ (fun a ha2 => by omega), hs b nx x (by omega) hx ex i ilt]
      unfold ev
      rw [if_pos (by omega)]
    have tgt : gL μ 61 (300 * (b + 1) + j) = LF (EK p false b k (yy j)) := (hc j j1).2 (fun ⟨a, a1, a2⟩ => ex.1 a i a1 ilt (by omega))
    have sx : yy j - sN7 p (b + 1) k = x i := by omega
    have hD := EK_s (y := false) (yy j) ha
    rw [sx] at hD
    have bS : ∀ v, EE p false b (x i) = some v → 0 ≤ v ∧ v ≤ 1700000000 := fun v h => by
      have := EE_b hp' false b (by omega) _ v h
      omega
    have bO := EK_b2 hp' (y := false) (b := b) (k := k) (by omega) (by omega) (yy j)
    rw [e_M_bounded_L132, rR_49_11 hw, bsome, nI_m1 (by omega), Nat.add_sub_cancel, aI_57 hw (by omega), bsome, (hx.w s0).1, if_neg (by rw [cle (by omega) (by omega)]; omega), j3, bsome]
    dsimp only
    rw [rR_49_15 hw, bsome, r3x, aL_61 hw (by omega), bsome, src, bsome, r3x, aL_61 hw (by omega), bsome, tgt, show (1 : Int32) = nI 1 from rfl, nI_add]
    have hits : ∀ a, a < ny → ¬ a = j → ((∃ e, e < i + 1 ∧ x e + sN7 p (b + 1) k = yy a) ↔ ∃ e, e < i ∧ x e + sN7 p (b + 1) k = yy a) := fun a ha2 hne => by
      constructor
      · rintro ⟨e, e1, e2⟩
        by_cases q : e = i
        · subst q
          exact absurd (ey.ix ha2 j1 (by omega)) hne
        · exact ⟨e, by omega, e2⟩
      · rintro ⟨e, e1, e2⟩
        exact ⟨e, by omega, e2⟩
    have fin : ∀ m : MM, Sm Pcw μ m → (∀ c, ¬ c = 300 * (b + 1) + j → gL m 61 c = gL μ 61 c) → gL m 61 (300 * (b + 1) + j) = LF (EK p false b (k + 1) (yy j)) → ∃ μ', f_M_bounded_L132 K92 K100 49 x1 (nI l) (nI (b + 1)) (lk7 k) (lI (co7 p false (b + 1) k)) g (nI (i + 1)) m = K100 (lk7 (k + 1)) μ' ∧ Sm Pcw μ0 μ' ∧ Ev p l b (k + 1) μ0 μ' := fun m sm om1 tm => by
      refine ih g (i + 1) m (by omega) (by omega) (s0.tr sm) (fun c h => by rw [om1 c (h j j1)]; exact ho c h) (fun a ha2 => ?_)
      by_cases q : a = j
      · subst q
        exact ⟨fun _ => tm, fun h => absurd ⟨i, by omega, by omega⟩ h⟩
      · rw [om1 _ (by omega), hits a ha2 q]; exact hc a ha2
    cases hsx : EE p false b (x i) with
    | none =>
      rw [hsx] at hD
      have hD : EK p false b (k + 1) (yy j) = om (EK p false b k (yy j)) none := hD
      rw [om_n] at hD
      rw [if_pos (by
        rw [lgc_ge, show lI (co7 p false (b + 1) k) + LF none = lI (co7 p false (b + 1) k + 1000000000000000) from lI_add _ _, lI_toInt (by omega) (by omega)]
        have := LF_le bO
        omega)]
      exact fin μ Sm.rf (fun _ _ => rfl) (by rw [tgt, hD])
    | some v =>
      rw [hsx] at hD
      have bv := bS v hsx
      have hD : EK p false b (k + 1) (yy j) = om (EK p false b k (yy j)) (some (v + co7 p false (b + 1) k)) := hD
      rw [show lI (co7 p false (b + 1) k) + LF (some v) = lI (co7 p false (b + 1) k + v) from lI_add _ _, Int.add_comm (co7 p false (b + 1) k) v]
      have set : ∀ w, EK p false b (k + 1) (yy j) = some w → ∃ μ', f_M_bounded_L132 K92 K100 49 x1 (nI l) (nI (b + 1)) (lk7 k) (lI (co7 p false (b + 1) k)) g (nI (i + 1)) (sL μ 61 (300 * (b + 1) + j) (lI w)) = K100 (lk7 (k + 1)) μ' ∧ Sm Pcw μ0 μ' ∧ Ev p l b (k + 1) μ0 μ' := fun w hw2 => fin _ (Sm.sL rfl) (fun c h => by rw [gL_sL]; unfold vp_updL; rw [if_neg h]) (by rw [gL_sL]; unfold vp_updL; rw [if_pos rfl, hw2]; rfl)
      cases hoo : EK p false b k (yy j) with
      | none =>
        rw [hoo] at hD
        have hD : EK p false b (k + 1) (yy j) = some (v + co7 p false (b + 1) k) := hD
        rw [if_neg (by
          rw [lgc_ge, lI_toInt (by omega) (by omega), show LF none = lI 1000000000000000 from rfl, lI_toInt (by omega) (by omega)]; omega), bsome, uL_61 hw (by omega), bsome]
        exact set _ hD
      | some o =>
        rw [hoo] at hD
        have bo := bO o hoo
        have hD : EK p false b (k + 1) (yy j) = some (if v + co7 p false (b + 1) k < o then v + co7 p false (b + 1) k else o) := hD
        by_cases q : v + co7 p false (b + 1) k < o
        · rw [if_pos q] at hD
          rw [if_neg (by rw [lgc_ge, lI_toInt (by omega) (by omega), show LF (some o) = lI o from rfl, lI_toInt (by omega) (by omega)]; omega), bsome, uL_61 hw (by omega), bsome]
          exact set _ hD
        · rw [if_neg q] at hD
          rw [if_pos (by rw [lgc_ge, lI_toInt (by omega) (by omega), show LF (some o) = lI o from rfl, lI_toInt (by omega) (by omega)]; omega)]
          exact fin μ Sm.rf (fun _ _ => rfl) (by rw [tgt, hD, hoo])
