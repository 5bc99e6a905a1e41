/-! LAYER 2: ways, in the first program: the nearest end, chosen -/
def Nr (S : Int → Prop) (r : Int) : Prop := (r = -1000000000 ∧ ∀ m, ¬ S m) ∨ (S r ∧ ∀ m, S m → iabs r < iabs m ∨ (iabs r = iabs m ∧ r ≤ m))
theorem Nr.u {S : Int → Prop} {r r' : Int} (h : Nr S r) (h' : Nr S r') : r = r' := by
  rcases h with ⟨a, b⟩ | ⟨a, b⟩
  · rcases h' with ⟨c, d⟩ | ⟨c, d⟩
    · rw [a, c]
    · exact absurd c (b _)
  · rcases h' with ⟨c, d⟩ | ⟨c, d⟩
    · exact absurd a (d _)
    · have h1 := b _ c
      have h2 := d _ a
      omega
theorem Nr.c {S S' : Int → Prop} {r : Int} (h : Nr S r) (e : ∀ m, S' m ↔ S m) : Nr S' r := by
  rcases h with ⟨a, b⟩ | ⟨a, b⟩
  · exact Or.inl ⟨a, fun m hm => b m ((e m).mp hm)⟩
  · exact Or.inr ⟨(e r).mpr a, fun m hm => b m ((e m).mp hm)⟩
def nrx (r v : Int) : Int := if iabs v < iabs r then v else if iabs v = iabs r then (if r ≤ v then r else v) else r
theorem Nr_s {S S' : Int → Prop} {r v : Int} (h : Nr S r) (hb : iabs v < 1000000000) (e : ∀ m, S' m ↔ (S m ∨ m = v)) : Nr S' (nrx r v) := by
  rcases h with ⟨a, b⟩ | ⟨a, b⟩
  · have : nrx r v = v := by
      unfold nrx
      rw [a, if_pos (by show iabs v < 1000000000; exact hb)]
    rw [this]
    refine Or.inr ⟨(e v).mpr (Or.inr rfl), fun m hm => ?_⟩
    rcases (e m).mp hm with h | h
    · exact absurd h (b m)
    · rw [h]; exact Or.inr ⟨rfl, Int.le_refl _⟩
  · right
    unfold nrx
    by_cases q1 : iabs v < iabs r
    · rw [if_pos q1]
      refine ⟨(e v).mpr (Or.inr rfl), fun m hm => ?_⟩
      rcases (e m).mp hm with h | h
      · have := b m h; omega
      · rw [h]; exact Or.inr ⟨rfl, Int.le_refl _⟩
    · rw [if_neg q1]
      by_cases q2 : iabs v = iabs r
      · rw [if_pos q2]
        by_cases q3 : r ≤ v
        · rw [if_pos q3]
          refine ⟨(e r).mpr (Or.inl a), fun m hm => ?_⟩
          rcases (e m).mp hm with h | h
          · exact b m h
          · rw [h]; exact Or.inr ⟨q2.symm, q3⟩
        · rw [if_neg q3]
          refine ⟨(e v).mpr (Or.inr rfl), fun m hm => ?_⟩
          rcases (e m).mp hm with h | h
          · have := b m h; omega
          · rw [h]; exact Or.inr ⟨rfl, Int.le_refl _⟩
      · rw [if_neg q2]
        refine ⟨(e r).mpr (Or.inl a), fun m hm => ?_⟩
        rcases (e m).mp hm with h | h
        · exact b m h
        · rw [h]; omega
theorem nrx_b {r v : Int} (hr : -1000000000 ≤ r ∧ r ≤ 1000000000) (hv : -1000000000 ≤ v ∧ v ≤ 1000000000) : -1000000000 ≤ nrx r v ∧ nrx r v ≤ 1000000000 := by
  unfold nrx
  split
  · exact hv
  · split
    · split <;> assumption
    · exact hr
theorem s_nearer {r v : Int} (hr : -1000000000 ≤ r ∧ r ≤ 1000000000) (hv : -1000000000 ≤ v ∧ v ≤ 1000000000) : f_Wa_nearer (oI r) (oI v) = some (oI (nrx r v)) := by
  have a1 := iabs_b (z := r) (a := 1000000000) (by omega)
  have a2 := iabs_b (z := v) (a := 1000000000) (by omega)
  unfold f_Wa_nearer nrx
  rw [s_absI (by omega) (by omega), bsome, s_absI (by omega) (by omega), bsome]
  by_cases q1 : iabs v < iabs r
  · rw [if_pos (by rw [toInt_lt, oI_toInt (by omega) (by omega), oI_toInt (by omega) (by omega)]; exact q1), if_pos q1]
  · rw [if_neg (by rw [toInt_lt, oI_toInt (by omega) (by omega), oI_toInt (by omega) (by omega)]; exact q1), if_neg q1]
    by_cases q2 : iabs v = iabs r
    · rw [if_pos (by rw [q2]), if_pos q2]
      by_cases q3 : r ≤ v
      · rw [if_pos (by rw [oI_leI (by omega) (by omega)]; exact q3), if_pos q3]
      · rw [if_neg (by rw [oI_leI (by omega) (by omega)]; exact q3), if_neg q3]
    · rw [if_neg (by rw [oI_inj (by omega) (by omega)]; exact q2), if_neg q2]
def Sn (p : PT) (x : Int) (l : Nat) (m : Int) : Prop := ∃ z v, EE p false l z = some v ∧ v ≤ x ∧ m = mlz z
def Si (p : PT) (x : Int) (l : Nat) (f : Nat → Int) (i : Nat) (m : Int) : Prop := ∃ j, j < i ∧ ∃ v, EE p false l (f j) = some v ∧ v ≤ x ∧ m = mlz (f j)
theorem Si_n {p : PT} {x : Int} {l : Nat} {f : Nat → Int} {i : Nat} (h : ¬ ∃ v, EE p false l (f i) = some v ∧ v ≤ x) (m : Int) : Si p x l f (i + 1) m ↔ Si p x l f i m := by
  constructor
  · rintro ⟨j, hj, v, h1, h2, h3⟩
    by_cases q : j = i
    · subst q; exact absurd ⟨v, h1, h2⟩ h
    · exact ⟨j, by omega, v, h1, h2, h3⟩
  · rintro ⟨j, hj, h⟩
    exact ⟨j, by omega, h⟩
theorem Si_y {p : PT} {x : Int} {l : Nat} {f : Nat → Int} {i : Nat} {v : Int} (h1 : EE p false l (f i) = some v) (h2 : v ≤ x) (m : Int) : Si p x l f (i + 1) m ↔ (Si p x l f i m ∨ m = mlz (f i)) := by
  constructor
  · rintro ⟨j, hj, u, g1, g2, g3⟩
    by_cases q : j = i
    · subst q; exact Or.inr g3
    · exact Or.inl ⟨j, by omega, u, g1, g2, g3⟩
  · rintro (⟨j, hj, h⟩ | h)
    · exact ⟨j, by omega, h⟩
    · exact ⟨i, by omega, v, h1, h2, h⟩
theorem Si_Sn {p : PT} {x : Int} {l n : Nat} {f : Nat → Int} (he : En p l n f) (m : Int) : Sn p x l m ↔ Si p x l f n m := by
  constructor
  · rintro ⟨z, v, h1, h2, h3⟩
    obtain ⟨j, j1, j2⟩ := he.2.2 z (EE_RR l z v h1)
    exact ⟨j, j1, v, by rw [j2]; exact h1, h2, by rw [j2]; exact h3⟩
  · rintro ⟨j, hj, v, h1, h2, h3⟩
    exact ⟨_, v, h1, h2, h3⟩
theorem s_nearest {p : PT} (hp' : WP p) {l : Nat} (hl : l < 24) {x : Int} (hx0 : 0 ≤ x ∧ x ≤ 100000000) {μ : MM} (hw : Wf μ) (hx : XC p μ) (w : Ww μ) (hX : WX p l μ) : ∃ r μ', f_Wa_nearest 92 (oI x) μ = some (oI r, μ') ∧ Sm Pwy μ μ' ∧ gI μ' 97 = gI μ 97 ∧ Nr (Sn p x l) r := by
  unfold f_Wa_nearest
  rw [kO_92 w, bsome]
  obtain ⟨μ1, e1, s1, z1⟩ := s_price hp' hl (y := false) hw hx w hX
  have w1 := s1.ww w
  rw [show (0 : Int32) = bi false from rfl, e1, bsome, rR_92_2 w1, bsome]
  obtain ⟨μ2, e2, s2, f2⟩ := s_fill94 (2147483647 : Int32) w1
  have w2 := s2.ww w1
  rw [e2, bsome, rR_92_2 w2, bsome, show (bi false : Int32) = nI 0 from rfl, uI_94 w2 (by omega), bsome]
  obtain ⟨μ3, e3⟩ : ∃ z, z = sI μ2 94 0 (nI 0) := ⟨_, rfl⟩
  have s3 : Sm (Pc1 94) μ2 μ3 := by rw [e3]; exact Sm.sI Pc1_s
  have w3 := s3.ww w2
  have s13 : Sm (Pc1 94) μ1 μ3 := s2.tr s3
  have X1 := hX.s1 s1 (by decide) (by decide) (by decide) (by decide)
  have X3 := X1.s1 s13 (by decide) (by decide) (by decide) (by decide)
  rw [← e3]
  have Z3 : Pz p false l μ3 := fun c j h1 h2 h3 => by rw [s13.gI 98 (Pc1_ne (by decide))]; exact z1 c j h1 h2 h3
  obtain ⟨n0, x0, r0, n0p, x00⟩ := cv0 X3
  have d3 : Ec p false l 0 0 μ3 μ3 := fun c n f hc hr i hi => by
    have n3 := hr.2.1
    rw [e3, gI_sI]
    unfold ev
    by_cases q : c = 0
    · subst q
      rw [if_pos (by omega)]
      obtain ⟨en, ef⟩ := hr.u r0
      subst en
      show _ = fI (if f i = 0 then some 0 else none)
      by_cases qi : i = 0
      · rw [qi, upd_s, if_pos (by rw [ef 0 n0p]; exact x00)]; rfl
      · have hgt := r0.2.2.2.1 0 i (by omega) hi
        rw [upd_o (by omega), f2 _ (by omega), if_neg (by rw [ef i hi]; omega)]; rfl
    · rw [upd_o (by omega), f2 _ (by omega), if_neg (by omega)]
      by_cases q2 : c = 0 + 1
      · rw [if_pos q2]; rfl
      · rw [if_neg q2]; rfl
  have last : ∀ m, Sm (Pc1 94) μ3 m → Ec p false l l 0 μ3 m → ∃ r, f_Wa_nearest_L63 92 (oI x) m FU (-1000000000 : Int32) (nI 0) = some (oI r, m) ∧ Nr (Sn p x l) r := fun m sm hd => by
    have wm := sm.ww w3
    obtain ⟨n, f, rl, el⟩ := X3.2.1 l (by omega)
    have n3 := rl.2.1
    have rm : Rw l n f m := rl.c (by rw [sm.gI 95 (Pc1_ne (by decide))]) (fun _ _ => by rw [sm.gI 93 (Pc1_ne (by decide))])
    have m9 : gI m 92 9 = nI l := by rw [sm.gI 92 (Pc1_ne (by decide))]; exact X3.1
    have go : ∀ (d g i : Nat) (r : Int), i + d = n → d < g → (-1000000000 ≤ r ∧ r ≤ 1000000000) → Nr (Si p x l f i) r → ∃ r', f_Wa_nearest_L63 92 (oI x) m g (oI r) (nI i) = some (oI r', m) ∧ Nr (Sn p x l) r' := by
      intro d
      induction d with
      | zero =>
        intro g i r hi hg br hr
        obtain ⟨g, rfl⟩ : ∃ z, g = z + 1 := ⟨g - 1, by omega⟩
        have : i = n := by omega
        subst this
        refine ⟨r, ?_, hr.c (Si_Sn el)⟩
        rw [e_Wa_nearest_L63, rI_92 wm, bsome, m9, if_neg (nI_pos (by omega)), rR_92_3 wm, bsome, bsome, aI_95 wm hl, bsome, rm.1, if_pos (by rw [cle (by omega) (by omega)]; omega)]
      | succ d ih =>
        intro g i r hi hg br hr
        obtain ⟨g, rfl⟩ : ∃ z, g = z + 1 := ⟨g - 1, by omega⟩
        have ilt : i < n := by omega
        have ce : gI m 94 (300 * l + i) = fI (EE p false l (f i)) := by
          have := hd l n f (by omega) rl i ilt
          unfold ev at this
          rw [if_pos (by omega)] at this
          exact this
        rw [e_Wa_nearest_L63, rI_92 wm, bsome, m9, if_neg (nI_pos (by omega)), rR_92_3 wm, bsome, bsome, aI_95 wm hl, bsome, rm.1, if_neg (by rw [cle (by omega) (by omega)]; omega), rR_92_2 wm, bsome, bsome, rx3, aI_94 wm (by omega), bsome, ce]
        cases e : EE p false l (f i) with
        | none =>
          rw [if_pos (by rw [toInt_lt, oI_toInt (by omega) (by omega)]; show x < 2147483647; omega), show (1 : Int32) = nI 1 from rfl, nI_add]
          exact ih g (i + 1) r (by omega) (by omega) br (hr.c (Si_n (fun ⟨v, h, _⟩ => by rw [e] at h; cases h)))
        | some v =>
          have bv := EE_b hp' false l hl _ v e
          have rr := EE_RR l _ v e
          obtain ⟨b1, b2, b3, b4, b5⟩ := RR_d hp' hl rr
          have bm := mlz_b hp' l hl _ rr
          by_cases q : x < v
          · rw [if_pos (by rw [toInt_lt, oI_toInt (by omega) (by omega)]; show x < (oI v).toInt; rw [oI_toInt (by omega) (by omega)]; exact q), show (1 : Int32) = nI 1 from rfl, nI_add]
            exact ih g (i + 1) r (by omega) (by omega) br (hr.c (Si_n (fun ⟨u, h, h2⟩ => by rw [e] at h; cases h; omega)))
          · have em : f_Fr_mills (oI (f i)) = some (oI (mlz (f i))) := by
              rw [show oI (f i) = pk (dA7 (f i)) (dB7 (f i)) (dC7 (f i)) from congrArg oI b4, s_Frmills (by omega)]
              rfl
            rw [if_neg (by rw [toInt_lt, oI_toInt (by omega) (by omega)]; show ¬ x < (oI v).toInt; rw [oI_toInt (by omega) (by omega)]; exact q), rR_92_1 wm, bsome, bsome, rx3, aI_93 wm (by omega), bsome, rm.2.2.1 i ilt, em, bsome, s_nearer br (by omega), bsome, show (1 : Int32) = nI 1 from rfl, nI_add]
            have bi := iabs_b (z := mlz (f i)) (a := 6000000 * (l : Int)) bm
            exact ih g (i + 1) _ (by omega) (by omega) (nrx_b br (by omega)) (Nr_s hr (by omega) (Si_y e (by omega)))
    rw [show (-1000000000 : Int32) = oI (-1000000000) by decide]
    exact go n FU 0 (-1000000000) (by omega) (by unfold FU; omega) (by omega) (Or.inl ⟨rfl, fun m ⟨j, hj, _⟩ => absurd hj (by omega)⟩)
  have go : ∀ (d g b : Nat) (m : MM), b + d = l → d < g → Sm (Pc1 94) μ3 m → Ec p false l b 0 μ3 m → ∃ r m', f_Wa_nearest_L23 92 (oI x) g (nI (b + 1)) m = some (oI r, m') ∧ Sm (Pc1 94) μ3 m' ∧ Nr (Sn p x l) r := by
    intro d
    induction d with
    | zero =>
      intro g b m hb hg sm hd
      obtain ⟨g, rfl⟩ : ∃ z, g = z + 1 := ⟨g - 1, by omega⟩
      have : b = l := by omega
      subst this
      obtain ⟨r, er, nr⟩ := last m sm hd
      refine ⟨r, m, ?_, sm, nr⟩
      rw [e_Wa_nearest_L23, rI_92 (sm.ww w3), bsome, sm.gI 92 (Pc1_ne (by decide)), X3.1, if_pos (by rw [clt (by omega) (by omega)]; omega)]
      exact er
    | succ d ih =>
      intro g b m hb hg sm hd
      obtain ⟨g, rfl⟩ : ∃ z, g = z + 1 := ⟨g - 1, by omega⟩
      obtain ⟨m1, em1, sm1, hd1⟩ := s_nr33 hp' hl (y := false) (b := b) (by omega) w3 X3 Z3 (f_Wa_nearest_L23 92 (oI x) g) (oI x) 7 FU 0 m (by omega) (by unfold FU; omega) sm hd
      rw [e_Wa_nearest_L23, rI_92 (sm.ww w3), bsome, sm.gI 92 (Pc1_ne (by decide)), X3.1, if_neg (by rw [clt (by omega) (by omega)]; omega), show (0 : Int32) = nI 0 from rfl, em1]
      exact ih g (b + 1) m1 (by omega) (by omega) sm1 hd1
  obtain ⟨r, m', h1, h2, h3⟩ := go l FU 0 μ3 (by omega) (by unfold FU; omega) Sm.rf d3
  exact ⟨r, m', h1, ((s1.mono (Pc1_w (by decide))).tr (s13.mono (Pc1_w (by decide)))).tr (h2.mono (Pc1_w (by decide))), by rw [h2.gI 97 (Pc1_ne (by decide)), s13.gI 97 (Pc1_ne (by decide)), s1.gI 97 (Pc1_ne (by decide))], h3⟩
