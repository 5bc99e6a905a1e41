/-! LAYER 2: ways, in the first program: one link of a beat, relaxed -/
theorem Rw.u {b n m : Nat} {f g : Nat → Int} {μ : MM} (h : Rw b n f μ) (h' : Rw b m g μ) : n = m ∧ ∀ k, k < n → f k = g k := by
  obtain ⟨a1, a2, a3, a4, a5⟩ := h
  obtain ⟨b1, b2, b3, b4, b5⟩ := h'
  have e : n = m := (nI_eq (by omega) (by omega)).mp (a1.symm.trans b1)
  refine ⟨e, fun k hk => ?_⟩
  have := (a3 k hk).symm.trans (b3 k (by omega))
  have c1 := a5 k hk
  have c2 := b5 k (by omega)
  rw [oI_inj (by omega) (by omega)] at this
  exact this
theorem s_relax0 {p : PT} {l : Nat} (hl : l < 24) {y : Bool} {b k : Nat} (h0 : 0 < b) (hb : b < l + 1) (hk : k < 7) (x3 : Int32) {μ : MM} (w : Ww μ) (hz : Pz p y l μ) (ha : ¬ al7 p b k = true) : f_Wa_relax 92 (nI b) (nI k) x3 μ = some μ := by
  unfold f_Wa_relax
  rw [kO_92 w, bsome, rR_92_6 w, bsome, rx7, aI_98 w (by omega), bsome, hz b k h0 hb hk]
  unfold pz
  rw [if_neg ha]
  obtain ⟨g, hg⟩ : ∃ z, FU = z + 1 := ⟨FU - 1, by unfold FU; omega⟩
  rw [hg, e_Wa_relax_L19, rR_92_3 w, bsome, nI_m1 h0, aI_95 w (by omega), bsome]
  by_cases q : gI μ 95 (b - 1) ≤ 0
  · rw [if_pos q]
  · rw [if_neg q, if_pos (by rfl)]
theorem s_r109 (K : Int32 → Int32 → MM → Option MM) {fl : Bool} {b t i a7 : Nat} {x2 x4 x8 : Int32} {μ : MM} : f_Wa_relax_J109 K 92 (nI b) x2 (bi fl) x4 (nI t) (nI i) (nI a7) x8 μ = f_Wa_relax_J143 K 92 (nI b) x2 (bi fl) x4 (nI t) (nI i) x8 (nI (300 * b + t)) (nI (if fl = true then a7 else 300 * b + t)) (nI (if fl = true then 300 * b + t else a7)) μ := by
  unfold f_Wa_relax_J109 f_Wa_relax_J130
  rw [rx3]
  cases fl with
  | true => rw [if_neg (by decide), if_neg (by decide)]; rfl
  | false => rw [if_pos (by decide), if_pos (by decide)]; rfl
theorem s_r72 (K : Int32 → Int32 → MM → Option MM) {b ny j : Nat} {yy : Nat → Int} (hb : b < 24) {x2 x3 x4 x6 x7 : Int32} {μ : MM} (w : Ww μ) (ry : Rw b ny yy μ) (hj : j < ny) : ∀ (d g t : Nat), t + d = j → d < g → f_Wa_relax_L72 K 92 (nI b) x2 x3 x4 x6 x7 (oI (yy j)) μ g (nI t) = f_Wa_relax_J109 K 92 (nI b) x2 x3 x4 (nI j) x6 x7 (oI (yy j)) μ := by
  obtain ⟨y1, y2, y3, y4, y5⟩ := ry
  intro d
  induction d with
  | zero =>
    intro g t ht hg
    obtain ⟨g, rfl⟩ : ∃ z, g = z + 1 := ⟨g - 1, by omega⟩
    have : t = j := by omega
    subst this
    rw [e_Wa_relax_L72, rR_92_3 w, bsome, aI_95 w hb, bsome, y1, nI_m1 (by omega)]
    by_cases q : nI (ny - 1) ≤ nI t
    · rw [if_pos q]
    · rw [if_neg q, rR_92_1 w, bsome, rx3, aI_93 w (by omega), bsome, y3 t hj, if_pos (by
        have := y5 t hj
        rw [oI_leI (by omega) (by omega)]; exact Int.le_refl _)]
  | succ d ih =>
    intro g t ht hg
    obtain ⟨g, rfl⟩ : ∃ z, g = z + 1 := ⟨g - 1, by omega⟩
    rw [e_Wa_relax_L72, rR_92_3 w, bsome, aI_95 w hb, bsome, y1, nI_m1 (by omega), if_neg (by rw [cle (by omega) (by omega)]; omega), rR_92_1 w, bsome, rx3, aI_93 w (by omega), bsome, y3 t (by omega), if_neg (by
        have e1 := y5 t (by omega)
        have e2 := y5 j hj
        have := y4 t j (by omega) hj
        rw [oI_leI (by omega) (by omega)]; omega), show (1 : Int32) = nI 1 from rfl, nI_add]
    exact ih g (t + 1) (by omega) (by omega)
theorem s_relax1 {p : PT} (hp' : WP p) {l : Nat} (hl : l < 24) {y fl : Bool} {b k : Nat} (h0 : 0 < b) (hb : b < l + 1) (hk : k < 7) {μ : MM} (w : Ww μ) (hX : WX p l μ) (hz : Pz p y l μ) (ha : al7 p b k = true) {nx ny : Nat} {x yy : Nat → Int} (rx : Rw (b - 1) nx x μ) (ry : Rw b ny yy μ) (q : Nat → Nat) (hq : ∀ i, i < nx → q i < ny ∧ yy (q i) = x i + sN7 p b k) (O S : Nat → Option Int) (tg sr : Nat → Nat) (htg : ∀ i, tg i = if fl = true then 300 * b + q i else 300 * (b - 1) + i) (hsr : ∀ i, sr i = if fl = true then 300 * (b - 1) + i else 300 * b + q i) (hO : ∀ i, i < nx → gI μ 94 (tg i) = fI (O i)) (hS : ∀ i, i < nx → gI μ 94 (sr i) = fI (S i)) (bO : ∀ i, i < nx → Bd (O i)) (bS : ∀ i v, i < nx → S i = some v → 0 ≤ v ∧ v ≤ 1700000000) : ∃ μ', f_Wa_relax 92 (nI b) (nI k) (bi fl) μ = some μ' ∧ Sm (Pc1 94) μ μ' ∧ (∀ i, i < nx → gI μ' 94 (tg i) = fI (om (O i) (pls (S i) (co7 p y b k)))) ∧ ∀ c, (∀ i, i < nx → ¬ c = tg i) → gI μ' 94 c = gI μ 94 c := by
  have qm : ∀ i j, i < j → j < nx → q i < q j := fun i j hij hj => by
    obtain ⟨a1, a2⟩ := hq i (by omega)
    obtain ⟨b1, b2⟩ := hq j hj
    have xl := rx.2.2.2.1 i j hij hj
    rcases Nat.lt_trichotomy (q i) (q j) with c | c | c
    · exact c
    · rw [c] at a2; omega
    · have := ry.2.2.2.1 _ _ c a1; omega
  have qb : ∀ i, i < nx → q i < 300 := fun i hi => Nat.lt_of_lt_of_le (hq i hi).1 ry.2.1
  have ti : ∀ i j, i < nx → j < nx → tg i = tg j → i = j := fun i j hi hj e => by
    rw [htg, htg] at e
    cases fl with
    | true =>
      rw [if_pos rfl, if_pos rfl] at e
      rcases Nat.lt_trichotomy i j with c | c | c
      · have := qm i j c hj; omega
      · exact c
      · have := qm j i c hi; omega
    | false => rw [if_neg (by decide), if_neg (by decide)] at e; omega
  have st : ∀ i j, i < nx → j < nx → ¬ sr i = tg j := fun i j hi hj e => by
    have := qb i hi
    have := qb j hj
    have := rx.2.1
    rw [hsr, htg] at e
    cases fl with
    | true => rw [if_pos rfl, if_pos rfl] at e; omega
    | false => rw [if_neg (by decide), if_neg (by decide)] at e; omega
  have tb : ∀ i, i < nx → tg i < 7200 := fun i hi => by
    have := qb i hi
    have := rx.2.1
    rw [htg]; split <;> omega
  have sb : ∀ i, i < nx → sr i < 7200 := fun i hi => by
    have := qb i hi
    have := rx.2.1
    rw [hsr]; split <;> omega
  have cb := co7_b hp' (y := y) (b := b) (by omega) hk ha
  unfold f_Wa_relax
  rw [kO_92 w, bsome, rR_92_6 w, bsome, rx7, aI_98 w (by omega), bsome, hz b k h0 hb hk]
  have epz : fI (pz p y b k) = oI (co7 p y b k) := by unfold pz; rw [if_pos ha]; rfl
  rw [epz]
  have go : ∀ (d g i t : Nat) (μ1 : MM), i + d = nx → d < g → (i < nx → t ≤ q i) → Sm (Pc1 94) μ μ1 → (∀ j, j < i → gI μ1 94 (tg j) = fI (om (O j) (pls (S j) (co7 p y b k)))) → (∀ c, (∀ j, j < i → ¬ c = tg j) → gI μ1 94 c = gI μ 94 c) → ∃ μ', f_Wa_relax_L19 92 (nI b) (nI k) (bi fl) (oI (co7 p y b k)) g (nI t) (nI i) μ1 = some μ' ∧ Sm (Pc1 94) μ μ' ∧ (∀ i, i < nx → gI μ' 94 (tg i) = fI (om (O i) (pls (S i) (co7 p y b k)))) ∧ ∀ c, (∀ i, i < nx → ¬ c = tg i) → gI μ' 94 c = gI μ 94 c := by
    intro d
    induction d with
    | zero =>
      intro g i t μ1 hi hg ht s1 hd hn
      obtain ⟨g, rfl⟩ : ∃ z, g = z + 1 := ⟨g - 1, by omega⟩
      have : i = nx := by omega
      subst this
      refine ⟨μ1, ?_, s1, hd, hn⟩
      rw [e_Wa_relax_L19, rR_92_3 (s1.ww w), bsome, nI_m1 h0, aI_95 (s1.ww w) (by omega), bsome, s1.gI 95 (Pc1_ne (by decide)), rx.1, if_pos (by rw [cle (by have := rx.2.1; omega) (by have := rx.2.1; omega)]; exact Nat.le_refl _)]
    | succ d ih =>
      intro g i t μ1 hi hg ht s1 hd hn
      obtain ⟨g, rfl⟩ : ∃ z, g = z + 1 := ⟨g - 1, by omega⟩
      have w1 := s1.ww w
      have ilt : i < nx := by omega
      obtain ⟨q1, q2⟩ := hq i ilt
      have n3 := rx.2.1
      have n93 : gI μ1 93 = gI μ 93 := s1.gI 93 (Pc1_ne (by decide))
      have n95 : gI μ1 95 = gI μ 95 := s1.gI 95 (Pc1_ne (by decide))
      have n97 : gI μ1 97 = gI μ 97 := s1.gI 97 (Pc1_ne (by decide))
      have rx1 : Rw (b - 1) nx x μ1 := rx.c (by rw [n95]) (fun _ _ => by rw [n93])
      have ry1 : Rw b ny yy μ1 := ry.c (by rw [n95]) (fun _ _ => by rw [n93])
      have shf : gI μ1 97 (7 * b + k) = oI (sN7 p b k) := by rw [n97]; exact hX.2.2 b h0 hb k hk ha
      have cneq : ¬ oI (co7 p y b k) = (2147483647 : Int32) := fun e => by
        have : oI (co7 p y b k) = oI 2147483647 := e
        rw [oI_inj (by omega) (by omega)] at this
        omega
      have src : gI μ1 94 (sr i) = fI (S i) := by rw [hn _ (fun j hj => st i j ilt (by omega))]; exact hS i ilt
      have tgt : gI μ1 94 (tg i) = fI (O i) := by rw [hn _ (fun j hj e => by have := ti i j ilt (by omega) e; omega)]; exact hO i ilt
      rw [e_Wa_relax_L19, rR_92_3 w1, bsome, nI_m1 h0, aI_95 w1 (by omega), bsome, rx1.1, if_neg (by rw [cle (by omega) (by omega)]; omega), if_neg cneq, rR_92_1 w1, bsome, rx3, aI_93 w1 (by omega), bsome, rx1.2.2.1 i ilt, rR_92_5 w1, bsome, rx7, aI_97 w1 (by omega), bsome, shf, oI_add, ← q2, s_r72 _ (by omega) w1 ry1 q1 (q i - t) FU t (by have := ht ilt; omega) (by have := qb i ilt; unfold FU; omega), s_r109]
      unfold f_Wa_relax_J143
      rw [show (if fl = true then 300 * (b - 1) + i else 300 * b + q i) = sr i from (hsr i).symm, show (if fl = true then 300 * b + q i else 300 * (b - 1) + i) = tg i from (htg i).symm, rR_92_1 w1, bsome, aI_93 w1 (by have := qb i ilt; omega), bsome, ry1.2.2.1 _ q1, if_pos rfl, rR_92_2 w1, bsome, aI_94 w1 (sb i ilt), bsome, src, show (1 : Int32) = nI 1 from rfl, nI_add]
      have nxt : i + 1 < nx → q i ≤ q (i + 1) := fun h => Nat.le_of_lt (qm i (i + 1) (by omega) h)
      have bSi : Bd (S i) := fun v hv => by have := bS i v ilt hv; omega
      cases hs : S i with
      | none =>
        rw [if_pos (by rfl)]
        refine ih g (i + 1) (q i) μ1 (by omega) (by omega) nxt s1 (fun j hj => ?_) (fun c hc => hn c (fun j hj => hc j (by omega)))
        by_cases e : j = i
        · rw [e, tgt, hs]
          show _ = fI (om (O i) none)
          rw [om_n]
        · exact hd j (by omega)
      | some v =>
        have bv := bS i v ilt hs
        have hne : ¬ fI (some v) = (2147483647 : Int32) := fun e => by
          rw [← hs] at e
          have := (fI_far bSi).mp e
          rw [hs] at this; cases this
        have src' : gI μ1 94 (sr i) = oI v := by rw [src, hs]; rfl
        rw [if_neg hne, bsome, bsome, aI_94 w1 (tb i ilt), bsome, bsome, aI_94 w1 (sb i ilt), bsome, tgt, src', oI_add, show oI (v + co7 p y b k) = fI (some (v + co7 p y b k)) from rfl, fI_min (bO i ilt) (fun z hz => by cases hz; omega), bsome, uI_94 w1 (tb i ilt), bsome]
        refine ih g (i + 1) (q i) _ (by omega) (by omega) nxt (s1.tr (Sm.sI Pc1_s)) (fun j hj => ?_) (fun c hc => ?_)
        · rw [gI_sI]
          by_cases e : j = i
          · rw [e, upd_s, hs]; rfl
          · rw [upd_o (fun z => e (ti j i (by omega) ilt z))]; exact hd j (by omega)
        · rw [gI_sI, upd_o (hc i (by omega))]; exact hn c (fun j hj => hc j (by omega))
  exact go nx FU 0 0 μ (by omega) (by have := rx.2.1; unfold FU; omega) (fun _ => Nat.zero_le _) Sm.rf (fun j hj => absurd hj (by omega)) (fun c _ => rfl)
