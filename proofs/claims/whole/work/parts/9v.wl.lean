/-! LAYER 2: ways, in the first program: the least of all rows -/
def DK (p : PT) (y : Bool) (l b k : Nat) (z : Int) : Option Int := mnk (fun j => if al7 p b j = true then pls (DD p y l (l - b) (z + sN7 p b j)) (co7 p y b j) else none) k
theorem DK_7 {p : PT} {y : Bool} {l b : Nat} (h0 : 0 < b) (hb : b < l + 1) (z : Int) : DK p y l b 7 z = DD p y l (l - (b - 1)) z := by
  rw [show l - (b - 1) = (l - b) + 1 by omega]
  unfold DK
  show _ = mnk (fun k => if al7 p (l - (l - b)) k = true then pls (DD p y l (l - b) (z + sN7 p (l - (l - b)) k)) (co7 p y (l - (l - b)) k) else none) 7
  rw [show l - (l - b) = b by omega]
theorem DK_b {p : PT} (hp' : WP p) {y : Bool} {l b k : Nat} (hl : l < 24) (h0 : 0 < b) (hb : b < l + 1) (hk : k < 8) (z : Int) : Bd (DK p y l b k z) := fun v h => by
  obtain ⟨⟨j, hj, e⟩, -⟩ := mnk_some k v h
  by_cases ha : al7 p b j = true
  · rw [if_pos ha] at e
    obtain ⟨a, e1, e2⟩ := pls_b e
    have := DD_b hp' y hl (l - b) (by omega) _ a e1
    have := co7_b hp' (y := y) (b := b) (by omega) (by omega) ha
    omega
  · rw [if_neg ha] at e; cases e
def dv (p : PT) (y : Bool) (l b k c : Nat) (z : Int) : Option Int := if b < c + 1 then DD p y l (l - c) z else if c + 1 = b then DK p y l b k z else none
def Dc (p : PT) (y : Bool) (l b k : Nat) (μ0 μ : MM) : Prop := ∀ c n f, c < l + 1 → Rw c n f μ0 → ∀ i, i < n → gI μ 94 (300 * c + i) = fI (dv p y l b k c (f i))
theorem qx {p : PT} (hp' : WP p) {b k n m : Nat} {x yy : Nat → Int} (hb : b + 1 < 24) (hk : k < 7) (ha : al7 p (b + 1) k = true) (ex : En p b n x) (ey : En p (b + 1) m yy) : ∃ q : Nat → Nat, ∀ i, i < n → q i < m ∧ yy (q i) = x i + sN7 p (b + 1) k := by
  have c : ∀ i, ∃ j, i < n → j < m ∧ yy j = x i + sN7 p (b + 1) k := fun i => by
    by_cases hi : i < n
    · obtain ⟨j, hj⟩ := ey.2.2 _ (RR_s hp' hb (ex.2.1 i hi) hk ha).1
      exact ⟨j, fun _ => hj⟩
    · exact ⟨0, fun h => absurd h hi⟩
  exact ⟨fun i => Classical.choose (c i), fun i hi => Classical.choose_spec (c i) hi⟩
/-- one link -/
theorem s_back {p : PT} (hp' : WP p) {l : Nat} (hl : l < 24) {y : Bool} {b k : Nat} (hb : b < l) (hk : k < 7) {μ0 μ : MM} (w0 : Ww μ0) (hX : WX p l μ0) (hz : Pz p y l μ0) (s0 : Sm (Pc1 94) μ0 μ) (hd : Dc p y l (b + 1) k μ0 μ) : ∃ μ', f_Wa_relax 92 (nI (b + 1)) (nI k) 0 μ = some μ' ∧ Sm (Pc1 94) μ0 μ' ∧ Dc p y l (b + 1) (k + 1) μ0 μ' := by
  have w := s0.ww w0
  have hz1 : Pz p y l μ := fun c j h1 h2 h3 => by rw [s0.gI 98 (Pc1_ne (by decide))]; exact hz c j h1 h2 h3
  by_cases ha : al7 p (b + 1) k = true
  · have hX1 := hX.s1 s0 (by decide) (by decide) (by decide) (by decide)
    have n93 : gI μ 93 = gI μ0 93 := s0.gI 93 (Pc1_ne (by decide))
    have n95 : gI μ 95 = gI μ0 95 := s0.gI 95 (Pc1_ne (by decide))
    obtain ⟨nx, x, rx, ex⟩ := hX.2.1 b (by omega)
    obtain ⟨ny, yy, ry, ey⟩ := hX.2.1 (b + 1) (by omega)
    have rx1 : Rw b nx x μ := rx.c (by rw [n95]) (fun _ _ => by rw [n93])
    have ry1 : Rw (b + 1) ny yy μ := ry.c (by rw [n95]) (fun _ _ => by rw [n93])
    obtain ⟨q, hq⟩ := qx hp' (by omega) hk ha ex ey
    obtain ⟨μ', e', s', t', n'⟩ := s_relax1 hp' hl (y := y) (fl := false) (b := b + 1) (by omega) (by omega) hk w hX1 hz1 ha rx1 ry1 q hq (fun i => DK p y l (b + 1) k (x i)) (fun i => DD p y l (l - (b + 1)) (x i + sN7 p (b + 1) k)) (fun i => 300 * b + i) (fun i => 300 * (b + 1) + q i) (fun i => (if_neg (by decide)).symm) (fun i => (if_neg (by decide)).symm) (fun i hi => by
        have := hd b nx x (by omega) rx i hi
        unfold dv at this
        rw [if_neg (by omega), if_pos rfl] at this
        exact this) (fun i hi => by
        have := hd (b + 1) ny yy (by omega) ry (q i) (hq i hi).1
        unfold dv at this
        rw [if_pos (by omega), (hq i hi).2] at this
        exact this) (fun i hi => DK_b hp' hl (by omega) (by omega) (by omega) _) (fun i v hi hv => by
        have := DD_b hp' y hl (l - (b + 1)) (by omega) _ v hv
        omega)
    refine ⟨μ', e', s0.tr s', fun c n f hc hr i hi => ?_⟩
    by_cases qc : c = b
    · subst qc
      obtain ⟨en, ef⟩ := hr.u rx
      subst en
      rw [t' i hi, ef i hi]
      unfold dv
      rw [if_neg (by omega), if_pos rfl]
      unfold DK
      show _ = fI (om _ (if al7 p (c + 1) k = true then _ else none))
      rw [if_pos ha]
    · rw [n' _ (fun j hj => by have := hr.2.1; have := rx.2.1; omega), hd c n f hc hr i hi]
      unfold dv
      by_cases q1 : b + 1 < c + 1
      · rw [if_pos q1, if_pos q1]
      · rw [if_neg q1, if_neg q1, if_neg (by omega), if_neg (by omega)]
  · refine ⟨μ, s_relax0 hl (by omega) (by omega) hk 0 w hz1 ha, s0, fun c n f hc hr i hi => ?_⟩
    rw [hd c n f hc hr i hi]
    unfold dv
    have : DK p y l (b + 1) (k + 1) (f i) = DK p y l (b + 1) k (f i) := by
      unfold DK
      show om _ (if al7 p (b + 1) k = true then _ else none) = _
      rw [if_neg ha, om_n]
    rw [this]
/-- following the least -/
theorem s_follow {p : PT} (hp' : WP p) {l : Nat} (hl : l < 24) {y : Bool} {μ : MM} (w : Ww μ) (hX : WX p l μ) (hz : Pz p y l μ) (hd : Dc p y l 0 0 μ μ) {v0 : Int} (hv0 : DD p y l l 0 = some v0) : ∃ μ', f_Wa_follow 92 μ = some (1, μ') ∧ Sm (Pc1 99) μ μ' ∧ ∀ b, 0 < b → b < 24 → gI μ' 99 b = rwz p y l l 0 b := by
  have cost : ∀ {μ1 : MM}, Sm (Pc1 99) μ μ1 → ∀ c n f, c < l + 1 → Rw c n f μ → ∀ i, i < n → gI μ1 94 (300 * c + i) = fI (DD p y l (l - c) (f i)) := fun s c n f hc hr i hi => by
    rw [s.gI 94 (Pc1_ne (by decide)), hd c n f hc hr i hi]
    unfold dv
    rw [if_pos (by omega)]
  have inner : ∀ (K : Int32 → Int32 → MM → Option (Int32 × MM)) (b n i : Nat) (x : Nat → Int) (v : Int) (μ1 : MM), b < l → Rw b n x μ → En p b n x → i < n → DD p y l (l - b) (x i) = some v → Sm (Pc1 99) μ μ1 → ∀ (d g k : Nat), k + d = stL p y l (l - (b + 1)) (x i) → d + 1 < g → ∃ ny yy j, Rw (b + 1) ny yy μ ∧ En p (b + 1) ny yy ∧ j < ny ∧ yy j = x i + sN7 p (b + 1) (stL p y l (l - (b + 1)) (x i)) ∧ f_Wa_follow_L25 K 92 (nI (300 * b + i)) (nI (b + 1)) g (-1) (nI k) μ1 = K (nI (300 * (b + 1) + j)) (nI (b + 2)) (sI μ1 99 (b + 1) (lk7 (stL p y l (l - (b + 1)) (x i)))) := by
    intro K b n i x v μ1 hbl hr he hi hv s1
    obtain ⟨ny, yy, ry, ey⟩ := hX.2.1 (b + 1) (by omega)
    have w1 := s1.ww w
    have hv' : DD p y l (l - (b + 1) + 1) (x i) = some v := by rw [show l - (b + 1) + 1 = l - b by omega]; exact hv
    obtain ⟨k0, k1, k2⟩ := okL_ex hv'
    obtain ⟨S, hS⟩ : ∃ z, z = stL p y l (l - (b + 1)) (x i) := ⟨_, rfl⟩
    rw [← hS] at k0 k1 k2 ⊢
    have lb : l - (l - (b + 1)) = b + 1 := by omega
    have n3 := hr.2.1
    have m3 := ry.2.1
    have vb := DD_b hp' y hl (l - b) (by omega) _ v hv
    have hat : gI μ1 94 (300 * b + i) = oI v := by rw [cost s1 b n x (by omega) hr i hi, hv]; rfl
    have prc : ∀ k, k < 7 → gI μ1 98 (7 * (b + 1) + k) = fI (pz p y (b + 1) k) := fun k hk => by rw [s1.gI 98 (Pc1_ne (by decide))]; exact hz (b + 1) k (by omega) (by omega) hk
    have ry1 : Rw (b + 1) ny yy μ1 := ry.c (by rw [s1.gI 95 (Pc1_ne (by decide))]) (fun _ _ => by rw [s1.gI 93 (Pc1_ne (by decide))])
    have reach : ∀ k, k < 7 → al7 p (b + 1) k = true → ∃ j, j < ny ∧ yy j = x i + sN7 p (b + 1) k ∧ f_Wa_find 92 (nI (b + 1)) (oI (x i + sN7 p (b + 1) k)) μ1 = some (nI (300 * (b + 1) + j)) := fun k hk ha => by
      have rr := (RR_s hp' (by omega) (he.2.1 i hi) hk ha).1
      have bb := (RR_d hp' (by omega) rr).2.2.2.2
      rcases s_wfind (b := b + 1) (by omega) w1 ry1 (z := x i + sN7 p (b + 1) k) (by omega) with ⟨j, j1, j2, j3⟩ | ⟨j1, j2⟩
      · exact ⟨j, j1, j2, j3⟩
      · obtain ⟨j, j3, j4⟩ := ey.2.2 _ rr
        exact absurd j4 (j1 j j3)
    -- the head of a turn, where the link may be
    have head : ∀ (g k : Nat), k < 7 → al7 p (b + 1) k = true → ∃ j, j < ny ∧ yy j = x i + sN7 p (b + 1) k ∧ f_Wa_follow_L25 K 92 (nI (300 * b + i)) (nI (b + 1)) (g + 1) (-1) (nI k) μ1 = f_Wa_follow_J86 K (f_Wa_follow_L25 K 92 (nI (300 * b + i)) (nI (b + 1)) g) 92 (nI (300 * b + i)) (nI (b + 1)) (-1) (nI k) (oI (co7 p y (b + 1) k)) (nI (300 * (b + 1) + j)) μ1 := fun g k hk ha => by
      obtain ⟨j, j1, j2, j3⟩ := reach k hk ha
      have cb := co7_b hp' (y := y) (b := b + 1) (by omega) hk ha
      refine ⟨j, j1, j2, ?_⟩
      have epz : fI (pz p y (b + 1) k) = oI (co7 p y (b + 1) k) := by unfold pz; rw [if_pos ha]; rfl
      have cneq : ¬ oI (co7 p y (b + 1) k) = (2147483647 : Int32) := fun e => by
        have : oI (co7 p y (b + 1) k) = oI 2147483647 := e
        rw [oI_inj (by omega) (by omega)] at this
        omega
      rw [e_Wa_follow_L25, if_neg (by rw [show (7 : Int32) = nI 7 from rfl, cle (by omega) (by omega)]; omega), if_pos rfl, rR_92_6 w1, bsome, rx7, aI_98 w1 (by omega), bsome, prc k hk, epz, if_neg cneq, rR_92_1 w1, bsome, aI_93 w1 (by omega), bsome, s1.gI 93 (Pc1_ne (by decide)), hr.2.2.1 i hi, rR_92_5 w1, bsome, aI_97 w1 (by omega), bsome, s1.gI 97 (Pc1_ne (by decide)), hX.2.2 (b + 1) (by omega) (by omega) k hk ha, oI_add, j3, bsome]
    intro d
    induction d with
    | zero =>
      intro g k hk hg
      obtain ⟨g, rfl⟩ : ∃ z, g = z + 2 := ⟨g - 2, by omega⟩
      have : k = S := by omega
      subst this
      obtain ⟨a1, u, a2, a3⟩ := okL_next k1
      rw [lb] at a1 a2 a3
      obtain ⟨j, j1, j2, j3⟩ := head (g + 1) k k0 a1
      refine ⟨ny, yy, j, ry, ey, j1, j2, ?_⟩
      rw [j3]
      unfold f_Wa_follow_J86
      have ub := DD_b hp' y hl (l - (b + 1)) (by omega) _ u a2
      have cto : gI μ1 94 (300 * (b + 1) + j) = oI u := by rw [cost s1 (b + 1) ny yy (by omega) ry j j1, j2, a2]; rfl
      have uneq : ¬ oI u = (2147483647 : Int32) := fun e => by
        have : oI u = oI 2147483647 := e
        rw [oI_inj (by omega) (by omega)] at this
        omega
      have vu : v = u + co7 p y (b + 1) k := by rw [hv'] at a3; exact Option.some.inj a3
      rw [if_neg (nI_ne_m1 (by omega)), rR_92_2 w1, bsome, aI_94 w1 (by omega), bsome, cto, if_neg uneq, bsome, aI_94 w1 (by omega), bsome, hat, bsome, aI_94 w1 (by omega), bsome, cto, oI_add, if_pos (by rw [vu, Int.add_comm]), rR_92_7 w1, bsome]
      have fin : ∀ s2 : Int32, s2 = lk7 k → f_Wa_follow_J146 K (f_Wa_follow_L25 K 92 (nI (300 * b + i)) (nI (b + 1)) (g + 1)) 92 (nI (300 * b + i)) (nI (b + 1)) (nI (300 * (b + 1) + j)) (nI k) 99 (nI (b + 1)) s2 μ1 = K (nI (300 * (b + 1) + j)) (nI (b + 2)) (sI μ1 99 (b + 1) (lk7 k)) := fun s2 h2 => by
        subst h2
        have j153 : ∀ m, f_Wa_follow_J153 K 92 (nI (b + 1)) (nI (300 * (b + 1) + j)) m = K (nI (300 * (b + 1) + j)) (nI (b + 2)) m := fun m => by
          unfold f_Wa_follow_J153
          rw [if_neg (nI_ne_m1 (by omega)), show (1 : Int32) = nI 1 from rfl, nI_add]
        unfold f_Wa_follow_J146
        rw [uI_99 w1 (by omega), bsome, show (1 : Int32) = nI 1 from rfl, nI_add, e_Wa_follow_L25, if_neg (c := nI (300 * (b + 1) + j) = -1) (nI_ne_m1 (by omega)), j153]
        split <;> rfl
      by_cases c : k = 0
      · rw [if_pos (by rw [c]; rfl)]
        exact fin _ (by unfold lk7; rw [if_pos c])
      · rw [if_neg (c := nI k = 0) (fun e => c ((nI_eq (a := k) (b := 0) (by omega) (by omega)).mp e))]
        exact fin _ (by unfold lk7; rw [if_neg c, nI_m1 (by omega)])
    | succ d ih =>
      intro g k hk hg
      obtain ⟨g, rfl⟩ : ∃ z, g = z + 1 := ⟨g - 1, by omega⟩
      obtain ⟨ny', yy', j', p1, p2, p3, p4, p5⟩ := ih g (k + 1) (by omega) (by omega)
      refine ⟨ny', yy', j', p1, p2, p3, p4, ?_⟩
      rw [← p5]
      have bad := k2 k (by omega)
      by_cases ha : al7 p (b + 1) k = true
      · obtain ⟨j, j1, j2, j3⟩ := head g k (by omega) ha
        have cb := co7_b hp' (y := y) (b := b + 1) (by omega) (by omega) ha
        rw [j3]
        unfold f_Wa_follow_J86
        have cto : gI μ1 94 (300 * (b + 1) + j) = fI (DD p y l (l - (b + 1)) (x i + sN7 p (b + 1) k)) := by rw [cost s1 (b + 1) ny yy (by omega) ry j j1, j2]
        rw [if_neg (nI_ne_m1 (by omega)), rR_92_2 w1, bsome, aI_94 w1 (by omega), bsome, cto]
        unfold okL at bad
        rw [lb, ha] at bad
        cases e : DD p y l (l - (b + 1)) (x i + sN7 p (b + 1) k) with
        | none =>
          rw [if_pos (by rfl), show (1 : Int32) = nI 1 from rfl, nI_add]
        | some u =>
          rw [e] at cto
          have ub := DD_b hp' y hl (l - (b + 1)) (by omega) _ u e
          rw [e, hv', decide_eq_true (by simp)] at bad
          have ne : ¬ v = co7 p y (b + 1) k + u := fun z => by
            have : pls (some u) (co7 p y (b + 1) k) = some v := by rw [z, Int.add_comm]; rfl
            rw [this, decide_eq_true rfl] at bad
            cases bad
          have uneq : ¬ fI (some u) = (2147483647 : Int32) := fun z => by
            have : oI u = oI 2147483647 := z
            rw [oI_inj (by omega) (by omega)] at this
            omega
          rw [if_neg uneq, bsome, aI_94 w1 (by omega), bsome, hat, bsome, aI_94 w1 (by omega), bsome, cto, show fI (some u) = oI u from rfl, oI_add, if_neg (by rw [oI_inj (by omega) (by omega)]; exact ne), show (1 : Int32) = nI 1 from rfl, nI_add]
      · rw [e_Wa_follow_L25, if_neg (by rw [show (7 : Int32) = nI 7 from rfl, cle (by omega) (by omega)]; omega), if_pos rfl, rR_92_6 w1, bsome, rx7, aI_98 w1 (by omega), bsome, prc k (by omega)]
        unfold pz
        rw [if_neg ha, if_pos (by rfl)]
        unfold f_Wa_follow_J86
        rw [if_pos rfl, show (1 : Int32) = nI 1 from rfl, nI_add]
  have go : ∀ (d g b n i : Nat) (x : Nat → Int) (v : Int) (μ1 : MM), b + d = l → d < g → Rw b n x μ → En p b n x → i < n → DD p y l (l - b) (x i) = some v → Sm (Pc1 99) μ μ1 → (∀ c, 0 < c → c < 24 → rwz p y l l 0 c = if c < b + 1 then gI μ1 99 c else rwz p y l (l - b) (x i) c) → (∀ c, b < c → c < 24 → gI μ1 99 c = -1) → ∃ μ', f_Wa_follow_L12 92 g (nI (300 * b + i)) (nI (b + 1)) μ1 = some (1, μ') ∧ Sm (Pc1 99) μ μ' ∧ ∀ b, 0 < b → b < 24 → gI μ' 99 b = rwz p y l l 0 b := by
    intro d
    induction d with
    | zero =>
      intro g b n i x v μ1 hb hg hr he hi hv s1 hrow hm
      obtain ⟨g, rfl⟩ : ∃ z, g = z + 1 := ⟨g - 1, by omega⟩
      have : b = l := by omega
      subst this
      refine ⟨μ1, ?_, s1, fun c hc1 hc2 => ?_⟩
      · rw [e_Wa_follow_L12, rI_92 (s1.ww w), bsome, s1.gI 92 (Pc1_ne (by decide)), hX.1, if_pos (by rw [clt (by omega) (by omega)]; omega)]
      · rw [hrow c hc1 hc2]
        by_cases q : c < b + 1
        · rw [if_pos q]
        · rw [if_neg q, hm c (by omega) hc2, Nat.sub_self]; rfl
    | succ d ih =>
      intro g b n i x v μ1 hb hg hr he hi hv s1 hrow hm
      obtain ⟨g, rfl⟩ : ∃ z, g = z + 1 := ⟨g - 1, by omega⟩
      have lb : l - (l - (b + 1)) = b + 1 := by omega
      have hv' : DD p y l (l - (b + 1) + 1) (x i) = some v := by rw [show l - (b + 1) + 1 = l - b by omega]; exact hv
      obtain ⟨k0, k1, k2⟩ := okL_ex hv'
      obtain ⟨a1, u, a2, a3⟩ := okL_next k1
      rw [lb] at a1 a2 a3
      obtain ⟨ny, yy, j, ry, ey, hj, ej, e1⟩ := inner (f_Wa_follow_L12 92 g) b n i x v μ1 (by omega) hr he hi hv s1 (stL p y l (l - (b + 1)) (x i)) FU 0 (by omega) (by unfold FU; omega)
      rw [e_Wa_follow_L12, rI_92 (s1.ww w), bsome, s1.gI 92 (Pc1_ne (by decide)), hX.1, if_neg (by rw [clt (by omega) (by omega)]; omega), show (0 : Int32) = nI 0 from rfl, e1]
      refine ih g (b + 1) ny j yy u _ (by omega) (by omega) ry ey hj (by rw [ej]; exact a2) (s1.tr (Sm.sI Pc1_s)) (fun c hc1 hc2 => ?_) (fun c hc1 hc2 => ?_)
      · rw [hrow c hc1 hc2, gI_sI]
        by_cases q : c < b + 1
        · rw [if_pos q, if_pos (by omega), upd_o (by omega)]
        · rw [if_neg q, show l - b = l - (b + 1) + 1 by omega]
          show (if c = l - (l - (b + 1)) then lk7 (stL p y l (l - (b + 1)) (x i)) else rwz p y l (l - (b + 1)) (x i + sN7 p (l - (l - (b + 1))) (stL p y l (l - (b + 1)) (x i))) c) = _
          rw [lb]
          by_cases q2 : c = b + 1
          · rw [if_pos q2, if_pos (by omega), q2, upd_s]
          · rw [if_neg q2, if_neg (by omega), ej]
      · rw [gI_sI, upd_o (by omega)]; exact hm c (by omega) hc2
  obtain ⟨μ1, e1, s1, f1⟩ := s_fill99 (-1) w
  obtain ⟨n, x, rx, ex⟩ := hX.2.1 0 (by omega)
  obtain ⟨i, hi, ei⟩ := ex.2.2 0 rfl
  have x0 : ∀ k, k < n → x k = 0 := fun k hk => ex.2.1 k hk
  have : i = 0 := by
    rcases Nat.eq_zero_or_pos i with h | h
    · exact h
    · have := rx.2.2.2.1 0 i h hi
      rw [x0 0 (by omega), x0 i hi] at this
      omega
  subst this
  unfold f_Wa_follow
  rw [kO_92 w, bsome, rR_92_7 w, bsome, e1, bsome]
  exact go l FU 0 n 0 x v0 μ1 (by omega) (by unfold FU; omega) rx ex hi (by rw [x0 0 hi]; exact hv0) s1 (fun c hc1 hc2 => by rw [if_neg (by omega), x0 0 hi]; rfl) (fun c hc1 hc2 => f1 c hc2)
