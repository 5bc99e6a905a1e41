/-! LAYER 2: leader, in the reference, and both -/
def MO (o : LO) (x5 : Int32) (x6 : Int64) : Prop := match o with
  | none => x5 = 0 ∧ x6 = 1000000000000000
  | some (G, v) => x5 = nI G ∧ x6 = lI v ∧ 0 ≤ v ∧ v ≤ 10000000000
section
variable {tw : (Nat → Int32) → Nat → Int} {c : CT} {p : PT}
def WG (tw : (Nat → Int32) → Nat → Int) (c : CT) (p : PT) (l G : Nat) : Int := mxr (ofa tw c p G) 0 (l + 1)
theorem WG_b (ht : TWB tw) (hc : WC c) (hp' : WP p) {l : Nat} (hl : l < 24) (G : Nat) : 0 ≤ WG tw c p l G ∧ WG tw c p l G ≤ 10000000000 :=
  ⟨mxr_0 _ _ _, mxr_b (by decide) _ (fun k hk => (ofa_b ht hc hp' G (by omega)).2)⟩
theorem s_farthest (ht : TWB tw) (hc : WC c) (hp' : WP p) {μ : MM} (w : Wf μ) (hm : MG c μ) (hmp : MP p μ) (h53 : gI μ 49 53 = nI 0) {G l : Nat} (hl : l < 24) (hz : ∀ k, l < k → k < 24 → hmn c p k = 0) (hpit : MPit c p (sal tw c p 0 G (cP c) false 24).1 μ) : f_M_farthest 49 μ = some (lI (WG tw c p l G)) := by
  have z : ∀ b, hmn c p b = 0 → ofa tw c p G b = 0 := fun b hb => by
    unfold ofa off
    rw [hb]
    show iabs (_ / (0 : Int)) = 0
    rw [Int.ediv_zero]; rfl
  have tot : mxr (ofa tw c p G) 0 24 = WG tw c p l G := by
    have := mxr_z (f := ofa tw c p G) (a := 0) (n := l + 1) (23 - l) (fun k h1 h2 => z _ (hz _ (by omega) (by omega)))
    rw [show l + 1 + (23 - l) = 24 by omega] at this
    exact this
  unfold f_M_farthest
  rw [kO_49 w, bsome, ← tot]
  have go : ∀ (d n x : Nat), x + d = 24 → d < n → f_M_farthest_L4 49 μ n (lI (mxr (ofa tw c p G) 0 x)) (nI x) = some (lI (mxr (ofa tw c p G) 0 24)) := by
    intro d
    induction d with
    | zero =>
      intro n x hx hn
      obtain ⟨n, rfl⟩ : ∃ j, n = j + 1 := ⟨n - 1, by omega⟩
      have : x = 24 := by omega
      subst this
      rw [e_M_farthest_L4, if_pos (by decide)]
    | succ d ih =>
      intro n x hx hn
      obtain ⟨n, rfl⟩ : ∃ j, n = j + 1 := ⟨n - 1, by omega⟩
      have hm8 := hmn_b hc p x
      have step : mxr (ofa tw c p G) 0 (x + 1) = if mxr (ofa tw c p G) 0 x < ofa tw c p G x then ofa tw c p G x else mxr (ofa tw c p G) 0 x := by
        show (if mxr (ofa tw c p G) 0 x < ofa tw c p G (0 + x) then ofa tw c p G (0 + x) else mxr (ofa tw c p G) 0 x) = _
        rw [Nat.zero_add]
      have mb : 0 ≤ mxr (ofa tw c p G) 0 x ∧ mxr (ofa tw c p G) 0 x ≤ 10000000000 := ⟨mxr_0 _ _ _, mxr_b (by decide) _ (fun k hk => (ofa_b ht hc hp' G (by omega)).2)⟩
      have ob := ofa_b ht hc hp' G (show x < 24 by omega)
      rw [e_M_farthest_L4, if_neg (show ¬ (24 : Int32) ≤ nI x by rw [show (24 : Int32) = nI 24 from rfl, cle (by omega) (by omega)]; omega), s_singing w hc hm.1 (MG_v hm) hmp.1, bsome]
      by_cases e : hmn c p x = 0
      · rw [if_pos (by rw [e]; rfl), nI_1]
        have := ih n (x + 1) (by omega) (by omega)
        rw [step, z x e, if_neg (by omega)] at this
        exact this
      · have od := off_b hc hp' (t := 0) (sal_PB ht hc hp' (t := 0) (g := G) (pl := cP c) (nb := false)) (show x < 24 by omega)
        have := ih n (x + 1) (by omega) (by omega)
        rw [if_neg (nI_n0 (by omega) (by omega)), s_offOf w hc hm hp' hmp h53 (by decide) hpit (by omega) (by omega), bsome, s_plain (by omega) (by omega), bsome]
        show (if lg_cmp (lI (ofa tw c p G x)) (lI (mxr (ofa tw c p G) 0 x)) ≤ 0 then _ else _) = _
        rw [step] at this
        by_cases q : mxr (ofa tw c p G) 0 x < ofa tw c p G x
        · rw [if_pos q] at this
          rw [if_neg (fun y => by have := (lgl ob mb).2.2.mp y; omega), nI_1]
          exact this
        · rw [if_neg q] at this
          rw [if_pos ((lgl ob mb).2.2.mpr (by omega)), nI_1]
          exact this
  exact go 24 FU 0 (by omega) (by unfold FU; omega)
/-- one giving is tried -/
theorem ldT (ht : TWB tw) (hc : WC c) (hp' : WP p) {l : Nat} (hl : l < 24) (hz : ∀ k, l < k → k < 24 → hmn c p k = 0) {μ : MM} {g G : Nat} (hG : G < 16777216) (hq : MQs tw c p 0 g (cP c) false μ) (k87 k117 k148 : Int32 → Int64 → Int32 → MM → Option (Int64 × MM)) (x1 x2 x3 x4 x5 : Int32) (x6 : Int64) (x8 x9 x10 s1 s2 : Int32) (hs : s1 ||| s2 = nI G) {o : LO} (ho : MO o x5 x6) : ∃ y5 y6 μ', f_M_leader_J199 k87 k117 k148 49 x1 x2 x3 x4 x5 x6 x8 x9 x10 49 s1 s2 μ = k148 y5 y6 (x10 + (1 : Int32)) μ' ∧ Sm Pxx μ μ' ∧ MQs tw c p 0 G (cP c) false μ' ∧ MO (cns o G (WG tw c p l G)) y5 y6 := by
  obtain ⟨w, hm, hmp, htx, h52, h53, h81, h82⟩ := hq
  obtain ⟨m1, e1⟩ : ∃ x, x = sI μ 49 52 (nI G) := ⟨_, rfl⟩
  have s1' : Sm Pxx μ m1 := by rw [e1]; exact Sm.sI rfl
  have hq1 : MQs tw c p 0 G (cP c) false m1 := by
    refine ⟨s1'.wf w, hm.sm s1' Pxx_Pcf, hmp.sm s1' Pxx_mp, htx.ts (TS.sm s1' Pxx_ts), ?_, ?_, ?_, ?_⟩
    · rw [e1, gI_sI, upd_s]
    · rw [e1, gI_sI, upd_o (by decide)]; exact h53
    · rw [e1, gI_sI_ne (by decide)]; exact h81
    · rw [e1, gI_sI_ne (by decide)]; exact h82
  obtain ⟨m2, q1, q2, q3⟩ := s_isSung hc hp' (by decide) hG hq1
  have hq2 := hq1.sm q2
  have fa := s_farthest ht hc hp' hq2.1 hq2.2.1 hq2.2.2.1 hq2.2.2.2.2.2.1 hl hz (MS_pit ht hc hp' q3)
  have wb := WG_b ht hc hp' hl G
  have pre : f_M_leader_J199 k87 k117 k148 49 x1 x2 x3 x4 x5 x6 x8 x9 x10 49 s1 s2 μ = if lg_cmp (lI (WG tw c p l G)) x6 < 0 then k148 (nI G) (lI (WG tw c p l G)) (x10 + (1 : Int32)) m2 else k148 x5 x6 (x10 + (1 : Int32)) m2 := by
    unfold f_M_leader_J199
    rw [pI_49 w, bsome, hs, ← e1, q1, bsome, fa, bsome, rI_49 hq2.1, bsome, hq2.2.2.2.2.1]
  have sx : Sm Pxx μ m2 := s1'.tr (q2.mono Pxx_Pis)
  match o, ho with
  | none, ho =>
    obtain ⟨h1, h2⟩ := ho
    refine ⟨nI G, lI (WG tw c p l G), m2, ?_, sx, hq2, rfl, rfl, wb⟩
    rw [pre, h2, if_pos]
    rw [show (1000000000000000 : Int64) = lI 1000000000000000 from rfl, lgc_lt, lI_toInt (by omega) (by omega), lI_toInt (by omega) (by omega)]
    omega
  | some (G', v'), ho =>
    obtain ⟨h1, h2, h3⟩ := ho
    rw [pre, h2]
    by_cases e : WG tw c p l G < v'
    · refine ⟨nI G, lI (WG tw c p l G), m2, by rw [if_pos ((lgl wb h3).1.mpr e)], sx, hq2, ?_⟩
      show MO (if WG tw c p l G < v' then some (G, WG tw c p l G) else some (G', v')) _ _
      rw [if_pos e]; exact ⟨rfl, rfl, wb⟩
    · refine ⟨x5, lI v', m2, by rw [if_neg (fun q => e ((lgl wb h3).1.mp q))], sx, hq2, ?_⟩
      show MO (if WG tw c p l G < v' then some (G, WG tw c p l G) else some (G', v')) _ _
      rw [if_neg e]; exact ⟨h1, rfl, h3⟩
/-- the giving of a, b, d (b: from two on, d: of three) -/
def Gv (n a b d : Nat) : Nat := 2 ^ a ||| (if n ≤ 1 then 0 else 2 ^ b) ||| (if n ≤ 2 then 0 else 2 ^ d)
theorem Gv_b {n a b d : Nat} (ha : a < 24) (hb : ¬ n ≤ 1 → b < 24) (hd : ¬ n ≤ 2 → d < 24) : Gv n a b d < 16777216 := by
  unfold Gv
  have p : ∀ x, x < 24 → 2 ^ x < 2 ^ 24 := fun x hx => Nat.pow_lt_pow_right (by decide) hx
  refine Nat.or_lt_two_pow (n := 24) (Nat.or_lt_two_pow (p a ha) ?_) ?_
  · split
    · decide
    · exact p b (hb (by assumption))
  · split
    · decide
    · exact p d (hd (by assumption))
def mA_ (tw : (Nat → Int32) → Nat → Int) (c : CT) (p : PT) (n l b d a : Nat) (o : LO) : LO := cns o (Gv n a b d) (WG tw c p l (Gv n a b d))
def bI (n : Nat) (b : Nat) : Int32 := if n ≤ 1 then -1 else nI b
def dI (n : Nat) (d : Nat) : Int32 := if n ≤ 2 then -1 else nI d
theorem le12 {n : Nat} (hn : n ≤ 3) : (nI n ≤ (1 : Int32) ↔ n ≤ 1) ∧ (nI n ≤ (2 : Int32) ↔ n ≤ 2) := by
  refine ⟨?_, ?_⟩
  · rw [show (1 : Int32) = nI 1 from rfl, cle (by omega) (by omega)]
  · rw [show (2 : Int32) = nI 2 from rfl, cle (by omega) (by omega)]
theorem lmA (ht : TWB tw) (hc : WC c) (hp' : WP p) {f l n : Nat} (hn3 : n ≤ 3) (hl : l < 24) (hz : ∀ k, l < k → k < 24 → hmn c p k = 0) (k87 k117 : Int32 → Int64 → Int32 → MM → Option (Int64 × MM)) (x2 : Int32) {b d : Nat} (hb : ¬ n ≤ 1 → f + 1 < b + 1 ∧ b < 24) (hd : ¬ n ≤ 2 → d < 24) : ∀ (r m a g : Nat) (o : LO) (x5 : Int32) (x6 : Int64) (μ : MM), r < m → f < a → a + r = (if n ≤ 1 then l + 1 else b) → MQs tw c p 0 g (cP c) false μ → MO o x5 x6 → ∃ y5 y6 g' μ', f_M_leader_L148 k87 k117 49 (nI n) x2 (nI (f + 1)) (nI l) (dI n d) (bI n b) m x5 x6 (nI a) μ = k117 y5 y6 (bI n b + (1 : Int32)) μ' ∧ Sm Pxx μ μ' ∧ MQs tw c p 0 g' (cP c) false μ' ∧ MO (fo (mA_ tw c p n l b d) r a o) y5 y6 := by
  obtain ⟨i1, i2⟩ := le12 hn3
  intro r
  induction r with
  | zero =>
    intro m a g o x5 x6 μ hm ha har hq ho
    obtain ⟨m, rfl⟩ : ∃ j, m = j + 1 := ⟨m - 1, by omega⟩
    refine ⟨x5, x6, g, μ, ?_, Sm.rf, hq, ho⟩
    rw [e_M_leader_L148]
    unfold f_M_leader_J164 bI
    by_cases e : n ≤ 1
    · rw [if_pos e] at har
      rw [if_pos (i1.mpr e), if_pos e, if_pos (by rw [clt (by omega) (by omega)]; omega)]
    · rw [if_neg e] at har
      have := hb e
      rw [if_neg (fun q => e (i1.mp q)), if_neg e, nI_m1 (by omega), if_pos (by rw [clt (by omega) (by omega)]; omega)]
  | succ r ih =>
    intro m a g o x5 x6 μ hm ha har hq ho
    obtain ⟨m, rfl⟩ : ∃ j, m = j + 1 := ⟨m - 1, by omega⟩
    have ha24 : a < 24 := by
      by_cases e : n ≤ 1
      · rw [if_pos e] at har; omega
      · rw [if_neg e] at har; have := hb e; omega
    have hG := Gv_b (n := n) (a := a) (b := b) (d := d) ha24 (fun e => (hb e).2) hd
    have j164 : ∀ (x : Int32), ¬ x < nI a → f_M_leader_J164 k87 k117 (f_M_leader_L148 k87 k117 49 (nI n) x2 (nI (f + 1)) (nI l) (dI n d) (bI n b) m) 49 (nI n) x2 (nI (f + 1)) (nI l) x5 x6 (dI n d) (bI n b) (nI a) (nI a) x μ = f_M_leader_J199 k87 k117 (f_M_leader_L148 k87 k117 49 (nI n) x2 (nI (f + 1)) (nI l) (dI n d) (bI n b) m) 49 (nI n) x2 (nI (f + 1)) (nI l) x5 x6 (dI n d) (bI n b) (nI a) 49 (nI (2 ^ a) ||| nI (if n ≤ 1 then 0 else 2 ^ b)) (nI (if n ≤ 2 then 0 else 2 ^ d)) μ := fun x hx => by
      unfold f_M_leader_J164 f_M_leader_J185
      rw [if_neg hx, ishl_1 a (by omega)]
      unfold dI bI
      by_cases e : n ≤ 1
      · have e2 : n ≤ 2 := by omega
        rw [if_pos (i1.mpr e), if_pos (i2.mpr e2), if_pos e2, if_pos e, if_pos e, if_pos e2]; rfl
      · have := hb e
        rw [if_neg (fun q => e (i1.mp q))]
        by_cases e2 : n ≤ 2
        · rw [if_pos (i2.mpr e2), if_pos e2, if_neg e, if_neg e, if_pos e2, ishl_1 b (by omega)]; rfl
        · have := hd e2
          rw [if_neg (fun q => e2 (i2.mp q)), if_neg e2, if_neg e, if_neg e, if_neg e2, ishl_1 b (by omega), ishl_1 d (by omega)]
    obtain ⟨y5, y6, m1, q1, q2, q3, q4⟩ := ldT ht hc hp' hl hz hG hq k87 k117 (f_M_leader_L148 k87 k117 49 (nI n) x2 (nI (f + 1)) (nI l) (dI n d) (bI n b) m) (nI n) x2 (nI (f + 1)) (nI l) x5 x6 (dI n d) (bI n b) (nI a) (nI (2 ^ a) ||| nI (if n ≤ 1 then 0 else 2 ^ b)) (nI (if n ≤ 2 then 0 else 2 ^ d)) (by rw [nI_or, nI_or]; rfl) ho
    obtain ⟨z5, z6, g', μ', p1, p2, p3, p4⟩ := ih m (a + 1) _ _ y5 y6 m1 (by omega) (by omega) (by omega) q3 q4
    refine ⟨z5, z6, g', μ', ?_, q2.tr p2, p3, p4⟩
    rw [e_M_leader_L148]
    by_cases e : n ≤ 1
    · rw [if_pos e] at har
      rw [if_pos (i1.mpr e), j164 (nI l) (by rw [clt (by omega) (by omega)]; omega), q1, nI_1, p1]
    · rw [if_neg e] at har
      have := hb e
      rw [if_neg (fun q => e (i1.mp q)), j164 (bI n b - 1) (by unfold bI; rw [if_neg e, nI_m1 (by omega), clt (by omega) (by omega)]; omega), q1, nI_1, p1]
theorem lmB1 (ht : TWB tw) (hc : WC c) (hp' : WP p) {f l : Nat} (hl : l < 24) (hfl : f ≤ l) (hz : ∀ k, l < k → k < 24 → hmn c p k = 0) (k87 : Int32 → Int64 → Int32 → MM → Option (Int64 × MM)) (x2 : Int32) {m g : Nat} {o : LO} {x5 : Int32} {x6 : Int64} {μ : MM} (hm : 1 < m) (hq : MQs tw c p 0 g (cP c) false μ) (ho : MO o x5 x6) : ∃ y5 y6 g' μ', f_M_leader_L117 k87 49 (nI 1) x2 (nI (f + 1)) (nI l) (-1) m x5 x6 (-1) μ = k87 y5 y6 ((-1 : Int32) + 1) μ' ∧ Sm Pxx μ μ' ∧ MQs tw c p 0 g' (cP c) false μ' ∧ MO (fo (mA_ tw c p 1 l 0 0) (l - f) (f + 1) o) y5 y6 := by
  obtain ⟨m, rfl⟩ : ∃ j, m = j + 2 := ⟨m - 2, by omega⟩
  obtain ⟨y5, y6, g', μ', q1, q2, q3, q4⟩ := lmA (n := 1) (f := f) ht hc hp' (by decide) hl hz k87 (f_M_leader_L117 k87 49 (nI 1) x2 (nI (f + 1)) (nI l) (-1) (m + 1)) x2 (b := 0) (d := 0) (fun e => absurd e (by decide)) (fun e => absurd e (by decide)) (l - f) FU (f + 1) g o x5 x6 μ (by unfold FU; omega) (by omega) (by rw [if_pos (by decide)]; omega) hq ho
  refine ⟨y5, y6, g', μ', ?_, q2, q3, q4⟩
  show f_M_leader_L117 k87 49 (nI 1) x2 (nI (f + 1)) (nI l) (-1) (m + 1 + 1) x5 x6 (-1) μ = _
  rw [e_M_leader_L117, if_pos (by decide), if_pos (by decide)]
  unfold f_M_leader_J142
  rw [if_neg (by decide)]
  have q1 : f_M_leader_L148 k87 (f_M_leader_L117 k87 49 (nI 1) x2 (nI (f + 1)) (nI l) (-1) (m + 1)) 49 (nI 1) x2 (nI (f + 1)) (nI l) (-1) (-1) FU x5 x6 (nI (f + 1)) μ = f_M_leader_L117 k87 49 (nI 1) x2 (nI (f + 1)) (nI l) (-1) (m + 1) y5 y6 ((-1 : Int32) + 1) μ' := q1
  rw [q1, e_M_leader_L117, if_pos (by decide), if_pos (by decide)]
  unfold f_M_leader_J142
  rw [if_pos (by decide)]
def mB_ (tw : (Nat → Int32) → Nat → Int) (c : CT) (p : PT) (n f l d b : Nat) (o : LO) : LO := fo (mA_ tw c p n l b d) (b - (f + 1)) (f + 1) o
theorem lmB (ht : TWB tw) (hc : WC c) (hp' : WP p) {f l n : Nat} (hn3 : n ≤ 3) (hn1 : ¬ n ≤ 1) (hl : l < 24) (hz : ∀ k, l < k → k < 24 → hmn c p k = 0) (k87 : Int32 → Int64 → Int32 → MM → Option (Int64 × MM)) (x2 : Int32) {d : Nat} (hd : ¬ n ≤ 2 → 0 < d ∧ d < 24) : ∀ (r m b g : Nat) (o : LO) (x5 : Int32) (x6 : Int64) (μ : MM), r < m → f + 1 < b → b + r = (if n ≤ 2 then l + 1 else d) → MQs tw c p 0 g (cP c) false μ → MO o x5 x6 → ∃ y5 y6 g' μ', f_M_leader_L117 k87 49 (nI n) x2 (nI (f + 1)) (nI l) (dI n d) m x5 x6 (nI b) μ = k87 y5 y6 (dI n d + (1 : Int32)) μ' ∧ Sm Pxx μ μ' ∧ MQs tw c p 0 g' (cP c) false μ' ∧ MO (fo (mB_ tw c p n f l d) r b o) y5 y6 := by
  obtain ⟨i1, i2⟩ := le12 hn3
  intro r
  induction r with
  | zero =>
    intro m b g o x5 x6 μ hm hb hbr hq ho
    obtain ⟨m, rfl⟩ : ∃ j, m = j + 1 := ⟨m - 1, by omega⟩
    refine ⟨x5, x6, g, μ, ?_, Sm.rf, hq, ho⟩
    rw [e_M_leader_L117]
    unfold f_M_leader_J142 dI
    by_cases e : n ≤ 2
    · rw [if_pos e] at hbr
      rw [if_pos (i2.mpr e), if_neg (fun q => hn1 (i1.mp q)), if_pos e, if_pos (by rw [clt (by omega) (by omega)]; omega)]
    · rw [if_neg e] at hbr
      have := hd e
      rw [if_neg (fun q => e (i2.mp q)), if_neg e, nI_m1 (by omega), if_pos (by rw [clt (by omega) (by omega)]; omega)]
  | succ r ih =>
    intro m b g o x5 x6 μ hm hb hbr hq ho
    obtain ⟨m, rfl⟩ : ∃ j, m = j + 1 := ⟨m - 1, by omega⟩
    have hb24 : b < 24 := by
      by_cases e : n ≤ 2
      · rw [if_pos e] at hbr; omega
      · rw [if_neg e] at hbr; have := hd e; omega
    have bi : bI n b = nI b := if_neg hn1
    obtain ⟨y5, y6, g1, m1, q1, q2, q3, q4⟩ := lmA (n := n) (f := f) ht hc hp' hn3 hl hz k87 (f_M_leader_L117 k87 49 (nI n) x2 (nI (f + 1)) (nI l) (dI n d) m) x2 (b := b) (d := d) (fun _ => ⟨by omega, hb24⟩) (fun e => (hd e).2) (b - (f + 1)) FU (f + 1) g o x5 x6 μ (by unfold FU; omega) (by omega) (by rw [if_neg hn1]; omega) hq ho
    obtain ⟨z5, z6, g', μ', p1, p2, p3, p4⟩ := ih m (b + 1) g1 _ y5 y6 m1 (by omega) (by omega) (by omega) q3 q4
    refine ⟨z5, z6, g', μ', ?_, q2.tr p2, p3, p4⟩
    rw [bi] at q1
    rw [e_M_leader_L117]
    unfold f_M_leader_J142
    by_cases e : n ≤ 2
    · rw [if_pos e] at hbr
      rw [if_pos (i2.mpr e), if_neg (fun q => hn1 (i1.mp q)), if_neg (by rw [clt (by omega) (by omega)]; omega), q1, nI_1, p1]
    · rw [if_neg e] at hbr
      have := hd e
      have di : dI n d = nI d := if_neg e
      rw [if_neg (fun q => e (i2.mp q)), di, nI_m1 (by omega), if_neg (by rw [clt (by omega) (by omega)]; omega), ← di, q1, nI_1, p1]
def mC_ (tw : (Nat → Int32) → Nat → Int) (c : CT) (p : PT) (f l d : Nat) (o : LO) : LO := fo (mB_ tw c p 3 f l d) (d - (f + 2)) (f + 2) o
def lres (o : LO) (x2 : Int32) : Int64 := match o with
  | none => 0
  | some (G, v) => if x2 = 0 then (nI G).toInt64 else lI v
theorem lmE {o : LO} {x5 : Int32} {x6 : Int64} {x2 : Int32} (ho : MO o x5 x6) (hs : o.isSome = true) (μ : MM) : (if x2 = 0 then some (x5.toInt64, μ) else some (x6, μ)) = some (lres o x2, μ) := by
  match o, ho, hs with
  | some (G, v), ho, _ =>
    show _ = some ((if x2 = 0 then (nI G).toInt64 else lI v), μ)
    rw [ho.1, ho.2.1]
    by_cases e : x2 = 0
    · rw [if_pos e, if_pos e]
    · rw [if_neg e, if_neg e]
theorem lmC3 (ht : TWB tw) (hc : WC c) (hp' : WP p) {f l : Nat} (hl : l < 24) (hz : ∀ k, l < k → k < 24 → hmn c p k = 0) (x2 : Int32) : ∀ (r m d g : Nat) (o : LO) (x5 : Int32) (x6 : Int64) (μ : MM), r < m → f + 2 < d → d + r = l + 1 → MQs tw c p 0 g (cP c) false μ → MO o x5 x6 → (fo (mC_ tw c p f l) r d o).isSome = true → ∃ μ', f_M_leader_L87 49 (nI 3) x2 (nI (f + 1)) (nI l) m x5 x6 (nI d) μ = some (lres (fo (mC_ tw c p f l) r d o) x2, μ') ∧ Sm Pxx μ μ' := by
  intro r
  induction r with
  | zero =>
    intro m d g o x5 x6 μ hm hd hdr hq ho hs
    obtain ⟨m, rfl⟩ : ∃ j, m = j + 1 := ⟨m - 1, by omega⟩
    refine ⟨μ, ?_, Sm.rf⟩
    rw [e_M_leader_L87, if_neg (by decide)]
    unfold f_M_leader_J100
    rw [if_pos (by rw [clt (by omega) (by omega)]; omega)]
    exact lmE ho hs μ
  | succ r ih =>
    intro m d g o x5 x6 μ hm hd hdr hq ho hs
    obtain ⟨m, rfl⟩ : ∃ j, m = j + 1 := ⟨m - 1, by omega⟩
    obtain ⟨y5, y6, g1, m1, q1, q2, q3, q4⟩ := lmB (n := 3) (f := f) ht hc hp' (by decide) (by decide) hl hz (f_M_leader_L87 49 (nI 3) x2 (nI (f + 1)) (nI l) m) x2 (d := d) (fun _ => ⟨by omega, by omega⟩) (d - (f + 2)) FU (f + 2) g o x5 x6 μ (by unfold FU; omega) (by omega) (by rw [if_neg (by decide)]; omega) hq ho
    obtain ⟨μ', p1, p2⟩ := ih m (d + 1) g1 _ y5 y6 m1 (by omega) (by omega) (by omega) q3 q4 hs
    refine ⟨μ', ?_, q2.tr p2⟩
    have di : dI 3 d = nI d := rfl
    rw [di] at q1
    rw [e_M_leader_L87, if_neg (by decide)]
    unfold f_M_leader_J100 f_M_leader_J115
    rw [if_neg (by rw [clt (by omega) (by omega)]; omega), if_neg (by decide), nI_1, q1, nI_1]
    exact p1
/-! both see the same ones -/
theorem fo_s {step : Nat → LO → LO} (h : ∀ k o, o.isSome = true → (step k o).isSome = true) : ∀ (d lo : Nat) (o : LO), o.isSome = true → (fo step d lo o).isSome = true
  | 0, _, _, ho => ho
  | d + 1, lo, o, ho => fo_s h d (lo + 1) _ (h lo o ho)
theorem fo_end {σ : Type} (step : Nat → σ → σ) : ∀ (d lo : Nat) (s : σ), fo step (d + 1) lo s = step (lo + d) (fo step d lo s)
  | 0, _, _ => rfl
  | d + 1, lo, s => by
    show fo step (d + 1) (lo + 1) (step lo s) = _
    rw [fo_end step d (lo + 1) (step lo s), show lo + 1 + d = lo + (d + 1) by omega]; rfl
theorem fo_1 {σ : Type} (step : Nat → σ → σ) (lo : Nat) (s : σ) : fo step 1 lo s = step lo s := rfl
theorem or_z (x : Nat) : x ||| 0 = x := Nat.or_zero x
theorem or_same (a d : Nat) : 2 ^ a ||| 2 ^ a ||| 2 ^ d = 2 ^ a ||| 2 ^ d := by rw [Nat.or_self]
theorem lead_1 {f l : Nat} (hl : l < 24) : fo (stC tw c p 1 f l) (l - f) (f + 1) none = fo (mA_ tw c p 1 l 0 0) (l - f) (f + 1) none := by
  refine fo_c _ _ _ (fun d o h1 h2 => ?_)
  show cns o (2 ^ d ||| 2 ^ d ||| 2 ^ d) (VA tw c p l d d d) = cns o (Gv 1 d 0 0) (WG tw c p l (Gv 1 d 0 0))
  have e : 2 ^ d ||| 2 ^ d ||| 2 ^ d = Gv 1 d 0 0 := by
    show _ = 2 ^ d ||| 0 ||| 0
    rw [Nat.or_self, Nat.or_self, or_z, or_z]
  have := far_G (tw := tw) (c := c) (p := p) (a := d) (b := d) (d := d) (l := l) (by omega) (Nat.le_refl _) (Nat.le_refl _) (by omega) hl
  rw [e] at this ⊢
  unfold WG VA
  rw [this]
theorem lead_2 {f l : Nat} (hl : l < 24) (hfl : 2 ≤ l - f) : fo (stC tw c p 2 f l) (l - f) (f + 1) none = fo (mB_ tw c p 2 f l 0) (l - (f + 1)) (f + 2) none := by
  obtain ⟨r, hr⟩ : ∃ r, l - f = r + 1 := ⟨l - f - 1, by omega⟩
  rw [hr, show l - (f + 1) = r by omega]
  have z : stC tw c p 2 f l (f + 1) none = none := by
    unfold stC
    rw [if_neg (by decide), Nat.sub_self]; rfl
  show fo (stC tw c p 2 f l) r (f + 1 + 1) (stC tw c p 2 f l (f + 1) none) = _
  rw [z]
  refine fo_c _ _ _ (fun d o h1 h2 => ?_)
  unfold stC mB_
  rw [if_neg (by decide), if_neg (by decide)]
  refine fo_c _ _ _ (fun b o h3 h4 => ?_)
  show cns o (2 ^ b ||| 2 ^ b ||| 2 ^ d) (VA tw c p l b d b) = cns o (Gv 2 b d 0) (WG tw c p l (Gv 2 b d 0))
  have e : 2 ^ b ||| 2 ^ b ||| 2 ^ d = Gv 2 b d 0 := by
    show _ = 2 ^ b ||| 2 ^ d ||| 0
    rw [Nat.or_self, or_z]
  have := far_G (tw := tw) (c := c) (p := p) (a := b) (b := b) (d := d) (l := l) (by omega) (Nat.le_refl _) (by omega) (by omega) hl
  rw [e] at this ⊢
  unfold WG VA
  rw [this]
theorem lead_3 {f l : Nat} (hl : l < 24) (hfl : 3 ≤ l - f) : fo (stC tw c p 3 f l) (l - f) (f + 1) none = fo (mC_ tw c p f l) (l - (f + 2)) (f + 3) none := by
  obtain ⟨r, hr⟩ : ∃ r, l - f = r + 2 := ⟨l - f - 2, by omega⟩
  rw [hr, show l - (f + 2) = r by omega]
  have z : stC tw c p 3 f l (f + 1) none = none := by
    unfold stC
    rw [if_neg (by decide), Nat.sub_self]; rfl
  have zB : ∀ d o, stB tw c p 3 f l d (f + 1) o = o := fun d o => by
    unfold stB
    rw [if_neg (by decide), Nat.sub_self]; rfl
  have z2 : stC tw c p 3 f l (f + 2) none = none := by
    unfold stC
    rw [if_neg (by decide), if_neg (by decide), show f + 2 - (f + 1) = 1 by omega]
    show stB tw c p 3 f l (f + 2) (f + 1) none = none
    exact zB _ _
  show fo (stC tw c p 3 f l) r (f + 1 + 1 + 1) (stC tw c p 3 f l (f + 1 + 1) (stC tw c p 3 f l (f + 1) none)) = _
  rw [z, z2]
  refine fo_c _ _ _ (fun d o h1 h2 => ?_)
  unfold stC mC_
  rw [if_neg (by decide), if_neg (by decide)]
  obtain ⟨q, hq⟩ : ∃ q, d - (f + 1) = q + 1 := ⟨d - (f + 1) - 1, by omega⟩
  rw [hq, show d - (f + 2) = q by omega]
  show fo (stB tw c p 3 f l d) q (f + 1 + 1) (stB tw c p 3 f l d (f + 1) o) = _
  rw [zB]
  refine fo_c _ _ _ (fun b o h3 h4 => ?_)
  unfold stB mB_
  rw [if_neg (by decide), if_neg (by decide)]
  refine fo_c _ _ _ (fun a o h5 h6 => ?_)
  show cns o (2 ^ a ||| 2 ^ b ||| 2 ^ d) (VA tw c p l b d a) = cns o (Gv 3 a b d) (WG tw c p l (Gv 3 a b d))
  have e : 2 ^ a ||| 2 ^ b ||| 2 ^ d = Gv 3 a b d := rfl
  have := far_G (tw := tw) (c := c) (p := p) (a := a) (b := b) (d := d) (l := l) (by omega) (by omega) (by omega) (by omega) hl
  rw [← e]
  unfold WG VA
  rw [this]
theorem stA_s {l b d : Nat} : ∀ a o, (stA tw c p l b d a o).isSome = true := fun _ _ => cns_s _ _ _
theorem stC_some {n f l : Nat} (hn1 : 1 ≤ n) (hn3 : n ≤ 3) (hfl : n ≤ l - f) : (fo (stC tw c p n f l) (l - f) (f + 1) none).isSome = true := by
  obtain ⟨r, hr⟩ : ∃ r, l - f = r + 1 := ⟨l - f - 1, by omega⟩
  rw [hr, fo_end]
  have eb : ∀ (k : Nat) (o : LO), ∀ d, 0 < (if n ≤ 2 then 1 else k - (f + 1)) → (stB tw c p n f l d k o).isSome = true := fun k o d hk => by
    unfold stB
    obtain ⟨q, hq⟩ : ∃ q, (if n ≤ 2 then 1 else k - (f + 1)) = q + 1 := ⟨(if n ≤ 2 then 1 else k - (f + 1)) - 1, by omega⟩
    rw [hq, fo_end]
    exact stA_s _ _
  unfold stC
  obtain ⟨q, hq⟩ : ∃ q, (if n ≤ 1 then 1 else f + 1 + r - (f + 1)) = q + 1 := ⟨(if n ≤ 1 then 1 else f + 1 + r - (f + 1)) - 1, by
    by_cases e : n ≤ 1
    · rw [if_pos e]
    · rw [if_neg e]; omega⟩
  rw [hq, fo_end]
  refine eb _ _ _ ?_
  by_cases e : n ≤ 2
  · rw [if_pos e]; decide
  · rw [if_neg e]
    rw [if_neg (by omega)] at hq
    rw [if_neg (by omega)]
    omega
def Plx (x k : Nat) : Bool := Pld x k || Pxx x k
theorem Plx_ld (x k : Nat) (h : Plx x k = false) : Pld x k = false := (Bool.or_eq_false_iff.mp h).1
theorem Plx_xx (x k : Nat) (h : Plx x k = false) : Pxx x k = false := (Bool.or_eq_false_iff.mp h).2
theorem Pld_Pcf : ∀ a k, Pcf a k = true → Pld a k = false := by
  intro a k h
  have h1 := P34_Pcf a k h
  have h2 := Psg_Pcf a k h
  have h3 := P35_Pcf a k h
  unfold Pld
  simp only [Pc1] at h3
  rw [h1, h2, h3]; rfl
theorem Pld_mp (a k : Nat) (h1 : 51 ≤ a) (h2 : a ≤ 56) : Pld a k = false := by
  have := Psg_mp a k h1 h2
  have n1 : ¬ a = 35 := by omega
  have n2 : ¬ a = 34 := by omega
  simp [Pld, P34, n1, n2, this]
theorem Pld_ts (a k : Nat) (h : tcl a = true ∨ (a = 49 ∧ k = 27)) : Pld a k = false := by
  have := Psg_ts a k h
  have n1 : ¬ a = 35 := by
    rintro rfl
    rcases h with h | h
    · simp [tcl] at h
    · omega
  have n2 : ¬ a = 34 := by
    rintro rfl
    rcases h with h | h
    · simp [tcl] at h
    · omega
  simp [Pld, P34, n1, n2, this]
theorem leader_M (ht : TWB tw) (hc : WC c) (hp' : WP p) {f l n : Nat} (hn1 : 1 ≤ n) (hn3 : n ≤ 3) (hfl : n ≤ l - f) (hl : l < 24) (hz : ∀ k, l < k → k < 24 → hmn c p k = 0) {μ : MM} (w : Wf μ) (hm : MG c μ) (hmp : MP p μ) (htx : TXs tw μ) (x2 : Int32) : ∃ μ', ((f_M_readies 49 μ).bind fun μ62 => if nI n ≤ (2 : Int32) then f_M_leader_J85 49 (nI n) x2 (nI (f + 1)) (nI l) (0 : Int32) (1000000000000000 : Int64) (-1 : Int32) μ62 else f_M_leader_J85 49 (nI n) x2 (nI (f + 1)) (nI l) (0 : Int32) (1000000000000000 : Int64) (nI (f + 1) + (2 : Int32)) μ62) = some (lres (fo (stC tw c p n f l) (l - f) (f + 1) none) x2, μ') ∧ Sm Pxx μ μ' := by
  obtain ⟨m1, r1, s1, g1, g52, g53⟩ := s_readies w hc hm
  have sx := s1.mono Pxx_Prd
  have hq : MQs tw c p 0 (cG c) (cP c) false m1 := by
    refine ⟨s1.wf w, hm.sm s1 Prd_Pcf, hmp.sm sx Pxx_mp, htx.ts (TS.sm sx Pxx_ts), g52, g53, fun j hj => ⟨(hc.2.1 j hj).2.1, (g1 j hj).1⟩, fun j hj => ?_⟩
    rw [(g1 j hj).2, knw_f hc hj]
  have hs := stC_some (tw := tw) (c := c) (p := p) hn1 hn3 hfl
  have o0 : MO none (0 : Int32) (1000000000000000 : Int64) := ⟨rfl, rfl⟩
  rw [r1, bsome]
  unfold f_M_leader_J85
  rcases (show n = 1 ∨ n = 2 ∨ n = 3 by omega) with rfl | rfl | rfl
  · rw [lead_1 hl] at hs ⊢
    obtain ⟨y5, y6, g', μ', q1, q2, q3, q4⟩ := lmB1 (f := f) ht hc hp' hl (by omega) hz (f_M_leader_L87 49 (nI 1) x2 (nI (f + 1)) (nI l) 999999999) x2 (m := FU) (by unfold FU; omega) hq o0
    refine ⟨μ', ?_, sx.tr q2⟩
    rw [if_pos (by decide)]
    show f_M_leader_L87 49 (nI 1) x2 (nI (f + 1)) (nI l) (999999999 + 1) 0 1000000000000000 (-1) m1 = _
    rw [e_M_leader_L87, if_pos (by decide)]
    unfold f_M_leader_J100 f_M_leader_J115
    rw [if_neg (by decide), if_pos (by decide), q1]
    show f_M_leader_L87 49 (nI 1) x2 (nI (f + 1)) (nI l) (999999998 + 1) y5 y6 0 μ' = _
    rw [e_M_leader_L87, if_pos (by decide)]
    unfold f_M_leader_J100
    rw [if_pos (by decide)]
    exact lmE q4 hs μ'
  · rw [lead_2 hl hfl] at hs ⊢
    obtain ⟨y5, y6, g', μ', q1, q2, q3, q4⟩ := lmB (n := 2) (f := f) ht hc hp' (by decide) (by decide) hl hz (f_M_leader_L87 49 (nI 2) x2 (nI (f + 1)) (nI l) 999999999) x2 (d := 0) (fun e => absurd e (by decide)) (l - (f + 1)) FU (f + 2) (cG c) none 0 1000000000000000 m1 (by unfold FU; omega) (by omega) (by rw [if_pos (by decide)]; omega) hq o0
    refine ⟨μ', ?_, sx.tr q2⟩
    rw [if_pos (by decide)]
    show f_M_leader_L87 49 (nI 2) x2 (nI (f + 1)) (nI l) (999999999 + 1) 0 1000000000000000 (-1) m1 = _
    rw [e_M_leader_L87, if_pos (by decide)]
    unfold f_M_leader_J100 f_M_leader_J115
    rw [if_neg (by decide), if_neg (by decide), nI_1]
    have q1 : f_M_leader_L117 (f_M_leader_L87 49 (nI 2) x2 (nI (f + 1)) (nI l) 999999999) 49 (nI 2) x2 (nI (f + 1)) (nI l) (-1) FU 0 1000000000000000 (nI (f + 2)) m1 = f_M_leader_L87 49 (nI 2) x2 (nI (f + 1)) (nI l) 999999999 y5 y6 ((-1 : Int32) + 1) μ' := q1
    show f_M_leader_L117 (f_M_leader_L87 49 (nI 2) x2 (nI (f + 1)) (nI l) 999999999) 49 (nI 2) x2 (nI (f + 1)) (nI l) (-1) FU 0 1000000000000000 (nI (f + 1 + 1)) m1 = _
    rw [q1]
    show f_M_leader_L87 49 (nI 2) x2 (nI (f + 1)) (nI l) (999999998 + 1) y5 y6 0 μ' = _
    rw [e_M_leader_L87, if_pos (by decide)]
    unfold f_M_leader_J100
    rw [if_pos (by decide)]
    exact lmE q4 hs μ'
  · rw [lead_3 hl hfl] at hs ⊢
    obtain ⟨μ', q1, q2⟩ := lmC3 ht hc hp' hl hz x2 (l - (f + 2)) FU (f + 3) (cG c) none 0 1000000000000000 m1 (by unfold FU; omega) (by omega) (by omega) hq o0 hs
    refine ⟨μ', ?_, sx.tr q2⟩
    rw [if_neg (by decide), show (2 : Int32) = nI 2 from rfl, nI_add]
    exact q1
theorem leader_ok (hc : WC c) (hp' : WP p) {μ : MM} (w : Wf μ) (hx : XG c μ) (hm : MG c μ) (hxp : XP p μ) (hmp : MP p μ) (htx : TXs tw μ) (x1 x2 : Int32) : ∃ r μ1 μ2, f_X_leader 0 x1 x2 μ = some (r, μ1) ∧ f_M_leader 49 x1 x2 μ1 = some (r, μ2) ∧ Sy Plx μ μ2 := by
  have l1 : f_M_lies x1.toInt64 (1 : Int64) (3 : Int64) = some (bi (decide ((1 : Int) ≤ x1.toInt ∧ x1.toInt ≤ 3))) := s_liesI _ 1 3 1 3 (by decide) (by decide)
  have l2 : f_M_lies x2.toInt64 (0 : Int64) (1 : Int64) = some (bi (decide ((0 : Int) ≤ x2.toInt ∧ x2.toInt ≤ 1))) := s_liesI _ 0 1 0 1 (by decide) (by decide)
  have t1 : ∀ (a b : Int32), (a < b) = (a.toInt < b.toInt) := toInt_lt
  have v1 : (1 : Int32).toInt = 1 := by decide
  have v3 : (3 : Int32).toInt = 3 := by decide
  have v0 : (0 : Int32).toInt = 0 := by decide
  have out : ¬ (((1 : Int) ≤ x1.toInt ∧ x1.toInt ≤ 3) ∧ ((0 : Int) ≤ x2.toInt ∧ x2.toInt ≤ 1) ∧ ¬ fbt c p = -1) → f_X_leader 0 x1 x2 μ = some (-1, μ) ∧ f_M_leader 49 x1 x2 μ = some (-1, μ) := fun h => by
    constructor
    · unfold f_X_leader f_X_leader_J30
      rw [kO_0 w, bsome]
      by_cases a : x1 < (1 : Int32)
      · rw [if_pos a]
      · rw [if_neg a]
        by_cases b : (3 : Int32) < x1
        · rw [if_pos b]
        · rw [if_neg b]
          by_cases d : x2 < 0
          · rw [if_pos d]
          · rw [if_neg d]
            by_cases e : (1 : Int32) < x2
            · rw [if_pos e]
            · rw [if_neg e, rR_0_1 w, bsome, s_firstBeat w hc hx hxp.1, bsome, if_pos]
              rw [t1, v1] at a
              rw [t1, v3] at b
              rw [t1, v0] at d
              rw [t1, v1] at e
              apply Classical.byContradiction
              intro q
              exact h ⟨by omega, by omega, q⟩
    · unfold f_M_leader f_M_leader_J30
      rw [kO_49 w, bsome, l1, bsome]
      by_cases a : (1 : Int) ≤ x1.toInt ∧ x1.toInt ≤ 3
      · rw [decide_eq_true a, if_neg (by decide), l2, bsome]
        by_cases b : (0 : Int) ≤ x2.toInt ∧ x2.toInt ≤ 1
        · rw [decide_eq_true b, if_neg (by decide), s_firstSung w hc hm.1 (MG_v hm) hmp.1, bsome, if_pos]
          apply Classical.byContradiction
          intro q
          exact h ⟨a, b, q⟩
        · rw [decide_eq_false b, if_pos (by decide)]
      · rw [decide_eq_false a, if_pos (by decide)]
  by_cases h : ((1 : Int) ≤ x1.toInt ∧ x1.toInt ≤ 3) ∧ ((0 : Int) ≤ x2.toInt ∧ x2.toInt ≤ 1) ∧ ¬ fbt c p = -1
  · obtain ⟨h1, h2, h3⟩ := h
    obtain ⟨n, hn⟩ : ∃ n : Nat, x1.toInt = n := ⟨x1.toInt.toNat, by omega⟩
    have hxn : x1 = nI n := by
      apply Int32.toInt_inj.mp
      rw [nI_toInt (by omega), hn]
    subst hxn
    obtain ⟨f, l, hf, hl, ef, el, -, -, hfl, -, hz⟩ := fbt_in h3
    have nl1 : ¬ nI n < (1 : Int32) := by rw [t1, v1]; omega
    have nl2 : ¬ (3 : Int32) < nI n := by rw [t1, v3]; omega
    have nl3 : ¬ x2 < (0 : Int32) := by rw [t1, v0]; omega
    have nl4 : ¬ (1 : Int32) < x2 := by rw [t1, v1]; omega
    have sub : nI l - nI f = nI (l - f) := pk_sub hfl
    have sub2 : (nI l - nI (f + 1)) + (1 : Int32) = nI (l - f) := by
      rw [oI_nI l, oI_nI (f + 1), oI_sub, show (1 : Int32) = oI 1 from rfl, oI_add, oI_nI (l - f)]
      congr 1; omega
    have X0 : ∀ (Z : Option (Int64 × MM)), Z = (if nI n ≤ nI (l - f) then ((rR μ 0 0 4).bind fun y58 => (f_Le_find y58 (nI n) μ).bind fun μ62 => if x2 = 0 then ((rR μ62 0 0 4).bind fun y70 => (rI μ62 y70 4 3).bind fun y73 => some (y73.toInt64, μ62)) else (rR μ62 0 0 4).bind fun y81 => (rL μ62 y81 4 4).bind fun y84 => some (y84, μ62)) else some ((-2 : Int64), μ)) → f_X_leader 0 (nI n) x2 μ = Z := fun Z hZ => by
      unfold f_X_leader
      rw [kO_0 w, bsome, if_neg nl1, if_neg nl2, if_neg nl3, if_neg nl4, rR_0_1 w, bsome, s_firstBeat w hc hx hxp.1, bsome, if_neg h3, bsome, s_lastBeatC w hc hx hxp.1, bsome, bsome, s_firstBeat w hc hx hxp.1, bsome, ef, el, sub, hZ]
    by_cases e : n ≤ l - f
    · obtain ⟨m1, q1, q2, q3, w1⟩ := s_Lefind htx.1 hc hp' (n := n) (by omega) ef el hfl hl ⟨w, hx, hxp, htx⟩
      have hs := stC_some (tw := tw) (c := c) (p := p) (n := n) (f := f) (l := l) (by omega) (by omega) e
      have hm1 : MG c m1 := q2.mg hm Pld_Pcf
      have hmp1 : MP p m1 := q2.mp hmp Pld_mp
      have htx1 := htx.ts (TS.sy q2 Pld_ts)
      obtain ⟨m2, p1, p2⟩ := leader_M htx.1 hc hp' (n := n) (by omega) (by omega) e hl hz w1 hm1 hmp1 htx1 x2
      refine ⟨lres (fo (stC tw c p n f l) (l - f) (f + 1) none) x2, m1, m2, ?_, ?_, (q2.mono Plx_ld).tr (Sy.of (p2.mono Plx_xx))⟩
      · refine X0 _ ?_
        rw [if_pos (by rw [cle (by omega) (by omega)]; exact e), rR_0_4 w, bsome, q1, bsome]
        match hoo : fo (stC tw c p n f l) (l - f) (f + 1) none, q3, hs with
        | some (G, v), q3, _ =>
          show some ((if x2 = 0 then (nI G).toInt64 else lI v), m1) = _
          by_cases e0 : x2 = 0
          · rw [if_pos e0, if_pos e0, rR_0_4 w1, bsome, rI_34 w1, bsome, q3.1]
          · rw [if_neg e0, if_neg e0, rR_0_4 w1, bsome, rL_34 w1, bsome, q3.2.1]
      · unfold f_M_leader
        rw [kO_49 w1, bsome, l1, bsome, decide_eq_true h1, if_neg (by decide), l2, bsome, decide_eq_true h2, if_neg (by decide), s_firstSung w1 hc hm1.1 (MG_v hm1) hmp1.1, bsome, if_neg h3, bsome, s_lastSung w1 hc hm1.1 (MG_v hm1) hmp1.1, bsome, ef, el, nI_1, sub2, if_pos (by rw [cle (by omega) (by omega)]; exact e)]
        exact p1
    · refine ⟨-2, μ, μ, ?_, ?_, Sy.rf⟩
      · refine X0 _ ?_
        rw [if_neg (by rw [cle (by omega) (by omega)]; exact e)]
      · unfold f_M_leader
        rw [kO_49 w, bsome, l1, bsome, decide_eq_true h1, if_neg (by decide), l2, bsome, decide_eq_true h2, if_neg (by decide), s_firstSung w hc hm.1 (MG_v hm) hmp.1, bsome, if_neg h3, bsome, s_lastSung w hc hm.1 (MG_v hm) hmp.1, bsome, ef, el, nI_1, sub2, if_neg (by rw [cle (by omega) (by omega)]; exact e)]
  · obtain ⟨a, b⟩ := out h
    exact ⟨-1, μ, μ, a, b, Sy.rf⟩
end
