/-! LAYER 2: leader, in the first program -/
def fo {σ : Type} (step : Nat → σ → σ) : Nat → Nat → σ → σ
  | 0, _, s => s
  | d + 1, lo, s => fo step d (lo + 1) (step lo s)
theorem fo_c {σ : Type} {f g : Nat → σ → σ} : ∀ (d lo : Nat) (s : σ), (∀ k s, lo ≤ k → k < lo + d → f k s = g k s) → fo f d lo s = fo g d lo s
  | 0, _, _, _ => rfl
  | d + 1, lo, s, h => by
    show fo f d (lo + 1) (f lo s) = fo g d (lo + 1) (g lo s)
    rw [h lo s (Nat.le_refl _) (by omega)]
    exact fo_c d (lo + 1) _ (fun k s h1 h2 => h k s (by omega) (by omega))
abbrev LO : Type := Option (Nat × Int)
def cns (o : LO) (G : Nat) (v : Int) : LO := match o with
  | none => some (G, v)
  | some (G', v') => if v < v' then some (G, v) else some (G', v')
theorem cns_s (o : LO) (G : Nat) (v : Int) : (cns o G v).isSome = true := by
  match o with
  | none => rfl
  | some (G', v') =>
    show (if v < v' then some (G, v) else some (G', v')).isSome = true
    split <;> rfl
def LG (o : LO) (μ : MM) : Prop := match o with
  | none => gI μ 34 3 = 0 ∧ gL μ 34 4 = 9223372036854775807
  | some (G, v) => gI μ 34 3 = nI G ∧ gL μ 34 4 = lI v ∧ 0 ≤ v ∧ v ≤ 10000000000
def P34 (x k : Nat) : Bool := x == 34 && (k == 3 || k == 4)
theorem lgl {x y : Int} (h1 : 0 ≤ x ∧ x ≤ 10000000000) (h2 : 0 ≤ y ∧ y ≤ 10000000000) : (lg_cmp (lI x) (lI y) < 0 ↔ x < y) ∧ (0 ≤ lg_cmp (lI x) (lI y) ↔ y ≤ x) ∧ (lg_cmp (lI x) (lI y) ≤ 0 ↔ x ≤ y) := by
  rw [lgc_lt, lgc_ge, lgc_le, lI_toInt (by omega) (by omega), lI_toInt (by omega) (by omega)]
  exact ⟨Iff.rfl, Iff.rfl, Iff.rfl⟩
theorem s_maxJJ {x y : Int} (h1 : 0 ≤ x ∧ x ≤ 10000000000) (h2 : 0 ≤ y ∧ y ≤ 10000000000) : f_Mt_max_JJ (lI x) (lI y) = some (lI (mx2 x y)) := by
  unfold f_Mt_max_JJ mx2
  by_cases e : x < y
  · rw [if_pos ((lgl h1 h2).1.mpr e), if_pos e]
  · rw [if_neg (fun q => e ((lgl h1 h2).1.mp q)), if_neg e]
theorem mx2_b {x y : Int} (h1 : 0 ≤ x ∧ x ≤ 10000000000) (h2 : 0 ≤ y ∧ y ≤ 10000000000) : 0 ≤ mx2 x y ∧ mx2 x y ≤ 10000000000 := by
  unfold mx2; split <;> omega
theorem s_consider {o : LO} {μ : MM} (w : Wf μ) (ho : LG o μ) {G : Nat} {v : Int} (hv : 0 ≤ v ∧ v ≤ 10000000000) : ∃ μ', f_Le_consider 34 (nI G) (lI v) μ = some μ' ∧ Sm P34 μ μ' ∧ LG (cns o G v) μ' := by
  have s1 : Sm P34 μ (sI μ 34 3 (nI G)) := Sm.sI rfl
  have s2 : Sm P34 μ (sL (sI μ 34 3 (nI G)) 34 4 (lI v)) := s1.tr (Sm.sL rfl)
  have take : ¬ 0 ≤ lg_cmp (lI v) (gL μ 34 4) → f_Le_consider 34 (nI G) (lI v) μ = some (sL (sI μ 34 3 (nI G)) 34 4 (lI v)) := fun e => by
    unfold f_Le_consider
    rw [kO_34 w, bsome, rL_34 w, bsome, if_neg e, pI_34 w, bsome, pL_34 (s1.wf w), bsome]
  have newg : gI (sL (sI μ 34 3 (nI G)) 34 4 (lI v)) 34 3 = nI G ∧ gL (sL (sI μ 34 3 (nI G)) 34 4 (lI v)) 34 4 = lI v := by
    refine ⟨?_, ?_⟩
    · rw [gI_sL, gI_sI, upd_s]
    · rw [gL_sL]; unfold vp_updL; rw [if_pos rfl]
  match o, ho with
  | none, ho =>
    refine ⟨_, take ?_, s2, newg.1, newg.2, hv⟩
    rw [ho.2, show (9223372036854775807 : Int64) = lI 9223372036854775807 from rfl, lgc_ge, lI_toInt (by omega) (by omega), lI_toInt (by omega) (by omega)]
    omega
  | some (G', v'), ho =>
    obtain ⟨h1, h2, h3⟩ := ho
    by_cases e : v < v'
    · refine ⟨_, take ?_, s2, ?_⟩
      · rw [h2, (lgl hv h3).2.1]; omega
      · show LG (if v < v' then some (G, v) else some (G', v')) _
        rw [if_pos e]; exact ⟨newg.1, newg.2, hv⟩
    · refine ⟨μ, ?_, Sm.rf, ?_⟩
      · unfold f_Le_consider
        rw [kO_34 w, bsome, rL_34 w, bsome, if_pos (by rw [h2, (lgl hv h3).2.1]; omega)]
      · show LG (if v < v' then some (G, v) else some (G', v')) _
        rw [if_neg e]; exact ⟨h1, h2, h3⟩
section
variable {tw : (Nat → Int32) → Nat → Int} {c : CT} {p : PT}
theorem ofa_b (ht : TWB tw) (hc : WC c) (hp' : WP p) (g : Nat) {b : Nat} (hb : b < 24) : 0 ≤ ofa tw c p g b ∧ ofa tw c p g b ≤ 10000000000 := by
  have := off_b hc hp' (t := 0) (sal_PB ht hc hp' (t := 0) (g := g) (pl := cP c) (nb := false)) hb
  exact iabs_b (by omega)
theorem Fr__b (ht : TWB tw) (hc : WC c) (hp' : WP p) {a e : Nat} (he : e ≤ 24) : 0 ≤ Fr_ tw c p a e ∧ Fr_ tw c p a e ≤ 10000000000 := by
  unfold Fr_
  exact ⟨mxr_0 _ _ _, mxr_b (by decide) _ (fun k hk => (ofa_b ht hc hp' _ (by omega)).2)⟩
theorem s_chart {μ : MM} (w : Wf μ) (hc : WC c) (hx : XG c μ) (hp' : WP p) (hxp : XC p μ) (ht : gI μ 24 10 = nI 0) {pit : Nat → Int} (hpit : XPit c p pit μ) (hpb : PBd c p pit) {a l : Nat} (hal : a ≤ l) (hl : l < 24) : ∃ μ', f_Le_chart 34 (nI a) (nI l) μ = some μ' ∧ Sm (Pc1 35) μ μ' ∧ (∀ k, a ≤ k → k ≤ l → gL μ' 35 (24 * a + k) = lI (mxr (fun b => iabs (off c p 0 pit b)) a (k + 1 - a))) ∧ ∀ j, (j < 24 * a ∨ 24 * a + 24 ≤ j) → gL μ' 35 j = gL μ 35 j := by
  have fb : ∀ b, b < 24 → 0 ≤ iabs (off c p 0 pit b) ∧ iabs (off c p 0 pit b) ≤ 10000000000 := fun b hb => by
    have := off_b hc hp' (t := 0) hpb hb
    exact iabs_b (by omega)
  have mb : ∀ n, a + n ≤ 24 → 0 ≤ mxr (fun b => iabs (off c p 0 pit b)) a n ∧ mxr (fun b => iabs (off c p 0 pit b)) a n ≤ 10000000000 := fun n hn =>
    ⟨mxr_0 _ _ _, mxr_b (by decide) _ (fun k hk => (fb _ (by omega)).2)⟩
  unfold f_Le_chart
  rw [kO_34 w, bsome]
  have go : ∀ (d n x : Nat) (m : MM), x + d = l + 1 → d < n → a ≤ x → Sm (Pc1 35) μ m → (∀ k, a ≤ k → k < x → gL m 35 (24 * a + k) = lI (mxr (fun b => iabs (off c p 0 pit b)) a (k + 1 - a))) → (∀ j, (j < 24 * a ∨ 24 * a + 24 ≤ j) → gL m 35 j = gL μ 35 j) → ∃ μ', f_Le_chart_L5 34 (nI a) (nI l) n (lI (mxr (fun b => iabs (off c p 0 pit b)) a (x - a))) (nI x) m = some μ' ∧ Sm (Pc1 35) μ μ' ∧ (∀ k, a ≤ k → k ≤ l → gL μ' 35 (24 * a + k) = lI (mxr (fun b => iabs (off c p 0 pit b)) a (k + 1 - a))) ∧ ∀ j, (j < 24 * a ∨ 24 * a + 24 ≤ j) → gL μ' 35 j = gL μ 35 j := by
    intro d
    induction d with
    | zero =>
      intro n x m hd hn hx1 s h1 h2
      obtain ⟨n, rfl⟩ : ∃ j, n = j + 1 := ⟨n - 1, by omega⟩
      exact ⟨m, by rw [e_Le_chart_L5, if_pos (by rw [clt (by omega) (by omega)]; omega)], s, fun k ha hk => h1 k ha (by omega), h2⟩
    | succ d ih =>
      intro n x m hd hn hx1 s h1 h2
      obtain ⟨n, rfl⟩ : ∃ j, n = j + 1 := ⟨n - 1, by omega⟩
      have wm := s.wf w
      have xgm := hx.sm s (fun a k h => Pc1_ne (fun e => by subst e; simp [Pcf] at h) k)
      have xcm : XC p m := hxp.sm s (fun _ => rfl) (fun _ => rfl) (fun _ => rfl) (fun _ => rfl)
      have hpm : XPit c p pit m := fun j b hj hb hs => by rw [s.gL 25 (fun _ => rfl)]; exact hpit j b hj hb hs
      have fx := fb x (by omega)
      have ox := off_b hc hp' (t := 0) hpb (show x < 24 by omega)
      have nxt : mx2 (mxr (fun b => iabs (off c p 0 pit b)) a (x - a)) (iabs (off c p 0 pit x)) = mxr (fun b => iabs (off c p 0 pit b)) a (x + 1 - a) := by
        rw [show x + 1 - a = (x - a) + 1 by omega]
        show mx2 _ _ = (if mxr (fun b => iabs (off c p 0 pit b)) a (x - a) < iabs (off c p 0 pit (a + (x - a))) then iabs (off c p 0 pit (a + (x - a))) else mxr (fun b => iabs (off c p 0 pit b)) a (x - a))
        rw [show a + (x - a) = x by omega]; rfl
      obtain ⟨m2, e2⟩ : ∃ y, y = sL m 35 (24 * a + x) (lI (mxr (fun b => iabs (off c p 0 pit b)) a (x + 1 - a))) := ⟨_, rfl⟩
      have s2 : Sm (Pc1 35) μ m2 := by rw [e2]; exact s.tr (Sm.sL Pc1_s)
      have g2 : ∀ j, gL m2 35 j = if j = 24 * a + x then lI (mxr (fun b => iabs (off c p 0 pit b)) a (x + 1 - a)) else gL m 35 j := fun j => by rw [e2, gL_sL]; rfl
      obtain ⟨μ', q1, q2⟩ := ih n (x + 1) m2 (by omega) (by omega) (by omega) s2 (fun k h3 h4 => by
        rw [g2]
        by_cases q : k = x
        · subst q; rw [if_pos rfl]
        · rw [if_neg (by omega)]; exact h1 k h3 (by omega)) (fun j hj => by rw [g2, if_neg (by omega)]; exact h2 j hj)
      refine ⟨μ', ?_, q2⟩
      rw [e_Le_chart_L5, if_neg (by rw [clt (by omega) (by omega)]; omega), rR_34_1 wm, bsome, s_off wm hc xgm hp' xcm (t := 0) (by rw [s.gI 24 (fun _ => rfl)]; exact ht) (by decide) hpm (by omega), bsome, s_absJ (by omega) (by omega), bsome, s_maxJJ (mb _ (by omega)) fx, nxt, bsome, rR_34_2 wm, bsome, cellN, uL_35 wm (by omega), bsome, nI_1]
      rw [e2] at q1
      exact q1
  have z := go (l + 1 - a) FU a μ (by omega) (by unfold FU; omega) (Nat.le_refl _) Sm.rf (fun k h1 h2 => absurd h2 (by omega)) (fun _ _ => rfl)
  rw [Nat.sub_self] at z
  exact z
/-- the charts as they stand -/
def CH (tw : (Nat → Int32) → Nat → Int) (c : CT) (p : PT) (f l x : Nat) (μ : MM) : Prop := ∀ a, (a = 0 ∨ (f < a ∧ a < x)) → ∀ k, a ≤ k → k ≤ l → gL μ 35 (24 * a + k) = lI (Fr_ tw c p a (k + 1))
def Pld (x k : Nat) : Bool := x == 35 || P34 x k || Psg x k
theorem Pld_35 (x k : Nat) (h : Pld x k = false) : Pc1 35 x k = false := by
  simp only [Pld, Bool.or_eq_false_iff] at h
  exact h.1.1
theorem Pld_34 (x k : Nat) (h : Pld x k = false) : P34 x k = false := by
  simp only [Pld, Bool.or_eq_false_iff] at h
  exact h.1.2
theorem Pld_sg (x k : Nat) (h : Pld x k = false) : Psg x k = false := (Bool.or_eq_false_iff.mp h).2
theorem P34_Pcf : ∀ a k, Pcf a k = true → P34 a k = false := by
  intro a k h
  by_cases e : a = 34
  · subst e; simp [Pcf] at h
  · simp [P34, e]
theorem P35_Pcf : ∀ a k, Pcf a k = true → Pc1 35 a k = false := by
  intro a k h
  by_cases e : a = 35
  · subst e; simp [Pcf] at h
  · simp [Pc1, e]
theorem s_far {μ : MM} (w : Wf μ) {f l : Nat} (hl : l < 24) (ch : CH tw c p f l (l + 1) μ) {a e : Nat} (ha : a = 0 ∨ (f < a ∧ a ≤ l)) (h1 : 1 ≤ e) (he : e ≤ l + 1) : f_Le_farthest 34 (nI a) (nI (e - 1)) μ = some (lI (Fr_ tw c p a e)) := by
  unfold f_Le_farthest
  rw [kO_34 w, bsome]
  by_cases q : a ≤ e - 1
  · rw [if_pos (by rw [cle (by omega) (by omega)]; exact q), rR_34_2 w, bsome, cellN, Nat.mul_comm, aL_35 w (by omega), bsome, Nat.mul_comm, ch a (by omega) (e - 1) q (by omega), show e - 1 + 1 = e by omega]
  · rw [if_neg (by rw [cle (by omega) (by omega)]; exact q)]
    unfold Fr_
    rw [show e - a = 0 by omega]; rfl
def VA (tw : (Nat → Int32) → Nat → Int) (c : CT) (p : PT) (l b d a : Nat) : Int := mx2 (mx2 (Fr_ tw c p 0 a) (Fr_ tw c p a b)) (mx2 (Fr_ tw c p b d) (Fr_ tw c p d (l + 1)))
def stA (tw : (Nat → Int32) → Nat → Int) (c : CT) (p : PT) (l b d a : Nat) (o : LO) : LO := cns o (2 ^ a ||| 2 ^ b ||| 2 ^ d) (VA tw c p l b d a)
def stB (tw : (Nat → Int32) → Nat → Int) (c : CT) (p : PT) (n f l d b : Nat) (o : LO) : LO := fo (stA tw c p l b d) (if n ≤ 2 then 1 else b - (f + 1)) (if n ≤ 2 then b else f + 1) o
def stC (tw : (Nat → Int32) → Nat → Int) (c : CT) (p : PT) (n f l d : Nat) (o : LO) : LO := fo (stB tw c p n f l d) (if n ≤ 1 then 1 else d - (f + 1)) (if n ≤ 1 then d else f + 1) o
theorem or3_nI {a b d : Nat} (ha : a < 24) (hb : b < 24) (hd : d < 24) : ((ishl (1 : Int32) (nI a)) ||| (ishl (1 : Int32) (nI b))) ||| (ishl (1 : Int32) (nI d)) = nI (2 ^ a ||| 2 ^ b ||| 2 ^ d) := by
  rw [ishl_1 a (by omega), ishl_1 b (by omega), ishl_1 d (by omega), nI_or, nI_or]
theorem CH.sm {f l x : Nat} {μ μ' : MM} (h : CH tw c p f l x μ) (s : Sm P34 μ μ') : CH tw c p f l x μ' := fun a ha k h1 h2 => by rw [s.gL 35 (fun _ => rfl)]; exact h a ha k h1 h2
theorem ldA (ht : TWB tw) (hc : WC c) (hp' : WP p) {f l : Nat} (hl : l < 24) (k100 k137 : Int32 → MM → Option MM) (x1 x5 : Int32) {b d : Nat} (hb : f < b) (hbd : b ≤ d) (hdl : d ≤ l) : ∀ (r n a : Nat) (o : LO) (μ : MM), r < n → f < a → a + r ≤ b + 1 → Wf μ → CH tw c p f l (l + 1) μ → LG o μ → ∃ μ', f_Le_find_L175 k100 k137 34 x1 (nI f) (nI l) (nI d) x5 (nI b) (nI (a + r - 1)) n (nI a) μ = k137 (nI (b + 1)) μ' ∧ Sm P34 μ μ' ∧ LG (fo (stA tw c p l b d) r a o) μ' := by
  intro r
  induction r with
  | zero =>
    intro n a o μ hn ha hab w ch lo
    obtain ⟨n, rfl⟩ : ∃ j, n = j + 1 := ⟨n - 1, by omega⟩
    exact ⟨μ, by rw [e_Le_find_L175, if_pos (by rw [clt (by omega) (by omega)]; omega), nI_1], Sm.rf, lo⟩
  | succ r ih =>
    intro n a o μ hn ha hab w ch lo
    obtain ⟨n, rfl⟩ : ∃ j, n = j + 1 := ⟨n - 1, by omega⟩
    have v1 := Fr__b ht hc hp' (a := 0) (e := a) (by omega)
    have v2 := Fr__b ht hc hp' (a := a) (e := b) (by omega)
    have v3 := Fr__b ht hc hp' (a := b) (e := d) (by omega)
    have v4 := Fr__b ht hc hp' (a := d) (e := l + 1) (by omega)
    obtain ⟨m1, q1, q2, q3⟩ := s_consider w lo (G := 2 ^ a ||| 2 ^ b ||| 2 ^ d) (v := VA tw c p l b d a) (mx2_b (mx2_b v1 v2) (mx2_b v3 v4))
    obtain ⟨μ', p1, p2, p3⟩ := ih n (a + 1) (stA tw c p l b d a o) m1 (by omega) (by omega) (by omega) (q2.wf w) (ch.sm q2) q3
    refine ⟨μ', ?_, q2.tr p2, p3⟩
    have f1 := s_far (a := 0) (e := a) w hl ch (Or.inl rfl) (by omega) (by omega)
    have f2 := s_far (a := a) (e := b) w hl ch (Or.inr ⟨ha, by omega⟩) (by omega) (by omega)
    have f3 := s_far (a := b) (e := d) w hl ch (Or.inr ⟨hb, by omega⟩) (by omega) (by omega)
    have f4 := s_far (a := d) (e := l + 1) w hl ch (Or.inr ⟨by omega, hdl⟩) (by omega) (by omega)
    have f1 : f_Le_farthest 34 (0 : Int32) (nI (a - 1)) μ = some (lI (Fr_ tw c p 0 a)) := f1
    rw [Nat.add_sub_cancel] at f4
    rw [e_Le_find_L175, if_neg (by rw [clt (by omega) (by omega)]; omega), nI_m1 (by omega), f1, bsome, nI_m1 (by omega), f2, bsome, s_maxJJ v1 v2, bsome, nI_m1 (by omega), f3, bsome, f4, bsome, s_maxJJ v3 v4, bsome, s_maxJJ (mx2_b v1 v2) (mx2_b v3 v4), bsome, or3_nI (by omega) (by omega) (by omega)]
    show (f_Le_consider 34 (nI (2 ^ a ||| 2 ^ b ||| 2 ^ d)) (lI (VA tw c p l b d a)) μ).bind _ = _
    rw [q1, bsome, nI_1, show a + (r + 1) - 1 = a + 1 + r - 1 by omega, p1]
theorem ldB (ht : TWB tw) (hc : WC c) (hp' : WP p) {f l n : Nat} (hn3 : n ≤ 3) (hl : l < 24) (k100 : Int32 → MM → Option MM) {d : Nat} (hdl : d ≤ l) : ∀ (r m b : Nat) (o : LO) (μ : MM), r < m → f < b → b + r ≤ d + 1 → Wf μ → CH tw c p f l (l + 1) μ → LG o μ → ∃ μ', f_Le_find_L137 k100 34 (nI n) (nI f) (nI l) (nI d) (nI (b + r - 1)) m (nI b) μ = k100 (nI (d + 1)) μ' ∧ Sm P34 μ μ' ∧ LG (fo (stB tw c p n f l d) r b o) μ' := by
  intro r
  induction r with
  | zero =>
    intro m b o μ hm hb hbd w ch lo
    obtain ⟨m, rfl⟩ : ∃ j, m = j + 1 := ⟨m - 1, by omega⟩
    exact ⟨μ, by rw [e_Le_find_L137, if_pos (by rw [clt (by omega) (by omega)]; omega), nI_1], Sm.rf, lo⟩
  | succ r ih =>
    intro m b o μ hm hb hbd w ch lo
    obtain ⟨m, rfl⟩ : ∃ j, m = j + 1 := ⟨m - 1, by omega⟩
    obtain ⟨m1, q1, q2, q3⟩ := ldA ht hc hp' hl k100 (f_Le_find_L137 k100 34 (nI n) (nI f) (nI l) (nI d) (nI (b + (r + 1) - 1)) m) (nI n) (nI (b + (r + 1) - 1)) (b := b) (d := d) hb (by omega) hdl (if n ≤ 2 then 1 else b - (f + 1)) FU (if n ≤ 2 then b else f + 1) o μ (by split <;> (unfold FU; omega)) (by split <;> omega) (by split <;> omega) w ch lo
    obtain ⟨μ', p1, p2, p3⟩ := ih m (b + 1) (stB tw c p n f l d b o) m1 (by omega) (by omega) (by omega) (q2.wf w) (ch.sm q2) q3
    refine ⟨μ', ?_, q2.tr p2, p3⟩
    have i2 : nI n ≤ (2 : Int32) ↔ n ≤ 2 := by rw [show (2 : Int32) = nI 2 from rfl, cle (by omega) (by omega)]
    have pre : f_Le_find_L137 k100 34 (nI n) (nI f) (nI l) (nI d) (nI (b + (r + 1) - 1)) (m + 1) (nI b) μ = f_Le_find_L175 k100 (f_Le_find_L137 k100 34 (nI n) (nI f) (nI l) (nI d) (nI (b + (r + 1) - 1)) m) 34 (nI n) (nI f) (nI l) (nI d) (nI (b + (r + 1) - 1)) (nI b) (nI ((if n ≤ 2 then b else f + 1) + (if n ≤ 2 then 1 else b - (f + 1)) - 1)) FU (nI (if n ≤ 2 then b else f + 1)) μ := by
      rw [e_Le_find_L137, if_neg (by rw [clt (by omega) (by omega)]; omega)]
      unfold f_Le_find_J158 f_Le_find_J173
      by_cases e : n ≤ 2
      · rw [if_pos (i2.mpr e), if_pos (i2.mpr e), if_pos e, if_pos e, Nat.add_sub_cancel]
      · rw [if_neg (fun q => e (i2.mp q)), if_neg (fun q => e (i2.mp q)), if_neg e, if_neg e, nI_1, nI_m1 (by omega), show f + 1 + (b - (f + 1)) - 1 = b - 1 by omega]
    rw [pre, q1, show b + (r + 1) - 1 = b + 1 + r - 1 by omega, p1]
theorem ldC (ht : TWB tw) (hc : WC c) (hp' : WP p) {f l n : Nat} (hn3 : n ≤ 3) (hl : l < 24) : ∀ (r m d : Nat) (o : LO) (μ : MM), r < m → f < d → d + r = l + 1 → Wf μ → CH tw c p f l (l + 1) μ → LG o μ → ∃ μ', f_Le_find_L100 34 (nI n) (nI f) (nI l) m (nI d) μ = some μ' ∧ Sm P34 μ μ' ∧ LG (fo (stC tw c p n f l) r d o) μ' := by
  intro r
  induction r with
  | zero =>
    intro m d o μ hm hd hdl w ch lo
    obtain ⟨m, rfl⟩ : ∃ j, m = j + 1 := ⟨m - 1, by omega⟩
    exact ⟨μ, by rw [e_Le_find_L100, if_pos (by rw [clt (by omega) (by omega)]; omega)], Sm.rf, lo⟩
  | succ r ih =>
    intro m d o μ hm hd hdl w ch lo
    obtain ⟨m, rfl⟩ : ∃ j, m = j + 1 := ⟨m - 1, by omega⟩
    obtain ⟨m1, q1, q2, q3⟩ := ldB ht hc hp' hn3 hl (f_Le_find_L100 34 (nI n) (nI f) (nI l) m) (d := d) (by omega) (if n ≤ 1 then 1 else d - (f + 1)) FU (if n ≤ 1 then d else f + 1) o μ (by split <;> (unfold FU; omega)) (by split <;> omega) (by split <;> omega) w ch lo
    obtain ⟨μ', p1, p2, p3⟩ := ih m (d + 1) (stC tw c p n f l d o) m1 (by omega) (by omega) (by omega) (q2.wf w) (ch.sm q2) q3
    refine ⟨μ', ?_, q2.tr p2, p3⟩
    have i1 : nI n ≤ (1 : Int32) ↔ n ≤ 1 := by rw [show (1 : Int32) = nI 1 from rfl, cle (by omega) (by omega)]
    have pre : f_Le_find_L100 34 (nI n) (nI f) (nI l) (m + 1) (nI d) μ = f_Le_find_L137 (f_Le_find_L100 34 (nI n) (nI f) (nI l) m) 34 (nI n) (nI f) (nI l) (nI d) (nI ((if n ≤ 1 then d else f + 1) + (if n ≤ 1 then 1 else d - (f + 1)) - 1)) FU (nI (if n ≤ 1 then d else f + 1)) μ := by
      rw [e_Le_find_L100, if_neg (by rw [clt (by omega) (by omega)]; omega)]
      unfold f_Le_find_J120 f_Le_find_J135
      by_cases e : n ≤ 1
      · rw [if_pos (i1.mpr e), if_pos (i1.mpr e), if_pos e, if_pos e, Nat.add_sub_cancel]
      · rw [if_neg (fun q => e (i1.mp q)), if_neg (fun q => e (i1.mp q)), if_neg e, if_neg e, nI_1, nI_m1 (by omega), show f + 1 + (d - (f + 1)) - 1 = d - 1 by omega]
    rw [pre, q1, p1]
/-- all givings of one beat are sung and charted -/
theorem ldS (hc : WC c) (hp' : WP p) {f l : Nat} (hl : l < 24) (x1 : Int32) : ∀ (r m b : Nat) (μ : MM), r < m → f < b → b + r = l + 1 → XW tw c p μ → CH tw c p f l b μ → ∃ μ2 μ', f_Le_find_L44 34 x1 (nI f) (nI l) m (nI b) μ = f_Le_find_L100 34 x1 (nI f) (nI l) FU (nI (f + 1)) μ2 ∧ Sy Pld μ μ' ∧ CH tw c p f l (l + 1) μ' ∧ XW tw c p μ' ∧ Sm P34 μ' μ2 ∧ LG none μ2 := by
  intro r
  induction r with
  | zero =>
    intro m b μ hm hb hbl xw ch
    obtain ⟨m, rfl⟩ : ∃ j, m = j + 1 := ⟨m - 1, by omega⟩
    have w := xw.1
    have s1 : Sm P34 μ (sI μ 34 3 0) := Sm.sI rfl
    have s2 : Sm P34 μ (sL (sI μ 34 3 0) 34 4 9223372036854775807) := s1.tr (Sm.sL rfl)
    refine ⟨_, μ, ?_, Sy.rf, fun a ha k h1 h2 => ch a (by omega) k h1 h2, xw, s2, ?_, ?_⟩
    · rw [e_Le_find_L44, if_pos (by rw [clt (by omega) (by omega)]; omega), pI_34 w, bsome, pL_34 (s1.wf w), bsome, nI_1]
    · rw [gI_sL, gI_sI, upd_s]
    · rw [gL_sL]; unfold vp_updL; rw [if_pos rfl]
  | succ r ih =>
    intro m b μ hm hb hbl xw ch
    obtain ⟨m, rfl⟩ : ∃ j, m = j + 1 := ⟨m - 1, by omega⟩
    obtain ⟨w, hx, hxp, htx⟩ := xw
    have gb : (2 : Nat) ^ b < 16777216 := Nat.lt_of_lt_of_le (Nat.pow_lt_pow_right (by decide) (show b < 24 by omega)) (by decide)
    obtain ⟨m1, q1, q2, q3, q4⟩ := s_sing hc hp' (t := 0) (by decide) (g := 2 ^ b) gb (pl := cP c) (fun j hj => (hc.2.1 j hj).2.1) (nb := false) w hx hxp htx (q := 11) (Or.inl rfl) (fun j hj => (hx.2.2.2.2.1 j hj).2.1)
    have q1 : f_Si_sing 24 11 (nI (2 ^ b)) 0 0 μ = some m1 := q1
    obtain ⟨w1, xg1, xp1, t1, -, g10, -⟩ := q4
    obtain ⟨m2, p1, p2, p3, p4⟩ := s_chart w1 hc xg1 hp' xp1.1 g10 (XS_pit t1.1 hc hp' q3) (sal_PB t1.1 hc hp') (a := b) (l := l) (by omega) hl
    have g35 : gL m1 35 = gL μ 35 := q2.gL 35 (fun _ => rfl)
    have gs : gst b = 2 ^ b := if_neg (by omega)
    have xw2 : XW tw c p m2 := ⟨p2.wf w1, xg1.sm p2 P35_Pcf, xp1.sm p2 (fun a k h1 h2 => by simp [Pc1]; omega), t1.ts (TS.sm p2 (fun a k h => by
      by_cases e : a = 35
      · subst e; simp [tcl] at h
      · simp [Pc1, e]))⟩
    have ch2 : CH tw c p f l (b + 1) m2 := fun a ha k h1 h2 => by
      by_cases e : a = b
      · subst e
        rw [p3 k h1 h2]
        unfold Fr_
        rw [gs]; rfl
      · rw [p4 _ (by omega), g35]; exact ch a (by omega) k h1 h2
    obtain ⟨μ2, μ', v1, v2, v3⟩ := ih m (b + 1) m2 (by omega) (by omega) (by omega) xw2 ch2
    refine ⟨μ2, μ', ?_, ((q2.mono Pld_sg).tr (Sy.of (p2.mono Pld_35))).tr v2, v3⟩
    rw [e_Le_find_L44, if_neg (by rw [clt (by omega) (by omega)]; omega), rR_34_1 w, bsome, rR_34_0 w, bsome, rR_9_2 w, bsome, ishl_1 b (by omega), q1, bsome, p1, bsome, nI_1, v1]
theorem s_Lefind (ht : TWB tw) (hc : WC c) (hp' : WP p) {f l n : Nat} (hn3 : n ≤ 3) (hf : fbt c p = nI f) (hlb : lbg c p = nI l) (hfl : f ≤ l) (hl : l < 24) {μ : MM} (xw : XW tw c p μ) : ∃ μ', f_Le_find 34 (nI n) μ = some μ' ∧ Sy Pld μ μ' ∧ LG (fo (stC tw c p n f l) (l - f) (f + 1) none) μ' ∧ Wf μ' := by
  obtain ⟨w, hx, hxp, htx⟩ := xw
  obtain ⟨m1, q1, q2, q3, q4⟩ := s_sing hc hp' (t := 0) (by decide) (g := 0) (by decide) (pl := cP c) (fun j hj => (hc.2.1 j hj).2.1) (nb := false) w hx hxp htx (q := 11) (Or.inl rfl) (fun j hj => (hx.2.2.2.2.1 j hj).2.1)
  have q1 : f_Si_sing 24 11 0 0 0 μ = some m1 := q1
  obtain ⟨w1, xg1, xp1, t1, -, g10, -⟩ := q4
  obtain ⟨m2, p1, p2, p3, p4⟩ := s_chart w1 hc xg1 hp' xp1.1 g10 (XS_pit t1.1 hc hp' q3) (sal_PB t1.1 hc hp') (a := 0) (l := l) (by omega) hl
  have p1 : f_Le_chart 34 (0 : Int32) (nI l) m1 = some m2 := p1
  have xw2 : XW tw c p m2 := ⟨p2.wf w1, xg1.sm p2 P35_Pcf, xp1.sm p2 (fun a k h1 h2 => by simp [Pc1]; omega), t1.ts (TS.sm p2 (fun a k h => by
    by_cases e : a = 35
    · subst e; simp [tcl] at h
    · simp [Pc1, e]))⟩
  have ch2 : CH tw c p f l (f + 1) m2 := fun a ha k h1 h2 => by
    have : a = 0 := by omega
    subst this
    rw [p3 k h1 h2]; rfl
  obtain ⟨m3, m4, v1, v2, v3, v4, v5, v6⟩ := ldS hc hp' hl (nI n) (l - f) FU (f + 1) m2 (by unfold FU; omega) (by omega) (by omega) xw2 ch2
  have w4 := v4.1
  obtain ⟨μ', y1, y2, y3⟩ := ldC ht hc hp' hn3 hl (l - f) FU (f + 1) none m3 (by unfold FU; omega) (by omega) (by omega) (v5.wf w4) (v3.sm v5) v6
  have s34 : Sm P34 m4 μ' := v5.tr y2
  refine ⟨μ', ?_, ((q2.mono Pld_sg).tr (Sy.of (p2.mono Pld_35))).tr (v2.tr (Sy.of (s34.mono Pld_34))), y3, s34.wf w4⟩
  unfold f_Le_find
  rw [kO_34 w, bsome, rR_34_0 w, bsome, s_firstBeat w hc hx hxp.1, hf, bsome, bsome, s_lastBeatC w hc hx hxp.1, hlb, bsome, rR_34_1 w, bsome, bsome, rR_9_2 w, bsome, q1, bsome, p1, bsome, nI_1, v1, y1]
end
