/-! LAYER 2: ways, in the first program: rows of keynotes -/
def fI (o : Option Int) : Int32 := match o with
  | none => 2147483647
  | some v => oI v
def Bd (o : Option Int) : Prop := ∀ v, o = some v → -2147483647 ≤ v ∧ v < 2147483647
theorem fI_i {o : Option Int} (h : Bd o) : (fI o).toInt = match o with | none => 2147483647 | some v => v := by
  cases o with
  | none => rfl
  | some v =>
    have := h v rfl
    show (oI v).toInt = v
    exact oI_toInt (by omega) (by omega)
theorem fI_eq {a b : Option Int} (ha : Bd a) (hb : Bd b) : fI a = fI b ↔ a = b := by
  constructor
  · intro h
    have := congrArg Int32.toInt h
    rw [fI_i ha, fI_i hb] at this
    cases a with
    | none =>
      cases b with
      | none => rfl
      | some y => have := hb y rfl; simp only [] at *; omega
    | some x =>
      have hx := ha x rfl
      cases b with
      | none => simp only [] at *; omega
      | some y => simp only [] at *; rw [this]
  · intro h; rw [h]
theorem fI_far {a : Option Int} (ha : Bd a) : fI a = (2147483647 : Int32) ↔ a = none := fI_eq (b := none) ha (fun v h => by cases h)
theorem fI_min {a b : Option Int} (ha : Bd a) (hb : Bd b) : f_Mt_min (fI a) (fI b) = some (fI (om a b)) := by
  unfold f_Mt_min
  cases a with
  | none =>
    cases b with
    | none => rfl
    | some y =>
      have := hb y rfl
      rw [if_pos (by rw [toInt_lt, fI_i hb, fI_i ha]; exact this.2)]; rfl
  | some x =>
    have hx := ha x rfl
    cases b with
    | none =>
      rw [if_neg (by rw [toInt_lt, fI_i hb, fI_i ha]; show ¬ (2147483647 : Int) < x; omega)]; rfl
    | some y =>
      show _ = some (fI (some (if y < x then y else x)))
      by_cases q : y < x
      · rw [if_pos (by rw [toInt_lt, fI_i hb, fI_i ha]; exact q), if_pos q]
      · rw [if_neg (by rw [toInt_lt, fI_i hb, fI_i ha]; exact q), if_neg q]
theorem om_bd {a b : Option Int} (ha : Bd a) (hb : Bd b) : Bd (om a b) := fun v h => by
  cases a with
  | none => exact hb v h
  | some x =>
    cases b with
    | none => exact ha v h
    | some y =>
      have h : some (if y < x then y else x) = some v := h
      have := Option.some.inj h
      have h1 := ha x rfl
      have h2 := hb y rfl
      split at this <;> omega
def Pwy (x _k : Nat) : Bool := decide (92 ≤ x)
theorem Pwy_y {x k : Nat} (h : 92 ≤ x) : Pwy x k = true := decide_eq_true h
theorem Pwy_n {x k : Nat} (h : x < 92) : Pwy x k = false := decide_eq_false (by omega)
theorem rx3 {b k : Nat} : nI b * (300 : Int32) + nI k = nI (300 * b + k) := by rw [show (300 : Int32) = nI 300 from rfl, pk_mul, nI_add, Nat.mul_comm]
theorem rx30 {b : Nat} : nI b * (300 : Int32) = nI (300 * b) := by rw [show (300 : Int32) = nI 300 from rfl, pk_mul, Nat.mul_comm]
theorem rx7 {b k : Nat} : nI b * (7 : Int32) + nI k = nI (7 * b + k) := by rw [show (7 : Int32) = nI 7 from rfl, pk_mul, nI_add, Nat.mul_comm]
theorem cpA {μ : MM} {a b na nb sp dp n : Nat} (ha : μ.1[a]? = some (1, na)) (hb : μ.1[b]? = some (1, nb)) (h1 : sp + n ≤ na) (h2 : dp + n ≤ nb) (h3 : na < 2 ^ 31) (h4 : nb < 2 ^ 31) : cpI μ a (nI sp) b (nI dp) (nI n) = some (sF μ b (va_cpy (gI μ a) (gI μ b) sp dp n)) := by
  unfold cpI
  rw [ha, hb]
  show (if _ then _ else _) = _
  rw [if_neg, nI_clamp (by omega), nI_clamp (by omega), nI_clamp (by omega)]
  rw [nI_clamp (by omega), nI_clamp (by omega), nI_clamp (by omega)]
  intro q
  rcases q with q | q | q | q | q
  · exact nI_pos (by omega) q
  · exact nI_pos (by omega) q
  · exact nI_pos (by omega) q
  · omega
  · omega
/-- a row, as it lies there -/
def Rw (b n : Nat) (f : Nat → Int) (μ : MM) : Prop := gI μ 95 b = nI n ∧ n ≤ 300 ∧ (∀ k, k < n → gI μ 93 (300 * b + k) = oI (f k)) ∧ (∀ i j, i < j → j < n → f i < f j) ∧ ∀ k, k < n → -500000000 ≤ f k ∧ f k ≤ 500000000
theorem Rw.c {b n : Nat} {f : Nat → Int} {μ μ' : MM} (h : Rw b n f μ) (g95 : gI μ' 95 b = gI μ 95 b) (g93 : ∀ k, k < 300 → gI μ' 93 (300 * b + k) = gI μ 93 (300 * b + k)) : Rw b n f μ' := by
  obtain ⟨h1, h2, h3, h4, h5⟩ := h
  exact ⟨by rw [g95]; exact h1, h2, fun k hk => by rw [g93 k (by omega)]; exact h3 k hk, h4, h5⟩
def Psp (b x k : Nat) : Bool := x == 96 || (x == 93 && (decide (300 * b ≤ k) && decide (k < 300 * b + 300))) || (x == 95 && k == b)
theorem Psp_w {b : Nat} (x k : Nat) (h : Pwy x k = false) : Psp b x k = false := by
  have : x < 92 := by
    have := of_decide_eq_false h
    omega
  have n1 : ¬ x = 96 := by omega
  have n2 : ¬ x = 93 := by omega
  have n3 : ¬ x = 95 := by omega
  simp [Psp, n1, n2, n3]
/-- two rows into one -/
def MGI (nx : Nat) (x : Nat → Int) (s : Int) (ny : Nat) (y : Nat → Int) (i j n : Nat) (m : Nat → Int) : Prop := n ≤ 300 ∧ i ≤ nx ∧ j ≤ ny ∧ (∀ a b, a < b → b < n → m a < m b) ∧ (∀ k, k < n → (∃ a, a < nx ∧ m k = x a + s) ∨ ∃ a, a < ny ∧ m k = y a) ∧ (∀ a, a < i → ∃ k, k < n ∧ m k = x a + s) ∧ (∀ a, a < j → ∃ k, k < n ∧ m k = y a) ∧ (∀ k, k < n → i < nx → m k < x i + s) ∧ ∀ k, k < n → j < ny → m k < y j
def uM (m : Nat → Int) (n : Nat) (v : Int) : Nat → Int := fun k => if k = n then v else m k
theorem uM_s {m : Nat → Int} {n : Nat} {v : Int} : uM m n v n = v := if_pos rfl
theorem uM_o {m : Nat → Int} {n k : Nat} {v : Int} (h : ¬ k = n) : uM m n v k = m k := if_neg h
theorem MGI_s {nx : Nat} {x : Nat → Int} {s : Int} {ny : Nat} {y : Nat → Int} {i j n : Nat} {m : Nat → Int} (hx : ∀ a b, a < b → b < nx → x a < x b) (hy : ∀ a b, a < b → b < ny → y a < y b) (h : MGI nx x s ny y i j n m) (hn : n < 300) {v : Int} {i' j' : Nat} (hv : (i < nx ∧ v = x i + s) ∨ (j < ny ∧ v = y j)) (hi : (i < nx ∧ v = x i + s ∧ i' = i + 1) ∨ (¬ (i < nx ∧ v = x i + s) ∧ i' = i)) (hj : (j < ny ∧ v = y j ∧ j' = j + 1) ∨ (¬ (j < ny ∧ v = y j) ∧ j' = j)) (l1 : i < nx → v ≤ x i + s) (l2 : j < ny → v ≤ y j) : MGI nx x s ny y i' j' (n + 1) (uM m n v) := by
  obtain ⟨h1, h2, h3, h4, h5, h6, h7, h8, h9⟩ := h
  have below : ∀ k, k < n → m k < v := fun k hk => by
    rcases hv with ⟨a, b⟩ | ⟨a, b⟩
    · rw [b]; exact h8 k hk a
    · rw [b]; exact h9 k hk a
  refine ⟨by omega, by omega, by omega, fun a b hab hb => ?_, fun k hk => ?_, fun a ha => ?_, fun a ha => ?_, fun k hk hi' => ?_, fun k hk hj' => ?_⟩
  · by_cases q : b = n
    · subst q
      rw [uM_s, uM_o (by omega)]; exact below a hab
    · rw [uM_o q, uM_o (by omega)]; exact h4 a b hab (by omega)
  · by_cases q : k = n
    · subst q
      rw [uM_s]
      rcases hv with ⟨a, b⟩ | ⟨a, b⟩
      · exact Or.inl ⟨i, a, b⟩
      · exact Or.inr ⟨j, a, b⟩
    · rw [uM_o q]; exact h5 k (by omega)
  · by_cases q : a < i
    · obtain ⟨k, k1, k2⟩ := h6 a q
      exact ⟨k, by omega, by rw [uM_o (by omega)]; exact k2⟩
    · rcases hi with ⟨e1, e2, e3⟩ | ⟨e1, e2⟩
      · have : a = i := by omega
        subst this
        exact ⟨n, by omega, by rw [uM_s]; exact e2⟩
      · omega
  · by_cases q : a < j
    · obtain ⟨k, k1, k2⟩ := h7 a q
      exact ⟨k, by omega, by rw [uM_o (by omega)]; exact k2⟩
    · rcases hj with ⟨e1, e2, e3⟩ | ⟨e1, e2⟩
      · have : a = j := by omega
        subst this
        exact ⟨n, by omega, by rw [uM_s]; exact e2⟩
      · omega
  · have vlt : v < x i' + s := by
      rcases hi with ⟨e1, e2, e3⟩ | ⟨e1, e2⟩
      · have := hx i i' (by omega) hi'; omega
      · have := l1 (by omega)
        have hne : ¬ v = x i + s := fun z => e1 ⟨by omega, z⟩
        rw [e2]; omega
    by_cases q : k = n
    · subst q; rw [uM_s]; exact vlt
    · rw [uM_o q]
      have := below k (by omega)
      omega
  · have vlt : v < y j' := by
      rcases hj with ⟨e1, e2, e3⟩ | ⟨e1, e2⟩
      · have := hy j j' (by omega) hj'; omega
      · have := l2 (by omega)
        have hne : ¬ v = y j := fun z => e1 ⟨by omega, z⟩
        rw [e2]; omega
    by_cases q : k = n
    · subst q; rw [uM_s]; exact vlt
    · rw [uM_o q]
      have := below k (by omega)
      omega
theorem s_spread {b nx ny : Nat} {x y : Nat → Int} {s : Int} (hb : 0 < b) (hb2 : b < 24) (hs : -21000000 ≤ s ∧ s ≤ 21000000) {μ : MM} (w : Ww μ) (rx : Rw (b - 1) nx x μ) (ry : Rw b ny y μ) (hxs : ∀ k, k < nx → -500000000 ≤ x k + s ∧ x k + s ≤ 500000000) : ∃ r μ', f_Wa_spread 92 (nI b) (oI s) μ = some (r, μ') ∧ Sm (Psp b) μ μ' ∧ ((r = 1 ∧ ∃ n f, Rw b n f μ' ∧ (∀ z, (∃ k, k < n ∧ f k = z) ↔ ((∃ a, a < nx ∧ x a + s = z) ∨ ∃ a, a < ny ∧ y a = z))) ∨ (r = 0 ∧ ∃ f : Nat → Int, (∀ i j, i < j → j < 301 → ¬ f i = f j) ∧ ∀ k, k < 301 → ((∃ a, a < nx ∧ x a + s = f k) ∨ ∃ a, a < ny ∧ y a = f k))) := by
  obtain ⟨x1, x2, x3, x4, x5⟩ := rx
  obtain ⟨y1, y2, y3, y4, y5⟩ := ry
  have bi : ∀ i, Bd (if i < nx then some (x i + s) else none) := fun i v h => by
    split at h
    · cases h; have := hxs i (by assumption); omega
    · cases h
  have bj : ∀ j, Bd (if j < ny then some (y j) else none) := fun j v h => by
    split at h
    · cases h; have := y5 j (by assumption); omega
    · cases h
  -- the end
  have fin : ∀ (i j n : Nat) (m : Nat → Int) (μ1 : MM), Sm (Pc1 96) μ μ1 → (∀ k, k < n → gI μ1 96 k = oI (m k)) → MGI nx x s ny y i j n m → (n = 300 ∨ (nx ≤ i ∧ ny ≤ j)) → ∃ r μ', f_Wa_spread_J179 92 (nI b) (nI (300 * b)) (nI i) (nI j) (nI n) μ1 = some (r, μ') ∧ Sm (Psp b) μ μ' ∧ ((r = 1 ∧ ∃ n f, Rw b n f μ' ∧ (∀ z, (∃ k, k < n ∧ f k = z) ↔ ((∃ a, a < nx ∧ x a + s = z) ∨ ∃ a, a < ny ∧ y a = z))) ∨ (r = 0 ∧ ∃ f : Nat → Int, (∀ i j, i < j → j < 301 → ¬ f i = f j) ∧ ∀ k, k < 301 → ((∃ a, a < nx ∧ x a + s = f k) ∨ ∃ a, a < ny ∧ y a = f k))) := by
    intro i j n m μ1 s1 hm inv hend
    obtain ⟨h1, h2, h3, h4, h5, h6, h7, h8, h9⟩ := inv
    have w1 := s1.ww w
    have s1' : Sm (Psp b) μ μ1 := s1.mono (fun x k hx => by
      simp only [Psp, Bool.or_eq_false_iff] at hx
      simp only [Pc1]
      exact hx.1.1)
    have g95 : gI μ1 95 = gI μ 95 := s1.gI 95 (fun _ => rfl)
    have big : ∀ v, ((∃ a, a < nx ∧ x a + s = v) ∨ ∃ a, a < ny ∧ y a = v) → (∀ k, k < n → m k < v) → n = 300 → ∃ f : Nat → Int, (∀ i j, i < j → j < 301 → ¬ f i = f j) ∧ ∀ k, k < 301 → ((∃ a, a < nx ∧ x a + s = f k) ∨ ∃ a, a < ny ∧ y a = f k) := fun v hv hlt hn => by
      subst hn
      refine ⟨uM m 300 v, fun i j hij hj e => ?_, fun k hk => ?_⟩
      · by_cases q : j = 300
        · subst q
          rw [uM_s, uM_o (by omega)] at e
          have := hlt i hij
          omega
        · rw [uM_o q, uM_o (by omega)] at e
          have := h4 i j hij (by omega)
          omega
      · by_cases q : k = 300
        · subst q; rw [uM_s]; exact hv
        · rw [uM_o q]
          rcases h5 k (by omega) with ⟨a, a1, a2⟩ | ⟨a, a1, a2⟩
          · exact Or.inl ⟨a, a1, a2.symm⟩
          · exact Or.inr ⟨a, a1, a2.symm⟩
    unfold f_Wa_spread_J179
    rw [rR_92_3 w1, bsome, nI_m1 hb, aI_95 w1 (by omega), bsome, g95, x1]
    by_cases c1 : i < nx
    · refine ⟨0, μ1, by rw [if_pos (by rw [clt (by omega) (by omega)]; exact c1)], s1', Or.inr ⟨rfl, big _ (Or.inl ⟨i, c1, rfl⟩) (fun k hk => h8 k hk c1) (by omega)⟩⟩
    · rw [if_neg (by rw [clt (by omega) (by omega)]; exact c1), bsome, aI_95 w1 hb2, bsome, g95, y1]
      by_cases c2 : ny ≤ j
      · rw [if_pos (by rw [cle (by omega) (by omega)]; exact c2), rR_92_4 w1, bsome, rR_92_1 w1, bsome, show (0 : Int32) = nI 0 from rfl, cpA (w1.k 4 (by decide) rfl) (w1.k 1 (by decide) rfl) (by omega) (by omega) (by decide) (by decide), bsome]
        obtain ⟨μ2, e2⟩ : ∃ z, z = sF μ1 93 (va_cpy (gI μ1 96) (gI μ1 93) 0 (300 * b) n) := ⟨_, rfl⟩
        have w2 : Ww μ2 := by rw [e2]; exact ⟨w1.1, w1.2⟩
        have g2 : ∀ k, gI μ2 93 k = if 300 * b ≤ k ∧ k < 300 * b + n then gI μ1 96 (0 + (k - 300 * b)) else gI μ1 93 k := fun k => by rw [e2, gI_sF]; rfl
        obtain ⟨μ3, e3⟩ : ∃ z, z = sI μ2 95 b (nI n) := ⟨_, rfl⟩
        have s2 : Sm (Psp b) μ μ3 := by
          refine ⟨by rw [e3, e2]; exact s1.1, by rw [e3, e2]; exact s1.2.1, fun c k hk => ?_⟩
          have hk' := hk
          simp only [Psp, Bool.or_eq_false_iff, Bool.and_eq_false_iff] at hk'
          obtain ⟨⟨n1, n2⟩, n3⟩ := hk'
          have b1 := (s1'.2.2 c k hk)
          refine ⟨?_, ?_⟩
          · by_cases q : c = 95
            · subst q
              rw [e3, gI_sI, upd_o (by
                rcases n3 with z | z
                · simp at z
                · simpa using z), e2, gI_sF_ne (by decide)]
              exact b1.1
            · rw [e3, gI_sI_ne q]
              by_cases q2 : c = 93
              · subst q2
                rw [g2, if_neg (fun z => by
                  rcases n2 with n2 | n2
                  · simp at n2
                  · rcases n2 with n2 | n2
                    · have := of_decide_eq_false n2; omega
                    · have := of_decide_eq_false n2; omega)]
                exact b1.1
              · rw [e2, gI_sF_ne q2]; exact b1.1
          · rw [e3, e2]; exact b1.2
        refine ⟨1, μ3, ?_, s2, Or.inl ⟨rfl, n, m, ⟨by rw [e3, gI_sI, upd_s], h1, fun k hk => ?_, h4, fun k hk => ?_⟩, fun z => ?_⟩⟩
        · rw [← e2, rR_92_3 w2, bsome, uI_95 w2 hb2, bsome, ← e3]
        · rw [e3, gI_sI_ne (by decide), g2, if_pos ⟨by omega, by omega⟩, show 0 + (300 * b + k - 300 * b) = k by omega]
          exact hm k hk
        · rcases h5 k hk with ⟨a, a1, a2⟩ | ⟨a, a1, a2⟩
          · rw [a2]; exact hxs a a1
          · rw [a2]; exact y5 a a1
        · constructor
          · rintro ⟨k, k1, k2⟩
            rcases h5 k k1 with ⟨a, a1, a2⟩ | ⟨a, a1, a2⟩
            · exact Or.inl ⟨a, a1, by rw [← a2]; exact k2⟩
            · exact Or.inr ⟨a, a1, by rw [← a2]; exact k2⟩
          · rintro (⟨a, a1, a2⟩ | ⟨a, a1, a2⟩)
            · obtain ⟨k, k1, k2⟩ := h6 a (by omega)
              exact ⟨k, k1, by rw [k2]; exact a2⟩
            · obtain ⟨k, k1, k2⟩ := h7 a (by omega)
              exact ⟨k, k1, by rw [k2]; exact a2⟩
      · refine ⟨0, μ1, by rw [if_neg (by rw [cle (by omega) (by omega)]; exact c2)], s1', Or.inr ⟨rfl, big _ (Or.inr ⟨j, by omega, rfl⟩) (fun k hk => h9 k hk (by omega)) (by omega)⟩⟩
  have go : ∀ (d g i j n : Nat) (m : Nat → Int) (μ1 : MM), n + d = 300 → d < g → Sm (Pc1 96) μ μ1 → (∀ k, k < n → gI μ1 96 k = oI (m k)) → MGI nx x s ny y i j n m → ∃ r μ', f_Wa_spread_L24 92 (nI b) (oI s) (nI (300 * (b - 1))) (nI (300 * b)) g (nI i) (nI j) (nI n) μ1 = some (r, μ') ∧ Sm (Psp b) μ μ' ∧ ((r = 1 ∧ ∃ n f, Rw b n f μ' ∧ (∀ z, (∃ k, k < n ∧ f k = z) ↔ ((∃ a, a < nx ∧ x a + s = z) ∨ ∃ a, a < ny ∧ y a = z))) ∨ (r = 0 ∧ ∃ f : Nat → Int, (∀ i j, i < j → j < 301 → ¬ f i = f j) ∧ ∀ k, k < 301 → ((∃ a, a < nx ∧ x a + s = f k) ∨ ∃ a, a < ny ∧ y a = f k))) := by
    intro d
    induction d with
    | zero =>
      intro g i j n m μ1 hn hg s1 hm inv
      obtain ⟨g, rfl⟩ : ∃ z, g = z + 1 := ⟨g - 1, by omega⟩
      have : n = 300 := by omega
      subst this
      rw [e_Wa_spread_L24, if_pos (by decide)]
      exact fin i j 300 m μ1 s1 hm inv (Or.inl rfl)
    | succ d ih =>
      intro g i j n m μ1 hn hg s1 hm inv
      obtain ⟨g, rfl⟩ : ∃ z, g = z + 1 := ⟨g - 1, by omega⟩
      have w1 := s1.ww w
      have g95 : gI μ1 95 = gI μ 95 := s1.gI 95 (fun _ => rfl)
      have g93 : gI μ1 93 = gI μ 93 := s1.gI 93 (fun _ => rfl)
      have ii := inv.2.1
      have jj := inv.2.2.1
      rw [e_Wa_spread_L24, if_neg (by rw [show (300 : Int32) = nI 300 from rfl, cle (by omega) (by omega)]; omega), rR_92_3 w1, bsome, nI_m1 hb, aI_95 w1 (by omega), bsome, g95, x1, bsome, aI_95 w1 hb2, bsome, g95, y1]
      by_cases c : i < nx ∨ j < ny
      · have fold : (if nI i < nI nx then f_Wa_spread_J56 (f_Wa_spread_L24 92 (nI b) (oI s) (nI (300 * (b - 1))) (nI (300 * b)) g) 92 (nI b) (oI s) (nI (300 * (b - 1))) (nI (300 * b)) (nI i) (nI j) (nI n) μ1 else if nI ny ≤ nI j then f_Wa_spread_J179 92 (nI b) (nI (300 * b)) (nI i) (nI j) (nI n) μ1 else f_Wa_spread_J56 (f_Wa_spread_L24 92 (nI b) (oI s) (nI (300 * (b - 1))) (nI (300 * b)) g) 92 (nI b) (oI s) (nI (300 * (b - 1))) (nI (300 * b)) (nI i) (nI j) (nI n) μ1) = f_Wa_spread_J56 (f_Wa_spread_L24 92 (nI b) (oI s) (nI (300 * (b - 1))) (nI (300 * b)) g) 92 (nI b) (oI s) (nI (300 * (b - 1))) (nI (300 * b)) (nI i) (nI j) (nI n) μ1 := by
          by_cases q : i < nx
          · rw [if_pos (by rw [clt (by omega) (by omega)]; exact q)]
          · rw [if_neg (by rw [clt (by omega) (by omega)]; exact q), if_neg (by rw [cle (by omega) (by omega)]; omega)]
        rw [fold]
        obtain ⟨mv, hmv⟩ : ∃ z, z = (if i < nx then some (x i + s) else none) := ⟨_, rfl⟩
        obtain ⟨kv, hkv⟩ : ∃ z, z = (if j < ny then some (y j) else none) := ⟨_, rfl⟩
        have bm : Bd mv := by rw [hmv]; exact bi i
        have bk : Bd kv := by rw [hkv]; exact bj j
        have bo := om_bd bm bk
        have pre : f_Wa_spread_J56 (f_Wa_spread_L24 92 (nI b) (oI s) (nI (300 * (b - 1))) (nI (300 * b)) g) 92 (nI b) (oI s) (nI (300 * (b - 1))) (nI (300 * b)) (nI i) (nI j) (nI n) μ1 = f_Wa_spread_J113 (f_Wa_spread_L24 92 (nI b) (oI s) (nI (300 * (b - 1))) (nI (300 * b)) g) 92 (nI b) (oI s) (nI (300 * (b - 1))) (nI (300 * b)) (nI i) (nI j) (nI n) (fI mv) (fI kv) μ1 := by
          unfold f_Wa_spread_J56 f_Wa_spread_J85
          rw [rR_92_3 w1, bsome, nI_m1 hb, aI_95 w1 (by omega), bsome, g95, x1, hmv, hkv]
          have inner : ∀ q : Int32, (if nI ny ≤ nI j then f_Wa_spread_J113 (f_Wa_spread_L24 92 (nI b) (oI s) (nI (300 * (b - 1))) (nI (300 * b)) g) 92 (nI b) (oI s) (nI (300 * (b - 1))) (nI (300 * b)) (nI i) (nI j) (nI n) q (2147483647 : Int32) μ1 else (rR μ1 92 11 1).bind fun y99 => (aI μ1 y99 (nI (300 * b) + nI j)).bind fun y107 => f_Wa_spread_J113 (f_Wa_spread_L24 92 (nI b) (oI s) (nI (300 * (b - 1))) (nI (300 * b)) g) 92 (nI b) (oI s) (nI (300 * (b - 1))) (nI (300 * b)) (nI i) (nI j) (nI n) q y107 μ1) = f_Wa_spread_J113 (f_Wa_spread_L24 92 (nI b) (oI s) (nI (300 * (b - 1))) (nI (300 * b)) g) 92 (nI b) (oI s) (nI (300 * (b - 1))) (nI (300 * b)) (nI i) (nI j) (nI n) q (fI (if j < ny then some (y j) else none)) μ1 := fun q => by
            by_cases c2 : j < ny
            · rw [if_neg (by rw [cle (by omega) (by omega)]; omega), if_pos c2, rR_92_1 w1, bsome, nI_add, aI_93 w1 (by omega), bsome, g93, y3 j c2]; rfl
            · rw [if_pos (by rw [cle (by omega) (by omega)]; omega), if_neg c2]; rfl
          have inner2 := inner
          rw [rR_92_1 w1] at inner2
          by_cases c1 : i < nx
          · rw [if_neg (by rw [cle (by omega) (by omega)]; omega), if_pos c1, rR_92_1 w1, bsome, nI_add, aI_93 w1 (by omega), bsome, g93, x3 i c1, oI_add, bsome, aI_95 w1 hb2, bsome, g95, y1, inner2]; rfl
          · rw [if_pos (by rw [cle (by omega) (by omega)]; omega), if_neg c1, bsome, aI_95 w1 hb2, bsome, g95, y1, inner]; rfl
        rw [pre]
        -- the least of both
        obtain ⟨v, hv⟩ : ∃ v, om mv kv = some v := by
          rw [hmv, hkv]
          rcases c with c | c
          · rw [if_pos c]
            by_cases q : j < ny
            · rw [if_pos q]; exact ⟨_, rfl⟩
            · rw [if_neg q]; exact ⟨_, rfl⟩
          · rw [if_pos c]
            by_cases q : i < nx
            · rw [if_pos q]; exact ⟨_, rfl⟩
            · rw [if_neg q]; exact ⟨_, rfl⟩
        obtain ⟨μ2, e2⟩ : ∃ z, z = sI μ1 96 n (oI v) := ⟨_, rfl⟩
        have s2 : Sm (Pc1 96) μ μ2 := by rw [e2]; exact s1.tr (Sm.sI Pc1_s)
        have w2 := s2.ww w
        have g96 : gI μ2 96 n = oI v := by rw [e2, gI_sI, upd_s]
        have fv : fI (om mv kv) = oI v := by rw [hv]; rfl
        have mvv : mv = some v ↔ (i < nx ∧ v = x i + s) := by
          rw [hmv]
          by_cases q : i < nx
          · rw [if_pos q]; exact ⟨fun z => ⟨q, (Option.some.inj z).symm⟩, fun z => by rw [z.2]⟩
          · rw [if_neg q]; exact ⟨fun z => (by cases z), fun z => absurd z.1 q⟩
        have kvv : kv = some v ↔ (j < ny ∧ v = y j) := by
          rw [hkv]
          by_cases q : j < ny
          · rw [if_pos q]; exact ⟨fun z => ⟨q, (Option.some.inj z).symm⟩, fun z => by rw [z.2]⟩
          · rw [if_neg q]; exact ⟨fun z => (by cases z), fun z => absurd z.1 q⟩
        have least : (mv = some v ∨ kv = some v) ∧ (∀ z, mv = some z → v ≤ z) ∧ ∀ z, kv = some z → v ≤ z := by
          cases h1 : mv with
          | none =>
            rw [h1] at hv
            have hv : kv = some v := hv
            exact ⟨Or.inr hv, fun z hz => (by cases hz), fun z hz => (by rw [hv] at hz; cases hz; exact Int.le_refl _)⟩
          | some a =>
            cases h2 : kv with
            | none =>
              rw [h1, h2] at hv
              cases hv
              exact ⟨Or.inl rfl, fun z hz => (by cases hz; exact Int.le_refl _), fun z hz => (by cases hz)⟩
            | some d' =>
              rw [h1, h2] at hv
              have hv : some (if d' < a then d' else a) = some v := hv
              have hv := Option.some.inj hv
              refine ⟨?_, fun z hz => ?_, fun z hz => ?_⟩
              · by_cases q : d' < a
                · rw [if_pos q] at hv; exact Or.inr (by rw [hv])
                · rw [if_neg q] at hv; exact Or.inl (by rw [hv])
              · cases hz; split at hv <;> omega
              · cases hz; split at hv <;> omega
        have bv : Bd (some v) := by rw [← hv]; exact bo
        have eqm : fI mv = oI v ↔ mv = some v := fI_eq (b := some v) bm bv
        have eqk : fI kv = oI v ↔ kv = some v := fI_eq (b := some v) bk bv
        have inv' : MGI nx x s ny y (i + if mv = some v then 1 else 0) (j + if kv = some v then 1 else 0) (n + 1) (uM m n v) := by
          refine MGI_s x4 y4 inv (by omega) ?_ ?_ ?_ (fun q => least.2.1 _ (by rw [hmv, if_pos q])) (fun q => least.2.2 _ (by rw [hkv, if_pos q]))
          · rcases least.1 with q | q
            · exact Or.inl (mvv.mp q)
            · exact Or.inr (kvv.mp q)
          · by_cases q : mv = some v
            · rw [if_pos q]; exact Or.inl ⟨(mvv.mp q).1, (mvv.mp q).2, rfl⟩
            · rw [if_neg q]; exact Or.inr ⟨fun z => q (mvv.mpr z), rfl⟩
          · by_cases q : kv = some v
            · rw [if_pos q]; exact Or.inl ⟨(kvv.mp q).1, (kvv.mp q).2, rfl⟩
            · rw [if_neg q]; exact Or.inr ⟨fun z => q (kvv.mpr z), rfl⟩
        obtain ⟨r, μ', p1, p2⟩ := ih g _ _ (n + 1) (uM m n v) μ2 (by omega) (by omega) s2 (fun k hk => by
          by_cases q : k = n
          · rw [q, uM_s]; exact g96
          · rw [uM_o q, e2, gI_sI, upd_o q]; exact hm k (by omega)) inv'
        refine ⟨r, μ', ?_, p2⟩
        rw [← p1]
        have j148 : ∀ s1 : Int32, ∀ i2, s1 = nI i2 → f_Wa_spread_J148 (f_Wa_spread_L24 92 (nI b) (oI s) (nI (300 * (b - 1))) (nI (300 * b)) g) 92 (nI b) (oI s) (nI (300 * (b - 1))) (nI (300 * b)) (nI j) (nI n) (fI kv) (nI i) s1 μ2 = f_Wa_spread_L24 92 (nI b) (oI s) (nI (300 * (b - 1))) (nI (300 * b)) g (nI (i + i2)) (nI (j + if kv = some v then 1 else 0)) (nI (n + 1)) μ2 := fun s1 i2 hs1 => by
          subst hs1
          unfold f_Wa_spread_J148
          rw [rR_92_4 w2, bsome, aI_96 w2 (by omega), bsome, g96, nI_add, nI_1]
          by_cases q : kv = some v
          · rw [if_pos (eqk.mpr q), if_pos q, nI_1]
          · rw [if_neg (fun z => q (eqk.mp z)), if_neg q, show (0 : Int32) = nI 0 from rfl, nI_add, show (1 : Int32) = nI 1 from rfl, nI_add]
        unfold f_Wa_spread_J113
        rw [rR_92_4 w1, bsome, fI_min bm bk, bsome, fv, uI_96 w1 (by omega), bsome, ← e2, rR_92_4 w2, bsome, aI_96 w2 (by omega), bsome, g96]
        by_cases q : mv = some v
        · rw [if_pos (eqm.mpr q), if_pos q, j148 1 1 rfl]
        · rw [if_neg (fun z => q (eqm.mp z)), if_neg q, j148 0 0 rfl]
      · rw [if_neg (by rw [clt (by omega) (by omega)]; omega), if_pos (by rw [cle (by omega) (by omega)]; omega)]
        exact fin i j n m μ1 s1 hm inv (Or.inr ⟨by omega, by omega⟩)
  obtain ⟨r, μ', p1, p2⟩ := go 300 FU 0 0 0 (fun _ => 0) μ (by omega) (by unfold FU; omega) Sm.rf (fun k hk => absurd hk (by omega)) ⟨by omega, by omega, by omega, fun a b _ hb => absurd hb (by omega), fun k hk => absurd hk (by omega), fun a ha => absurd ha (by omega), fun a ha => absurd ha (by omega), fun k hk => absurd hk (by omega), fun k hk => absurd hk (by omega)⟩
  refine ⟨r, μ', ?_, p2⟩
  unfold f_Wa_spread
  rw [kO_92 w, bsome, nI_m1 hb, rx30, rx30]
  exact p1
