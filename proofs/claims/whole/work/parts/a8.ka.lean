/-! LAYER 2: the beginning: both made -/
def Zr (μ : MM) : Prop := ∀ a t n, μ.1[a]? = some (t, n) → ¬ t = 0 → ∀ k, n ≤ k → gI μ a k = 0
def Zo (o : Option MM) : Prop := ∀ m, o = some m → Zr m
theorem Z_some {m : MM} (h : Zr m) : Zo (some m) := fun m' e => by cases e; exact h
theorem Z_k {α : Type} {o : Option α} {f : α → Option MM} (h : ∀ y, Zo (f y)) : Zo (o.bind f) := fun m e => by
  cases o with
  | none => cases e
  | some y => exact h y m e
theorem Z_c {o : Option MM} {f : MM → Option MM} (h1 : Zo o) (h : ∀ m, Zr m → Zo (f m)) : Zo (o.bind f) := fun m e => by
  cases o with
  | none => cases e
  | some y => exact h y (h1 y rfl) m e
theorem Z_push {μ : MM} {q : Nat × Nat} (h : Zr μ) : Zr (push μ q) := fun a t n e ht k hk => by
  by_cases c : a = nc μ
  · rw [c, gI_pushn]
  · rw [gI_push c]
    refine h a t n ?_ ht k hk
    have e : (μ.1 ++ [q])[a]? = some (t, n) := e
    by_cases c2 : a < μ.1.length
    · rw [List.getElem?_append_left c2] at e; exact e
    · have c : ¬ a = μ.1.length := c
      rw [List.getElem?_append_right (by omega)] at e
      have : 0 < a - μ.1.length := by omega
      obtain ⟨j, hj⟩ : ∃ j, a - μ.1.length = j + 1 := ⟨a - μ.1.length - 1, by omega⟩
      rw [hj] at e
      cases e
theorem Z_nO {μ : MM} {ci : Nat} (h : Zr μ) : Zo (nO μ ci) := Z_some (Z_push h)
theorem Z_nA {μ : MM} {t : Nat} {n : Int32} (h : Zr μ) : Zo (nA μ t n) := by
  unfold nA
  split
  · exact fun m e => by cases e
  · exact Z_some (Z_push h)
theorem Z_pR {μ : MM} {a ci k x : Nat} (h : Zr μ) : Zo (pR μ a ci k x) := by
  unfold pR
  split
  · exact Z_some (fun a t n e ht k hk => h a t n e ht k hk)
  · exact fun m e => by cases e
theorem Z_pI {μ : MM} {a ci k : Nat} {v : Int32} (h : Zr μ) : Zo (pI μ a ci k v) := by
  unfold pI
  split
  · rename_i hk
    refine Z_some (fun b t n e ht j hj => ?_)
    by_cases q : b = a
    · subst q
      have e : μ.1[b]? = some (t, n) := e
      rw [hk] at e
      have := Option.some.inj e
      exact absurd (congrArg Prod.fst this).symm ht
    · rw [gI_sI_ne q]; exact h b t n e ht j hj
  · exact fun m e => by cases e
theorem Z_w {μ : MM} {a t n j : Nat} {v : Int32} (h : Zr μ) (e : μ.1[a]? = some (t, n)) (hj : ¬ n ≤ j) : Zr (sI μ a j v) := fun b t' n' e' ht k hk => by
  by_cases q : b = a
  · subst q
    have e' : μ.1[b]? = some (t', n') := e'
    have e2 := e'
    rw [e] at e'
    cases e'
    rw [gI_sI, upd_o (by omega)]; exact h b t n e2 ht k hk
  · rw [gI_sI_ne q]; exact h b t' n' e' ht k hk
theorem Z_uI {μ : MM} {a : Nat} {j v : Int32} (h : Zr μ) : Zo (uI μ a j v) := by
  unfold uI
  split
  · rename_i n e
    split
    · exact fun m e => by cases e
    · rename_i c
      simp only [not_or] at c
      exact Z_some (Z_w h e c.2)
  · exact fun m e => by cases e
theorem Z_uB {μ : MM} {a : Nat} {j v : Int32} (h : Zr μ) : Zo (uB μ a j v) := by
  unfold uB
  split
  · rename_i n e
    split
    · exact fun m e => by cases e
    · rename_i c
      simp only [not_or] at c
      exact Z_some (Z_w h e c.2)
  · rename_i n e
    split
    · exact fun m e => by cases e
    · rename_i c
      simp only [not_or] at c
      exact Z_some (Z_w h e c.2)
  · exact fun m e => by cases e
theorem Z_fill {a : Nat} {v x3 : Int32} : ∀ (n : Nat) (x2 : Int32) (μ : MM), Zr μ → Zo (f_Ar_fill_AI_L5 a v x3 n x2 μ)
  | 0, _, _, _ => fun m e => by cases e
  | n + 1, x2, μ, h => by
    rw [e_Ar_fill_AI_L5]
    split
    · exact Z_some h
    · exact Z_c (Z_uI h) (fun m hm => Z_fill n _ m hm)
theorem Z_fillA {a : Nat} {v : Int32} {μ : MM} (h : Zr μ) : Zo (f_Ar_fill_AI a v μ) := by
  unfold f_Ar_fill_AI
  exact Z_k (fun y => Z_fill _ _ _ h)
theorem Z_Sc {a : Nat} {μ : MM} (h : Zr μ) : Zo (f_Sc_init a μ) := by
  unfold f_Sc_init
  repeat (first | exact Z_some (by assumption) | refine Z_c (Z_nA (by assumption)) (fun _ _ => ?_) | refine Z_c (Z_pR (by assumption)) (fun _ _ => ?_) | refine Z_c (Z_fillA (by assumption)) (fun _ _ => ?_) | refine Z_k (fun _ => ?_))
theorem Z_Pr {a : Nat} {μ : MM} (h : Zr μ) : Zo (f_Pr_init a μ) := by
  unfold f_Pr_init
  repeat (first | exact Z_some (by assumption) | refine Z_c (Z_nA (by assumption)) (fun _ _ => ?_) | refine Z_c (Z_pR (by assumption)) (fun _ _ => ?_) | refine Z_k (fun _ => ?_))
theorem Z_Ch {a b : Nat} {μ : MM} (h : Zr μ) : Zo (f_Ch_init a b μ) := by
  unfold f_Ch_init
  repeat (first | exact Z_some (by assumption) | refine Z_c (Z_nA (by assumption)) (fun _ _ => ?_) | refine Z_c (Z_nO (by assumption)) (fun _ _ => ?_) | refine Z_c (Z_Pr (by assumption)) (fun _ _ => ?_) | refine Z_c (Z_pI (by assumption)) (fun _ _ => ?_) | refine Z_c (Z_pR (by assumption)) (fun _ _ => ?_) | refine Z_k (fun _ => ?_))
theorem Z_Si {a b c : Nat} {μ : MM} (h : Zr μ) : Zo (f_Si_init a b c μ) := by
  unfold f_Si_init
  repeat (first | exact Z_some (by assumption) | refine Z_c (Z_nA (by assumption)) (fun _ _ => ?_) | refine Z_c (Z_pR (by assumption)) (fun _ _ => ?_) | refine Z_k (fun _ => ?_))
theorem Z_St {a b c : Nat} {μ : MM} (h : Zr μ) : Zo (f_St_init a b c μ) := by
  unfold f_St_init
  repeat (first | exact Z_some (by assumption) | refine Z_c (Z_nA (by assumption)) (fun _ _ => ?_) | refine Z_c (Z_pI (by assumption)) (fun _ _ => ?_) | refine Z_c (Z_pR (by assumption)) (fun _ _ => ?_) | refine Z_k (fun _ => ?_))
theorem Z_Le {a b c : Nat} {μ : MM} (h : Zr μ) : Zo (f_Le_init a b c μ) := by
  unfold f_Le_init
  repeat (first | exact Z_some (by assumption) | refine Z_c (Z_nA (by assumption)) (fun _ _ => ?_) | refine Z_c (Z_pR (by assumption)) (fun _ _ => ?_) | refine Z_k (fun _ => ?_))
theorem Z_Fi {a b c d : Nat} {μ : MM} (h : Zr μ) : Zo (f_Fi_init a b c d μ) := by
  unfold f_Fi_init
  repeat (first | exact Z_some (by assumption) | refine Z_c (Z_nA (by assumption)) (fun _ _ => ?_) | refine Z_c (Z_pR (by assumption)) (fun _ _ => ?_) | refine Z_k (fun _ => ?_))
theorem Z_Rl {a : Nat} {μ : MM} (h : Zr μ) : Zo (f_Rl_init a μ) := by
  unfold f_Rl_init
  repeat (first | exact Z_some (by assumption) | refine Z_c (Z_nA (by assumption)) (fun _ _ => ?_) | refine Z_c (Z_pR (by assumption)) (fun _ _ => ?_) | refine Z_k (fun _ => ?_))
theorem Z_Re {a : Nat} {μ : MM} (h : Zr μ) : Zo (f_Re_init a μ) := by
  unfold f_Re_init
  repeat (first | exact Z_some (by assumption) | refine Z_c (Z_nA (by assumption)) (fun _ _ => ?_) | refine Z_c (Z_nO (by assumption)) (fun _ _ => ?_) | refine Z_c (Z_Pr (by assumption)) (fun _ _ => ?_) | refine Z_c (Z_pR (by assumption)) (fun _ _ => ?_) | refine Z_k (fun _ => ?_))
theorem Z_X {μ : MM} (h : Zr μ) : Zo (f_X_init 0 μ) := by
  unfold f_X_init
  repeat (first | exact Z_some (by assumption) | refine Z_c (Z_nO (by assumption)) (fun _ _ => ?_) | refine Z_c (Z_Sc (by assumption)) (fun _ _ => ?_) | refine Z_c (Z_Ch (by assumption)) (fun _ _ => ?_) | refine Z_c (Z_Si (by assumption)) (fun _ _ => ?_) | refine Z_c (Z_St (by assumption)) (fun _ _ => ?_) | refine Z_c (Z_Le (by assumption)) (fun _ _ => ?_) | refine Z_c (Z_Fi (by assumption)) (fun _ _ => ?_) | refine Z_c (Z_Rl (by assumption)) (fun _ _ => ?_) | refine Z_c (Z_Re (by assumption)) (fun _ _ => ?_) | refine Z_c (Z_pR (by assumption)) (fun _ _ => ?_) | refine Z_k (fun _ => ?_))
theorem Z_410 : ∀ (n : Nat) (x : Int32) (μ : MM), Zr μ → Zo (f_M_init_L410 49 n x μ)
  | 0, _, _, _ => fun m e => by cases e
  | n + 1, x, μ, h => by
    rw [e_M_init_L410]
    split
    · exact Z_some h
    · exact Z_k (fun y => Z_c (Z_uB h) (fun m hm => Z_410 n _ m hm))
theorem Z_389 : ∀ (n : Nat) (x : Int32) (μ : MM), Zr μ → Zo (f_M_init_L389 49 n x μ)
  | 0, _, _, _ => fun m e => by cases e
  | n + 1, x, μ, h => by
    rw [e_M_init_L389]
    split
    · exact Z_410 _ _ _ h
    · exact Z_k (fun y => Z_c (Z_uI h) (fun m hm => Z_389 n _ m hm))
theorem Z_367 : ∀ (n : Nat) (x : Int32) (μ : MM), Zr μ → Zo (f_M_init_L367 49 n x μ)
  | 0, _, _, _ => fun m e => by cases e
  | n + 1, x, μ, h => by
    rw [e_M_init_L367]
    split
    · exact Z_389 _ _ _ h
    · exact Z_k (fun y => Z_c (Z_uI h) (fun m hm => Z_367 n _ m hm))
theorem Z_M {μ : MM} (h : Zr μ) : Zo (f_M_init 49 μ) := by
  unfold f_M_init
  repeat (first | exact Z_367 _ _ _ (by assumption) | refine Z_c (Z_nA (by assumption)) (fun _ _ => ?_) | refine Z_c (Z_pI (by assumption)) (fun _ _ => ?_) | refine Z_c (Z_pR (by assumption)) (fun _ _ => ?_) | refine Z_k (fun _ => ?_))
def mE : MM := ([], (fun _ _ => 0), (fun _ _ => 0), (fun _ _ => none))
def m00 : MM := push mE (0, 0)
def mX : MM := (f_X_init 0 m00).getD mE
def mY : MM := push mX (0, 1)
def mZZ : MM := (f_M_init 49 mY).getD mE
theorem getD_of {o : Option MM} {d : MM} (h : o.isSome = true) : o = some (o.getD d) := by
  cases o with
  | none => cases h
  | some x => rfl
theorem new_X : f_X_init 0 m00 = some mX := getD_of (by decide +kernel)
theorem new_M : f_M_init 49 mY = some mZZ := getD_of (by decide +kernel)
theorem Z_mZZ : Zr mZZ := Z_M (Z_push (Z_X (Z_push (fun a t n e => by cases e)) _ new_X)) _ new_M
theorem mZ_k : mZZ.1 = KS := by decide +kernel
theorem mZ_wf : Wf mZZ := ⟨fun i _ => by rw [mZ_k], by decide +kernel⟩
def INV (M rn : Nat) (μ : MM) : Prop := ∃ p c d t tc, Wf μ ∧ WP p ∧ XP p μ ∧ MP p μ ∧ WC c ∧ XG c μ ∧ MG c μ ∧ WR d ∧ XR d μ ∧ MR d μ ∧ RLx rn μ ∧ TXP t tc μ ∧ SC (twt t tc) c p M μ ∧ WY μ
def p00 (μ : MM) : PT := (gI μ 2, (fun _ => 0), (fun _ => 0), (fun _ => 0), (fun _ _ => false), gI μ 6)
def c00 : CT := (0, (fun _ => 0), (fun _ => 0), (fun _ => 0), (fun _ => 0), (fun _ => 0), 1, 0, 0)
def d00 : RT := ((fun _ _ => false), (fun _ => 0))
def t00 : Nat → CLT := fun _ => (0, [], [], [], [])
theorem key00 : ∀ k, k < 144 → gI mZZ 2 k = -1 ∧ gI mZZ 51 k = -1 := by decide +kernel
theorem lnk00 : ∀ k, k < 24 → gI mZZ 6 k = -1 ∧ gI mZZ 56 k = -1 := by decide +kernel
theorem brk00 : ∀ k, k < 144 → gI mZZ 55 k = 0 := by decide +kernel
theorem tap00 : ∀ k, k < 192 → gI mZZ 91 k = 0 ∧ gI mZZ 90 k = 0 ∧ gI mZZ 14 k = 0 := by decide +kernel
theorem sml00 : ∀ k, k < 24 → (k < 6 → gI mZZ 5 k = 0) ∧ gI mZZ 8 k = 0 ∧ gI mZZ 7 k = 0 ∧ (k < 8 → gI mZZ 15 k = 0) ∧ (k < 12 → gI mZZ 16 k = 0 ∧ gI mZZ 67 k = 0) := by decide +kernel
theorem one00 : gI mZZ 9 9 = 0 ∧ gI mZZ 9 10 = 1 ∧ gI mZZ 9 11 = 0 ∧ gI mZZ 9 12 = 0 ∧ gI mZZ 49 18 = 0 ∧ gI mZZ 49 19 = 1 ∧ gI mZZ 49 20 = 0 ∧ gI mZZ 49 21 = 0 ∧ gI mZZ 38 1 = 0 ∧ gI mZZ 49 1 = 0 ∧ gI mZZ 0 9 = 0 ∧ gI mZZ 31 6 = -1 ∧ gI mZZ 17 7 = 0 ∧ gI mZZ 17 6 = 0 ∧ gI mZZ 49 27 = 0 := by decide +kernel
theorem ref00 : gR mZZ 0 8 = none ∧ gR mZZ 9 8 = some 17 ∧ gR mZZ 40 1 = some 42 := by decide +kernel
theorem rel00 : ∀ k, k < 220 → gI mZZ 39 k = gI mZZ 50 k &&& 255 := by decide +kernel
theorem kx00 {μ : MM} : ∀ b, kx (gI μ 6) (fun _ => 0) b = 0
  | 0 => rfl
  | b + 1 => by
    show kx (gI μ 6) (fun _ => 0) b + lmv (gI μ 6) (fun _ => 0) (b + 1) = 0
    rw [kx00 b]
    unfold lmv
    split <;> rfl
theorem INVof {μ : MM} (w : Wf μ) (hk : μ.1 = KS) (hz : Zr μ) (key : ∀ k, k < 144 → gI μ 2 k = -1 ∧ gI μ 51 k = -1) (lnk : ∀ k, k < 24 → gI μ 6 k = -1 ∧ gI μ 56 k = -1) (brk : ∀ k, k < 144 → gI μ 55 k = 0) (tap : ∀ k, k < 192 → gI μ 91 k = 0 ∧ gI μ 90 k = 0 ∧ gI μ 14 k = 0) (sml : ∀ k, k < 24 → (k < 6 → gI μ 5 k = 0) ∧ gI μ 8 k = 0 ∧ gI μ 7 k = 0 ∧ (k < 8 → gI μ 15 k = 0) ∧ (k < 12 → gI μ 16 k = 0 ∧ gI μ 67 k = 0)) (one : gI μ 9 9 = 0 ∧ gI μ 9 10 = 1 ∧ gI μ 9 11 = 0 ∧ gI μ 9 12 = 0 ∧ gI μ 49 18 = 0 ∧ gI μ 49 19 = 1 ∧ gI μ 49 20 = 0 ∧ gI μ 49 21 = 0 ∧ gI μ 38 1 = 0 ∧ gI μ 49 1 = 0 ∧ gI μ 0 9 = 0 ∧ gI μ 31 6 = -1 ∧ gI μ 17 7 = 0 ∧ gI μ 17 6 = 0 ∧ gI μ 49 27 = 0) (ref : gR μ 0 8 = none ∧ gR μ 9 8 = some 17 ∧ gR μ 40 1 = some 42) (rel : ∀ k, k < 220 → gI μ 39 k = gI μ 50 k &&& 255) : INV 0 0 μ := by
  have e2 : gI μ 51 = gI μ 2 := by
    funext k
    by_cases h : k < 144
    · rw [(key k h).1, (key k h).2]
    · rw [hz 51 1 144 (by rw [hk]; rfl) (by decide) k (by omega), hz 2 1 144 (by rw [hk]; rfl) (by decide) k (by omega)]
  have e6 : gI μ 56 = gI μ 6 := by
    funext k
    by_cases h : k < 24
    · rw [(lnk k h).1, (lnk k h).2]
    · rw [hz 56 1 24 (by rw [hk]; rfl) (by decide) k (by omega), hz 6 1 24 (by rw [hk]; rfl) (by decide) k (by omega)]
  obtain ⟨o1, o2, o3, o4, o5, o6, o7, o8, o9, o10, o11, o12, o13, o14, o15⟩ := one
  refine ⟨p00 μ, c00, d00, t00, 0, w, ⟨fun c hc => Or.inl (key c hc).1, fun c hc h => absurd (key c hc).1 h, fun b hb => Or.inl (lnk b hb).1⟩, ⟨⟨rfl, rfl, fun c hc h => absurd (key c hc).1 h⟩, fun v hv => ⟨0, by decide, (sml v (by omega)).1 hv, fun b _ => Nat.zero_testBit b⟩, fun b hb => ?_⟩, ⟨e2, e6, fun c hc h => absurd (key c hc).1 h, fun v hv b hb => brk _ (by omega)⟩, ⟨by decide, fun i hi => absurd hi (by show ¬ i < 0; omega), fun k _ => by show (-60000 : Int) ≤ 0 ∧ (0 : Int) ≤ 60000; decide, by decide, by decide, by decide⟩, ⟨o1, o2, o3, o4, fun i hi => absurd hi (by show ¬ i < 0; omega), fun k hk => ((sml k (by omega)).2.2.2.2 hk).1⟩, ⟨o5, o6, o7, o8, fun i hi => absurd hi (by show ¬ i < 0; omega), fun k hk => ((sml k (by omega)).2.2.2.2 hk).2⟩, fun k _ => by show (-10000000 : Int) ≤ 0 ∧ (0 : Int) ≤ 10000000; decide, ⟨fun i hi => ⟨0, by decide, (sml i (by omega)).2.2.2.1 hi, fun b _ => Nat.zero_testBit b⟩, fun k hk => (tap k hk).2.2⟩, ⟨fun i hi b hb => (tap _ (by omega)).1, fun k hk => (tap k hk).2.1⟩, ⟨o9, o10, rel⟩, ⟨⟨⟨17, Or.inl rfl, ref.2.1, ?_⟩, ?_⟩, 17, 42, Or.inl rfl, Or.inr rfl, by decide, ref.2.1, ref.2.2⟩, ⟨0, -1, by decide, o11, o12.trans (show (-1 : Int32) = oI (-1) by decide), by decide, by decide, fun h => by cases h⟩, Or.inl ⟨ref.1, by rw [hk]; rfl⟩⟩
  · unfold XT kmil
    show gI μ 8 b = pk (kx (gI μ 6) (fun _ => 0) b) (kx (gI μ 6) (fun _ => 0) b) (kx (gI μ 6) (fun _ => 0) b) ∧ gI μ 7 b = oI (mil (kx (gI μ 6) (fun _ => 0) b) (kx (gI μ 6) (fun _ => 0) b) (kx (gI μ 6) (fun _ => 0) b))
    rw [kx00 b]
    exact ⟨(sml b hb).2.1, (sml b hb).2.2.1⟩
  · exact ⟨o13, o14, by decide, by decide, fun j hj => absurd hj (by omega)⟩
  · exact ⟨o15, by decide, fun j hj => absurd hj (by omega), by simp [HC, cmx]⟩
theorem INV00 : INV 0 0 mZZ := INVof mZ_wf mZ_k Z_mZZ key00 lnk00 brk00 tap00 sml00 one00 ref00 rel00
