/-! LAYER 2: count -/
def pcr : Nat → Nat → Nat
  | 0, _ => 0
  | k + 1, n => n % 2 + pcr k (n / 2)
theorem pcr_split : ∀ (k m n : Nat), pcr (k + m) n = pcr k (n % 2 ^ k) + pcr m (n / 2 ^ k)
  | 0, m, n => by rw [Nat.zero_add, Nat.pow_zero, Nat.div_one]; show _ = 0 + _; rw [Nat.zero_add]
  | k + 1, m, n => by
    rw [show k + 1 + m = (k + m) + 1 by omega]
    show n % 2 + pcr (k + m) (n / 2) = n % 2 ^ (k + 1) % 2 + pcr k (n % 2 ^ (k + 1) / 2) + pcr m (n / 2 ^ (k + 1))
    rw [pcr_split k m (n / 2), Nat.div_div_eq_div_mul, show 2 * 2 ^ k = 2 ^ (k + 1) by rw [Nat.pow_succ, Nat.mul_comm]]
    have e1 : n % 2 ^ (k + 1) % 2 = n % 2 := Nat.mod_mod_of_dvd _ ⟨2 ^ k, by rw [Nat.pow_succ, Nat.mul_comm]⟩
    have e2 : n % 2 ^ (k + 1) / 2 = n / 2 % 2 ^ k := by
      rw [Nat.pow_succ, Nat.mul_comm, Nat.mod_mul_right_div_self]
    rw [e1, e2, Nat.add_assoc]
theorem pcr_low : ∀ (k n : Nat), 0 < n → n < 2 ^ k → pcr k (n &&& (n - 1)) + 1 = pcr k n
  | 0, n, h, h2 => by rw [Nat.pow_zero] at h2; omega
  | k + 1, n, h, h2 => by
    show (n &&& (n - 1)) % 2 + pcr k ((n &&& (n - 1)) / 2) + 1 = n % 2 + pcr k (n / 2)
    have dm : (n &&& (n - 1)) / 2 = n / 2 &&& (n - 1) / 2 := by
      have := Nat.and_div_two_pow (a := n) (b := n - 1) (n := 1)
      rw [Nat.pow_one] at this; exact this
    have mm : (n &&& (n - 1)) % 2 = n % 2 &&& (n - 1) % 2 := by
      have := Nat.and_mod_two_pow (a := n) (b := n - 1) (n := 1)
      rw [Nat.pow_one] at this; exact this
    rw [dm, mm]
    rcases Nat.mod_two_eq_zero_or_one n with e | e
    · have e1 : (n - 1) % 2 = 1 := by omega
      have e2 : (n - 1) / 2 = n / 2 - 1 := by omega
      have ih := pcr_low k (n / 2) (by omega) (by rw [Nat.pow_succ] at h2; omega)
      rw [e, e1, e2, show (0 &&& 1 : Nat) = 0 from rfl, Nat.zero_add, Nat.zero_add, ih]
    · have e1 : (n - 1) % 2 = 0 := by omega
      have e2 : (n - 1) / 2 = n / 2 := by omega
      rw [e, e1, e2, show (1 &&& 0 : Nat) = 0 from rfl, Nat.and_self]; omega
theorem pcr_b : ∀ (k n : Nat), pcr k n ≤ k
  | 0, _ => Nat.le_refl _
  | k + 1, n => by have := pcr_b k (n / 2); show n % 2 + pcr k (n / 2) ≤ k + 1; omega
theorem pcr_z : ∀ k, pcr k 0 = 0
  | 0 => rfl
  | k + 1 => by show 0 % 2 + pcr k (0 / 2) = 0; rw [show (0 : Nat) / 2 = 0 from rfl, pcr_z k]
theorem s_sizeOf {g : Nat} (hg : g < 16777216) : f_M_sizeOf (nI g) = some (nI (pcr 24 g)) := by
  unfold f_M_sizeOf
  have := wh (σ := Nat × Nat) (β := Int32) (fun s => s.2 < 16777216 ∧ s.1 + pcr 24 s.2 = pcr 24 g) (fun s => pcr 24 s.2) (fun n s => f_M_sizeOf_L4 n (nI s.1) (nI s.2)) (fun x => x = nI (pcr 24 g)) (fun n s hi => by
    obtain ⟨a, v⟩ := s
    obtain ⟨h1, h2⟩ := hi
    have h1 : v < 16777216 := h1
    have h2 : a + pcr 24 v = pcr 24 g := h2
    show (∃ b, f_M_sizeOf_L4 (n + 1) (nI a) (nI v) = some b ∧ b = nI (pcr 24 g)) ∨ ∃ s' : Nat × Nat, pcr 24 s'.2 < pcr 24 v ∧ (s'.2 < 16777216 ∧ s'.1 + pcr 24 s'.2 = pcr 24 g) ∧ f_M_sizeOf_L4 (n + 1) (nI a) (nI v) = f_M_sizeOf_L4 n (nI s'.1) (nI s'.2)
    by_cases e : v = 0
    · left
      subst e
      refine ⟨nI a, by rw [e_M_sizeOf_L4, if_pos (show nI 0 = 0 from rfl)], ?_⟩
      rw [pcr_z] at h2
      rw [← h2, Nat.add_zero]
    · right
      have hl := pcr_low 24 v (by omega) h1
      refine ⟨(a + 1, v &&& (v - 1)), ?_, ⟨Nat.lt_of_le_of_lt Nat.and_le_left h1, ?_⟩, ?_⟩
      · show pcr 24 (v &&& (v - 1)) < pcr 24 v
        omega
      · show a + 1 + pcr 24 (v &&& (v - 1)) = pcr 24 g
        omega
      · rw [e_M_sizeOf_L4, if_neg (show ¬ nI v = 0 by rw [show (0 : Int32) = nI 0 from rfl, ceq (by omega) (by decide)]; exact e), nI_1, show (1 : Int32) = nI 1 from rfl, pk_sub (by omega), nI_and])
    FU (0, g) (by have := pcr_b 24 g; show pcr 24 g < FU; unfold FU; omega) ⟨hg, by rw [Nat.zero_add]⟩
  obtain ⟨b, h1, h2⟩ := this
  rw [← h2]
  exact h1
/-- bytes -/
theorem l2 {a m x y : Nat} (ha : a < 256) (hm : m < 256) : (a + 256 * x) &&& (m + 256 * y) = (a &&& m) + 256 * (x &&& y) := by
  have e1 := Nat.and_mod_two_pow (a := a + 256 * x) (b := m + 256 * y) (n := 8)
  have e2 := Nat.and_div_two_pow (a := a + 256 * x) (b := m + 256 * y) (n := 8)
  rw [show (2 : Nat) ^ 8 = 256 from rfl] at e1 e2
  rw [show (a + 256 * x) % 256 = a by omega, show (m + 256 * y) % 256 = m by omega] at e1
  rw [show (a + 256 * x) / 256 = x by omega, show (m + 256 * y) / 256 = y by omega] at e2
  have := Nat.mod_add_div ((a + 256 * x) &&& (m + 256 * y)) 256
  rw [e1, e2] at this
  exact this.symm
def va8 (b : Nat) : Nat := b - ((b / 2) &&& 85)
def vb8 (b : Nat) : Nat := (b &&& 51) + ((b / 4) &&& 51)
theorem bt1 : ∀ b, b < 256 → ∀ t, t < 2 → ((b / 2 + 128 * t) &&& 85) = (b / 2) &&& 85 ∧ ((b / 2) &&& 85) ≤ b := by decide +kernel
theorem bt2 : ∀ b, b < 256 → ∀ t, t < 4 → ((b / 4 + 64 * t) &&& 51) = (b / 4) &&& 51 ∧ vb8 b < 256 := by decide +kernel
theorem bt3 : ∀ b, b < 256 → ∀ t, t < 5 → vb8 (va8 b) % 16 < 5 ∧ (vb8 (va8 b) + vb8 (va8 b) / 16 + 16 * t) < 256 ∧ ((vb8 (va8 b) + vb8 (va8 b) / 16 + 16 * t) &&& 15) = pcr 8 b := by decide +kernel
theorem va8_b {b : Nat} (h : b < 256) : va8 b < 256 := by unfold va8; omega
theorem swA {b0 b1 b2 : Nat} (h0 : b0 < 256) (h1 : b1 < 256) (h2 : b2 < 256) : (b0 + 256 * (b1 + 256 * b2)) / 2 &&& 1431655765 = (b0 - va8 b0) + 256 * ((b1 - va8 b1) + 256 * (b2 - va8 b2)) := by
  have e : (b0 + 256 * (b1 + 256 * b2)) / 2 = (b0 / 2 + 128 * (b1 % 2)) + 256 * ((b1 / 2 + 128 * (b2 % 2)) + 256 * (b2 / 2 + 128 * 0 + 256 * 0)) := by omega
  rw [e, show (1431655765 : Nat) = 85 + 256 * (85 + 256 * (85 + 256 * 85)) from rfl, l2 (by omega) (by decide), l2 (by omega) (by decide), l2 (by omega) (by decide), (bt1 b0 h0 (b1 % 2) (by omega)).1, (bt1 b1 h1 (b2 % 2) (by omega)).1, (bt1 b2 h2 0 (by decide)).1, Nat.zero_and]
  have q0 := (bt1 b0 h0 0 (by decide)).2
  have q1 := (bt1 b1 h1 0 (by decide)).2
  have q2 := (bt1 b2 h2 0 (by decide)).2
  unfold va8
  omega
theorem swB {b0 b1 b2 : Nat} (h0 : b0 < 256) (h1 : b1 < 256) (h2 : b2 < 256) : ((b0 + 256 * (b1 + 256 * b2)) &&& 858993459) + ((b0 + 256 * (b1 + 256 * b2)) / 4 &&& 858993459) = vb8 b0 + 256 * (vb8 b1 + 256 * vb8 b2) := by
  have e : (b0 + 256 * (b1 + 256 * b2)) / 4 = (b0 / 4 + 64 * (b1 % 4)) + 256 * ((b1 / 4 + 64 * (b2 % 4)) + 256 * (b2 / 4 + 64 * 0 + 256 * 0)) := by omega
  have e2 : b0 + 256 * (b1 + 256 * b2) = b0 + 256 * (b1 + 256 * (b2 + 256 * 0)) := by omega
  rw [e, e2, show (858993459 : Nat) = 51 + 256 * (51 + 256 * (51 + 256 * 51)) from rfl, l2 (by omega) (by decide), l2 (by omega) (by decide), l2 (by omega) (by decide), l2 (by omega) (by decide), l2 (by omega) (by decide), l2 (by omega) (by decide), (bt2 b0 h0 (b1 % 4) (by omega)).1, (bt2 b1 h1 (b2 % 4) (by omega)).1, (bt2 b2 h2 0 (by decide)).1, Nat.zero_and]
  unfold vb8
  omega
theorem swC {b0 b1 b2 : Nat} (h0 : b0 < 256) (h1 : b1 < 256) (h2 : b2 < 256) : (vb8 (va8 b0) + 256 * (vb8 (va8 b1) + 256 * vb8 (va8 b2))) + (vb8 (va8 b0) + 256 * (vb8 (va8 b1) + 256 * vb8 (va8 b2))) / 16 &&& 252645135 = pcr 8 b0 + 256 * (pcr 8 b1 + 256 * pcr 8 b2) := by
  obtain ⟨p0, -, -⟩ := bt3 b0 h0 0 (by decide)
  obtain ⟨p1, -, -⟩ := bt3 b1 h1 0 (by decide)
  obtain ⟨p2, r2, s2⟩ := bt3 b2 h2 0 (by decide)
  obtain ⟨-, r0, s0⟩ := bt3 b0 h0 (vb8 (va8 b1) % 16) p1
  obtain ⟨-, r1, s1⟩ := bt3 b1 h1 (vb8 (va8 b2) % 16) p2
  generalize vb8 (va8 b0) = z0 at *
  generalize vb8 (va8 b1) = z1 at *
  generalize vb8 (va8 b2) = z2 at *
  have e : (z0 + 256 * (z1 + 256 * z2)) + (z0 + 256 * (z1 + 256 * z2)) / 16 = (z0 + z0 / 16 + 16 * (z1 % 16)) + 256 * ((z1 + z1 / 16 + 16 * (z2 % 16)) + 256 * ((z2 + z2 / 16 + 16 * 0) + 256 * 0)) := by omega
  rw [e, show (252645135 : Nat) = 15 + 256 * (15 + 256 * (15 + 256 * 15)) from rfl, l2 r0 (by decide), l2 r1 (by decide), l2 r2 (by decide), s0, s1, s2, Nat.zero_and, Nat.mul_zero, Nat.add_zero]
theorem ius {n k : Nat} (hn : n < 2 ^ 31) (hk : k = 1 ∨ k = 2 ∨ k = 4 ∨ k = 8 ∨ k = 16) : iushr (nI n) (nI k) = nI (n / 2 ^ k) := by
  unfold iushr
  rcases hk with rfl | rfl | rfl | rfl | rfl
  · exact pk_ushrN (by omega) _ 1 (by decide)
  · exact pk_ushrN (by omega) _ 2 (by decide)
  · exact pk_ushrN (by omega) _ 4 (by decide)
  · exact pk_ushrN (by omega) _ 8 (by decide)
  · exact pk_ushrN (by omega) _ 16 (by decide)
theorem s_bitCount {g : Nat} (hg : g < 16777216) : f_In_bitCount (nI g) = some (nI (pcr 24 g)) := by
  obtain ⟨b0, b1, b2, h0, h1, h2, rfl⟩ : ∃ b0 b1 b2 : Nat, b0 < 256 ∧ b1 < 256 ∧ b2 < 256 ∧ g = b0 + 256 * (b1 + 256 * b2) := ⟨g % 256, g / 256 % 256, g / 65536, by omega, by omega, by omega, by omega⟩
  have sA := swA h0 h1 h2
  have l0 := (bt1 b0 h0 0 (by decide)).2
  have l1 := (bt1 b1 h1 0 (by decide)).2
  have l2' := (bt1 b2 h2 0 (by decide)).2
  have v0 := va8_b h0
  have v1 := va8_b h1
  have v2 := va8_b h2
  have a0 : va8 b0 ≤ b0 := by unfold va8; omega
  have a1 : va8 b1 ≤ b1 := by unfold va8; omega
  have a2 : va8 b2 ≤ b2 := by unfold va8; omega
  have sB := swB v0 v1 v2
  have w0 := (bt2 (va8 b0) v0 0 (by decide)).2
  have w1 := (bt2 (va8 b1) v1 0 (by decide)).2
  have w2 := (bt2 (va8 b2) v2 0 (by decide)).2
  have sC := swC h0 h1 h2
  have p0 := pcr_b 8 b0
  have p1 := pcr_b 8 b1
  have p2 := pcr_b 8 b2
  have eA : nI (b0 + 256 * (b1 + 256 * b2)) - (iushr (nI (b0 + 256 * (b1 + 256 * b2))) 1 &&& 1431655765) = nI (va8 b0 + 256 * (va8 b1 + 256 * va8 b2)) := by
    rw [show (1 : Int32) = nI 1 from rfl, ius (by omega) (Or.inl rfl), show (1431655765 : Int32) = nI 1431655765 from rfl, nI_and, Nat.pow_one, sA, pk_sub (by omega)]
    congr 1; omega
  have eB : (nI (va8 b0 + 256 * (va8 b1 + 256 * va8 b2)) &&& 858993459) + (iushr (nI (va8 b0 + 256 * (va8 b1 + 256 * va8 b2))) 2 &&& 858993459) = nI (vb8 (va8 b0) + 256 * (vb8 (va8 b1) + 256 * vb8 (va8 b2))) := by
    rw [show (2 : Int32) = nI 2 from rfl, ius (by omega) (Or.inr (Or.inl rfl)), show (858993459 : Int32) = nI 858993459 from rfl, nI_and, nI_and, nI_add, show (2 : Nat) ^ 2 = 4 from rfl, sB]
  have eC : (nI (vb8 (va8 b0) + 256 * (vb8 (va8 b1) + 256 * vb8 (va8 b2))) + iushr (nI (vb8 (va8 b0) + 256 * (vb8 (va8 b1) + 256 * vb8 (va8 b2)))) 4) &&& 252645135 = nI (pcr 8 b0 + 256 * (pcr 8 b1 + 256 * pcr 8 b2)) := by
    rw [show (4 : Int32) = nI 4 from rfl, ius (by omega) (Or.inr (Or.inr (Or.inl rfl))), show (252645135 : Int32) = nI 252645135 from rfl, nI_add, nI_and, show (2 : Nat) ^ 4 = 16 from rfl, sC]
  have eD : nI (pcr 8 b0 + 256 * (pcr 8 b1 + 256 * pcr 8 b2)) + iushr (nI (pcr 8 b0 + 256 * (pcr 8 b1 + 256 * pcr 8 b2))) 8 = nI ((pcr 8 b0 + pcr 8 b1) + 256 * ((pcr 8 b1 + pcr 8 b2) + 256 * pcr 8 b2)) := by
    rw [show (8 : Int32) = nI 8 from rfl, ius (by omega) (Or.inr (Or.inr (Or.inr (Or.inl rfl)))), nI_add]
    congr 1; omega
  have eE : (nI ((pcr 8 b0 + pcr 8 b1) + 256 * ((pcr 8 b1 + pcr 8 b2) + 256 * pcr 8 b2)) + iushr (nI ((pcr 8 b0 + pcr 8 b1) + 256 * ((pcr 8 b1 + pcr 8 b2) + 256 * pcr 8 b2))) 16) &&& 63 = nI (pcr 8 b0 + pcr 8 b1 + pcr 8 b2) := by
    rw [show (16 : Int32) = nI 16 from rfl, ius (by omega) (Or.inr (Or.inr (Or.inr (Or.inr rfl)))), nI_add, show (2 : Nat) ^ 16 = 65536 from rfl, show ((pcr 8 b0 + pcr 8 b1) + 256 * ((pcr 8 b1 + pcr 8 b2) + 256 * pcr 8 b2)) / 65536 = pcr 8 b2 by omega, pk_andN (by omega) 6 (by decide)]
    congr 1; omega
  have eP : pcr 24 (b0 + 256 * (b1 + 256 * b2)) = pcr 8 b0 + pcr 8 b1 + pcr 8 b2 := by
    have s1 := pcr_split 8 16 (b0 + 256 * (b1 + 256 * b2))
    have s2 := pcr_split 8 8 (b1 + 256 * b2)
    rw [show (2 : Nat) ^ 8 = 256 from rfl] at s1 s2
    rw [show (b0 + 256 * (b1 + 256 * b2)) % 256 = b0 by omega, show (b0 + 256 * (b1 + 256 * b2)) / 256 = b1 + 256 * b2 by omega] at s1
    rw [show (b1 + 256 * b2) % 256 = b1 by omega, show (b1 + 256 * b2) / 256 = b2 by omega] at s2
    rw [show (24 : Nat) = 8 + 16 from rfl, s1, show (16 : Nat) = 8 + 8 from rfl, s2, Nat.add_assoc]
  unfold f_In_bitCount
  rw [eA, eB, eC, eD, eE, eP]
def kyc (p : PT) : Nat → Bool := fun x => decide (¬ pkey p x = -1)
def lkc (p : PT) : Nat → Bool := fun x => decide (¬ pln p x = -1)
theorem s_noteCount {p : PT} {μ : MM} (hw : Wf μ) (hx : XC p μ) : f_Sc_noteCount 1 μ = some (nI (cnt (kyc p) 144)) := by
  unfold f_Sc_noteCount
  rw [kO_1 hw, bsome]
  refine upA 144 (fun n i => f_Sc_noteCount_L4 1 μ n (nI (cnt (kyc p) i)) (nI i)) _ (fun n => ?_) (fun n i hi => ?_) 0 FU (by decide) (by decide)
  · show f_Sc_noteCount_L4 1 μ (n + 1) _ (nI 144) = _
    rw [e_Sc_noteCount_L4, if_pos (by decide)]
  · show f_Sc_noteCount_L4 1 μ (n + 1) _ (nI i) = f_Sc_noteCount_L4 1 μ n _ (nI (i + 1))
    rw [e_Sc_noteCount_L4, if_neg (show ¬ (144 : Int32) ≤ nI i from nI_ge (b := 144) (by omega) (by omega)), rR_1_0 hw, bsome, aI_2 hw hi, bsome, hx.1, nI_1, show (0 : Int32) = nI 0 from rfl, nI_add, nI_1]
    by_cases e : pkey p i = -1
    · rw [if_pos e, cnt_f (f := kyc p) (decide_eq_false (fun z => z e))]
    · rw [if_neg e, cnt_t (f := kyc p) (decide_eq_true e)]
theorem s_linkCount {p : PT} {μ : MM} (hw : Wf μ) (hx : XC p μ) : f_Sc_linkCount 1 μ = some (nI (cnt (lkc p) 24)) := by
  unfold f_Sc_linkCount
  rw [kO_1 hw, bsome]
  refine upA 24 (fun n i => f_Sc_linkCount_L4 1 μ n (nI (cnt (lkc p) i)) (nI i)) _ (fun n => ?_) (fun n i hi => ?_) 0 FU (by decide) (by decide)
  · show f_Sc_linkCount_L4 1 μ (n + 1) _ (nI 24) = _
    rw [e_Sc_linkCount_L4, if_pos (by decide)]
  · show f_Sc_linkCount_L4 1 μ (n + 1) _ (nI i) = f_Sc_linkCount_L4 1 μ n _ (nI (i + 1))
    rw [e_Sc_linkCount_L4, if_neg (show ¬ (24 : Int32) ≤ nI i from nI_ge (b := 24) (by omega) (by omega)), rR_1_4 hw, bsome, aI_6 hw hi, bsome, hx.2.1, nI_1, show (0 : Int32) = nI 0 from rfl, nI_add, nI_1]
    by_cases e : pln p i = -1
    · rw [if_pos e, cnt_f (f := lkc p) (decide_eq_false (fun z => z e))]
    · rw [if_neg e, cnt_t (f := lkc p) (decide_eq_true e)]
theorem s_countL {p : PT} {μ : MM} (hw : Wf μ) (hm : MP p μ) (x1 : Int32) : f_M_count_L28 49 x1 0 μ FU 0 0 = f_M_count_L64 49 x1 (nI (cnt (kyc p) 144)) μ 1 (nI (cnt (lkc p) 24)) (nI 24) := by
  refine upA 144 (fun n i => f_M_count_L28 49 x1 0 μ n (nI (cnt (kyc p) i)) (nI i)) _ (fun n => ?_) (fun n i hi => ?_) 0 FU (by decide) (by decide)
  · show f_M_count_L28 49 x1 0 μ (n + 1) _ (nI 144) = _
    rw [e_M_count_L28, if_pos (by decide)]
    refine upA 24 (fun n i => f_M_count_L64 49 x1 (nI (cnt (kyc p) 144)) μ n (nI (cnt (lkc p) i)) (nI i)) _ (fun n => ?_) (fun n i hi => ?_) 0 FU (by decide) (by decide)
    · show f_M_count_L64 49 x1 (nI (cnt (kyc p) 144)) μ (n + 1) _ (nI 24) = _
      rw [e_M_count_L64, e_M_count_L64, if_pos (show (24 : Int32) ≤ nI 24 by decide), if_pos (show (24 : Int32) ≤ nI 24 by decide)]
    · show f_M_count_L64 49 x1 (nI (cnt (kyc p) 144)) μ (n + 1) _ (nI i) = f_M_count_L64 49 x1 (nI (cnt (kyc p) 144)) μ n _ (nI (i + 1))
      rw [e_M_count_L64, if_neg (show ¬ (24 : Int32) ≤ nI i from nI_ge (b := 24) (by omega) (by omega)), rR_49_7 hw, bsome, aI_56 hw hi, bsome, hm.2.1, nI_1, show (0 : Int32) = nI 0 from rfl, nI_add, nI_1]
      by_cases e : pln p i = -1
      · rw [if_pos e, cnt_f (f := lkc p) (decide_eq_false (fun z => z e))]
      · rw [if_neg e, cnt_t (f := lkc p) (decide_eq_true e)]
  · show f_M_count_L28 49 x1 0 μ (n + 1) _ (nI i) = f_M_count_L28 49 x1 0 μ n _ (nI (i + 1))
    rw [e_M_count_L28, if_neg (show ¬ (144 : Int32) ≤ nI i from nI_ge (b := 144) (by omega) (by omega)), rR_49_2 hw, bsome, aI_51 hw hi, bsome, hm.1, nI_1, show (0 : Int32) = nI 0 from rfl, nI_add, nI_1]
    by_cases e : pkey p i = -1
    · rw [if_pos e, cnt_f (f := kyc p) (decide_eq_false (fun z => z e))]
    · rw [if_neg e, cnt_t (f := kyc p) (decide_eq_true e)]
/-- the numbers of clauses agree -/
def TCn (μ : MM) : Prop := ∃ a, gR μ 9 8 = some a ∧ (a = 17 ∨ a = 42) ∧ gI μ a 7 = gI μ 49 27
theorem sub10 {x : Int32} (h : x < 10) {n : Nat} (hn : n ≤ 8) : inR (x - 10) n = false := by
  unfold inR
  apply decide_eq_false
  rw [toInt_lt, show (10 : Int32).toInt = 10 by decide] at h
  have l := Int32.le_toInt x
  rw [Int32.toInt_sub, show (10 : Int32).toInt = 10 by decide]
  have l : -2147483648 ≤ x.toInt := l
  rcases Int.lt_or_le (x.toInt - 10) (-2147483648) with z | z
  · have e : (x.toInt - 10).bmod (2 ^ 32) = x.toInt - 10 + 4294967296 := by
      have := Int.bmod_eq_of_le (n := x.toInt - 10 + 4294967296) (m := 4294967296) (by omega) (by omega)
      rw [show ((2 : Nat) ^ 32) = 4294967296 from rfl]
      rw [← this]
      exact (Int.add_bmod_right _ _).symm
    rw [e]; omega
  · have e : (x.toInt - 10).bmod (2 ^ 32) = x.toInt - 10 := Int.bmod_eq_of_le (by omega) (by omega)
    rw [e]; omega
theorem count_ok {c : CT} (hc : WC c) {p : PT} {μ : MM} (hw : Wf μ) (hx : XG c μ) (hm : MG c μ) (hxp : XP p μ) (hmp : MP p μ) {n : Nat} (hr : RLx n μ) (ht : TCn μ) (x1 : Int32) : ∃ r, f_X_count 0 x1 μ = some r ∧ f_M_count 49 x1 μ = some r := by
  have h8 := hc.1
  have nC := s_noteCount hw hxp.1
  have lC := s_linkCount hw hxp.1
  have bC := s_bitCount hc.2.2.2.2.2
  have zC := s_sizeOf hc.2.2.2.2.2
  obtain ⟨a, t1, t2, t3⟩ := ht
  have ra : rI μ a 5 7 = some (gI μ 49 27) := by
    rw [← t3]
    rcases t2 with rfl | rfl
    · exact rI_17 hw
    · exact rI_42 hw
  have M0 : inR (x1 - 10) (cN c) = false → f_M_count 49 x1 μ = (if x1 = 0 then some (nI (cN c)) else if x1 = 1 then some (nI n) else if x1 = 2 then some (gI μ 49 27) else if x1 = 3 then some (nI (cnt (kyc p) 144)) else if x1 = 4 then some (nI (cnt (lkc p) 24)) else if x1 = 5 then some (nI (cU c)) else if x1 = 6 then some (oI (cW c)) else if x1 = 7 then some (nI (pcr 24 (cG c))) else some (-1)) := fun h => by
    unfold f_M_count
    rw [kO_49 hw, bsome, s_isSinger hw hc hm, h, bsome, if_pos (by decide), s_countL hw hmp, e_M_count_L64, if_pos (by decide), rI_49 hw, bsome, rI_49 hw, bsome, rI_49 hw, bsome, rI_49 hw, bsome, rI_49 hw, bsome, rI_49 hw, bsome, hm.1, hr.2.1, hm.2.1, hm.2.2.1, hm.2.2.2.1, zC, bsome]
  have X0 : f_X_count 0 x1 μ = (if x1 = 0 then some (nI (cN c)) else if x1 = 1 then some (nI n) else if x1 = 2 then some (gI μ 49 27) else if x1 = 3 then some (nI (cnt (kyc p) 144)) else if x1 = 4 then some (nI (cnt (lkc p) 24)) else if x1 = 5 then some (nI (cU c)) else if x1 = 6 then some (oI (cW c)) else if x1 = 7 then some (nI (pcr 24 (cG c))) else if x1 < 10 then some (-1) else (f_Ch_has 9 (x1 - 10) μ).bind fun y132 => if y132 = 0 then some (-1) else (aI μ 11 (x1 - 10)).bind fun y149 => some y149) := by
    unfold f_X_count
    rw [kO_0 hw, bsome, rR_0_1 hw, rR_0_6 hw, rR_0_0 hw]
    simp only [bsm]
    rw [rI_9 hw, rI_38 hw, rR_9 hw, t1, rI_9 hw, rI_9 hw, rI_9 hw, nC, lC, rR_9_2 hw]
    simp only [bsm]
    rw [ra, hx.1, hr.1, hx.2.1, hx.2.2.1, hx.2.2.2.1, bC]
    simp only [bsm]
  by_cases h10 : x1 < 10
  · rw [X0, M0 (sub10 h10 h8), if_pos h10]
    repeat' split
    all_goals exact ⟨_, rfl, rfl⟩
  · have ne : ∀ k : Nat, k < 8 → ¬ x1 = nI k := fun k hk e => h10 (by rw [e]; exact nI_lt (b := 10) (by omega) (by decide))
    have n0 : ¬ x1 = 0 := ne 0 (by decide)
    have n1 : ¬ x1 = 1 := ne 1 (by decide)
    have n2 : ¬ x1 = 2 := ne 2 (by decide)
    have n3 : ¬ x1 = 3 := ne 3 (by decide)
    have n4 : ¬ x1 = 4 := ne 4 (by decide)
    have n5 : ¬ x1 = 5 := ne 5 (by decide)
    have n6 : ¬ x1 = 6 := ne 6 (by decide)
    have n7 : ¬ x1 = 7 := ne 7 (by decide)
    rw [X0, if_neg n0, if_neg n1, if_neg n2, if_neg n3, if_neg n4, if_neg n5, if_neg n6, if_neg n7, if_neg h10, s_chas hw hc hx, bsome]
    have no : inR (x1 - 10) (cN c) = false → ∃ r, (if bi (inR (x1 - 10) (cN c)) = 0 then some (-1) else (aI μ 11 (x1 - 10)).bind fun y149 => some y149) = some r ∧ f_M_count 49 x1 μ = some r := fun g => by
      rw [M0 g, g, if_neg n0, if_neg n1, if_neg n2, if_neg n3, if_neg n4, if_neg n5, if_neg n6, if_neg n7]
      exact ⟨_, rfl, rfl⟩
    rcases ixc (cN c) _ rfl (by omega) (x1 - 10) with ⟨g1, g2⟩ | ⟨g1, g2, g3⟩ | ⟨-, -, g3, i, hi, ei⟩
    · exact no g2
    · exact no g3
    · refine ⟨nI (cP c i), ?_, ?_⟩
      · rw [g3, if_neg (by decide), ei, aI_11 hw (by omega), bsome, (hx.2.2.2.2.1 i hi).2.1]
      · unfold f_M_count
        rw [kO_49 hw, bsome, s_isSinger hw hc hm, g3, bsome, if_neg (by decide), rR_49_23 hw, bsome, ei, aI_64 hw (by omega), bsome, (hm.2.2.2.2.1 i hi).2.1]
