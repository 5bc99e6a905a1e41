/-! LAYER 2: ways: the object is made once -/
theorem gI_push {μ : MM} {q : Nat × Nat} {a : Nat} (h : ¬ a = nc μ) : gI (push μ q) a = gI μ a := if_neg h
theorem gL_push {μ : MM} {q : Nat × Nat} {a : Nat} (h : ¬ a = nc μ) : gL (push μ q) a = gL μ a := if_neg h
theorem gR_push {μ : MM} {q : Nat × Nat} {a : Nat} (h : ¬ a = nc μ) : gR (push μ q) a = gR μ a := if_neg h
theorem gI_pushn {μ : MM} {q : Nat × Nat} : gI (push μ q) (nc μ) = fun _ => 0 := if_pos rfl
theorem gR_pushn {μ : MM} {q : Nat × Nat} : gR (push μ q) (nc μ) = fun _ => none := if_pos rfl
def Cr (k : Nat) (ρ : Nat → Option Nat) (μ m : MM) : Prop := m.1 = μ.1 ++ KW.take k ∧ (∀ a, a < 92 → gI m a = gI μ a ∧ gL m a = gL μ a ∧ gR m a = gR μ a) ∧ (∀ a j, 92 ≤ a → a < 92 + k → gI m a j = 0) ∧ (0 < k → gR m 92 = ρ)
theorem Cr.ncl {k : Nat} {ρ : Nat → Option Nat} {μ m : MM} (h : Cr k ρ μ m) (hk : k ≤ 8) (hn : μ.1.length = 92) : nc m = 92 + k := by
  unfold nc
  rw [h.1, List.length_append, hn, List.length_take]
  show 92 + min k 8 = _
  omega
theorem Cr.psh {k : Nat} {ρ : Nat → Option Nat} {μ m : MM} (h : Cr k ρ μ m) (hk : k < 8) (hn : μ.1.length = 92) {q : Nat × Nat} (hq : KW[k]? = some q) (h0 : k = 0 → ρ = fun _ => none) : Cr (k + 1) ρ μ (push m q) := by
  have n := h.ncl (by omega) hn
  obtain ⟨h1, h2, h3, h4⟩ := h
  refine ⟨?_, fun a ha => ?_, fun a j ha hb => ?_, fun _ => ?_⟩
  · show m.1 ++ [q] = _
    rw [h1, List.append_assoc]
    congr 1
    rw [List.take_add_one, hq]; rfl
  · rw [gI_push (by omega), gL_push (by omega), gR_push (by omega)]; exact h2 a ha
  · by_cases e : a = nc m
    · rw [e, gI_pushn]
    · rw [gI_push e]; exact h3 a j ha (by omega)
  · by_cases e : k = 0
    · have : (92 : Nat) = nc m := by omega
      rw [this, gR_pushn, h0 e]
    · rw [gR_push (by omega)]; exact h4 (by omega)
theorem Cr.k92 {k : Nat} {ρ : Nat → Option Nat} {μ m : MM} (h : Cr (k + 1) ρ μ m) (hn : μ.1.length = 92) : m.1[92]? = some (0, 11) := by
  rw [h.1, List.getElem?_append_right (by omega), hn]; rfl
theorem Cr.srr {k : Nat} {ρ : Nat → Option Nat} {μ m : MM} (h : Cr k ρ μ m) (j v : Nat) : Cr k (fun x => if x = j then some v else ρ x) μ (sR m 92 j (some v)) := by
  obtain ⟨h1, h2, h3, h4⟩ := h
  refine ⟨h1, fun a ha => ⟨(h2 a ha).1, (h2 a ha).2.1, ?_⟩, h3, fun hk => ?_⟩
  · rw [← (h2 a ha).2.2]
    funext x
    exact gR_sR_o (by omega)
  · funext x
    by_cases e : x = j
    · rw [if_pos e, e]; exact gR_sR
    · rw [if_neg e, gR_sR_o (by omega), h4 hk]
def R08 (x k : Nat) : Bool := (x == 0 && k == 8) || decide (92 ≤ x)
theorem s_create {μ : MM} (hw : Wf μ) (hn : μ.1.length = 92) (h8 : gR μ 0 8 = none) : ∃ μ1, f_X_explored 0 μ = f_X_explored_J22 0 μ1 ∧ Wf μ1 ∧ Ww μ1 ∧ gR μ1 0 8 = some 92 ∧ z97 μ1 ∧ μ1.1.length = 100 ∧ Fr Pwy R08 (μ1.1, μ.2) μ1 := by
  have c0 : Cr 0 (fun _ => none) μ μ := ⟨(List.append_nil _).symm, fun a _ => ⟨rfl, rfl, rfl⟩, fun a j h1 h2 => absurd h2 (by omega), fun h => absurd h (by omega)⟩
  have nA_ok : ∀ (m : MM) (n : Int32) (N : Nat), ¬ (n < 0 ∨ 1000000 < n.toNatClampNeg) → n.toNatClampNeg = N → nA m 1 n = some (push m (1, N)) := fun m n N h e => by
    unfold nA
    rw [if_neg h, e]
  have pRk : ∀ {k : Nat} {ρ : Nat → Option Nat} {m : MM}, Cr (k + 1) ρ μ m → ∀ j v, pR m 92 11 j v = some (sR m 92 j (some v)) := fun h j v => if_pos (h.k92 hn)
  unfold f_X_explored
  rw [kO_0 hw, bsome, rN_0 hw, bsome, h8, Option.elim_none]
  unfold nO
  have n0 := c0.ncl (by omega) hn
  have c1 := c0.psh (by omega) hn (q := (0, 11)) rfl (fun _ => rfl)
  obtain ⟨m1, e1⟩ : ∃ m, m = push μ (0, 11) := ⟨_, rfl⟩
  rw [← e1] at c1
  have w1 : Wf m1 := ⟨fun i hi => by
    rw [c1.1, List.getElem?_append_left (by omega)]; exact hw.1 i hi, fun q hq => by
    have : q.1 < 92 := (by decide : ∀ q ∈ RL, q.1 < 92) q hq
    rw [(c1.2.1 q.1 this).2.2]; exact hw.2 q hq⟩
  rw [← e1, bsome, rR_0_0 w1, bsome, n0]
  unfold f_Wa_init
  have n1 := c1.ncl (by omega) hn
  rw [show kO m1 92 11 = some () from kO_ok (c1.k92 hn), bsome, nA_ok m1 7200 7200 (by decide) (by decide), bsome]
  have c2 := c1.psh (by omega) hn (q := (1, 7200)) rfl (by omega)
  rw [n1, pRk c2, bsome]
  have d2 := c2.srr 1 93
  obtain ⟨m2, e2⟩ : ∃ m, m = sR (push m1 (1, 7200)) 92 1 (some 93) := ⟨_, rfl⟩
  have n2 := d2.ncl (by omega) hn
  rw [← e2] at d2 n2
  rw [← e2, nA_ok m2 7200 7200 (by decide) (by decide), bsome]
  have c3 := d2.psh (by omega) hn (q := (1, 7200)) rfl (by omega)
  rw [n2, pRk c3, bsome]
  have d3 := c3.srr 2 94
  obtain ⟨m3, e3⟩ : ∃ m, m = sR (push m2 (1, 7200)) 92 2 (some 94) := ⟨_, rfl⟩
  have n3 := d3.ncl (by omega) hn
  rw [← e3] at d3 n3
  rw [← e3, nA_ok m3 24 24 (by decide) (by decide), bsome]
  have c4 := d3.psh (by omega) hn (q := (1, 24)) rfl (by omega)
  rw [n3, pRk c4, bsome]
  have d4 := c4.srr 3 95
  obtain ⟨m4, e4⟩ : ∃ m, m = sR (push m3 (1, 24)) 92 3 (some 95) := ⟨_, rfl⟩
  have n4 := d4.ncl (by omega) hn
  rw [← e4] at d4 n4
  rw [← e4, nA_ok m4 300 300 (by decide) (by decide), bsome]
  have c5 := d4.psh (by omega) hn (q := (1, 300)) rfl (by omega)
  rw [n4, pRk c5, bsome]
  have d5 := c5.srr 4 96
  obtain ⟨m5, e5⟩ : ∃ m, m = sR (push m4 (1, 300)) 92 4 (some 96) := ⟨_, rfl⟩
  have n5 := d5.ncl (by omega) hn
  rw [← e5] at d5 n5
  rw [← e5, nA_ok m5 168 168 (by decide) (by decide), bsome]
  have c6 := d5.psh (by omega) hn (q := (1, 168)) rfl (by omega)
  rw [n5, pRk c6, bsome]
  have d6 := c6.srr 5 97
  obtain ⟨m6, e6⟩ : ∃ m, m = sR (push m5 (1, 168)) 92 5 (some 97) := ⟨_, rfl⟩
  have n6 := d6.ncl (by omega) hn
  rw [← e6] at d6 n6
  rw [← e6, nA_ok m6 168 168 (by decide) (by decide), bsome]
  have c7 := d6.psh (by omega) hn (q := (1, 168)) rfl (by omega)
  rw [n6, pRk c7, bsome]
  have d7 := c7.srr 6 98
  obtain ⟨m7, e7⟩ : ∃ m, m = sR (push m6 (1, 168)) 92 6 (some 98) := ⟨_, rfl⟩
  have n7 := d7.ncl (by omega) hn
  rw [← e7] at d7 n7
  rw [← e7, nA_ok m7 24 24 (by decide) (by decide), bsome]
  have c8 := d7.psh (by omega) hn (q := (1, 24)) rfl (by omega)
  rw [n7, pRk c8, bsome]
  have d8 := c8.srr 7 99
  obtain ⟨m8, e8⟩ : ∃ m, m = sR (push m7 (1, 24)) 92 7 (some 99) := ⟨_, rfl⟩
  rw [← e8] at d8
  rw [← e8, pRk d8, bsome]
  have d9 := d8.srr 0 1
  obtain ⟨m9, e9⟩ : ∃ m, m = sR m8 92 0 (some 1) := ⟨_, rfl⟩
  rw [← e9] at d9
  rw [← e9, bsome]
  have w9 : Wf m9 := ⟨fun i hi => by
    rw [d9.1, List.getElem?_append_left (by omega)]; exact hw.1 i hi, fun q hq => by
    have : q.1 < 92 := (by decide : ∀ q ∈ RL, q.1 < 92) q hq
    rw [(d9.2.1 q.1 this).2.2]; exact hw.2 q hq⟩
  rw [pR_0 w9, bsome]
  obtain ⟨mA, eA⟩ : ∃ m, m = sR m9 0 8 (some 92) := ⟨_, rfl⟩
  rw [← eA]
  have gRA : ∀ x j, ¬ (x = 0 ∧ j = 8) → gR mA x j = gR m9 x j := fun x j h => by rw [eA]; exact gR_sR_o h
  have k1 : mA.1 = m9.1 := by rw [eA]; rfl
  refine ⟨mA, rfl, ⟨fun i hi => by rw [k1]; exact w9.1 i hi, fun q hq => ?_⟩, ⟨fun i hi => ?_, fun q hq => ?_⟩, by rw [eA]; exact gR_sR, fun b hb => ?_, by rw [k1, d9.1, List.length_append, hn]; rfl, rfl, fun x j h => ?_, fun x j h => ?_⟩
  · have : ¬ (q.1 = 0 ∧ q.2.1 = 8) := (by decide : ∀ q ∈ RL, ¬ (q.1 = 0 ∧ q.2.1 = 8)) q hq
    rw [gRA _ _ this]; exact w9.2 q hq
  · rw [k1, d9.1, List.getElem?_append_right (by omega), hn, Nat.add_sub_cancel_left]; rfl
  · have : q.1 = 92 ∧ ¬ q.2.1 = 8 := (by decide : ∀ q ∈ RW, q.1 = 92 ∧ ¬ q.2.1 = 8) q hq
    rw [gRA _ _ (by omega), this.1, d9.2.2.2 (by omega)]
    revert q
    decide
  · rw [eA]
    show gI m9 97 (7 * b) = 0
    exact d9.2.2.1 97 _ (by omega) (by omega)
  · have : ¬ (x = 0 ∧ j = 8) ∧ x < 92 := by
      unfold R08 at h
      rw [Bool.or_eq_false_iff] at h
      have h2 := of_decide_eq_false h.2
      refine ⟨fun e => ?_, by omega⟩
      rw [e.1, e.2] at h
      exact absurd h.1 (by decide)
    rw [gRA _ _ this.1, (d9.2.1 x this.2).2.2]; rfl
  · have : x < 92 := by
      have := of_decide_eq_false h
      omega
    rw [eA]
    exact ⟨congrFun (d9.2.1 x this).1 j, congrFun (d9.2.1 x this).2.1 j⟩
