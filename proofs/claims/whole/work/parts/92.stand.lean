/-! LAYER 2: standing, in the class: swap, sort, the next row -/
def PLs (a N : Nat) (f : Nat → Nat) (μ : MM) : Prop := ∀ j, j < N → gI μ a j = nI (f j) ∧ f j < 16
theorem PLs_upd {a N : Nat} {f : Nat → Nat} {μ μ' : MM} (h : PLs a N f μ) {i j : Nat} (hi : i < N) (hj : j < N) (e : gI μ' a = upd (upd (gI μ a) i (gI μ a j)) j (gI μ a i)) : PLs a N (swp f i j) μ' := fun k hk => by
  rw [e]
  unfold upd swp
  by_cases e1 : k = j
  · rw [if_pos e1, if_pos e1]; exact h i hi
  · rw [if_neg e1, if_neg e1]
    by_cases e2 : k = i
    · rw [if_pos e2, if_pos e2]; exact h j hj
    · rw [if_neg e2, if_neg e2]; exact h k hk
theorem PLs.sm {P : Nat → Nat → Bool} {a N : Nat} {f : Nat → Nat} {μ μ' : MM} (h : PLs a N f μ) (s : Sm P μ μ') (hp : ∀ k, P a k = false) : PLs a N f μ' := by
  unfold PLs
  rw [s.gI a hp]; exact h
theorem s_swap {μ : MM} (hw : Wf μ) {N : Nat} (hN : N ≤ 8) {f : Nat → Nat} (hf : PLs 32 N f μ) {i j : Nat} (hi : i < N) (hj : j < N) : ∃ μ', f_St_swap 31 (nI i) (nI j) μ = some μ' ∧ Sm (Pc1 32) μ μ' ∧ PLs 32 N (swp f i j) μ' := by
  obtain ⟨m1, h1⟩ : ∃ x, x = sI μ 32 i (gI μ 32 j) := ⟨_, rfl⟩
  obtain ⟨m2, h2⟩ : ∃ x, x = sI m1 32 j (gI μ 32 i) := ⟨_, rfl⟩
  have s1 : Sm (Pc1 32) μ m1 := by rw [h1]; exact Sm.sI (by simp [Pc1])
  have s2 : Sm (Pc1 32) μ m2 := by rw [h2]; exact s1.tr (Sm.sI (by simp [Pc1]))
  refine ⟨m2, ?_, s2, PLs_upd hf hi hj (by rw [h2, gI_sI, h1, gI_sI])⟩
  unfold f_St_swap
  rw [kO_31 hw, bsome, rR_31_2 hw, bsome, aI_32 hw (by omega), bsome, bsome, bsome, aI_32 hw (by omega), bsome, uI_32 hw (by omega), bsome, ← h1, rR_31_2 (s1.wf hw), bsome, uI_32 (s1.wf hw) (by omega), bsome, ← h2]
theorem nI_pred' {j : Nat} : nI (j + 1) - (1 : Int32) = nI j := by rw [nI_m1 (by omega), Nat.add_sub_cancel]
theorem nI_dec {j : Nat} : nI (j + 1) + (-1 : Int32) = nI j := by rw [nI_p, nI_pred']
theorem sort_in {N a i : Nat} (hN : N ≤ 8) (k2 : Int32 → MM → Option MM) : ∀ (j n : Nat) (f : Nat → Nat) (μ : MM), j < N → j < n → Wf μ → a ≤ N → PLs 32 N f μ → ∃ μ', f_St_sort_L15 k2 31 (nI a) (nI i) n (nI j) μ = k2 (nI (i + 1)) μ' ∧ Sm (Pc1 32) μ μ' ∧ PLs 32 N (ins a j f) μ' := by
  intro j
  induction j with
  | zero =>
    intro n f μ hj hn hw ha hf
    obtain ⟨n, rfl⟩ : ∃ m, n = m + 1 := ⟨n - 1, by omega⟩
    refine ⟨μ, ?_, Sm.rf, hf⟩
    rw [e_St_sort_L15, if_pos (by rw [cle (by omega) (by omega)]; omega), nI_1]
  | succ j ih =>
    intro n f μ hj hn hw ha hf
    obtain ⟨n, rfl⟩ : ∃ m, n = m + 1 := ⟨n - 1, by omega⟩
    by_cases c1 : j + 1 ≤ a
    · refine ⟨μ, ?_, Sm.rf, ?_⟩
      · rw [e_St_sort_L15, if_pos (by rw [cle (by omega) (by omega)]; exact c1), nI_1]
      · unfold ins; rw [if_neg (by omega)]; exact hf
    · obtain ⟨g1, b1⟩ := hf (j + 1) hj
      obtain ⟨g0, b0⟩ := hf j (by omega)
      have pre : f_St_sort_L15 k2 31 (nI a) (nI i) (n + 1) (nI (j + 1)) μ = if f j ≤ f (j + 1) then k2 (nI (i + 1)) μ else (f_St_swap 31 (nI (j + 1)) (nI j) μ).bind fun μ42 => f_St_sort_L15 k2 31 (nI a) (nI i) n (nI j) μ42 := by
        rw [e_St_sort_L15, if_neg (by rw [cle (by omega) (by omega)]; omega), rR_31_2 hw, bsome, aI_32 hw (by omega), bsome, bsome, nI_pred', aI_32 hw (by omega), bsome, g1, g0, nI_1, nI_dec]
        by_cases e : f j ≤ f (j + 1)
        · rw [if_pos (by rw [cle (by omega) (by omega)]; exact e), if_pos e]
        · rw [if_neg (by rw [cle (by omega) (by omega)]; exact e), if_neg e]
      by_cases e : f j ≤ f (j + 1)
      · refine ⟨μ, by rw [pre, if_pos e], Sm.rf, ?_⟩
        unfold ins; rw [if_neg (by omega)]; exact hf
      · obtain ⟨m1, r1, s1, f1⟩ := s_swap hw hN hf hj (show j < N by omega)
        obtain ⟨m2, r2, s2, f2⟩ := ih n (swp f (j + 1) j) m1 (by omega) (by omega) (s1.wf hw) ha f1
        refine ⟨m2, by rw [pre, if_neg e, r1, bsome, r2], s1.tr s2, ?_⟩
        unfold ins; rw [if_pos (by omega)]; exact f2
theorem s_sort {c : CT} (hc : WC c) {μ : MM} (hw : Wf μ) (hx : gI μ 9 9 = nI (cN c)) {a : Nat} (ha : a ≤ cN c) {f : Nat → Nat} (hf : PLs 32 (cN c) f μ) : ∃ μ', f_St_sort 31 (nI a) μ = some μ' ∧ Sm (Pc1 32) μ μ' ∧ PLs 32 (cN c) (srt a (cN c - a) f) μ' := by
  have h8 := hc.1
  unfold f_St_sort
  rw [kO_31 hw, bsome]
  refine upR (cN c - a) (fun k m => Sm (Pc1 32) μ m ∧ PLs 32 (cN c) (srt a k f) m) (fun n k m => f_St_sort_L2 31 (nI a) n (nI (a + k)) m) (fun x => ∃ μ', x = some μ' ∧ Sm (Pc1 32) μ μ' ∧ PLs 32 (cN c) (srt a (cN c - a) f) μ') (fun n m hi => ?_) (fun n k m hk hi => Or.inr ?_) 0 FU μ (by omega) (by unfold FU; omega) ⟨Sm.rf, hf⟩
  · obtain ⟨sm, hi⟩ := hi
    have w := sm.wf hw
    refine ⟨m, ?_, sm, hi⟩
    show f_St_sort_L2 31 (nI a) (n + 1) (nI (a + (cN c - a))) m = _
    rw [e_St_sort_L2, rR_31_0 w, bsome, rI_9 w, bsome, sm.gI 9 (Pc1_ne (by decide)), hx, if_pos (by rw [cle (by omega) (by omega)]; omega)]
  · obtain ⟨sm, hi⟩ := hi
    have w := sm.wf hw
    obtain ⟨m2, r2, s2, f2⟩ := sort_in h8 (f_St_sort_L2 31 (nI a) n) (a := a) (i := a + k) (a + k) FU (srt a k f) m (by omega) (by unfold FU; omega) w ha hi
    refine ⟨m2, ?_, sm.tr s2, f2⟩
    show f_St_sort_L2 31 (nI a) (n + 1) (nI (a + k)) m = f_St_sort_L2 31 (nI a) n (nI (a + k + 1)) m2
    rw [e_St_sort_L2, rR_31_0 w, bsome, rI_9 w, bsome, sm.gI 9 (Pc1_ne (by decide)), hx, if_neg (by rw [cle (by omega) (by omega)]; omega), r2]
theorem nI_m2 {N : Nat} (h : 1 ≤ N) : nI N - (2 : Int32) = nI (N - 1) + (-1) := by
  rw [show (2 : Int32) = oI 2 from rfl, show (-1 : Int32) = oI (-1) from rfl, oI_nI, oI_nI, oI_sub, oI_add]
  congr 1; omega
theorem s_next {c : CT} (hc : WC c) (h1N : 1 ≤ cN c) {μ : MM} (hw : Wf μ) (hx : gI μ 9 9 = nI (cN c)) {f : Nat → Nat} (hf : PLs 32 (cN c) f μ) : (nxt (cN c) f = none ∧ f_St_next 31 μ = some (0, μ)) ∨ ∃ g μ', nxt (cN c) f = some g ∧ rk f (cN c) (cN c) < rk g (cN c) (cN c) ∧ f_St_next 31 μ = some (1, μ') ∧ Sm (Pc1 32) μ μ' ∧ PLs 32 (cN c) g μ' := by
  have h8 := hc.1
  have pre : f_St_next 31 μ = f_St_next_J37 31 (pvi f (cN c)) μ := by
    unfold f_St_next
    rw [kO_31 hw, bsome, rR_31_0 hw, bsome, rI_9 hw, bsome, hx, nI_m2 h1N]
    refine dn (cN c - 1) (fun k => pvi f (cN c) = lastb (fun i => decide (f i < f (i + 1))) k) (fun n x => f_St_next_L10 31 μ n x) _ (fun n x hx0 hi2 => ?_) (fun n k hk hi2 => ?_) (cN c - 1) FU (Nat.le_refl _) (by unfold FU; omega) rfl
    · show f_St_next_L10 31 μ (n + 1) x = _
      rw [e_St_next_L10, if_pos hx0, hi2]
      unfold f_St_next_J37
      rw [if_neg, if_neg]
      · show ¬ (0 : Int32) ≤ -1; decide
      · rw [toInt_le]; rw [toInt_lt] at hx0; omega
    · show f_St_next_L10 31 μ (n + 1) (nI k) = _ ∨ f_St_next_L10 31 μ (n + 1) (nI k) = f_St_next_L10 31 μ n (nI k + (-1)) ∧ _
      obtain ⟨g0, b0⟩ := hf k (by omega)
      obtain ⟨g1, b1⟩ := hf (k + 1) (by omega)
      rw [e_St_next_L10, if_neg (nI_pos (by omega)), rR_31_2 hw, bsome, aI_32 hw (by omega), bsome, bsome, nI_1, aI_32 hw (by omega), bsome, g0, g1]
      simp only [lastb] at hi2
      by_cases e : f k < f (k + 1)
      · left
        rw [if_pos (by rw [clt (by omega) (by omega)]; exact e)]
        rw [if_pos (decide_eq_true e)] at hi2
        rw [hi2]
      · right
        rw [if_neg (by rw [clt (by omega) (by omega)]; exact e)]
        rw [if_neg (by rw [decide_eq_false e]; decide)] at hi2
        exact ⟨rfl, hi2⟩
  rcases nxt_c h8 f with ⟨p1, p2, -⟩ | ⟨i, j, hp, p1, p2, p3⟩
  · refine Or.inl ⟨p2, ?_⟩
    rw [pre, p1]; rfl
  · right
    have hp0 := hp
    obtain ⟨q1, q2, q3, q4, q5, q6, q7⟩ := hp
    obtain ⟨gi, bi'⟩ := hf i (by omega)
    have e81 : f_St_next_J37 31 (nI i) μ = f_St_next_J81 31 (nI i) (pvj f i (cN c)) μ := by
      unfold f_St_next_J37
      rw [if_pos (show (0 : Int32) ≤ nI i from nI_pos' (by omega)), rR_31_0 hw, bsome, rI_9 hw, bsome, hx, ← nI_p]
      refine dn (cN c) (fun k => pvj f i (cN c) = lastb (fun j => decide (f i < f j)) k ∧ i + 1 < k) (fun n x => f_St_next_L53 31 (nI i) μ n x) _ (fun n x hx0 hi2 => absurd hi2.2 (by omega)) (fun n k hk hi2 => ?_) (cN c) FU (Nat.le_refl _) (by unfold FU; omega) ⟨rfl, by omega⟩
      show f_St_next_L53 31 (nI i) μ (n + 1) (nI k) = _ ∨ f_St_next_L53 31 (nI i) μ (n + 1) (nI k) = f_St_next_L53 31 (nI i) μ n (nI k + (-1)) ∧ _
      obtain ⟨hi2, hi3⟩ := hi2
      simp only [lastb] at hi2
      obtain ⟨g0, b0⟩ := hf k (by omega)
      rw [e_St_next_L53, nI_1]
      by_cases e0 : k ≤ i + 1
      · left
        rw [if_pos (by rw [cle (by omega) (by omega)]; exact e0)]
        have : k = i + 1 := by omega
        subst this
        rw [if_pos (decide_eq_true q2)] at hi2
        rw [hi2]
      · rw [if_neg (by rw [cle (by omega) (by omega)]; exact e0), rR_31_2 hw, bsome, aI_32 hw (by omega), bsome, bsome, aI_32 hw (by omega), bsome, g0, gi]
        by_cases e : f i < f k
        · left
          rw [if_pos (by rw [clt (by omega) (by omega)]; exact e)]
          rw [if_pos (decide_eq_true e)] at hi2
          rw [hi2]
        · right
          rw [if_neg (by rw [clt (by omega) (by omega)]; exact e)]
          rw [if_neg (by rw [decide_eq_false e]; decide)] at hi2
          exact ⟨rfl, hi2, by omega⟩
    obtain ⟨m1, r1, s1, f1⟩ := s_swap hw h8 hf (show i < cN c by omega) q5
    obtain ⟨m2, r2, s2, f2⟩ := s_sort hc (s1.wf hw) (by rw [s1.gI 9 (Pc1_ne (by decide))]; exact hx) (a := i + 1) (by omega) f1
    rw [srt_rvf (npr_dsc hp0) (by omega)] at f2
    refine ⟨_, m2, p3, rk_next hp0, ?_, s1.tr s2, f2⟩
    rw [pre, p1, e81, p2]
    unfold f_St_next_J81
    rw [r1, bsome, nI_1, r2, bsome]
