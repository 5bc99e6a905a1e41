/-! LAYER 2: the reader's hand: looking, going on, a fault, a step put down -/
def isPr (a : Nat) : Prop := a = 17 ∨ a = 42
section
variable {a : Nat} {μ : MM}
theorem pr_kO (h : isPr a) (w : Wf μ) : kO μ a 5 = some () := by
  rcases h with rfl | rfl
  · exact kO_17 w
  · exact kO_42 w
theorem pr_rI (h : isPr a) (w : Wf μ) {k : Nat} : rI μ a 5 k = some (gI μ a k) := by
  rcases h with rfl | rfl
  · exact rI_17 w
  · exact rI_42 w
theorem pr_pI (h : isPr a) (w : Wf μ) {k : Nat} {v : Int32} : pI μ a 5 k v = some (sI μ a k v) := by
  rcases h with rfl | rfl
  · exact pI_17 w
  · exact pI_42 w
theorem pr_r0 (h : isPr a) (w : Wf μ) : rR μ a 5 0 = some (a + 1) := by
  rcases h with rfl | rfl
  · exact rR_17_0 w
  · exact rR_42_0 w
theorem pr_r1 (h : isPr a) (w : Wf μ) : rR μ a 5 1 = some (a + 2) := by
  rcases h with rfl | rfl
  · exact rR_17_1 w
  · exact rR_42_1 w
theorem pr_r2 (h : isPr a) (w : Wf μ) : rR μ a 5 2 = some (a + 3) := by
  rcases h with rfl | rfl
  · exact rR_17_2 w
  · exact rR_42_2 w
theorem pr_r3 (h : isPr a) (w : Wf μ) : rR μ a 5 3 = some (a + 4) := by
  rcases h with rfl | rfl
  · exact rR_17_3 w
  · exact rR_42_3 w
theorem pr_r4 (h : isPr a) (w : Wf μ) : rR μ a 5 4 = some (a + 5) := by
  rcases h with rfl | rfl
  · exact rR_17_4 w
  · exact rR_42_4 w
theorem pr_r5 (h : isPr a) (w : Wf μ) : rR μ a 5 5 = some (a + 6) := by
  rcases h with rfl | rfl
  · exact rR_17_5 w
  · exact rR_42_5 w
theorem pr_a1 (h : isPr a) (w : Wf μ) {k : Nat} (hk : k < 200) : aI μ (a + 1) (nI k) = some (gI μ (a + 1) k) := by
  rcases h with rfl | rfl
  · exact aI_18 w hk
  · exact aI_43 w hk
theorem pr_a2 (h : isPr a) (w : Wf μ) {k : Nat} (hk : k < 200) : aI μ (a + 2) (nI k) = some (gI μ (a + 2) k) := by
  rcases h with rfl | rfl
  · exact aI_19 w hk
  · exact aI_44 w hk
theorem pr_a3 (h : isPr a) (w : Wf μ) {k : Nat} (hk : k < 64) : aI μ (a + 3) (nI k) = some (gI μ (a + 3) k) := by
  rcases h with rfl | rfl
  · exact aI_20 w hk
  · exact aI_45 w hk
theorem pr_a4 (h : isPr a) (w : Wf μ) {k : Nat} (hk : k < 14) : aI μ (a + 4) (nI k) = some (gI μ (a + 4) k) := by
  rcases h with rfl | rfl
  · exact aI_21 w hk
  · exact aI_46 w hk
theorem pr_a5 (h : isPr a) (w : Wf μ) {k : Nat} (hk : k < 15) : aI μ (a + 5) (nI k) = some (gI μ (a + 5) k) := by
  rcases h with rfl | rfl
  · exact aI_22 w hk
  · exact aI_47 w hk
theorem pr_a6 (h : isPr a) (w : Wf μ) {k : Nat} (hk : k < 14) : aI μ (a + 6) (nI k) = some (gI μ (a + 6) k) := by
  rcases h with rfl | rfl
  · exact aI_23 w hk
  · exact aI_48 w hk
theorem pr_u1 (h : isPr a) (w : Wf μ) {k : Nat} {v : Int32} (hk : k < 200) : uI μ (a + 1) (nI k) v = some (sI μ (a + 1) k v) := by
  rcases h with rfl | rfl
  · exact uI_18 w hk
  · exact uI_43 w hk
theorem pr_u2 (h : isPr a) (w : Wf μ) {k : Nat} {v : Int32} (hk : k < 200) : uI μ (a + 2) (nI k) v = some (sI μ (a + 2) k v) := by
  rcases h with rfl | rfl
  · exact uI_19 w hk
  · exact uI_44 w hk
theorem pr_u3 (h : isPr a) (w : Wf μ) {k : Nat} {v : Int32} (hk : k < 64) : uI μ (a + 3) (nI k) v = some (sI μ (a + 3) k v) := by
  rcases h with rfl | rfl
  · exact uI_20 w hk
  · exact uI_45 w hk
theorem pr_u4 (h : isPr a) (w : Wf μ) {k : Nat} {v : Int32} (hk : k < 14) : uI μ (a + 4) (nI k) v = some (sI μ (a + 4) k v) := by
  rcases h with rfl | rfl
  · exact uI_21 w hk
  · exact uI_46 w hk
theorem pr_u5 (h : isPr a) (w : Wf μ) {k : Nat} {v : Int32} (hk : k < 15) : uI μ (a + 5) (nI k) v = some (sI μ (a + 5) k v) := by
  rcases h with rfl | rfl
  · exact uI_22 w hk
  · exact uI_47 w hk
theorem pr_u6 (h : isPr a) (w : Wf μ) {k : Nat} {v : Int32} (hk : k < 14) : uI μ (a + 6) (nI k) v = some (sI μ (a + 6) k v) := by
  rcases h with rfl | rfl
  · exact uI_23 w hk
  · exact uI_48 w hk
theorem pr_N1 (h : isPr a) (w : Wf μ) : aN μ (a + 1) = some (nI 200) := by
  rcases h with rfl | rfl
  · exact aN_18 w
  · exact aN_43 w
end
def hx (h : Nat → Nat) (n at_ : Nat) : Int32 := if at_ < n then nI (h at_) else -1
def HB (h : Nat → Nat) (n : Nat) : Prop := n ≤ 200 ∧ (∀ j, h j < 256) ∧ ∀ j, n ≤ j → h j = 0
theorem hxi {h : Nat → Nat} {n at_ : Nat} (B : HB h n) (v : Int32) (c : Nat) (hv : v = nI c) (h0 : 0 < c) (hc : c < 256) : hx h n at_ = v ↔ h at_ = c := by
  unfold hx
  subst hv
  by_cases e : at_ < n
  · rw [if_pos e]
    exact nI_eq (by have := B.2.1 at_; omega) (by omega)
  · rw [if_neg e, B.2.2 at_ (by omega)]
    exact ⟨fun q => absurd q.symm (nI_ne_m1 (by omega)), fun q => by omega⟩
theorem hx_lt {h : Nat → Nat} {n at_ : Nat} (B : HB h n) (e : ¬ h at_ = 0) : at_ < n := by
  rcases Nat.lt_or_ge at_ n with z | z
  · exact z
  · exact absurd (B.2.2 at_ z) e
def Pps (a x k : Nat) : Bool := (x == 40 && (k == 3 || k == 4)) || (x == a && k == 6) || x == a + 1 || x == a + 2
def RX (a : Nat) (h : Nat → Nat) (n at_ k : Nat) (μ : MM) : Prop := Wf μ ∧ gR μ 40 1 = some a ∧ gI μ 40 2 = nI n ∧ gI μ 40 3 = nI at_ ∧ gI μ 40 4 = 0 ∧ gI μ a 6 = nI k ∧ (∀ j, j < n → gI μ 41 j = nI (h j)) ∧ k ≤ at_ ∧ at_ ≤ n
def FX (a z : Nat) (μ : MM) : Prop := Wf μ ∧ gR μ 40 1 = some a ∧ gI μ 40 4 = nI z ∧ 0 < z ∧ z < 10000 ∧ ∃ k, k ≤ 200 ∧ gI μ a 6 = nI k
section
variable {a : Nat} {h : Nat → Nat} {n at_ k z : Nat} {μ : MM}
theorem Pps_3 : Pps a 40 3 = true := rfl
theorem Pps_4 : Pps a 40 4 = true := rfl
theorem Pps_6 : Pps a a 6 = true := by simp [Pps]
theorem Pps_a1 {k : Nat} : Pps a (a + 1) k = true := by simp [Pps]
theorem Pps_a2 {k : Nat} : Pps a (a + 2) k = true := by simp [Pps]
theorem s_here (r : RX a h n at_ k μ) : f_Re_here 40 μ = some (hx h n at_) := by
  obtain ⟨w, r1, r2, r3, r4, r5, r6, r7, r8⟩ := r
  unfold f_Re_here hx
  rw [kO_40 w, bsome, rI_40 w, bsome, r4, if_pos rfl, rI_40 w, bsome, r3, rI_40 w, bsome, r2]
  sorry
end
