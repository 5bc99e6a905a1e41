/-! LAYER 2: the reader's hand: looking, going on, a fault, a step put down -/
def isPr (a : Nat) : Prop := a = 17 ∨ a = 42
section
variable {a : Nat} {μ : MM}
theorem pr_kO (h : isPr a) (w : Wf μ) : kO μ a 5 = some () := by
  rcases h with rfl | rfl
  · exact kO_17 w
  · exact kO_42 w
theorem pr_rI (h : isPr a) (w : Wf μ) {k : Nat} : rI μ a 5 k = some (gI μ a k) := by
  rcases h with rfl | rfl
  · exact rI_17 w
  · exact rI_42 w
theorem pr_pI (h : isPr a) (w : Wf μ) {k : Nat} {v : Int32} : pI μ a 5 k v = some (sI μ a k v) := by
  rcases h with rfl | rfl
  · exact pI_17 w
  · exact pI_42 w
theorem pr_r0 (h : isPr a) (w : Wf μ) : rR μ a 5 0 = some (a + 1) := by
  rcases h with rfl | rfl
  · exact rR_17_0 w
  · exact rR_42_0 w
theorem pr_r1 (h : isPr a) (w : Wf μ) : rR μ a 5 1 = some (a + 2) := by
  rcases h with rfl | rfl
  · exact rR_17_1 w
  · exact rR_42_1 w
theorem pr_r2 (h : isPr a) (w : Wf μ) : rR μ a 5 2 = some (a + 3) := by
  rcases h with rfl | rfl
  · exact rR_17_2 w
  · exact rR_42_2 w
theorem pr_r3 (h : isPr a) (w : Wf μ) : rR μ a 5 3 = some (a + 4) := by
  rcases h with rfl | rfl
  · exact rR_17_3 w
  · exact rR_42_3 w
theorem pr_r4 (h : isPr a) (w : Wf μ) : rR μ a 5 4 = some (a + 5) := by
  rcases h with rfl | rfl
  · exact rR_17_4 w
  · exact rR_42_4 w
theorem pr_r5 (h : isPr a) (w : Wf μ) : rR μ a 5 5 = some (a + 6) := by
  rcases h with rfl | rfl
  · exact rR_17_5 w
  · exact rR_42_5 w
theorem pr_a1 (h : isPr a) (w : Wf μ) {k : Nat} (hk : k < 200) : aI μ (a + 1) (nI k) = some (gI μ (a + 1) k) := by
  rcases h with rfl | rfl
  · exact aI_18 w hk
  · exact aI_43 w hk
theorem pr_a2 (h : isPr a) (w : Wf μ) {k : Nat} (hk : k < 200) : aI μ (a + 2) (nI k) = some (gI μ (a + 2) k) := by
  rcases h with rfl | rfl
  · exact aI_19 w hk
  · exact aI_44 w hk
theorem pr_a3 (h : isPr a) (w : Wf μ) {k : Nat} (hk : k < 64) : aI μ (a + 3) (nI k) = some (gI μ (a + 3) k) := by
  rcases h with rfl | rfl
  · exact aI_20 w hk
  · exact aI_45 w hk
theorem pr_a4 (h : isPr a) (w : Wf μ) {k : Nat} (hk : k < 14) : aI μ (a + 4) (nI k) = some (gI μ (a + 4) k) := by
  rcases h with rfl | rfl
  · exact aI_21 w hk
  · exact aI_46 w hk
theorem pr_a5 (h : isPr a) (w : Wf μ) {k : Nat} (hk : k < 15) : aI μ (a + 5) (nI k) = some (gI μ (a + 5) k) := by
  rcases h with rfl | rfl
  · exact aI_22 w hk
  · exact aI_47 w hk
theorem pr_a6 (h : isPr a) (w : Wf μ) {k : Nat} (hk : k < 14) : aI μ (a + 6) (nI k) = some (gI μ (a + 6) k) := by
  rcases h with rfl | rfl
  · exact aI_23 w hk
  · exact aI_48 w hk
theorem pr_u1 (h : isPr a) (w : Wf μ) {k : Nat} {v : Int32} (hk : k < 200) : uI μ (a + 1) (nI k) v = some (sI μ (a + 1) k v) := by
  rcases h with rfl | rfl
  · exact uI_18 w hk
  · exact uI_43 w hk
theorem pr_u2 (h : isPr a) (w : Wf μ) {k : Nat} {v : Int32} (hk : k < 200) : uI μ (a + 2) (nI k) v = some (sI μ (a + 2) k v) := by
  rcases h with rfl | rfl
  · exact uI_19 w hk
  · exact uI_44 w hk
theorem pr_u3 (h : isPr a) (w : Wf μ) {k : Nat} {v : Int32} (hk : k < 64) : uI μ (a + 3) (nI k) v = some (sI μ (a + 3) k v) := by
  rcases h with rfl | rfl
  · exact uI_20 w hk
  · exact uI_45 w hk
theorem pr_u4 (h : isPr a) (w : Wf μ) {k : Nat} {v : Int32} (hk : k < 14) : uI μ (a + 4) (nI k) v = some (sI μ (a + 4) k v) := by
  rcases h with rfl | rfl
  · exact uI_21 w hk
  · exact uI_46 w hk
theorem pr_u5 (h : isPr a) (w : Wf μ) {k : Nat} {v : Int32} (hk : k < 15) : uI μ (a + 5) (nI k) v = some (sI μ (a + 5) k v) := by
  rcases h with rfl | rfl
  · exact uI_22 w hk
  · exact uI_47 w hk
theorem pr_u6 (h : isPr a) (w : Wf μ) {k : Nat} {v : Int32} (hk : k < 14) : uI μ (a + 6) (nI k) v = some (sI μ (a + 6) k v) := by
  rcases h with rfl | rfl
  · exact uI_23 w hk
  · exact uI_48 w hk
theorem pr_N1 (h : isPr a) (w : Wf μ) : aN μ (a + 1) = some (nI 200) := by
  rcases h with rfl | rfl
  · exact aN_18 w
  · exact aN_43 w
end
def hx (h : Nat → Nat) (n at_ : Nat) : Int32 := if at_ < n then nI (h at_) else -1
def HB (h : Nat → Nat) (n : Nat) : Prop := n ≤ 200 ∧ (∀ j, h j < 256) ∧ ∀ j, n ≤ j → h j = 0
theorem hxi {h : Nat → Nat} {n at_ : Nat} (B : HB h n) (v : Int32) (c : Nat) (hv : v = nI c) (h0 : 0 < c) (hc : c < 256) : hx h n at_ = v ↔ h at_ = c := by
  unfold hx
  subst hv
  by_cases e : at_ < n
  · rw [if_pos e]
    exact nI_eq (by have := B.2.1 at_; omega) (by omega)
  · rw [if_neg e, B.2.2 at_ (by omega)]
    exact ⟨fun q => absurd q.symm (nI_ne_m1 (by omega)), fun q => by omega⟩
theorem hx_lt {h : Nat → Nat} {n at_ : Nat} (B : HB h n) (e : ¬ h at_ = 0) : at_ < n := by
  rcases Nat.lt_or_ge at_ n with z | z
  · exact z
  · exact absurd (B.2.2 at_ z) e
def Pps (a x k : Nat) : Bool := (x == 40 && (k == 3 || k == 4)) || (x == a && k == 6) || x == a + 1 || x == a + 2
def RX (a : Nat) (h : Nat → Nat) (n at_ k : Nat) (μ : MM) : Prop := Wf μ ∧ gR μ 40 1 = some a ∧ gI μ 40 2 = nI n ∧ gI μ 40 3 = nI at_ ∧ gI μ 40 4 = 0 ∧ gI μ a 6 = nI k ∧ (∀ j, j < n → gI μ 41 j = nI (h j)) ∧ k ≤ at_ ∧ at_ ≤ n
def FZ (a z : Nat) (μ : MM) : Prop := Wf μ ∧ gR μ 40 1 = some a ∧ gI μ 40 4 = nI z ∧ 0 < z ∧ z < 10000 ∧ ∃ k, k ≤ 200 ∧ gI μ a 6 = nI k
theorem Pps_3 {a : Nat} : Pps a 40 3 = true := rfl
theorem Pps_4 {a : Nat} : Pps a 40 4 = true := rfl
theorem Pps_6 {a : Nat} : Pps a a 6 = true := by simp [Pps]
theorem Pps_a1 {a k : Nat} : Pps a (a + 1) k = true := by simp [Pps]
theorem Pps_a2 {a k : Nat} : Pps a (a + 2) k = true := by simp [Pps]
theorem isPr_ne {a : Nat} (h : isPr a) : ¬ a = 40 ∧ ¬ a + 1 = 40 ∧ ¬ a + 2 = 40 ∧ ¬ (41 = a ∨ 41 = a + 1 ∨ 41 = a + 2) := by
  rcases h with rfl | rfl <;> decide
section
variable {a : Nat} {h : Nat → Nat} {n at_ k z : Nat} {μ : MM}
theorem s_here (r : RX a h n at_ k μ) (B : HB h n) : f_Re_here 40 μ = some (hx h n at_) := by
  obtain ⟨w, r1, r2, r3, r4, r5, r6, r7, r8⟩ := r
  have := B.1
  unfold f_Re_here hx
  rw [kO_40 w, bsome, rI_40 w, bsome, r4, if_pos rfl, rI_40 w, bsome, r3, rI_40 w, bsome, r2]
  by_cases e : at_ < n
  · rw [if_neg (by rw [cle (by omega) (by omega)]; omega), if_pos e, rR_40_0 w, bsome, bsome, aI_41 w (by omega), bsome, r6 _ e]
  · rw [if_pos (by rw [cle (by omega) (by omega)]; omega), if_neg e]
theorem s_hereF (f : FZ a z μ) : f_Re_here 40 μ = some (-1) := by
  obtain ⟨w, r1, r4, h0, h1, -⟩ := f
  unfold f_Re_here
  rw [kO_40 w, bsome, rI_40 w, bsome, r4, if_neg]
  intro q
  have := congrArg Int32.toInt q
  rw [nI_toInt (by omega)] at this
  have h2 : (0 : Int32).toInt = 0 := by decide
  omega
/-- going on by one -/
theorem adv_RX (pr : isPr a) (B : HB h n) (r : RX a h n at_ k μ) (e : at_ < n) : pI μ 40 6 3 (gI μ 40 3 + 1) = some (sI μ 40 3 (nI (at_ + 1))) ∧ RX a h n (at_ + 1) k (sI μ 40 3 (nI (at_ + 1))) ∧ Sm (Pps a) μ (sI μ 40 3 (nI (at_ + 1))) := by
  obtain ⟨w, r1, r2, r3, r4, r5, r6, r7, r8⟩ := r
  have s : Sm (Pps a) μ (sI μ 40 3 (nI (at_ + 1))) := Sm.sI Pps_3
  refine ⟨?_, ⟨s.wf w, ?_, ?_, ?_, ?_, ?_, fun j hj => ?_, by omega, by omega⟩, s⟩
  · rw [r3, nI_1, pI_40 w]
  · rw [s.gRf 40]; exact r1
  · rw [gI_sI]; exact r2
  · rw [gI_sI]; simp [upd]
  · rw [gI_sI]; exact r4
  · rw [gI_sI_ne (isPr_ne pr).1]; exact r5
  · rw [gI_sI_ne (by decide)]; exact r6 j hj
theorem s_adv (pr : isPr a) (B : HB h n) (r : RX a h n at_ k μ) (e : at_ < n) : ∃ μ', pI μ 40 6 3 (gI μ 40 3 + 1) = some μ' ∧ RX a h n (at_ + 1) k μ' ∧ Sm (Pps a) μ μ' ∧ gI μ' (a + 1) = gI μ (a + 1) ∧ gI μ' (a + 2) = gI μ (a + 2) := by
  obtain ⟨q1, q2, q3⟩ := adv_RX pr B r e
  obtain ⟨n1, n2, n3, n4⟩ := isPr_ne pr
  exact ⟨_, q1, q2, q3, gI_sI_ne n2, gI_sI_ne n3⟩
theorem nI_n0 {z : Nat} (h0 : 0 < z) (h1 : z < 2 ^ 31) : ¬ nI z = 0 := by
  intro q
  have := congrArg Int32.toInt q
  rw [nI_toInt h1] at this
  have h2 : (0 : Int32).toInt = 0 := by decide
  omega
theorem s_fail (pr : isPr a) (B : HB h n) (r : RX a h n at_ k μ) (f : Nat) (f0 : 0 < f) (f9 : f ≤ 9) (x1 : Int32) (e : x1 = nI f) : ∃ μ', f_Re_fail 40 x1 μ = some μ' ∧ FZ a (1000 * f + at_) μ' ∧ Sm (Pps a) μ μ' := by
  obtain ⟨w, r1, r2, r3, r4, r5, r6, r7, r8⟩ := r
  subst e
  have b := B.1
  have s : Sm (Pps a) μ (sI μ 40 4 (nI (1000 * f + at_))) := Sm.sI Pps_4
  refine ⟨_, ?_, ⟨s.wf w, ?_, ?_, by omega, by omega, k, by omega, ?_⟩, s⟩
  · unfold f_Re_fail f_Re_fail_J25
    rw [kO_40 w, bsome, rI_40 w, bsome, r4, if_pos rfl, rI_40 w, bsome, r3, show (1000 : Int32) = nI 1000 from rfl, pk_mul, nI_add, pI_40 w, bsome]
  · rw [s.gRf 40]; exact r1
  · rw [gI_sI]; simp [upd]
  · rw [gI_sI_ne (isPr_ne pr).1]; exact r5
theorem s_failF (f : FZ a z μ) (pr : isPr a) (x1 : Int32) : ∃ μ', f_Re_fail 40 x1 μ = some μ' ∧ FZ a z μ' ∧ Sm (Pps a) μ μ' := by
  obtain ⟨w, r1, r4, h0, h1, k, k1, k2⟩ := f
  have s : Sm (Pps a) μ (sI μ 40 4 (nI z)) := Sm.sI Pps_4
  refine ⟨_, ?_, ⟨s.wf w, ?_, ?_, h0, h1, k, k1, ?_⟩, s⟩
  · unfold f_Re_fail f_Re_fail_J25
    rw [kO_40 w, bsome, rI_40 w, bsome, r4, if_neg (nI_n0 h0 (by omega)), bsome, pI_40 w, bsome]
  · rw [s.gRf 40]; exact r1
  · rw [gI_sI]; simp [upd]
  · rw [gI_sI_ne (isPr_ne pr).1]; exact k2
/-- a step is put down -/
theorem s_padd (pr : isPr a) (B : HB h n) (r : RX a h n at_ k μ) (hk : k < at_) (x1 x2 : Int32) : ∃ μ', f_Pr_add a x1 x2 μ = some (nI k, μ') ∧ RX a h n at_ (k + 1) μ' ∧ Sm (Pps a) μ μ' ∧ gI μ' (a + 1) = upd (gI μ (a + 1)) k x1 ∧ gI μ' (a + 2) = upd (gI μ (a + 2)) k x2 := by
  obtain ⟨w, r1, r2, r3, r4, r5, r6, r7, r8⟩ := r
  have b := B.1
  obtain ⟨m1, e1⟩ : ∃ x, x = sI μ (a + 1) k x1 := ⟨_, rfl⟩
  obtain ⟨m2, e2⟩ : ∃ x, x = sI m1 (a + 2) k x2 := ⟨_, rfl⟩
  obtain ⟨m3, e3⟩ : ∃ x, x = sI m2 a 6 (nI (k + 1)) := ⟨_, rfl⟩
  have s1 : Sm (Pps a) μ m1 := by rw [e1]; exact Sm.sI Pps_a1
  have s2 : Sm (Pps a) μ m2 := by rw [e2]; exact s1.tr (Sm.sI Pps_a2)
  have s3 : Sm (Pps a) μ m3 := by rw [e3]; exact s2.tr (Sm.sI Pps_6)
  obtain ⟨n1, n2, n3, n4⟩ := isPr_ne pr
  have g1 : gI m1 a = gI μ a := by rw [e1, gI_sI_ne (by omega)]
  have g2 : gI m2 a = gI μ a := by rw [e2, gI_sI_ne (by omega), g1]
  have g40 : gI m3 40 = gI μ 40 := by rw [e3, gI_sI_ne (by omega), e2, gI_sI_ne (by omega), e1, gI_sI_ne (by omega)]
  have g41 : gI m3 41 = gI μ 41 := by rw [e3, gI_sI_ne (by omega), e2, gI_sI_ne (by omega), e1, gI_sI_ne (by omega)]
  have g6 : gI m3 a 6 = nI (k + 1) := by rw [e3, gI_sI]; simp [upd]
  refine ⟨m3, ?_, ⟨s3.wf w, ?_, ?_, ?_, ?_, g6, fun j hj => ?_, by omega, r8⟩, s3, ?_, ?_⟩
  · unfold f_Pr_add f_Pr_add_J42
    rw [pr_kO pr w, bsome, pr_rI pr w, bsome, pr_r0 pr w, bsome, pr_N1 pr w, bsome, r5, if_neg (by rw [cle (by omega) (by omega)]; omega), bsome, bsome, pr_u1 pr w (by omega), bsome, ← e1, pr_r1 pr (s1.wf w), bsome, pr_rI pr (s1.wf w), bsome, g1, r5, pr_u2 pr (s1.wf w) (by omega), bsome, ← e2, pr_rI pr (s2.wf w), bsome, g2, r5, nI_1, pr_pI pr (s2.wf w), bsome, ← e3, pr_rI pr (s3.wf w), bsome, g6, nI_pred']
  · rw [s3.gRf 40]; exact r1
  · rw [g40]; exact r2
  · rw [g40]; exact r3
  · rw [g40]; exact r4
  · rw [g41]; exact r6 j hj
  · rw [e3, gI_sI_ne (by omega), e2, gI_sI_ne (by omega), e1, gI_sI]
  · rw [e3, gI_sI_ne (by omega), e2, gI_sI, e1, gI_sI_ne (by omega)]
theorem s_paddF (pr : isPr a) (f : FZ a z μ) (x1 x2 : Int32) : ∃ y μ', f_Pr_add a x1 x2 μ = some (y, μ') ∧ FZ a z μ' ∧ Sm (Pps a) μ μ' := by
  obtain ⟨w, r1, r4, h0, h1, k, k1, k2⟩ := f
  obtain ⟨n1, n2, n3, n4⟩ := isPr_ne pr
  rcases Nat.lt_or_ge k 200 with hk | hk
  · obtain ⟨m1, e1⟩ : ∃ x, x = sI μ (a + 1) k x1 := ⟨_, rfl⟩
    obtain ⟨m2, e2⟩ : ∃ x, x = sI m1 (a + 2) k x2 := ⟨_, rfl⟩
    obtain ⟨m3, e3⟩ : ∃ x, x = sI m2 a 6 (nI (k + 1)) := ⟨_, rfl⟩
    have s1 : Sm (Pps a) μ m1 := by rw [e1]; exact Sm.sI Pps_a1
    have s2 : Sm (Pps a) μ m2 := by rw [e2]; exact s1.tr (Sm.sI Pps_a2)
    have s3 : Sm (Pps a) μ m3 := by rw [e3]; exact s2.tr (Sm.sI Pps_6)
    have g1 : gI m1 a = gI μ a := by rw [e1, gI_sI_ne (by omega)]
    have g2 : gI m2 a = gI μ a := by rw [e2, gI_sI_ne (by omega), g1]
    have g40 : gI m3 40 = gI μ 40 := by rw [e3, gI_sI_ne (by omega), e2, gI_sI_ne (by omega), e1, gI_sI_ne (by omega)]
    have g6 : gI m3 a 6 = nI (k + 1) := by rw [e3, gI_sI]; simp [upd]
    refine ⟨nI k, m3, ?_, ⟨s3.wf w, ?_, ?_, h0, h1, k + 1, by omega, g6⟩, s3⟩
    · unfold f_Pr_add f_Pr_add_J42
      rw [pr_kO pr w, bsome, pr_rI pr w, bsome, pr_r0 pr w, bsome, pr_N1 pr w, bsome, k2, if_neg (by rw [cle (by omega) (by omega)]; omega), bsome, bsome, pr_u1 pr w (by omega), bsome, ← e1, pr_r1 pr (s1.wf w), bsome, pr_rI pr (s1.wf w), bsome, g1, k2, pr_u2 pr (s1.wf w) (by omega), bsome, ← e2, pr_rI pr (s2.wf w), bsome, g2, k2, nI_1, pr_pI pr (s2.wf w), bsome, ← e3, pr_rI pr (s3.wf w), bsome, g6, nI_pred']
    · rw [s3.gRf 40]; exact r1
    · rw [g40]; exact r4
  · refine ⟨nI k - 1, μ, ?_, ⟨w, r1, r4, h0, h1, k, k1, k2⟩, Sm.rf⟩
    unfold f_Pr_add f_Pr_add_J42
    rw [pr_kO pr w, bsome, pr_rI pr w, bsome, pr_r0 pr w, bsome, pr_N1 pr w, bsome, k2, if_pos (by rw [cle (by omega) (by omega)]; omega), bsome]
/-- a jump lands -/
theorem s_land (pr : isPr a) (B : HB h n) (r : RX a h n at_ k μ) {j : Nat} (hj : j < k) : ∃ μ', f_Pr_land a (nI j) μ = some μ' ∧ RX a h n at_ k μ' ∧ Sm (Pps a) μ μ' ∧ gI μ' (a + 1) = gI μ (a + 1) ∧ gI μ' (a + 2) = upd (gI μ (a + 2)) j (nI k) := by
  obtain ⟨w, r1, r2, r3, r4, r5, r6, r7, r8⟩ := r
  have b := B.1
  obtain ⟨n1, n2, n3, n4⟩ := isPr_ne pr
  have s : Sm (Pps a) μ (sI μ (a + 2) j (nI k)) := Sm.sI Pps_a2
  have g40 : gI (sI μ (a + 2) j (nI k)) 40 = gI μ 40 := gI_sI_ne (by omega)
  refine ⟨_, ?_, ⟨s.wf w, ?_, ?_, ?_, ?_, ?_, fun i hi => ?_, r7, r8⟩, s, gI_sI_ne (by omega), gI_sI⟩
  · unfold f_Pr_land
    rw [pr_kO pr w, bsome, if_neg (nI_pos (by omega)), pr_rI pr w, bsome, r5, if_neg (by rw [cle (by omega) (by omega)]; omega), pr_r1 pr w, bsome, bsome, pr_u2 pr w (by omega), bsome]
  · rw [s.gRf 40]; exact r1
  · rw [g40]; exact r2
  · rw [g40]; exact r3
  · rw [g40]; exact r4
  · rw [gI_sI_ne (by omega)]; exact r5
  · rw [gI_sI_ne (by omega)]; exact r6 i hi
theorem s_landF (pr : isPr a) (f : FZ a z μ) (x : Int32) : ∃ μ', f_Pr_land a x μ = some μ' ∧ FZ a z μ' ∧ Sm (Pps a) μ μ' := by
  have f0 := f
  obtain ⟨w, r1, r4, h0, h1, k, k1, k2⟩ := f
  obtain ⟨n1, n2, n3, n4⟩ := isPr_ne pr
  unfold f_Pr_land
  rw [pr_kO pr w, bsome]
  rcases ixc k _ rfl (by omega) x with ⟨c, -⟩ | ⟨c1, c2, -⟩ | ⟨c1, c2, -, j, hj, rfl⟩
  · exact ⟨μ, by rw [if_pos c], f0, Sm.rf⟩
  · exact ⟨μ, by rw [if_neg c1, pr_rI pr w, bsome, k2, if_pos c2], f0, Sm.rf⟩
  · have s : Sm (Pps a) μ (sI μ (a + 2) j (nI k)) := Sm.sI Pps_a2
    refine ⟨_, by rw [if_neg c1, pr_rI pr w, bsome, k2, if_neg c2, pr_r1 pr w, bsome, bsome, pr_u2 pr w (by omega), bsome], ⟨s.wf w, ?_, ?_, h0, h1, k, k1, ?_⟩, s⟩
    · rw [s.gRf 40]; exact r1
    · rw [gI_sI_ne (by omega)]; exact r4
    · rw [gI_sI_ne (by omega)]; exact k2
theorem s_take (pr : isPr a) (B : HB h n) (r : RX a h n at_ k μ) (v : Int32) (c : Nat) (hv : v = nI c) (h0 : 0 < c) (hc : c < 256) : (h at_ = c ∧ f_Re_take 40 v μ = some (sI μ 40 3 (nI (at_ + 1))) ∧ RX a h n (at_ + 1) k (sI μ 40 3 (nI (at_ + 1))) ∧ Sm (Pps a) μ (sI μ 40 3 (nI (at_ + 1)))) ∨ (¬ h at_ = c ∧ ∃ μ', f_Re_take 40 v μ = some μ' ∧ FZ a (1000 * 1 + at_) μ' ∧ Sm (Pps a) μ μ') := by
  have i := hxi B v c hv h0 hc (at_ := at_)
  have w := r.1
  by_cases e : h at_ = c
  · obtain ⟨q1, q2, q3⟩ := adv_RX pr B r (hx_lt B (by omega))
    refine Or.inl ⟨e, ?_, q2, q3⟩
    unfold f_Re_take
    rw [kO_40 w, bsome, s_here r B, bsome, if_pos (i.mpr e), rI_40 w, bsome, q1, bsome]
  · obtain ⟨μ', q1, q2, q3⟩ := s_fail pr B r 1 (by decide) (by decide) 1 rfl
    refine Or.inr ⟨e, μ', ?_, q2, q3⟩
    unfold f_Re_take
    rw [kO_40 w, bsome, s_here r B, bsome, if_neg (fun q => e (i.mp q)), q1, bsome]
theorem s_takeF (pr : isPr a) (f : FZ a z μ) (v : Int32) (hv : ¬ (-1 : Int32) = v) : ∃ μ', f_Re_take 40 v μ = some μ' ∧ FZ a z μ' ∧ Sm (Pps a) μ μ' := by
  obtain ⟨μ', q1, q2, q3⟩ := s_failF f pr 1
  refine ⟨μ', ?_, q2, q3⟩
  unfold f_Re_take
  rw [kO_40 f.1, bsome, s_hereF f, bsome, if_neg hv, q1, bsome]
end
theorem ixL : ∀ c, c < 256 → f_Re_indexIn (LIM + 0) (nI c) = some (if lix c < 12 then nI (lix c) else -1) := by decide +kernel
def wix (c : Nat) : Nat := if c = 112 then 0 else if c = 115 then 1 else if c = 116 then 2 else if c = 107 then 3 else if c = 100 then 4 else 5
theorem ixW : ∀ c, c < 256 → f_Re_indexIn (LIM + 1) (nI c) = some (if wix c < 5 then nI (wix c) else -1) := by decide +kernel
theorem ixLm : f_Re_indexIn (LIM + 0) (-1) = some (-1) := by decide +kernel
theorem ixWm : f_Re_indexIn (LIM + 1) (-1) = some (-1) := by decide +kernel
theorem hx_ixL {h : Nat → Nat} {n at_ : Nat} (B : HB h n) : f_Re_indexIn (LIM + 0) (hx h n at_) = some (if lix (h at_) < 12 then nI (lix (h at_)) else -1) := by
  unfold hx
  by_cases e : at_ < n
  · rw [if_pos e]; exact ixL _ (B.2.1 _)
  · rw [if_neg e, B.2.2 at_ (by omega)]; exact ixLm
theorem hx_ixW {h : Nat → Nat} {n at_ : Nat} (B : HB h n) : f_Re_indexIn (LIM + 1) (hx h n at_) = some (if wix (h at_) < 5 then nI (wix (h at_)) else -1) := by
  unfold hx
  by_cases e : at_ < n
  · rw [if_pos e]; exact ixW _ (B.2.1 _)
  · rw [if_neg e, B.2.2 at_ (by omega)]; exact ixWm
theorem dgT : ∀ c, c < 256 → f_Re_isDigit (nI c) = some (bi (isD c)) := by decide +kernel
theorem dgM : f_Re_isDigit (-1) = some 0 := by decide +kernel
theorem hx_dg {h : Nat → Nat} {n at_ : Nat} (B : HB h n) : f_Re_isDigit (hx h n at_) = some (bi (isD (h at_))) := by
  unfold hx
  by_cases e : at_ < n
  · rw [if_pos e]; exact dgT _ (B.2.1 _)
  · rw [if_neg e, B.2.2 at_ (by omega)]; exact dgM
