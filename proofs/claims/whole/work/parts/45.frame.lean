/-! LAYER 2: what stays -/
/-- the memories agree but where P allows -/
def Sm (P : Nat → Nat → Bool) (μ μ' : MM) : Prop := μ'.1 = μ.1 ∧ μ'.2.2.2 = μ.2.2.2 ∧ ∀ a k, P a k = false → gI μ' a k = gI μ a k ∧ gL μ' a k = gL μ a k
theorem Sm.rf {P : Nat → Nat → Bool} {μ : MM} : Sm P μ μ := ⟨rfl, rfl, fun _ _ _ => ⟨rfl, rfl⟩⟩
theorem Sm.tr {P : Nat → Nat → Bool} {μ μ1 μ2 : MM} (h1 : Sm P μ μ1) (h2 : Sm P μ1 μ2) : Sm P μ μ2 :=
  ⟨h2.1.trans h1.1, h2.2.1.trans h1.2.1, fun a k h => ⟨(h2.2.2 a k h).1.trans (h1.2.2 a k h).1, (h2.2.2 a k h).2.trans (h1.2.2 a k h).2⟩⟩
theorem Sm.mono {P P' : Nat → Nat → Bool} {μ μ' : MM} (h : Sm P μ μ') (hp : ∀ a k, P' a k = false → P a k = false) : Sm P' μ μ' := ⟨h.1, h.2.1, fun a k z => h.2.2 a k (hp a k z)⟩
theorem Sm.wf {P : Nat → Nat → Bool} {μ μ' : MM} (h : Sm P μ μ') (w : Wf μ) : Wf μ' := by
  refine ⟨fun i hi => ?_, fun q hq => ?_⟩
  · rw [h.1]; exact w.1 i hi
  · have := w.2 q hq
    unfold gR at this ⊢
    rw [h.2.1]; exact this
theorem Sm.ww {P : Nat → Nat → Bool} {μ μ' : MM} (h : Sm P μ μ') (w : Ww μ) : Ww μ' := by
  refine ⟨fun i hi => ?_, fun q hq => ?_⟩
  · rw [h.1]; exact w.1 i hi
  · have := w.2 q hq
    unfold gR at this ⊢
    rw [h.2.1]; exact this
theorem Sm.gI {P : Nat → Nat → Bool} {μ μ' : MM} (h : Sm P μ μ') (a : Nat) (ha : ∀ k, P a k = false) : gI μ' a = gI μ a := funext fun k => (h.2.2 a k (ha k)).1
theorem Sm.gL {P : Nat → Nat → Bool} {μ μ' : MM} (h : Sm P μ μ') (a : Nat) (ha : ∀ k, P a k = false) : gL μ' a = gL μ a := funext fun k => (h.2.2 a k (ha k)).2
theorem Sm.gRf {P : Nat → Nat → Bool} {μ μ' : MM} (h : Sm P μ μ') (a : Nat) : gR μ' a = gR μ a := by unfold gR; rw [h.2.1]
theorem gI_sF_ne {μ : MM} {a c : Nat} {f : Nat → Int32} (h : c ≠ a) : gI (sF μ a f) c = gI μ c := by funext k; simp [gI, sF, h]
theorem gI_sI_ne {μ : MM} {a c k : Nat} {v : Int32} (h : c ≠ a) : gI (sI μ a k v) c = gI μ c := gI_sF_ne h
theorem gI_sI {μ : MM} {a k : Nat} {v : Int32} : gI (sI μ a k v) a = upd (gI μ a) k v := gI_sF
theorem gL_sL_ne {μ : MM} {a c k : Nat} {v : Int64} (h : c ≠ a) : gL (sL μ a k v) c = gL μ c := by funext k; simp [gL, sL, sG, h]
theorem gL_sL {μ : MM} {a k : Nat} {v : Int64} : gL (sL μ a k v) a = vp_updL (gL μ a) k v := gL_sG
theorem gL_sI {μ : MM} {a c k : Nat} {v : Int32} : gL (sI μ a k v) c = gL μ c := rfl
theorem gI_sL {μ : MM} {a c k : Nat} {v : Int64} : gI (sL μ a k v) c = gI μ c := rfl
theorem Sm.sI {P : Nat → Nat → Bool} {μ : MM} {a k : Nat} {v : Int32} (hp : P a k = true) : Sm P μ (sI μ a k v) := by
  refine ⟨rfl, rfl, fun c j h => ⟨?_, rfl⟩⟩
  by_cases hc : c = a
  · subst hc
    rw [gI_sI]
    unfold upd
    rw [if_neg]
    intro e
    subst e
    rw [hp] at h; cases h
  · rw [gI_sI_ne hc]
theorem Sm.sF {P : Nat → Nat → Bool} {μ : MM} {a : Nat} {f : Nat → Int32} (hp : ∀ k, P a k = true) : Sm P μ (sF μ a f) := by
  refine ⟨rfl, rfl, fun c j h => ⟨?_, rfl⟩⟩
  by_cases hc : c = a
  · subst hc
    rw [hp] at h; cases h
  · rw [gI_sF_ne hc]
theorem Sm.sL {P : Nat → Nat → Bool} {μ : MM} {a k : Nat} {v : Int64} (hp : P a k = true) : Sm P μ (sL μ a k v) := by
  refine ⟨rfl, rfl, fun c j h => ⟨rfl, ?_⟩⟩
  by_cases hc : c = a
  · subst hc
    rw [gL_sL]
    unfold vp_updL
    rw [if_neg]
    intro e
    subst e
    rw [hp] at h; cases h
  · rw [gL_sL_ne hc]
theorem FU_s (k : Nat) (hk : k ≤ 1000000000) : FU = (1000000000 - k) + k := by unfold FU; omega
