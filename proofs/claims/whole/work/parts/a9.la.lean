/-! LAYER 3: what a call may change, and what stays of the invariant -/
def Ag (P R : Nat → Nat → Bool) (μ μ' : MM) : Prop := (∀ a k, P a k = false → gI μ' a k = gI μ a k ∧ gL μ' a k = gL μ a k) ∧ ∀ a k, R a k = false → gR μ' a k = gR μ a k
def mxm (μ μ' : MM) : MM := (μ'.1, μ.2.1, μ.2.2.1, μ'.2.2.2)
theorem Ag.sm {P R : Nat → Nat → Bool} {μ μ' : MM} (h : Ag P R μ μ') : Sm P (mxm μ μ') μ' := ⟨rfl, rfl, h.1⟩
def R24 (a k : Nat) : Bool := a == 24 && k == 8
theorem Sm.ag {P R : Nat → Nat → Bool} {μ μ' : MM} (h : Sm P μ μ') : Ag P R μ μ' := ⟨h.2.2, fun a k _ => congrFun (h.gRf a) k⟩
theorem Sy.ag {P : Nat → Nat → Bool} {μ μ' : MM} (h : Sy P μ μ') : Ag P R24 μ μ' := by
  obtain ⟨v, s⟩ := h
  refine ⟨s.2.2, fun a k hk => ?_⟩
  rw [congrFun (s.gRf a) k]
  refine gR_sR_o (fun e => ?_)
  rw [e.1, e.2] at hk
  cases hk
theorem Fr.ag {P R : Nat → Nat → Bool} {μ μ' : MM} (h : Fr P R μ μ') : Ag P R μ μ' := ⟨h.2.2, h.2.1⟩
theorem Nf.ag {P : Nat → Nat → Bool} {μ μ' : MM} (h : Nf P μ μ') : Ag P R08 μ μ' := ⟨h.2.2, h.2.1⟩
/-- the cells of the piece; of the singers; of the tape; of the reel; of the text; of the ways -/
def Up (a k : Nat) : Bool := decide (2 ≤ a) && decide (a ≤ 8) || decide (51 ≤ a) && decide (a ≤ 56)
def Ur (a k : Nat) : Bool := a == 39 || a == 50 || (a == 38 && k == 1) || (a == 49 && k == 1)
def Ux (a k : Nat) : Bool := tcl a || (a == 49 && k == 27)
def Uw (a _k : Nat) : Bool := a == 97
def Us (a k : Nat) : Bool := (a == 0 && k == 9) || (a == 31 && (k == 4 || k == 5 || k == 6)) || a == 33
def Off (P U : Nat → Nat → Bool) : Prop := ∀ a k, U a k = true → P a k = false
section
variable {P R : Nat → Nat → Bool} {μ μ' : MM}
theorem Ag.xp {p : PT} (h : Ag P R μ μ') (o : Off P Up) (x : XP p μ) : XP p μ' := by
  have x : XP p (mxm μ μ') := x
  refine x.sm h.sm (fun a k h1 h2 => o a k ?_)
  unfold Up
  rw [decide_eq_true h1, decide_eq_true h2]; rfl
theorem Ag.mp {p : PT} (h : Ag P R μ μ') (o : Off P Up) (x : MP p μ) : MP p μ' := by
  have x : MP p (mxm μ μ') := x
  refine x.sm h.sm (fun a k h1 h2 => o a k ?_)
  unfold Up
  rw [decide_eq_true h1, decide_eq_true h2]
  exact Bool.or_true _
theorem Ag.xg {c : CT} (h : Ag P R μ μ') (o : Off P Pcf) (x : XG c μ) : XG c μ' := by
  have x : XG c (mxm μ μ') := x
  exact x.sm h.sm o
theorem Ag.mg {c : CT} (h : Ag P R μ μ') (o : Off P Pcf) (x : MG c μ) : MG c μ' := by
  have x : MG c (mxm μ μ') := x
  exact x.sm h.sm o
theorem Ag.agI (h : Ag P R μ μ') (a : Nat) (ha : ∀ k, P a k = false) : gI μ' a = gI μ a := funext fun k => (h.1 a k (ha k)).1
theorem Ag.xr {d : RT} (h : Ag P R μ μ') (o : Off P Ptp) (x : XR d μ) : XR d μ' := by
  unfold XR
  rw [h.agI 14 (fun k => o 14 k rfl), h.agI 15 (fun k => o 15 k rfl)]; exact x
theorem Ag.mr {d : RT} (h : Ag P R μ μ') (o : Off P Ptp) (x : MR d μ) : MR d μ' := by
  unfold MR
  rw [h.agI 90 (fun k => o 90 k rfl), h.agI 91 (fun k => o 91 k rfl)]; exact x
theorem Ag.rl {n : Nat} (h : Ag P R μ μ') (o : Off P Ur) (x : RLx n μ) : RLx n μ' := by
  unfold RLx
  rw [(h.1 38 1 (o 38 1 rfl)).1, (h.1 49 1 (o 49 1 rfl)).1, h.agI 39 (fun k => o 39 k rfl), h.agI 50 (fun k => o 50 k rfl)]; exact x
theorem Ag.tx {t : Nat → CLT} {c : Nat} (h : Ag P R μ μ') (o : Off P Ux) (r1 : R 9 8 = false) (r2 : R 40 1 = false) (w : Wf μ → Wf μ') (x : TXP t c μ) : TXP t c μ' := by
  obtain ⟨x1, a, b, x2, x3, x4, x5, x6⟩ := x
  refine ⟨x1.ts ⟨w, h.2 9 8 r1, fun a ha => h.agI a (fun k => o a k ?_), (h.1 49 27 (o 49 27 rfl)).1⟩, a, b, x2, x3, x4, (h.2 9 8 r1).trans x5, (h.2 40 1 r2).trans x6⟩
  unfold Ux; rw [ha]; rfl
theorem Ag.sc {tw : (Nat → Int32) → Nat → Int} {c : CT} {p : PT} {M : Nat} (h : Ag P R μ μ') (o : Off P Us) (x : SC tw c p M μ) : SC tw c p M μ' := by
  obtain ⟨m, f, h1, h2, h3, h4, h5, h6⟩ := x
  refine ⟨m, f, h1, (h.1 0 9 (o 0 9 rfl)).1.trans h2, (h.1 31 6 (o 31 6 rfl)).1.trans h3, h4, h5, fun e => ?_⟩
  obtain ⟨g1, g2, g3, g4⟩ := h6 e
  refine ⟨g1, g2, g3, ?_⟩
  unfold XB2
  rw [(h.1 31 4 (o 31 4 rfl)).2, (h.1 31 5 (o 31 5 rfl)).2, h.agI 33 (fun k => o 33 k rfl)]; exact g4
/-- another version: what was kept is old -/
theorem Ag.sc1 {tw tw' : (Nat → Int32) → Nat → Int} {c c' : CT} {p p' : PT} {M : Nat} (h : Ag P R μ μ') (o : P 31 6 = false) (hv : gI μ' 0 9 = gI μ 0 9 + 1) (x : SC tw c p M μ) : SC tw' c' p' (M + 1) μ' := by
  obtain ⟨m, f, h1, h2, h3, h4, h5, h6⟩ := x
  refine ⟨m + 1, f, by omega, by rw [hv, h2, show (1 : Int32) = nI 1 from rfl, nI_add], (h.1 31 6 o).1.trans h3, h4, by omega, fun e => ?_⟩
  omega
theorem SC.up {tw : (Nat → Int32) → Nat → Int} {c : CT} {p : PT} {M : Nat} (x : SC tw c p M μ) : SC tw c p (M + 1) μ := by
  obtain ⟨m, f, h1, h2⟩ := x
  exact ⟨m, f, by omega, h2⟩
theorem Ag.wy (h : Ag P R μ μ') (o : Off P Uw) (hk : μ'.1 = μ.1) (r : R 0 8 = false) (r2 : ∀ q ∈ RW, R q.1 q.2.1 = false) (x : WY μ) : WY μ' := by
  rcases x with ⟨x1, x2⟩ | ⟨x1, x2, x3, x4⟩
  · exact Or.inl ⟨(h.2 0 8 r).trans x1, by rw [hk]; exact x2⟩
  · refine Or.inr ⟨(h.2 0 8 r).trans x1, ⟨fun i hi => by rw [hk]; exact x2.1 i hi, fun q hq => (h.2 _ _ (r2 q hq)).trans (x2.2 q hq)⟩, fun b hb => ?_, by rw [hk]; exact x4⟩
    rw [h.agI 97 (fun k => o 97 k rfl)]; exact x3 b hb
end
