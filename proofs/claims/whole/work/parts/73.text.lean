/-! LAYER 2: what a text gives, whatever its form: the weights of each row of letters -/
def wch : Nat → Nat
  | 0 => 112
  | 1 => 115
  | 2 => 116
  | 3 => 107
  | _ => 100
def wlo (w : Nat) : Int := if w = 4 then -20000 else 0
def whi (w : Nat) : Int := if w = 4 then 20000 else 100
/-- the cells that hold a text -/
def tcl (a : Nat) : Bool := a == 17 || a == 18 || a == 19 || a == 21 || a == 22 || a == 23 || a == 42 || a == 43 || a == 44 || a == 46 || a == 47 || a == 48 || a == 68 || a == 69 || a == 70 || a == 71 || a == 72 || a == 73
/-- the text is the same -/
def TS (μ μ' : MM) : Prop := (Wf μ → Wf μ') ∧ gR μ' 9 8 = gR μ 9 8 ∧ (∀ a, tcl a = true → gI μ' a = gI μ a) ∧ gI μ' 49 27 = gI μ 49 27
theorem TS.rf {μ : MM} : TS μ μ := ⟨id, rfl, fun _ _ => rfl, rfl⟩
theorem TS.tr {μ μ1 μ2 : MM} (h1 : TS μ μ1) (h2 : TS μ1 μ2) : TS μ μ2 := ⟨fun z => h2.1 (h1.1 z), h2.2.1.trans h1.2.1, fun a h => (h2.2.2.1 a h).trans (h1.2.2.1 a h), h2.2.2.2.trans h1.2.2.2⟩
theorem TS.sm {P : Nat → Nat → Bool} {μ μ' : MM} (s : Sm P μ μ') (hP : ∀ a k, (tcl a = true ∨ (a = 49 ∧ k = 27)) → P a k = false) : TS μ μ' :=
  ⟨s.wf, congrFun (s.gRf 9) 8, fun a h => s.gI a (fun k => hP a k (Or.inl h)), (s.2.2 49 27 (hP 49 27 (Or.inr ⟨rfl, rfl⟩))).1⟩
def Pwg (a _k : Nat) : Bool := a == 28 || a == 20 || a == 45
def Pwk (a _k : Nat) : Bool := a == 87 || a == 88
/-- both texts give these weights -/
def TXs (tw : (Nat → Int32) → Nat → Int) (μ : MM) : Prop := (∀ L w, w < 5 → wlo w ≤ tw L w ∧ tw L w ≤ whi w) ∧ ∃ a, gR μ 9 8 = some a ∧ ∀ μ', Wf μ' → TS μ μ' →
  (∀ L : Nat → Int32, (∀ k, k < 12 → gI μ' 27 k = L k) → ∃ μ2, f_Pr_weigh a 27 28 μ' = some μ2 ∧ Sm Pwg μ' μ2 ∧ ∀ w, w < 5 → gI μ2 28 w = oI (tw L w)) ∧
  ∀ L : Nat → Int32, (∀ k, k < 12 → ∀ μ2, Sm Pwk μ' μ2 → f_M_valueOf 49 (nI (chr k)) μ2 = some (L k)) → ∀ w, w < 5 → ∃ μ2, f_M_tells 49 (nI (wch w)) (oI (wlo w)) (oI (whi w)) μ' = some (oI (tw L w), μ2) ∧ Sm Pwk μ' μ2
theorem TXs.ts {tw : (Nat → Int32) → Nat → Int} {μ μ' : MM} (h : TXs tw μ) (s : TS μ μ') : TXs tw μ' := by
  obtain ⟨h1, a, h2, h3⟩ := h
  exact ⟨h1, a, s.2.1.trans h2, fun m hm hs => h3 m hm (s.tr hs)⟩
