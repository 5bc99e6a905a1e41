/-! LAYER 3: the classes known at the start -/
theorem K_one {args : Array Value} {s : State} (hts : ∀ w ∈ tb, w.before args s = true) : ∀ (k : Nat) (q : vw_C), CLS[k]? = some q → ∃ (cC : ClassId) (iS : Nat → Nat), u_Kn s q.1 q.2.1 q.2.2 cC iS
  | 0, q, h => by cases h; exact u_known (n := 10) hts cf0.2.2.1 (hts _ cf0.2.2.2.2.2.2.1)
  | 1, q, h => by cases h; exact u_known (n := 71) hts cf1.2.2.1 (hts _ cf1.2.2.2.2.2.2.1)
  | 2, q, h => by cases h; exact u_known (n := 13) hts cf2.2.2.1 (hts _ cf2.2.2.2.2.2.2.1)
  | 3, q, h => by cases h; exact u_known (n := 5) hts cf3.2.2.1 (hts _ cf3.2.2.2.2.2.2.1)
  | 4, q, h => by cases h; exact u_known (n := 5) hts cf4.2.2.1 (hts _ cf4.2.2.2.2.2.2.1)
  | 5, q, h => by cases h; exact u_known (n := 8) hts cf5.2.2.1 (hts _ cf5.2.2.2.2.2.2.1)
  | 6, q, h => by cases h; exact u_known (n := 5) hts cf6.2.2.1 (hts _ cf6.2.2.2.2.2.2.1)
  | 7, q, h => by cases h; exact u_known (n := 2) hts cf7.2.2.1 (hts _ cf7.2.2.2.2.2.2.1)
  | 8, q, h => by cases h; exact u_known (n := 7) hts cf8.2.2.1 (hts _ cf8.2.2.2.2.2.2.1)
  | 9, q, h => by cases h; exact u_known (n := 15) hts cf9.2.2.1 (hts _ cf9.2.2.2.2.2.2.1)
  | 10, q, h => by cases h; exact u_known (n := 7) hts cf10.2.2.1 (hts _ cf10.2.2.2.2.2.2.1)
  | 11, q, h => by cases h; exact u_known (n := 10) hts cf11.2.2.1 (hts _ cf11.2.2.2.2.2.2.1)
  | k + 12, q, h => by cases h
theorem K_all {args : Array Value} {s : State} (hts : ∀ w ∈ tb, w.before args s = true) : ∃ D : va_G, ∀ (k : Nat) (q : vw_C), CLS[k]? = some q → u_Kn s q.1 q.2.1 q.2.2 (D.1 k) (D.2 k) := by
  obtain ⟨c0, i0, -⟩ := K_one hts 0 _ rfl
  have h : ∀ k : Nat, ∃ x : ClassId × (Nat → Nat), ∀ q : vw_C, CLS[k]? = some q → u_Kn s q.1 q.2.1 q.2.2 x.1 x.2 := fun k => by
    cases e : CLS[k]? with
    | none => exact ⟨(c0, i0), fun q hq => by cases hq⟩
    | some q =>
      obtain ⟨c, i, hc⟩ := K_one hts k q e
      exact ⟨(c, i), fun q' hq => by cases hq; exact hc⟩
  exact ⟨((fun k => (Classical.choose (h k)).1), fun k => (Classical.choose (h k)).2), fun k q hq => Classical.choose_spec (h k) q hq⟩
theorem K_arr {args : Array Value} {s : State} {ty : FieldType} (h : (Cond.arrayClass ty).before args s = true) : ∃ cA : ClassId, ArrOfT s cA ty ∧ s.vm.findClass ("[" ++ ty.toString) = some cA := by
  obtain ⟨c, k, comp, h1, h2, h3⟩ := Cond.arrayClass_spec h
  exact ⟨c, fun n z => ⟨fun k h => (by cases h), k, h2, comp, h3⟩, h1⟩
theorem K_start {args : Array Value} {s : State} (hts : ∀ w ∈ tb, w.before args s = true) : ∃ (D : va_G) (tc : Nat → ClassId), va_K D CLS (TYS tc) s := by
  obtain ⟨D, hD⟩ := K_all hts
  obtain ⟨a0, x0, y0⟩ := K_arr (hts _ ac_int)
  obtain ⟨a1, x1, y1⟩ := K_arr (hts _ ac_byte)
  obtain ⟨a2, x2, y2⟩ := K_arr (hts _ ac_boolean)
  obtain ⟨a3, x3, y3⟩ := K_arr (hts _ ac_long)
  refine ⟨D, fun k => if k = 0 then a0 else if k = 1 then a1 else if k = 2 then a2 else a3, hD, fun k q hq => ?_⟩
  match k, hq with
  | 0, hq => cases hq; exact ⟨x0, y0⟩
  | 1, hq => cases hq; exact ⟨x1, y1⟩
  | 2, hq => cases hq; exact ⟨x2, y2⟩
  | 3, hq => cases hq; exact ⟨x3, y3⟩
  | k + 4, hq => cases hq
