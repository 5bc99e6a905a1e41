/-! LAYER 3: the strings and what else was there before -/
theorem two_i {P : Nat → Prop} (h0 : P 0) (h1 : P 1) : ∀ i, i < 2 → P i := fun i hi => by
  rcases (show i = 0 ∨ i = 1 by omega) with rfl | rfl <;> assumption
theorem eq_ref {args : Array Value} {s : State} {t u : Term} {a : Nat} (h : (Cond.eq t u).before args s = true) (ht : t.eval args s none [] s = some (.ref a)) : u.eval args s none [] s = some (.ref a) := by
  cases hv : u.eval args s none [] s with
  | none => simp [Cond.before, Cond.holds, Cond.value, hv, ht] at h
  | some w =>
    cases w <;> simp_all [Cond.before, Cond.holds, Cond.value]
def tmS (i : Nat) : Term := if i = 0 then Term.string "SinkingChoir$Singing" 20 else Term.string "SinkingChoir$Reader" 67
theorem STR0 {args : Array Value} {s : State} (hgv : (Jvm.Cond.and given_1 narrow_1).before args s = true) (hts : ∀ w ∈ lw_tbl, w.before args s = true) : ∃ a : Nat → Nat, ∀ sa : Nat → Nat, (∀ i, i < 4 → sa i = a i) → STR s.heap.size sa s := by
  have hs := flat_of_before _ hgv
  have hA : ∀ a : Nat, a < s.heap.size → ¬ (fun q => s.heap.size ≤ q) a := fun a h => Nat.not_le.mpr h
  obtain ⟨adK, adV, hS, hE⟩ := vk_Sof (args := args) (s := s) (N := 2) (tm := tmS) (len := [12, 5]) (byt := [[98, 118, 105, 107, 102, 104, 106, 117, 114, 110, 111, 120], [112, 115, 116, 107, 100]]) (A := fun q => s.heap.size ≤ q) (two_i (by decide) (by decide)) (two_i (hs _ (by decide +kernel)) (hs _ (by decide +kernel))) (two_i (hs _ (by decide +kernel)) (hs _ (by decide +kernel))) (two_i (hs _ (by decide +kernel)) (hs _ (by decide +kernel))) (two_i (hs _ (by decide +kernel)) (hs _ (by decide +kernel))) (two_i (fun j hj => by
    have hj : j < 12 := hj
    rcases (show j = 0 ∨ j = 1 ∨ j = 2 ∨ j = 3 ∨ j = 4 ∨ j = 5 ∨ j = 6 ∨ j = 7 ∨ j = 8 ∨ j = 9 ∨ j = 10 ∨ j = 11 by omega) with rfl | rfl | rfl | rfl | rfl | rfl | rfl | rfl | rfl | rfl | rfl | rfl <;> exact hs _ (by decide +kernel)) (fun j hj => by
    have hj : j < 5 := hj
    rcases (show j = 0 ∨ j = 1 ∨ j = 2 ∨ j = 3 ∨ j = 4 by omega) with rfl | rfl | rfl | rfl | rfl <;> exact hs _ (by decide +kernel))) (fun i j hi hj hij => by
    rcases (show (i = 0 ∧ j = 1) ∨ (i = 1 ∧ j = 0) by omega) with ⟨rfl, rfl⟩ | ⟨rfl, rfl⟩
    · exact Or.inl (hs _ (by decide +kernel))
    · exact Or.inr (hs _ (by decide +kernel))) hA
  have E0 : (Term.string "SinkingChoir$Singing" 20).eval args s none [] s = some (.ref (adK 0)) := hE 0 (by decide)
  have E1 : (Term.string "SinkingChoir$Reader" 67).eval args s none [] s = some (.ref (adK 1)) := hE 1 (by decide)
  have E2 : (Term.string "SinkingChoir$Reader" 109).eval args s none [] s = some (.ref (adK 0)) := eq_ref (hs (Cond.eq (Term.string "SinkingChoir$Singing" 20) (Term.string "SinkingChoir$Reader" 109)) (by decide +kernel)) E0
  refine ⟨fun i => if i < 2 then adK i else adV (i - 2), fun sa ag => ?_⟩
  have a0 : sa 0 = adK 0 := ag 0 (by decide)
  have a1 : sa 1 = adK 1 := ag 1 (by decide)
  refine ⟨?_, ?_, ?_, ?_, ?_, ?_, ?_, ?_, ?_⟩
  · rw [a0]; exact vk_R.of (hts _ (by decide +kernel)) E0
  · rw [a0]; exact vk_R.of (hts _ (by decide +kernel)) E2
  · rw [a1]; exact vk_R.of (hts _ (by decide +kernel)) E1
  · unfold vk_S at hS ⊢
    have x0 : ∀ i, i < 2 → sa i = adK i := two_i a0 a1
    have x1 : ∀ i, i < 2 → sa (i + 2) = adV i := two_i (ag 2 (by decide)) (ag 3 (by decide))
    obtain ⟨g1, g2⟩ := hS
    refine ⟨fun i hi => ?_, fun i j hi hj e => ?_⟩
    · have := g1 i hi
      rw [← x0 i hi, ← x1 i hi] at this
      exact this
    · refine g2 i j hi hj ?_
      rw [← x0 i hi, ← x0 j hj]; exact e
  · exact va_Zof (args := args) (hts _ (by decide +kernel)) (hts _ (by decide +kernel)) (va_eqt (hs _ (by decide +kernel))) hA
  · exact va_Nw.of rfl (hts _ (by decide +kernel))
  · exact va_Nw.of rfl (hts _ (by decide +kernel))
  · exact va_Nw.of rfl (hts _ (by decide +kernel))
  · exact va_Nw.of rfl (hts _ (by decide +kernel))
