/-! LAYER 3: how much there will be -/
theorem kinds_of {k k' : List (Nat × Nat)} (hl : k.length = k'.length) (h : ∀ i, i < k'.length → k[i]? = k'[i]?) : k = k' := by
  apply List.ext_getElem?
  intro i
  by_cases q : i < k'.length
  · exact h i q
  · rw [List.getElem?_eq_none (by omega), List.getElem?_eq_none (by omega)]
theorem KS_len : KS.length = 92 := by decide +kernel
theorem J_kinds {M : Nat} {μ : MM} (h : J M μ) : μ.1 = KS ∨ μ.1 = KS ++ KW := by
  obtain ⟨rn, hr, p, c, d, t, tc, h1, h2, h3, h4, h5, h6, h7, h8, h9, h10, h11, h12, h13, h14⟩ := h
  rcases h14 with ⟨-, hn⟩ | ⟨-, ww, -, hn⟩
  · exact Or.inl (kinds_of (by rw [hn, KS_len]) (fun i hi => h1.1 i (by rw [KS_len] at hi; exact hi)))
  · have hl : (KS ++ KW).length = 100 := by rw [List.length_append, KS_len]; rfl
    refine Or.inr (kinds_of (by rw [hn, hl]) (fun i hi => ?_))
    rw [hl] at hi
    by_cases q : i < 92
    · rw [List.getElem?_append_left (by rw [KS_len]; exact q)]; exact h1.1 i q
    · rw [List.getElem?_append_right (by rw [KS_len]; omega), KS_len]
      obtain ⟨j, rfl⟩ : ∃ j, i = 92 + j := ⟨i - 92, by omega⟩
      rw [Nat.add_sub_cancel_left]
      exact ww.1 j (by omega)
theorem J_room {M : Nat} {μ : MM} (h : J M μ) : nc μ ≤ 100 ∧ nsl μ ≤ 60000 := by
  rcases J_kinds h with e | e
  · unfold nc nsl
    rw [e]
    exact ⟨by decide +kernel, by decide +kernel⟩
  · unfold nc nsl
    rw [e]
    exact ⟨by decide +kernel, by decide +kernel⟩
