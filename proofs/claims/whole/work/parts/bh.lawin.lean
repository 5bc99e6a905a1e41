/-! LAYER 3: the law, from its first instruction -/
theorem n49 : nc mX = 49 := by decide +kernel
theorem w_law {CK : CKT} {l : Launch} {L : Nat} {xs : Nat → Int32} {nE sE : Nat} (hS : Scr CK L xs) (hL : L ≤ 3072) (hEnd : ∀ (M : Nat) (μ : MM) (loc : List (Option Value)), J M μ → AW CK l YL 140 nE sE 1212 loc [.int 1] μ) : AW CK l YL 140 nE sE 0 [some (.ref (LIM + 4)), none, none, none] [] mE := by
  refine aw_new 3 d_law_0 rfl cf0 cl_Law_7 (show nO mE 0 = some m00 from rfl) ?_
  show AW CK l YL 140 nE sE 3 [some (.ref (LIM + 4)), none, none, none] [.ref 0] m00
  refine aw_dup 4 d_law_3 rfl rfl ?_
  refine aw_invI (rest := [.ref 0]) (st' := [.ref 0]) (As := []) 7 d_law_4 rfl li_Law_9 (m_X_init new_X) (by decide) rfl rfl (Nat.le_of_ble_eq_true rfl) rfl ?_
  refine aw_astore_n (loc' := [some (.ref (LIM + 4)), some (.ref 0), none, none]) 8 d_law_7 rfl (by decide) rfl ?_
  refine aw_new 11 d_law_8 rfl cf1 cl_Law_10 (show nO mX 1 = some mY from rfl) ?_
  rw [n49]
  refine aw_dup 12 d_law_11 rfl rfl ?_
  refine aw_invI (rest := [.ref 49]) (st' := [.ref 49]) (As := []) 15 d_law_12 rfl li_Law_12 (m_M_init new_M) (by decide) rfl rfl (Nat.le_of_ble_eq_true rfl) rfl ?_
  refine aw_astore_n (loc' := [some (.ref (LIM + 4)), some (.ref 0), some (.ref 49), none]) 16 d_law_15 rfl (by decide) rfl ?_
  refine aw_iconst (v := nI 0) 17 d_law_16 rfl (by decide) ?_
  refine aw_istore_n (loc' := lcl 0) 18 d_law_17 rfl (by decide) rfl ?_
  exact w_loop hS hL hEnd 600 0 0 mZZ (by omega) (by omega) (by omega) ⟨0, by omega, INV00⟩
