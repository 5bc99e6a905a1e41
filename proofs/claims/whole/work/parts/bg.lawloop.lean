/-! LAYER 3: the law's loop -/
theorem and31 (v : Int32) : ∃ k, k < 32 ∧ v &&& 31 = nI k := by
  refine ⟨(v &&& 31).toBitVec.toNat, ?_, ?_⟩
  · rw [Int32.toBitVec_and, BitVec.toNat_and]
    have : v.toBitVec.toNat &&& (Int32.toBitVec 31).toNat ≤ 31 := Nat.and_le_right
    omega
  · apply Int32.toBitVec_inj.mp
    show _ = BitVec.ofNat 32 _
    rw [BitVec.ofNat_toNat, BitVec.setWidth_eq]
theorem aw_slenA {CK : CKT} {l : Launch} {Y : YT} {d nE sE pc : Nat} {loc : List (Option Value)} {st : List Value} {μ : MM} {L : Nat} {xs : Nat → Int32} (h : Scr CK L xs) (n : Nat) {a : Nat} (hd : decode Y.2.1 pc = .ok (.arraylength, 1)) (hn : pc + 1 = n) (ha : a = LIM + 4) (k : AW CK l Y d nE sE n loc (.int (nI L) :: st) μ) : AW CK l Y d nE sE pc loc (.ref a :: st) μ := by
  subst ha
  exact aw_slen h n hd hn k
theorem w_loop {CK : CKT} {l : Launch} {L : Nat} {xs : Nat → Int32} {nE sE : Nat} (hS : Scr CK L xs) (hL : L ≤ 3072) (hEnd : ∀ (M : Nat) (μ : MM) (loc : List (Option Value)), J M μ → AW CK l YL 140 nE sE 1212 loc [.int 1] μ) : ∀ (n i M : Nat) (μ : MM), L < i + 6 * n → i < 4000 → M ≤ i → J M μ → AW CK l YL 140 nE sE 18 (lcl i) [] μ := by
  intro n
  induction n with
  | zero =>
    intro i M μ h1 h2 h3 hJ
    refine aw_iload_n 19 d_law_18 rfl rfl ?_
    refine aw_aload_n 20 d_law_19 rfl rfl ?_
    refine aw_slenA hS 21 d_law_20 rfl rfl ?_
    refine aw_bipush (v := oI 6) 23 d_law_21 rfl (by decide) ?_
    refine aw_isub 24 d_law_23 rfl ?_
    refine aw_icmp_gt 1211 27 d_law_24 (by decide) rfl (fun _ => ?_) (fun c => ?_)
    · exact aw_iconst (v := 1) 1212 d_law_1211 rfl (by decide) (hEnd M μ _ hJ)
    · refine absurd ?_ c
      rw [toInt_lt, oI_nI L, oI_sub, oI_nI i, oI_toInt (by omega) (by omega), oI_toInt (by omega) (by omega)]
      omega
  | succ n ih =>
    intro i M μ h1 h2 h3 hJ
    refine aw_iload_n 19 d_law_18 rfl rfl ?_
    refine aw_aload_n 20 d_law_19 rfl rfl ?_
    refine aw_slenA hS 21 d_law_20 rfl rfl ?_
    refine aw_bipush (v := oI 6) 23 d_law_21 rfl (by decide) ?_
    refine aw_isub 24 d_law_23 rfl ?_
    refine aw_icmp_gt 1211 27 d_law_24 (by decide) rfl (fun _ => ?_) (fun c => ?_)
    · exact aw_iconst (v := 1) 1212 d_law_1211 rfl (by decide) (hEnd M μ _ hJ)
    · have hi : i + 6 ≤ L := by
        rw [toInt_lt, oI_nI L, oI_sub, oI_nI i, oI_toInt (by omega) (by omega), oI_toInt (by omega) (by omega)] at c
        omega
      have K : ∀ μ2, J (M + 1) μ2 → AW CK l YL 140 nE sE 1205 (lcl i) [] μ2 := fun μ2 j => by
        refine aw_iinc (loc' := lcl (i + 6)) (v := nI (i + 6)) 1208 d_law_1205 rfl (by decide) rfl (show nI i + nI 6 = nI (i + 6) from nI_add _ _) rfl ?_
        refine aw_goto 18 d_law_1208 (by decide) ?_
        exact ih (i + 6) (M + 1) μ2 (by omega) (by omega) (by omega) j
      have hM : M < 1000000 := by omega
      refine aw_aload_n 28 d_law_27 rfl rfl ?_
      refine aw_iload_n 29 d_law_28 rfl rfl ?_
      refine aw_sldA hS 30 d_law_29 rfl (vp_in_nI (by omega) (by omega)) rfl ?_
      refine aw_bipush (v := 31) 32 d_law_30 rfl (by decide) ?_
      refine aw_iand 33 d_law_32 rfl ?_
      obtain ⟨k, hk, ek⟩ := and31 (xs (nI i).toNatClampNeg)
      rw [ek]
      have ks : k = 0 ∨ k = 1 ∨ k = 2 ∨ k = 3 ∨ k = 4 ∨ k = 5 ∨ k = 6 ∨ k = 7 ∨ k = 8 ∨ k = 9 ∨ k = 10 ∨ k = 11 ∨ k = 12 ∨ k = 13 ∨ k = 14 ∨ k = 15 ∨ k = 16 ∨ k = 17 ∨ k = 18 ∨ k = 19 ∨ k = 20 ∨ k = 21 ∨ k = 22 ∨ k = 23 ∨ k = 24 ∨ k = 25 ∨ k = 26 ∨ k = 27 ∨ k = 28 ∨ k = 29 ∨ k = 30 ∨ k = 31 := by omega
      rcases ks with rfl | rfl | rfl | rfl | rfl | rfl | rfl | rfl | rfl | rfl | rfl | rfl | rfl | rfl | rfl | rfl | rfl | rfl | rfl | rfl | rfl | rfl | rfl | rfl | rfl | rfl | rfl | rfl | rfl | rfl | rfl | rfl
      · exact aw_tableIn 176 d_law_33 (by decide) (by decide) rfl (by decide) (w_note hS hi hL hJ hM K)
      · exact aw_tableIn 239 d_law_33 (by decide) (by decide) rfl (by decide) (w_silent hS hi hL hJ hM K)
      · exact aw_tableIn 272 d_law_33 (by decide) (by decide) rfl (by decide) (w_breath hS hi hL hJ hM K)
      · exact aw_tableIn 331 d_law_33 (by decide) (by decide) rfl (by decide) (w_size hS hi hL hJ hM K)
      · exact aw_tableIn 364 d_law_33 (by decide) (by decide) rfl (by decide) (w_link hS hi hL hJ hM K)
      · exact aw_tableIn 397 d_law_33 (by decide) (by decide) rfl (by decide) (w_keynote hS hi hL hJ hM K)
      · exact aw_tableIn 430 d_law_33 (by decide) (by decide) rfl (by decide) (w_torn hS hi hL hJ hM K)
      · exact aw_tableIn 463 d_law_33 (by decide) (by decide) rfl (by decide) (w_sink hS hi hL hJ hM K)
      · exact aw_tableIn 486 d_law_33 (by decide) (by decide) rfl (by decide) (w_way hS hi hL hJ hM K)
      · exact aw_tableIn 509 d_law_33 (by decide) (by decide) rfl (by decide) (w_change hS hi hL hJ hM K)
      · exact aw_tableIn 532 d_law_33 (by decide) (by decide) rfl (by decide) (w_bounded hS hi hL hJ hM K)
      · exact aw_tableIn 555 d_law_33 (by decide) (by decide) rfl (by decide) (w_singer hS hi hL hJ hM K)
      · exact aw_tableIn 608 d_law_33 (by decide) (by decide) rfl (by decide) (w_place hS hi hL hJ hM K)
      · exact aw_tableIn 641 d_law_33 (by decide) (by decide) rfl (by decide) (w_table hS hi hL hJ hM K)
      · exact aw_tableIn 674 d_law_33 (by decide) (by decide) rfl (by decide) (w_seed hS hi hL hJ hM K)
      · exact aw_tableIn 697 d_law_33 (by decide) (by decide) rfl (by decide) (w_blown hS hi hL hJ hM K)
      · exact aw_tableIn 720 d_law_33 (by decide) (by decide) rfl (by decide) (w_given hS hi hL hJ hM K)
      · exact aw_tableIn 743 d_law_33 (by decide) (by decide) rfl (by decide) (w_feed hS hi hL hJ hM K)
      · exact aw_tableIn 806 d_law_33 (by decide) (by decide) rfl (by decide) (w_text hS hi hL hJ hM K)
      · exact aw_tableIn 829 d_law_33 (by decide) (by decide) rfl (by decide) (w_pitch hS hi hL hJ hM K)
      · exact aw_tableIn 862 d_law_33 (by decide) (by decide) rfl (by decide) (w_beat hS hi hL hJ hM K)
      · exact aw_tableIn 896 d_law_33 (by decide) (by decide) rfl (by decide) (w_sunk hS hi hL hJ hM K)
      · exact aw_tableIn 920 d_law_33 (by decide) (by decide) rfl (by decide) (w_hears hS hi hL hJ hM K)
      · exact aw_tableIn 953 d_law_33 (by decide) (by decide) rfl (by decide) (w_standing hS hi hL hJ hM K)
      · exact aw_tableIn 977 d_law_33 (by decide) (by decide) rfl (by decide) (w_leader hS hi hL hJ hM K)
      · exact aw_tableIn 1011 d_law_33 (by decide) (by decide) rfl (by decide) (w_worst hS hi hL hJ hM K)
      · exact aw_tableIn 1024 d_law_33 (by decide) (by decide) rfl (by decide) (w_knows hS hi hL hJ hM K)
      · exact aw_tableIn 1038 d_law_33 (by decide) (by decide) rfl (by decide) (w_tape hS hi hL hJ hM K)
      · exact aw_tableIn 1081 d_law_33 (by decide) (by decide) rfl (by decide) (w_fit hS hi hL hJ hM K)
      · exact aw_tableIn 1115 d_law_33 (by decide) (by decide) rfl (by decide) (w_mind hS hi hL hJ hM K)
      · exact aw_tableIn 1159 d_law_33 (by decide) (by decide) rfl (by decide) (w_check hS hi hL hJ hM K)
      · exact aw_tableIn 1182 d_law_33 (by decide) (by decide) rfl (by decide) (w_count hS hi hL hJ hM K)
