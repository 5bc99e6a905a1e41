/-! LAYER 2: bits; size, breath, link, keynote -/
theorem sh_am : ∀ k, k < 32 → ((nI k &&& 31 : Int32).toBitVec.smod 32).toNat = k := by decide +kernel
theorem ishr_nI {n k : Nat} (h : n < 2 ^ 31) (hk : k < 32) : ishr (nI n) (nI k) = nI (n / 2 ^ k) := by
  unfold ishr; exact pk_shrN h _ k (sh_am k hk)
theorem ishl_1 : ∀ k, k < 31 → ishl 1 (nI k) = nI (2 ^ k) := by decide +kernel
theorem nI_xor (a b : Nat) : nI a ^^^ nI b = nI (a ^^^ b) := by
  apply Int32.toBitVec_inj.mp
  exact (BitVec.ofNat_xor).symm
theorem nI_or (a b : Nat) : nI a ||| nI b = nI (a ||| b) := by
  apply Int32.toBitVec_inj.mp
  exact (BitVec.ofNat_or).symm
theorem nI_and (a b : Nat) : nI a &&& nI b = nI (a &&& b) := by
  apply Int32.toBitVec_inj.mp
  exact (BitVec.ofNat_and).symm
/-- the bit of a set -/
theorem bit_nI {n k : Nat} (h : n < 2 ^ 31) (hk : k < 32) : (ishr (nI n) (nI k)) &&& (1 : Int32) = bi (n.testBit k) := by
  rw [ishr_nI h hk, pk_andN (Nat.lt_of_le_of_lt (Nat.div_le_self _ _) (by omega)) 1 (by decide), Nat.testBit_eq_decide_div_mod_eq]
  rcases Nat.mod_two_eq_zero_or_one (n / 2 ^ k) with e | e
  · rw [show n / 2 ^ k % 2 ^ 1 = 0 from e]; rfl
  · rw [show n / 2 ^ k % 2 ^ 1 = 1 from e]; rfl
theorem bi_inj (a b : Bool) : (bi a = bi b) = (a = b) := by cases a <;> cases b <;> simp [bi]
theorem size_ok {μ : MM} (hw : Wf μ) (x1 x2 : Int32) : ∃ r, f_X_size 0 x1 x2 μ = some r ∧ f_M_size 49 x1 x2 μ = some r := by
  unfold f_X_size f_M_size
  rw [kO_0 hw, bsome, kO_49 hw, bsome]
  rcases of_case x1 x2 with ⟨e1, e2⟩ | ⟨a, b, c, hf, -, e1, e2, e3, -⟩
  · rw [e1, e2]; exact ⟨_, rfl, rfl⟩
  · rw [e1, e2, e3, bsome, bsome, if_neg (pk_ne_min hf.w), s_Frmills hf.w, if_neg (by decide)]; exact ⟨_, rfl, rfl⟩
theorem s_breathes {p : PT} {μ : MM} (hw : Wf μ) (hx : XB p μ) {v k : Nat} (hv : v < 6) (hk : k < 24) : f_Sc_breathes 1 (nI v) (nI k) μ = some (bi (pbr p v k)) := by
  obtain ⟨m, hm, e, hb⟩ := hx v hv
  unfold f_Sc_breathes
  rw [kO_1 hw, bsome, s_has, inR_nI hv (by decide), inR_nI hk (by decide), bsome, if_neg (by decide), rR_1_3 hw, bsome, aI_5 hw hv, bsome, e, bit_nI (by omega) (by omega), hb k hk]
  cases pbr p v k <;> rfl
/-- a breath turned -/
def pbreath (p : PT) (v b : Nat) (x : Bool) : PT := (pkey p, pa p, pb p, pc p, (fun u c => if u = v ∧ c = b then x else pbr p u c), pln p)
def Pbr (a k : Nat) : Bool := a == 5 || a == 55 || (a == 0 && k == 9)
theorem breath_ok {p : PT} {μ : MM} (hp' : WP p) (hw : Wf μ) (hx : XP p μ) (hm : MP p μ) (x1 x2 : Int32) (y : Bool) : ∃ r μ1 μ2, f_X_breath 0 x1 x2 (bi y) μ = some (r, μ1) ∧ f_M_breath 49 x1 x2 (bi y) μ1 = some (r, μ2) ∧ PRes Pbr μ μ2 := by
  rcases ixc 6 6 rfl (by decide) x1 with ⟨h1, h2⟩ | ⟨h1, h2, h3⟩ | ⟨h1, h2, h3, v, hv, rfl⟩
  · refine ⟨0, μ, μ, ?_, ?_, Or.inl rfl⟩
    · unfold f_X_breath; rw [kO_0 hw, bsome, s_has, h2]; rfl
    · unfold f_M_breath; rw [kO_49 hw, bsome, s_isVoice, h2]; rfl
  · refine ⟨0, μ, μ, ?_, ?_, Or.inl rfl⟩
    · unfold f_X_breath; rw [kO_0 hw, bsome, s_has, h3]; rfl
    · unfold f_M_breath; rw [kO_49 hw, bsome, s_isVoice, h3]; rfl
  rcases ixc 24 24 rfl (by decide) x2 with ⟨g1, g2⟩ | ⟨g1, g2, g3⟩ | ⟨g1, g2, g3, k, hk, rfl⟩
  · refine ⟨0, μ, μ, ?_, ?_, Or.inl rfl⟩
    · unfold f_X_breath; rw [kO_0 hw, bsome, s_has, h3, g2]; rfl
    · unfold f_M_breath; rw [kO_49 hw, bsome, s_isVoice, h3, bsome, if_neg (by decide), s_isBeat, g2]; rfl
  · refine ⟨0, μ, μ, ?_, ?_, Or.inl rfl⟩
    · unfold f_X_breath; rw [kO_0 hw, bsome, s_has, h3, g3]; rfl
    · unfold f_M_breath; rw [kO_49 hw, bsome, s_isVoice, h3, bsome, if_neg (by decide), s_isBeat, g3]; rfl
  by_cases hy : pbr p v k = y
  · refine ⟨0, μ, μ, ?_, ?_, Or.inl rfl⟩
    · unfold f_X_breath; rw [kO_0 hw, bsome, s_has, h3, g3, bsome, if_neg (by decide), rR_0_0 hw, bsome, s_breathes hw hx.2.1 hv hk, bsome, hy, if_pos rfl]
    · unfold f_M_breath f_M_cellOf; rw [kO_49 hw, bsome, s_isVoice, h3, bsome, if_neg (by decide), s_isBeat, g3, bsome, if_neg (by decide), rR_49_6 hw, bsome, bsome, cellN', aB_55 hw (by omega), bsome, hm.2.2.2 v hv k hk, hy, if_pos rfl]
  · obtain ⟨m, hm24, em, hmb⟩ := hx.2.1 v hv
    obtain ⟨μa, hμa⟩ : ∃ x, x = sI μ 5 v (nI (m ^^^ 2 ^ k)) := ⟨_, rfl⟩
    obtain ⟨μb, hμb⟩ : ∃ x, x = sI μa 0 9 (gI μa 0 9 + 1) := ⟨_, rfl⟩
    obtain ⟨μc, hμc⟩ : ∃ x, x = sI μb 55 (24 * v + k) (bi y) := ⟨_, rfl⟩
    have sa : Sm Pbr μ μa := by rw [hμa]; exact Sm.sI rfl
    have sb : Sm Pbr μa μb := by rw [hμb]; exact Sm.sI rfl
    have sc : Sm Pbr μb μc := by rw [hμc]; exact Sm.sI rfl
    have wa := sa.wf hw
    have wb := sb.wf wa
    have sab := sa.tr sb
    have sabc := sab.tr sc
    have b55 : gI μb 55 = gI μ 55 := by rw [hμb, gI_sI_ne (by decide), hμa, gI_sI_ne (by decide)]
    refine ⟨1, μb, μc, ?_, ?_, Or.inr ⟨pbreath p v k y, ?_, ?_, ?_, sabc, ?_⟩⟩
    · unfold f_X_breath
      rw [kO_0 hw, bsome, s_has, h3, g3, bsome, if_neg (by decide), rR_0_0 hw, bsome, s_breathes hw hx.2.1 hv hk, bsome, if_neg (fun z => hy (by rwa [bi_inj] at z)), bsome, rR_1_3 hw, bsome, aI_5 hw hv, bsome, em, ishl_1 k (by omega), nI_xor, uI_5 hw hv, bsome, ← hμa, s_changed wa, bsome, ← hμb]
      rfl
    · unfold f_M_breath f_M_cellOf
      rw [kO_49 wb, bsome, s_isVoice, h3, bsome, if_neg (by decide), s_isBeat, g3, bsome, if_neg (by decide), rR_49_6 wb, bsome, bsome, cellN', aB_55 wb (by omega), bsome, b55, hm.2.2.2 v hv k hk, if_neg (fun z => hy (by rwa [bi_inj] at z)), bsome, bsome, uB_55 wb (by omega) (bi_01 y).symm.symm, bsome, ← hμc]
    · exact ⟨hp'.1, hp'.2.1, hp'.2.2⟩
    · refine ⟨hx.1.sm sabc (fun _ => rfl) (fun _ => rfl) (fun _ => rfl) (fun _ => rfl), fun u hu => ?_, fun b hb => ?_⟩
      · obtain ⟨m2, hm2, em2, hmb2⟩ := hx.2.1 u hu
        have e5 : gI μc 5 = upd (gI μ 5) v (nI (m ^^^ 2 ^ k)) := by rw [hμc, gI_sI_ne (by decide), hμb, gI_sI_ne (by decide), hμa, gI_sI]
        by_cases e : u = v
        · subst e
          have : m ^^^ 2 ^ k < 2 ^ 24 := Nat.xor_lt_two_pow hm24 (Nat.pow_lt_pow_right (by decide) hk)
          refine ⟨m ^^^ 2 ^ k, this, by rw [e5]; simp [upd], fun c hc => ?_⟩
          show _ = if u = u ∧ c = k then y else pbr p u c
          rw [Nat.testBit_xor, Nat.testBit_two_pow, hmb c hc]
          by_cases ec : c = k
          · subst ec
            simp only [true_and, if_true, decide_true]
            cases h : pbr p u c <;> cases h' : y <;> simp_all
          · rw [if_neg (fun z => ec z.2), decide_eq_false (fun z => ec z.symm), Bool.xor_false]
        · refine ⟨m2, hm2, by rw [e5]; unfold upd; rw [if_neg e]; exact em2, fun c hc => ?_⟩
          show _ = if u = v ∧ c = k then y else pbr p u c
          rw [if_neg (fun z => e z.1)]; exact hmb2 c hc
      · have := hx.2.2 b hb
        unfold XT at this ⊢
        rw [sabc.gI 8 (fun _ => rfl), sabc.gI 7 (fun _ => rfl)]
        exact this
    · refine ⟨by rw [sabc.gI 51 (fun _ => rfl)]; exact hm.1, by rw [sabc.gI 56 (fun _ => rfl)]; exact hm.2.1, by rw [sabc.gI 52 (fun _ => rfl), sabc.gI 53 (fun _ => rfl), sabc.gI 54 (fun _ => rfl)]; exact hm.2.2.1, fun u hu c hc => ?_⟩
      show _ = bi (if u = v ∧ c = k then y else pbr p u c)
      rw [hμc, gI_sI, b55]
      unfold upd
      by_cases e : u = v ∧ c = k
      · rw [if_pos e, if_pos (by omega)]
      · rw [if_neg e, if_neg (by omega)]; exact hm.2.2.2 u hu c hc
    · rw [hμc, gI_sI_ne (by decide), hμb, gI_sI, hμa, gI_sI_ne (by decide)]
      simp [upd]
