/-! LAYER 2: singer -/
def sgr (v p l k : Nat) (x1 x2 x3 x4 : Int32) : Prop := v < 6 ∧ p < 16 ∧ (0 < l ∧ l ≤ 9) ∧ k ≤ 1 ∧ x1 = nI v ∧ x2 = nI p ∧ x3 = nI l ∧ x4 = nI k
theorem lo_c (x : Int32) (lo hi : Int) (hl : -2147483648 ≤ lo) (hh : hi < 2147483648) (hlh : lo ≤ hi) : (x < oI lo ∧ decide (lo ≤ x.toInt ∧ x.toInt ≤ hi) = false) ∨ (¬ x < oI lo ∧ oI hi < x ∧ decide (lo ≤ x.toInt ∧ x.toInt ≤ hi) = false) ∨ (¬ x < oI lo ∧ ¬ oI hi < x ∧ decide (lo ≤ x.toInt ∧ x.toInt ≤ hi) = true ∧ ∃ z, lo ≤ z ∧ z ≤ hi ∧ x = oI z) := by
  rcases bnd_c x lo hi hl hh hlh with h | ⟨h1, h2, h3⟩ | ⟨h1, h2, h3⟩
  · exact Or.inl h
  · refine Or.inr (Or.inl ⟨h1, ?_, h3⟩)
    rw [toInt_lt]; rw [toInt_le] at h2; omega
  · refine Or.inr (Or.inr ⟨h1, ?_, h3⟩)
    rw [toInt_lt]; rw [toInt_le] at h2; omega
theorem oI_of {z : Int} (h : 0 ≤ z) : oI z = nI z.toNat := by rw [oI_nI]; congr 1; omega
theorem singer_in {c : CT} {μ : MM} (hw : Wf μ) (hc : WC c) (hx : XG c μ) (hm : MG c μ) (h8 : cN c < 8) {v p l k : Nat} (hv : v < 6) (hp' : p < 16) (hl : 0 < l ∧ l ≤ 9) (hk : k ≤ 1) : ∃ μ1 μ2, f_X_singer 0 (nI v) (nI p) (nI l) (nI k) μ = some (nI (cN c), μ1) ∧ f_M_singer 49 (nI v) (nI p) (nI l) (nI k) μ1 = some (nI (cN c), μ2) ∧ CRes Pcf μ μ2 := by
  obtain ⟨μa, hμa⟩ : ∃ x, x = sI μ 10 (cN c) (nI v) := ⟨_, rfl⟩
  obtain ⟨μb, hμb⟩ : ∃ x, x = sI μa 11 (cN c) (nI p) := ⟨_, rfl⟩
  obtain ⟨μc, hμc⟩ : ∃ x, x = sI μb 12 (cN c) (nI l) := ⟨_, rfl⟩
  obtain ⟨μd, hμd⟩ : ∃ x, x = sI μc 13 (cN c) (nI k) := ⟨_, rfl⟩
  obtain ⟨μe, hμe⟩ : ∃ x, x = sI μd 9 9 (nI (cN c + 1)) := ⟨_, rfl⟩
  obtain ⟨μf, hμf⟩ : ∃ x, x = sI μe 0 9 (gI μe 0 9 + 1) := ⟨_, rfl⟩
  obtain ⟨ma, hma⟩ : ∃ x, x = sI μf 63 (cN c) (nI v) := ⟨_, rfl⟩
  obtain ⟨mb, hmb⟩ : ∃ x, x = sI ma 64 (cN c) (nI p) := ⟨_, rfl⟩
  obtain ⟨mc, hmc⟩ : ∃ x, x = sI mb 65 (cN c) (nI l) := ⟨_, rfl⟩
  obtain ⟨md, hmd⟩ : ∃ x, x = sI mc 66 (cN c) (nI k) := ⟨_, rfl⟩
  obtain ⟨me, hme⟩ : ∃ x, x = sI md 49 18 (nI (cN c + 1)) := ⟨_, rfl⟩
  have sa : Sm Pcf μ μa := by rw [hμa]; exact Pcf_sI rfl
  have sb : Sm Pcf μ μb := by rw [hμb]; exact sa.tr (Pcf_sI rfl)
  have sc : Sm Pcf μ μc := by rw [hμc]; exact sb.tr (Pcf_sI rfl)
  have sd : Sm Pcf μ μd := by rw [hμd]; exact sc.tr (Pcf_sI rfl)
  have se : Sm Pcf μ μe := by rw [hμe]; exact sd.tr (Pcf_sI rfl)
  have sf : Sm Pcf μ μf := by rw [hμf]; exact se.tr (Pcf_sI rfl)
  have ta : Sm Pcf μ ma := by rw [hma]; exact sf.tr (Pcf_sI rfl)
  have tb : Sm Pcf μ mb := by rw [hmb]; exact ta.tr (Pcf_sI rfl)
  have tc : Sm Pcf μ mc := by rw [hmc]; exact tb.tr (Pcf_sI rfl)
  have td : Sm Pcf μ md := by rw [hmd]; exact tc.tr (Pcf_sI rfl)
  have te : Sm Pcf μ me := by rw [hme]; exact td.tr (Pcf_sI rfl)
  have gn : gI μd 9 9 = nI (cN c) := by rw [hμd, gI_sI_ne (by decide), hμc, gI_sI_ne (by decide), hμb, gI_sI_ne (by decide), hμa, gI_sI_ne (by decide), hx.1]
  have gf : gI μf 49 18 = nI (cN c) := by rw [hμf, gI_sI_ne (by decide), hμe, gI_sI_ne (by decide), hμd, gI_sI_ne (by decide), hμc, gI_sI_ne (by decide), hμb, gI_sI_ne (by decide), hμa, gI_sI_ne (by decide), hm.1]
  have ga : gI ma 49 18 = nI (cN c) := by rw [hma, gI_sI_ne (by decide), gf]
  have gb : gI mb 49 18 = nI (cN c) := by rw [hmb, gI_sI_ne (by decide), ga]
  have gc : gI mc 49 18 = nI (cN c) := by rw [hmc, gI_sI_ne (by decide), gb]
  have gd : gI md 49 18 = nI (cN c) := by rw [hmd, gI_sI_ne (by decide), gc]
  have ge : gI me 49 18 = nI (cN c + 1) := by rw [hme, gI_sI]; simp [upd]
  have ku : ∀ (f : Nat → Int32) (g : Nat → Nat) (y : Nat) (j : Nat), (j < cN c → f j = nI (g j)) → j < cN c + 1 → upd f (cN c) (nI y) j = nI (if j = cN c then y else g j) := fun f g y j h hj => by
    unfold upd
    by_cases e : j = cN c
    · rw [if_pos e, if_pos e]
    · rw [if_neg e, if_neg e]; exact h (by omega)
  refine ⟨μf, me, ?_, ?_, Or.inr ⟨cset c (cN c + 1) (fun j => if j = cN c then v else cV c j) (fun j => if j = cN c then p else cP c j) (fun j => if j = cN c then l else cL c j) (fun j => if j = cN c then k else cK c j) (cT c) (cU c) (cW c) (cG c), ?_, ?_, ?_, te, ?_⟩⟩
  · unfold f_X_singer f_X_singer_J25
    rw [kO_0 hw, bsome, if_neg (nI_pos (by omega)), if_neg (show ¬ (6 : Int32) ≤ nI v from nI_ge (b := 6) (by omega) (by omega)), if_neg (nI_pos (by omega)), if_neg (show ¬ (16 : Int32) ≤ nI p from nI_ge (b := 16) (by omega) (by omega)), if_neg (by decide), if_neg (show ¬ nI l < (1 : Int32) from nI_nlt (b := 1) (by omega) (by omega)), if_neg (show ¬ (9 : Int32) < nI l from nI_nlt (a := 9) (by omega) (by omega)), if_neg (nI_pos (by omega)), if_neg (show ¬ (1 : Int32) < nI k from nI_nlt (a := 1) (by omega) (by omega))]
    rw [rR_0_1 hw, bsome, rI_9 hw, bsome, hx.1, if_pos (show nI (cN c) < (8 : Int32) from nI_lt (b := 8) h8 (by omega)), bsome, rI_9 hw, bsome, hx.1, bsome, rR_9_1 hw, bsome, uI_10 hw h8, bsome, ← hμa]
    rw [rR_0_1 (sa.wf hw), bsome, rR_9_2 (sa.wf hw), bsome, uI_11 (sa.wf hw) h8, bsome, ← hμb]
    rw [rR_0_1 (sb.wf hw), bsome, rR_9_3 (sb.wf hw), bsome, uI_12 (sb.wf hw) h8, bsome, ← hμc]
    rw [rR_0_1 (sc.wf hw), bsome, rR_9_4 (sc.wf hw), bsome, uI_13 (sc.wf hw) h8, bsome, ← hμd]
    rw [rR_0_1 (sd.wf hw), bsome, rI_9 (sd.wf hw), bsome, gn, nI_1, pI_9 (sd.wf hw), bsome, ← hμe, s_changed (se.wf hw), bsome, ← hμf]
  · unfold f_M_singer
    rw [kO_49 (sf.wf hw), bsome, rI_49 (sf.wf hw), bsome, gf, if_neg (show ¬ nI (cN c) = (8 : Int32) by rw [show (8 : Int32) = nI 8 from rfl, ceq (by omega) (by omega)]; omega), s_isVoice, inR_nI hv (by decide), bsome, if_neg (by decide), s_liesI _ 0 15 0 15 (by decide) (by decide), inR_le _ 16 15 (by decide), inR_nI hp' (by decide), bsome, if_neg (by decide), s_liesI _ 1 9 1 9 (by decide) (by decide), nI_toInt (by omega), decide_eq_true (by omega), bsome, if_neg (by decide), s_liesI _ 0 1 0 1 (by decide) (by decide), nI_toInt (by omega), decide_eq_true (by omega), bsome, if_neg (by decide)]
    rw [rR_49_22 (sf.wf hw), bsome, bsome, uI_63 (sf.wf hw) h8, bsome, ← hma]
    rw [rR_49_23 (ta.wf hw), bsome, rI_49 (ta.wf hw), bsome, ga, uI_64 (ta.wf hw) h8, bsome, ← hmb]
    rw [rR_49_24 (tb.wf hw), bsome, rI_49 (tb.wf hw), bsome, gb, uI_65 (tb.wf hw) h8, bsome, ← hmc]
    rw [rR_49_25 (tc.wf hw), bsome, rI_49 (tc.wf hw), bsome, gc, uI_66 (tc.wf hw) h8, bsome, ← hmd]
    rw [rI_49 (td.wf hw), bsome, gd, nI_1, pI_49 (td.wf hw), bsome, ← hme, rI_49 (te.wf hw), bsome, ge, nI_m1 (by omega), Nat.add_sub_cancel]
  · obtain ⟨a1, a2, a3, a4, a5, a6⟩ := hc
    refine ⟨show cN c + 1 ≤ 8 by omega, fun j hj => ?_, a3, a4, a5, a6⟩
    have hj : j < cN c + 1 := hj
    show (if j = cN c then v else cV c j) < 6 ∧ (if j = cN c then p else cP c j) < 16 ∧ (0 < (if j = cN c then l else cL c j) ∧ (if j = cN c then l else cL c j) ≤ 9) ∧ (if j = cN c then k else cK c j) ≤ 1
    by_cases e : j = cN c
    · simp only [if_pos e]; exact ⟨hv, hp', hl, hk⟩
    · simp only [if_neg e]; exact a2 j (by omega)
  · obtain ⟨a1, a2, a3, a4, a5, a6⟩ := hx
    subst hme; subst hmd; subst hmc; subst hmb; subst hma; subst hμf; subst hμe; subst hμd; subst hμc; subst hμb; subst hμa
    unfold XG
    simp (disch := decide) only [gI_sI, gI_sI_ne]
    refine ⟨rfl, a2, a3, a4, fun j hj => ?_, a6⟩
    have hj : j < cN c + 1 := hj
    exact ⟨ku _ (cV c) _ _ (fun h => (a5 j h).1) hj, ku _ (cP c) _ _ (fun h => (a5 j h).2.1) hj, ku _ (cL c) _ _ (fun h => (a5 j h).2.2.1) hj, ku _ (cK c) _ _ (fun h => (a5 j h).2.2.2) hj⟩
  · obtain ⟨a1, a2, a3, a4, a5, a6⟩ := hm
    subst hme; subst hmd; subst hmc; subst hmb; subst hma; subst hμf; subst hμe; subst hμd; subst hμc; subst hμb; subst hμa
    unfold MG
    simp (disch := decide) only [gI_sI, gI_sI_ne]
    refine ⟨rfl, a2, a3, a4, fun j hj => ?_, a6⟩
    have hj : j < cN c + 1 := hj
    exact ⟨ku _ (cV c) _ _ (fun h => (a5 j h).1) hj, ku _ (cP c) _ _ (fun h => (a5 j h).2.1) hj, ku _ (cL c) _ _ (fun h => (a5 j h).2.2.1) hj, ku _ (cK c) _ _ (fun h => (a5 j h).2.2.2) hj⟩
  · subst hme; subst hmd; subst hmc; subst hmb; subst hma; subst hμf; subst hμe; subst hμd; subst hμc; subst hμb; subst hμa
    simp (disch := decide) only [gI_sI, gI_sI_ne]
    simp [upd]
theorem singer_ok {c : CT} {μ : MM} (hw : Wf μ) (hc : WC c) (hx : XG c μ) (hm : MG c μ) (x1 x2 x3 x4 : Int32) : ∃ r μ1 μ2, f_X_singer 0 x1 x2 x3 x4 μ = some (r, μ1) ∧ f_M_singer 49 x1 x2 x3 x4 μ1 = some (r, μ2) ∧ CRes Pcf μ μ2 := by
  have h8 := hc.1
  have mo : f_X_singer 0 x1 x2 x3 x4 μ = some (-1, μ) → f_M_singer 49 x1 x2 x3 x4 μ = some (-1, μ) → ∃ r μ1 μ2, f_X_singer 0 x1 x2 x3 x4 μ = some (r, μ1) ∧ f_M_singer 49 x1 x2 x3 x4 μ1 = some (r, μ2) ∧ CRes Pcf μ μ2 := fun a b => ⟨-1, μ, μ, a, b, Or.inl rfl⟩
  have f24 : f_X_singer_J24 0 x1 x2 x3 x4 μ = some (-1, μ) := by unfold f_X_singer_J24 f_X_singer_J25; rw [if_pos rfl]
  rcases ixc 6 6 rfl (by decide) x1 with ⟨a1, a2⟩ | ⟨a1, a2, a3⟩ | ⟨a1, a2, a3, v, hv, ev⟩
  · refine mo ?_ ?_
    · unfold f_X_singer; rw [kO_0 hw, bsome, if_pos a1, f24]
    · unfold f_M_singer; rw [kO_49 hw, bsome, rI_49 hw, bsome, s_isVoice, a2, bsome, if_pos (show bi false = 0 from rfl)]; split <;> rfl
  · refine mo ?_ ?_
    · unfold f_X_singer; rw [kO_0 hw, bsome, if_neg a1, if_pos a2, f24]
    · unfold f_M_singer; rw [kO_49 hw, bsome, rI_49 hw, bsome, s_isVoice, a3, bsome, if_pos (show bi false = 0 from rfl)]; split <;> rfl
  rcases ixc 16 16 rfl (by decide) x2 with ⟨b1, b2⟩ | ⟨b1, b2, b3⟩ | ⟨b1, b2, b3, p, hp', ep⟩
  · refine mo ?_ ?_
    · unfold f_X_singer; rw [kO_0 hw, bsome, if_neg a1, if_neg a2, if_pos b1, f24]
    · unfold f_M_singer; rw [kO_49 hw, bsome, rI_49 hw, bsome, s_isVoice, a3, bsome, if_neg (show ¬ bi true = 0 by decide), s_liesI x2 0 15 0 15 (by decide) (by decide), inR_le x2 16 15 (by decide), b2, bsome, if_pos (show bi false = 0 from rfl)]; split <;> rfl
  · refine mo ?_ ?_
    · unfold f_X_singer; rw [kO_0 hw, bsome, if_neg a1, if_neg a2, if_neg b1, if_pos b2, f24]
    · unfold f_M_singer; rw [kO_49 hw, bsome, rI_49 hw, bsome, s_isVoice, a3, bsome, if_neg (show ¬ bi true = 0 by decide), s_liesI x2 0 15 0 15 (by decide) (by decide), inR_le x2 16 15 (by decide), b3, bsome, if_pos (show bi false = 0 from rfl)]; split <;> rfl
  have X1 : f_X_singer 0 x1 x2 x3 x4 μ = f_X_singer_J25 0 x1 x2 x3 x4 1 μ := by unfold f_X_singer; rw [kO_0 hw, bsome, if_neg a1, if_neg a2, if_neg b1, if_neg b2]
  rcases lo_c x3 1 9 (by decide) (by decide) (by decide) with ⟨c1, c2⟩ | ⟨c1, c2, c3⟩ | ⟨c1, c2, c3, l, l1, l2, el⟩
  · refine mo ?_ ?_
    · rw [X1]; unfold f_X_singer_J25; rw [if_neg (by decide), if_pos (show x3 < (1 : Int32) from c1)]
    · unfold f_M_singer; rw [kO_49 hw, bsome, rI_49 hw, bsome, s_isVoice, a3, bsome, if_neg (show ¬ bi true = 0 by decide), s_liesI x2 0 15 0 15 (by decide) (by decide), inR_le x2 16 15 (by decide), b3, bsome, if_neg (show ¬ bi true = 0 by decide), s_liesI x3 1 9 1 9 (by decide) (by decide), c2, bsome, if_pos (show bi false = 0 from rfl)]; split <;> rfl
  · refine mo ?_ ?_
    · rw [X1]; unfold f_X_singer_J25; rw [if_neg (by decide), if_neg (show ¬ x3 < (1 : Int32) from c1), if_pos (show (9 : Int32) < x3 from c2)]
    · unfold f_M_singer; rw [kO_49 hw, bsome, rI_49 hw, bsome, s_isVoice, a3, bsome, if_neg (show ¬ bi true = 0 by decide), s_liesI x2 0 15 0 15 (by decide) (by decide), inR_le x2 16 15 (by decide), b3, bsome, if_neg (show ¬ bi true = 0 by decide), s_liesI x3 1 9 1 9 (by decide) (by decide), c3, bsome, if_pos (show bi false = 0 from rfl)]; split <;> rfl
  rcases lo_c x4 0 1 (by decide) (by decide) (by decide) with ⟨d1, d2⟩ | ⟨d1, d2, d3⟩ | ⟨d1, d2, d3, k, k1, k2, ek⟩
  · refine mo ?_ ?_
    · rw [X1]; unfold f_X_singer_J25; rw [if_neg (by decide), if_neg (show ¬ x3 < (1 : Int32) from c1), if_neg (show ¬ (9 : Int32) < x3 from c2), if_pos (show x4 < 0 from d1)]
    · unfold f_M_singer; rw [kO_49 hw, bsome, rI_49 hw, bsome, s_isVoice, a3, bsome, if_neg (show ¬ bi true = 0 by decide), s_liesI x2 0 15 0 15 (by decide) (by decide), inR_le x2 16 15 (by decide), b3, bsome, if_neg (show ¬ bi true = 0 by decide), s_liesI x3 1 9 1 9 (by decide) (by decide), c3, bsome, if_neg (show ¬ bi true = 0 by decide), s_liesI x4 0 1 0 1 (by decide) (by decide), d2, bsome, if_pos (show bi false = 0 from rfl)]; split <;> rfl
  · refine mo ?_ ?_
    · rw [X1]; unfold f_X_singer_J25; rw [if_neg (by decide), if_neg (show ¬ x3 < (1 : Int32) from c1), if_neg (show ¬ (9 : Int32) < x3 from c2), if_neg (show ¬ x4 < 0 from d1), if_pos (show (1 : Int32) < x4 from d2)]
    · unfold f_M_singer; rw [kO_49 hw, bsome, rI_49 hw, bsome, s_isVoice, a3, bsome, if_neg (show ¬ bi true = 0 by decide), s_liesI x2 0 15 0 15 (by decide) (by decide), inR_le x2 16 15 (by decide), b3, bsome, if_neg (show ¬ bi true = 0 by decide), s_liesI x3 1 9 1 9 (by decide) (by decide), c3, bsome, if_neg (show ¬ bi true = 0 by decide), s_liesI x4 0 1 0 1 (by decide) (by decide), d3, bsome, if_pos (show bi false = 0 from rfl)]; split <;> rfl
  rcases Nat.lt_or_ge (cN c) 8 with q | q
  · rw [oI_of (by omega)] at el ek
    subst ev; subst ep; subst el; subst ek
    obtain ⟨μ1, μ2, e1, e2, e3⟩ := singer_in hw hc hx hm q hv hp' (l := l.toNat) (k := k.toNat) (by omega) (by omega)
    exact ⟨_, μ1, μ2, e1, e2, e3⟩
  · have q8 : cN c = 8 := by omega
    refine mo ?_ ?_
    · rw [X1]; unfold f_X_singer_J25
      rw [if_neg (by decide), if_neg (show ¬ x3 < (1 : Int32) from c1), if_neg (show ¬ (9 : Int32) < x3 from c2), if_neg (show ¬ x4 < 0 from d1), if_neg (show ¬ (1 : Int32) < x4 from d2), rR_0_1 hw, bsome, rI_9 hw, bsome, hx.1, q8, if_neg (by decide)]
    · unfold f_M_singer
      rw [kO_49 hw, bsome, rI_49 hw, bsome, hm.1, q8, if_pos (by decide)]
