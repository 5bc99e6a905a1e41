/-! LAYER 2: link, keynote -/
def plink (p : PT) (b : Nat) (l : Int32) : PT := (pkey p, pa p, pb p, pc p, pbr p, upd (pln p) b l)
def Plk (a k : Nat) : Bool := a == 6 || a == 7 || a == 8 || a == 56 || (a == 0 && k == 9)
theorem P78_Plk (a k : Nat) (h : Plk a k = false) : P78 a k = false := by
  simp only [Plk, Bool.or_eq_false_iff] at h
  simp only [P78, Bool.or_eq_false_iff]
  exact ⟨h.1.1.1.2, h.1.1.2⟩
theorem rng_c (n : Nat) (N : Int32) (hN : N = nI n) (hn : n < 2 ^ 31) (x : Int32) : (x < 1 ∧ decide ((1 : Int) ≤ x.toInt ∧ x.toInt ≤ (n : Int) - 1) = false) ∨ (¬ x < 1 ∧ N ≤ x ∧ decide ((1 : Int) ≤ x.toInt ∧ x.toInt ≤ (n : Int) - 1) = false) ∨ (¬ x < 1 ∧ ¬ N ≤ x ∧ decide ((1 : Int) ≤ x.toInt ∧ x.toInt ≤ (n : Int) - 1) = true ∧ ∃ k, 0 < k ∧ k < n ∧ x = nI k) := by
  subst hN
  rw [toInt_lt, toInt_le, nI_toInt hn, show (1 : Int32).toInt = 1 by decide]
  by_cases h1 : x.toInt < 1
  · exact Or.inl ⟨h1, decide_eq_false (by omega)⟩
  · by_cases h2 : (n : Int) ≤ x.toInt
    · exact Or.inr (Or.inl ⟨h1, h2, decide_eq_false (by omega)⟩)
    · refine Or.inr (Or.inr ⟨h1, h2, decide_eq_true (by omega), x.toInt.toNat, by omega, by omega, ?_⟩)
      apply Int32.toInt_inj.mp
      rw [nI_toInt (by omega)]; omega
theorem plink_WP {p : PT} (hp' : WP p) {b : Nat} {l : Int32} (hl : l = -1 ∨ hld (pkey p) l (nI b) = true) : WP (plink p b l) := by
  refine ⟨hp'.1, hp'.2.1, fun x hx => ?_⟩
  show upd (pln p) b l x = -1 ∨ hld (pkey p) (upd (pln p) b l x) (nI x) = true
  unfold upd
  by_cases e : x = b
  · subst e; rw [if_pos rfl]; exact hl
  · rw [if_neg e]; exact hp'.2.2 x hx
theorem link_in {p : PT} {μ : MM} (hp' : WP p) (hw : Wf μ) (hx : XP p μ) (hm : MP p μ) {b : Nat} (b0 : 0 < b) (hb : b < 24) {l : Int32} (hl : l = -1 ∨ hld (pkey p) l (nI b) = true) : ∃ μ1 μ2, f_X_link_J30 0 (nI b) l μ = some (1, μ1) ∧ Wf μ1 ∧ gI μ1 51 = gI μ 51 ∧ f_M_link_J28 49 (nI b) l μ1 = some (1, μ2) ∧ PRes Plk μ μ2 := by
  have hq := plink_WP hp' hl
  obtain ⟨μa, hμa⟩ : ∃ x, x = sI μ 6 b l := ⟨_, rfl⟩
  have sa : Sm Plk μ μa := by rw [hμa]; exact Sm.sI rfl
  have wa := sa.wf hw
  have a6 : gI μa 6 = upd (gI μ 6) b l := by rw [hμa, gI_sI]
  have xa : XC (plink p b l) μa := by
    refine ⟨by rw [hμa, gI_sI_ne (by decide)]; exact hx.1.1, by rw [a6, hx.1.2.1]; rfl, ?_⟩
    rw [hμa, gI_sI_ne (by decide), gI_sI_ne (by decide)]; exact hx.1.2.2
  have ta : XT (plink p b l) μa 0 := by
    have := hx.2.2 0 (by decide)
    unfold XT at this ⊢
    rw [hμa, gI_sI_ne (by decide), gI_sI_ne (by decide)]; exact this
  obtain ⟨μb, eb, sb, tb⟩ := s_tune hq wa xa ta
  have sb' := sb.mono P78_Plk
  have wb := sb.wf wa
  have xb := xa.sm sb (fun _ => rfl) (fun _ => rfl) (fun _ => rfl) (fun _ => rfl)
  obtain ⟨μc, hμc⟩ : ∃ x, x = sI μb 0 9 (gI μb 0 9 + 1) := ⟨_, rfl⟩
  have sc : Sm Plk μb μc := by rw [hμc]; exact Sm.sI rfl
  have wc := sc.wf wb
  obtain ⟨μd, hμd⟩ : ∃ x, x = sI μc 56 b l := ⟨_, rfl⟩
  have sd : Sm Plk μc μd := by rw [hμd]; exact Sm.sI rfl
  have sall := (sa.tr sb').tr (sc.tr sd)
  have sacc := (sa.tr sb').tr sc
  refine ⟨μc, μd, ?_, wc, sacc.gI 51 (fun _ => rfl), ?_, Or.inr ⟨plink p b l, hq, ⟨?_, ?_, fun j hj => ?_⟩, ⟨?_, ?_, ?_, ?_⟩, sall, ?_⟩⟩
  · unfold f_X_link_J30 f_Sc_bind
    rw [rR_0_0 hw, bsome, kO_1 hw, bsome, if_neg (show ¬ nI b ≤ (0 : Int32) by rw [show (0 : Int32) = nI 0 from rfl, cle (by omega) (by omega)]; omega), if_neg (show ¬ (24 : Int32) ≤ nI b from nI_ge (b := 24) (by omega) (by omega)), rR_1_4 hw, bsome, uI_6 hw (by omega), bsome, ← hμa, eb, bsome, bsome, s_changed wb, bsome, ← hμc]; rfl
  · unfold f_M_link_J28
    rw [rR_49_7 wc, bsome, uI_56 wc (by omega), bsome, ← hμd]
  · have s2 := sc.tr sd
    refine xb.sm (P := fun a k => a == 0 && k == 9 || a == 56) ?_ (fun _ => rfl) (fun _ => rfl) (fun _ => rfl) (fun _ => rfl)
    rw [hμd, hμc]; exact (Sm.sI (by rfl)).tr (Sm.sI (by rfl))
  · show XB p μd
    unfold XB; rw [sall.gI 5 (fun _ => rfl)]; exact hx.2.1
  · have := tb j hj
    unfold XT at this ⊢
    rw [hμd, gI_sI_ne (by decide), gI_sI_ne (by decide), hμc, gI_sI_ne (by decide), gI_sI_ne (by decide)]; exact this
  · rw [sall.gI 51 (fun _ => rfl)]; exact hm.1
  · rw [hμd, gI_sI, hμc, gI_sI_ne (by decide), sb.gI 56 (fun _ => rfl), hμa, gI_sI_ne (by decide), hm.2.1]; rfl
  · rw [sall.gI 52 (fun _ => rfl), sall.gI 53 (fun _ => rfl), sall.gI 54 (fun _ => rfl)]; exact hm.2.2.1
  · rw [sall.gI 55 (fun _ => rfl)]; exact hm.2.2.2
  · rw [hμd, gI_sI_ne (by decide), hμc, gI_sI, sb.gI 0 (fun _ => rfl), hμa, gI_sI_ne (by decide)]; simp [upd]
theorem link_ok {p : PT} {μ : MM} (hp' : WP p) (hw : Wf μ) (hx : XP p μ) (hm : MP p μ) (x1 x2 : Int32) : ∃ r μ1 μ2, f_X_link 0 x1 x2 μ = some (r, μ1) ∧ f_M_link 49 x1 x2 μ1 = some (r, μ2) ∧ PRes Plk μ μ2 := by
  rcases rng_c 24 24 rfl (by decide) x1 with ⟨h1, h2⟩ | ⟨h1, h2, h3⟩ | ⟨h1, h2, h3, b, b0, hb, rfl⟩
  · refine ⟨0, μ, μ, ?_, ?_, Or.inl rfl⟩
    · unfold f_X_link; rw [kO_0 hw, bsome, if_pos h1]
    · unfold f_M_link; rw [kO_49 hw, bsome, s_liesI x1 1 23 1 23 (by decide) (by decide), show (23 : Int) = (24 : Nat) - 1 by decide, h2]; rfl
  · refine ⟨0, μ, μ, ?_, ?_, Or.inl rfl⟩
    · unfold f_X_link; rw [kO_0 hw, bsome, if_neg h1, if_pos h2]
    · unfold f_M_link; rw [kO_49 hw, bsome, s_liesI x1 1 23 1 23 (by decide) (by decide), show (23 : Int) = (24 : Nat) - 1 by decide, h3]; rfl
  by_cases e : x2 = -1
  · obtain ⟨μ1, μ2, e1, w1, -, e2, r⟩ := link_in hp' hw hx hm b0 hb (l := x2) (Or.inl e)
    refine ⟨1, μ1, μ2, ?_, ?_, r⟩
    · unfold f_X_link; rw [kO_0 hw, bsome, if_neg h1, if_neg h2, if_pos e, e1]
    · unfold f_M_link; rw [kO_49 w1, bsome, s_liesI _ 1 23 1 23 (by decide) (by decide), show (23 : Int) = (24 : Nat) - 1 by decide, h3, bsome, if_neg (by decide), if_pos e, e2]
  · cases hh : hld (pkey p) x2 (nI b) with
    | false =>
      refine ⟨0, μ, μ, ?_, ?_, Or.inl rfl⟩
      · unfold f_X_link; rw [kO_0 hw, bsome, if_neg h1, if_neg h2, if_neg e, rR_0_0 hw, bsome, s_holds hw, hx.1.1, hh]; rfl
      · unfold f_M_link; rw [kO_49 hw, bsome, s_liesI _ 1 23 1 23 (by decide) (by decide), show (23 : Int) = (24 : Nat) - 1 by decide, h3, bsome, if_neg (by decide), if_neg e, s_isHeld hw, hm.1, hh]; rfl
    | true =>
      obtain ⟨μ1, μ2, e1, w1, g1, e2, r⟩ := link_in hp' hw hx hm b0 hb (l := x2) (Or.inr hh)
      refine ⟨1, μ1, μ2, ?_, ?_, r⟩
      · unfold f_X_link; rw [kO_0 hw, bsome, if_neg h1, if_neg h2, if_neg e, rR_0_0 hw, bsome, s_holds hw, hx.1.1, hh, bsome, if_neg (by decide), e1]
      · unfold f_M_link; rw [kO_49 w1, bsome, s_liesI _ 1 23 1 23 (by decide) (by decide), show (23 : Int) = (24 : Nat) - 1 by decide, h3, bsome, if_neg (by decide), if_neg e, s_isHeld w1, g1, hm.1, hh, bsome, if_neg (by decide), e2]
