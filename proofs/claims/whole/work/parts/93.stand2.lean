/-! LAYER 2: standing, in the class: the best row is found -/
abbrev SR : Type := Int × Int × (Nat → Nat)
def stS (tw : (Nat → Int32) → Nat → Int) (c : CT) (p : PT) (f : Nat → Nat) : Int := snk c p 0 (sal tw c p 0 (cG c) f false 24).1
def stF (tw : (Nat → Int32) → Nat → Int) (c : CT) (p : PT) (f : Nat → Nat) : Int := foA c p (sal tw c p 0 (cG c) f false 24).1
def bet (tw : (Nat → Int32) → Nat → Int) (c : CT) (p : PT) (s : SR) (f : Nat → Nat) : SR := if iabs (stS tw c p f) < iabs s.1 ∨ (iabs (stS tw c p f) = iabs s.1 ∧ stF tw c p f < s.2.1) then (stS tw c p f, stF tw c p f, f) else s
def sgo (tw : (Nat → Int32) → Nat → Int) (c : CT) (p : PT) : Nat → (Nat → Nat) → SR → SR
  | 0, _, s => s
  | n + 1, f, s => match nxt (cN c) f with
    | none => bet tw c p s f
    | some g => sgo tw c p n g (bet tw c p s f)
def Std (tw : (Nat → Int32) → Nat → Int) (c : CT) (p : PT) : SR := sgo tw c p 720 (srt 0 (cN c) (cP c)) (stS tw c p (srt 0 (cN c) (cP c)), stF tw c p (srt 0 (cN c) (cP c)), srt 0 (cN c) (cP c))
def SRb (s : SR) : Prop := (-20000000000 ≤ s.1 ∧ s.1 ≤ 20000000000) ∧ (0 ≤ s.2.1 ∧ s.2.1 ≤ 4608000000000)
theorem st_b {tw : (Nat → Int32) → Nat → Int} (ht : TWB tw) {c : CT} (hc : WC c) {p : PT} (hp' : WP p) (hf : ¬ fbt c p = -1) (f : Nat → Nat) : SRb (stS tw c p f, stF tw c p f, f) := by
  have pb := sal_PB ht hc hp' (t := 0) (g := cG c) (pl := f) (nb := false)
  exact ⟨snk_b hc hp' (t := 0) pb hf, foA_b hc hp' pb⟩
theorem bet_b {tw : (Nat → Int32) → Nat → Int} (ht : TWB tw) {c : CT} (hc : WC c) {p : PT} (hp' : WP p) (hf : ¬ fbt c p = -1) {s : SR} (hs : SRb s) (f : Nat → Nat) : SRb (bet tw c p s f) := by
  unfold bet
  split
  · exact st_b ht hc hp' hf f
  · exact hs
/-- what the class keeps of the best row -/
def XB2 (c : CT) (s : SR) (μ : MM) : Prop := gL μ 31 4 = lI s.1 ∧ gL μ 31 5 = lI s.2.1 ∧ ∀ j, j < cN c → gI μ 33 j = nI (s.2.2 j)
def Pst (a k : Nat) : Bool := a == 32 || a == 33 || (a == 31 && (k == 4 || k == 5 || k == 6)) || Psg a k
theorem Pst_Psg (a k : Nat) (h : Pst a k = false) : Psg a k = false := (Bool.or_eq_false_iff.mp h).2
theorem Pst_Pcf : ∀ a k, Pcf a k = true → Pst a k = false := by
  intro a k h
  simp [Pcf] at h
  simp [Pst, Psg, Psn, Pmd]
  omega
theorem Pst_xp (a k : Nat) (h1 : 2 ≤ a) (h2 : a ≤ 8) : Pst a k = false := by
  simp [Pst, Psg, Psn, Pmd]
  omega
theorem Pst_mp (a k : Nat) (h1 : 51 ≤ a) (h2 : a ≤ 56) : Pst a k = false := by
  simp [Pst, Psg, Psn, Pmd]
  omega
theorem Pst_ts (a k : Nat) (h : tcl a = true ∨ (a = 49 ∧ k = 27)) : Pst a k = false := by
  simp [tcl] at h
  simp [Pst, Psg, Psn, Pmd]
  omega
theorem Pst_32 (a k : Nat) (h : Pst a k = false) : Pc1 32 a k = false := by
  simp [Pst] at h
  simp [Pc1]
  omega
theorem cp8 {μ : MM} {a b : Nat} (ha : μ.1[a]? = some (1, 8)) (hb : μ.1[b]? = some (1, 8)) : ∃ μ', cpI μ a 0 b 0 8 = some μ' ∧ Sm (Pc1 b) μ μ' ∧ ∀ j, j < 8 → gI μ' b j = gI μ a j := by
  refine ⟨sF μ b (va_cpy (gI μ a) (gI μ b) 0 0 8), ?_, Sm.sF (fun k => by simp [Pc1]), fun j hj => ?_⟩
  · unfold cpI
    rw [ha, hb]
    rfl
  · rw [gI_sF, pk_cpy_in (by omega) (by omega)]
    congr 1; omega
/-- what the class's search goes by -/
def XW (tw : (Nat → Int32) → Nat → Int) (c : CT) (p : PT) (μ : MM) : Prop := Wf μ ∧ XG c μ ∧ XP p μ ∧ TXs tw μ
theorem XW.sy {tw : (Nat → Int32) → Nat → Int} {c : CT} {p : PT} {μ μ' : MM} (h : XW tw c p μ) (s : Sy Pst μ μ') : XW tw c p μ' := ⟨s.wf h.1, s.xg h.2.1 Pst_Pcf, s.xp h.2.2.1 Pst_xp, h.2.2.2.ts (TS.sy s Pst_ts)⟩
theorem absJ_any (v : Int64) : ∃ z, f_Mt_abs_J v = some z := by
  unfold f_Mt_abs_J
  split <;> exact ⟨_, rfl⟩
theorem find_go {tw : (Nat → Int32) → Nat → Int} {c : CT} (hc : WC c) (h1N : 1 ≤ cN c) {p : PT} (hp' : WP p) (hf0 : ¬ fbt c p = -1) : ∀ (d k n : Nat) (f : Nat → Nat) (s : SR) (μ : MM), k + d = 720 → d < n → XW tw c p μ → PLs 32 (cN c) f μ → SRb s → ((k = 0 ∧ s = (stS tw c p f, stF tw c p f, f)) ∨ (0 < k ∧ XB2 c s μ)) → 0 < d → ∃ μ', f_St_find_L41 31 n 1 (nI k) μ = some μ' ∧ Sy Pst μ μ' ∧ XB2 c (sgo tw c p d f s) μ' ∧ gI μ' 31 6 = gI μ 31 6 := by
  have h8 := hc.1
  have stop : ∀ (n k : Nat) (x : Int32) (m : MM), (720 ≤ k ∨ x = 0) → k < 2 ^ 31 → f_St_find_L41 31 (n + 1) x (nI k) m = some m := fun n k x m h hk => by
    rw [e_St_find_L41]
    by_cases e : 720 ≤ k
    · rw [if_pos (show (720 : Int32) ≤ nI k from nI_le (a := 720) e hk)]
    · rw [if_neg (show ¬ (720 : Int32) ≤ nI k from nI_ge (b := 720) (by omega) (by decide)), if_pos (h.resolve_left e)]
  intro d
  induction d with
  | zero => intro k n f s μ _ _ _ _ _ _ hd; omega
  | succ d ih =>
    intro k n f s μ hk hn hX hf hs hks _
    obtain ⟨n, rfl⟩ : ∃ m, n = m + 1 := ⟨n - 1, by omega⟩
    obtain ⟨w, xg, xp, tx⟩ := hX
    have tb : TWB tw := tx.1
    obtain ⟨m1, a1, a2, a3, a4⟩ := s_sing hc hp' (t := 0) (by decide) (g := cG c) hc.2.2.2.2.2 (pl := f) (fun j hj => (hf j hj).2) (nb := false) w xg xp tx (q := 32) (Or.inr rfl) (fun j hj => (hf j hj).1)
    have a1 : f_Si_sing 24 32 (nI (cG c)) 0 0 μ = some m1 := a1
    obtain ⟨w1, xg1, xp1, t1, -, g10, -⟩ := a4
    have y1 : Sy Pst μ m1 := a2.mono Pst_Psg
    have xpit := XS_pit tb hc hp' a3
    have xS := s_sinking w1 hc xg1 hp' xp1.1 g10 (by decide) xpit hf0
    have xF := s_foulTogether w1 hc xg1 hp' xp1.1 xpit
    have xS : f_Si_sinking 24 m1 = some (lI (stS tw c p f)) := xS
    have xF : f_Si_foulTogether 24 m1 = some (lI (stF tw c p f)) := xF
    have bf := st_b tb hc hp' hf0 f
    have b1 : -20000000000 ≤ stS tw c p f ∧ stS tw c p f ≤ 20000000000 := bf.1
    have b2 : 0 ≤ stF tw c p f ∧ stF tw c p f ≤ 4608000000000 := bf.2
    have f1 : PLs 32 (cN c) f m1 := by
      unfold PLs; rw [a2.gI 32 (fun _ => rfl)]; exact hf
    have xx1 : XW tw c p m1 := ⟨w1, xg1, xp1, t1⟩
    have g6 : gI m1 31 6 = gI μ 31 6 := by rw [a2.gI 31 (fun _ => rfl)]
    have hbb := bet_b tb hc hp' hf0 hs f
    -- the rest, from the next row on
    have rest : ∀ m, XW tw c p m → PLs 32 (cN c) f m → Sy Pst μ m → XB2 c (bet tw c p s f) m → gI m 31 6 = gI μ 31 6 → ∃ μ', f_St_find_J161 (f_St_find_L41 31 n) 31 (nI k) m = some μ' ∧ Sy Pst μ μ' ∧ XB2 c (sgo tw c p (d + 1) f s) μ' ∧ gI μ' 31 6 = gI μ 31 6 := fun m xm fm ym bm g6m => by
      unfold f_St_find_J161
      rcases s_next hc h1N xm.1 xm.2.1.1 fm with ⟨z1, z2⟩ | ⟨g, m2, z1, z2, z3, z4, z5⟩
      · refine ⟨m, ?_, ym, ?_, g6m⟩
        · obtain ⟨n, rfl⟩ : ∃ q, n = q + 1 := ⟨n - 1, by omega⟩
          rw [z2, bsome, nI_1]
          exact stop n (k + 1) 0 m (Or.inr rfl) (by omega)
        · unfold sgo; rw [z1]; exact bm
      · have y2 : Sy Pst m m2 := Sy.of (z4.mono Pst_32)
        have bm2 : XB2 c (bet tw c p s f) m2 := by
          unfold XB2; rw [z4.gL 31 (Pc1_ne (by decide)), z4.gI 33 (Pc1_ne (by decide))]; exact bm
        have eg : sgo tw c p (d + 1) f s = sgo tw c p d g (bet tw c p s f) := by
          show (match nxt (cN c) f with | none => bet tw c p s f | some g => sgo tw c p d g (bet tw c p s f)) = _
          rw [z1]
        have g62 : gI m2 31 6 = gI μ 31 6 := by rw [z4.gI 31 (Pc1_ne (by decide))]; exact g6m
        rw [z3, bsome, nI_1, eg]
        rcases Nat.eq_zero_or_pos d with hd | hd
        · subst hd
          obtain ⟨n, rfl⟩ : ∃ q, n = q + 1 := ⟨n - 1, by omega⟩
          exact ⟨m2, stop n (k + 1) 1 m2 (Or.inl (by omega)) (by omega), ym.tr y2, bm2, g62⟩
        · obtain ⟨μ', r1, r2, r3, r4⟩ := ih (k + 1) n g (bet tw c p s f) m2 (by omega) (by omega) (xm.sy y2) z5 hbb (Or.inr ⟨by omega, bm2⟩) hd
          exact ⟨μ', r1, (ym.tr y2).tr r2, r3, r4.trans g62⟩
    have take : bet tw c p s f = (stS tw c p f, stF tw c p f, f) → ∃ μ', f_St_find_J129 (f_St_find_L41 31 n) 31 (nI k) (lI (stS tw c p f)) m1 = some μ' ∧ Sy Pst μ μ' ∧ XB2 c (sgo tw c p (d + 1) f s) μ' ∧ gI μ' 31 6 = gI μ 31 6 := fun eb => by
      obtain ⟨m2, h2⟩ : ∃ x, x = sL m1 31 4 (lI (stS tw c p f)) := ⟨_, rfl⟩
      obtain ⟨m3, h3⟩ : ∃ x, x = sL m2 31 5 (lI (stF tw c p f)) := ⟨_, rfl⟩
      have s2 : Sm Pst m1 m2 := by rw [h2]; exact Sm.sL rfl
      have s3 : Sm Pst m1 m3 := by rw [h3]; exact s2.tr (Sm.sL rfl)
      have w2 := s2.wf w1
      have w3 := s3.wf w1
      have x2 := xx1.sy (Sy.of s2)
      have xpit2 : XPit c p (sal tw c p 0 (cG c) f false 24).1 m2 := by
        unfold XPit; rw [h2, gL_sL_ne (by decide)]; exact xpit
      have xF2 : f_Si_foulTogether 24 m2 = some (lI (stF tw c p f)) := s_foulTogether w2 hc x2.2.1 hp' x2.2.2.1.1 xpit2
      obtain ⟨m4, e4, s4, c4⟩ := cp8 (a := 32) (b := 33) (w3.k 32 (by decide) rfl) (w3.k 33 (by decide) rfl)
      have s4' : Sm Pst m3 m4 := s4.mono (fun a k z => by
        simp [Pst] at z
        simp [Pc1]
        omega)
      have y4 : Sy Pst m1 m4 := Sy.of (s3.tr s4')
      have f3 : gI m3 32 = gI m1 32 := by rw [h3, gI_sL, h2, gI_sL]
      obtain ⟨μ', r1, r2⟩ := rest m4 (xx1.sy y4) (by
        unfold PLs; rw [s4.gI 32 (Pc1_ne (by decide)), f3]; exact f1) (y1.tr y4) (by
        rw [eb]
        refine ⟨?_, ?_, fun j hj => ?_⟩
        · rw [s4.gL 31 (Pc1_ne (by decide)), h3, gL_sL, h2, gL_sL]; simp [vp_updL]
        · rw [s4.gL 31 (Pc1_ne (by decide)), h3, gL_sL]; simp [vp_updL]
        · rw [c4 j (by omega), f3]; exact (f1 j hj).1) (by
        rw [s4.gI 31 (Pc1_ne (by decide)), h3, gI_sL, h2, gI_sL]; exact g6)
      refine ⟨μ', ?_, r2⟩
      unfold f_St_find_J129
      rw [pL_31 w1, bsome, ← h2, rR_31_1 w2, bsome, xF2, bsome, pL_31 w2, bsome, ← h3, rR_31_2 w3, bsome, rR_31_3 w3, bsome, e4, bsome, r1]
    have h720 : ¬ (720 : Int32) ≤ nI k := nI_ge (b := 720) (by omega) (by decide)
    have ab1 := iabs_b (z := stS tw c p f) (a := 20000000000) (by omega)
    rcases hks with ⟨k0, es⟩ | ⟨k0, hB⟩
    · have eb : bet tw c p s f = (stS tw c p f, stF tw c p f, f) := by
        unfold bet
        rw [es]
        split
        · rfl
        · rfl
      obtain ⟨μ', r1, r2⟩ := take eb
      refine ⟨μ', ?_, r2⟩
      obtain ⟨z, hz⟩ := absJ_any (gL m1 31 4)
      rw [e_St_find_L41, if_neg h720, if_neg (by decide), rR_31_1 w, bsome, rR_31_2 w, bsome, rR_31_0 w, bsome, rI_9 w, bsome, xg.2.2.2.1, a1, bsome, rR_31_1 w1, bsome, xS, bsome, s_absJ (by omega) (by omega), bsome, rL_31 w1, bsome, hz, bsome, k0, if_pos (show nI 0 = (0 : Int32) from rfl), ← k0, r1]
    · have hB1 : XB2 c s m1 := by
        unfold XB2; rw [a2.gL 31 (fun _ => rfl), a2.gI 33 (fun _ => rfl)]; exact hB
      obtain ⟨hb1, hb2⟩ := hs
      have ab2 := iabs_b (z := s.1) (a := 20000000000) (by omega)
      have pre : f_St_find_L41 31 (n + 1) 1 (nI k) μ = if iabs (stS tw c p f) < iabs s.1 then f_St_find_J129 (f_St_find_L41 31 n) 31 (nI k) (lI (stS tw c p f)) m1 else if iabs (stS tw c p f) = iabs s.1 then (if s.2.1 ≤ stF tw c p f then f_St_find_J161 (f_St_find_L41 31 n) 31 (nI k) m1 else f_St_find_J129 (f_St_find_L41 31 n) 31 (nI k) (lI (stS tw c p f)) m1) else f_St_find_J161 (f_St_find_L41 31 n) 31 (nI k) m1 := by
        rw [e_St_find_L41, if_neg h720, if_neg (by decide), rR_31_1 w, bsome, rR_31_2 w, bsome, rR_31_0 w, bsome, rI_9 w, bsome, xg.2.2.2.1, a1, bsome, rR_31_1 w1, bsome, xS, bsome, s_absJ (by omega) (by omega), bsome, rL_31 w1, bsome, hB1.1, s_absJ (by omega) (by omega), bsome, if_neg (show ¬ nI k = (0 : Int32) by rw [show (0 : Int32) = nI 0 from rfl, ceq (by omega) (by decide)]; omega), bsome, xF, bsome, rL_31 w1, bsome, hB1.2.1, lI_sub]
        simp only [lgc_lt, lgc_eq, lgc_ge, lI_toInt (z := iabs (stS tw c p f) - iabs s.1) (by omega) (by omega), lI_toInt (z := stF tw c p f) (by omega) (by omega), lI_toInt (z := s.2.1) (by omega) (by omega), show (0 : Int64).toInt = 0 by decide]
        by_cases c1 : iabs (stS tw c p f) < iabs s.1
        · rw [if_pos (by omega), if_pos c1]
        · rw [if_neg (by omega), if_neg c1]
          by_cases c2 : iabs (stS tw c p f) = iabs s.1
          · rw [if_pos (by omega), if_pos c2]
          · rw [if_neg (by omega), if_neg c2]
      rw [pre]
      have keep : bet tw c p s f = s → ∃ μ', f_St_find_J161 (f_St_find_L41 31 n) 31 (nI k) m1 = some μ' ∧ Sy Pst μ μ' ∧ XB2 c (sgo tw c p (d + 1) f s) μ' ∧ gI μ' 31 6 = gI μ 31 6 := fun eb => rest m1 xx1 f1 y1 (by rw [eb]; exact hB1) g6
      by_cases c1 : iabs (stS tw c p f) < iabs s.1
      · rw [if_pos c1]
        exact take (by unfold bet; rw [if_pos (Or.inl c1)])
      · rw [if_neg c1]
        by_cases c2 : iabs (stS tw c p f) = iabs s.1
        · rw [if_pos c2]
          by_cases c3 : s.2.1 ≤ stF tw c p f
          · rw [if_pos c3]
            exact keep (by unfold bet; rw [if_neg (by omega)])
          · rw [if_neg c3]
            exact take (by unfold bet; rw [if_pos (Or.inr ⟨c2, by omega⟩)])
        · rw [if_neg c2]
          exact keep (by unfold bet; rw [if_neg (by omega)])
theorem s_Stfind {tw : (Nat → Int32) → Nat → Int} {c : CT} (hc : WC c) (h1N : 1 ≤ cN c) {p : PT} (hp' : WP p) (hf0 : ¬ fbt c p = -1) {μ : MM} (hX : XW tw c p μ) {x1 : Int32} (hne : ¬ gI μ 31 6 = x1) : ∃ μ', f_St_find 31 x1 μ = some μ' ∧ Sy Pst μ μ' ∧ XB2 c (Std tw c p) μ' ∧ gI μ' 31 6 = x1 := by
  have h8 := hc.1
  obtain ⟨w, xg, xp, tx⟩ := hX
  obtain ⟨m1, h1⟩ : ∃ x, x = sI μ 31 6 x1 := ⟨_, rfl⟩
  have s1 : Sm Pst μ m1 := by rw [h1]; exact Sm.sI rfl
  have w1 := s1.wf w
  obtain ⟨m2, e2, s2, c2⟩ := cp8 (μ := m1) (a := 11) (b := 32) (w1.k 11 (by decide) rfl) (w1.k 32 (by decide) rfl)
  have s2' : Sm Pst m1 m2 := s2.mono Pst_32
  have y2 : Sy Pst μ m2 := Sy.of (s1.tr s2')
  have X2 : XW tw c p m2 := XW.sy ⟨w, xg, xp, tx⟩ y2
  have f2 : PLs 32 (cN c) (cP c) m2 := fun j hj => by
    rw [c2 j (by omega), h1, gI_sI_ne (by decide), (xg.2.2.2.2.1 j hj).2.1]
    exact ⟨rfl, (hc.2.1 j hj).2.1⟩
  obtain ⟨m3, e3, s3, f3⟩ := s_sort hc X2.1 X2.2.1.1 (a := 0) (by omega) f2
  have y3 : Sy Pst m2 m3 := Sy.of (s3.mono Pst_32)
  have sb := st_b tx.1 hc hp' hf0 (srt 0 (cN c) (cP c))
  obtain ⟨μ', r1, r2, r3, r4⟩ := find_go hc h1N hp' hf0 720 0 FU (srt 0 (cN c) (cP c)) (stS tw c p (srt 0 (cN c) (cP c)), stF tw c p (srt 0 (cN c) (cP c)), srt 0 (cN c) (cP c)) m3 rfl (by unfold FU; omega) (X2.sy y3) f3 sb (Or.inl ⟨rfl, rfl⟩) (by decide)
  refine ⟨μ', ?_, (y2.tr y3).tr r2, r3, ?_⟩
  · unfold f_St_find
    rw [kO_31 w, bsome, rI_31 w, bsome, if_neg hne, pI_31 w, bsome, ← h1, rR_31_0 w1, bsome, rR_9_2 w1, bsome, rR_31_2 w1, bsome, e2, bsome, show f_St_sort 31 (0 : Int32) m2 = some m3 from e3, bsome]
    exact r1
  · rw [r4, s3.gI 31 (Pc1_ne (by decide)), s2.gI 31 (Pc1_ne (by decide)), h1, gI_sI]
    simp [upd]
