/-! LAYER 2: all beats are sung, in the class -/
def XS (c : CT) (p : PT) (b i : Nat) (s : SS) (μ : MM) : Prop := (∀ j b', j < cN c → sg c p j b' = true → (b' < b ∨ (b' = b ∧ j < i)) → b' < 24 → gL μ 25 (24 * j + b') = lI (s.1 (24 * j + b'))) ∧ (∀ j, j < cN c → ¬ lnt c p j (if j < i then b + 1 else b) = -1 → gL μ 26 j = lI (s.2.1 j)) ∧ gI μ 24 13 = nI s.2.2.1 ∧ gL μ 24 12 = lI s.2.2.2
theorem lnt_skip {c : CT} {p : PT} {i b : Nat} (h : sg c p i b = false) : lnt c p i (b + 1) = lnt c p i b := by
  rw [lnt_s, h]; rfl
theorem XS_skip {c : CT} {p : PT} {b i : Nat} {s : SS} {μ : MM} (h : sg c p i b = false) (hx : XS c p b i s μ) : XS c p b (i + 1) s μ := by
  obtain ⟨x1, x2, x3⟩ := hx
  refine ⟨fun j b' hj hs hbb h24 => x1 j b' hj hs ?_ h24, fun j hj hl => x2 j hj ?_, x3⟩
  · rcases hbb with z | ⟨z1, z2⟩
    · exact Or.inl z
    · right
      refine ⟨z1, ?_⟩
      by_cases e : j = i
      · subst e; subst z1; rw [h] at hs; cases hs
      · omega
  · by_cases e : j = i
    · subst e
      rw [if_pos (by omega), lnt_skip h] at hl
      rw [if_neg (by omega)]
      exact hl
    · by_cases e2 : j < i
      · rw [if_pos (by omega)] at hl; rw [if_pos e2]; exact hl
      · rw [if_neg (by omega)] at hl; rw [if_neg e2]; exact hl
theorem XS_next {c : CT} {p : PT} {b : Nat} {s : SS} {μ : MM} (hx : XS c p b (cN c) s μ) : XS c p (b + 1) 0 s μ := by
  obtain ⟨x1, x2, x3⟩ := hx
  refine ⟨fun j b' hj hs hbb h24 => x1 j b' hj hs (by omega) h24, fun j hj hl => x2 j hj ?_, x3⟩
  rw [if_neg (by omega)] at hl
  rw [if_pos hj]
  exact hl
theorem XS_all {c : CT} {p : PT} {b : Nat} {s : SS} {μ : MM} (h : ∀ i, i < cN c → sg c p i b = false) (hx : XS c p b 0 s μ) : XS c p (b + 1) 0 s μ := by
  have : ∀ n, n ≤ cN c → XS c p b n s μ := fun n => by
    induction n with
    | zero => intro _; exact hx
    | succ n ih => intro hn; exact XS_skip (h n (by omega)) (ih (by omega))
  exact XS_next (this (cN c) (Nat.le_refl _))
theorem snb_none {tw : (Nat → Int32) → Nat → Int} {c : CT} {p : PT} {t g : Nat} {pl : Nat → Nat} {nb : Bool} {b : Nat} {s : SS} (h : ∀ i, i < cN c → sg c p i b = false) : ∀ n, n ≤ cN c → snb tw c p t g pl nb b s n = s
  | 0, _ => rfl
  | n + 1, hn => by
    show sn1 tw c p t g pl nb b n (snb tw c p t g pl nb b s n) = s
    rw [snb_none h n (by omega)]
    unfold sn1
    rw [if_neg (by rw [h n (by omega)]; decide)]
theorem XS_sing {c : CT} {p : PT} {b i : Nat} (hb : b < 24) {s : SS} {μ μ' : MM} {q d : Int} {l : Nat} (hx : XS c p b i s μ) (h25 : gL μ' 25 = vp_updL (gL μ 25) (24 * i + b) (lI q)) (h26 : gL μ' 26 = vp_updL (gL μ 26) i (lI q)) (h13 : gI μ' 24 13 = nI l) (h12 : gL μ' 24 12 = lI d) : XS c p b (i + 1) (uZ s.1 (24 * i + b) q, uZ s.2.1 i q, l, d) μ' := by
  obtain ⟨x1, x2, x3⟩ := hx
  refine ⟨fun j b' hj hs hbb h24 => ?_, fun j hj hl => ?_, h13, h12⟩
  · show gL μ' 25 (24 * j + b') = lI (uZ s.1 (24 * i + b) q (24 * j + b'))
    rw [h25]
    unfold vp_updL uZ
    by_cases e : 24 * j + b' = 24 * i + b
    · rw [if_pos e, if_pos e]
    · rw [if_neg e, if_neg e]
      exact x1 j b' hj hs (by omega) h24
  · show gL μ' 26 j = lI (uZ s.2.1 i q j)
    rw [h26]
    unfold vp_updL uZ
    by_cases e : j = i
    · rw [if_pos e, if_pos e]
    · rw [if_neg e, if_neg e]
      refine x2 j hj ?_
      by_cases e2 : j < i
      · rw [if_pos (by omega)] at hl; rw [if_pos e2]; exact hl
      · rw [if_neg (by omega)] at hl; rw [if_neg e2]; exact hl
def Psg (a k : Nat) : Bool := (a == 24 && (k == 9 || k == 10 || k == 11 || k == 14)) || Psn a k
theorem Psn_Psg (a k : Nat) (h : Psg a k = false) : Psn a k = false := (Bool.or_eq_false_iff.mp h).2
theorem Psg_Pcf : ∀ a k, Pcf a k = true → Psg a k = false := by
  intro a k h
  simp [Pcf] at h
  simp [Psg, Psn, Pmd]
  omega
theorem Psg_xp (a k : Nat) (h1 : 2 ≤ a) (h2 : a ≤ 8) : Psg a k = false := by
  simp [Psg, Psn, Pmd]
  omega
theorem Psg_mp (a k : Nat) (h1 : 51 ≤ a) (h2 : a ≤ 56) : Psg a k = false := by
  simp [Psg, Psn, Pmd]
  omega
theorem Psg_ts (a k : Nat) (h : tcl a = true ∨ (a = 49 ∧ k = 27)) : Psg a k = false := by
  simp [tcl] at h
  simp [Psg, Psn, Pmd]
  omega
/-- what the class's singing goes by -/
def XQ (tw : (Nat → Int32) → Nat → Int) (c : CT) (p : PT) (t g : Nat) (pl : Nat → Nat) (nb : Bool) (μ : MM) : Prop := Wf μ ∧ XG c μ ∧ XP p μ ∧ TXs tw μ ∧ gI μ 24 9 = nI g ∧ gI μ 24 10 = nI t ∧ gI μ 24 11 = bi nb ∧ ∃ q, gR μ 24 8 = some q ∧ (q = 11 ∨ q = 32) ∧ ∀ j, j < cN c → gI μ q j = nI (pl j)
def Psh (a k : Nat) : Bool := (a == 24 && k == 14) || Psn a k
theorem Psh_Psg (a k : Nat) (h : Psg a k = false) : Psh a k = false := by
  simp [Psg] at h
  simp [Psh]
  exact ⟨by omega, h.2⟩
theorem Psn_Psh (a k : Nat) (h : Psh a k = false) : Psn a k = false := (Bool.or_eq_false_iff.mp h).2
theorem XQ.sm {tw : (Nat → Int32) → Nat → Int} {c : CT} {p : PT} {t g : Nat} {pl : Nat → Nat} {nb : Bool} {μ μ' : MM} (h : XQ tw c p t g pl nb μ) (s : Sm Psh μ μ') : XQ tw c p t g pl nb μ' := by
  obtain ⟨a1, a2, a3, a4, a5, a6, a7, q, a8, a9, a10⟩ := h
  refine ⟨s.wf a1, a2.sm s (fun a k z => Psh_Psg a k (Psg_Pcf a k z)), a3.sm s (fun a k h1 h2 => Psh_Psg a k (Psg_xp a k h1 h2)), a4.ts (TS.sm s (fun a k z => Psh_Psg a k (Psg_ts a k z))), ?_, ?_, ?_, q, ?_, a9, ?_⟩
  · rw [(s.2.2 24 9 rfl).1]; exact a5
  · rw [(s.2.2 24 10 rfl).1]; exact a6
  · rw [(s.2.2 24 11 rfl).1]; exact a7
  · rw [s.gRf]; exact a8
  · intro j hj
    rw [s.gI q (fun k => by rcases a9 with rfl | rfl <;> rfl)]
    exact a10 j hj
theorem s_giveAgain {tw : (Nat → Int32) → Nat → Int} {c : CT} (hc : WC c) {p : PT} (hp' : WP p) {t g : Nat} (ht2 : t < 12) {pl : Nat → Nat} {nb : Bool} {μ : MM} (hq : XQ tw c p t g pl nb μ) {b : Nat} (hb : b < 24) {s : SS} (hx : XS c p b 0 s μ) : ∃ μ', f_Si_giveAgain 24 (nI b) μ = some μ' ∧ Sm Psn μ μ' ∧ XS c p b 0 (s.1, gvl c p t b s.2.1 (cN c), s.2.2) μ' ∧ gI μ' 24 = gI μ 24 := by
  have h8 := hc.1
  unfold f_Si_giveAgain
  rw [kO_24 hq.1, bsome]
  refine upM (cN c) (fun n m => Sm (Pc1 26) μ m ∧ ∀ j, j < cN c → ¬ lnt c p j b = -1 → gL m 26 j = lI (gvl c p t b s.2.1 n j)) (fun n k m => f_Si_giveAgain_L2 24 (nI b) n (nI k) m) _ (fun n m hi => ?_) (fun n k m hk hi => Or.inr ?_) 0 FU μ (by omega) (by unfold FU; omega) ⟨Sm.rf, fun j hj hl => by
    have := hx.2.1 j hj (by rw [if_neg (by omega)]; exact hl)
    rw [this]
    unfold gvl
    rw [if_neg (by omega)]⟩
  · obtain ⟨sm, hi⟩ := hi
    have s2 : Sm Psn μ m := sm.mono (fun a k z => Pc1_ne (fun e => by subst e; cases z) k)
    refine ⟨m, ?_, s2, ?_, ?_⟩
    · show f_Si_giveAgain_L2 24 (nI b) (n + 1) (nI (cN c)) m = _
      have w := sm.wf hq.1
      have xg := hq.2.1.sm s2 Psn_Pcf
      rw [e_Si_giveAgain_L2, rR_24_1 w, bsome, rI_9 w, bsome, xg.1, if_pos (show nI (cN c) ≤ nI (cN c) by rw [cle (by omega) (by omega)]; omega)]
    · obtain ⟨x1, x2, x3, x4⟩ := hx
      refine ⟨fun j b' hj hs hbb h24 => ?_, fun j hj hl => ?_, ?_, ?_⟩
      · rw [sm.gL 25 (fun _ => rfl)]; exact x1 j b' hj hs hbb h24
      · rw [if_neg (by omega)] at hl; exact hi j hj hl
      · rw [sm.gI 24 (fun _ => rfl)]; exact x3
      · rw [sm.gL 24 (fun _ => rfl)]; exact x4
    · exact sm.gI 24 (fun _ => rfl)
  · obtain ⟨sm, hi⟩ := hi
    have s2 : Sm Psn μ m := sm.mono (fun a k z => Pc1_ne (fun e => by subst e; cases z) k)
    have w := sm.wf hq.1
    have qm := hq.sm (s2.mono Psn_Psh)
    obtain ⟨-, xg, xp, -, g9, g10, g11, -⟩ := qm
    rcases lst_lnt c p k b with e | ⟨j0, j1, j2, j3⟩
    · refine ⟨m, ?_, sm, fun j hj hl => ?_⟩
      · show f_Si_giveAgain_L2 24 (nI b) (n + 1) (nI k) m = f_Si_giveAgain_L2 24 (nI b) n (nI (k + 1)) m
        rw [e_Si_giveAgain_L2, rR_24_1 w, bsome, rI_9 w, bsome, xg.1, if_neg (show ¬ nI (cN c) ≤ nI k by rw [cle (by omega) (by omega)]; omega), bsome, s_lastNote w hc xg xp.1 hk (show b ≤ 24 by omega), e, bsome, if_pos rfl, nI_1]
      · rw [hi j hj hl]
        unfold gvl
        have : ¬ j = k := fun z => hl (by rw [z]; exact e)
        by_cases q : j < k
        · rw [if_pos ⟨q, hl⟩, if_pos ⟨by omega, hl⟩]
        · rw [if_neg (fun z => q z.1), if_neg (fun z => by have := z.1; omega)]
    · obtain ⟨m2, h2⟩ : ∃ x, x = sL m 26 k (lI (tab c p t k j0)) := ⟨_, rfl⟩
      refine ⟨m2, ?_, by rw [h2]; exact sm.tr (Sm.sL (by simp [Pc1])), fun j hj hl => ?_⟩
      · show f_Si_giveAgain_L2 24 (nI b) (n + 1) (nI k) m = f_Si_giveAgain_L2 24 (nI b) n (nI (k + 1)) m2
        rw [e_Si_giveAgain_L2, rR_24_1 w, bsome, rI_9 w, bsome, xg.1, if_neg (show ¬ nI (cN c) ≤ nI k by rw [cle (by omega) (by omega)]; omega), bsome, s_lastNote w hc xg xp.1 hk (show b ≤ 24 by omega), j2, bsome, if_neg (nI_ne_m1 (by omega)), rR_24_3 w, bsome, s_SitableOf w hc xg hp' xp.1 g10 ht2 hk (by omega) j3, bsome, uL_26 w (by omega), bsome, ← h2, nI_1]
      · rw [h2, gL_sL]
        unfold vp_updL gvl
        by_cases e : j = k
        · subst e
          rw [if_pos rfl, if_pos ⟨by omega, hl⟩, j2, nI_toInt (by omega), Int.toNat_natCast]
        · rw [if_neg e, hi j hj hl]
          unfold gvl
          by_cases q : j < k
          · rw [if_pos ⟨q, hl⟩, if_pos ⟨by omega, hl⟩]
          · rw [if_neg (fun z => q z.1), if_neg (fun z => by have := z.1; omega)]
theorem sing_L82 {tw : (Nat → Int32) → Nat → Int} {c : CT} (hc : WC c) {p : PT} (hp' : WP p) {t g : Nat} (ht2 : t < 12) (hg2 : g < 16777216) {pl : Nat → Nat} (hpl : ∀ j, j < cN c → pl j < 16) {nb : Bool} {μ : MM} (hq : XQ tw c p t g pl nb μ) {b : Nat} (hb : b < 24) {s : SS} (hx : XS c p b 0 s μ) (hmany : gI μ 24 14 = nI (hmn c p b)) {B : Int} (hB : 300000 ≤ B) (hB2 : B + 48160000 ≤ PB) (hsb : SB B s) (k40 : Int32 → MM → Option MM) : ∃ μ', f_Si_sing_L82 k40 24 (nI b) FU 0 μ = k40 (nI (b + 1)) μ' ∧ Sm Psn μ μ' ∧ XS c p (b + 1) 0 (snb tw c p t g pl nb b s (cN c)) μ' := by
  have h8 := hc.1
  have tb : TWB tw := hq.2.2.2.1.1
  by_cases h0 : hmn c p b = 0
  · have hs : ∀ i, i < cN c → sg c p i b = false := fun i hi => cnt_0 (f := fun i => sg c p i b) h0 hi
    refine ⟨μ, ?_, Sm.rf, ?_⟩
    · rw [show FU = 999999999 + 1 from rfl, e_Si_sing_L82, rR_24_1 hq.1, bsome, rI_9 hq.1, bsome, rI_24 hq.1, bsome, hmany, h0, nI_1]
      split
      · rfl
      · rw [if_pos (by decide)]
    · rw [snb_none hs _ (Nat.le_refl _)]
      exact XS_all hs hx
  · refine upR (cN c) (fun i m => Sm Psn μ m ∧ XS c p b i (snb tw c p t g pl nb b s i) m) (fun n i m => f_Si_sing_L82 k40 24 (nI b) n (nI i) m) (fun x => ∃ μ', x = k40 (nI (b + 1)) μ' ∧ Sm Psn μ μ' ∧ XS c p (b + 1) 0 (snb tw c p t g pl nb b s (cN c)) μ') (fun n m hi => ?_) (fun n i m hi2 hi => Or.inr ?_) 0 FU μ (by omega) (by unfold FU; omega) ⟨Sm.rf, hx⟩
    · obtain ⟨sm, hi⟩ := hi
      have qm := hq.sm (sm.mono Psn_Psh)
      refine ⟨m, ?_, sm, XS_next hi⟩
      show f_Si_sing_L82 k40 24 (nI b) (n + 1) (nI (cN c)) m = _
      rw [e_Si_sing_L82, rR_24_1 qm.1, bsome, rI_9 qm.1, bsome, qm.2.1.1, if_pos (show nI (cN c) ≤ nI (cN c) by rw [cle (by omega) (by omega)]; omega), nI_1]
    · obtain ⟨sm, hi⟩ := hi
      have qm := hq.sm (sm.mono Psn_Psh)
      have hm2 : gI m 24 14 = nI (hmn c p b) := by rw [(sm.2.2 24 14 rfl).1]; exact hmany
      have hh := hmn_b hc p b
      have pre : f_Si_sing_L82 k40 24 (nI b) (n + 1) (nI i) m = if bi (sg c p i b) = 0 then f_Si_sing_L82 k40 24 (nI b) n (nI (i + 1)) m else (f_Si_singNote 24 (nI i) (nI b) m).bind fun m' => f_Si_sing_L82 k40 24 (nI b) n (nI (i + 1)) m' := by
        rw [e_Si_sing_L82, rR_24_1 qm.1, bsome, rI_9 qm.1, bsome, qm.2.1.1, if_neg (show ¬ nI (cN c) ≤ nI i by rw [cle (by omega) (by omega)]; omega), rI_24 qm.1, bsome, hm2, if_neg (by rw [nI_le0 (by omega)]; exact h0), bsome, s_sings qm.1 hc qm.2.1 qm.2.2.1.1 hi2, bsome, nI_1]
        rfl
      cases e : sg c p i b with
      | false =>
        refine ⟨m, ?_, sm, ?_⟩
        · show f_Si_sing_L82 k40 24 (nI b) (n + 1) (nI i) m = f_Si_sing_L82 k40 24 (nI b) n (nI (i + 1)) m
          rw [pre, e, if_pos (by decide)]
        · show XS c p b (i + 1) (sn1 tw c p t g pl nb b i (snb tw c p t g pl nb b s i)) m
          unfold sn1
          rw [if_neg (by rw [e]; decide)]
          exact XS_skip e hi
      | true =>
        have sbi := snb_b tb hc hp' (t := t) (g := g) (pl := pl) (nb := nb) hb hB hsb i (by omega)
        obtain ⟨q1, q2, q3, q4, q5, q6, q7, q, q8, q9, q10⟩ := qm
        obtain ⟨m', r1, r2, r3, r4, r5, r6⟩ := s_singNote (tw := tw) q1 hc q2 hp' q3 q4 (t := t) (g := g) (nb := nb) q6 ht2 q5 hg2 q7 hi2 hb e (lp := (snb tw c p t g pl nb b s i).2.1 i) (fun z => hi.2.1 i hi2 (by rw [if_neg (by omega)]; exact z)) hm2 hi.2.2.1 sbi.2.2 q8 q9 hpl q10 (pit := (snb tw c p t g pl nb b s i).1) (B := B + 6020000 * i) (by omega) (by omega) (fun j hj hs => ⟨hi.1 j b (by omega) hs (Or.inr ⟨rfl, hj⟩) hb, sbi.1 _⟩) (sbi.2.1 i) hi.2.2.2
        refine ⟨m', ?_, sm.tr r2, ?_⟩
        · show f_Si_sing_L82 k40 24 (nI b) (n + 1) (nI i) m = f_Si_sing_L82 k40 24 (nI b) n (nI (i + 1)) m'
          rw [pre, e, if_neg (by decide), r1, bsome]
        · show XS c p b (i + 1) (sn1 tw c p t g pl nb b i (snb tw c p t g pl nb b s i)) m'
          unfold sn1
          rw [if_pos e]
          exact XS_sing hb hi r3 r4 r5 r6
theorem sing_L40 {tw : (Nat → Int32) → Nat → Int} {c : CT} (hc : WC c) {p : PT} (hp' : WP p) {t g : Nat} (ht2 : t < 12) (hg2 : g < 16777216) {pl : Nat → Nat} (hpl : ∀ j, j < cN c → pl j < 16) {nb : Bool} {μ : MM} (hq : XQ tw c p t g pl nb μ) (h13 : gI μ 24 13 = nI (cU c)) (h12 : gL μ 24 12 = lI 0) : ∃ μ', f_Si_sing_L40 24 FU 0 μ = some μ' ∧ Sm Psh μ μ' ∧ XS c p 24 0 (sal tw c p t g pl nb 24) μ' := by
  have h8 := hc.1
  have tb : TWB tw := hq.2.2.2.1.1
  refine upM 24 (fun b m => Sm Psh μ m ∧ XS c p b 0 (sal tw c p t g pl nb b) m) (fun n b m => f_Si_sing_L40 24 n (nI b) m) _ (fun n m hi => ?_) (fun n b m hb hi => Or.inr ?_) 0 FU μ (by decide) (by decide) ⟨Sm.rf, fun j b' _ _ hbb _ => by omega, fun j hj hl => absurd (show lnt c p j (if j < 0 then 0 + 1 else 0) = -1 by rw [if_neg (by omega)]; rfl) hl, h13, h12⟩
  · refine ⟨m, ?_, hi⟩
    show f_Si_sing_L40 24 (n + 1) (nI 24) m = _
    rw [e_Si_sing_L40, if_pos (by decide)]
  · obtain ⟨sm, hi⟩ := hi
    have qm := hq.sm sm
    obtain ⟨m1, h1⟩ : ∃ x, x = sI m 24 14 (nI (hmn c p b)) := ⟨_, rfl⟩
    have s1 : Sm Psh m m1 := by rw [h1]; exact Sm.sI rfl
    have q1 := qm.sm s1
    have g14 : gI m1 24 14 = nI (hmn c p b) := by rw [h1, gI_sI]; simp [upd]
    have x1 : XS c p b 0 (sal tw c p t g pl nb b) m1 := by
      obtain ⟨y1, y2, y3, y4⟩ := hi
      refine ⟨?_, ?_, ?_, ?_⟩
      · rw [h1, gL_sI]; exact y1
      · rw [h1, gL_sI]; exact y2
      · rw [h1, gI_sI]; unfold upd; rw [if_neg (by decide)]; exact y3
      · rw [h1, gL_sI]; exact y4
    have sb0 := sal_b tb hc hp' (t := t) (g := g) (pl := pl) (nb := nb) b (by omega)
    have sb1 := gvs_b hc hp' (t := t) (g := g) (b := b) (by omega) (by omega) sb0
    have pre : f_Si_sing_L40 24 (n + 1) (nI b) m = if bi (g.testBit b) = 1 then (f_Si_giveAgain 24 (nI b) m1).bind fun m2 => f_Si_sing_L82 (f_Si_sing_L40 24 n) 24 (nI b) FU 0 m2 else f_Si_sing_L82 (f_Si_sing_L40 24 n) 24 (nI b) FU 0 m1 := by
      rw [e_Si_sing_L40, if_neg (show ¬ (24 : Int32) ≤ nI b from nI_ge (b := 24) (by omega) (by omega)), rR_24_1 qm.1, bsome, s_howMany qm.1 hc qm.2.1 qm.2.2.1.1, bsome, pI_24 qm.1, bsome, ← h1, rI_24 q1.1, bsome, q1.2.2.2.2.1, bit_nI (by omega) (by omega)]
      rfl
    have fin : ∀ m2, Sm Psh m1 m2 → gI m2 24 14 = nI (hmn c p b) → XS c p b 0 (gvs c p t g b (sal tw c p t g pl nb b)) m2 → ∃ s', f_Si_sing_L82 (f_Si_sing_L40 24 n) 24 (nI b) FU 0 m2 = f_Si_sing_L40 24 n (nI (b + 1)) s' ∧ Sm Psh μ s' ∧ XS c p (b + 1) 0 (sal tw c p t g pl nb (b + 1)) s' := fun m2 s2 g2 x2 => by
      obtain ⟨s', e1, e2, e3⟩ := sing_L82 hc hp' ht2 hg2 hpl (q1.sm s2) hb x2 g2 (by omega) (by unfold PB; omega) sb1 (f_Si_sing_L40 24 n)
      exact ⟨s', e1, ((sm.tr s1).tr s2).tr (e2.mono Psn_Psh), e3⟩
    have res : ∃ s', f_Si_sing_L40 24 (n + 1) (nI b) m = f_Si_sing_L40 24 n (nI (b + 1)) s' ∧ Sm Psh μ s' ∧ XS c p (b + 1) 0 (sal tw c p t g pl nb (b + 1)) s' := by
      rw [pre]
      cases e : g.testBit b with
      | false =>
        rw [if_neg (by decide)]
        exact fin m1 Sm.rf g14 (by unfold gvs; rw [if_neg (by rw [e]; decide)]; exact x1)
      | true =>
        rw [if_pos (by decide)]
        obtain ⟨m2, r1, r2, r3, r4⟩ := s_giveAgain hc hp' ht2 q1 hb x1
        rw [r1, bsome]
        exact fin m2 (r2.mono Psn_Psh) (by rw [r4]; exact g14) (by unfold gvs; rw [if_pos e]; exact r3)
    exact res
theorem s_sing {tw : (Nat → Int32) → Nat → Int} {c : CT} (hc : WC c) {p : PT} (hp' : WP p) {t g : Nat} (ht2 : t < 12) (hg2 : g < 16777216) {pl : Nat → Nat} (hpl : ∀ j, j < cN c → pl j < 16) {nb : Bool} {μ : MM} (hw : Wf μ) (hx : XG c μ) (hxp : XP p μ) (htx : TXs tw μ) {q : Nat} (hq2 : q = 11 ∨ q = 32) (hpq : ∀ j, j < cN c → gI μ q j = nI (pl j)) : ∃ μ', f_Si_sing 24 q (nI g) (nI t) (bi nb) μ = some μ' ∧ Sy Psg μ μ' ∧ XS c p 24 0 (sal tw c p t g pl nb 24) μ' ∧ XQ tw c p t g pl nb μ' := by
  obtain ⟨m0, h0⟩ : ∃ x, x = sR μ 24 8 (some q) := ⟨_, rfl⟩
  obtain ⟨m1, h1⟩ : ∃ x, x = sI m0 24 9 (nI g) := ⟨_, rfl⟩
  obtain ⟨m2, h2⟩ : ∃ x, x = sI m1 24 10 (nI t) := ⟨_, rfl⟩
  obtain ⟨m3, h3⟩ : ∃ x, x = sI m2 24 11 (bi nb) := ⟨_, rfl⟩
  obtain ⟨m4, h4⟩ : ∃ x, x = sI m3 24 13 (nI (cU c)) := ⟨_, rfl⟩
  obtain ⟨m5, h5⟩ : ∃ x, x = sL m4 24 12 0 := ⟨_, rfl⟩
  have w0 : Wf m0 := by rw [h0]; exact sR_wf hw _
  have s1 : Sm Psg m0 m1 := by rw [h1]; exact Sm.sI rfl
  have s2 : Sm Psg m0 m2 := by rw [h2]; exact s1.tr (Sm.sI rfl)
  have s3 : Sm Psg m0 m3 := by rw [h3]; exact s2.tr (Sm.sI rfl)
  have s4 : Sm Psg m0 m4 := by rw [h4]; exact s3.tr (Sm.sI rfl)
  have s5 : Sm Psg m0 m5 := by rw [h5]; exact s4.tr (Sm.sL rfl)
  have y5 : Sy Psg μ m5 := ⟨some q, by rw [← h0]; exact s5⟩
  have y3 : Sy Psg μ m3 := ⟨some q, by rw [← h0]; exact s3⟩
  have hq : XQ tw c p t g pl nb m5 := by
    refine ⟨y5.wf hw, y5.xg hx Psg_Pcf, y5.xp hxp Psg_xp, htx.ts (TS.sy y5 Psg_ts), ?_, ?_, ?_, q, ?_, hq2, ?_⟩
    · rw [h5, gI_sL, h4, gI_sI, h3, gI_sI, h2, gI_sI, h1, gI_sI]; simp [upd]
    · rw [h5, gI_sL, h4, gI_sI, h3, gI_sI, h2, gI_sI]; simp [upd]
    · rw [h5, gI_sL, h4, gI_sI, h3, gI_sI]; simp [upd]
    · rw [s5.gRf, h0]; rfl
    · intro j hj
      rw [y5.gI q (fun k => by rcases hq2 with rfl | rfl <;> rfl)]
      exact hpq j hj
  obtain ⟨μ', e1, e2, e3⟩ := sing_L40 hc hp' ht2 hg2 hpl hq (by rw [h5, gI_sL, h4, gI_sI]; simp [upd]) (by rw [h5, gL_sL]; rfl)
  refine ⟨μ', ?_, y5.tr (Sy.of (e2.mono Psh_Psg)), e3, hq.sm e2⟩
  unfold f_Si_sing
  rw [kO_24 hw, bsome, pR_24 hw, bsome, ← h0, pI_24 w0, bsome, ← h1, pI_24 (s1.wf w0), bsome, ← h2, pZ_24 (s2.wf w0) (bi_01 nb), bsome, ← h3, rR_24_1 (s3.wf w0), bsome, rI_9 (s3.wf w0), bsome, (y3.xg hx Psg_Pcf).2.1, pI_24 (s3.wf w0), bsome, ← h4, pL_24 (s4.wf w0), bsome, ← h5, e1]
