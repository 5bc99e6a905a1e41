/-! LAYER 2: all beats are sung, in the reference -/
def MS (c : CT) (p : PT) (b i : Nat) (s : SS) (μ : MM) : Prop := (∀ j b', j < cN c → sg c p j b' = true → (b' < b ∨ (b' = b ∧ j < i)) → b' < 24 → gI μ 83 (24 * j + b') = oI (s.1 (24 * j + b'))) ∧ (∀ j, j < cN c → gI μ 85 j = lnt c p j (if j < i then b + 1 else b)) ∧ (∀ j, j < cN c → ¬ lnt c p j (if j < i then b + 1 else b) = -1 → gI μ 84 j = oI (s.2.1 j)) ∧ gI μ 49 58 = nI s.2.2.1 ∧ gL μ 49 61 = lI s.2.2.2
theorem MS_skip {c : CT} {p : PT} {b i : Nat} {s : SS} {μ : MM} (h : sg c p i b = false) (hx : MS c p b i s μ) : MS c p b (i + 1) s μ := by
  obtain ⟨x1, x2, x3, x4⟩ := hx
  have el : ∀ j, lnt c p j (if j < i + 1 then b + 1 else b) = lnt c p j (if j < i then b + 1 else b) := fun j => by
    by_cases e : j = i
    · subst e
      rw [if_pos (by omega), if_neg (by omega), lnt_skip h]
    · by_cases e2 : j < i
      · rw [if_pos (by omega), if_pos e2]
      · rw [if_neg (by omega), if_neg e2]
  refine ⟨fun j b' hj hs hbb h24 => x1 j b' hj hs ?_ h24, fun j hj => by rw [el]; exact x2 j hj, fun j hj hl => by rw [el] at hl; exact x3 j hj hl, x4⟩
  rcases hbb with z | ⟨z1, z2⟩
  · exact Or.inl z
  · right
    refine ⟨z1, ?_⟩
    by_cases e : j = i
    · subst e; subst z1; rw [h] at hs; cases hs
    · omega
theorem MS_next {c : CT} {p : PT} {b : Nat} {s : SS} {μ : MM} (hx : MS c p b (cN c) s μ) : MS c p (b + 1) 0 s μ := by
  obtain ⟨x1, x2, x3, x4⟩ := hx
  refine ⟨fun j b' hj hs hbb h24 => x1 j b' hj hs (by omega) h24, fun j hj => ?_, fun j hj hl => x3 j hj ?_, x4⟩
  · have := x2 j hj
    rw [if_pos hj] at this
    rw [if_neg (by omega)]
    exact this
  · rw [if_neg (by omega)] at hl
    rw [if_pos hj]
    exact hl
theorem MS_sing {c : CT} {p : PT} {b i : Nat} (hb : b < 24) (hs' : sg c p i b = true) {s : SS} {μ μ' : MM} {q d : Int} {l : Nat} (hx : MS c p b i s μ) (h83 : gI μ' 83 = upd (gI μ 83) (24 * i + b) (oI q)) (h84 : gI μ' 84 = upd (gI μ 84) i (oI q)) (h85 : gI μ' 85 = upd (gI μ 85) i (nI b)) (h58 : gI μ' 49 58 = nI l) (h61 : gL μ' 49 61 = lI d) : MS c p b (i + 1) (uZ s.1 (24 * i + b) q, uZ s.2.1 i q, l, d) μ' := by
  obtain ⟨x1, x2, x3, x4⟩ := hx
  have el : ∀ j, ¬ j = i → lnt c p j (if j < i + 1 then b + 1 else b) = lnt c p j (if j < i then b + 1 else b) := fun j e => by
    by_cases e2 : j < i
    · rw [if_pos (by omega), if_pos e2]
    · rw [if_neg (by omega), if_neg e2]
  refine ⟨fun j b' hj hs hbb h24 => ?_, fun j hj => ?_, fun j hj hl => ?_, h58, h61⟩
  · show gI μ' 83 (24 * j + b') = oI (uZ s.1 (24 * i + b) q (24 * j + b'))
    rw [h83]
    unfold upd uZ
    by_cases e : 24 * j + b' = 24 * i + b
    · rw [if_pos e, if_pos e]
    · rw [if_neg e, if_neg e]
      exact x1 j b' hj hs (by omega) h24
  · rw [h85]
    unfold upd
    by_cases e : j = i
    · subst e
      rw [if_pos rfl, if_pos (by omega), lnt_s, if_pos hs']
    · rw [if_neg e, el j e]; exact x2 j hj
  · show gI μ' 84 j = oI (uZ s.2.1 i q j)
    rw [h84]
    unfold upd uZ
    by_cases e : j = i
    · rw [if_pos e, if_pos e]
    · rw [if_neg e, if_neg e]
      rw [el j e] at hl
      exact x3 j hj hl
def Pis (a k : Nat) : Bool := a == 86 || Pms a k
theorem Pms_Pis (a k : Nat) (h : Pis a k = false) : Pms a k = false := (Bool.or_eq_false_iff.mp h).2
theorem Pis_Pcf : ∀ a k, Pcf a k = true → Pis a k = false := by
  intro a k h
  simp [Pcf] at h
  simp [Pis, Pms, Pme]
  omega
theorem Pis_mp (a k : Nat) (h1 : 51 ≤ a) (h2 : a ≤ 56) : Pis a k = false := by
  simp [Pis, Pms, Pme]
  omega
theorem Pis_ts (a k : Nat) (h : tcl a = true ∨ (a = 49 ∧ k = 27)) : Pis a k = false := by
  simp [tcl] at h
  simp [Pis, Pms, Pme]
  omega
/-- what the reference's singing goes by -/
def MQs (tw : (Nat → Int32) → Nat → Int) (c : CT) (p : PT) (t g : Nat) (pl : Nat → Nat) (nb : Bool) (μ : MM) : Prop := Wf μ ∧ MG c μ ∧ MP p μ ∧ TXs tw μ ∧ gI μ 49 52 = nI g ∧ gI μ 49 53 = nI t ∧ (∀ j, j < cN c → pl j < 16 ∧ gI μ 81 j = nI (pl j)) ∧ ∀ j, j < cN c → gI μ 82 j = bi (knw c nb j)
theorem MQs.sm {tw : (Nat → Int32) → Nat → Int} {c : CT} {p : PT} {t g : Nat} {pl : Nat → Nat} {nb : Bool} {μ μ' : MM} (h : MQs tw c p t g pl nb μ) (s : Sm Pis μ μ') : MQs tw c p t g pl nb μ' := by
  obtain ⟨a1, a2, a3, a4, a5, a6, a7, a8⟩ := h
  refine ⟨s.wf a1, a2.sm s Pis_Pcf, a3.sm s Pis_mp, a4.ts (TS.sm s Pis_ts), ?_, ?_, ?_, ?_⟩
  · rw [(s.2.2 49 52 rfl).1]; exact a5
  · rw [(s.2.2 49 53 rfl).1]; exact a6
  · rw [s.gI 81 (fun _ => rfl)]; exact a7
  · rw [s.gI 82 (fun _ => rfl)]; exact a8
theorem sung_L64 {tw : (Nat → Int32) → Nat → Int} {c : CT} (hc : WC c) {p : PT} (hp' : WP p) {t g : Nat} (ht2 : t < 12) {pl : Nat → Nat} {nb : Bool} {μ : MM} (hq : MQs tw c p t g pl nb μ) {b : Nat} (hb : b < 24) {s : SS} (hx : MS c p b 0 s μ) (k43 : Int32 → Int32 → MM → Option MM) (x1 : Int32) : ∃ μ', f_M_isSung_L64 k43 49 x1 (nI b) FU 0 μ = f_M_isSung_J109 k43 49 x1 (nI b) μ' ∧ Sm Pms μ μ' ∧ MS c p b 0 (s.1, gvl c p t b s.2.1 (cN c), s.2.2) μ' := by
  have h8 := hc.1
  have i85 : ∀ j, j < cN c → gI μ 85 j = lnt c p j b := fun j hj => by
    have := hx.2.1 j hj
    rw [if_neg (by omega)] at this
    exact this
  refine upR (cN c) (fun n m => Sm (Pc1 84) μ m ∧ ∀ j, j < cN c → ¬ lnt c p j b = -1 → gI m 84 j = oI (gvl c p t b s.2.1 n j)) (fun n k m => f_M_isSung_L64 k43 49 x1 (nI b) n (nI k) m) (fun x => ∃ μ', x = f_M_isSung_J109 k43 49 x1 (nI b) μ' ∧ Sm Pms μ μ' ∧ MS c p b 0 (s.1, gvl c p t b s.2.1 (cN c), s.2.2) μ') (fun n m hi => ?_) (fun n k m hk hi => Or.inr ?_) 0 FU μ (by omega) (by unfold FU; omega) ⟨Sm.rf, fun j hj hl => by
    have := hx.2.2.1 j hj (by rw [if_neg (by omega)]; exact hl)
    rw [this]
    unfold gvl
    rw [if_neg (by omega)]⟩
  · obtain ⟨sm, hi⟩ := hi
    have s2 : Sm Pms μ m := sm.mono (fun a k z => Pc1_ne (fun e => by subst e; cases z) k)
    have w := sm.wf hq.1
    have mg := hq.2.1.sm s2 Pms_Pcf
    refine ⟨m, ?_, s2, ?_⟩
    · show f_M_isSung_L64 k43 49 x1 (nI b) (n + 1) (nI (cN c)) m = _
      rw [e_M_isSung_L64, rI_49 w, bsome, mg.1, if_pos (show nI (cN c) ≤ nI (cN c) by rw [cle (by omega) (by omega)]; omega)]
    · obtain ⟨x1, x2, x3, x4, x5⟩ := hx
      refine ⟨fun j b' hj hs hbb h24 => ?_, fun j hj => ?_, fun j hj hl => ?_, ?_, ?_⟩
      · rw [sm.gI 83 (fun _ => rfl)]; exact x1 j b' hj hs hbb h24
      · rw [sm.gI 85 (fun _ => rfl)]; exact x2 j hj
      · rw [if_neg (by omega)] at hl; exact hi j hj hl
      · rw [sm.gI 49 (fun _ => rfl)]; exact x4
      · rw [sm.gL 49 (fun _ => rfl)]; exact x5
  · obtain ⟨sm, hi⟩ := hi
    have s2 : Sm Pms μ m := sm.mono (fun a k z => Pc1_ne (fun e => by subst e; cases z) k)
    have w := sm.wf hq.1
    have qm := hq.sm (s2.mono Pms_Pis)
    obtain ⟨-, mg, mp, -, g52, g53, -⟩ := qm
    have m85 : gI m 85 k = lnt c p k b := by rw [sm.gI 85 (fun _ => rfl)]; exact i85 k hk
    rcases lst_lnt c p k b with e | ⟨j0, j1, j2, j3⟩
    · refine ⟨m, ?_, sm, fun j hj hl => ?_⟩
      · show f_M_isSung_L64 k43 49 x1 (nI b) (n + 1) (nI k) m = f_M_isSung_L64 k43 49 x1 (nI b) n (nI (k + 1)) m
        rw [e_M_isSung_L64, rI_49 w, bsome, mg.1, if_neg (show ¬ nI (cN c) ≤ nI k by rw [cle (by omega) (by omega)]; omega), rR_49_56 w, bsome, aI_85 w (by omega), bsome, m85, e, if_pos rfl, nI_1]
      · rw [hi j hj hl]
        unfold gvl
        have : ¬ j = k := fun z => hl (by rw [z]; exact e)
        by_cases q : j < k
        · rw [if_pos ⟨q, hl⟩, if_pos ⟨by omega, hl⟩]
        · rw [if_neg (fun z => q z.1), if_neg (fun z => by have := z.1; omega)]
    · obtain ⟨m2, h2⟩ : ∃ x, x = sI m 84 k (oI (tab c p t k j0)) := ⟨_, rfl⟩
      obtain ⟨y1, y2⟩ := s_keyOf w hc (MG_v mg) hp' mp.1 hk (show j0 < 24 by omega) j3
      refine ⟨m2, ?_, by rw [h2]; exact sm.tr (Sm.sI (by simp [Pc1])), fun j hj hl => ?_⟩
      · show f_M_isSung_L64 k43 49 x1 (nI b) (n + 1) (nI k) m = f_M_isSung_L64 k43 49 x1 (nI b) n (nI (k + 1)) m2
        rw [e_M_isSung_L64, rI_49 w, bsome, mg.1, if_neg (show ¬ nI (cN c) ≤ nI k by rw [cle (by omega) (by omega)]; omega), rR_49_56 w, bsome, aI_85 w (by omega), bsome, m85, j2, if_neg (nI_ne_m1 (by omega)), rR_49_55 w, bsome, bsome, aI_85 w (by omega), bsome, m85, j2, y1, bsome, s_tableOfM w mg.2.2.2.2.2 g53 ht2 y2, bsome, uI_84 w (by omega), bsome, show tbl c t (ky c p k j0) = tab c p t k j0 from rfl, ← h2, nI_1]
      · rw [h2, gI_sI]
        unfold upd gvl
        by_cases e : j = k
        · subst e
          rw [if_pos rfl, if_pos ⟨by omega, hl⟩, j2, nI_toInt (by omega), Int.toNat_natCast]
        · rw [if_neg e, hi j hj hl]
          unfold gvl
          by_cases q : j < k
          · rw [if_pos ⟨q, hl⟩, if_pos ⟨by omega, hl⟩]
          · rw [if_neg (fun z => q z.1), if_neg (fun z => by have := z.1; omega)]
theorem sung_L118 {tw : (Nat → Int32) → Nat → Int} {c : CT} (hc : WC c) {p : PT} (hp' : WP p) {t g : Nat} (ht2 : t < 12) {pl : Nat → Nat} {nb : Bool} {μ : MM} (hq : MQs tw c p t g pl nb μ) {b : Nat} (hb : b < 24) {s : SS} (hx : MS c p b 0 s μ) (h86 : gI μ 86 b = oI (gvn c g b)) {B : Int} (hB : 300000 ≤ B) (hB2 : B + 48160000 ≤ PB) (hsb : SB B s) (k43 : Int32 → Int32 → MM → Option MM) (x1 : Int32) : ∃ μ', f_M_isSung_L118 k43 49 x1 (nI b) FU 0 μ = k43 x1 (nI (b + 1)) μ' ∧ Sm Pms μ μ' ∧ MS c p (b + 1) 0 (snb tw c p t g pl nb b s (cN c)) μ' := by
  have h8 := hc.1
  have tb : TWB tw := hq.2.2.2.1.1
  refine upR (cN c) (fun i m => Sm Pms μ m ∧ MS c p b i (snb tw c p t g pl nb b s i) m) (fun n i m => f_M_isSung_L118 k43 49 x1 (nI b) n (nI i) m) (fun x => ∃ μ', x = k43 x1 (nI (b + 1)) μ' ∧ Sm Pms μ μ' ∧ MS c p (b + 1) 0 (snb tw c p t g pl nb b s (cN c)) μ') (fun n m hi => ?_) (fun n i m hi2 hi => Or.inr ?_) 0 FU μ (by omega) (by unfold FU; omega) ⟨Sm.rf, hx⟩
  · obtain ⟨sm, hi⟩ := hi
    have qm := hq.sm (sm.mono Pms_Pis)
    refine ⟨m, ?_, sm, MS_next hi⟩
    show f_M_isSung_L118 k43 49 x1 (nI b) (n + 1) (nI (cN c)) m = _
    rw [e_M_isSung_L118, rI_49 qm.1, bsome, qm.2.1.1, if_pos (show nI (cN c) ≤ nI (cN c) by rw [cle (by omega) (by omega)]; omega), nI_1]
  · obtain ⟨sm, hi⟩ := hi
    have qm := hq.sm (sm.mono Pms_Pis)
    have pre : f_M_isSung_L118 k43 49 x1 (nI b) (n + 1) (nI i) m = if bi (sg c p i b) = 0 then f_M_isSung_L118 k43 49 x1 (nI b) n (nI (i + 1)) m else (f_M_singsNote 49 (nI i) (nI b) m).bind fun m' => f_M_isSung_L118 k43 49 x1 (nI b) n (nI (i + 1)) m' := by
      rw [e_M_isSung_L118, rI_49 qm.1, bsome, qm.2.1.1, if_neg (show ¬ nI (cN c) ≤ nI i by rw [cle (by omega) (by omega)]; omega), s_singsM qm.1 hc (MG_v qm.2.1) qm.2.2.1.1 hi2, bsome, nI_1]
      rfl
    cases e : sg c p i b with
    | false =>
      refine ⟨m, ?_, sm, ?_⟩
      · show f_M_isSung_L118 k43 49 x1 (nI b) (n + 1) (nI i) m = f_M_isSung_L118 k43 49 x1 (nI b) n (nI (i + 1)) m
        rw [pre, e, if_pos (by decide)]
      · show MS c p b (i + 1) (sn1 tw c p t g pl nb b i (snb tw c p t g pl nb b s i)) m
        unfold sn1
        rw [if_neg (by rw [e]; decide)]
        exact MS_skip e hi
    | true =>
      have sbi := snb_b tb hc hp' (t := t) (g := g) (pl := pl) (nb := nb) hb hB hsb i (by omega)
      obtain ⟨q1, q2, q3, q4, q5, q6, q7, q8⟩ := qm
      have h85 : gI m 85 i = lnt c p i b := by
        have := hi.2.1 i hi2
        rw [if_neg (by omega)] at this
        exact this
      obtain ⟨m', r1, r2, r3, r4, r5, r6, r7⟩ := s_singsNote (tw := tw) q1 hc q2 hp' q3 q4 (t := t) (g := g) (nb := nb) q6 ht2 hi2 hb e (lp := (snb tw c p t g pl nb b s i).2.1 i) h85 (fun z => hi.2.2.1 i hi2 (by rw [if_neg (by omega)]; exact z)) (by rw [(sm.2.2 86 b rfl).1]; exact h86) hi.2.2.2.1 sbi.2.2 q7 (q8 i hi2) (pit := (snb tw c p t g pl nb b s i).1) (B := B + 6020000 * i) (by omega) (by omega) (fun j hj hs => ⟨hi.1 j b (by omega) hs (Or.inr ⟨rfl, hj⟩) hb, sbi.1 _⟩) (sbi.2.1 i) hi.2.2.2.2
      refine ⟨m', ?_, sm.tr r2, ?_⟩
      · show f_M_isSung_L118 k43 49 x1 (nI b) (n + 1) (nI i) m = f_M_isSung_L118 k43 49 x1 (nI b) n (nI (i + 1)) m'
        rw [pre, e, if_neg (by decide), r1, bsome]
      · show MS c p b (i + 1) (sn1 tw c p t g pl nb b i (snb tw c p t g pl nb b s i)) m'
        unfold sn1
        rw [if_pos e]
        exact MS_sing hb e hi r3 r4 r5 r6 r7
/-- the wind as it is ahead of a beat -/
def wnd (c : CT) (g : Nat) : Nat → Int
  | 0 => cW c
  | b + 1 => gvn c g b
theorem gvn_w (c : CT) (g b : Nat) : gvn c g b = if g.testBit b = true then 0 else wnd c g b := by
  cases b with
  | zero => exact gvn_0 c g
  | succ b => exact gvn_s c g b
theorem s_Mhas {g b : Nat} (hg : g < 16777216) (hb : b < 24) : f_M_has (nI g) (nI b) = some (bi (g.testBit b)) := by
  unfold f_M_has
  rw [bit_nI (by omega) (by omega)]
  cases g.testBit b <;> rfl
theorem sung_L43 {tw : (Nat → Int32) → Nat → Int} {c : CT} (hc : WC c) {p : PT} (hp' : WP p) {t g : Nat} (ht2 : t < 12) (hg2 : g < 16777216) {pl : Nat → Nat} {nb : Bool} {μ : MM} (hq : MQs tw c p t g pl nb μ) (h85 : ∀ j, j < cN c → gI μ 85 j = -1) (h58 : gI μ 49 58 = nI (cU c)) (h61 : gL μ 49 61 = lI 0) : ∃ μ', f_M_isSung_L43 49 FU (oI (cW c)) 0 μ = some μ' ∧ Sm Pis μ μ' ∧ MS c p 24 0 (sal tw c p t g pl nb 24) μ' ∧ ∀ k, k < 24 → gI μ' 86 k = oI (gvn c g k) := by
  have h8 := hc.1
  have tb : TWB tw := hq.2.2.2.1.1
  refine upR 24 (fun b (q : Int32 × MM) => q.1 = oI (wnd c g b) ∧ Sm Pis μ q.2 ∧ MS c p b 0 (sal tw c p t g pl nb b) q.2 ∧ ∀ k, k < b → gI q.2 86 k = oI (gvn c g k)) (fun n b q => f_M_isSung_L43 49 n q.1 (nI b) q.2) (fun x => ∃ μ', x = some μ' ∧ Sm Pis μ μ' ∧ MS c p 24 0 (sal tw c p t g pl nb 24) μ' ∧ ∀ k, k < 24 → gI μ' 86 k = oI (gvn c g k)) (fun n q hi => ?_) (fun n b q hb hi => Or.inr ?_) 0 FU (oI (cW c), μ) (by decide) (by decide) ⟨rfl, Sm.rf, ⟨fun j b' _ _ hbb _ => by omega, fun j hj => by rw [if_neg (by omega)]; exact h85 j hj, fun j hj hl => absurd (show lnt c p j (if j < 0 then 0 + 1 else 0) = -1 by rw [if_neg (by omega)]; rfl) hl, h58, h61⟩, fun k hk => absurd hk (by omega)⟩
  · refine ⟨q.2, ?_, hi.2⟩
    show f_M_isSung_L43 49 (n + 1) q.1 (nI 24) q.2 = _
    rw [e_M_isSung_L43, if_pos (by decide)]
  · obtain ⟨x1, m⟩ := q
    obtain ⟨hx1, sm, hi, h86⟩ := hi
    have h86 : ∀ k, k < b → gI m 86 k = oI (gvn c g k) := h86
    have hx1 : x1 = oI (wnd c g b) := hx1
    have sm : Sm Pis μ m := sm
    have hi : MS c p b 0 (sal tw c p t g pl nb b) m := hi
    have qm := hq.sm sm
    have sb0 := sal_b tb hc hp' (t := t) (g := g) (pl := pl) (nb := nb) b (by omega)
    have sb1 := gvs_b hc hp' (t := t) (g := g) (b := b) (by omega) (by omega) sb0
    have fin : ∀ m2, Sm Pms m m2 → MS c p b 0 (gvs c p t g b (sal tw c p t g pl nb b)) m2 → ∃ s' : Int32 × MM, f_M_isSung_J109 (f_M_isSung_L43 49 n) 49 (oI (gvn c g b)) (nI b) m2 = f_M_isSung_L43 49 n s'.1 (nI (b + 1)) s'.2 ∧ s'.1 = oI (wnd c g (b + 1)) ∧ Sm Pis μ s'.2 ∧ MS c p (b + 1) 0 (sal tw c p t g pl nb (b + 1)) s'.2 ∧ ∀ k, k < b + 1 → gI s'.2 86 k = oI (gvn c g k) := fun m2 s2' x2 => by
      have s2 := s2'.mono Pms_Pis
      obtain ⟨m3, h3⟩ : ∃ x, x = sI m2 86 b (oI (gvn c g b)) := ⟨_, rfl⟩
      have s3 : Sm Pis m2 m3 := by rw [h3]; exact Sm.sI rfl
      have q2 := qm.sm s2
      have x3 : MS c p b 0 (gvs c p t g b (sal tw c p t g pl nb b)) m3 := by
        unfold MS
        rw [h3]
        simp (disch := decide) only [gI_sI_ne]
        exact x2
      obtain ⟨s', e1, e2, e3⟩ := sung_L118 hc hp' ht2 (q2.sm s3) hb x3 (by rw [h3, gI_sI]; simp [upd]) (by omega) (by unfold PB; omega) sb1 (f_M_isSung_L43 49 n) (oI (gvn c g b))
      refine ⟨(oI (gvn c g b), s'), ?_, rfl, ((sm.tr s2).tr s3).tr (e2.mono Pms_Pis), e3, fun k hk => ?_⟩
      rotate_left
      · show gI s' 86 k = oI (gvn c g k)
        rw [e2.gI 86 (fun _ => rfl), h3, gI_sI]
        unfold upd
        by_cases e : k = b
        · rw [if_pos e, e]
        · rw [if_neg e, s2'.gI 86 (fun _ => rfl)]; exact h86 k (by omega)
      unfold f_M_isSung_J109
      rw [rR_49_57 q2.1, bsome, uI_86 q2.1 hb, bsome, ← h3, e1]
    have pre : f_M_isSung_L43 49 (n + 1) x1 (nI b) m = if bi (g.testBit b) = 0 then f_M_isSung_J109 (f_M_isSung_L43 49 n) 49 x1 (nI b) m else f_M_isSung_L64 (f_M_isSung_L43 49 n) 49 0 (nI b) FU 0 m := by
      rw [e_M_isSung_L43, if_neg (show ¬ (24 : Int32) ≤ nI b from nI_ge (b := 24) (by omega) (by omega)), rI_49 qm.1, bsome, qm.2.2.2.2.1, s_Mhas hg2 hb, bsome]
    have gw := gvn_w c g b
    show ∃ s' : Int32 × MM, f_M_isSung_L43 49 (n + 1) x1 (nI b) m = f_M_isSung_L43 49 n s'.1 (nI (b + 1)) s'.2 ∧ s'.1 = oI (wnd c g (b + 1)) ∧ Sm Pis μ s'.2 ∧ MS c p (b + 1) 0 (sal tw c p t g pl nb (b + 1)) s'.2 ∧ ∀ k, k < b + 1 → gI s'.2 86 k = oI (gvn c g k)
    rw [pre]
    cases e : g.testBit b with
    | false =>
      rw [if_pos (by decide)]
      rw [e, if_neg (by decide)] at gw
      rw [hx1, ← gw]
      exact fin m Sm.rf (by unfold gvs; rw [if_neg (by rw [e]; decide)]; exact hi)
    | true =>
      rw [if_neg (by decide)]
      rw [e, if_pos rfl] at gw
      obtain ⟨m2, r1, r2, r3⟩ := sung_L64 hc hp' ht2 qm hb hi (f_M_isSung_L43 49 n) 0
      rw [r1, show (0 : Int32) = oI (gvn c g b) by rw [gw]; rfl]
      exact fin m2 r2 (by unfold gvs; rw [if_pos e]; exact r3)
theorem s_isSungG {tw : (Nat → Int32) → Nat → Int} {c : CT} (hc : WC c) {p : PT} (hp' : WP p) {t g : Nat} (ht2 : t < 12) (hg2 : g < 16777216) {pl : Nat → Nat} {nb : Bool} {μ : MM} (hq : MQs tw c p t g pl nb μ) : ∃ μ', f_M_isSung 49 μ = some μ' ∧ Sm Pis μ μ' ∧ MS c p 24 0 (sal tw c p t g pl nb 24) μ' ∧ ∀ k, k < 24 → gI μ' 86 k = oI (gvn c g k) := by
  have h8 := hc.1
  obtain ⟨m1, h1⟩ : ∃ x, x = sI μ 49 58 (nI (cU c)) := ⟨_, rfl⟩
  obtain ⟨m2, h2⟩ : ∃ x, x = sL m1 49 61 0 := ⟨_, rfl⟩
  have s1 : Sm Pis μ m1 := by rw [h1]; exact Sm.sI rfl
  have s2 : Sm Pis μ m2 := by rw [h2]; exact s1.tr (Sm.sL rfl)
  have q1 := hq.sm s1
  have q2 := hq.sm s2
  unfold f_M_isSung
  rw [kO_49 hq.1, bsome, rI_49 hq.1, bsome, hq.2.1.2.1, pI_49 hq.1, bsome, ← h1, pL_49 q1.1, bsome, ← h2, rI_49 q2.1, bsome, q2.2.1.2.2.1]
  refine upR (cN c) (fun n m => Sm Pis m2 m ∧ gI m 49 58 = nI (cU c) ∧ gL m 49 61 = lI 0 ∧ ∀ j, j < n → gI m 85 j = -1) (fun n k m => f_M_isSung_L20 49 (oI (cW c)) n (nI k) m) (fun x => ∃ μ', x = some μ' ∧ Sm Pis μ μ' ∧ MS c p 24 0 (sal tw c p t g pl nb 24) μ' ∧ ∀ k, k < 24 → gI μ' 86 k = oI (gvn c g k)) (fun n m hi => ?_) (fun n k m hk hi => Or.inr ?_) 0 FU m2 (by omega) (by unfold FU; omega) ⟨Sm.rf, by rw [h2, gI_sL, h1, gI_sI]; simp [upd], by rw [h2, gL_sL]; rfl, fun j hj => absurd hj (by omega)⟩
  · obtain ⟨sm, y1, y2, y3⟩ := hi
    have qm := q2.sm sm
    obtain ⟨μ', e1, e2, e3⟩ := sung_L43 hc hp' ht2 hg2 qm y3 y1 y2
    refine ⟨μ', ?_, (s2.tr sm).tr e2, e3⟩
    show f_M_isSung_L20 49 (oI (cW c)) (n + 1) (nI (cN c)) m = _
    rw [e_M_isSung_L20, rI_49 qm.1, bsome, qm.2.1.1, if_pos (show nI (cN c) ≤ nI (cN c) by rw [cle (by omega) (by omega)]; omega), e1]
  · obtain ⟨sm, y1, y2, y3⟩ := hi
    have qm := q2.sm sm
    obtain ⟨m3, h3⟩ : ∃ x, x = sI m 85 k (-1) := ⟨_, rfl⟩
    refine ⟨m3, ?_, by rw [h3]; exact sm.tr (Sm.sI rfl), ?_, ?_, fun j hj => ?_⟩
    · show f_M_isSung_L20 49 (oI (cW c)) (n + 1) (nI k) m = f_M_isSung_L20 49 (oI (cW c)) n (nI (k + 1)) m3
      rw [e_M_isSung_L20, rI_49 qm.1, bsome, qm.2.1.1, if_neg (show ¬ nI (cN c) ≤ nI k by rw [cle (by omega) (by omega)]; omega), rR_49_56 qm.1, bsome, uI_85 qm.1 (by omega), bsome, ← h3, nI_1]
    · rw [h3, gI_sI_ne (by decide)]; exact y1
    · rw [h3, gL_sI]; exact y2
    · rw [h3, gI_sI]
      unfold upd
      split
      · rfl
      · exact y3 j (by omega)
theorem s_isSung {tw : (Nat → Int32) → Nat → Int} {c : CT} (hc : WC c) {p : PT} (hp' : WP p) {t g : Nat} (ht2 : t < 12) (hg2 : g < 16777216) {pl : Nat → Nat} {nb : Bool} {μ : MM} (hq : MQs tw c p t g pl nb μ) : ∃ μ', f_M_isSung 49 μ = some μ' ∧ Sm Pis μ μ' ∧ MS c p 24 0 (sal tw c p t g pl nb 24) μ' := by
  obtain ⟨μ', e1, e2, e3, -⟩ := s_isSungG hc hp' ht2 hg2 hq
  exact ⟨μ', e1, e2, e3⟩
