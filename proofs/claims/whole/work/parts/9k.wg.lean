/-! LAYER 2: what a text gives: weights, in both -/
def clp (w : Nat) (o : Option Int32) : Int := match o with
  | none => 0
  | some v => if v.toInt < wlo w then wlo w else if whi w < v.toInt then whi w else v.toInt
def twf (t : Nat → CLT) (L : Nat → Int32) (w : Nat) : Nat → Option Int
  | 0 => none
  | k + 1 => match twf t L w k with
    | some z => some z
    | none => if tW (t k) = w ∧ dX L (tXc (t k)) = some 1 then some (clp w (dX L (tXe (t k)))) else none
def twt (t : Nat → CLT) (c : Nat) (L : Nat → Int32) (w : Nat) : Int := (twf t L w c).getD 0
theorem wlo_b (w : Nat) : -20000 ≤ wlo w ∧ wlo w ≤ 0 ∧ 0 ≤ whi w ∧ whi w ≤ 20000 := by
  unfold wlo whi
  split <;> decide
theorem clp_b (w : Nat) (o : Option Int32) : wlo w ≤ clp w o ∧ clp w o ≤ whi w := by
  have := wlo_b w
  match o with
  | none => show wlo w ≤ 0 ∧ 0 ≤ whi w; omega
  | some v =>
    show wlo w ≤ (if v.toInt < wlo w then wlo w else if whi w < v.toInt then whi w else v.toInt) ∧ (if v.toInt < wlo w then wlo w else if whi w < v.toInt then whi w else v.toInt) ≤ whi w
    split
    · omega
    · split <;> omega
theorem twf_b (t : Nat → CLT) (L : Nat → Int32) (w : Nat) : ∀ c z, twf t L w c = some z → wlo w ≤ z ∧ z ≤ whi w
  | 0, z, h => by cases h
  | c + 1, z, h => by
    have h : (match twf t L w c with
      | some z => some z
      | none => if tW (t c) = w ∧ dX L (tXc (t c)) = some 1 then some (clp w (dX L (tXe (t c)))) else none) = some z := h
    cases e : twf t L w c with
    | some y =>
      rw [e] at h
      cases h
      exact twf_b t L w c _ e
    | none =>
      rw [e] at h
      by_cases g : tW (t c) = w ∧ dX L (tXc (t c)) = some 1
      · have h : (if tW (t c) = w ∧ dX L (tXc (t c)) = some 1 then some (clp w (dX L (tXe (t c)))) else none) = some z := h
        rw [if_pos g] at h
        cases h
        exact clp_b w _
      · have h : (if tW (t c) = w ∧ dX L (tXc (t c)) = some 1 then some (clp w (dX L (tXe (t c)))) else none) = some z := h
        rw [if_neg g] at h; cases h
theorem twt_b (t : Nat → CLT) (c : Nat) (L : Nat → Int32) (w : Nat) : wlo w ≤ twt t c L w ∧ twt t c L w ≤ whi w := by
  unfold twt
  cases e : twf t L w c with
  | some z => exact twf_b t L w c z e
  | none => have := wlo_b w; show wlo w ≤ 0 ∧ 0 ≤ whi w; omega
theorem twf_o {t : Nat → CLT} {L : Nat → Int32} {w k : Nat} (h : ¬ (tW (t k) = w ∧ dX L (tXc (t k)) = some 1)) : twf t L w (k + 1) = twf t L w k := by
  show (match twf t L w k with
    | some z => some z
    | none => if tW (t k) = w ∧ dX L (tXc (t k)) = some 1 then some (clp w (dX L (tXe (t k)))) else none) = _
  cases twf t L w k with
  | some z => rfl
  | none => show (if tW (t k) = w ∧ dX L (tXc (t k)) = some 1 then some (clp w (dX L (tXe (t k)))) else none) = none; rw [if_neg h]
theorem twf_h {t : Nat → CLT} {L : Nat → Int32} {w k : Nat} (h : (twf t L w k).isSome = true) : twf t L w (k + 1) = twf t L w k := by
  show (match twf t L w k with
    | some z => some z
    | none => if tW (t k) = w ∧ dX L (tXc (t k)) = some 1 then some (clp w (dX L (tXe (t k)))) else none) = _
  cases e : twf t L w k with
  | some z => rfl
  | none => rw [e] at h; cases h
theorem twf_n {t : Nat → CLT} {L : Nat → Int32} {w k : Nat} (h0 : twf t L w k = none) (h : tW (t k) = w ∧ dX L (tXc (t k)) = some 1) : twf t L w (k + 1) = some (clp w (dX L (tXe (t k)))) := by
  show (match twf t L w k with
    | some z => some z
    | none => if tW (t k) = w ∧ dX L (tXc (t k)) = some 1 then some (clp w (dX L (tXe (t k)))) else none) = _
  rw [h0]
  show (if tW (t k) = w ∧ dX L (tXc (t k)) = some 1 then some (clp w (dX L (tXe (t k)))) else none) = _
  rw [if_pos h]
/-! in the first program -/
theorem within_c (lo hi : Int) (h1 : -20000 ≤ lo ∧ lo ≤ 20000) (h2 : -20000 ≤ hi ∧ hi ≤ 20000) (v : Int32) : f_Pr_within_J26 v (oI lo) (oI hi) = some (oI (if v.toInt < lo then lo else if hi < v.toInt then hi else v.toInt)) := by
  unfold f_Pr_within_J26
  have e : oI v.toInt = v := by
    apply Int32.toInt_inj.mp
    rw [oI_toInt (Int32.le_toInt v) (Int32.toInt_lt v)]
  by_cases a : v.toInt < lo
  · rw [if_neg (by rw [toInt_le, oI_toInt (by omega) (by omega)]; omega), if_pos a]
  · rw [if_pos (by rw [toInt_le, oI_toInt (by omega) (by omega)]; omega), if_neg a]
    by_cases b : hi < v.toInt
    · rw [if_neg (by rw [toInt_le, oI_toInt (by omega) (by omega)]; omega), if_pos b]
    · rw [if_pos (by rw [toInt_le, oI_toInt (by omega) (by omega)]; omega), if_neg b, e]
theorem s_within {w : Nat} (hw : w < 5) (v : Int32) : f_Pr_within (nI w) v = some (oI (clp w (some v))) := by
  show _ = some (oI (if v.toInt < wlo w then wlo w else if whi w < v.toInt then whi w else v.toInt))
  unfold f_Pr_within f_Pr_within_J12
  by_cases e : w = 4
  · subst e
    rw [if_pos (by decide), if_pos (by decide)]
    exact within_c (-20000) 20000 (by decide) (by decide) v
  · have n4 : ¬ nI w = (4 : Int32) := by rw [show (4 : Int32) = nI 4 from rfl, ceq (by omega) (by omega)]; exact e
    rw [if_neg n4, if_neg n4]
    have h1 : wlo w = 0 := if_neg e
    have h2 : whi w = 100 := if_neg e
    rw [h1, h2]
    exact within_c 0 100 (by decide) (by decide) v
def Pw1 (a x _k : Nat) : Bool := x == a + 3 || x == 28
theorem Pw1_3 {a : Nat} (x k : Nat) (h : Pw1 a x k = false) : Pc1 (a + 3) x k = false := (Bool.or_eq_false_iff.mp h).1
theorem Pw1_n {a x k : Nat} (h1 : ¬ x = a + 3) (h2 : ¬ x = 28) : Pw1 a x k = false := by simp [Pw1, h1, h2]
theorem pr28 {a : Nat} (pr : isPr a) : ¬ a = 28 ∧ ¬ a + 1 = 28 ∧ ¬ a + 2 = 28 ∧ ¬ a + 4 = 28 ∧ ¬ a + 5 = 28 ∧ ¬ a + 6 = 28 ∧ ¬ 28 = a + 3 := by rcases pr with rfl | rfl <;> decide
theorem XTa.sm {a c : Nat} {t : Nat → CLT} {μ μ' : MM} (pr : isPr a) (h : XTa a t c μ) (s : Sm (Pw1 a) μ μ') : XTa a t c μ' := by
  obtain ⟨k1, k2, k3, k4, k5⟩ := pr27 pr
  obtain ⟨l1, l2, l3, l4, l5, l6, l7⟩ := pr28 pr
  unfold XTa
  rw [s.gI a (fun _ => Pw1_n k1 l1), s.gI (a + 1) (fun _ => Pw1_n k2 l2), s.gI (a + 2) (fun _ => Pw1_n k3 l3), s.gI (a + 4) (fun _ => Pw1_n (by omega) l4), s.gI (a + 5) (fun _ => Pw1_n (by omega) l5), s.gI (a + 6) (fun _ => Pw1_n (by omega) l6)]
  exact h
theorem fill28 {μ : MM} (w : Wf μ) : ∃ m, f_Ar_fill_AI 28 0 μ = some m ∧ Sm (Pc1 28) μ m ∧ ∀ j, j < 5 → gI m 28 j = 0 := by
  unfold f_Ar_fill_AI
  rw [aN_28 w, bsome]
  refine upR 5 (fun k m => Sm (Pc1 28) μ m ∧ ∀ j, j < k → gI m 28 j = 0) (fun n k m => f_Ar_fill_AI_L5 28 0 (nI 5) n (nI k) m) (fun x => ∃ m, x = some m ∧ Sm (Pc1 28) μ m ∧ ∀ j, j < 5 → gI m 28 j = 0) (fun n m hi => ?_) (fun n k m hk hi => Or.inr ?_) 0 FU μ (by omega) (by unfold FU; omega) ⟨Sm.rf, fun j hj => absurd hj (by omega)⟩
  · refine ⟨m, ?_, hi⟩
    show f_Ar_fill_AI_L5 28 0 (nI 5) (n + 1) (nI 5) m = _
    rw [e_Ar_fill_AI_L5, if_pos (by decide)]
  · obtain ⟨s, hi⟩ := hi
    refine ⟨sI m 28 k 0, ?_, s.tr (Sm.sI Pc1_s), fun j hj => ?_⟩
    · show f_Ar_fill_AI_L5 28 0 (nI 5) (n + 1) (nI k) m = f_Ar_fill_AI_L5 28 0 (nI 5) n (nI (k + 1)) _
      rw [e_Ar_fill_AI_L5, if_neg (by rw [cle (by omega) (by omega)]; omega), uI_28 (s.wf w) hk, bsome, nI_1]
    · rw [gI_sI]
      unfold upd
      by_cases q : j = k
      · rw [if_pos q]
      · rw [if_neg q]; exact hi j (by omega)
def WI (t : Nat → CLT) (L : Nat → Int32) (k F : Nat) (m : MM) : Prop := F < 32 ∧ ∀ w, w < 5 → F.testBit w = (twf t L w k).isSome ∧ gI m 28 w = oI ((twf t L w k).getD 0)
theorem wgL {a c : Nat} {t : Nat → CLT} (pr : isPr a) {L : Nat → Int32} {μ : MM} (w0 : Wf μ) (hx : XTa a t c μ) (hL : ∀ k, k < 12 → gI μ 27 k = L k) : ∀ (d k n F : Nat) (m : MM), k + d = c → d < n → Sm (Pw1 a) μ m → WI t L k F m → ∃ m', f_Pr_weigh_L10 a 27 28 n (nI F) (nI k) m = some m' ∧ Sm (Pw1 a) μ m' ∧ ∀ w, w < 5 → gI m' 28 w = oI (twt t c L w) := by
  intro d
  obtain ⟨k1, k2, k3, k4, k5⟩ := pr27 pr
  obtain ⟨l1, l2, l3, l4, l5, l6, l7⟩ := pr28 pr
  have c14 : c ≤ 14 := hx.2.2.2.1
  induction d with
  | zero =>
    intro k n F m hk hn s wi
    obtain ⟨n, rfl⟩ : ∃ j, n = j + 1 := ⟨n - 1, by omega⟩
    have w := s.wf w0
    have hm := hx.sm pr s
    have : k = c := by omega
    subst this
    refine ⟨m, ?_, s, fun w hw => (wi.2 w hw).2⟩
    rw [e_Pr_weigh_L10, pr_rI pr w, bsome, hm.1, if_pos (by rw [cle (by omega) (by omega)]; omega)]
  | succ d ih =>
    intro k n F m hk hn s wi
    obtain ⟨n, rfl⟩ : ∃ j, n = j + 1 := ⟨n - 1, by omega⟩
    have w := s.wf w0
    have hm := hx.sm pr s
    obtain ⟨F32, wi⟩ := wi
    obtain ⟨x1, x2, x3, x4, x5⟩ := hm
    obtain ⟨cg, y1, y2, y3, y4, y5, y6⟩ := x5 k (by omega)
    obtain ⟨cw, ce, cc, ve, -, vc, -⟩ := cg
    have hL' : ∀ j, j < 12 → gI m 27 j = L j := fun j hj => by rw [s.gI 27 (fun _ => Pw1_n k4 (by decide))]; exact hL j hj
    have lj : posX t (k + 1) = posX t k + (tXe (t k)).length + (tXc (t k)).length := rfl
    have le : posX t (k + 1) ≤ posX t c := posX_m t c (by omega)
    -- on to the next
    have skip : ∀ m', Sm (Pw1 a) μ m' → gI m' 28 = gI m 28 → (∀ w, w < 5 → twf t L w (k + 1) = twf t L w k) → ∃ m2, f_Pr_weigh_L10 a 27 28 n (nI F) (nI k + (1 : Int32)) m' = some m2 ∧ Sm (Pw1 a) μ m2 ∧ ∀ w, w < 5 → gI m2 28 w = oI (twt t c L w) := fun m' s' g28 ht => by
      obtain ⟨m2, q1, q2, q3⟩ := ih (k + 1) n F m' (by omega) (by omega) s' ⟨F32, fun w hw => by rw [ht w hw, g28]; exact wi w hw⟩
      exact ⟨m2, by rw [nI_1, q1], q2, q3⟩
    have bt := bit_nI (n := F) (k := tW (t k)) (by omega) (by omega)
    have pre : f_Pr_weigh_L10 a 27 28 (n + 1) (nI F) (nI k) m = if F.testBit (tW (t k)) = true then f_Pr_weigh_L10 a 27 28 n (nI F) (nI k + (1 : Int32)) m else f_Pr_weigh_J54 (f_Pr_weigh_L10 a 27 28 n) a 27 28 (nI F) (nI k) (nI (tW (t k))) (1 : Int32) m := by
      rw [e_Pr_weigh_L10, pr_rI pr w, bsome, x1, if_neg (by rw [cle (by omega) (by omega)]; omega), pr_r3 pr w, bsome, pr_a4 pr w (by omega), bsome, y1, if_neg (nI_pos (by omega)), aN_28 w, bsome, if_neg (by rw [cle (by omega) (by omega)]; omega), bt]
      unfold f_Pr_weigh_J53
      cases F.testBit (tW (t k))
      · rw [if_pos (by decide), if_neg (by decide)]
      · rw [if_neg (by decide), if_pos rfl]
        unfold f_Pr_weigh_J54
        rw [if_pos rfl]
    rw [pre]
    by_cases tb : F.testBit (tW (t k)) = true
    · rw [if_pos tb]
      refine skip m s rfl (fun w hw => ?_)
      by_cases e : tW (t k) = w
      · subst e
        exact twf_h (by rw [← (wi _ cw).1]; exact tb)
      · exact twf_o (fun q => e q.1)
    · rw [if_neg tb]
      have tn : twf t L (tW (t k)) k = none := by
        have := (wi _ cw).1
        cases e : twf t L (tW (t k)) k with
        | none => rfl
        | some z => rw [e] at this; exact absurd this tb
      obtain ⟨m1, r1, r2, r3⟩ := s_reckon pr (L := L) (S := posX t c) x3 (k := posX t k + (tXe (t k)).length) (xs := tXc (t k)) (by omega) w x2 y6 vc hL' cc
      have s1 : Sm (Pw1 a) μ m1 := s.tr (r2.mono Pw1_3)
      have w1 := r2.wf w
      have g28 : gI m1 28 = gI m 28 := r2.gI 28 (Pc1_ne l7)
      have hm1 := hx.sm pr s1
      obtain ⟨X1, X2, X3, X4, X5⟩ := hm1
      obtain ⟨-, Y1, Y2, Y3, Y4, Y5, Y6⟩ := X5 k (by omega)
      have hL1 : ∀ j, j < 12 → gI m1 27 j = L j := fun j hj => by rw [s1.gI 27 (fun _ => Pw1_n k4 (by decide))]; exact hL j hj
      have pre2 : f_Pr_weigh_J54 (f_Pr_weigh_L10 a 27 28 n) a 27 28 (nI F) (nI k) (nI (tW (t k))) (1 : Int32) m = if bi (dX L (tXc (t k))).isSome = 0 then (f_Pr_weigh_L10 a 27 28 n) (nI F) (nI k + (1 : Int32)) m1 else if gI m1 (a + 3) 0 = 0 then (f_Pr_weigh_L10 a 27 28 n) (nI F) (nI k + (1 : Int32)) m1 else (f_Pr_reckon a (nI (posX t k)) (nI (posX t k + (tXe (t k)).length)) 27 m1).bind fun q120 => if q120.1 = 0 then f_Pr_weigh_J141 (f_Pr_weigh_L10 a 27 28 n) a 27 28 (nI F ||| (ishl (1 : Int32) (nI (tW (t k))))) (nI k) 28 (nI (tW (t k))) (0 : Int32) q120.2 else (rR q120.2 a 5 2).bind fun y129 => (aI q120.2 y129 (0 : Int32)).bind fun y133 => (f_Pr_within (nI (tW (t k))) y133).bind fun y134 => f_Pr_weigh_J141 (f_Pr_weigh_L10 a 27 28 n) a 27 28 (nI F ||| (ishl (1 : Int32) (nI (tW (t k))))) (nI k) 28 (nI (tW (t k))) y134 q120.2 := by
        unfold f_Pr_weigh_J54
        rw [if_neg (show ¬ (1 : Int32) = 0 by decide), pr_r5 pr w, bsome, pr_a6 pr w (by omega), bsome, y4, pr_r4 pr w, bsome, nI_1, pr_a5 pr w (by omega), bsome, y3, lj, r1, bsome]
        show (if bi (dX L (tXc (t k))).isSome = 0 then _ else (rR m1 a 5 2).bind fun y86 => (aI m1 y86 (0 : Int32)).bind _) = _
        by_cases e : bi (dX L (tXc (t k))).isSome = 0
        · rw [if_pos e, if_pos e] <;> rfl
        · rw [if_neg e, if_neg e, pr_r2 pr w1, bsome, show (0 : Int32) = nI 0 from rfl, pr_a3 pr w1 (by decide), bsome]
          by_cases e2 : gI m1 (a + 3) 0 = nI 0
          · rw [if_pos e2, if_pos e2] <;> rfl
          · rw [if_neg e2, if_neg e2, pr_r4 pr w1, bsome, pr_a5 pr w1 (by omega), bsome, Y2, pr_r5 pr w1, bsome, pr_a6 pr w1 (by omega), bsome, Y4]
      rw [pre2]
      have nox : ¬ dX L (tXc (t k)) = some 1 → ∃ m2, f_Pr_weigh_L10 a 27 28 n (nI F) (nI k + (1 : Int32)) m1 = some m2 ∧ Sm (Pw1 a) μ m2 ∧ ∀ w, w < 5 → gI m2 28 w = oI (twt t c L w) := fun h =>
        skip m1 s1 g28 (fun w hw => twf_o (fun q => h q.2))
      cases e : dX L (tXc (t k)) with
      | none =>
        rw [if_pos (by decide)]
        exact nox (by rw [e]; intro q; cases q)
      | some v =>
        have v01 := cc.dx.2.2 rfl L v e
        rw [if_neg (show ¬ bi (some v).isSome = 0 by show ¬ (1 : Int32) = 0; decide), r3 v e]
        rcases v01 with v0 | v1
        · rw [if_pos v0]
          exact nox (by rw [e, v0]; intro q; cases q)
        · subst v1
          rw [if_neg (by decide)]
          obtain ⟨m2, u1, u2, u3⟩ := s_reckon pr (L := L) (S := posX t c) X3 (k := posX t k) (xs := tXe (t k)) (by omega) w1 X2 Y5 ve hL1 ce
          have s2 : Sm (Pw1 a) μ m2 := s1.tr (u2.mono Pw1_3)
          have w2 := u2.wf w1
          have h28 : gI m2 28 = gI m 28 := (u2.gI 28 (Pc1_ne l7)).trans g28
          rw [u1, bsome]
          have orw : nI F ||| (ishl (1 : Int32) (nI (tW (t k)))) = nI (F ||| 2 ^ tW (t k)) := by rw [ishl_1 _ (by omega), nI_or]
          have done : ∃ m3, f_Pr_weigh_J141 (f_Pr_weigh_L10 a 27 28 n) a 27 28 (nI F ||| (ishl (1 : Int32) (nI (tW (t k))))) (nI k) 28 (nI (tW (t k))) (oI (clp (tW (t k)) (dX L (tXe (t k))))) m2 = some m3 ∧ Sm (Pw1 a) μ m3 ∧ ∀ w, w < 5 → gI m3 28 w = oI (twt t c L w) := by
            have s3 : Sm (Pw1 a) μ (sI m2 28 (tW (t k)) (oI (clp (tW (t k)) (dX L (tXe (t k)))))) := s2.tr (Sm.sI (by simp [Pw1]))
            obtain ⟨m3, q1, q2, q3⟩ := ih (k + 1) n (F ||| 2 ^ tW (t k)) _ (by omega) (by omega) s3 ⟨Nat.or_lt_two_pow (n := 5) F32 (Nat.pow_lt_pow_right (by decide) cw), fun w hw => by
              rw [Nat.testBit_or, gI_sI]
              by_cases q : tW (t k) = w
              · subst q
                rw [twf_n tn ⟨rfl, e⟩, upd_s, Nat.testBit_two_pow_self, Bool.or_true]
                exact ⟨rfl, rfl⟩
              · rw [twf_o (fun z => q z.1), upd_o (fun z => q z.symm), h28, Nat.testBit_two_pow_of_ne q, Bool.or_false]
                exact wi w hw⟩
            refine ⟨m3, ?_, q2, q3⟩
            unfold f_Pr_weigh_J141
            rw [uI_28 w2 cw, bsome, orw, nI_1, q1]
          cases e2 : dX L (tXe (t k)) with
          | none =>
            rw [e2] at done
            rw [if_pos (show bi (none : Option Int32).isSome = 0 from rfl)]
            exact done
          | some x =>
            rw [e2] at done
            rw [if_neg (show ¬ bi (some x).isSome = 0 by show ¬ (1 : Int32) = 0; decide)]
            show ∃ m3, ((rR m2 a 5 2).bind fun y129 => (aI m2 y129 (0 : Int32)).bind _) = some m3 ∧ _
            rw [pr_r2 pr w2, bsome, show (0 : Int32) = nI 0 from rfl, pr_a3 pr w2 (by decide), bsome, u3 x e2, s_within cw, bsome]
            exact done
theorem s_weigh {a c : Nat} {t : Nat → CLT} (pr : isPr a) {L : Nat → Int32} {μ : MM} (w : Wf μ) (hx : XTa a t c μ) (hL : ∀ k, k < 12 → gI μ 27 k = L k) : ∃ μ2, f_Pr_weigh a 27 28 μ = some μ2 ∧ Sm Pwg μ μ2 ∧ ∀ w, w < 5 → gI μ2 28 w = oI (twt t c L w) := by
  obtain ⟨m, q1, q2, q3⟩ := fill28 w
  have s : Sm (Pw1 a) μ m := q2.mono (fun x k h => by
    simp only [Pw1, Bool.or_eq_false_iff] at h
    simp only [Pc1]
    exact h.2)
  obtain ⟨m2, p1, p2, p3⟩ := wgL pr w hx hL c 0 FU 0 m (by omega) (by have := hx.2.2.2.1; unfold FU; omega) s ⟨by decide, fun w hw => ⟨by rw [Nat.zero_testBit]; rfl, by rw [q3 w hw]; rfl⟩⟩
  refine ⟨m2, ?_, p2.mono (fun x k h => ?_), p3⟩
  · unfold f_Pr_weigh
    rw [pr_kO pr w, bsome, q1, bsome]
    exact p1
  · simp only [Pwg, Bool.or_eq_false_iff] at h
    simp only [Pw1, Bool.or_eq_false_iff]
    rcases pr with rfl | rfl
    · exact ⟨h.1.2, h.1.1⟩
    · exact ⟨h.2, h.1.1⟩
