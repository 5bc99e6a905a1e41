/-! LAYER 2: frames with references; text -/
def Fr (P R : Nat → Nat → Bool) (μ μ' : MM) : Prop := μ'.1 = μ.1 ∧ (∀ a k, R a k = false → gR μ' a k = gR μ a k) ∧ ∀ a k, P a k = false → gI μ' a k = gI μ a k ∧ gL μ' a k = gL μ a k
theorem Fr.rf {P R : Nat → Nat → Bool} {μ : MM} : Fr P R μ μ := ⟨rfl, fun _ _ _ => rfl, fun _ _ _ => ⟨rfl, rfl⟩⟩
theorem Fr.tr {P R : Nat → Nat → Bool} {μ μ1 μ2 : MM} (h1 : Fr P R μ μ1) (h2 : Fr P R μ1 μ2) : Fr P R μ μ2 :=
  ⟨h2.1.trans h1.1, fun a k h => (h2.2.1 a k h).trans (h1.2.1 a k h), fun a k h => ⟨(h2.2.2 a k h).1.trans (h1.2.2 a k h).1, (h2.2.2 a k h).2.trans (h1.2.2 a k h).2⟩⟩
theorem Fr.mono {P R P' R' : Nat → Nat → Bool} {μ μ' : MM} (h : Fr P R μ μ') (hp : ∀ a k, P' a k = false → P a k = false) (hr : ∀ a k, R' a k = false → R a k = false) : Fr P' R' μ μ' := ⟨h.1, fun a k z => h.2.1 a k (hr a k z), fun a k z => h.2.2 a k (hp a k z)⟩
theorem Fr.sm {P R : Nat → Nat → Bool} {μ μ' : MM} (h : Sm P μ μ') : Fr P R μ μ' := ⟨h.1, fun a k _ => congrFun (h.gRf a) k, h.2.2⟩
theorem Fr.wf {P R : Nat → Nat → Bool} {μ μ' : MM} (h : Fr P R μ μ') (hr : ∀ q ∈ RL, R q.1 q.2.1 = false) (w : Wf μ) : Wf μ' :=
  ⟨fun i hi => by rw [h.1]; exact w.1 i hi, fun q hq => by rw [h.2.1 _ _ (hr q hq)]; exact w.2 q hq⟩
theorem Fr.ww {P R : Nat → Nat → Bool} {μ μ' : MM} (h : Fr P R μ μ') (hr : ∀ q ∈ RW, R q.1 q.2.1 = false) (w : Ww μ) : Ww μ' :=
  ⟨fun i hi => by rw [h.1]; exact w.1 i hi, fun q hq => by rw [h.2.1 _ _ (hr q hq)]; exact w.2 q hq⟩
theorem Fr.gI {P R : Nat → Nat → Bool} {μ μ' : MM} (h : Fr P R μ μ') (a : Nat) (ha : ∀ k, P a k = false) : gI μ' a = gI μ a := funext fun k => (h.2.2 a k (ha k)).1
theorem Fr.gL {P R : Nat → Nat → Bool} {μ μ' : MM} (h : Fr P R μ μ') (a : Nat) (ha : ∀ k, P a k = false) : gL μ' a = gL μ a := funext fun k => (h.2.2 a k (ha k)).2
theorem gR_sR_o {μ : MM} {a k x j : Nat} {v : Option Nat} (h : ¬ (x = a ∧ j = k)) : gR (sR μ a k v) x j = gR μ x j := by
  show (if x = a then va_up (μ.2.2.2 x) k v else μ.2.2.2 x) j = μ.2.2.2 x j
  by_cases e : x = a
  · rw [if_pos e]
    unfold va_up
    rw [if_neg (fun q => h ⟨e, q⟩)]
  · rw [if_neg e]
theorem gR_sR {μ : MM} {a k : Nat} {v : Option Nat} : gR (sR μ a k v) a k = v := by
  show (if a = a then va_up (μ.2.2.2 a) k v else μ.2.2.2 a) k = v
  rw [if_pos rfl]
  unfold va_up
  rw [if_pos rfl]
theorem Fr.sR {P R : Nat → Nat → Bool} {μ : MM} {a k : Nat} {v : Option Nat} (h : R a k = true) : Fr P R μ (sR μ a k v) :=
  ⟨rfl, fun x j hx => gR_sR_o (fun q => by rw [q.1, q.2, h] at hx; cases hx), fun _ _ _ => ⟨rfl, rfl⟩⟩
theorem b255n (x : Int32) : ∃ v, v < 256 ∧ x &&& 255 = nI v := by
  refine ⟨(x &&& 255).toBitVec.toNat, ?_, ?_⟩
  · rw [Int32.toBitVec_and, BitVec.toNat_and]
    have : x.toBitVec.toNat &&& (Int32.toBitVec 255).toNat ≤ 255 := Nat.and_le_right
    omega
  · apply Int32.toBitVec_inj.mp
    show _ = BitVec.ofNat 32 _
    rw [BitVec.ofNat_toNat, BitVec.setWidth_eq]
def Rtt (a k : Nat) : Bool := (a == 9 && k == 8) || (a == 40 && k == 1)
def Ptt (x k : Nat) : Bool := x == 17 || x == 18 || x == 19 || x == 20 || x == 21 || x == 22 || x == 23 || x == 40 || x == 41 || x == 42 || x == 43 || x == 44 || x == 45 || x == 46 || x == 47 || x == 48 || (x == 38 && k == 1) || (x == 0 && k == 9) || Pmz x k
theorem Rtt_RL : ∀ q ∈ RL, Rtt q.1 q.2.1 = false := by decide
theorem Rtt_RW : ∀ q ∈ RW, Rtt q.1 q.2.1 = false := by decide
theorem Ptt_r {b : Nat} (pr : isPr b) (x k : Nat) (h : Ptt x k = false) : Prr b x k = false := by
  simp only [Ptt, Bool.or_eq_false_iff] at h
  simp only [Prr, Pcl, Pps, Bool.or_eq_false_iff, Bool.and_eq_false_iff]
  obtain ⟨⟨⟨⟨⟨⟨⟨⟨⟨⟨⟨⟨⟨⟨⟨⟨⟨⟨h17, h18⟩, h19⟩, h20⟩, h21⟩, h22⟩, h23⟩, h40⟩, h41⟩, h42⟩, h43⟩, h44⟩, h45⟩, h46⟩, h47⟩, h48⟩, -⟩, -⟩, -⟩ := h
  rcases pr with rfl | rfl
  · exact ⟨⟨⟨⟨⟨Or.inl h40, Or.inl h17⟩, h18⟩, h19⟩, ⟨⟨Or.inl h17, h21⟩, h22⟩, h23⟩, Or.inl h40, h41⟩
  · exact ⟨⟨⟨⟨⟨Or.inl h40, Or.inl h42⟩, h43⟩, h44⟩, ⟨⟨Or.inl h42, h46⟩, h47⟩, h48⟩, Or.inl h40, h41⟩
theorem Ptt_m (x k : Nat) (h : Ptt x k = false) : Pmz x k = false := (Bool.or_eq_false_iff.mp h).2
/-- the two programs of the first one: what is sung by, and what is read into -/
def TXP (t : Nat → CLT) (c : Nat) (μ : MM) : Prop := TXT t c μ ∧ ∃ a b, isPr a ∧ isPr b ∧ ¬ a = b ∧ gR μ 9 8 = some a ∧ gR μ 40 1 = some b
theorem Prr_o {a b x k : Nat} (pa : isPr a) (pb : isPr b) (hab : ¬ a = b) (hx : x = a ∨ x = a + 1 ∨ x = a + 2 ∨ x = a + 3 ∨ x = a + 4 ∨ x = a + 5 ∨ x = a + 6) : Prr b x k = false := by
  have n1 : ¬ x = 40 ∧ ¬ x = 41 ∧ ¬ x = b ∧ ¬ x = b + 1 ∧ ¬ x = b + 2 ∧ ¬ x = b + 4 ∧ ¬ x = b + 5 ∧ ¬ x = b + 6 := by
    rcases pa with rfl | rfl <;> rcases pb with rfl | rfl
    · exact absurd rfl hab
    · omega
    · omega
    · exact absurd rfl hab
  obtain ⟨h1, h2, h3, h4, h5, h6, h7, h8⟩ := n1
  simp [Prr, Pcl, Pps, h1, h2, h3, h4, h5, h6, h7, h8]
theorem XTa_c {a c : Nat} {t : Nat → CLT} {μ μ' : MM} (h : XTa a t c μ) (g : ∀ x, (x = a ∨ x = a + 1 ∨ x = a + 2 ∨ x = a + 4 ∨ x = a + 5 ∨ x = a + 6) → gI μ' x = gI μ x) : XTa a t c μ' := by
  unfold XTa
  rw [g a (Or.inl rfl), g (a + 1) (by simp), g (a + 2) (by simp), g (a + 4) (by simp), g (a + 5) (by simp), g (a + 6) (by simp)]
  exact h
theorem MTX_c {c : Nat} {t : Nat → CLT} {μ μ' : MM} (h : MTX t c μ) (g27 : gI μ' 49 27 = gI μ 49 27) (g : ∀ x, 68 ≤ x → x ≤ 73 → gI μ' x = gI μ x) : MTX t c μ' := by
  unfold MTX
  rw [g27, g 68 (by decide) (by decide), g 69 (by decide) (by decide), g 70 (by decide) (by decide), g 71 (by decide) (by decide), g 72 (by decide) (by decide), g 73 (by decide) (by decide)]
  exact h
theorem Pmy_M {x k : Nat} (h1 : 68 ≤ x) (h2 : x ≤ 73) : Pmy x k = false := by
  have n : ¬ x = 49 ∧ ¬ x = 74 ∧ ¬ x = 75 ∧ ¬ x = 76 ∧ ¬ x = 77 ∧ ¬ x = 78 ∧ ¬ x = 79 ∧ ¬ x = 80 := by omega
  obtain ⟨a1, a2, a3, a4, a5, a6, a7, a8⟩ := n
  simp [Pmy, Pmc, Pmu, Pmt, Pm0, a1, a2, a3, a4, a5, a6, a7, a8]
theorem Pmz_pr {a x k : Nat} (pa : isPr a) (hx : x = a ∨ x = a + 1 ∨ x = a + 2 ∨ x = a + 3 ∨ x = a + 4 ∨ x = a + 5 ∨ x = a + 6) : Pmz x k = false := by
  have n : x < 49 := by rcases pa with rfl | rfl <;> omega
  have n : ¬ x = 49 ∧ ¬ x = 74 ∧ ¬ x = 75 ∧ ¬ x = 76 ∧ ¬ x = 77 ∧ ¬ x = 78 ∧ ¬ x = 79 ∧ ¬ x = 80 ∧ ¬ x = 68 ∧ ¬ x = 69 ∧ ¬ x = 70 ∧ ¬ x = 71 ∧ ¬ x = 72 ∧ ¬ x = 73 := by omega
  obtain ⟨a1, a2, a3, a4, a5, a6, a7, a8, a9, a10, a11, a12, a13, a14⟩ := n
  simp [Pmz, Pmc, Pmu, Pmt, Pm0, a1, a2, a3, a4, a5, a6, a7, a8, a9, a10, a11, a12, a13, a14]
theorem text_ok {t : Nat → CLT} {tc rn : Nat} {μ : MM} (w : Wf μ) (hx : TXP t tc μ) (hr : RLx rn μ) (hrn : rn ≤ 220) (x1 : Int32) : ∃ r μ1 μ2, f_X_text 0 x1 μ = some (r, μ1) ∧ f_M_text 49 x1 μ1 = some (r, μ2) ∧ (μ2 = μ ∨ (Fr Ptt Rtt μ μ2 ∧ RLx 0 μ2 ∧ ∃ t' c', TXP t' c' μ2 ∧ ((t' = t ∧ c' = tc ∧ gI μ2 0 9 = gI μ 0 9) ∨ gI μ2 0 9 = gI μ 0 9 + 1))) := by
  obtain ⟨hT, a, b, pa, pb, hab, ga, gb⟩ := hx
  -- out of bounds, or not so many
  have lies : f_M_lies x1.toInt64 (1 : Int64) (200 : Int64) = some (bi (decide ((1 : Int) ≤ x1.toInt ∧ x1.toInt ≤ 200))) := s_liesI _ 1 200 1 200 (by decide) (by decide)
  by_cases c1 : (1 : Int) ≤ x1.toInt ∧ x1.toInt ≤ 200
  · obtain ⟨k, hk⟩ : ∃ k : Nat, x1.toInt = k := ⟨x1.toInt.toNat, by omega⟩
    have hxk : x1 = nI k := by
      apply Int32.toInt_inj.mp
      rw [nI_toInt (by omega), hk]
    subst hxk
    have k1 : 1 ≤ k := by omega
    have k2 : k ≤ 200 := by omega
    have nlow : ¬ nI k < (1 : Int32) := by rw [show (1 : Int32) = nI 1 from rfl, clt (by omega) (by omega)]; omega
    have nhigh : ¬ (200 : Int32) < nI k := by rw [show (200 : Int32) = nI 200 from rfl, clt (by omega) (by omega)]; omega
    by_cases c2 : k ≤ rn
    · -- it is read
      obtain ⟨h, hh⟩ : ∃ h : Nat → Nat, ∀ j, (j < k → h j < 256 ∧ gI μ 39 j = nI (h j)) ∧ (k ≤ j → h j = 0) := by
        refine ⟨fun j => if j < k then Classical.choose (b255n (gI μ 50 j)) else 0, fun j => ⟨fun hj => ?_, fun hj => if_neg (by omega)⟩⟩
        have := Classical.choose_spec (b255n (gI μ 50 j))
        simp only [if_pos hj]
        exact ⟨this.1, by rw [hr.2.2 j (by omega)]; exact this.2⟩
      have B : HB h k := ⟨k2, fun j => by
        rcases Nat.lt_or_ge j k with z | z
        · exact ((hh j).1 z).1
        · rw [(hh j).2 z]; decide, fun j hj => (hh j).2 hj⟩
      obtain ⟨y, m1, q1, q2, q3⟩ := s_read pb B k1 w gb (fun j hj => ((hh j).1 hj).2)
      have w1 := q2.wf w
      have s2 : Sm (fun x j => x == 38 && j == 1) m1 (sI m1 38 1 0) := Sm.sI rfl
      obtain ⟨m2, e2⟩ : ∃ x, x = sI m1 38 1 0 := ⟨_, rfl⟩
      rw [← e2] at s2
      have w2 := s2.wf w1
      have fr1 : Fr Ptt Rtt μ m1 := Fr.sm (q2.mono (Ptt_r pb))
      have fr2 : Fr Ptt Rtt μ m2 := fr1.tr (Fr.sm (s2.mono (fun x j hx => by
        simp only [Ptt, Bool.or_eq_false_iff] at hx
        exact hx.1.1.2)))
      have pre : f_X_text 0 (nI k) μ = if y = 0 then ((rR m2 0 0 1).bind fun y57 => (rR m2 0 0 7).bind fun y61 => (rR m2 0 0 1).bind fun y65 => (rR m2 y65 2 8).bind fun y68 => (f_Re_exchange y61 y68 m2).bind fun q71 => (pR q71.2 y57 2 8 q71.1).bind fun μ74 => (f_X_changed 0 μ74).bind fun q78 => (rR q78.2 0 0 1).bind fun y83 => (rR q78.2 y83 2 8).bind fun y86 => (rI q78.2 y86 5 7).bind fun y89 => some (y89, q78.2)) else some ((-y), m2) := by
        unfold f_X_text
        rw [kO_0 w, bsome, if_neg nlow, if_neg nhigh, rR_0_6 w, bsome, rI_38 w, bsome, hr.1, if_pos (by rw [cle (by omega) (by omega)]; exact c2), rR_0_7 w, bsome, bsome, rR_38_0 w, bsome, q1, bsome, rR_0_6 w1, bsome, pI_38 w1, bsome, ← e2]
      -- the reference's tape
      have tp : ∀ m, Fr Ptt Rtt μ m → gI m 50 = gI μ 50 ∧ gI m 49 1 = gI m 49 1 := fun m f => ⟨f.gI 50 (fun j => by simp [Ptt, Pmz, Pmc, Pmu, Pmt, Pm0]), rfl⟩
      have g1of : ∀ m, (∀ j, gI m 49 j = gI μ 49 j) → gI m 49 1 = nI rn := fun m f => by rw [f 1]; exact hr.2.1
      have bytes : ∀ m, gI m 50 = gI μ 50 → ∀ j, j < k → gI m 50 j &&& 255 = nI (h j) := fun m f j hj => by
        rw [f, ← hr.2.2 j (by omega)]; exact ((hh j).1 hj).2
      have n49 : ∀ x j, x = 49 ∨ x = 50 ∨ (68 ≤ x ∧ x ≤ 73) → Prr b x j = false := fun x j hx => by
        have n1 : ¬ x = 40 ∧ ¬ x = 41 ∧ ¬ x = b ∧ ¬ x = b + 1 ∧ ¬ x = b + 2 ∧ ¬ x = b + 4 ∧ ¬ x = b + 5 ∧ ¬ x = b + 6 := by
          rcases pb with rfl | rfl <;> omega
        obtain ⟨h1, h2, h3, h4, h5, h6, h7, h8⟩ := n1
        simp [Prr, Pcl, Pps, h1, h2, h3, h4, h5, h6, h7, h8]
      have a49 : gI m1 49 = gI μ 49 := q2.gI 49 (fun j => n49 49 j (Or.inl rfl))
      have a50 : gI m1 50 = gI μ 50 := q2.gI 50 (fun j => n49 50 j (Or.inr (Or.inl rfl)))
      have aM : ∀ x, 68 ≤ x → x ≤ 73 → gI m1 x = gI μ x := fun x h1 h2 => q2.gI x (fun j => n49 x j (Or.inr (Or.inr ⟨h1, h2⟩)))
      have aP : ∀ x, (x = a ∨ x = a + 1 ∨ x = a + 2 ∨ x = a + 3 ∨ x = a + 4 ∨ x = a + 5 ∨ x = a + 6) → gI m1 x = gI μ x := fun x hx => q2.gI x (fun j => Prr_o pa pb hab hx)
      have b2 : ∀ x, ¬ x = 38 → gI m2 x = gI m1 x := fun x hx => by rw [e2, gI_sI_ne hx]
      have pa38 : ∀ {a x : Nat}, isPr a → (x = a ∨ x = a + 1 ∨ x = a + 2 ∨ x = a + 3 ∨ x = a + 4 ∨ x = a + 5 ∨ x = a + 6) → ¬ x = 38 ∧ ¬ x = 0 := fun pa hx => by rcases pa with rfl | rfl <;> omega
      have ga1 : gR m1 9 8 = some a := by rw [q2.gRf 9]; exact ga
      have gb1 : gR m1 40 1 = some b := by rw [q2.gRf 40]; exact gb
      rcases q3 with ⟨c, t', P, z, rfl, fz, pe⟩ | ⟨c, t', P, rfl, c0, pt, pn, xt, wm, -⟩
      · -- a fault
        have zb := fz.2.2.2.2.1
        have z0 := fz.2.2.2.1
        obtain ⟨m3, p1, p2, p3⟩ := text_err B k1 w2 (bytes m2 (by rw [b2 50 (by decide), a50])) c2 hrn (g1of m2 (fun j => by rw [b2 49 (by decide), a49])) pe
        have fr3 : Fr Ptt Rtt μ m3 := fr2.tr (Fr.sm (p2.mono (fun x j hx => Pmz_y x j (Ptt_m x j hx))))
        refine ⟨oI (-(z : Int)), m2, m3, ?_, p1, Or.inr ⟨fr3, ⟨?_, p3, ?_⟩, t, tc, ⟨⟨⟨a, pa, ?_, ?_⟩, ?_⟩, a, b, pa, pb, hab, ?_, ?_⟩, Or.inl ⟨rfl, rfl, ?_⟩⟩⟩
        · rw [pre, if_neg (nI_n0 z0 (by omega)), oI_nI, oI_neg]
        · rw [p2.gI 38 (fun _ => rfl), e2, gI_sI, upd_s]; rfl
        · intro j hj
          rw [p2.gI 39 (fun _ => rfl), p2.gI 50 (fun _ => rfl), b2 39 (by decide), b2 50 (by decide), a50, q2.gI 39 (fun j => by rcases pb with rfl | rfl <;> rfl)]
          exact hr.2.2 j hj
        · rw [p2.gRf 9, s2.gRf 9]; exact ga1
        · obtain ⟨⟨a', pa', ga', xa'⟩, -⟩ := hT
          have : a' = a := Option.some.inj (ga'.symm.trans ga)
          subst this
          refine XTa_c xa' (fun x hx => ?_)
          have hx' : x = a' ∨ x = a' + 1 ∨ x = a' + 2 ∨ x = a' + 3 ∨ x = a' + 4 ∨ x = a' + 5 ∨ x = a' + 6 := by omega
          rw [p2.gI x (fun j => by
            have := Pmz_pr (k := j) pa hx'
            exact Pmz_y x j this), b2 x (pa38 pa hx').1, aP x hx']
        · refine MTX_c hT.2 ?_ (fun x h1 h2 => ?_)
          · rw [(p2.2.2 49 27 rfl).1, b2 49 (by decide), a49]
          · rw [p2.gI x (fun j => Pmy_M h1 h2), b2 x (by omega), aM x h1 h2]
        · rw [p2.gRf 9, s2.gRf 9]; exact ga1
        · rw [p2.gRf 40, s2.gRf 40]; exact gb1
        · rw [p2.gI 0 (fun _ => rfl), b2 0 (by decide), q2.gI 0 (fun j => by rcases pb with rfl | rfl <;> rfl)]
      · -- a text
        obtain ⟨m3, e3⟩ : ∃ x, x = sR m2 40 1 (some a) := ⟨_, rfl⟩
        obtain ⟨m4, e4⟩ : ∃ x, x = sR m3 9 8 (some b) := ⟨_, rfl⟩
        obtain ⟨m5, e5⟩ : ∃ x, x = sI m4 0 9 (gI m4 0 9 + 1) := ⟨_, rfl⟩
        have f3 : Fr Ptt Rtt m2 m3 := by rw [e3]; exact Fr.sR rfl
        have f4 : Fr Ptt Rtt m3 m4 := by rw [e4]; exact Fr.sR rfl
        have f5 : Fr Ptt Rtt m4 m5 := by rw [e5]; exact Fr.sm (Sm.sI rfl)
        have w3 := f3.wf Rtt_RL w2
        have w4 := f4.wf Rtt_RL w3
        have w5 := f5.wf Rtt_RL w4
        have r2a : gR m2 9 8 = some a := by rw [s2.gRf 9]; exact ga1
        have r2b : gR m2 40 1 = some b := by rw [s2.gRf 40]; exact gb1
        have r59 : gR m5 9 8 = some b := by rw [e5]; show gR m4 9 8 = _; rw [e4, gR_sR]
        have r540 : gR m5 40 1 = some a := by
          rw [e5]
          show gR m4 40 1 = _
          rw [e4, gR_sR_o (by decide), e3, gR_sR]
        have gx5 : ∀ x, ¬ x = 0 → ¬ x = 38 → gI m5 x = gI m1 x := fun x h1 h2 => by
          rw [e5, gI_sI_ne h1]
          show gI m4 x = _
          rw [e4]
          show gI m3 x = _
          rw [e3]
          exact b2 x h2
        have xt5 : XTa b t' c m5 := XTa_c xt (fun x hx => by
          have hx' : x = b ∨ x = b + 1 ∨ x = b + 2 ∨ x = b + 3 ∨ x = b + 4 ∨ x = b + 5 ∨ x = b + 6 := by omega
          exact gx5 x (pa38 pb hx').2 (pa38 pb hx').1)
        have fr5 : Fr Ptt Rtt μ m5 := fr2.tr (f3.tr (f4.tr f5))
        obtain ⟨m6, p1, p2, p3, p4⟩ := text_good B k1 w5 (bytes m5 (by rw [gx5 50 (by decide) (by decide), a50])) c2 hrn (g1of m5 (fun j => by rw [gx5 49 (by decide) (by decide), a49])) c0 pt pn
        have fr6 : Fr Ptt Rtt μ m6 := fr5.tr (Fr.sm (p2.mono Ptt_m))
        refine ⟨nI c, m5, m6, ?_, p1, Or.inr ⟨fr6, ⟨?_, p3, ?_⟩, t', c, ⟨⟨⟨b, pb, ?_, ?_⟩, p4⟩, b, a, pb, pa, fun q => hab q.symm, ?_, ?_⟩, Or.inr ?_⟩⟩
        · rw [pre, if_pos rfl, rR_0_1 w2, bsome, rR_0_7 w2, bsome, bsome, rR_9 w2, r2a, bsome]
          unfold f_Re_exchange
          rw [kO_40 w2, bsome, rR_40 w2, r2b, bsome, pR_40 w2, bsome, ← e3, bsome, pR_9 w3, bsome, ← e4, s_changed w4, bsome, ← e5, rR_0_1 w5, bsome, rR_9 w5, r59, bsome, pr_rI pb w5, bsome, xt5.1]
        · rw [p2.gI 38 (fun _ => rfl), e5, gI_sI_ne (by decide)]
          show gI m4 38 1 = _
          rw [e4]
          show gI m3 38 1 = _
          rw [e3]
          show gI m2 38 1 = _
          rw [e2, gI_sI, upd_s]; rfl
        · intro j hj
          rw [p2.gI 39 (fun _ => rfl), p2.gI 50 (fun _ => rfl), gx5 39 (by decide) (by decide), gx5 50 (by decide) (by decide), a50, q2.gI 39 (fun j => by rcases pb with rfl | rfl <;> rfl)]
          exact hr.2.2 j hj
        · rw [p2.gRf 9]; exact r59
        · refine XTa_c xt5 (fun x hx => ?_)
          have hx' : x = b ∨ x = b + 1 ∨ x = b + 2 ∨ x = b + 3 ∨ x = b + 4 ∨ x = b + 5 ∨ x = b + 6 := by omega
          exact p2.gI x (fun j => Pmz_pr pb hx')
        · rw [p2.gRf 9]; exact r59
        · rw [p2.gRf 40]; exact r540
        · rw [p2.gI 0 (fun _ => rfl), e5, gI_sI, upd_s]
          show gI m4 0 9 + 1 = _
          rw [e4]
          show gI m3 0 9 + 1 = _
          rw [e3]
          show gI m2 0 9 + 1 = _
          rw [b2 0 (by decide), q2.gI 0 (fun j => by rcases pb with rfl | rfl <;> rfl)]
    · refine ⟨-1, μ, μ, ?_, ?_, Or.inl rfl⟩
      · unfold f_X_text
        rw [kO_0 w, bsome, if_neg nlow, if_neg nhigh, rR_0_6 w, bsome, rI_38 w, bsome, hr.1, if_neg (by rw [cle (by omega) (by omega)]; exact c2)]
      · unfold f_M_text
        rw [kO_49 w, bsome, lies, bsome, decide_eq_true c1, if_neg (by decide), rI_49 w, bsome, hr.2.1, if_neg (by rw [cle (by omega) (by omega)]; exact c2)]
  · refine ⟨-1, μ, μ, ?_, ?_, Or.inl rfl⟩
    · unfold f_X_text
      rw [kO_0 w, bsome]
      by_cases a1 : x1 < (1 : Int32)
      · rw [if_pos a1]
      · rw [if_neg a1]
        have h1 : ¬ x1.toInt < 1 := by rw [toInt_lt] at a1; exact a1
        rw [if_pos]
        rw [toInt_lt]
        show 200 < x1.toInt
        omega
    · unfold f_M_text
      rw [kO_49 w, bsome, lies, bsome, decide_eq_false c1, if_pos (by decide)]
