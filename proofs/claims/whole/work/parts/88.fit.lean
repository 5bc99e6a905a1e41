/-! LAYER 2: fit -/
def rcd (c : CT) (p : PT) (d : RT) (i b : Nat) : Bool := sg c p i b && d.1 i b
def lrc (c : CT) (p : PT) (d : RT) (i b : Nat) : Int32 := lastb (rcd c p d i) b
def lrp (c : CT) (p : PT) (d : RT) (i b : Nat) : Int := if lrc c p d i b = -1 then 0 else d.2 (24 * i + (lrc c p d i b).toInt.toNat)
def wrw (r : Nat) : Nat → Int
  | 0 => (r / 16 : Nat)
  | 1 => (r / 4 % 4 : Nat)
  | 2 => (r % 4 : Nat)
  | _ => 0
def dfm (tw : (Nat → Int32) → Nat → Int) (c : CT) (p : PT) (d : RT) (i r b : Nat) : Int := mix (cbn c p (cP c) (knw c false i) i b (lrc c p d i b)) (wrw r) (amn c p 0 (cP c) (gvn c (cG c) b) (pl0 tw c p).1 i b (lrc c p d i b) (lrp c p d i b))
def dft (tw : (Nat → Int32) → Nat → Int) (c : CT) (p : PT) (d : RT) (i r b : Nat) : Int := if rcd c p d i b = true then iabs (dfm tw c p d i r b - d.2 (24 * i + b)) else 0
def dfs (tw : (Nat → Int32) → Nat → Int) (c : CT) (p : PT) (d : RT) (i r : Nat) : Int := fsum (dft tw c p d i r) 24
theorem rcd_s {c : CT} {p : PT} {d : RT} {i b : Nat} (h : rcd c p d i b = true) : sg c p i b = true := by
  unfold rcd at h
  rw [Bool.and_eq_true] at h
  exact h.1
theorem lst_lrc (c : CT) (p : PT) (d : RT) (i b : Nat) : lst c p i b (lrc c p d i b) := by
  rcases lastb_c (f := rcd c p d i) b with ⟨h1, -⟩ | ⟨j, h1, h2, h3, -⟩
  · exact Or.inl h1
  · exact Or.inr ⟨j, h1, h2, rcd_s h3⟩
theorem wrw_b {r : Nat} (hr : r < 64) : WB (wrw r) := fun k hk => by
  rcases (show k = 0 ∨ k = 1 ∨ k = 2 ∨ k = 3 by omega) with rfl | rfl | rfl | rfl
  · show 0 ≤ ((r / 16 : Nat) : Int) ∧ ((r / 16 : Nat) : Int) ≤ 100; omega
  · show 0 ≤ ((r / 4 % 4 : Nat) : Int) ∧ ((r / 4 % 4 : Nat) : Int) ≤ 100; omega
  · show 0 ≤ ((r % 4 : Nat) : Int) ∧ ((r % 4 : Nat) : Int) ≤ 100; omega
  · show 0 ≤ (0 : Int) ∧ (0 : Int) ≤ 100; omega
theorem lrp_b {c : CT} (hc : WC c) {p : PT} {d : RT} (hd : WR d) {i b : Nat} (hi : i < cN c) (hb : b ≤ 24) : -10000000 ≤ lrp c p d i b ∧ lrp c p d i b ≤ 10000000 := by
  have h8 := hc.1
  unfold lrp
  rcases lst_lrc c p d i b with e | ⟨j, h1, h2, h3⟩
  · rw [if_pos e]; omega
  · rw [h2, if_neg (nI_ne_m1 (by omega)), nI_toInt (by omega), Int.toNat_natCast]
    exact hd _ (by omega)
theorem dfa_b {tw : (Nat → Int32) → Nat → Int} (ht : TWB tw) {c : CT} (hc : WC c) {p : PT} (hp' : WP p) {d : RT} (hd : WR d) {i b : Nat} (hi : i < cN c) (hb : b < 24) (h : rcd c p d i b = true) : ∀ k, k < 4 → -1206000000 ≤ amn c p 0 (cP c) (gvn c (cG c) b) (pl0 tw c p).1 i b (lrc c p d i b) (lrp c p d i b) k ∧ amn c p 0 (cP c) (gvn c (cG c) b) (pl0 tw c p).1 i b (lrc c p d i b) (lrp c p d i b) k ≤ 1206000000 := fun k hk => by
  have pb := sal_PB ht hc hp' (t := 0) (g := cG c) (pl := cP c) (nb := false)
  have lb := lrp_b hc (p := p) hd hi (show b ≤ 24 by omega)
  have := amn_b hc hp' (t := 0) (pl := cP c) (gvn_b hc (cG c) b) hi hb (rcd_s h) (lst_lrc c p d i b) (pit := (pl0 tw c p).1) (B := PB) (by unfold PB; decide) (fun j hj hs => pb j b (by omega) hb hs) (lp := lrp c p d i b) (by unfold PB; omega) k hk
  unfold PB at this
  omega
theorem dfm_b {tw : (Nat → Int32) → Nat → Int} (ht : TWB tw) {c : CT} (hc : WC c) {p : PT} (hp' : WP p) {d : RT} (hd : WR d) {i b r : Nat} (hi : i < cN c) (hb : b < 24) (hr : r < 64) (h : rcd c p d i b = true) : -1206000000 ≤ dfm tw c p d i r b ∧ dfm tw c p d i r b ≤ 1206000000 :=
  mix_b (wrw_b hr) (dfa_b ht hc hp' hd hi hb h)
theorem dft_b {tw : (Nat → Int32) → Nat → Int} (ht : TWB tw) {c : CT} (hc : WC c) {p : PT} (hp' : WP p) {d : RT} (hd : WR d) {i b r : Nat} (hi : i < cN c) (hb : b < 24) (hr : r < 64) : 0 ≤ dft tw c p d i r b ∧ dft tw c p d i r b ≤ 1216000000 := by
  have h8 := hc.1
  unfold dft
  split
  · rename_i e
    have := dfm_b ht hc hp' hd hi hb hr e
    have := hd (24 * i + b) (by omega)
    exact iabs_b (by omega)
  · omega
theorem dfS_b {tw : (Nat → Int32) → Nat → Int} (ht : TWB tw) {c : CT} (hc : WC c) {p : PT} (hp' : WP p) {d : RT} (hd : WR d) {i r : Nat} (hi : i < cN c) (hr : r < 64) {n : Nat} (hn : n ≤ 24) : 0 ≤ fsum (dft tw c p d i r) n ∧ fsum (dft tw c p d i r) n ≤ 30000000000 := by
  have := fsum_b (f := dft tw c p d i r) (lo := 0) (hi := 1216000000) n (fun b hb => dft_b ht hc hp' hd hi (by omega) hr)
  omega
/-- the least of rows -/
def bst (f : Nat → Int) : Nat → Nat
  | 0 => 1
  | k + 1 => if f (k + 2) < f (bst f k) then k + 2 else bst f k
theorem bst_b (f : Nat → Int) : ∀ k, 0 < bst f k ∧ bst f k ≤ k + 1
  | 0 => by show 0 < 1 ∧ 1 ≤ 0 + 1; omega
  | k + 1 => by
    have := bst_b f k
    simp only [bst]
    split
    · omega
    · omega
theorem s_isRecorded {c : CT} {p : PT} {d : RT} {μ : MM} (hw : Wf μ) (hc : WC c) (hx : XG c μ) (hxc : XC p μ) (hxr : XR d μ) {i : Nat} (hi : i < cN c) {b : Nat} (hb : b < 24) : f_Ch_isRecorded 9 (nI i) (nI b) μ = some (bi (rcd c p d i b)) := by
  have h8 := hc.1
  obtain ⟨m, m1, m2, m3⟩ := hxr.1 i (by omega)
  unfold f_Ch_isRecorded rcd
  rw [kO_9 hw, bsome, s_sings hw hc hx hxc hi, bsome]
  cases e : sg c p i b with
  | false => rw [show snd (pkey p) (nI (cV c i)) (nI b) = false from e]; rfl
  | true =>
    rw [show snd (pkey p) (nI (cV c i)) (nI b) = true from e, if_neg (by decide), rR_9_6 hw, bsome, aI_15 hw (by omega), bsome, m2, bit_nI (by omega) (by omega), m3 b hb, Bool.true_and]
    cases d.1 i b <;> rfl
theorem s_isTaped {c : CT} {p : PT} {d : RT} {μ : MM} (hw : Wf μ) (hc : WC c) (hm : MG c μ) (hmp : gI μ 51 = pkey p) (hmr : MR d μ) {i : Nat} (hi : i < cN c) {b : Nat} (hb : b < 24) : f_M_isTaped 49 (nI i) (nI b) μ = some (bi (rcd c p d i b)) := by
  have h8 := hc.1
  unfold f_M_isTaped rcd
  rw [kO_49 hw, bsome, s_singsM hw hc (MG_v hm) hmp hi, bsome]
  cases e : sg c p i b with
  | false => rw [show snd (pkey p) (nI (cV c i)) (nI b) = false from e]; rfl
  | true =>
    rw [show snd (pkey p) (nI (cV c i)) (nI b) = true from e, if_neg (by decide), rR_49_70 hw, bsome, cellN', aB_91 hw (by omega), bsome, hmr.1 i (by omega) b hb, Bool.true_and]
    cases d.1 i b <;> rfl
theorem s_recordOf {c : CT} {p : PT} {d : RT} {μ : MM} (hw : Wf μ) (hc : WC c) (hx : XG c μ) (hxc : XC p μ) (hxr : XR d μ) {i : Nat} (hi : i < cN c) {b : Nat} (hb : b < 24) (h : rcd c p d i b = true) : f_Ch_recordOf 9 (nI i) (nI b) μ = some (oI (d.2 (24 * i + b))) := by
  have h8 := hc.1
  unfold f_Ch_recordOf
  rw [kO_9 hw, bsome, s_isRecorded hw hc hx hxc hxr hi hb, h, bsome, if_neg (by decide), rR_9_5 hw, bsome, cellN, aI_14 hw (by omega), bsome, hxr.2 _ (by omega)]
theorem s_recordL {c : CT} {p : PT} {d : RT} {μ : MM} (hw : Wf μ) (hc : WC c) (hx : XG c μ) (hxc : XC p μ) (hxr : XR d μ) {i : Nat} (hi : i < cN c) {b : Nat} (hb : b ≤ 24) : f_Ch_recordOf 9 (nI i) (lrc c p d i b) μ = some (oI (lrp c p d i b)) := by
  unfold lrp
  rcases lastb_c (f := rcd c p d i) b with ⟨h1, -⟩ | ⟨j, h1, h2, h3, -⟩
  · have e : lrc c p d i b = -1 := h1
    have sf : snd (pkey p) (nI (cV c i)) (-1) = false := by
      unfold snd
      rw [show inR (-1) 24 = false by decide, Bool.false_and, Bool.and_false]
    rw [if_pos e, e]
    unfold f_Ch_recordOf f_Ch_isRecorded
    rw [kO_9 hw, bsome, bsome, s_sings hw hc hx hxc hi, sf]; rfl
  · have e : lrc c p d i b = nI j := h2
    rw [e, if_neg (nI_ne_m1 (by omega)), nI_toInt (by omega), Int.toNat_natCast, s_recordOf hw hc hx hxc hxr hi (by omega) h3]
theorem s_lastRecord {c : CT} {p : PT} {d : RT} {μ : MM} (hw : Wf μ) (hc : WC c) (hx : XG c μ) (hxc : XC p μ) (hxr : XR d μ) {i : Nat} (hi : i < cN c) {b : Nat} (hb : b ≤ 24) : f_Ch_lastRecord 9 (nI i) (nI b) μ = some (lrc c p d i b) := by
  unfold f_Ch_lastRecord
  rw [kO_9 hw, bsome, ← nI_p]
  refine dn 24 (fun k => lrc c p d i b = lastb (rcd c p d i) k) (fun n x => f_Ch_lastRecord_L4 9 (nI i) μ n x) _ (fun n x hx0 hi2 => ?_) (fun n k hk hi2 => ?_) b FU hb (by unfold FU; omega) rfl
  · show f_Ch_lastRecord_L4 9 (nI i) μ (n + 1) x = _
    rw [e_Ch_lastRecord_L4, if_pos hx0, hi2]; rfl
  · show f_Ch_lastRecord_L4 9 (nI i) μ (n + 1) (nI k) = _ ∨ f_Ch_lastRecord_L4 9 (nI i) μ (n + 1) (nI k) = f_Ch_lastRecord_L4 9 (nI i) μ n (nI k + (-1)) ∧ _
    rw [e_Ch_lastRecord_L4, if_neg (nI_pos (by omega)), s_isRecorded hw hc hx hxc hxr hi hk, bsome]
    simp only [lastb] at hi2
    cases e : rcd c p d i k with
    | false =>
      right
      rw [if_pos (by decide)]
      rw [if_neg (by rw [e]; decide)] at hi2
      exact ⟨rfl, hi2⟩
    | true =>
      left
      rw [if_neg (by decide)]
      rw [if_pos e] at hi2
      rw [hi2]
theorem r_bits : ∀ r, r < 64 → ishr (nI r) 4 = nI (r / 16) ∧ (ishr (nI r) 2) &&& 3 = nI (r / 4 % 4) ∧ nI r &&& 3 = nI (r % 4) ∧ nI r / 16 = nI (r / 16) ∧ irem (nI r / 4) 4 = nI (r / 4 % 4) ∧ irem (nI r) 4 = nI (r % 4) := by decide +kernel
def Pft (a k : Nat) : Bool := a == 37 || a == 29 || a == 30 || (a == 36 && k == 4)
theorem Pxx_Pft (a k : Nat) (h : Pxx a k = false) : Pft a k = false := by
  simp [Pxx] at h
  simp [Pft]
  omega
theorem Pft_Psh (a k : Nat) (h : Psh a k = false) : Pai a k = false := by
  simp [Psh, Psn, Pmd] at h
  simp [Pai]
  omega
/-- what the class holds after it has sung, while it fits -/
def XF (tw : (Nat → Int32) → Nat → Int) (c : CT) (p : PT) (d : RT) (μ : MM) : Prop := Wf μ ∧ XG c μ ∧ XP p μ ∧ XR d μ ∧ gI μ 24 9 = nI (cG c) ∧ gI μ 24 10 = 0 ∧ gI μ 24 11 = 0 ∧ (∃ q, gR μ 24 8 = some q ∧ (q = 11 ∨ q = 32) ∧ ∀ j, j < cN c → gI μ q j = nI (cP c j)) ∧ XPit c p (pl0 tw c p).1 μ
theorem XF.sm {tw : (Nat → Int32) → Nat → Int} {c : CT} {p : PT} {d : RT} {μ μ' : MM} (h : XF tw c p d μ) (s : Sm Pft μ μ') : XF tw c p d μ' := by
  obtain ⟨a1, a2, a3, a4, a5, a6, a7, a8, a9⟩ := h
  refine ⟨s.wf a1, a2.sm s (fun a k z => Pxx_Pft a k (Pxx_Pcf a k z)), a3.sm s (fun a k h1 h2 => Pxx_Pft a k (Pxx_xp a k h1 h2)), ?_, ?_, ?_, ?_, ?_, ?_⟩
  · unfold XR; rw [s.gI 14 (fun _ => rfl), s.gI 15 (fun _ => rfl)]; exact a4
  · rw [s.gI 24 (fun _ => rfl)]; exact a5
  · rw [s.gI 24 (fun _ => rfl)]; exact a6
  · rw [s.gI 24 (fun _ => rfl)]; exact a7
  · obtain ⟨q, q1, q2, q3⟩ := a8
    refine ⟨q, by rw [s.gRf]; exact q1, q2, fun j hj => ?_⟩
    rw [s.gI q (fun k => by rcases q2 with rfl | rfl <;> rfl)]
    exact q3 j hj
  · unfold XPit; rw [s.gL 25 (fun _ => rfl)]; exact a9
theorem s_addBeat {tw : (Nat → Int32) → Nat → Int} (ht : TWB tw) {c : CT} (hc : WC c) {p : PT} (hp' : WP p) {d : RT} (hd : WR d) {μ : MM} (hF : XF tw c p d μ) {i b : Nat} (hi : i < cN c) (hb : b < 24) (h : rcd c p d i b = true) {D : Nat → Int} (hD : ∀ r, 0 < r → r < 64 → gL μ 37 r = lI (D r)) : ∃ μ', f_Fi_addBeat 36 (nI i) (nI b) μ = some μ' ∧ Sm Pft μ μ' ∧ ∀ r, 0 < r → r < 64 → gL μ' 37 r = lI (D r + dft tw c p d i r b) := by
  have h8 := hc.1
  have hF0 := hF
  obtain ⟨w, xg, xp, xr, g9, g10, g11, ⟨q, r8, qc, qp⟩, xpit⟩ := hF
  have hqk : μ.1[q]? = some (1, 8) := by
    rcases qc with rfl | rfl
    · exact w.k 11 (by decide) rfl
    · exact w.k 32 (by decide) rfl
  have pb := sal_PB ht hc hp' (t := 0) (g := cG c) (pl := cP c) (nb := false)
  have lb := lrp_b hc (p := p) hd hi (show b ≤ 24 by omega)
  obtain ⟨m1, e1, s1, ⟨c0, c1, c2, c3⟩, a0, a1, a2, a3⟩ := s_aim w hc xg hp' xp.1 (t := 0) (g := cG c) (nb := false) g10 (by decide) g9 hc.2.2.2.2.2 g11 hi hb (rcd_s h) (lst_lrc c p d i b) (lrp c p d i b) (q := q) r8 hqk (pl := cP c) (fun j hj => (hc.2.1 j hj).2.1) qp (pit := (pl0 tw c p).1) (fun j hj hs => xpit j b (by omega) hb hs)
  have sf : Sm Pft μ m1 := s1.mono (fun a k z => by
    simp [Pft] at z
    simp [Pai]
    omega)
  have f1 : XF tw c p d m1 := XF.sm hF0 sf
  have ab := dfa_b ht hc hp' hd hi hb h
  unfold f_Fi_addBeat
  rw [kO_36 w, bsome, rR_36_1 w, bsome, s_lastRecord w hc xg xp.1 xr hi (by omega), bsome, rR_36_2 w, bsome, bsome, s_recordL w hc xg xp.1 xr hi (by omega), bsome, oI_l (by omega) (by omega), e1, bsome]
  refine upM 63 (fun j m => Sm Pft m1 m ∧ gI m 30 = gI m1 30 ∧ gL m 29 = gL m1 29 ∧ (∀ r, 0 < r → r < j + 1 → gL m 37 r = lI (D r + dft tw c p d i r b)) ∧ ∀ r, j + 1 ≤ r → r < 64 → gL m 37 r = lI (D r)) (fun n j m => f_Fi_addBeat_L33 36 (nI i) (nI b) n (nI (j + 1)) m) _ (fun n m hi2 => ?_) (fun n j m hj hi2 => Or.inr ?_) 0 FU m1 (by decide) (by decide) ⟨Sm.rf, rfl, rfl, fun r h1 h2 => by omega, fun r h1 h2 => by rw [s1.gL 37 (fun _ => rfl)]; exact hD r (by omega) h2⟩
  · obtain ⟨sm, -, -, q1, -⟩ := hi2
    refine ⟨m, ?_, sf.tr sm, q1⟩
    show f_Fi_addBeat_L33 36 (nI i) (nI b) (n + 1) (nI 64) m = _
    rw [e_Fi_addBeat_L33, if_pos (by decide)]
  · obtain ⟨sm, k1, k2, q1, q2⟩ := hi2
    obtain ⟨v, yg, yp, yr, -⟩ := f1.sm sm
    have e5 := s_blend v (cb := cbn c p (cP c) (knw c false i) i b (lrc c p d i b)) (w := wrw (j + 1)) (a := amn c p 0 (cP c) (gvn c (cG c) b) (pl0 tw c p).1 i b (lrc c p d i b) (lrp c p d i b)) (wrw_b (by omega)) (fun k hk => by
        have := ab k hk
        omega) (fun k hk => by
        rw [k1]
        rcases (show k = 0 ∨ k = 1 ∨ k = 2 ∨ k = 3 by omega) with rfl | rfl | rfl | rfl
        · exact c0
        · exact c1
        · exact c2
        · exact c3) (fun k hk => by
        rw [k2]
        rcases (show k = 0 ∨ k = 1 ∨ k = 2 ∨ k = 3 by omega) with rfl | rfl | rfl | rfl
        · exact a0
        · exact a1
        · exact a2
        · exact a3)
    obtain ⟨z1, z2, z3, -⟩ := r_bits (j + 1) (by omega)
    have e5 : f_Si_blend 24 (nI ((j + 1) / 16)) (nI ((j + 1) / 4 % 4)) (nI ((j + 1) % 4)) 0 m = some (lI (dfm tw c p d i (j + 1) b)) := by
      rw [oI_nI, oI_nI, oI_nI]; exact e5
    have mb := dfm_b ht hc hp' hd hi hb (show j + 1 < 64 by omega) h
    have rb := hd (24 * i + b) (by omega)
    obtain ⟨m2, h2⟩ : ∃ x, x = sL m 37 (j + 1) (lI (D (j + 1) + dft tw c p d i (j + 1) b)) := ⟨_, rfl⟩
    have s2 : Sm Pft m m2 := by rw [h2]; exact Sm.sL rfl
    refine ⟨m2, ?_, sm.tr s2, ?_, ?_, fun r r1 r2 => ?_, fun r r1 r2 => ?_⟩
    · show f_Fi_addBeat_L33 36 (nI i) (nI b) (n + 1) (nI (j + 1)) m = f_Fi_addBeat_L33 36 (nI i) (nI b) n (nI (j + 1 + 1)) m2
      rw [e_Fi_addBeat_L33, if_neg (show ¬ (64 : Int32) ≤ nI (j + 1) from nI_ge (b := 64) (by omega) (by omega)), rR_36_2 v, bsome, z1, z2, z3, e5, bsome, rR_36_3 v, bsome, aL_37 v (by omega), bsome, rR_36_1 v, bsome, s_recordOf v hc yg yp.1 yr hi hb h, bsome, oI_l (by omega) (by omega), lI_sub, s_absJ (by omega) (by omega), bsome, q2 (j + 1) (Nat.le_refl _) (by omega), lI_add, uL_37 v (by omega), bsome, nI_1, h2]
      unfold dft
      rw [if_pos h]
    · rw [h2, gI_sL]; exact k1
    · rw [h2, gL_sL_ne (by decide)]; exact k2
    · rw [h2, gL_sL]
      unfold vp_updL
      by_cases e : r = j + 1
      · rw [if_pos e, e]
      · rw [if_neg e]; exact q1 r r1 (by omega)
    · rw [h2, gL_sL]
      unfold vp_updL
      rw [if_neg (by omega)]
      exact q2 r (by omega) r2
