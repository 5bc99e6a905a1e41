/-! LAYER 2: products, sums, pieces, all, either: as the reader reads them -/
section
variable {a : Nat} {h : Nat → Nat} {n : Nat}
theorem lt200 {c : Nat} (hc : c < 200) : ¬ (200 : Int32) ≤ nI c := by rw [show (200 : Int32) = nI 200 from rfl, cle (by omega) (by omega)]; omega
theorem RX_le {at_ k : Nat} {μ : MM} (r : RX a h n at_ k μ) : at_ ≤ n := r.2.2.2.2.2.2.2.2
theorem prod_pre (B : HB h n) {at_ k c m : Nat} {μ : MM} (rx : RX a h n at_ k μ) (hc : c < 200) (e : isT (h at_) = true) (rc : Nat → Nat → Int32 → MM → Option MM) (x : Int32) : f_Re_product_L7 rc 40 x (m + 1) (nI c) μ = f_Re_product_J69 rc (f_Re_product_L7 rc 40 x m) 40 x (nI c) (nI (xop (h at_))) μ := by
  have i42 := hxi B 42 42 rfl (by decide) (by decide) (at_ := at_)
  have i47 := hxi B 47 47 rfl (by decide) (by decide) (at_ := at_)
  have i37 := hxi B 37 37 rfl (by decide) (by decide) (at_ := at_)
  rw [e_Re_product_L7, if_neg (lt200 hc), s_here rx B, bsome]
  unfold f_Re_product_J41
  rw [s_here rx B]
  rcases isT_c e with q | q | q
  · rw [if_pos (i42.mpr q), bsome, if_pos (i42.mpr q), q]; rfl
  · rw [if_neg (fun z => by have := i42.mp z; omega), bsome, if_pos (i47.mpr q), bsome, if_neg (fun z => by have := i42.mp z; omega), bsome, if_pos (i47.mpr q), q]; rfl
  · rw [if_neg (fun z => by have := i42.mp z; omega), bsome, if_neg (fun z => by have := i47.mp z; omega), bsome, if_pos (i37.mpr q), bsome, if_neg (fun z => by have := i42.mp z; omega), bsome, if_neg (fun z => by have := i47.mp z; omega), q]; rfl
theorem prod_end (B : HB h n) {at_ k m : Nat} {x2 : Int32} {μ : MM} (rx : RX a h n at_ k μ) (e : isT (h at_) = false) (rc : Nat → Nat → Int32 → MM → Option MM) (x : Int32) : f_Re_product_L7 rc 40 x (m + 1) x2 μ = some μ := by
  have i42 := hxi B 42 42 rfl (by decide) (by decide) (at_ := at_)
  have i47 := hxi B 47 47 rfl (by decide) (by decide) (at_ := at_)
  have i37 := hxi B 37 37 rfl (by decide) (by decide) (at_ := at_)
  rw [e_Re_product_L7]
  by_cases c : (200 : Int32) ≤ x2
  · rw [if_pos c]
  · rw [if_neg c, s_here rx B, bsome, if_neg (fun z => by rw [i42.mp z] at e; cases e), bsome, if_neg (fun z => by rw [i47.mp z] at e; cases e), bsome, if_neg (fun z => by rw [i37.mp z] at e; cases e)]
theorem sum_pre (B : HB h n) {at_ k c m : Nat} {μ : MM} (rx : RX a h n at_ k μ) (hc : c < 200) (e : isP (h at_) = true) (rc : Nat → Nat → Int32 → MM → Option MM) (x : Int32) : f_Re_sum_L7 rc 40 x (m + 1) (nI c) μ = f_Re_sum_J46 rc (f_Re_sum_L7 rc 40 x m) 40 x (nI c) (nI (xop (h at_))) μ := by
  have i43 := hxi B 43 43 rfl (by decide) (by decide) (at_ := at_)
  have i45 := hxi B 45 45 rfl (by decide) (by decide) (at_ := at_)
  rw [e_Re_sum_L7, if_neg (lt200 hc), s_here rx B, bsome]
  unfold f_Re_sum_J32
  rw [s_here rx B]
  rcases isP_c e with q | q
  · rw [if_pos (i43.mpr q), bsome, if_pos (i43.mpr q), q]; rfl
  · rw [if_neg (fun z => by have := i43.mp z; omega), bsome, if_pos (i45.mpr q), bsome, if_neg (fun z => by have := i43.mp z; omega), q]; rfl
theorem sum_end (B : HB h n) {at_ k m : Nat} {x2 : Int32} {μ : MM} (rx : RX a h n at_ k μ) (e : isP (h at_) = false) (rc : Nat → Nat → Int32 → MM → Option MM) (x : Int32) : f_Re_sum_L7 rc 40 x (m + 1) x2 μ = some μ := by
  have i43 := hxi B 43 43 rfl (by decide) (by decide) (at_ := at_)
  have i45 := hxi B 45 45 rfl (by decide) (by decide) (at_ := at_)
  rw [e_Re_sum_L7]
  by_cases c : (200 : Int32) ≤ x2
  · rw [if_pos c]
  · rw [if_neg c, s_here rx B, bsome, if_neg (fun z => by rw [i43.mp z] at e; cases e), bsome, if_neg (fun z => by rw [i45.mp z] at e; cases e)]
theorem xopT {c : Nat} (e : isT c = true) : 2 ≤ xop c ∧ xop c ≤ 9 := by rcases isT_c e with rfl | rfl | rfl <;> decide
theorem xopP {c : Nat} (e : isP c = true) : 2 ≤ xop c ∧ xop c ≤ 9 := by rcases isP_c e with rfl | rfl <;> decide
theorem xopS {c : Nat} (e : isSg c = true) : 7 ≤ xop c ∧ xop c ≤ 9 := by rcases isSg_c e with rfl | rfl | rfl <;> decide
theorem prodL (pr : isPr a) (B : HB h n) {d o a0 k0 : Nat} {μ0 : MM} (C5 : Ctr a h n d 5 o) (hk : k0 < a0) : ∀ (r m c a1 : Nat) (xs ms : CL) (μ1 : MM), n - a1 ≤ r → r < m → c ≤ a1 → PS a h n 4 o a0 k0 μ0 a1 xs ms μ1 → ∃ μ', f_Re_product_L7 (f_Re_rec d) 40 (nI o) m (nI c) μ1 = some μ' ∧ OC a h n 4 o a0 k0 μ0 μ' := by
  intro r
  induction r with
  | zero =>
    intro m c a1 xs ms μ1 hr hm hc p
    obtain ⟨m, rfl⟩ : ∃ j, m = j + 1 := ⟨m - 1, by omega⟩
    have e : isT (h a1) = false := by rw [B.2.2 a1 (by omega)]; rfl
    exact ⟨μ1, prod_end B p.2.2.1 e _ _, Or.inr (Or.inr ⟨a1, xs, ms, p, e⟩)⟩
  | succ r ih =>
    intro m c a1 xs ms μ1 hr hm hc p
    obtain ⟨m, rfl⟩ : ∃ j, m = j + 1 := ⟨m - 1, by omega⟩
    by_cases e : isT (h a1) = true
    · have b := B.1
      have ln : a1 < n := hx_lt B (fun q => by rw [q] at e; cases e)
      obtain ⟨m1, q1, q2, q3, q4, q5⟩ := s_adv pr B p.2.2.1 ln
      have p1 := p.1
      have p2 := p.2.1
      obtain ⟨m2, t1, t2⟩ := C5 (a1 + 1) (k0 + xs.length) m1 q2 (by omega)
      rw [prod_pre B p.2.2.1 (by omega) e]
      unfold f_Re_product_J69
      rw [rI_40 p.2.2.1.1, bsome, q1, bsome, t1, bsome]
      rcases t2 with ⟨z, f1, f2, f3⟩ | ⟨f0, -⟩ | ⟨a2, x2, m2', f1, f2⟩
      · obtain ⟨y, m3, u1, u2, u3⟩ := s_paddF pr f1 (nI (xop (h a1))) 0
        obtain ⟨m, rfl⟩ : ∃ j, m = j + 1 := ⟨m - 1, by omega⟩
        exact ⟨m3, by rw [FZ_out f1, bsome, u1, bsome, prodF u2], Or.inl ⟨z, u2, p.2.2.2.2.2.1.tr (q3.tr (f2.tr u3)), P_mE p.2.2.2.2.2.2.2.2.2 e f3⟩⟩
      · exact absurd f0 (by decide)
      · have gd : Gd (decide (4 ≤ 2)) (xs ++ (x2 ++ [(xop (h a1), 0)])) (ms ++ (m2' ++ [(xop (h a1), 0)])) (qw 4 o) :=
          Gd_op (xopT e).1 (xopT e).2 (fun q => absurd q (by decide)) p.2.2.2.2.2.2.1 f1.2.2.2.2.2.2.1 (by unfold qw; rw [if_neg (by decide), if_neg (by decide)]; omega)
        obtain ⟨y, m3, u1, u2⟩ := PS_op pr B hk p q3 q4 q5 f1 (xopT e).1 (xopT e).2 gd (P_m p.2.2.2.2.2.2.2.2.2 e f1.2.2.2.2.2.2.2.2.2) _ rfl
        have f11 := f1.1
        obtain ⟨μ', v1, v2⟩ := ih m (c + 1) a2 _ _ m3 (by omega) (by omega) (by omega) u2
        exact ⟨μ', by rw [RX_out f1.2.2.1, bsome, u1, bsome, nI_1, v1], v2⟩
    · have e := Bool.eq_false_iff.mpr e
      exact ⟨μ1, prod_end B p.2.2.1 e _ _, Or.inr (Or.inr ⟨a1, xs, ms, p, e⟩)⟩
theorem Ctr4 (pr : isPr a) (B : HB h n) {d o : Nat} (F5 : CF a d 5) (C5 : Ctr a h n d 5 o) : Ctr a h n (d + 1) 4 o := fun a0 k0 μ0 rx hk => by
  show ∃ μ', f_Re_product (f_Re_rec d) 40 (nI o) μ0 = some μ' ∧ _
  obtain ⟨m1, t1, t2⟩ := C5 a0 k0 μ0 rx hk
  unfold f_Re_product
  rw [kO_40 rx.1, bsome, t1, bsome]
  rcases t2 with ⟨z, f1, f2, f3⟩ | ⟨f0, -⟩ | ⟨a1, xs, ms, f1, f2⟩
  · exact ⟨m1, by rw [FU1, prodF f1], Or.inl ⟨z, f1, f2, P_inE f3⟩⟩
  · exact absurd f0 (by decide)
  · exact prodL pr B C5 hk n FU 0 a1 xs ms m1 (by omega) (by have := B.1; unfold FU; omega) (Nat.zero_le _) (PS_mono f1 rfl (by unfold qw; rw [if_neg (by decide), if_neg (by decide)]; omega) (P_in f1.2.2.2.2.2.2.2.2.2))
theorem sumL (pr : isPr a) (B : HB h n) {d o a0 k0 : Nat} {μ0 : MM} (C4 : Ctr a h n d 4 o) (hk : k0 < a0) : ∀ (r m c a1 : Nat) (xs ms : CL) (μ1 : MM), n - a1 ≤ r → r < m → c ≤ a1 → PS a h n 3 o a0 k0 μ0 a1 xs ms μ1 → isT (h a1) = false → ∃ μ', f_Re_sum_L7 (f_Re_rec d) 40 (nI o) m (nI c) μ1 = some μ' ∧ OC a h n 3 o a0 k0 μ0 μ' := by
  intro r
  induction r with
  | zero =>
    intro m c a1 xs ms μ1 hr hm hc p eT
    obtain ⟨m, rfl⟩ : ∃ j, m = j + 1 := ⟨m - 1, by omega⟩
    have e : isP (h a1) = false := by rw [B.2.2 a1 (by omega)]; rfl
    exact ⟨μ1, sum_end B p.2.2.1 e _ _, Or.inr (Or.inr ⟨a1, xs, ms, p, eT, e⟩)⟩
  | succ r ih =>
    intro m c a1 xs ms μ1 hr hm hc p eT
    obtain ⟨m, rfl⟩ : ∃ j, m = j + 1 := ⟨m - 1, by omega⟩
    by_cases e : isP (h a1) = true
    · have b := B.1
      have ln : a1 < n := hx_lt B (fun q => by rw [q] at e; cases e)
      obtain ⟨m1, q1, q2, q3, q4, q5⟩ := s_adv pr B p.2.2.1 ln
      have p1 := p.1
      have p2 := p.2.1
      obtain ⟨m2, t1, t2⟩ := C4 (a1 + 1) (k0 + xs.length) m1 q2 (by omega)
      rw [sum_pre B p.2.2.1 (by omega) e]
      unfold f_Re_sum_J46
      rw [rI_40 p.2.2.1.1, bsome, q1, bsome, t1, bsome]
      rcases t2 with ⟨z, f1, f2, f3⟩ | ⟨f0, -⟩ | ⟨a2, x2, m2', f1, f2⟩
      · obtain ⟨y, m3, u1, u2, u3⟩ := s_paddF pr f1 (nI (xop (h a1))) 0
        obtain ⟨m, rfl⟩ : ∃ j, m = j + 1 := ⟨m - 1, by omega⟩
        exact ⟨m3, by rw [FZ_out f1, bsome, u1, bsome, sumF u2], Or.inl ⟨z, u2, p.2.2.2.2.2.1.tr (q3.tr (f2.tr u3)), S_mE p.2.2.2.2.2.2.2.2.2 eT e f3⟩⟩
      · exact absurd f0 (by decide)
      · have f2 : isT (h a2) = false := f2
        have gd : Gd (decide (3 ≤ 2)) (xs ++ (x2 ++ [(xop (h a1), 0)])) (ms ++ (m2' ++ [(xop (h a1), 0)])) (qw 3 o) :=
          Gd_op (xopP e).1 (xopP e).2 (fun q => absurd q (by decide)) p.2.2.2.2.2.2.1 f1.2.2.2.2.2.2.1 (by unfold qw; rw [if_neg (by decide), if_neg (by decide)]; omega)
        obtain ⟨y, m3, u1, u2⟩ := PS_op pr B hk p q3 q4 q5 f1 (xopP e).1 (xopP e).2 gd (S_m p.2.2.2.2.2.2.2.2.2 eT e f1.2.2.2.2.2.2.2.2.2 f2) _ rfl
        have f11 := f1.1
        obtain ⟨μ', v1, v2⟩ := ih m (c + 1) a2 _ _ m3 (by omega) (by omega) (by omega) u2 f2
        exact ⟨μ', by rw [RX_out f1.2.2.1, bsome, u1, bsome, nI_1, v1], v2⟩
    · have e := Bool.eq_false_iff.mpr e
      exact ⟨μ1, sum_end B p.2.2.1 e _ _, Or.inr (Or.inr ⟨a1, xs, ms, p, eT, e⟩)⟩
theorem Ctr3 (pr : isPr a) (B : HB h n) {d o : Nat} (C4 : Ctr a h n d 4 o) : Ctr a h n (d + 1) 3 o := fun a0 k0 μ0 rx hk => by
  show ∃ μ', f_Re_sum (f_Re_rec d) 40 (nI o) μ0 = some μ' ∧ _
  obtain ⟨m1, t1, t2⟩ := C4 a0 k0 μ0 rx hk
  unfold f_Re_sum
  rw [kO_40 rx.1, bsome, t1, bsome]
  rcases t2 with ⟨z, f1, f2, f3⟩ | ⟨f0, -⟩ | ⟨a1, xs, ms, f1, f2⟩
  · exact ⟨m1, by rw [FU1, sumF f1], Or.inl ⟨z, f1, f2, S_inE f3⟩⟩
  · exact absurd f0 (by decide)
  · exact sumL pr B C4 hk n FU 0 a1 xs ms m1 (by omega) (by have := B.1; unfold FU; omega) (Nat.zero_le _) (PS_mono f1 rfl (by unfold qw; rw [if_neg (by decide), if_neg (by decide)]; omega) (S_in f1.2.2.2.2.2.2.2.2.2)) f2
theorem s_cmp (pr : isPr a) (B : HB h n) {at_ k : Nat} {μ : MM} (rx : RX a h n at_ k μ) : (isSg (h at_) = true ∧ ∃ μ', f_Re_comparison 40 μ = some (nI (xop (h at_)), μ') ∧ RX a h n (at_ + 1) k μ' ∧ Sm (Pps a) μ μ' ∧ gI μ' (a + 1) = gI μ (a + 1) ∧ gI μ' (a + 2) = gI μ (a + 2)) ∨ (isSg (h at_) = false ∧ ∃ μ', f_Re_comparison 40 μ = some (9, μ') ∧ FZ a (1000 * 1 + at_) μ' ∧ Sm (Pps a) μ μ') := by
  have w := rx.1
  have i60 := hxi B 60 60 rfl (by decide) (by decide) (at_ := at_)
  have i62 := hxi B 62 62 rfl (by decide) (by decide) (at_ := at_)
  have i61 := hxi B 61 61 rfl (by decide) (by decide) (at_ := at_)
  by_cases e : isSg (h at_) = true
  · have ln : at_ < n := hx_lt B (fun q => by rw [q] at e; cases e)
    obtain ⟨m1, q1, q2, q3, q4, q5⟩ := s_adv pr B rx ln
    refine Or.inl ⟨e, m1, ?_, q2, q3, q4, q5⟩
    unfold f_Re_comparison f_Re_comparison_J31
    rw [kO_40 w, bsome, s_here rx B, bsome, rI_40 w]
    rcases isSg_c e with q | q | q
    · rw [if_pos (i60.mpr q), bsome, q1, bsome, if_pos (i60.mpr q), q]; rfl
    · rw [if_neg (fun z => by have := i60.mp z; omega), if_pos (i62.mpr q), bsome, q1, bsome, if_neg (fun z => by have := i60.mp z; omega), if_pos (i62.mpr q), q]; rfl
    · rw [if_neg (fun z => by have := i60.mp z; omega), if_neg (fun z => by have := i62.mp z; omega), if_pos (i61.mpr q), bsome, q1, bsome, if_neg (fun z => by have := i60.mp z; omega), if_neg (fun z => by have := i62.mp z; omega), q]; rfl
  · have e := Bool.eq_false_iff.mpr e
    obtain ⟨m1, q1, q2, q3⟩ := s_fail pr B rx 1 (by decide) (by decide) 1 rfl
    refine Or.inr ⟨e, m1, ?_, q2, q3⟩
    unfold f_Re_comparison
    rw [kO_40 w, bsome, s_here rx B, bsome, if_neg (fun z => by rw [i60.mp z] at e; cases e), if_neg (fun z => by rw [i62.mp z] at e; cases e), if_neg (fun z => by rw [i61.mp z] at e; cases e), q1, bsome]
theorem s_landD (pr : isPr a) (B : HB h n) {at_ k : Nat} {μ : MM} (rx : RX a h n at_ k μ) (x : Int32) : ∃ μ', f_Pr_land a x μ = some μ' ∧ RX a h n at_ k μ' ∧ Sm (Pps a) μ μ' := by
  have w := rx.1
  have b := B.1
  have r5 := rx.2.2.2.2.2.1
  have r7 := rx.2.2.2.2.2.2.2.1
  have r8 := rx.2.2.2.2.2.2.2.2
  rcases ixc k _ rfl (by omega) x with ⟨c, -⟩ | ⟨c1, c2, -⟩ | ⟨c1, c2, -, j, hj, rfl⟩
  · exact ⟨μ, by unfold f_Pr_land; rw [pr_kO pr w, bsome, if_pos c], rx, Sm.rf⟩
  · exact ⟨μ, by unfold f_Pr_land; rw [pr_kO pr w, bsome, if_neg c1, pr_rI pr w, bsome, r5, if_pos c2], rx, Sm.rf⟩
  · obtain ⟨m, q1, q2, q3, -⟩ := s_land pr B rx hj
    exact ⟨m, q1, q2, q3⟩
theorem Ctr2 (pr : isPr a) (B : HB h n) {d o : Nat} (ho : o ≤ 6) (F3 : CF a d 3) (C3 : Ctr a h n d 3 o) (C2 : o < 6 → Ctr a h n d 2 (o + 1)) (C0 : o < 6 → Ctr a h n d 0 (o + 1)) : Ctr a h n (d + 1) 2 o := fun a0 k0 μ0 rx hk => by
  have w := rx.1
  have b := B.1
  have i33 := hxi B 33 33 rfl (by decide) (by decide) (at_ := a0)
  have i40 := hxi B 40 40 rfl (by decide) (by decide) (at_ := a0)
  show ∃ μ', f_Re_piece (f_Re_rec d) 40 (nI o) μ0 = some μ' ∧ _
  by_cases c : h a0 = 33 ∨ h a0 = 40
  · have pre : f_Re_piece (f_Re_rec d) 40 (nI o) μ0 = f_Re_piece_J45 (f_Re_rec d) 40 (nI o) (hx h n a0) μ0 := by
      unfold f_Re_piece
      rw [kO_40 w, bsome, s_here rx B, bsome]
      rcases c with c | c
      · rw [if_pos (i33.mpr c)]
      · rw [if_neg (fun z => by have := i33.mp z; omega), if_pos (i40.mpr c)]
    rw [pre]
    unfold f_Re_piece_J45
    by_cases c4 : o < 6
    · rw [if_pos (lt6 c4)]
      obtain ⟨m1, q1, q2, q3, q4, q5⟩ := s_adv pr B rx (hx_lt B (by omega))
      by_cases c5 : h a0 = 33
      · rw [if_pos (i33.mpr c5), rI_40 w, bsome, q1, bsome, nI_1]
        obtain ⟨m2, t1, t2⟩ := C2 c4 (a0 + 1) k0 m1 q2 (by omega)
        rw [t1, bsome]
        rcases t2 with ⟨z, f1, f2, f3⟩ | ⟨-, a1, k1, f1, f2, f3, f4, f5⟩ | ⟨a1, xs, ms, f1, -⟩
        · obtain ⟨y, m3, u1, u2, u3⟩ := s_paddF pr f1 10 0
          exact ⟨m3, by rw [FZ_out f1, bsome, u1, bsome], Or.inl ⟨z, u2, q3.tr (f2.tr u3), C_notE c4 c5 f3⟩⟩
        · obtain ⟨m3, u1, u2, u3, -⟩ := s_padd pr B f1 (by omega) 10 0
          exact ⟨m3, by rw [RX_out f1, bsome, u1, bsome], Or.inr (Or.inl ⟨by decide, a1, k1 + 1, u2, q3.tr (f2.tr u3), f3, by omega, C_notE c4 c5 f5⟩)⟩
        · obtain ⟨i1, i2, i3, i4, i5, i6, i7, i8, i9, i10⟩ := f1
          obtain ⟨m3, u1, u2, u3, u4, u5⟩ := s_padd pr B i3 (by omega) 10 0
          refine ⟨m3, by rw [RX_out i3, bsome, u1, bsome], Or.inr (Or.inr ⟨a1, xs ++ [(10, 0)], ms ++ [(10, 0)], ⟨by omega, ?_, ?_, ?_, fun j hj => ?_, q3.tr (i6.tr u3), ?_, Vl_app i8 (Vl_one (by decide) (by decide) (by decide)), Vl_app i9 (Vl_one (by decide) (by decide) (by decide)), C_not c4 c5 i10⟩, trivial⟩)⟩
          · simp only [List.length_append, List.length_singleton]; omega
          · rw [List.length_append]; exact u2
          · refine HX_app (HX_eq i4 (fun j l1 l2 => ?_)) (HX_one ?_ ?_)
            · rw [u4, u5]; unfold upd; rw [if_neg (by omega), if_neg (by omega)]; exact ⟨rfl, rfl⟩
            · rw [u4]; unfold upd; rw [if_pos rfl]; rfl
            · rw [u5, if_neg (by decide)]; unfold upd; rw [if_pos rfl]; rfl
          · obtain ⟨b1, b2⟩ := i5 j hj
            rw [u4, u5]; unfold upd; rw [if_neg (by omega), if_neg (by omega), b1, b2, q4, q5]; exact ⟨rfl, rfl⟩
          · refine Gd_not (Gd.mono i7 ?_)
            unfold qw; rw [if_pos (by decide)]; omega
      · have c5' : h a0 = 40 := c.resolve_left c5
        rw [if_neg (fun z => c5 (i33.mp z)), rI_40 w, bsome, q1, bsome, nI_1]
        obtain ⟨m2, t1, t2⟩ := C0 c4 (a0 + 1) k0 m1 q2 (by omega)
        rw [t1, bsome]
        rcases t2 with ⟨z, f1, f2, f3⟩ | ⟨-, a1, k1, f1, f2, f3, f4, f5⟩ | ⟨a1, xs, ms, f1, f2⟩
        · obtain ⟨m3, u1, u2, u3⟩ := s_takeF pr f1 41 (by decide)
          exact ⟨m3, by rw [u1, bsome], Or.inl ⟨z, u2, q3.tr (f2.tr u3), C_parE c4 c5' f3⟩⟩
        · rcases s_take pr B f1 41 41 rfl (by decide) (by decide) with ⟨e1, -⟩ | ⟨e1, m3, e2, e3, e4⟩
          · omega
          · exact ⟨m3, by rw [e2, bsome], Or.inl ⟨_, e3, q3.tr (f2.tr e4), C_parE c4 c5' f5⟩⟩
        · obtain ⟨i1, i2, i3, i4, i5, i6, i7, i8, i9, i10⟩ := f1
          rcases s_take pr B i3 41 41 rfl (by decide) (by decide) with ⟨e1, e2, e3, e4⟩ | ⟨e1, m3, e2, e3, e4⟩
          · refine ⟨_, by rw [e2, bsome], Or.inr (Or.inr ⟨a1 + 1, xs, ms, ⟨by omega, by omega, e3, ?_, ?_, q3.tr (i6.tr e4), ?_, i8, i9, C_par c4 c5' i10 f2 e1⟩, trivial⟩)⟩
            · rw [gI_sI_ne (isPr_ne pr).2.1, gI_sI_ne (isPr_ne pr).2.2.1]; exact i4
            · intro j hj
              rw [gI_sI_ne (isPr_ne pr).2.1, gI_sI_ne (isPr_ne pr).2.2.1, ← q4, ← q5]; exact i5 j hj
            · refine Gd.mono i7 ?_
              unfold qw; rw [if_pos (by decide), if_pos (by decide)]; omega
          · exact ⟨m3, by rw [e2, bsome], Or.inl ⟨_, e3, q3.tr (i6.tr e4), C_parC c4 c5' i10 f2 e1⟩⟩
    · have : o = 6 := by omega
      subst this
      obtain ⟨m3, t1, t2, t3⟩ := s_fail pr B rx 5 (by decide) (by decide) 5 rfl
      exact ⟨m3, by rw [if_neg (nlt6 rfl), t1, bsome], Or.inl ⟨_, t2, t3, C_o c⟩⟩
  · have n1 : ¬ hx h n a0 = 33 := fun z => c (Or.inl (i33.mp z))
    have n2 : ¬ hx h n a0 = 40 := fun z => c (Or.inr (i40.mp z))
    unfold f_Re_piece
    rw [kO_40 w, bsome, s_here rx B, bsome, if_neg n1, if_neg n2]
    obtain ⟨m1, t1, t2⟩ := C3 a0 k0 μ0 rx hk
    rw [t1, bsome]
    rcases t2 with ⟨z, f1, f2, f3⟩ | ⟨f0, -⟩ | ⟨a1, xs, ms, f1, f2⟩
    · obtain ⟨m2, u1, u2, u3⟩ := cmpF pr f1
      obtain ⟨m3, v1, v2, v3⟩ := F3 (nI o) z m2 u2
      obtain ⟨y, m4, x1, x2, x3⟩ := s_paddF pr v2 9 0
      exact ⟨m4, by rw [u1, bsome, v1, bsome, FZ_out v2, bsome, x1, bsome], Or.inl ⟨z, x2, f2.tr (u3.tr (v3.tr x3)), C_n1E c f3⟩⟩
    · exact absurd f0 (by decide)
    · have p1 := f1.1
      have p2 := f1.2.1
      rcases s_cmp pr B f1.2.2.1 with ⟨e1, m2, u1, u2, u3, u4, u5⟩ | ⟨e1, m2, u1, u2, u3⟩
      · obtain ⟨m3, v1, v2⟩ := C3 (a1 + 1) (k0 + xs.length) m2 u2 (by omega)
        rw [u1, bsome, v1, bsome]
        rcases v2 with ⟨z, g1, g2, g3⟩ | ⟨g0, -⟩ | ⟨a2, x2, m2', g1, g2⟩
        · obtain ⟨y, m4, x1, x2, x3⟩ := s_paddF pr g1 (nI (xop (h a1))) 0
          exact ⟨m4, by rw [FZ_out g1, bsome, x1, bsome], Or.inl ⟨z, x2, f1.2.2.2.2.2.1.tr (u3.tr (g2.tr x3)), C_n2E c f1.2.2.2.2.2.2.2.2.2 f2 e1 g3⟩⟩
        · exact absurd g0 (by decide)
        · have l1 := g1.1
          have l2 := g1.2.1
          by_cases c9 : h a2 = 93
          · obtain ⟨m4, x1, x2, x3, -⟩ := s_padd pr B g1.2.2.1 (by omega) (nI (xop (h a1))) 0
            exact ⟨m4, by rw [RX_out g1.2.2.1, bsome, x1, bsome], Or.inr (Or.inl ⟨by decide, a2, _, x2, f1.2.2.2.2.2.1.tr (u3.tr (g1.2.2.2.2.2.1.tr x3)), c9, by omega, C_n2D c f1.2.2.2.2.2.2.2.2.2 f2 e1 g1.2.2.2.2.2.2.2.2.2 g2 c9⟩)⟩
          · have gd : Gd (decide (2 ≤ 2)) (xs ++ (x2 ++ [(xop (h a1), 0)])) (ms ++ (m2' ++ [(xop (h a1), 0)])) (qw 2 o) :=
              Gd_op (by have := xopS e1; omega) (xopS e1).2 (fun _ => (xopS e1).1) (f1.2.2.2.2.2.2.1.mono (q' := qw 2 o) (by unfold qw; rw [if_neg (by decide), if_pos (by decide)]; omega)) g1.2.2.2.2.2.2.1 (by unfold qw; rw [if_neg (by decide), if_pos (by decide)]; omega)
            obtain ⟨y, m4, x1, x2'⟩ := PS_op pr B hk f1 u3 u4 u5 g1 (by have := xopS e1; omega) (xopS e1).2 gd (C_n2 c f1.2.2.2.2.2.2.2.2.2 f2 e1 g1.2.2.2.2.2.2.2.2.2 g2 c9) _ rfl
            exact ⟨m4, by rw [RX_out g1.2.2.1, bsome, x1, bsome], Or.inr (Or.inr ⟨a2, _, _, x2', trivial⟩)⟩
      · obtain ⟨m3, v1, v2, v3⟩ := F3 (nI o) _ m2 u2
        obtain ⟨y, m4, x1, x2, x3⟩ := s_paddF pr v2 9 0
        exact ⟨m4, by rw [u1, bsome, v1, bsome, FZ_out v2, bsome, x1, bsome], Or.inl ⟨_, x2, f1.2.2.2.2.2.1.tr (u3.tr (v3.tr x3)), C_n1S c f1.2.2.2.2.2.2.2.2.2 f2 e1⟩⟩
theorem all_pre (B : HB h n) {at_ k c m : Nat} {μ : MM} (rx : RX a h n at_ k μ) (hc : c < 200) (e : h at_ = 38) (rc : Nat → Nat → Int32 → MM → Option MM) (x : Int32) : f_Re_all_L7 rc 40 x (m + 1) (nI c) μ = (rI μ 40 6 3).bind fun y25 => (pI μ 40 6 3 (y25 + (1 : Int32))).bind fun μ30 => (rR μ30 40 6 1).bind fun y34 => (f_Pr_add y34 (11 : Int32) (0 : Int32) μ30).bind fun q40 => (rc 2 40 x q40.2).bind fun μ46 => (rR μ46 40 6 1).bind fun y50 => (f_Pr_land y50 q40.1 μ46).bind fun μ54 => (f_Re_all_L7 rc 40 x m) (nI c + (1 : Int32)) μ54 := by
  have i1 := hxi B 38 38 rfl (by decide) (by decide) (at_ := at_)
  rw [e_Re_all_L7, if_neg (lt200 hc), s_here rx B, bsome, if_pos (i1.mpr e)]
theorem all_end (B : HB h n) {at_ k m : Nat} {x2 : Int32} {μ : MM} (rx : RX a h n at_ k μ) (e : ¬ h at_ = 38) (rc : Nat → Nat → Int32 → MM → Option MM) (x : Int32) : f_Re_all_L7 rc 40 x (m + 1) x2 μ = some μ := by
  have i1 := hxi B 38 38 rfl (by decide) (by decide) (at_ := at_)
  rw [e_Re_all_L7]
  by_cases c : (200 : Int32) ≤ x2
  · rw [if_pos c]
  · rw [if_neg c, s_here rx B, bsome, if_neg (fun z => e (i1.mp z))]
theorem allL (pr : isPr a) (B : HB h n) {d o a0 k0 : Nat} {μ0 : MM} (CC : Ctr a h n d 2 o) (hk : k0 < a0) : ∀ (r m c a1 : Nat) (xs ms : CL) (μ1 : MM), n - a1 ≤ r → r < m → c ≤ a1 → PS a h n 1 o a0 k0 μ0 a1 xs ms μ1 → ∃ μ', f_Re_all_L7 (f_Re_rec d) 40 (nI o) m (nI c) μ1 = some μ' ∧ OC a h n 1 o a0 k0 μ0 μ' := by
  intro r
  induction r with
  | zero =>
    intro m c a1 xs ms μ1 hr hm hc p
    obtain ⟨m, rfl⟩ : ∃ j, m = j + 1 := ⟨m - 1, by omega⟩
    have e : ¬ h a1 = 38 := by rw [B.2.2 a1 (by omega)]; decide
    exact ⟨μ1, all_end B p.2.2.1 e _ _, Or.inr (Or.inr ⟨a1, xs, ms, p, e⟩)⟩
  | succ r ih =>
    intro m c a1 xs ms μ1 hr hm hc p
    obtain ⟨m, rfl⟩ : ∃ j, m = j + 1 := ⟨m - 1, by omega⟩
    by_cases e : h a1 = 38
    · have b := B.1
      have ln : a1 < n := hx_lt B (by omega)
      obtain ⟨m1, q1, q2, q3, q4, q5⟩ := s_adv pr B p.2.2.1 ln
      have p1 := p.1
      have p2 := p.2.1
      obtain ⟨m2, y1, y2, y3, y4, y5⟩ := s_padd pr B q2 (by omega) 11 0
      obtain ⟨m3, t1, t2⟩ := CC (a1 + 1) (k0 + xs.length + 1) m2 y2 (by omega)
      rw [all_pre B p.2.2.1 (by omega) e, rI_40 p.2.2.1.1, bsome, q1, bsome, RX_out q2, bsome, y1, bsome, t1, bsome, nI_1]
      obtain ⟨m, rfl⟩ : ∃ j, m = j + 1 := ⟨m - 1, by omega⟩
      rcases t2 with ⟨z, f1, f2, f3⟩ | ⟨f0, a2, k2, f1, f2, f3, f4, f5⟩ | ⟨a2, x2, m2', f1, f2⟩
      · obtain ⟨m4, u1, u2, u3⟩ := s_landF pr f1 (nI (k0 + xs.length))
        exact ⟨m4, by rw [FZ_out f1, bsome, u1, bsome, allF u2], Or.inl ⟨z, u2, p.2.2.2.2.2.1.tr (q3.tr (y3.tr (f2.tr u3))), A_mE p.2.2.2.2.2.2.2.2.2 e f3⟩⟩
      · obtain ⟨m4, u1, u2, u3⟩ := s_landD pr B f1 (nI (k0 + xs.length))
        exact ⟨m4, by rw [RX_out f1, bsome, u1, bsome, all_end B u2 (by omega)], Or.inr (Or.inl ⟨by decide, a2, k2, u2, p.2.2.2.2.2.1.tr (q3.tr (y3.tr (f2.tr u3))), f3, by omega, A_mE p.2.2.2.2.2.2.2.2.2 e f5⟩)⟩
      · obtain ⟨m4, u1, u2⟩ := PS_and pr B hk p q3 q4 q5 (Or.inl rfl : 11 = 11 ∨ 11 = 12) y3 y4 y5 f1 (by decide) (by decide) (A_m p.2.2.2.2.2.2.2.2.2 e f1.2.2.2.2.2.2.2.2.2)
        have f11 := f1.1
        obtain ⟨μ', v1, v2⟩ := ih (m + 1) (c + 1) a2 _ _ m4 (by omega) (by omega) (by omega) u2
        exact ⟨μ', by rw [RX_out f1.2.2.1, bsome, u1, bsome, v1], v2⟩
    · exact ⟨μ1, all_end B p.2.2.1 e _ _, Or.inr (Or.inr ⟨a1, xs, ms, p, e⟩)⟩
theorem Ctr1 (pr : isPr a) (B : HB h n) {d o : Nat} (CC : Ctr a h n d 2 o) : Ctr a h n (d + 1) 1 o := fun a0 k0 μ0 rx hk => by
  show ∃ μ', f_Re_all (f_Re_rec d) 40 (nI o) μ0 = some μ' ∧ _
  obtain ⟨m1, t1, t2⟩ := CC a0 k0 μ0 rx hk
  unfold f_Re_all
  rw [kO_40 rx.1, bsome, t1, bsome]
  rcases t2 with ⟨z, f1, f2, f3⟩ | ⟨f0, a2, k2, f1, f2, f3, f4, f5⟩ | ⟨a1, xs, ms, f1, f2⟩
  · exact ⟨m1, by rw [FU1, allF f1], Or.inl ⟨z, f1, f2, A_inE f3⟩⟩
  · exact ⟨m1, by rw [FU1, all_end B f1 (by omega)], Or.inr (Or.inl ⟨by decide, a2, k2, f1, f2, f3, f4, A_inE f5⟩)⟩
  · exact allL pr B CC hk n FU 0 a1 xs ms m1 (by omega) (by have := B.1; unfold FU; omega) (Nat.zero_le _) (PS_mono f1 rfl (Nat.le_refl _) (A_in f1.2.2.2.2.2.2.2.2.2))
theorem either_pre (B : HB h n) {at_ k c m : Nat} {μ : MM} (rx : RX a h n at_ k μ) (hc : c < 200) (e : h at_ = 124) (rc : Nat → Nat → Int32 → MM → Option MM) (x : Int32) : f_Re_either_L7 rc 40 x (m + 1) (nI c) μ = (rI μ 40 6 3).bind fun y25 => (pI μ 40 6 3 (y25 + (1 : Int32))).bind fun μ30 => (rR μ30 40 6 1).bind fun y34 => (f_Pr_add y34 (12 : Int32) (0 : Int32) μ30).bind fun q40 => (rc 1 40 x q40.2).bind fun μ46 => (rR μ46 40 6 1).bind fun y50 => (f_Pr_land y50 q40.1 μ46).bind fun μ54 => (f_Re_either_L7 rc 40 x m) (nI c + (1 : Int32)) μ54 := by
  have i1 := hxi B 124 124 rfl (by decide) (by decide) (at_ := at_)
  rw [e_Re_either_L7, if_neg (lt200 hc), s_here rx B, bsome, if_pos (i1.mpr e)]
theorem either_end (B : HB h n) {at_ k m : Nat} {x2 : Int32} {μ : MM} (rx : RX a h n at_ k μ) (e : ¬ h at_ = 124) (rc : Nat → Nat → Int32 → MM → Option MM) (x : Int32) : f_Re_either_L7 rc 40 x (m + 1) x2 μ = some μ := by
  have i1 := hxi B 124 124 rfl (by decide) (by decide) (at_ := at_)
  rw [e_Re_either_L7]
  by_cases c : (200 : Int32) ≤ x2
  · rw [if_pos c]
  · rw [if_neg c, s_here rx B, bsome, if_neg (fun z => e (i1.mp z))]
theorem eitherL (pr : isPr a) (B : HB h n) {d o a0 k0 : Nat} {μ0 : MM} (CC : Ctr a h n d 1 o) (hk : k0 < a0) : ∀ (r m c a1 : Nat) (xs ms : CL) (μ1 : MM), n - a1 ≤ r → r < m → c ≤ a1 → PS a h n 0 o a0 k0 μ0 a1 xs ms μ1 → ¬ h a1 = 38 → ∃ μ', f_Re_either_L7 (f_Re_rec d) 40 (nI o) m (nI c) μ1 = some μ' ∧ OC a h n 0 o a0 k0 μ0 μ' := by
  intro r
  induction r with
  | zero =>
    intro m c a1 xs ms μ1 hr hm hc p e38
    obtain ⟨m, rfl⟩ : ∃ j, m = j + 1 := ⟨m - 1, by omega⟩
    have e : ¬ h a1 = 124 := by rw [B.2.2 a1 (by omega)]; decide
    exact ⟨μ1, either_end B p.2.2.1 e _ _, Or.inr (Or.inr ⟨a1, xs, ms, p, e38, e⟩)⟩
  | succ r ih =>
    intro m c a1 xs ms μ1 hr hm hc p e38
    obtain ⟨m, rfl⟩ : ∃ j, m = j + 1 := ⟨m - 1, by omega⟩
    by_cases e : h a1 = 124
    · have b := B.1
      have ln : a1 < n := hx_lt B (by omega)
      obtain ⟨m1, q1, q2, q3, q4, q5⟩ := s_adv pr B p.2.2.1 ln
      have p1 := p.1
      have p2 := p.2.1
      obtain ⟨m2, y1, y2, y3, y4, y5⟩ := s_padd pr B q2 (by omega) 12 0
      obtain ⟨m3, t1, t2⟩ := CC (a1 + 1) (k0 + xs.length + 1) m2 y2 (by omega)
      rw [either_pre B p.2.2.1 (by omega) e, rI_40 p.2.2.1.1, bsome, q1, bsome, RX_out q2, bsome, y1, bsome, t1, bsome, nI_1]
      obtain ⟨m, rfl⟩ : ∃ j, m = j + 1 := ⟨m - 1, by omega⟩
      rcases t2 with ⟨z, f1, f2, f3⟩ | ⟨f0, a2, k2, f1, f2, f3, f4, f5⟩ | ⟨a2, x2, m2', f1, f2⟩
      · obtain ⟨m4, u1, u2, u3⟩ := s_landF pr f1 (nI (k0 + xs.length))
        exact ⟨m4, by rw [FZ_out f1, bsome, u1, bsome, eitherF u2], Or.inl ⟨z, u2, p.2.2.2.2.2.1.tr (q3.tr (y3.tr (f2.tr u3))), O_mE p.2.2.2.2.2.2.2.2.2 e f3⟩⟩
      · obtain ⟨m4, u1, u2, u3⟩ := s_landD pr B f1 (nI (k0 + xs.length))
        exact ⟨m4, by rw [RX_out f1, bsome, u1, bsome, either_end B u2 (by omega)], Or.inr (Or.inl ⟨by decide, a2, k2, u2, p.2.2.2.2.2.1.tr (q3.tr (y3.tr (f2.tr u3))), f3, by omega, O_mE p.2.2.2.2.2.2.2.2.2 e f5⟩)⟩
      · have f2 : ¬ h a2 = 38 := f2
        obtain ⟨m4, u1, u2⟩ := PS_and pr B hk p q3 q4 q5 (Or.inr rfl : 12 = 11 ∨ 12 = 12) y3 y4 y5 f1 (by decide) (by decide) (O_m p.2.2.2.2.2.2.2.2.2 e f1.2.2.2.2.2.2.2.2.2 f2)
        have f11 := f1.1
        obtain ⟨μ', v1, v2⟩ := ih (m + 1) (c + 1) a2 _ _ m4 (by omega) (by omega) (by omega) u2 f2
        exact ⟨μ', by rw [RX_out f1.2.2.1, bsome, u1, bsome, v1], v2⟩
    · exact ⟨μ1, either_end B p.2.2.1 e _ _, Or.inr (Or.inr ⟨a1, xs, ms, p, e38, e⟩)⟩
theorem Ctr0 (pr : isPr a) (B : HB h n) {d o : Nat} (CC : Ctr a h n d 1 o) : Ctr a h n (d + 1) 0 o := fun a0 k0 μ0 rx hk => by
  show ∃ μ', f_Re_either (f_Re_rec d) 40 (nI o) μ0 = some μ' ∧ _
  obtain ⟨m1, t1, t2⟩ := CC a0 k0 μ0 rx hk
  unfold f_Re_either
  rw [kO_40 rx.1, bsome, t1, bsome]
  rcases t2 with ⟨z, f1, f2, f3⟩ | ⟨f0, a2, k2, f1, f2, f3, f4, f5⟩ | ⟨a1, xs, ms, f1, f2⟩
  · exact ⟨m1, by rw [FU1, eitherF f1], Or.inl ⟨z, f1, f2, O_inE f3⟩⟩
  · exact ⟨m1, by rw [FU1, either_end B f1 (by omega)], Or.inr (Or.inl ⟨by decide, a2, k2, f1, f2, f3, f4, O_inE f5⟩)⟩
  · exact eitherL pr B CC hk n FU 0 a1 xs ms m1 (by omega) (by have := B.1; unfold FU; omega) (Nat.zero_le _) (PS_mono f1 rfl (Nat.le_refl _) (O_in f1.2.2.2.2.2.2.2.2.2)) f2
theorem Ctrs (pr : isPr a) (B : HB h n) : ∀ (d w o : Nat), w ≤ 5 → o ≤ 6 → 6 * (8 - o) ≤ d + w → Ctr a h n d w o := by
  intro d
  induction d with
  | zero => intro w o hw ho hd; omega
  | succ d ih =>
    intro w o hw ho hd
    rcases (show w = 0 ∨ w = 1 ∨ w = 2 ∨ w = 3 ∨ w = 4 ∨ w = 5 by omega) with rfl | rfl | rfl | rfl | rfl | rfl
    · exact Ctr0 pr B (ih 1 o (by decide) ho (by omega))
    · exact Ctr1 pr B (ih 2 o (by decide) ho (by omega))
    · exact Ctr2 pr B ho (CFall pr 3 (by decide) d (by omega)) (ih 3 o (by decide) ho (by omega)) (fun _ => ih 2 (o + 1) (by decide) (by omega) (by omega)) (fun _ => ih 0 (o + 1) (by decide) (by omega) (by omega))
    · exact Ctr3 pr B (ih 4 o (by decide) ho (by omega))
    · exact Ctr4 pr B (CFall pr 5 (by decide) d (by omega)) (ih 5 o (by decide) ho (by omega))
    · exact Ctr5 pr B ho (CFall pr 3 (by decide) d (by omega)) (fun _ => ih 3 (o + 1) (by decide) (by omega) (by omega))
end
