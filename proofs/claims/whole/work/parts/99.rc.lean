/-! LAYER 2: the reader's parts one by one -/
theorem ndg_le (h : Nat → Nat) : ∀ (r a : Nat), ndg h r a ≤ r
  | 0, _ => Nat.le_refl _
  | r + 1, a => by
    unfold ndg
    split
    · have := ndg_le h r (a + 1); omega
    · omega
theorem ndg_s (h : Nat → Nat) : ∀ (r a : Nat), ndg h (r + 1) a = if ndg h r a = r ∧ isD (h (a + r)) = true then r + 1 else ndg h r a
  | 0, a => by
    unfold ndg
    by_cases e : isD (h a) = true
    · rw [if_pos e, if_pos ⟨rfl, e⟩]; rfl
    · rw [if_neg e, if_neg (fun q => e q.2)]
  | r + 1, a => by
    have ih := ndg_s h r (a + 1)
    show (if isD (h a) = true then ndg h (r + 1) (a + 1) + 1 else 0) = _
    have e1 : ndg h (r + 1) a = if isD (h a) = true then ndg h r (a + 1) + 1 else 0 := rfl
    rw [e1]
    by_cases e : isD (h a) = true
    · rw [if_pos e, if_pos e, ih]
      by_cases f : ndg h r (a + 1) = r ∧ isD (h (a + 1 + r)) = true
      · rw [if_pos f, if_pos ⟨by omega, by rw [show a + (r + 1) = a + 1 + r by omega]; exact f.2⟩]
      · rw [if_neg f, if_neg]
        intro q
        exact f ⟨by omega, by rw [show a + 1 + r = a + (r + 1) by omega]; exact q.2⟩
    · rw [if_neg e, if_neg e, if_neg]
      intro q
      omega
theorem isD_b {c : Nat} (e : isD c = true) : 48 ≤ c ∧ c ≤ 57 := by
  unfold isD at e; simp only [Bool.and_eq_true, decide_eq_true_eq] at e; exact e
theorem nvl_b (h : Nat → Nat) : ∀ (r a v : Nat), nvl h (ndg h r a) a v < (v + 1) * 10 ^ ndg h r a
  | 0, a, v => by simp [ndg, nvl]
  | r + 1, a, v => by
    unfold ndg
    by_cases e : isD (h a) = true
    · rw [if_pos e]
      have ih := nvl_b h r (a + 1) (10 * v + (h a - 48))
      have b := isD_b e
      show nvl h (ndg h r (a + 1)) (a + 1) (10 * v + (h a - 48)) < _
      refine Nat.lt_of_lt_of_le ih ?_
      rw [Nat.pow_succ, Nat.mul_comm (10 ^ ndg h r (a + 1)) 10, ← Nat.mul_assoc]
      exact Nat.mul_le_mul_right _ (by omega)
    · rw [if_neg e]; simp [nvl]
section
variable {a : Nat} {h : Nat → Nat} {n : Nat}
theorem hx_in {at_ : Nat} (e : at_ < n) : hx h n at_ = nI (h at_) := if_pos e
theorem numL (pr : isPr a) (B : HB h n) : ∀ (r c at_ k v m : Nat) (μ : MM), c + r = 5 → r < m → RX a h n at_ k μ → ∃ μ', f_Re_number_L4 40 m (nI v) (nI c) μ = f_Re_number_J48 40 (nI (nvl h (ndg h r at_) at_ v)) μ' ∧ RX a h n (at_ + ndg h r at_) k μ' ∧ Sm (Pps a) μ μ' ∧ gI μ' (a + 1) = gI μ (a + 1) ∧ gI μ' (a + 2) = gI μ (a + 2) := by
  intro r
  induction r with
  | zero =>
    intro c at_ k v m μ hc hm rx
    obtain ⟨m, rfl⟩ : ∃ j, m = j + 1 := ⟨m - 1, by omega⟩
    have : c = 5 := by omega
    subst this
    refine ⟨μ, ?_, rx, Sm.rf, rfl, rfl⟩
    rw [e_Re_number_L4, if_pos (by decide)]; rfl
  | succ r ih =>
    intro c at_ k v m μ hc hm rx
    obtain ⟨m, rfl⟩ : ∃ j, m = j + 1 := ⟨m - 1, by omega⟩
    have w := rx.1
    have pre : f_Re_number_L4 40 (m + 1) (nI v) (nI c) μ = if isD (h at_) = true then ((rI μ 40 6 3).bind fun y34 => (pI μ 40 6 3 (y34 + (1 : Int32))).bind fun μ39 => f_Re_number_L4 40 m ((((10 : Int32) * nI v) + hx h n at_) - (48 : Int32)) (nI c + (1 : Int32)) μ39) else f_Re_number_J48 40 (nI v) μ := by
      rw [e_Re_number_L4, if_neg (show ¬ (5 : Int32) ≤ nI c by rw [show (5 : Int32) = nI 5 from rfl, cle (by omega) (by omega)]; omega), s_here rx B, bsome, hx_dg B, bsome]
      cases isD (h at_)
      · rw [if_pos (by decide), if_neg (by decide)]
      · rw [if_neg (by decide), if_pos rfl, bsome]
    rw [pre]
    unfold ndg
    by_cases e : isD (h at_) = true
    · rw [if_pos e, if_pos e]
      have b := isD_b e
      have ln : at_ < n := hx_lt B (by omega)
      obtain ⟨m1, q1, q2, q3, q4, q5⟩ := s_adv pr B rx ln
      obtain ⟨m2, p1, p2, p3, p4, p5⟩ := ih (c + 1) (at_ + 1) k (10 * v + (h at_ - 48)) m m1 (by omega) (by omega) q2
      refine ⟨m2, ?_, by rw [show at_ + (ndg h r (at_ + 1) + 1) = at_ + 1 + ndg h r (at_ + 1) by omega]; exact p2, q3.tr p3, p4.trans q4, p5.trans q5⟩
      rw [rI_40 w, bsome, q1, bsome, hx_in ln, show (10 : Int32) = nI 10 from rfl, pk_mul, nI_add, show (48 : Int32) = nI 48 from rfl, pk_sub (by omega), nI_1, show 10 * v + h at_ - 48 = 10 * v + (h at_ - 48) by omega, p1]; rfl
    · rw [if_neg e, if_neg e]
      exact ⟨μ, rfl, rx, Sm.rf, rfl, rfl⟩
theorem s_rdnum (pr : isPr a) (B : HB h n) {at_ k : Nat} {μ : MM} (rx : RX a h n at_ k μ) (hk : k < at_) (e : isD (h at_) = true) : ∃ μ', f_Re_number 40 μ = some μ' ∧ Sm (Pps a) μ μ' ∧ ((ndg h 6 at_ = 6 ∧ FZ a (1000 * 2 + (at_ + 5)) μ') ∨ (¬ ndg h 6 at_ = 6 ∧ 0 < ndg h 6 at_ ∧ RX a h n (at_ + ndg h 6 at_) (k + 1) μ' ∧ gI μ' (a + 1) = upd (gI μ (a + 1)) k 0 ∧ gI μ' (a + 2) = upd (gI μ (a + 2)) k (nI (nvl h (ndg h 6 at_) at_ 0)))) := by
  have w := rx.1
  obtain ⟨m1, q1, q2, q3, q4, q5⟩ := numL pr B 5 0 at_ k 0 FU μ rfl (by unfold FU; omega) rx
  have s6 : ndg h 6 at_ = if ndg h 5 at_ = 5 ∧ isD (h (at_ + 5)) = true then 5 + 1 else ndg h 5 at_ := ndg_s h 5 at_
  have le5 := ndg_le h 5 at_
  have pre : f_Re_number 40 μ = f_Re_number_J48 40 (nI (nvl h (ndg h 5 at_) at_ 0)) m1 := by
    unfold f_Re_number
    rw [kO_40 w, bsome]; exact q1
  by_cases c : isD (h (at_ + ndg h 5 at_)) = true
  · have d5 : ndg h 5 at_ = 5 := by
      rcases Nat.lt_or_ge (ndg h 5 at_) 5 with z | z
      · exfalso
        have : ∀ r a, ndg h r a < r → isD (h (a + ndg h r a)) = false := by
          intro r
          induction r with
          | zero => intro a ha; omega
          | succ r ih =>
            intro a ha
            unfold ndg at ha ⊢
            by_cases e2 : isD (h a) = true
            · rw [if_pos e2] at ha ⊢
              rw [show a + (ndg h r (a + 1) + 1) = a + 1 + ndg h r (a + 1) by omega]
              exact ih (a + 1) (by omega)
            · rw [if_neg e2] at ha ⊢
              cases hq : isD (h (a + 0)) with
              | true => exact absurd hq e2
              | false => rfl
        rw [this 5 at_ z] at c; cases c
      · omega
    rw [d5] at c q2
    obtain ⟨m2, p1, p2, p3⟩ := s_fail pr B q2 2 (by decide) (by decide) 2 rfl
    obtain ⟨y, m3, t1, t2, t3⟩ := s_paddF pr p2 0 (nI (nvl h (ndg h 5 at_) at_ 0))
    refine ⟨m3, ?_, q3.tr (p3.tr t3), Or.inl ⟨by rw [s6, if_pos ⟨d5, c⟩], t2⟩⟩
    rw [pre]
    unfold f_Re_number_J48 f_Re_number_J63
    rw [s_here q2 B, bsome, hx_dg B, bsome, c, if_neg (by decide), p1, bsome, FZ_out p2, bsome, t1, bsome]
  · have e6 : ndg h 6 at_ = ndg h 5 at_ := by
      rw [s6, if_neg]
      intro q
      rw [q.1] at c
      exact c q.2
    have p0 : 0 < ndg h 5 at_ := by
      unfold ndg
      rw [if_pos e]; omega
    obtain ⟨m2, p1, p2, p3, p4, p5⟩ := s_padd pr B q2 (by omega) 0 (nI (nvl h (ndg h 5 at_) at_ 0))
    refine ⟨m2, ?_, q3.tr p3, Or.inr ⟨by omega, by omega, by rw [e6]; exact p2, by rw [p4, q4], by rw [p5, q5, e6]⟩⟩
    rw [pre]
    unfold f_Re_number_J48 f_Re_number_J63
    rw [s_here q2 B, bsome, hx_dg B, bsome]
    cases hc : isD (h (at_ + ndg h 5 at_)) with
    | true => exact absurd hc c
    | false => rw [if_pos (by decide), RX_out q2, bsome, p1, bsome]
theorem PS_one {at_ at2 k op arg w o : Nat} {μ μ' : MM} (hat : at_ < at2) (rx : RX a h n at2 (k + 1) μ') (s : Sm (Pps a) μ μ') (e1 : gI μ' (a + 1) = upd (gI μ (a + 1)) k (nI op)) (e2 : gI μ' (a + 2) = upd (gI μ (a + 2)) k (nI arg)) (ho : ¬ (op = 11 ∨ op = 12)) (gd : Gd (decide (w ≤ 2)) [(op, arg)] [(op, arg)] (qw w o)) (vl : Vl [(op, arg)]) (ak : AOk h w o at_ at2 [(op, arg)]) : PS a h n w o at_ k μ at2 [(op, arg)] [(op, arg)] μ' := by
  refine ⟨hat, by show 1 + at_ ≤ at2; omega, rx, HX_one ?_ ?_, fun j hj => ?_, s, gd, vl, vl, ak⟩
  · rw [e1]; unfold upd; rw [if_pos rfl]
  · rw [e2, if_neg ho]; unfold upd; rw [if_pos rfl]
  · rw [e1, e2]; unfold upd; rw [if_neg (by omega), if_neg (by omega)]; exact ⟨rfl, rfl⟩
theorem lt6 {o : Nat} (ho : o < 6) : nI o < (6 : Int32) := by rw [show (6 : Int32) = nI 6 from rfl, clt (by omega) (by omega)]; exact ho
theorem nlt6 {o : Nat} (ho : o = 6) : ¬ nI o < (6 : Int32) := by subst ho; decide
theorem PS_mono {w w' o a0 k0 a1 : Nat} {μ0 μ1 : MM} {xs ms : CL} (p : PS a h n w o a0 k0 μ0 a1 xs ms μ1) (hw : decide (w ≤ 2) = decide (w' ≤ 2)) (hq : qw w o ≤ qw w' o) (hA : AOk h w' o a0 a1 ms) : PS a h n w' o a0 k0 μ0 a1 xs ms μ1 := by
  obtain ⟨i1, i2, i3, i4, i5, i6, i7, i8, i9, i10⟩ := p
  exact ⟨i1, i2, i3, i4, i5, i6, by rw [← hw]; exact i7.mono hq, i8, i9, hA⟩
theorem Ctr5 (pr : isPr a) (B : HB h n) {d o : Nat} (ho : o ≤ 6) (F3 : CF a d 3) (C3 : o < 6 → Ctr a h n d 3 (o + 1)) : Ctr a h n (d + 1) 5 o := fun a0 k0 μ0 rx hk => by
  have w := rx.1
  show ∃ μ', f_Re_factor (f_Re_rec d) 40 (nI o) μ0 = some μ' ∧ _
  unfold f_Re_factor
  rw [kO_40 w, bsome, s_here rx B, bsome, hx_ixL B, bsome]
  by_cases c1 : lix (h a0) < 12
  · have n0 : ¬ h a0 = 0 := fun q => by rw [q] at c1; exact absurd c1 (by decide)
    obtain ⟨m1, q1, q2, q3, q4, q5⟩ := s_adv pr B rx (hx_lt B n0)
    obtain ⟨m2, p1, p2, p3, p4, p5⟩ := s_padd pr B q2 (by omega) 1 (nI (lix (h a0)))
    refine ⟨m2, ?_, Or.inr (Or.inr ⟨a0 + 1, [(1, lix (h a0))], [(1, lix (h a0))], PS_one (by omega) p2 (q3.tr p3) (by rw [p4, q4]; rfl) (by rw [p5, q5]) (by decide) (Gd_let _ (by unfold qw; rw [if_neg (by decide)]; omega)) (Vl_one (by decide) (by omega) (fun _ => c1)) (F_le c1), trivial⟩)⟩
    rw [if_pos c1, if_neg (nI_ne_m1 (by omega)), rI_40 w, bsome, q1, bsome, RX_out q2, bsome, p1, bsome]
  · rw [if_neg c1, if_pos rfl, hx_dg B, bsome]
    by_cases c2 : isD (h a0) = true
    · rw [c2, if_neg (by decide)]
      obtain ⟨m1, q1, q2, q3⟩ := s_rdnum pr B rx hk c2
      refine ⟨m1, by rw [q1, bsome], ?_⟩
      rcases q3 with ⟨g1, g2⟩ | ⟨g1, g0, g2, g3, g4⟩
      · exact Or.inl ⟨_, g2, q2, F_dgE c2 g1⟩
      · have b0 := nvl_b h 6 a0 0
        have le6 := ndg_le h 6 a0
        have b1 : 10 ^ ndg h 6 a0 ≤ 10 ^ 5 := Nat.pow_le_pow_right (by decide) (by omega)
        refine Or.inr (Or.inr ⟨a0 + ndg h 6 a0, _, _, PS_one (by omega) g2 q2 g3 g4 (by decide) (Gd_num _ (by unfold qw; rw [if_neg (by decide)]; omega)) (Vl_one (by decide) (by omega) (fun q => absurd q (by decide))) (F_dg c2 g1), trivial⟩)
    · have c2 : isD (h a0) = false := Bool.eq_false_iff.mpr c2
      rw [c2, if_pos (by decide)]
      have i91 := hxi B 91 91 rfl (by decide) (by decide) (at_ := a0)
      by_cases c3 : h a0 = 91
      · rw [if_pos (i91.mpr c3)]
        by_cases c4 : o < 6
        · rw [if_pos (lt6 c4)]
          obtain ⟨m1, q1, q2, q3, q4, q5⟩ := s_adv pr B rx (hx_lt B (by omega))
          obtain ⟨m2, p1, p2⟩ := C3 c4 (a0 + 1) k0 m1 q2 (by omega)
          rw [rI_40 w, bsome, q1, bsome, nI_1, p1, bsome]
          rcases p2 with ⟨z, f1, f2, f3⟩ | ⟨f0, -⟩ | ⟨a1, xs, ms, f1, f2⟩
          · obtain ⟨m3, t1, t2, t3⟩ := s_takeF pr f1 93 (by decide)
            exact ⟨m3, by rw [t1, bsome], Or.inl ⟨z, t2, q3.tr (f2.tr t3), F_br_in c4 c3 f3⟩⟩
          · exact absurd f0 (by decide)
          · have f1' := f1
            obtain ⟨i1, i2, i3, i4, i5, i6, i7, i8, i9, i10⟩ := f1
            rcases s_take pr B i3 93 93 rfl (by decide) (by decide) with ⟨e1, e2, e3, e4⟩ | ⟨e1, m3, e2, e3, e4⟩
            · refine ⟨_, by rw [e2, bsome], Or.inr (Or.inr ⟨a1 + 1, xs, ms, ⟨by omega, by omega, e3, ?_, ?_, q3.tr (i6.tr e4), ?_, i8, i9, F_br_ok c4 c3 i10 f2 e1⟩, trivial⟩)⟩
              · rw [gI_sI_ne (isPr_ne pr).2.1, gI_sI_ne (isPr_ne pr).2.2.1]; exact i4
              · intro j hj
                rw [gI_sI_ne (isPr_ne pr).2.1, gI_sI_ne (isPr_ne pr).2.2.1, ← q4, ← q5]; exact i5 j hj
              · have i7 : Gd false xs ms (qw 3 (o + 1)) := i7
                show Gd false xs ms (qw 5 o)
                refine i7.mono ?_
                unfold qw; rw [if_neg (by decide), if_neg (by decide)]; omega
            · exact ⟨m3, by rw [e2, bsome], Or.inl ⟨_, e3, q3.tr (i6.tr e4), F_br_cl c4 c3 i10 f2 e1⟩⟩
        · have : o = 6 := by omega
          subst this
          obtain ⟨m3, t1, t2, t3⟩ := s_fail pr B rx 5 (by decide) (by decide) 5 rfl
          exact ⟨m3, by rw [if_neg (nlt6 rfl), t1, bsome], Or.inl ⟨_, t2, t3, F_brE c3⟩⟩
      · obtain ⟨m3, t1, t2, t3⟩ := s_fail pr B rx 1 (by decide) (by decide) 1 rfl
        exact ⟨m3, by rw [if_neg (fun q => c3 (i91.mp q)), t1, bsome], Or.inl ⟨_, t2, t3, F_E c3 c2 c1⟩⟩
end
