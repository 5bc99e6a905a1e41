/-! LAYER 2: a clause and a text are read -/
section
variable {a : Nat} {h : Nat → Nat} {n at_ k z : Nat} {μ μ' : MM}
theorem Pps_g7 (pr : isPr a) (s : Sm (Pps a) μ μ') : gI μ' a 7 = gI μ a 7 := (s.2.2 a 7 (Pps_o pr (Or.inl ⟨rfl, rfl⟩))).1
theorem Pps_g4 (pr : isPr a) (s : Sm (Pps a) μ μ') : gI μ' (a + 4) = gI μ (a + 4) := s.gI _ (fun _ => Pps_o pr (Or.inr (Or.inl rfl)))
theorem Pps_g5 (pr : isPr a) (s : Sm (Pps a) μ μ') : gI μ' (a + 5) = gI μ (a + 5) := s.gI _ (fun _ => Pps_o pr (Or.inr (Or.inr (Or.inl rfl))))
theorem Pps_g6 (pr : isPr a) (s : Sm (Pps a) μ μ') : gI μ' (a + 6) = gI μ (a + 6) := s.gI _ (fun _ => Pps_o pr (Or.inr (Or.inr (Or.inr rfl))))
theorem cl_p (s : Sm (Pps a) μ μ') : Sm (Pcl a) μ μ' := s.mono Pcl_Pps
theorem cl_q (s : Sm (Pcq a) μ μ') : Sm (Pcl a) μ μ' := s.mono Pcl_Pcq
theorem tailF3 (f : FZ a z μ) (pr : isPr a) {c : Nat} (hc : c < 14) (g7 : gI μ a 7 = nI c) : ∃ μ', ((rR μ 40 6 1).bind fun y81 => (f_Pr_close y81 μ).bind fun μ84 => some μ84) = some μ' ∧ FZ a z μ' ∧ Sm (Pcl a) μ μ' := by
  obtain ⟨w, r1, r4, h0, h1, k, k1, k2⟩ := f
  obtain ⟨m, q1, q2, -⟩ := s_close pr w hc g7 k2
  exact ⟨m, by rw [(rR_40 w).trans r1, bsome, q1, bsome], FZ.cq ⟨w, r1, r4, h0, h1, k, k1, k2⟩ pr q2, cl_q q2⟩
theorem tailF2 (f : FZ a z μ) (pr : isPr a) {c : Nat} (hc : c < 14) (g7 : gI μ a 7 = nI c) : ∃ μ', ((f_Re_take 40 (41 : Int32) μ).bind fun μ77 => (rR μ77 40 6 1).bind fun y81 => (f_Pr_close y81 μ77).bind fun μ84 => some μ84) = some μ' ∧ FZ a z μ' ∧ Sm (Pcl a) μ μ' := by
  obtain ⟨m, q1, q2, q3⟩ := s_takeF pr f 41 (by decide)
  obtain ⟨m2, p1, p2, p3⟩ := tailF3 q2 pr hc (by rw [Pps_g7 pr q3]; exact g7)
  exact ⟨m2, by rw [q1, bsome]; exact p1, p2, (cl_p q3).tr p3⟩
theorem tailF1 (f : FZ a z μ) (pr : isPr a) {c : Nat} (hc : c < 14) (g7 : gI μ a 7 = nI c) : ∃ μ', ((f_Re_rec 120 0 40 (1 : Int32) μ).bind fun μ71 => (f_Re_take 40 (41 : Int32) μ71).bind fun μ77 => (rR μ77 40 6 1).bind fun y81 => (f_Pr_close y81 μ77).bind fun μ84 => some μ84) = some μ' ∧ FZ a z μ' ∧ Sm (Pcl a) μ μ' := by
  obtain ⟨m, q1, q2, q3⟩ := CFall pr 0 (by decide) 120 (by decide) 1 z μ f
  obtain ⟨m2, p1, p2, p3⟩ := tailF2 q2 pr hc (by rw [Pps_g7 pr q3]; exact g7)
  exact ⟨m2, by rw [q1, bsome]; exact p1, p2, (cl_p q3).tr p3⟩
theorem s_clause (pr : isPr a) (B : HB h n) (rx : RX a h n at_ k μ) {c : Nat} (hc : c ≤ 14) (g7 : gI μ a 7 = nI c) : ∃ μ', f_Re_clause 40 (nI c) μ = some μ' ∧ Sm (Pcl a) μ μ' ∧ ((∃ z, FZ a z μ' ∧ CEr h c at_ z) ∨ ∃ b e, at_ < b ∧ RX a h n b (k + (tXe e).length + (tXc e).length) μ' ∧ COk h c at_ b e ∧ CLg e ∧ HX (gI μ' (a + 1)) (gI μ' (a + 2)) k (tXe e) ∧ HX (gI μ' (a + 1)) (gI μ' (a + 2)) (k + (tXe e).length) (tXc e) ∧ BL a k μ μ' ∧ gI μ' a 7 = nI (c + 1) ∧ gI μ' (a + 4) = upd (gI μ (a + 4)) c (nI (tW e)) ∧ gI μ' (a + 5) = upd (upd (gI μ (a + 5)) c (nI k)) (c + 1) (nI (k + (tXe e).length + (tXc e).length)) ∧ gI μ' (a + 6) = upd (gI μ (a + 6)) c (nI (k + (tXe e).length))) := by
  have w := rx.1
  have b0 := B.1
  obtain ⟨n1, n2, n3, n4⟩ := isPr_ne pr
  unfold f_Re_clause
  rw [kO_40 w, bsome, s_here rx B, bsome, hx_ixW B, bsome]
  by_cases c1 : wix (h at_) < 5
  · rw [if_pos c1, if_neg (nI_ne_m1 (by omega))]
    by_cases c2 : c = 14
    · subst c2
      obtain ⟨m3, t1, t2, t3⟩ := s_fail pr B rx 4 (by decide) (by decide) 4 rfl
      exact ⟨m3, by rw [if_pos (show nI 14 = (14 : Int32) from rfl), t1, bsome], cl_p t3, Or.inl ⟨_, t2, Or.inr (Or.inl ⟨c1, rfl, rfl⟩)⟩⟩
    · have c3 : c < 14 := by omega
      rw [if_neg (show ¬ nI c = (14 : Int32) by rw [show (14 : Int32) = nI 14 from rfl, ceq (by omega) (by omega)]; exact c2)]
      have n0 : ¬ h at_ = 0 := fun q => by rw [q] at c1; exact absurd c1 (by decide)
      obtain ⟨m1, q1, q2, q3, q4, q5⟩ := s_adv pr B rx (hx_lt B n0)
      have g71 : gI m1 a 7 = nI c := by rw [Pps_g7 pr q3]; exact g7
      obtain ⟨m2, o1, o2, o3, o4, o5, o6⟩ := s_popen pr q2.1 c3 g71 q2.2.2.2.2.2.1 (nI (wix (h at_)))
      have rx2 := q2.cq pr o2
      have g72 : gI m2 a 7 = nI c := by rw [o6]; exact g71
      obtain ⟨m3, t1, t2⟩ := Ctrs pr B 120 3 0 (by decide) (by decide) (by decide) (at_ + 1) k m2 rx2 (by have := rx.2.2.2.2.2.2.2.1; omega)
      have t1 : f_Re_rec 120 3 40 (0 : Int32) m2 = some m3 := t1
      rw [rI_40 w, bsome, q1, bsome, RX_out q2, bsome, o1, bsome, t1, bsome]
      rcases t2 with ⟨x, f1, f2, f3⟩ | ⟨f0, -⟩ | ⟨b1, xe, me, f1, f2⟩
      · have g73 : gI m3 a 7 = nI c := by rw [Pps_g7 pr f2]; exact g72
        obtain ⟨kk, kk1, kk2⟩ := f1.2.2.2.2.2
        obtain ⟨m4, d1, d2, -, -, -, d6⟩ := s_divide pr f1.1 c3 g73 kk2
        have f4 := f1.cq pr d2
        obtain ⟨m5, u1, u2, u3⟩ := s_takeF pr f4 40 (by decide)
        obtain ⟨m6, v1, v2, v3⟩ := tailF1 u2 pr c3 (by rw [Pps_g7 pr u3, d6]; exact g73)
        exact ⟨m6, by rw [FZ_out f1, bsome, d1, bsome, u1, bsome]; exact v1, (cl_p q3).tr ((cl_q o2).tr ((cl_p f2).tr ((cl_q d2).tr ((cl_p u3).tr v3)))), Or.inl ⟨x, v2, Or.inr (Or.inr ⟨c1, c3, Or.inl (E_err f3)⟩)⟩⟩
      · exact absurd f0 (by decide)
      · obtain ⟨i1, i2, i3, i4, i5, i6, i7, i8, i9, i10⟩ := f1
        have g73 : gI m3 a 7 = nI c := by rw [Pps_g7 pr i6]; exact g72
        obtain ⟨m4, d1, d2, d3, d4, d5, d6⟩ := s_divide pr i3.1 c3 g73 i3.2.2.2.2.2.1
        have rx4 := i3.cq pr d2
        have g74 : gI m4 a 7 = nI c := by rw [d6]; exact g73
        have s04 : Sm (Pcl a) μ m4 := (cl_p q3).tr ((cl_q o2).tr ((cl_p i6).tr (cl_q d2)))
        rw [RX_out i3, bsome, d1, bsome]
        rcases s_take pr B rx4 40 40 rfl (by decide) (by decide) with ⟨e1, e2, e3, e4⟩ | ⟨e1, m5, e2, e3, e4⟩
        · obtain ⟨m5, hm5⟩ : ∃ y, y = sI m4 40 3 (nI (b1 + 1)) := ⟨_, rfl⟩
          have h51 : gI m5 (a + 1) = gI m4 (a + 1) := by rw [hm5, gI_sI_ne n2]
          have h52 : gI m5 (a + 2) = gI m4 (a + 2) := by rw [hm5, gI_sI_ne n3]
          rw [← hm5] at e2 e3 e4
          have Een : ∀ cm, rch h (0, at_ + 1, [], cm) (6, b1, [], cm ++ me) := fun cm => by
            have := E_end i10 f2 cm
            rw [if_neg (show ¬ h b1 = 93 by omega)] at this
            exact this
          have g75 : gI m5 a 7 = nI c := by rw [Pps_g7 pr e4]; exact g74
          obtain ⟨m6, v1, v2⟩ := Ctrs pr B 120 0 1 (by decide) (by decide) (by decide) (b1 + 1) (k + xe.length) m5 e3 (by have := rx.2.2.2.2.2.2.2.1; omega)
          have v1 : f_Re_rec 120 0 40 (1 : Int32) m5 = some m6 := v1
          rw [e2, bsome, v1, bsome]
          rcases v2 with ⟨x, f1, f2', f3⟩ | ⟨-, a2, k2, f1, f2', f3, f4, f5⟩ | ⟨b2, xc, mc, f1, f2'⟩
          · obtain ⟨m7, y1, y2, y3⟩ := tailF2 f1 pr c3 (by rw [Pps_g7 pr f2']; exact g75)
            exact ⟨m7, y1, s04.tr ((cl_p e4).tr ((cl_p f2').tr y3)), Or.inl ⟨x, y2, Or.inr (Or.inr ⟨c1, c3, Or.inr ⟨b1, me, Een, Or.inr ⟨e1, C_err f3⟩⟩⟩)⟩⟩
          · rcases s_take pr B f1 41 41 rfl (by decide) (by decide) with ⟨j1, -⟩ | ⟨j1, m7, j2, j3, j4⟩
            · omega
            · obtain ⟨m8, y1, y2, y3⟩ := tailF3 j3 pr c3 (by rw [Pps_g7 pr j4, Pps_g7 pr f2']; exact g75)
              exact ⟨m8, by rw [j2, bsome]; exact y1, s04.tr ((cl_p e4).tr ((cl_p f2').tr ((cl_p j4).tr y3))), Or.inl ⟨_, y2, Or.inr (Or.inr ⟨c1, c3, Or.inr ⟨b1, me, Een, Or.inr ⟨e1, C_err f5⟩⟩⟩)⟩⟩
          · obtain ⟨l1, l2, l3, l4, l5, l6, l7, l8, l9, l10⟩ := f1
            rcases s_take pr B l3 41 41 rfl (by decide) (by decide) with ⟨j1, j2, j3, j4⟩ | ⟨j1, m7, j2, j3, j4⟩
            · obtain ⟨m7, hm7⟩ : ∃ y, y = sI m6 40 3 (nI (b2 + 1)) := ⟨_, rfl⟩
              have h71 : gI m7 (a + 1) = gI m6 (a + 1) := by rw [hm7, gI_sI_ne n2]
              have h72 : gI m7 (a + 2) = gI m6 (a + 2) := by rw [hm7, gI_sI_ne n3]
              rw [← hm7] at j2 j3 j4
              have g77 : gI m7 a 7 = nI c := by rw [Pps_g7 pr j4, Pps_g7 pr l6]; exact g75
              obtain ⟨m8, y1, y2, y3, y4, y5, y6⟩ := s_close pr j3.1 c3 g77 j3.2.2.2.2.2.1
              have y21 : gI m8 (a + 1) = gI m7 (a + 1) := y2.gI _ (fun _ => Pcq_o pr (Or.inr (Or.inr (Or.inr (Or.inl rfl)))))
              have y22 : gI m8 (a + 2) = gI m7 (a + 2) := y2.gI _ (fun _ => Pcq_o pr (Or.inr (Or.inr (Or.inr (Or.inr rfl)))))
              have d21 : gI m4 (a + 1) = gI m3 (a + 1) := d2.gI _ (fun _ => Pcq_o pr (Or.inr (Or.inr (Or.inr (Or.inl rfl)))))
              have d22 : gI m4 (a + 2) = gI m3 (a + 2) := d2.gI _ (fun _ => Pcq_o pr (Or.inr (Or.inr (Or.inr (Or.inr rfl)))))
              have o21 : gI m2 (a + 1) = gI m1 (a + 1) := o2.gI _ (fun _ => Pcq_o pr (Or.inr (Or.inr (Or.inr (Or.inl rfl)))))
              have o22 : gI m2 (a + 2) = gI m1 (a + 2) := o2.gI _ (fun _ => Pcq_o pr (Or.inr (Or.inr (Or.inr (Or.inr rfl)))))
              have low : ∀ j, j < k + xe.length → gI m8 (a + 1) j = gI m3 (a + 1) j ∧ gI m8 (a + 2) j = gI m3 (a + 2) j := fun j hj => by
                obtain ⟨z1, z2⟩ := l5 j hj
                exact ⟨by rw [y21, h71, z1, h51, d21], by rw [y22, h72, z2, h52, d22]⟩
              refine ⟨m8, by rw [j2, bsome, RX_out j3, bsome, y1, bsome], s04.tr ((cl_p e4).tr ((cl_p l6).tr ((cl_p j4).tr (cl_q y2)))), Or.inr ⟨b2 + 1, (wix (h at_), xe, me, xc, mc), by omega, j3.cq pr y2, ⟨c1, rfl, c3, b1, Een, e1, fun cm => ?_⟩, ⟨c1, Gd.mono i7 (by decide), Gd.mono l7 (by decide), i8, i9, l8, l9⟩, ?_, ?_, ?_, y6, ?_, ?_, ?_⟩⟩
              · have := C_end l10 f2' cm
                rw [if_pos j1] at this
                exact this
              · exact HX_eq i4 (fun j _ hj => low j hj)
              · show HX _ _ (k + xe.length) xc
                rw [y21, y22, h71, h72]; exact l4
              · intro j hj
                obtain ⟨z1, z2⟩ := low j (by omega)
                obtain ⟨z3, z4⟩ := i5 j hj
                exact ⟨by rw [z1, z3, o21, q4], by rw [z2, z4, o22, q5]⟩
              · rw [y3, Pps_g4 pr j4, Pps_g4 pr l6, Pps_g4 pr e4, d3, Pps_g4 pr i6, o3, Pps_g4 pr q3]; rfl
              · rw [y4, Pps_g5 pr j4, Pps_g5 pr l6, Pps_g5 pr e4, d4, Pps_g5 pr i6, o4, Pps_g5 pr q3]; rfl
              · rw [y5, Pps_g6 pr j4, Pps_g6 pr l6, Pps_g6 pr e4, d5, Pps_g6 pr i6, o5, Pps_g6 pr q3]; rfl
            · obtain ⟨m8, y1, y2, y3⟩ := tailF3 j3 pr c3 (by rw [Pps_g7 pr j4, Pps_g7 pr l6]; exact g75)
              refine ⟨m8, by rw [j2, bsome]; exact y1, s04.tr ((cl_p e4).tr ((cl_p l6).tr ((cl_p j4).tr y3))), Or.inl ⟨_, y2, Or.inr (Or.inr ⟨c1, c3, Or.inr ⟨b1, me, Een, Or.inr ⟨e1, fun cm => ?_⟩⟩⟩)⟩⟩
              have := C_end l10 f2' cm
              rw [if_neg j1] at this
              exact this
        · obtain ⟨m6, v1, v2, v3⟩ := tailF1 e3 pr c3 (by rw [Pps_g7 pr e4]; exact g74)
          refine ⟨m6, by rw [e2, bsome]; exact v1, s04.tr ((cl_p e4).tr v3), Or.inl ⟨_, v2, Or.inr (Or.inr ⟨c1, c3, ?_⟩)⟩⟩
          by_cases e93 : h b1 = 93
          · left
            intro cm
            have := E_end i10 f2 cm
            rw [if_pos e93] at this
            exact this
          · right
            refine ⟨b1, me, fun cm => ?_, Or.inl ⟨e1, rfl⟩⟩
            have := E_end i10 f2 cm
            rw [if_neg e93] at this
            exact this
  · obtain ⟨m3, t1, t2, t3⟩ := s_fail pr B rx 1 (by decide) (by decide) 1 rfl
    exact ⟨m3, by rw [if_neg c1, if_pos rfl, t1, bsome], cl_p t3, Or.inl ⟨_, t2, Or.inl ⟨c1, rfl⟩⟩⟩
end
/-! the whole text -/
def qq (P : Nat → Nat) (j : Nat) : Nat := if j = 0 then 0 else P j + 1
def Pth (h : Nat → Nat) (n : Nat) (t : Nat → CLT) (P : Nat → Nat) (c : Nat) : Prop := (∀ j, j < c → COk h j (qq P j) (P (j + 1)) (t j)) ∧ ∀ j, 0 < j → j < c → P j < n ∧ h (P j) = 59
def PEr (h : Nat → Nat) (n : Nat) (t : Nat → CLT) (P : Nat → Nat) (c z : Nat) : Prop := Pth h n t P c ∧ (((c = 0 ∨ (P c < n ∧ h (P c) = 59)) ∧ CEr h c (qq P c) z) ∨ (0 < c ∧ P c < n ∧ ¬ h (P c) = 59 ∧ z = 1000 * 1 + P c))
def XTa (a : Nat) (t : Nat → CLT) (c : Nat) (μ : MM) : Prop := gI μ a 7 = nI c ∧ gI μ a 6 = nI (posX t c) ∧ posX t c ≤ 200 ∧ c ≤ 14 ∧ ∀ j, j < c → CLg (t j) ∧ gI μ (a + 4) j = nI (tW (t j)) ∧ gI μ (a + 5) j = nI (posX t j) ∧ gI μ (a + 5) (j + 1) = nI (posX t (j + 1)) ∧ gI μ (a + 6) j = nI (posX t j + (tXe (t j)).length) ∧ HX (gI μ (a + 1)) (gI μ (a + 2)) (posX t j) (tXe (t j)) ∧ HX (gI μ (a + 1)) (gI μ (a + 2)) (posX t j + (tXe (t j)).length) (tXc (t j))
def tU (t : Nat → CLT) (c : Nat) (e : CLT) : Nat → CLT := fun j => if j = c then e else t j
def pU (P : Nat → Nat) (c b : Nat) : Nat → Nat := fun j => if j = c then b else P j
theorem tU_o {t : Nat → CLT} {c : Nat} {e : CLT} {j : Nat} (h : j < c) : tU t c e j = t j := by unfold tU; rw [if_neg (by omega)]
theorem tU_s {t : Nat → CLT} {c : Nat} {e : CLT} : tU t c e c = e := if_pos rfl
theorem pU_o {P : Nat → Nat} {c b j : Nat} (h : j < c) : pU P c b j = P j := by unfold pU; rw [if_neg (by omega)]
theorem pU_s {P : Nat → Nat} {c b : Nat} : pU P c b c = b := if_pos rfl
theorem posX_u (t : Nat → CLT) (c : Nat) (e : CLT) : posX (tU t c e) (c + 1) = posX t c + (tXe e).length + (tXc e).length := by
  show posX (tU t c e) c + (tXe (tU t c e c)).length + (tXc (tU t c e c)).length = _
  rw [posX_c c (fun j hj => tU_o hj), tU_s]
section
variable {a : Nat} {h : Nat → Nat} {n : Nat}
theorem XTa_next {t : Nat → CLT} {c at_ b : Nat} {e : CLT} {μ μ' : MM} (B : HB h n) (hx : XTa a t c μ) (hc : c < 14) (rx : RX a h n b (posX t c + (tXe e).length + (tXc e).length) μ') (g : CLg e) (h1 : HX (gI μ' (a + 1)) (gI μ' (a + 2)) (posX t c) (tXe e)) (h2 : HX (gI μ' (a + 1)) (gI μ' (a + 2)) (posX t c + (tXe e).length) (tXc e)) (bl : BL a (posX t c) μ μ') (g7 : gI μ' a 7 = nI (c + 1)) (g4 : gI μ' (a + 4) = upd (gI μ (a + 4)) c (nI (tW e))) (g5 : gI μ' (a + 5) = upd (upd (gI μ (a + 5)) c (nI (posX t c))) (c + 1) (nI (posX t c + (tXe e).length + (tXc e).length))) (g6 : gI μ' (a + 6) = upd (gI μ (a + 6)) c (nI (posX t c + (tXe e).length))) : XTa a (tU t c e) (c + 1) μ' := by
  obtain ⟨x1, x2, x3, x4, x5⟩ := hx
  have b1 := B.1
  have r1 := rx.2.2.2.2.2.2.2
  refine ⟨g7, by rw [posX_u]; exact rx.2.2.2.2.2.1, by rw [posX_u]; omega, by omega, fun j hj => ?_⟩
  rcases Nat.lt_or_ge j c with z | z
  · obtain ⟨y1, y2, y3, y4, y5, y6, y7⟩ := x5 j z
    have e1 : posX (tU t c e) j = posX t j := posX_c j (fun i hi => tU_o (by omega))
    have e2 : posX (tU t c e) (j + 1) = posX t (j + 1) := posX_c (j + 1) (fun i hi => tU_o (by omega))
    have le : posX t (j + 1) ≤ posX t c := posX_m t c (by omega)
    have lj : posX t (j + 1) = posX t j + (tXe (t j)).length + (tXc (t j)).length := rfl
    rw [tU_o z, e1, e2]
    refine ⟨y1, ?_, ?_, ?_, ?_, HX_eq y6 (fun i l1 l2 => bl i (by omega)), HX_eq y7 (fun i l1 l2 => bl i (by omega))⟩
    · rw [g4]; unfold upd; rw [if_neg (by omega)]; exact y2
    · rw [g5]; unfold upd; rw [if_neg (by omega), if_neg (by omega)]; exact y3
    · rw [g5]; unfold upd
      rw [if_neg (by omega)]
      by_cases q : j + 1 = c
      · rw [if_pos q, ← q]
      · rw [if_neg q]; exact y4
    · rw [g6]; unfold upd; rw [if_neg (by omega)]; exact y5
  · have : j = c := by omega
    subst this
    have e1 : posX (tU t j e) j = posX t j := posX_c j (fun i hi => tU_o (by omega))
    rw [tU_s, e1, posX_u]
    refine ⟨g, ?_, ?_, ?_, ?_, h1, h2⟩
    · rw [g4]; unfold upd; rw [if_pos rfl]
    · rw [g5]; unfold upd; rw [if_neg (by omega), if_pos rfl]
    · rw [g5]; unfold upd; rw [if_pos rfl]
    · rw [g6]; unfold upd; rw [if_pos rfl]
theorem Pth_next {t : Nat → CLT} {P : Nat → Nat} {c b : Nat} {e : CLT} (p : Pth h n t P c) (g : c = 0 ∨ (P c < n ∧ h (P c) = 59)) (k : COk h c (qq P c) b e) : Pth h n (tU t c e) (pU P (c + 1) b) (c + 1) := by
  have q : ∀ j, j ≤ c → qq (pU P (c + 1) b) j = qq P j := fun j hj => by unfold qq; rw [pU_o (by omega)]
  refine ⟨fun j hj => ?_, fun j h0 hj => ?_⟩
  · rw [q j (by omega)]
    rcases Nat.lt_or_ge j c with z | z
    · rw [tU_o z, pU_o (show j + 1 < c + 1 by omega)]; exact p.1 j z
    · have : j = c := by omega
      subst this
      rw [tU_s, pU_s]; exact k
  · rw [pU_o hj]
    rcases Nat.lt_or_ge j c with z | z
    · exact p.2 j h0 z
    · have : j = c := by omega
      subst this
      exact g.resolve_left (by omega)
def REnd (a : Nat) (h : Nat → Nat) (n : Nat) (y : Int32) (μ' : MM) : Prop := (∃ c t P z, y = nI z ∧ FZ a z μ' ∧ PEr h n t P c z) ∨ ∃ c t P, y = 0 ∧ 0 < c ∧ Pth h n t P c ∧ n ≤ P c ∧ XTa a t c μ' ∧ Wf μ' ∧ gR μ' 40 1 = some a
theorem readL (pr : isPr a) (B : HB h n) : ∀ (r m c : Nat) (t : Nat → CLT) (P : Nat → Nat) (μ : MM), 15 - c ≤ r → r < m → 0 < c → c ≤ 14 → RX a h n (P c) (posX t c) μ → XTa a t c μ → Pth h n t P c → ∃ y μ', f_Re_read_L54 40 m (nI c) μ = some (y, μ') ∧ Sm (Pcl a) μ μ' ∧ REnd a h n y μ' := by
  intro r
  induction r with
  | zero => intro m c t P μ hr; omega
  | succ r ih =>
    intro m c t P μ hr hm c0 c14' rx xt pt
    obtain ⟨m, rfl⟩ : ∃ j, m = j + 1 := ⟨m - 1, by omega⟩
    have w := rx.1
    have b1 := B.1
    have ple := RX_le rx
    have pre : f_Re_read_L54 40 (m + 1) (nI c) μ = if n ≤ P c then f_Re_read_J95 40 μ else ((f_Re_take 40 (59 : Int32) μ).bind fun μ81 => (f_Re_clause 40 (nI c) μ81).bind fun μ86 => f_Re_read_L54 40 m (nI c + (1 : Int32)) μ86) := by
      rw [e_Re_read_L54, if_neg (show ¬ (14 : Int32) < nI c from nI_nlt (a := 14) (by omega) (by omega)), rI_40 w, bsome, rx.2.2.2.2.1, if_pos rfl, rI_40 w, bsome, rx.2.2.2.1, rI_40 w, bsome, rx.2.2.1]
      by_cases e : n ≤ P c
      · rw [if_pos e, if_pos (by rw [cle (by omega) (by omega)]; exact e)]
      · rw [if_neg e, if_neg (by rw [cle (by omega) (by omega)]; exact e)]
    rw [pre]
    by_cases e : n ≤ P c
    · rw [if_pos e]
      refine ⟨0, μ, ?_, Sm.rf, Or.inr ⟨c, t, P, rfl, c0, pt, e, xt, w, rx.2.1⟩⟩
      unfold f_Re_read_J95
      rw [rI_40 w, bsome, rx.2.2.2.2.1]
    · rw [if_neg e]
      have jF : ∀ (z : Nat) (m1 : MM) (x : Nat), FZ a z m1 → 0 < m → f_Re_read_L54 40 m (nI x + (1 : Int32)) m1 = some (nI z, m1) := fun z m1 x f hm0 => by
        obtain ⟨m, rfl⟩ : ∃ j, m = j + 1 := ⟨m - 1, by omega⟩
        rw [e_Re_read_L54]
        unfold f_Re_read_J95
        have := f.2.2.1
        by_cases g : (14 : Int32) < nI x + (1 : Int32)
        · rw [if_pos g, rI_40 f.1, bsome, this]
        · rw [if_neg g, rI_40 f.1, bsome, this, if_neg (nI_n0 f.2.2.2.1 (by have := f.2.2.2.2.1; omega)), bsome]
      rcases s_take pr B rx 59 59 rfl (by decide) (by decide) with ⟨e1, e2, e3, e4⟩ | ⟨e1, m1, e2, e3, e4⟩
      · obtain ⟨m1, hm1⟩ : ∃ y, y = sI μ 40 3 (nI (P c + 1)) := ⟨_, rfl⟩
        obtain ⟨n1, n2, n3, n4⟩ := isPr_ne pr
        have h11 : gI m1 (a + 1) = gI μ (a + 1) := by rw [hm1, gI_sI_ne n2]
        have h12 : gI m1 (a + 2) = gI μ (a + 2) := by rw [hm1, gI_sI_ne n3]
        rw [← hm1] at e2 e3 e4
        have hq : qq P c = P c + 1 := if_neg (by omega)
        obtain ⟨m2, u1, u2, u3⟩ := s_clause pr B e3 (c := c) (by omega) (by rw [Pps_g7 pr e4]; exact xt.1)
        rw [e2, bsome, u1, bsome]
        rcases u3 with ⟨z, f1, f2⟩ | ⟨b, ee, f1, f2, f3, f4, f5, f6, f7, f8, f9, f10, f11⟩
        · refine ⟨nI z, m2, jF z m2 c f1 (by omega), (cl_p e4).tr u2, Or.inl ⟨c, t, P, z, rfl, f1, pt, Or.inl ⟨Or.inr ⟨by omega, e1⟩, by rw [hq]; exact f2⟩⟩⟩
        · have c13 : c < 14 := f3.2.2.1
          have bl : BL a (posX t c) μ m2 := fun j hj => by
            obtain ⟨z1, z2⟩ := f7 j hj
            exact ⟨by rw [z1, h11], by rw [z2, h12]⟩
          have xt2 := XTa_next (at_ := P c) B xt c13 f2 f4 f5 f6 bl f8 (by rw [f9, Pps_g4 pr e4]) (by rw [f10, Pps_g5 pr e4]) (by rw [f11, Pps_g6 pr e4])
          have pt2 := Pth_next pt (Or.inr ⟨by omega, e1⟩) (by rw [hq]; exact f3)
          obtain ⟨y, m3, v1, v2, v3⟩ := ih m (c + 1) (tU t c ee) (pU P (c + 1) b) m2 (by omega) (by omega) (by omega) (by omega) (by rw [pU_s, posX_u]; exact f2) xt2 pt2
          exact ⟨y, m3, by rw [nI_1, v1], (cl_p e4).tr (u2.tr v2), v3⟩
      · obtain ⟨m2, u1, u2, u3⟩ := clauseF e3 pr (nI c)
        refine ⟨nI _, m2, by rw [e2, bsome, u1, bsome]; exact jF _ m2 c u2 (by omega), (cl_p e4).tr (cl_p u3), Or.inl ⟨c, t, P, _, rfl, u2, pt, Or.inr ⟨c0, by omega, e1, rfl⟩⟩⟩
def Prr (a x k : Nat) : Bool := Pcl a x k || ((x == 40 && k == 2) || x == 41)
theorem Prr_Pcl (x k : Nat) (h : Prr a x k = false) : Pcl a x k = false := (Bool.or_eq_false_iff.mp h).1
theorem cpN {μ : MM} {b c nb nc' k : Nat} (hb : μ.1[b]? = some (1, nb)) (hc : μ.1[c]? = some (1, nc')) (h1 : k ≤ nb) (h2 : k ≤ nc') (h3 : nb < 2 ^ 31) : cpI μ b 0 c 0 (nI k) = some (sF μ c (va_cpy (gI μ b) (gI μ c) 0 0 k)) := by
  unfold cpI
  rw [hb, hc]
  show (if _ then _ else _) = _
  have z : (0 : Int32).toNatClampNeg = 0 := by decide
  rw [if_neg, nI_clamp (by omega), z]
  rw [nI_clamp (by omega), z]
  intro q
  rcases q with q | q | q | q | q
  · exact absurd q (by decide)
  · exact absurd q (by decide)
  · exact nI_pos (by omega) q
  · omega
  · omega
theorem s_read (pr : isPr a) (B : HB h n) (n0 : 0 < n) {μ : MM} (w : Wf μ) (ga : gR μ 40 1 = some a) (gb : ∀ j, j < n → gI μ 39 j = nI (h j)) : ∃ y μ', f_Re_read 40 39 (nI n) μ = some (y, μ') ∧ Sm (Prr a) μ μ' ∧ REnd a h n y μ' := by
  have b1 := B.1
  obtain ⟨k1, k2, k3, k4⟩ := isPr_ne pr
  obtain ⟨m1, e1⟩ : ∃ x, x = sI μ 40 2 (nI n) := ⟨_, rfl⟩
  obtain ⟨m2, e2⟩ : ∃ x, x = sF m1 41 (va_cpy (gI m1 39) (gI m1 41) 0 0 n) := ⟨_, rfl⟩
  obtain ⟨m3, e3⟩ : ∃ x, x = sI m2 a 6 0 := ⟨_, rfl⟩
  obtain ⟨m4, e4⟩ : ∃ x, x = sI m3 a 7 0 := ⟨_, rfl⟩
  obtain ⟨m5, e5⟩ : ∃ x, x = sI m4 40 3 0 := ⟨_, rfl⟩
  obtain ⟨m6, e6⟩ : ∃ x, x = sI m5 40 4 0 := ⟨_, rfl⟩
  have P1 : Prr a 40 2 = true := by unfold Prr; simp
  have P2 : ∀ k, Prr a 41 k = true := fun k => by unfold Prr; simp
  have P3 : Prr a a 6 = true := by unfold Prr Pcl; rw [Pps_6]; rfl
  have P4 : Prr a a 7 = true := by unfold Prr Pcl; simp
  have P5 : Prr a 40 3 = true := by unfold Prr Pcl; rw [Pps_3]; rfl
  have P6 : Prr a 40 4 = true := by unfold Prr Pcl; rw [Pps_4]; rfl
  have s1 : Sm (Prr a) μ m1 := by rw [e1]; exact Sm.sI P1
  have s2 : Sm (Prr a) μ m2 := by rw [e2]; exact s1.tr (Sm.sF P2)
  have s3 : Sm (Prr a) μ m3 := by rw [e3]; exact s2.tr (Sm.sI P3)
  have s4 : Sm (Prr a) μ m4 := by rw [e4]; exact s3.tr (Sm.sI P4)
  have s5 : Sm (Prr a) μ m5 := by rw [e5]; exact s4.tr (Sm.sI P5)
  have s6 : Sm (Prr a) μ m6 := by rw [e6]; exact s5.tr (Sm.sI P6)
  have g39 : gI m1 39 = gI μ 39 := by rw [e1, gI_sI_ne (by decide)]
  have g41 : gI m6 41 = va_cpy (gI m1 39) (gI m1 41) 0 0 n := by
    rw [e6, gI_sI_ne (by decide), e5, gI_sI_ne (by decide), e4, gI_sI_ne (by omega), e3, gI_sI_ne (by omega), e2, gI_sF]
  have g402 : gI m6 40 2 = nI n := by
    rw [e6, gI_sI]; unfold upd; rw [if_neg (by decide), e5, gI_sI]; unfold upd
    rw [if_neg (by decide), e4, gI_sI_ne (by omega), e3, gI_sI_ne (by omega), e2, gI_sF_ne (by decide), e1, gI_sI]; unfold upd; rw [if_pos rfl]
  have g403 : gI m6 40 3 = nI 0 := by
    rw [e6, gI_sI]; unfold upd; rw [if_neg (by decide), e5, gI_sI]; unfold upd; rw [if_pos rfl]; rfl
  have g404 : gI m6 40 4 = 0 := by rw [e6, gI_sI]; unfold upd; rw [if_pos rfl]
  have gA : gI m6 a = gI m4 a := by rw [e6, gI_sI_ne k1, e5, gI_sI_ne k1]
  have gA6 : gI m6 a 6 = nI 0 := by
    rw [gA, e4, gI_sI]; unfold upd; rw [if_neg (by decide), e3, gI_sI]; unfold upd; rw [if_pos rfl]; rfl
  have gA7 : gI m6 a 7 = nI 0 := by rw [gA, e4, gI_sI]; unfold upd; rw [if_pos rfl]; rfl
  have ra : gR m6 40 1 = some a := by rw [s6.gRf 40]; exact ga
  have rx : RX a h n 0 0 m6 := ⟨s6.wf w, ra, g402, g403, g404, gA6, fun j hj => by rw [g41, pk_cpy_in (by omega) (by omega), g39, ← gb j hj]; congr 1; omega, by omega, by omega⟩
  have mn : f_Mt_min (nI 220) (200 : Int32) = some (200 : Int32) := by decide
  have mn2 : f_Mt_min (nI n) (200 : Int32) = some (nI n) := by
    unfold f_Mt_min
    rw [if_neg]
    rw [show (200 : Int32) = nI 200 from rfl, clt (by omega) (by omega)]; omega
  obtain ⟨m7, u1, u2, u3⟩ := s_clause pr B rx (c := 0) (by decide) gA7
  have u1 : f_Re_clause 40 (0 : Int32) m6 = some m7 := u1
  have r2 : rR m2 40 6 1 = some a := by rw [rR_40 (s2.wf w), s2.gRf 40]; exact ga
  have pre : f_Re_read 40 39 (nI n) μ = f_Re_read_L54 40 FU (1 : Int32) m7 := by
    unfold f_Re_read f_Pr_clear
    rw [kO_40 w, bsome, aN_39 w, bsome, mn, bsome, mn2, bsome, pI_40 w, bsome, ← e1, rR_40_0 (s1.wf w), bsome, rI_40 (s1.wf w), bsome]
    rw [show gI m1 40 2 = nI n by rw [e1, gI_sI]; unfold upd; rw [if_pos rfl], cpN ((s1.wf w).k 39 (by decide) rfl) ((s1.wf w).k 41 (by decide) rfl) (by omega) (by omega) (by decide), bsome, ← e2, r2, bsome, pr_kO pr (s2.wf w), bsome, pr_pI pr (s2.wf w), bsome, ← e3, pr_pI pr (s3.wf w), bsome, bsome, ← e4, pI_40 (s4.wf w), bsome, ← e5, pI_40 (s5.wf w), bsome, ← e6, u1, bsome]
  rw [pre]
  have t0 : Pth h n (fun _ => (0, [], [], [], [])) (fun _ => 0) 0 := ⟨fun j hj => absurd hj (by omega), fun j _ hj => absurd hj (by omega)⟩
  have x0 : XTa a (fun _ => (0, [], [], [], [])) 0 m6 := ⟨gA7, gA6, by decide, by decide, fun j hj => absurd hj (by omega)⟩
  rcases u3 with ⟨z, f1, f2⟩ | ⟨b, ee, f1, f2, f3, f4, f5, f6, f7, f8, f9, f10, f11⟩
  · refine ⟨nI z, m7, ?_, s6.tr (u2.mono Prr_Pcl), Or.inl ⟨0, _, _, z, rfl, f1, t0, Or.inl ⟨Or.inl rfl, f2⟩⟩⟩
    rw [FU1, e_Re_read_L54]
    unfold f_Re_read_J95
    rw [if_neg (by decide), rI_40 f1.1, bsome, f1.2.2.1, if_neg (nI_n0 f1.2.2.2.1 (by have := f1.2.2.2.2.1; omega)), bsome]
  · have xt2 := XTa_next (t := fun _ => (0, [], [], [], [])) (at_ := 0) B x0 (by decide) f2 f4 f5 f6 f7 f8 f9 f10 f11
    have pt2 := Pth_next t0 (Or.inl rfl) f3
    obtain ⟨y, m8, v1, v2, v3⟩ := readL pr B 14 FU 1 _ _ m7 (by decide) (by unfold FU; omega) (by decide) (by decide) (by rw [pU_s, posX_u]; exact f2) xt2 pt2
    exact ⟨y, m8, v1, s6.tr ((u2.mono Prr_Pcl).tr (v2.mono Prr_Pcl)), v3⟩
end
