/-! LAYER 2: the reader's parts: what comes of reading one -/
def HX (o g : Nat → Int32) (k : Nat) (xs : CL) : Prop := ∀ j e, xs[j]? = some e → o (k + j) = nI e.1 ∧ g (k + j) = nI (if e.1 = 11 ∨ e.1 = 12 then k + j + 1 + e.2 else e.2)
def Vl (xs : CL) : Prop := ∀ e, e ∈ xs → e.1 < 13 ∧ e.2 < 100000 ∧ (e.1 = 1 → e.2 < 12)
def BL (a k : Nat) (μ μ' : MM) : Prop := ∀ j, j < k → gI μ' (a + 1) j = gI μ (a + 1) j ∧ gI μ' (a + 2) j = gI μ (a + 2) j
theorem HX_eq {o g o' g' : Nat → Int32} {k : Nat} {xs : CL} (h : HX o g k xs) (e : ∀ j, k ≤ j → j < k + xs.length → o' j = o j ∧ g' j = g j) : HX o' g' k xs := fun j y hy => by
  have hj := (List.getElem?_eq_some_iff.mp hy).1
  obtain ⟨e1, e2⟩ := e (k + j) (by omega) (by omega)
  rw [e1, e2]; exact h j y hy
theorem HX_app {o g : Nat → Int32} {k : Nat} {xs ys : CL} (h1 : HX o g k xs) (h2 : HX o g (k + xs.length) ys) : HX o g k (xs ++ ys) := fun j y hy => by
  rcases Nat.lt_or_ge j xs.length with z | z
  · rw [List.getElem?_append_left z] at hy; exact h1 j y hy
  · rw [List.getElem?_append_right z] at hy
    have := h2 _ y hy
    rw [show k + xs.length + (j - xs.length) = k + j by omega] at this
    exact this
theorem HX_one {o g : Nat → Int32} {k op arg : Nat} (h1 : o k = nI op) (h2 : g k = nI (if op = 11 ∨ op = 12 then k + 1 + arg else arg)) : HX o g k [(op, arg)] := fun j y hy => by
  match j, hy with
  | 0, hy => simp at hy; subst hy; exact ⟨h1, h2⟩
  | j + 1, hy => simp at hy
theorem Vl_app {xs ys : CL} (h1 : Vl xs) (h2 : Vl ys) : Vl (xs ++ ys) := fun e he => by
  rcases List.mem_append.mp he with q | q
  · exact h1 e q
  · exact h2 e q
theorem Vl_one {op arg : Nat} (h1 : op < 13) (h2 : arg < 100000) (h3 : op = 1 → arg < 12) : Vl [(op, arg)] := fun e he => by
  have : e = (op, arg) := List.mem_singleton.mp he
  subst this; exact ⟨h1, h2, h3⟩
theorem BL.rf {a k : Nat} {μ : MM} : BL a k μ μ := fun _ _ => ⟨rfl, rfl⟩
theorem BL.tr {a k k' : Nat} {μ μ1 μ2 : MM} (h1 : BL a k μ μ1) (h2 : BL a k' μ1 μ2) (hk : k ≤ k') : BL a k μ μ2 := fun j hj => by
  obtain ⟨x1, x2⟩ := h1 j hj
  obtain ⟨y1, y2⟩ := h2 j (by omega)
  exact ⟨y1.trans x1, y2.trans x2⟩
def qw (w o : Nat) : Nat := 2 * (6 - o) + (if w ≤ 2 then 4 else 6 - w)
def PS (a : Nat) (h : Nat → Nat) (n w o a0 k0 : Nat) (μ0 : MM) (a1 : Nat) (xs ms : CL) (μ1 : MM) : Prop := a0 < a1 ∧ xs.length + a0 ≤ a1 ∧ RX a h n a1 (k0 + xs.length) μ1 ∧ HX (gI μ1 (a + 1)) (gI μ1 (a + 2)) k0 xs ∧ BL a k0 μ0 μ1 ∧ Sm (Pps a) μ0 μ1 ∧ Gd (decide (w ≤ 2)) xs ms (qw w o) ∧ Vl xs ∧ Vl ms ∧ AOk h w o a0 a1 ms
def OC (a : Nat) (h : Nat → Nat) (n w o a0 k0 : Nat) (μ0 μ' : MM) : Prop := (∃ z, FZ a z μ' ∧ Sm (Pps a) μ0 μ' ∧ AEr h w o a0 z) ∨ (w ≤ 2 ∧ ∃ a1 k1, RX a h n a1 k1 μ' ∧ Sm (Pps a) μ0 μ' ∧ h a1 = 93 ∧ k1 + a0 ≤ a1 + k0 ∧ AEr h w o a0 (1000 * 1 + a1)) ∨ ∃ a1 xs ms, PS a h n w o a0 k0 μ0 a1 xs ms μ' ∧ enc w (h a1)
def Ctr (a : Nat) (h : Nat → Nat) (n d w o : Nat) : Prop := ∀ a0 k0 μ0, RX a h n a0 k0 μ0 → k0 < a0 → ∃ μ', f_Re_rec d w 40 (nI o) μ0 = some μ' ∧ OC a h n w o a0 k0 μ0 μ'
def CF (a d w : Nat) : Prop := ∀ (x : Int32) z μ, FZ a z μ → ∃ μ', f_Re_rec d w 40 x μ = some μ' ∧ FZ a z μ' ∧ Sm (Pps a) μ μ'
theorem RX_out {a : Nat} {h : Nat → Nat} {n at_ k : Nat} {μ : MM} (r : RX a h n at_ k μ) : rR μ 40 6 1 = some a := (rR_40 r.1).trans r.2.1
theorem FZ_out {a z : Nat} {μ : MM} (r : FZ a z μ) : rR μ 40 6 1 = some a := (rR_40 r.1).trans r.2.1
theorem FU1 : FU = 999999999 + 1 := rfl
/-! behind a fault -/
section
variable {a d z : Nat} {μ : MM}
theorem CF5 (pr : isPr a) : CF a (d + 1) 5 := fun x z μ f => by
  obtain ⟨μ', q1, q2, q3⟩ := s_failF f pr 1
  refine ⟨μ', ?_, q2, q3⟩
  show f_Re_factor (f_Re_rec d) 40 x μ = _
  unfold f_Re_factor
  rw [kO_40 f.1, bsome, s_hereF f, bsome, ixLm, bsome, if_pos rfl, dgM, bsome, if_pos rfl, if_neg (by decide), q1, bsome]
theorem prodF (f : FZ a z μ) (rc : Nat → Nat → Int32 → MM → Option MM) (x x2 : Int32) (n : Nat) : f_Re_product_L7 rc 40 x (n + 1) x2 μ = some μ := by
  rw [e_Re_product_L7]
  by_cases c : (200 : Int32) ≤ x2
  · rw [if_pos c]
  · rw [if_neg c, s_hereF f, bsome, if_neg (by decide), bsome, if_neg (by decide), bsome, if_neg (by decide)]
theorem sumF (f : FZ a z μ) (rc : Nat → Nat → Int32 → MM → Option MM) (x x2 : Int32) (n : Nat) : f_Re_sum_L7 rc 40 x (n + 1) x2 μ = some μ := by
  rw [e_Re_sum_L7]
  by_cases c : (200 : Int32) ≤ x2
  · rw [if_pos c]
  · rw [if_neg c, s_hereF f, bsome, if_neg (by decide), bsome, if_neg (by decide)]
theorem allF (f : FZ a z μ) (rc : Nat → Nat → Int32 → MM → Option MM) (x x2 : Int32) (n : Nat) : f_Re_all_L7 rc 40 x (n + 1) x2 μ = some μ := by
  rw [e_Re_all_L7]
  by_cases c : (200 : Int32) ≤ x2
  · rw [if_pos c]
  · rw [if_neg c, s_hereF f, bsome, if_neg (by decide)]
theorem eitherF (f : FZ a z μ) (rc : Nat → Nat → Int32 → MM → Option MM) (x x2 : Int32) (n : Nat) : f_Re_either_L7 rc 40 x (n + 1) x2 μ = some μ := by
  rw [e_Re_either_L7]
  by_cases c : (200 : Int32) ≤ x2
  · rw [if_pos c]
  · rw [if_neg c, s_hereF f, bsome, if_neg (by decide)]
theorem CF4 (h5 : CF a d 5) : CF a (d + 1) 4 := fun x z μ f => by
  obtain ⟨μ', q1, q2, q3⟩ := h5 x z μ f
  refine ⟨μ', ?_, q2, q3⟩
  show f_Re_product (f_Re_rec d) 40 x μ = _
  unfold f_Re_product
  rw [kO_40 f.1, bsome, q1, bsome, FU1, prodF q2]
theorem CF3 (h4 : CF a d 4) : CF a (d + 1) 3 := fun x z μ f => by
  obtain ⟨μ', q1, q2, q3⟩ := h4 x z μ f
  refine ⟨μ', ?_, q2, q3⟩
  show f_Re_sum (f_Re_rec d) 40 x μ = _
  unfold f_Re_sum
  rw [kO_40 f.1, bsome, q1, bsome, FU1, sumF q2]
theorem cmpF (pr : isPr a) (f : FZ a z μ) : ∃ μ', f_Re_comparison 40 μ = some (9, μ') ∧ FZ a z μ' ∧ Sm (Pps a) μ μ' := by
  obtain ⟨μ', q1, q2, q3⟩ := s_failF f pr 1
  refine ⟨μ', ?_, q2, q3⟩
  unfold f_Re_comparison
  rw [kO_40 f.1, bsome, s_hereF f, bsome, if_neg (by decide), if_neg (by decide), if_neg (by decide), q1, bsome]
theorem CF2 (pr : isPr a) (h3 : CF a d 3) : CF a (d + 1) 2 := fun x z μ f => by
  obtain ⟨m1, q1, f1, s1⟩ := h3 x z μ f
  obtain ⟨m2, q2, f2, s2⟩ := cmpF pr f1
  obtain ⟨m3, q3, f3, s3⟩ := h3 x z m2 f2
  obtain ⟨y, m4, q4, f4, s4⟩ := s_paddF pr f3 9 0
  refine ⟨m4, ?_, f4, s1.tr (s2.tr (s3.tr s4))⟩
  show f_Re_piece (f_Re_rec d) 40 x μ = _
  unfold f_Re_piece
  rw [kO_40 f.1, bsome, s_hereF f, bsome, if_neg (by decide), if_neg (by decide), q1, bsome, q2, bsome, q3, bsome, FZ_out f3, bsome, q4, bsome]
theorem CF1 (h2 : CF a d 2) : CF a (d + 1) 1 := fun x z μ f => by
  obtain ⟨μ', q1, q2, q3⟩ := h2 x z μ f
  refine ⟨μ', ?_, q2, q3⟩
  show f_Re_all (f_Re_rec d) 40 x μ = _
  unfold f_Re_all
  rw [kO_40 f.1, bsome, q1, bsome, FU1, allF q2]
theorem CF0 (h1 : CF a d 1) : CF a (d + 1) 0 := fun x z μ f => by
  obtain ⟨μ', q1, q2, q3⟩ := h1 x z μ f
  refine ⟨μ', ?_, q2, q3⟩
  show f_Re_either (f_Re_rec d) 40 x μ = _
  unfold f_Re_either
  rw [kO_40 f.1, bsome, q1, bsome, FU1, eitherF q2]
theorem CFall (pr : isPr a) : ∀ w, w ≤ 5 → ∀ d, 6 ≤ d + w → CF a d w := by
  have c5 : ∀ d, 1 ≤ d → CF a d 5 := fun d hd => by obtain ⟨e, rfl⟩ : ∃ e, d = e + 1 := ⟨d - 1, by omega⟩; exact CF5 pr
  have c4 : ∀ d, 2 ≤ d → CF a d 4 := fun d hd => by obtain ⟨e, rfl⟩ : ∃ e, d = e + 1 := ⟨d - 1, by omega⟩; exact CF4 (c5 e (by omega))
  have c3 : ∀ d, 3 ≤ d → CF a d 3 := fun d hd => by obtain ⟨e, rfl⟩ : ∃ e, d = e + 1 := ⟨d - 1, by omega⟩; exact CF3 (c4 e (by omega))
  have c2 : ∀ d, 4 ≤ d → CF a d 2 := fun d hd => by obtain ⟨e, rfl⟩ : ∃ e, d = e + 1 := ⟨d - 1, by omega⟩; exact CF2 pr (c3 e (by omega))
  have c1 : ∀ d, 5 ≤ d → CF a d 1 := fun d hd => by obtain ⟨e, rfl⟩ : ∃ e, d = e + 1 := ⟨d - 1, by omega⟩; exact CF1 (c2 e (by omega))
  have c0 : ∀ d, 6 ≤ d → CF a d 0 := fun d hd => by obtain ⟨e, rfl⟩ : ∃ e, d = e + 1 := ⟨d - 1, by omega⟩; exact CF0 (c1 e (by omega))
  intro w hw d hd
  rcases (show w = 0 ∨ w = 1 ∨ w = 2 ∨ w = 3 ∨ w = 4 ∨ w = 5 by omega) with rfl | rfl | rfl | rfl | rfl | rfl
  · exact c0 d (by omega)
  · exact c1 d (by omega)
  · exact c2 d (by omega)
  · exact c3 d (by omega)
  · exact c4 d (by omega)
  · exact c5 d (by omega)
end
/-! two parts and their sign -/
section
variable {a : Nat} {h : Nat → Nat} {n o : Nat}
theorem PS_op (pr : isPr a) (B : HB h n) {w w2 w' a0 k0 a1 a2 : Nat} {μ0 μ1 μ2 μ3 : MM} {xs ms x2 m2 : CL} (k0a : k0 < a0) (p1 : PS a h n w o a0 k0 μ0 a1 xs ms μ1) (s2 : Sm (Pps a) μ1 μ2) (g1 : gI μ2 (a + 1) = gI μ1 (a + 1)) (g2 : gI μ2 (a + 2) = gI μ1 (a + 2)) (p2 : PS a h n w2 o (a1 + 1) (k0 + xs.length) μ2 a2 x2 m2 μ3) {op : Nat} (o1 : 2 ≤ op) (o2 : op ≤ 9) (hg : Gd (decide (w' ≤ 2)) (xs ++ (x2 ++ [(op, 0)])) (ms ++ (m2 ++ [(op, 0)])) (qw w' o)) (hA : AOk h w' o a0 a2 (ms ++ (m2 ++ [(op, 0)]))) (x1 : Int32) (ex : x1 = nI op) : ∃ y μ4, f_Pr_add a x1 0 μ3 = some (y, μ4) ∧ PS a h n w' o a0 k0 μ0 a2 (xs ++ (x2 ++ [(op, 0)])) (ms ++ (m2 ++ [(op, 0)])) μ4 := by
  subst ex
  obtain ⟨i1, i2, i3, i4, i5, i6, i7, i8, i9, i10⟩ := p1
  obtain ⟨j1, j2, j3, j4, j5, j6, j7, j8, j9, j10⟩ := p2
  obtain ⟨μ4, q1, q2, q3, q4, q5⟩ := s_padd pr B j3 (by omega) (nI op) 0
  refine ⟨_, μ4, q1, by omega, ?_, ?_, ?_, ?_, i6.tr (s2.tr (j6.tr q3)), hg, ?_, ?_, hA⟩
  · simp only [List.length_append, List.length_singleton]; omega
  · rw [show k0 + List.length (xs ++ (x2 ++ [(op, (0 : Nat))])) = k0 + xs.length + x2.length + 1 by simp only [List.length_append, List.length_singleton]; omega]; exact q2
  · refine HX_app (HX_eq i4 (fun j l1 l2 => ?_)) (HX_app (HX_eq j4 (fun j l1 l2 => ?_)) (HX_one ?_ ?_))
    · obtain ⟨b1, b2⟩ := j5 j l2
      rw [q4, q5]
      unfold upd
      rw [if_neg (by omega), if_neg (by omega), b1, b2, g1, g2]
      exact ⟨rfl, rfl⟩
    · rw [q4, q5]
      unfold upd
      rw [if_neg (by omega), if_neg (by omega)]
      exact ⟨rfl, rfl⟩
    · rw [q4]; unfold upd; rw [if_pos rfl]
    · rw [q5, if_neg (by omega)]; unfold upd; rw [if_pos rfl]; rfl
  · refine (i5.tr (k' := k0 + xs.length) (fun j l => ?_) (by omega))
    obtain ⟨b1, b2⟩ := j5 j l
    rw [q4, q5]
    unfold upd
    rw [if_neg (by omega), if_neg (by omega), b1, b2, g1, g2]
    exact ⟨rfl, rfl⟩
  · exact Vl_app i8 (Vl_app j8 (Vl_one (by omega) (by decide) (by omega)))
  · exact Vl_app i9 (Vl_app j9 (Vl_one (by omega) (by decide) (by omega)))
theorem PS_and (pr : isPr a) (B : HB h n) {w w2 a0 k0 a1 a2 : Nat} {μ0 μ1 μ2 μ3 μ4 : MM} {xs ms x2 m2 : CL} (k0a : k0 < a0) (p1 : PS a h n w o a0 k0 μ0 a1 xs ms μ1) (s2 : Sm (Pps a) μ1 μ2) (g1 : gI μ2 (a + 1) = gI μ1 (a + 1)) (g2 : gI μ2 (a + 2) = gI μ1 (a + 2)) {op : Nat} (ho : op = 11 ∨ op = 12) (s3 : Sm (Pps a) μ2 μ3) (f1 : gI μ3 (a + 1) = upd (gI μ2 (a + 1)) (k0 + xs.length) (nI op)) (f2 : gI μ3 (a + 2) = upd (gI μ2 (a + 2)) (k0 + xs.length) 0) (p2 : PS a h n w2 o (a1 + 1) (k0 + xs.length + 1) μ3 a2 x2 m2 μ4) (w3 : w ≤ 2) (w4 : w2 ≤ 2) (hA : AOk h w o a0 a2 (ms ++ (m2 ++ [(op, 0)]))) : ∃ μ5, f_Pr_land a (nI (k0 + xs.length)) μ4 = some μ5 ∧ PS a h n w o a0 k0 μ0 a2 (xs ++ ((op, x2.length) :: x2)) (ms ++ (m2 ++ [(op, 0)])) μ5 := by
  obtain ⟨i1, i2, i3, i4, i5, i6, i7, i8, i9, i10⟩ := p1
  obtain ⟨j1, j2, j3, j4, j5, j6, j7, j8, j9, j10⟩ := p2
  obtain ⟨μ5, q1, q2, q3, q4, q5⟩ := s_land pr B j3 (j := k0 + xs.length) (by omega)
  have hn := B.1
  have hle := j3.2.2.2.2.2.2.2.1
  have hle2 := j3.2.2.2.2.2.2.2.2
  refine ⟨μ5, q1, by omega, ?_, ?_, ?_, ?_, i6.tr (s2.tr (s3.tr (j6.tr q3))), ?_, ?_, ?_, hA⟩
  · simp only [List.length_append, List.length_cons]; omega
  · rw [show k0 + (xs ++ ((op, x2.length) :: x2)).length = k0 + xs.length + 1 + x2.length by simp only [List.length_append, List.length_cons]; omega]; exact q2
  · refine HX_app (HX_eq i4 (fun j l1 l2 => ?_)) ?_
    · obtain ⟨b1, b2⟩ := j5 j (by omega)
      rw [q4, q5, b1, f1, g1]
      unfold upd
      rw [if_neg (by omega), if_neg (by omega), b2, f2]
      unfold upd
      rw [if_neg (by omega), g2]
      exact ⟨rfl, rfl⟩
    · show HX _ _ _ ([(op, x2.length)] ++ x2)
      obtain ⟨b1, b2⟩ := j5 (k0 + xs.length) (by omega)
      refine HX_app (HX_one ?_ ?_) (HX_eq j4 (fun j l1 l2 => ?_))
      · rw [q4, b1, f1]; unfold upd; rw [if_pos rfl]
      · rw [q5, if_pos ho]; unfold upd; rw [if_pos rfl]
      · have l1 : k0 + xs.length + 1 ≤ j := l1
        rw [q4, q5]; unfold upd; rw [if_neg (by omega)]
        exact ⟨rfl, rfl⟩
  · refine (i5.tr (k' := k0 + xs.length) (fun j l => ?_) (by omega))
    obtain ⟨b1, b2⟩ := j5 j (by omega)
    rw [q4, q5, b1, f1, g1]
    unfold upd
    rw [if_neg (by omega), if_neg (by omega), b2, f2]
    unfold upd
    rw [if_neg (by omega), g2]
    exact ⟨rfl, rfl⟩
  · rw [decide_eq_true w3] at i7 ⊢
    rw [decide_eq_true w4] at j7
    unfold qw at i7 j7 ⊢
    rw [if_pos w3] at i7 ⊢
    rw [if_pos w4] at j7
    exact Gd_and ho i7 j7
  · refine Vl_app i8 ?_
    show Vl ([(op, x2.length)] ++ x2)
    exact Vl_app (Vl_one (by omega) (by omega) (by omega)) j8
  · exact Vl_app i9 (Vl_app j9 (Vl_one (by omega) (by decide) (by omega)))
end
