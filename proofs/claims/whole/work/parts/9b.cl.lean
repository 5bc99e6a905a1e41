/-! LAYER 2: a clause, and a whole text, as the reader reads them -/
abbrev CLT : Type := Nat × CL × CL × CL × CL
def tW (e : CLT) : Nat := e.1
def tXe (e : CLT) : CL := e.2.1
def tMe (e : CLT) : CL := e.2.2.1
def tXc (e : CLT) : CL := e.2.2.2.1
def tMc (e : CLT) : CL := e.2.2.2.2
def posX (t : Nat → CLT) : Nat → Nat
  | 0 => 0
  | j + 1 => posX t j + (tXe (t j)).length + (tXc (t j)).length
def posM (t : Nat → CLT) : Nat → Nat
  | 0 => 0
  | j + 1 => posM t j + (tMe (t j)).length + (tMc (t j)).length
theorem posX_c {t t' : Nat → CLT} : ∀ (c : Nat), (∀ j, j < c → t' j = t j) → posX t' c = posX t c
  | 0, _ => rfl
  | c + 1, h => by
    show posX t' c + (tXe (t' c)).length + (tXc (t' c)).length = posX t c + (tXe (t c)).length + (tXc (t c)).length
    rw [posX_c c (fun j hj => h j (by omega)), h c (by omega)]
theorem posM_c {t t' : Nat → CLT} : ∀ (c : Nat), (∀ j, j < c → t' j = t j) → posM t' c = posM t c
  | 0, _ => rfl
  | c + 1, h => by
    show posM t' c + (tMe (t' c)).length + (tMc (t' c)).length = posM t c + (tMe (t c)).length + (tMc (t c)).length
    rw [posM_c c (fun j hj => h j (by omega)), h c (by omega)]
theorem posX_m (t : Nat → CLT) {i : Nat} : ∀ (j : Nat), i ≤ j → posX t i ≤ posX t j
  | 0, h => by have : i = 0 := by omega
               subst this; exact Nat.le_refl _
  | j + 1, h => by
    rcases Nat.lt_or_ge j i with z | z
    · have : i = j + 1 := by omega
      subst this; exact Nat.le_refl _
    · have := posX_m t j z
      show posX t i ≤ posX t j + _ + _
      omega
/-- what a clause that is good tells -/
def CLg (e : CLT) : Prop := tW e < 5 ∧ Gd false (tXe e) (tMe e) 64 ∧ Gd true (tXc e) (tMc e) 64 ∧ Vl (tXe e) ∧ Vl (tMe e) ∧ Vl (tXc e) ∧ Vl (tMc e)
def COk (h : Nat → Nat) (c a b2 : Nat) (e : CLT) : Prop := wix (h a) < 5 ∧ tW e = wix (h a) ∧ c < 14 ∧ ∃ b, (∀ cm, rch h (0, a + 1, [], cm) (6, b, [], cm ++ tMe e)) ∧ h b = 40 ∧ ∀ cm, rch h (2, b + 1, [40], cm) (4, b2, [], cm ++ tMc e)
def CEr (h : Nat → Nat) (c a z : Nat) : Prop := (¬ wix (h a) < 5 ∧ z = 1000 * 1 + a) ∨ (wix (h a) < 5 ∧ c = 14 ∧ z = 1000 * 4 + a) ∨ (wix (h a) < 5 ∧ c < 14 ∧ ((∀ cm, rch h (0, a + 1, [], cm) (5, z, [], [])) ∨ ∃ b ms, (∀ cm, rch h (0, a + 1, [], cm) (6, b, [], cm ++ ms)) ∧ ((¬ h b = 40 ∧ z = 1000 * 1 + b) ∨ (h b = 40 ∧ ∀ cm, rch h (2, b + 1, [40], cm) (5, z, [], [])))))
def Pcl (a x k : Nat) : Bool := Pps a x k || ((x == a && k == 7) || x == a + 4 || x == a + 5 || x == a + 6)
theorem Pcl_Pps {a : Nat} (x k : Nat) (h : Pcl a x k = false) : Pps a x k = false := (Bool.or_eq_false_iff.mp h).1
def Pcq (a x k : Nat) : Bool := (x == a && k == 7) || x == a + 4 || x == a + 5 || x == a + 6
theorem Pcl_Pcq {a : Nat} (x k : Nat) (h : Pcl a x k = false) : Pcq a x k = false := (Bool.or_eq_false_iff.mp h).2
theorem Pcq_7 {a : Nat} : Pcq a a 7 = true := by simp [Pcq]
theorem Pcq_4 {a k : Nat} : Pcq a (a + 4) k = true := by simp [Pcq]
theorem Pcq_5 {a k : Nat} : Pcq a (a + 5) k = true := by simp [Pcq]
theorem Pcq_6 {a k : Nat} : Pcq a (a + 6) k = true := by simp [Pcq]
theorem Pcq_o {a : Nat} (pr : isPr a) {x k : Nat} (h : x = 40 ∨ x = 41 ∨ (x = a ∧ k = 6) ∨ x = a + 1 ∨ x = a + 2) : Pcq a x k = false := by
  unfold Pcq
  rcases pr with rfl | rfl
  · rcases h with rfl | rfl | ⟨rfl, rfl⟩ | rfl | rfl <;> rfl
  · rcases h with rfl | rfl | ⟨rfl, rfl⟩ | rfl | rfl <;> rfl
theorem Pps_o {a : Nat} (pr : isPr a) {x k : Nat} (h : (x = a ∧ k = 7) ∨ x = a + 4 ∨ x = a + 5 ∨ x = a + 6) : Pps a x k = false := by
  unfold Pps
  rcases pr with rfl | rfl
  · rcases h with ⟨rfl, rfl⟩ | rfl | rfl | rfl <;> rfl
  · rcases h with ⟨rfl, rfl⟩ | rfl | rfl | rfl <;> rfl
section
variable {a : Nat} {h : Nat → Nat} {n at_ k z : Nat} {μ μ' : MM}
theorem RX.cq (r : RX a h n at_ k μ) (pr : isPr a) (s : Sm (Pcq a) μ μ') : RX a h n at_ k μ' := by
  obtain ⟨w, r1, r2, r3, r4, r5, r6, r7, r8⟩ := r
  have g40 : gI μ' 40 = gI μ 40 := s.gI 40 (fun _ => Pcq_o pr (Or.inl rfl))
  have g41 : gI μ' 41 = gI μ 41 := s.gI 41 (fun _ => Pcq_o pr (Or.inr (Or.inl rfl)))
  have g6 := (s.2.2 a 6 (Pcq_o pr (Or.inr (Or.inr (Or.inl ⟨rfl, rfl⟩))))).1
  exact ⟨s.wf w, by rw [s.gRf 40]; exact r1, by rw [g40]; exact r2, by rw [g40]; exact r3, by rw [g40]; exact r4, by rw [g6]; exact r5, fun j hj => by rw [g41]; exact r6 j hj, r7, r8⟩
theorem FZ.cq (r : FZ a z μ) (pr : isPr a) (s : Sm (Pcq a) μ μ') : FZ a z μ' := by
  obtain ⟨w, r1, r4, h0, h1, k, k1, k2⟩ := r
  have g40 : gI μ' 40 = gI μ 40 := s.gI 40 (fun _ => Pcq_o pr (Or.inl rfl))
  have g6 := (s.2.2 a 6 (Pcq_o pr (Or.inr (Or.inr (Or.inl ⟨rfl, rfl⟩))))).1
  exact ⟨s.wf w, by rw [s.gRf 40]; exact r1, by rw [g40]; exact r4, h0, h1, k, k1, by rw [g6]; exact k2⟩
theorem c14 {c : Nat} (hc : c < 14) : ¬ (14 : Int32) ≤ nI c := by rw [show (14 : Int32) = nI 14 from rfl, cle (by omega) (by omega)]; omega
theorem s_popen (pr : isPr a) (w : Wf μ) {c : Nat} (hc : c < 14) (g7 : gI μ a 7 = nI c) (g6 : gI μ a 6 = nI k) (x : Int32) : ∃ μ', f_Pr_open a x μ = some μ' ∧ Sm (Pcq a) μ μ' ∧ gI μ' (a + 4) = upd (gI μ (a + 4)) c x ∧ gI μ' (a + 5) = upd (gI μ (a + 5)) c (nI k) ∧ gI μ' (a + 6) = gI μ (a + 6) ∧ gI μ' a = gI μ a := by
  obtain ⟨m1, e1⟩ : ∃ y, y = sI μ (a + 4) c x := ⟨_, rfl⟩
  obtain ⟨m2, e2⟩ : ∃ y, y = sI m1 (a + 5) c (nI k) := ⟨_, rfl⟩
  have s1 : Sm (Pcq a) μ m1 := by rw [e1]; exact Sm.sI Pcq_4
  have s2 : Sm (Pcq a) μ m2 := by rw [e2]; exact s1.tr (Sm.sI Pcq_5)
  have g1 : gI m1 a = gI μ a := by rw [e1, gI_sI_ne (by omega)]
  refine ⟨m2, ?_, s2, ?_, ?_, ?_, ?_⟩
  · unfold f_Pr_open
    rw [pr_kO pr w, bsome, pr_rI pr w, bsome, g7, if_neg (c14 hc), pr_r3 pr w, bsome, bsome, pr_u4 pr w hc, bsome, ← e1, pr_r4 pr (s1.wf w), bsome, pr_rI pr (s1.wf w), bsome, g1, g7, pr_rI pr (s1.wf w), bsome, g1, g6, pr_u5 pr (s1.wf w) (by omega), bsome, ← e2]
  · rw [e2, gI_sI_ne (by omega), e1, gI_sI]
  · rw [e2, gI_sI, e1, gI_sI_ne (by omega)]
  · rw [e2, gI_sI_ne (by omega), e1, gI_sI_ne (by omega)]
  · rw [e2, gI_sI_ne (by omega), g1]
theorem s_divide (pr : isPr a) (w : Wf μ) {c : Nat} (hc : c < 14) (g7 : gI μ a 7 = nI c) (g6 : gI μ a 6 = nI k) : ∃ μ', f_Pr_divide a μ = some μ' ∧ Sm (Pcq a) μ μ' ∧ gI μ' (a + 4) = gI μ (a + 4) ∧ gI μ' (a + 5) = gI μ (a + 5) ∧ gI μ' (a + 6) = upd (gI μ (a + 6)) c (nI k) ∧ gI μ' a = gI μ a := by
  have s : Sm (Pcq a) μ (sI μ (a + 6) c (nI k)) := Sm.sI Pcq_6
  refine ⟨_, ?_, s, gI_sI_ne (by omega), gI_sI_ne (by omega), gI_sI, gI_sI_ne (by omega)⟩
  unfold f_Pr_divide
  rw [pr_kO pr w, bsome, pr_rI pr w, bsome, g7, if_neg (c14 hc), pr_r5 pr w, bsome, bsome, pr_rI pr w, bsome, g6, pr_u6 pr w hc, bsome]
theorem s_close (pr : isPr a) (w : Wf μ) {c : Nat} (hc : c < 14) (g7 : gI μ a 7 = nI c) (g6 : gI μ a 6 = nI k) : ∃ μ', f_Pr_close a μ = some μ' ∧ Sm (Pcq a) μ μ' ∧ gI μ' (a + 4) = gI μ (a + 4) ∧ gI μ' (a + 5) = upd (gI μ (a + 5)) (c + 1) (nI k) ∧ gI μ' (a + 6) = gI μ (a + 6) ∧ gI μ' a 7 = nI (c + 1) := by
  obtain ⟨m1, e1⟩ : ∃ y, y = sI μ a 7 (nI (c + 1)) := ⟨_, rfl⟩
  obtain ⟨m2, e2⟩ : ∃ y, y = sI m1 (a + 5) (c + 1) (nI k) := ⟨_, rfl⟩
  have s1 : Sm (Pcq a) μ m1 := by rw [e1]; exact Sm.sI Pcq_7
  have s2 : Sm (Pcq a) μ m2 := by rw [e2]; exact s1.tr (Sm.sI Pcq_5)
  have g17 : gI m1 a 7 = nI (c + 1) := by rw [e1, gI_sI]; unfold upd; rw [if_pos rfl]
  have g16 : gI m1 a 6 = nI k := by rw [e1, gI_sI]; unfold upd; rw [if_neg (by decide)]; exact g6
  refine ⟨m2, ?_, s2, ?_, ?_, ?_, ?_⟩
  · unfold f_Pr_close
    rw [pr_kO pr w, bsome, pr_rI pr w, bsome, g7, if_neg (c14 hc), bsome, nI_1, pr_pI pr w, bsome, ← e1, pr_r4 pr (s1.wf w), bsome, pr_rI pr (s1.wf w), bsome, g17, pr_rI pr (s1.wf w), bsome, g16, pr_u5 pr (s1.wf w) (by omega), bsome, ← e2]
  · rw [e2, gI_sI_ne (by omega), e1, gI_sI_ne (by omega)]
  · rw [e2, gI_sI, e1, gI_sI_ne (by omega)]
  · rw [e2, gI_sI_ne (by omega), e1, gI_sI_ne (by omega)]
  · rw [e2, gI_sI_ne (by omega)]; exact g17
theorem clauseF (f : FZ a z μ) (pr : isPr a) (x : Int32) : ∃ μ', f_Re_clause 40 x μ = some μ' ∧ FZ a z μ' ∧ Sm (Pps a) μ μ' := by
  obtain ⟨μ', q1, q2, q3⟩ := s_failF f pr 1
  refine ⟨μ', ?_, q2, q3⟩
  unfold f_Re_clause
  rw [kO_40 f.1, bsome, s_hereF f, bsome, ixWm, bsome, if_pos rfl, q1, bsome]
/-- E, when nothing is pending: it ends where it ends -/
theorem E_end {b : Nat} {ms : CL} (r : AOk h 3 0 at_ b ms) (k : enc 3 (h b)) (cm : CL) : rch h (0, at_, [], cm) (if h b = 93 then (5, 1000 * 1 + b, [], []) else (6, b, [], cm ++ ms)) := by
  refine (r [] cm rfl ⟨rfl, rfl⟩).tr (rch.one ?_)
  show stp h (1, b, [], cm ++ ms) = _
  rw [a1_end rfl k.1 rfl k.2]
  by_cases e : h b = 93
  · rw [if_pos e, if_neg (show ¬ hdd [] = 91 by decide), if_pos e]; rfl
  · rw [if_neg e, if_neg (show ¬ hdd [] = 91 by decide), if_neg e]
theorem E_err {x : Nat} (r : AEr h 3 0 at_ x) (cm : CL) : rch h (0, at_, [], cm) (5, x, [], []) := r [] cm rfl ⟨rfl, rfl⟩
theorem C_err {x : Nat} (r : AEr h 0 1 at_ x) (cm : CL) : rch h (2, at_, [40], cm) (5, x, [], []) := r [40] cm rfl rfl
theorem C_end {b : Nat} {ms : CL} (r : AOk h 0 1 at_ b ms) (k : enc 0 (h b)) (cm : CL) : rch h (2, at_, [40], cm) (if h b = 41 then (4, b + 1, [], cm ++ ms) else (5, 1000 * 1 + b, [], [])) := by
  refine (r [40] cm rfl rfl).tr (rch.one ?_)
  show stp h (3, b, [40], cm ++ ms) = _
  rw [a3_40 k]
  by_cases e : h b = 41
  · rw [if_pos e, if_pos e, if_pos rfl]
  · rw [if_neg e, if_neg e]; rfl
end
