/-! LAYER 2: what a text gives: the first program -/
def H32 (g : Nat → Int32) : List Int32 → Prop
  | [] => True
  | v :: s => g s.length = v ∧ H32 g s
theorem H32_u {g : Nat → Int32} {k : Nat} {v : Int32} : ∀ (s : List Int32), s.length ≤ k → H32 g s → H32 (upd g k v) s
  | [], _, _ => trivial
  | c :: s, hk, hs => by
    have hk : s.length + 1 ≤ k := hk
    refine ⟨?_, H32_u s (by omega) hs.2⟩
    rw [upd_o (by omega)]; exact hs.1
def tpi (l : Nat) : Int32 := if l = 0 then -1 else nI (l - 1)
theorem tpi_s (l : Nat) : tpi (l + 1) = nI l := by unfold tpi; rw [if_neg (by omega)]; rfl
theorem tpi_p : ∀ l, tpi l + 1 = nI l
  | 0 => rfl
  | l + 1 => by rw [tpi_s, nI_1]
theorem tpi_d (l : Nat) : nI l + (-1 : Int32) = tpi l := by
  match l with
  | 0 => rfl
  | l + 1 => rw [tpi_s, nI_dec]
theorem rxl_drop (L : Nat → Int32) (st : List Int32) : ∀ (r : CL) (sk : Nat), rxl L r sk st = if sk ≤ r.length then rxl L (r.drop sk) 0 st else some (sk - r.length, st)
  | [], 0 => rfl
  | [], sk + 1 => rfl
  | e :: r, 0 => rfl
  | e :: r, sk + 1 => by
    show rxl L r sk st = _
    rw [rxl_drop L st r sk]
    by_cases q : sk ≤ r.length
    · rw [if_pos q, if_pos (show sk + 1 ≤ (e :: r).length from Nat.succ_le_succ q)]; rfl
    · rw [if_neg q, if_neg (show ¬ sk + 1 ≤ (e :: r).length from fun z => q (Nat.le_of_succ_le_succ z))]
      congr 2
      show sk - r.length = sk + 1 - (r.length + 1)
      omega
theorem HX_tail {o g : Nat → Int32} {p : Nat} {e : Nat × Nat} {r : CL} (h : HX o g p (e :: r)) : HX o g (p + 1) r := fun j y hy => by
  have := h (j + 1) y hy
  rw [show p + 1 + j = p + (j + 1) by omega]; exact this
theorem HX_drop {o g : Nat → Int32} {p : Nat} {r : CL} (h : HX o g p r) (k : Nat) : HX o g (p + k) (r.drop k) := fun j y hy => by
  rw [List.getElem?_drop] at hy
  have := h (k + j) y hy
  rw [show p + k + j = p + (k + j) by omega]; exact this
theorem Vl_tail {e : Nat × Nat} {r : CL} (h : Vl (e :: r)) : Vl r := fun x hx => h x (List.mem_cons_of_mem _ hx)
theorem Vl_drop {r : CL} (h : Vl r) (k : Nat) : Vl (r.drop k) := fun x hx => h x (List.mem_of_mem_drop hx)
theorem s_reckoned {op : Nat} (h1 : 2 ≤ op) (h2 : op ≤ 9) (x y : Int32) (hd : dv0 op y = false) : f_Pr_reckoned (nI op) x y = some (wrk op x y) := by
  have hd : ¬ ((op = 5 ∨ op = 6) ∧ y = 0) := of_decide_eq_false hd
  rcases (show op = 2 ∨ op = 3 ∨ op = 4 ∨ op = 5 ∨ op = 6 ∨ op = 7 ∨ op = 8 ∨ op = 9 by omega) with rfl | rfl | rfl | rfl | rfl | rfl | rfl | rfl
  · rfl
  · rfl
  · rfl
  · have y0 : ¬ y = 0 := fun q => hd ⟨Or.inl rfl, q⟩
    show (if y = 0 then some 0 else (gd y).bind fun _ => some (x / y)) = some (if y = 0 then 0 else x / y)
    unfold gd
    rw [if_neg y0, if_neg y0, if_neg y0, bsome]
  · have y0 : ¬ y = 0 := fun q => hd ⟨Or.inr rfl, q⟩
    show (if y = 0 then some 0 else (gd y).bind fun _ => some (irem x y)) = some (if y = 0 then 0 else irem x y)
    unfold gd
    rw [if_neg y0, if_neg y0, if_neg y0, bsome]
  · show (if y ≤ x then some 0 else some 1) = some (if y ≤ x then 0 else 1)
    split <;> rfl
  · show (if x ≤ y then some 0 else some 1) = some (if x ≤ y then 0 else 1)
    split <;> rfl
  · show (if x = y then some 1 else some 0) = some (if x = y then 1 else 0)
    split <;> rfl
theorem s_worked {op : Nat} (h1 : 2 ≤ op) (h2 : op ≤ 9) (x y : Int32) : f_M_worked (nI (mch op)) x y = some (wrk op x y) := by
  rcases (show op = 2 ∨ op = 3 ∨ op = 4 ∨ op = 5 ∨ op = 6 ∨ op = 7 ∨ op = 8 ∨ op = 9 by omega) with rfl | rfl | rfl | rfl | rfl | rfl | rfl | rfl
  · rfl
  · rfl
  · rfl
  · show (if y = 0 then some 0 else (gd y).bind fun _ => some (x / y)) = some (if y = 0 then 0 else x / y)
    unfold gd
    split
    · rfl
    · rfl
  · show (if y = 0 then some 0 else (gd y).bind fun _ => some (irem x y)) = some (if y = 0 then 0 else irem x y)
    unfold gd
    split
    · rfl
    · rfl
  · show (if y ≤ x then some 0 else some 1) = some (if y ≤ x then 0 else 1)
    split <;> rfl
  · show (if x ≤ y then some 0 else some 1) = some (if x ≤ y then 0 else 1)
    split <;> rfl
  · show (if x = y then some 1 else some 0) = some (if x = y then 1 else 0)
    split <;> rfl
def rkR (a : Nat) (q : Option (Nat × List Int32)) (x : Option (Int32 × MM)) (μ : MM) : Prop := ∃ μ', Sm (Pc1 (a + 3)) μ μ' ∧ match q with
  | none => x = some (0, μ')
  | some (_, st) => x = some (bi (decide (st.length = 1)), μ') ∧ H32 (gI μ' (a + 3)) st
theorem rkR.sm {a : Nat} {q : Option (Nat × List Int32)} {x : Option (Int32 × MM)} {μ μ1 : MM} (h : rkR a q x μ1) (s : Sm (Pc1 (a + 3)) μ μ1) : rkR a q x μ := by
  obtain ⟨μ', s', r⟩ := h
  exact ⟨μ', s.tr s', r⟩
theorem Pc1_s {x k : Nat} : Pc1 x x k = true := by simp [Pc1]
theorem pr27 {a : Nat} (pr : isPr a) : ¬ a = a + 3 ∧ ¬ a + 1 = a + 3 ∧ ¬ a + 2 = a + 3 ∧ ¬ 27 = a + 3 ∧ ¬ 49 = a + 3 := by rcases pr with rfl | rfl <;> decide
theorem rkend {a to S n l p : Nat} (pr : isPr a) {μ : MM} (hl : l ≤ 100) (hS : S ≤ 200) (hp : p < 200000) (ht : to ≤ S) (e : to ≤ p) : f_Pr_reckon_L6 a (nI to) 27 (n + 1) (tpi l) (nI p) μ = some (bi (decide (l = 1)), μ) := by
  rw [e_Pr_reckon_L6, if_pos (by rw [cle (by omega) (by omega)]; exact e)]
  unfold f_Pr_reckon_J269
  match l, hl with
  | 0, _ => rw [if_neg (by decide)]; rfl
  | 1, _ => rw [if_pos (by decide)]; rfl
  | l + 2, hl =>
    rw [if_neg, decide_eq_false (by omega)]
    · rfl
    · rw [tpi_s]
      exact nI_n0 (by omega) (by omega)
theorem rk_go {a to S : Nat} (pr : isPr a) {L : Nat → Int32} (hS : S ≤ 200) (ht : to ≤ S) : ∀ (N : Nat) (r : CL) (p n : Nat) (st : List Int32) (μ : MM), r.length ≤ N → N < n → p + r.length = to → Wf μ → gI μ a 6 = nI S → HX (gI μ (a + 1)) (gI μ (a + 2)) p r → Vl r → (∀ k, k < 12 → gI μ 27 k = L k) → H32 (gI μ (a + 3)) st → st.length ≤ 64 → rkR a (rxl L r 0 st) (f_Pr_reckon_L6 a (nI to) 27 n (tpi st.length) (nI p) μ) μ := by
  intro N
  obtain ⟨k1, k2, k3, k4, k5⟩ := pr27 pr
  induction N with
  | zero =>
    intro r p n st μ hr hn hp w g6 hx hv hL hs hl
    obtain ⟨n, rfl⟩ : ∃ j, n = j + 1 := ⟨n - 1, by omega⟩
    match r, hr with
    | [], _ => exact ⟨μ, Sm.rf, rkend pr (by omega) hS (by omega) ht (by have : p + 0 = to := hp; omega), hs⟩
    | e :: r, hr => simp at hr
  | succ N ih =>
    intro r p n st μ hr hn hp w g6 hx hv hL hs hl
    obtain ⟨n, rfl⟩ : ∃ j, n = j + 1 := ⟨n - 1, by omega⟩
    match r, hr, hp, hx, hv with
    | [], _, hp, _, _ => exact ⟨μ, Sm.rf, rkend pr (by omega) hS (by omega) ht (by have : p + 0 = to := hp; omega), hs⟩
    | (op, arg) :: r, hr, hp, hx, hv =>
      have hr : r.length + 1 ≤ N + 1 := hr
      have hp : p + (r.length + 1) = to := hp
      obtain ⟨o1, o2⟩ := hx 0 (op, arg) rfl
      have o1 : gI μ (a + 1) p = nI op := o1
      have o2 : gI μ (a + 2) p = nI (if op = 11 ∨ op = 12 then p + 1 + arg else arg) := o2
      obtain ⟨v1, v2, v3⟩ := hv (op, arg) (List.mem_cons_self ..)
      have v1 : op < 13 := v1
      have v2 : arg < 100000 := v2
      have v3 : op = 1 → arg < 12 := v3
      have hxt := HX_tail hx
      have hvt := Vl_tail hv
      -- what stays when the stack alone is written
      have go : ∀ (μ' : MM) (st' : List Int32), Sm (Pc1 (a + 3)) μ μ' → H32 (gI μ' (a + 3)) st' → st'.length ≤ 64 → rkR a (rxl L r 0 st') (f_Pr_reckon_L6 a (nI to) 27 n (tpi st'.length) (nI (p + 1)) μ') μ := fun μ' st' s hs' hl' =>
        (ih r (p + 1) n st' μ' (by omega) (by omega) (by omega) (s.wf w) (by rw [s.gI a (Pc1_ne k1)]; exact g6) (by rw [s.gI (a + 1) (Pc1_ne k2), s.gI (a + 2) (Pc1_ne k3)]; exact hxt) hvt (fun k hk => by rw [s.gI 27 (Pc1_ne k4)]; exact hL k hk) hs' hl').sm s
      have wr : ∀ (j : Nat) (v : Int32), Sm (Pc1 (a + 3)) μ (sI μ (a + 3) j v) := fun j v => Sm.sI Pc1_s
      have st0 : f_Pr_reckon_L6 a (nI to) 27 (n + 1) (tpi st.length) (nI p) μ = (if nI op = 0 then f_Pr_reckon_J50 (f_Pr_reckon_L6 a (nI to) 27 n) a (nI to) 27 (tpi st.length) (nI p) (nI op) (nI (if op = 11 ∨ op = 12 then p + 1 + arg else arg)) μ else if nI op = (1 : Int32) then f_Pr_reckon_J50 (f_Pr_reckon_L6 a (nI to) 27 n) a (nI to) 27 (tpi st.length) (nI p) (nI op) (nI (if op = 11 ∨ op = 12 then p + 1 + arg else arg)) μ else if 0 ≤ tpi st.length then (if nI op = (10 : Int32) then ((rR μ a 5 2).bind fun y119 => (rR μ a 5 2).bind fun y126 => (aI μ y126 (tpi st.length)).bind fun y131 => (uI μ y119 (tpi st.length) ((1 : Int32) - y131)).bind fun μ133 => (f_Pr_reckon_L6 a (nI to) 27 n) (tpi st.length) (nI p + (1 : Int32)) μ133) else if nI op = (11 : Int32) then f_Pr_reckon_J151 (f_Pr_reckon_L6 a (nI to) 27 n) a (nI to) 27 (tpi st.length) (nI p) (nI op) (nI (if op = 11 ∨ op = 12 then p + 1 + arg else arg)) μ else if nI op = (12 : Int32) then f_Pr_reckon_J151 (f_Pr_reckon_L6 a (nI to) 27 n) a (nI to) 27 (tpi st.length) (nI p) (nI op) (nI (if op = 11 ∨ op = 12 then p + 1 + arg else arg)) μ else if tpi st.length < (1 : Int32) then some ((0 : Int32), μ) else (rR μ a 5 2).bind fun y208 => (aI μ y208 (tpi st.length)).bind fun y213 => if y213 = 0 then (if nI op = (5 : Int32) then some ((0 : Int32), μ) else if nI op = (6 : Int32) then some ((0 : Int32), μ) else f_Pr_reckon_J232 (f_Pr_reckon_L6 a (nI to) 27 n) a (nI to) 27 (tpi st.length) (nI p) (nI op) μ) else f_Pr_reckon_J232 (f_Pr_reckon_L6 a (nI to) 27 n) a (nI to) 27 (tpi st.length) (nI p) (nI op) μ) else some ((0 : Int32), μ)) := by
        rw [e_Pr_reckon_L6, if_neg (by rw [cle (by omega) (by omega)]; omega), pr_rI pr w, bsome, g6, if_neg (by rw [cle (by omega) (by omega)]; omega), pr_r0 pr w, bsome, pr_a1 pr w (by omega), bsome, o1, pr_r1 pr w, bsome, pr_a2 pr w (by omega), bsome, o2]
      have iop : ∀ (d : Nat) (v : Int32), v = nI d → d < 13 → (nI op = v ↔ op = d) := fun d v hv hd => by subst hv; exact nI_eq (by omega) (by omega)
      have i0 := iop 0 0 rfl (by decide)
      have i1 := iop 1 1 rfl (by decide)
      have i10 := iop 10 10 rfl (by decide)
      have i11 := iop 11 11 rfl (by decide)
      have i12 := iop 12 12 rfl (by decide)
      have i5 := iop 5 5 rfl (by decide)
      have i6 := iop 6 6 rfl (by decide)
      rw [st0]
      by_cases c01 : op = 0 ∨ op = 1
      · have na : ¬ (op = 11 ∨ op = 12) := by omega
        rw [if_neg na, rxl_pu L c01]
        have fold : (if nI op = 0 then f_Pr_reckon_J50 (f_Pr_reckon_L6 a (nI to) 27 n) a (nI to) 27 (tpi st.length) (nI p) (nI op) (nI arg) μ else if nI op = (1 : Int32) then f_Pr_reckon_J50 (f_Pr_reckon_L6 a (nI to) 27 n) a (nI to) 27 (tpi st.length) (nI p) (nI op) (nI arg) μ else if 0 ≤ tpi st.length then (if nI op = (10 : Int32) then ((rR μ a 5 2).bind fun y119 => (rR μ a 5 2).bind fun y126 => (aI μ y126 (tpi st.length)).bind fun y131 => (uI μ y119 (tpi st.length) ((1 : Int32) - y131)).bind fun μ133 => (f_Pr_reckon_L6 a (nI to) 27 n) (tpi st.length) (nI p + (1 : Int32)) μ133) else if nI op = (11 : Int32) then f_Pr_reckon_J151 (f_Pr_reckon_L6 a (nI to) 27 n) a (nI to) 27 (tpi st.length) (nI p) (nI op) (nI arg) μ else if nI op = (12 : Int32) then f_Pr_reckon_J151 (f_Pr_reckon_L6 a (nI to) 27 n) a (nI to) 27 (tpi st.length) (nI p) (nI op) (nI arg) μ else if tpi st.length < (1 : Int32) then some ((0 : Int32), μ) else (rR μ a 5 2).bind fun y208 => (aI μ y208 (tpi st.length)).bind fun y213 => if y213 = 0 then (if nI op = (5 : Int32) then some ((0 : Int32), μ) else if nI op = (6 : Int32) then some ((0 : Int32), μ) else f_Pr_reckon_J232 (f_Pr_reckon_L6 a (nI to) 27 n) a (nI to) 27 (tpi st.length) (nI p) (nI op) μ) else f_Pr_reckon_J232 (f_Pr_reckon_L6 a (nI to) 27 n) a (nI to) 27 (tpi st.length) (nI p) (nI op) μ) else some ((0 : Int32), μ)) = f_Pr_reckon_J50 (f_Pr_reckon_L6 a (nI to) 27 n) a (nI to) 27 (tpi st.length) (nI p) (nI op) (nI arg) μ := by
          rcases c01 with c | c
          · rw [if_pos (i0.mpr c)]
          · rw [if_neg (fun q => by have := i0.mp q; omega), if_pos (i1.mpr c)]
        rw [fold]
        unfold f_Pr_reckon_J50
        rw [tpi_p]
        by_cases c64 : 64 ≤ st.length
        · rw [if_pos (show (64 : Int32) ≤ nI st.length by rw [show (64 : Int32) = nI 64 from rfl, cle (by omega) (by omega)]; exact c64), if_pos c64]
          exact ⟨μ, Sm.rf, rfl⟩
        · rw [if_neg (show ¬ (64 : Int32) ≤ nI st.length by rw [show (64 : Int32) = nI 64 from rfl, cle (by omega) (by omega)]; exact c64), if_neg c64]
          rcases c01 with c | c
          · rw [if_neg (show ¬ nI op = (1 : Int32) from fun q => by have := i1.mp q; omega), if_pos c]
            unfold f_Pr_reckon_J80 f_Pr_reckon_J100
            rw [pr_r2 pr w, bsome, if_pos (i0.mpr c), pr_u3 pr w (by omega), bsome, nI_1]
            have := go (sI μ (a + 3) st.length (nI arg)) (nI arg :: st) (wr _ _) ⟨by rw [gI_sI, upd_s], by rw [gI_sI]; exact H32_u st (Nat.le_refl _) hs⟩ (by show st.length + 1 ≤ 64; omega)
            rw [show (nI arg :: st).length = st.length + 1 from rfl, tpi_s] at this
            exact this
          · have ha := v3 c
            rw [if_pos (i1.mpr c), if_neg (nI_pos (by omega)), aN_27 w, bsome, if_pos (show nI arg < nI 12 by rw [clt (by omega) (by omega)]; exact ha), if_neg (show ¬ op = 0 by omega)]
            unfold f_Pr_reckon_J80 f_Pr_reckon_J100
            rw [pr_r2 pr w, bsome, if_neg (fun q => by have := i0.mp q; omega), aI_27 w ha, bsome, hL arg ha, pr_u3 pr w (by omega), bsome, nI_1]
            have := go (sI μ (a + 3) st.length (L arg)) (L arg :: st) (wr _ _) ⟨by rw [gI_sI, upd_s], by rw [gI_sI]; exact H32_u st (Nat.le_refl _) hs⟩ (by show st.length + 1 ≤ 64; omega)
            rw [show (L arg :: st).length = st.length + 1 from rfl, tpi_s] at this
            exact this
      · have n0 : ¬ nI op = 0 := fun q => c01 (Or.inl (i0.mp q))
        have n1 : ¬ nI op = (1 : Int32) := fun q => c01 (Or.inr (i1.mp q))
        rw [if_neg n0, if_neg n1]
        clear st0
        cases st with
        | nil =>
          have : rxl L ((op, arg) :: r) 0 [] = none := by
            show (if op = 0 ∨ op = 1 then _ else _) = _
            rw [if_neg c01]
          rw [this, if_neg (show ¬ (0 : Int32) ≤ tpi ([] : List Int32).length by decide)]
          exact ⟨μ, Sm.rf, rfl⟩
        | cons x s =>
          have hl1 : s.length + 1 ≤ 64 := hl
          have tl : tpi (x :: s).length = nI s.length := tpi_s _
          have gx : gI μ (a + 3) s.length = x := hs.1
          rw [tl, if_pos (show (0 : Int32) ≤ nI s.length from nI_pos' (by omega))]
          by_cases c10 : op = 10
          · subst c10
            rw [if_pos (by decide), pr_r2 pr w, bsome, bsome, pr_a3 pr w (by omega), bsome, gx, pr_u3 pr w (by omega), bsome, rxl_nt, nI_1]
            have := go (sI μ (a + 3) s.length (1 - x)) ((1 - x) :: s) (wr _ _) ⟨by rw [gI_sI, upd_s], by rw [gI_sI]; exact H32_u s (Nat.le_refl _) hs.2⟩ (by show s.length + 1 ≤ 64; omega)
            rw [show ((1 - x) :: s).length = s.length + 1 from rfl, tpi_s] at this
            exact this
          · rw [if_neg (fun q => c10 (i10.mp q))]
            by_cases c11 : op = 11 ∨ op = 12
            · have fold : ∀ (X : Option (Int32 × MM)), (if nI op = (11 : Int32) then f_Pr_reckon_J151 (f_Pr_reckon_L6 a (nI to) 27 n) a (nI to) 27 (nI s.length) (nI p) (nI op) (nI (if op = 11 ∨ op = 12 then p + 1 + arg else arg)) μ else if nI op = (12 : Int32) then f_Pr_reckon_J151 (f_Pr_reckon_L6 a (nI to) 27 n) a (nI to) 27 (nI s.length) (nI p) (nI op) (nI (if op = 11 ∨ op = 12 then p + 1 + arg else arg)) μ else X) = f_Pr_reckon_J178 (f_Pr_reckon_L6 a (nI to) 27 n) a (nI to) 27 (nI s.length) (nI p) (nI (p + 1 + arg)) (bi (decide (x = 0))) (bi (decide (op = 11))) μ := by
                intro X
                have j151 : f_Pr_reckon_J151 (f_Pr_reckon_L6 a (nI to) 27 n) a (nI to) 27 (nI s.length) (nI p) (nI op) (nI (if op = 11 ∨ op = 12 then p + 1 + arg else arg)) μ = f_Pr_reckon_J178 (f_Pr_reckon_L6 a (nI to) 27 n) a (nI to) 27 (nI s.length) (nI p) (nI (p + 1 + arg)) (bi (decide (x = 0))) (bi (decide (op = 11))) μ := by
                  unfold f_Pr_reckon_J151 f_Pr_reckon_J166
                  rw [pr_r2 pr w, bsome, pr_a3 pr w (by omega), bsome, gx, if_pos c11]
                  by_cases y : x = 0
                  · rw [if_pos y, decide_eq_true y]
                    by_cases z : op = 11
                    · rw [if_pos (i11.mpr z), decide_eq_true z]; rfl
                    · rw [if_neg (fun q => z (i11.mp q)), decide_eq_false z]; rfl
                  · rw [if_neg y, decide_eq_false y]
                    by_cases z : op = 11
                    · rw [if_pos (i11.mpr z), decide_eq_true z]; rfl
                    · rw [if_neg (fun q => z (i11.mp q)), decide_eq_false z]; rfl
                rcases c11 with c | c
                · rw [if_pos (i11.mpr c), j151]
                · rw [if_neg (fun q => by have := i11.mp q; omega), if_pos (i12.mpr c), j151]
              rw [fold, rxl_jp L c11]
              unfold f_Pr_reckon_J178
              by_cases y : decide (x = 0) = decide (op = 11)
              · rw [if_pos (show bi (decide (x = 0)) = bi (decide (op = 11)) by rw [y]), if_pos y]
                have mx : f_Mt_max_II (nI p) (nI (p + 1 + arg) - (1 : Int32)) = some (nI (p + arg)) := by
                  rw [nI_m1 (by omega), show p + 1 + arg - 1 = p + arg by omega]
                  unfold f_Mt_max_II
                  by_cases z : 0 < arg
                  · rw [if_pos (by rw [clt (by omega) (by omega)]; omega)]
                  · rw [if_neg (by rw [clt (by omega) (by omega)]; omega), show p + arg = p by omega]
                rw [mx, bsome, nI_1, rxl_drop]
                by_cases z : arg ≤ r.length
                · rw [if_pos z]
                  have := ih (r.drop arg) (p + 1 + arg) n (x :: s) μ (by rw [List.length_drop]; omega) (by omega) (by rw [List.length_drop]; omega) w g6 (HX_drop hxt arg) (Vl_drop hvt arg) hL hs hl
                  rw [tl, show p + 1 + arg = p + arg + 1 by omega] at this
                  exact this
                · rw [if_neg z]
                  obtain ⟨n, rfl⟩ : ∃ j, n = j + 1 := ⟨n - 1, by omega⟩
                  have := rkend (n := n) pr (μ := μ) (l := (x :: s).length) (by omega) hS (p := p + arg + 1) (by omega) ht (by omega)
                  rw [tl] at this
                  exact ⟨μ, Sm.rf, this, hs⟩
              · rw [if_neg (show ¬ bi (decide (x = 0)) = bi (decide (op = 11)) from fun q => y (by rw [bi_inj] at q; exact q)), if_neg y, tpi_d, nI_1]
                exact go μ s Sm.rf hs.2 (by omega)
            · rw [if_neg (fun q => c11 (Or.inl (i11.mp q))), if_neg (fun q => c11 (Or.inr (i12.mp q)))]
              cases s with
              | nil =>
                have : rxl L ((op, arg) :: r) 0 [x] = none := by
                  show (if op = 0 ∨ op = 1 then _ else if op = 10 then _ else if op = 11 ∨ op = 12 then _ else _) = _
                  rw [if_neg c01, if_neg c10, if_neg c11]
                rw [this, if_pos (by decide)]
                exact ⟨μ, Sm.rf, rfl⟩
              | cons b s2 =>
                have hl2 : s2.length + 1 + 1 ≤ 64 := hl1
                have gb : gI μ (a + 3) s2.length = b := hs.2.1
                have gx : gI μ (a + 3) (s2.length + 1) = x := gx
                have o1' : 2 ≤ op := by omega
                have o2' : op ≤ 9 := by omega
                have ll : (b :: s2).length = s2.length + 1 := rfl
                rw [ll, if_neg (show ¬ nI (s2.length + 1) < (1 : Int32) by rw [show (1 : Int32) = nI 1 from rfl, clt (by omega) (by omega)]; omega), rxl_ar L o1' o2', pr_r2 pr w, bsome]
                show rkR a _ ((aI μ (a + 3) (nI (s2.length + 1))).bind _) μ
                rw [pr_a3 pr w (by omega), bsome, gx]
                have fold : dv0 op x = false → f_Pr_reckon_J232 (f_Pr_reckon_L6 a (nI to) 27 n) a (nI to) 27 (nI (s2.length + 1)) (nI p) (nI op) μ = f_Pr_reckon_L6 a (nI to) 27 n (nI s2.length) (nI (p + 1)) (sI μ (a + 3) s2.length (wrk op b x)) := fun hd => by
                  unfold f_Pr_reckon_J232
                  rw [nI_dec, pr_r2 pr w, bsome, bsome, pr_a3 pr w (by omega), bsome, bsome, nI_1, pr_a3 pr w (by omega), bsome, gb, gx, s_reckoned o1' o2' b x hd, bsome, pr_u3 pr w (by omega), bsome, nI_1]
                by_cases hd : dv0 op x = true
                · have hd' : (op = 5 ∨ op = 6) ∧ x = 0 := of_decide_eq_true hd
                  rw [if_pos hd, if_pos hd'.2]
                  rcases hd'.1 with z | z
                  · rw [if_pos (i5.mpr z)]; exact ⟨μ, Sm.rf, rfl⟩
                  · rw [if_neg (fun q => by have := i5.mp q; omega), if_pos (i6.mpr z)]; exact ⟨μ, Sm.rf, rfl⟩
                · have hd1 : dv0 op x = false := Bool.eq_false_iff.mpr hd
                  have hd' : ¬ ((op = 5 ∨ op = 6) ∧ x = 0) := of_decide_eq_false hd1
                  have res := go (sI μ (a + 3) s2.length (wrk op b x)) (wrk op b x :: s2) (wr _ _) ⟨by rw [gI_sI, upd_s], by rw [gI_sI]; exact H32_u s2 (Nat.le_refl _) hs.2.2⟩ (by show s2.length + 1 ≤ 64; omega)
                  rw [show (wrk op b x :: s2).length = s2.length + 1 from rfl, tpi_s] at res
                  rw [if_neg hd]
                  show rkR a _ (if x = 0 then (if nI op = (5 : Int32) then some ((0 : Int32), μ) else if nI op = (6 : Int32) then some ((0 : Int32), μ) else f_Pr_reckon_J232 (f_Pr_reckon_L6 a (nI to) 27 n) a (nI to) 27 (nI (s2.length + 1)) (nI p) (nI op) μ) else f_Pr_reckon_J232 (f_Pr_reckon_L6 a (nI to) 27 n) a (nI to) 27 (nI (s2.length + 1)) (nI p) (nI op) μ) μ
                  by_cases z : x = 0
                  · rw [if_pos z, if_neg (fun q => hd' ⟨Or.inl (i5.mp q), z⟩), if_neg (fun q => hd' ⟨Or.inr (i6.mp q), z⟩), fold hd1]; exact res
                  · rw [if_neg z, fold hd1]; exact res
def dX (L : Nat → Int32) (xs : CL) : Option Int32 := match rxl L xs 0 [] with
  | some (_, v :: _) => some v
  | _ => none
theorem Gd.dx {cb : Bool} {xs ms : CL} (g : Gd cb xs ms 64) : (∀ L, rxl L xs 0 [] = (dX L xs).map fun v => (0, [v])) ∧ (∀ L sm, ∃ v, rml L ms sm = some ((v, (dX L xs).isNone) :: sm) ∧ ∀ w, dX L xs = some w → v = w) ∧ (cb = true → ∀ L w, dX L xs = some w → w = 0 ∨ w = 1) := by
  obtain ⟨den, h1, h2, h3⟩ := g
  have e : ∀ L, dX L xs = den L := fun L => by
    unfold dX
    rw [h1 L [] (by decide)]
    cases den L <;> rfl
  refine ⟨fun L => by rw [e, h1 L [] (by decide)], fun L sm => by rw [e]; exact h2 L sm, fun hc L w hw => h3 hc L w (by rw [← e]; exact hw)⟩
theorem s_reckon {a k S : Nat} (pr : isPr a) {L : Nat → Int32} {xs ms : CL} {cb : Bool} (hS : S ≤ 200) (ht : k + xs.length ≤ S) {μ : MM} (w : Wf μ) (g6 : gI μ a 6 = nI S) (hx : HX (gI μ (a + 1)) (gI μ (a + 2)) k xs) (hv : Vl xs) (hL : ∀ j, j < 12 → gI μ 27 j = L j) (g : Gd cb xs ms 64) : ∃ μ', f_Pr_reckon a (nI k) (nI (k + xs.length)) 27 μ = some (bi (dX L xs).isSome, μ') ∧ Sm (Pc1 (a + 3)) μ μ' ∧ ∀ v, dX L xs = some v → gI μ' (a + 3) 0 = v := by
  have h := rk_go pr (L := L) hS ht xs.length xs k FU [] μ (Nat.le_refl _) (by unfold FU; omega) rfl w g6 hx hv hL trivial (by decide)
  rw [g.dx.1 L] at h
  obtain ⟨μ', s, r⟩ := h
  unfold f_Pr_reckon
  rw [pr_kO pr w, bsome]
  cases e : dX L xs with
  | none =>
    rw [e] at r
    exact ⟨μ', r, s, fun v hv => by cases hv⟩
  | some v =>
    rw [e] at r
    obtain ⟨r1, r2⟩ := r
    exact ⟨μ', r1, s, fun x hx => by cases hx; exact r2.1⟩
