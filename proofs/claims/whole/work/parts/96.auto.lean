/-! LAYER 2: reading a text, as a row of small turns: (mode, place, pending signs, steps told). Modes: 0 a factor is wanted, 1 a factor stands, 2 a piece is wanted, 3 a piece stands, 4 all of C stands, 5 a fault, 6 a sum stands -/
abbrev AS : Type := Nat × Nat × List Nat × CL
def isT (c : Nat) : Bool := c == 42 || c == 47 || c == 37
def isP (c : Nat) : Bool := c == 43 || c == 45
def isSg (c : Nat) : Bool := c == 60 || c == 62 || c == 61
def isD (c : Nat) : Bool := decide (48 ≤ c) && decide (c ≤ 57)
def xop (c : Nat) : Nat := if c = 43 then 2 else if c = 45 then 3 else if c = 42 then 4 else if c = 47 then 5 else if c = 37 then 6 else if c = 60 then 7 else if c = 62 then 8 else if c = 61 then 9 else if c = 38 then 11 else 12
def lix (c : Nat) : Nat := if c = 98 then 0 else if c = 118 then 1 else if c = 105 then 2 else if c = 107 then 3 else if c = 102 then 4 else if c = 104 then 5 else if c = 106 then 6 else if c = 117 then 7 else if c = 114 then 8 else if c = 110 then 9 else if c = 111 then 10 else if c = 120 then 11 else 12
def isO (c : Nat) : Bool := c == 40 || c == 91 || c == 33
def opn : List Nat → Nat
  | [] => 0
  | c :: s => opn s + (if isO c = true then 1 else 0)
def hdd (st : List Nat) : Nat := st.headD 0
def ndg (h : Nat → Nat) : Nat → Nat → Nat
  | 0, _ => 0
  | k + 1, at_ => if isD (h at_) = true then ndg h k (at_ + 1) + 1 else 0
def nvl (h : Nat → Nat) : Nat → Nat → Nat → Nat
  | 0, _, v => v
  | k + 1, at_, v => nvl h k (at_ + 1) (10 * v + (h at_ - 48))
def er (f at_ : Nat) : AS := (5, 1000 * f + at_, [], [])
def sp0_ (h : Nat → Nat) (a : Nat) (st : List Nat) (cm : CL) : AS :=
  if h a = 91 then (if opn st = 6 then er 5 a else (0, a + 1, 91 :: st, cm))
  else if isD (h a) = true then (if ndg h 6 a = 6 then er 2 (a + 5) else (1, a + ndg h 6 a, st, cm ++ [(0, nvl h (ndg h 6 a) a 0)]))
  else if lix (h a) < 12 then (1, a + 1, st, cm ++ [(1, lix (h a))])
  else er 1 a
def sp1_ (h : Nat → Nat) (a : Nat) (st : List Nat) (cm : CL) : AS :=
  if isT (hdd st) = true then (1, a, st.tail, cm ++ [(xop (hdd st), 0)])
  else if isT (h a) = true then (0, a + 1, h a :: st, cm)
  else if isP (hdd st) = true then (1, a, st.tail, cm ++ [(xop (hdd st), 0)])
  else if isP (h a) = true then (0, a + 1, h a :: st, cm)
  else if h a = 93 then (if hdd st = 91 then (1, a + 1, st.tail, cm) else er 1 a)
  else if hdd st = 91 then er 1 a
  else (6, a, st, cm)
def sp6_ (h : Nat → Nat) (a : Nat) (st : List Nat) (cm : CL) : AS :=
  if isSg (hdd st) = true then (3, a, st.tail, cm ++ [(xop (hdd st), 0)])
  else if st = [] then (6, a, st, cm)
  else if isSg (h a) = true then (0, a + 1, h a :: st, cm)
  else er 1 a
def sp2_ (h : Nat → Nat) (a : Nat) (st : List Nat) (cm : CL) : AS :=
  if h a = 33 ∨ h a = 40 then (if opn st = 6 then er 5 a else (2, a + 1, h a :: st, cm))
  else (0, a, st, cm)
def sp3_ (h : Nat → Nat) (a : Nat) (st : List Nat) (cm : CL) : AS :=
  if hdd st = 33 then (3, a, st.tail, cm ++ [(10, 0)])
  else if hdd st = 38 then (3, a, st.tail, cm ++ [(11, 0)])
  else if h a = 38 then (2, a + 1, 38 :: st, cm)
  else if hdd st = 124 then (3, a, st.tail, cm ++ [(12, 0)])
  else if h a = 124 then (2, a + 1, 124 :: st, cm)
  else if h a = 41 then (if st.tail = [] then (4, a + 1, [], cm) else (3, a + 1, st.tail, cm))
  else er 1 a
def stp (h : Nat → Nat) (x : AS) : AS := match x with
  | (0, a, st, cm) => sp0_ h a st cm
  | (1, a, st, cm) => sp1_ h a st cm
  | (2, a, st, cm) => sp2_ h a st cm
  | (3, a, st, cm) => sp3_ h a st cm
  | (6, a, st, cm) => sp6_ h a st cm
  | x => x
def itr {σ : Type} (f : σ → σ) : Nat → σ → σ
  | 0, x => x
  | k + 1, x => itr f k (f x)
theorem itr_add {σ : Type} (f : σ → σ) (j : Nat) : ∀ (k : Nat) (x : σ), itr f (k + j) x = itr f j (itr f k x)
  | 0, x => by rw [Nat.zero_add]; rfl
  | k + 1, x => by rw [Nat.add_right_comm]; exact itr_add f j k (f x)
theorem itr_fix {σ : Type} {f : σ → σ} {x : σ} (h : f x = x) : ∀ k, itr f k x = x
  | 0 => rfl
  | k + 1 => by show itr f k (f x) = x; rw [h]; exact itr_fix h k
def rch (h : Nat → Nat) (x y : AS) : Prop := ∃ k, itr (stp h) k x = y
theorem rch.rf {h : Nat → Nat} {x : AS} : rch h x x := ⟨0, rfl⟩
theorem rch.tr {h : Nat → Nat} {x y z : AS} (a : rch h x y) (b : rch h y z) : rch h x z := by
  obtain ⟨k, hk⟩ := a
  obtain ⟨j, hj⟩ := b
  exact ⟨k + j, by rw [itr_add, hk, hj]⟩
theorem rch.st {h : Nat → Nat} {x y z : AS} (e : stp h x = y) (a : rch h y z) : rch h x z := by
  obtain ⟨k, hk⟩ := a
  exact ⟨k + 1, by show itr (stp h) k (stp h x) = z; rw [e, hk]⟩
theorem rch.one {h : Nat → Nat} {x y : AS} (e : stp h x = y) : rch h x y := rch.st e rch.rf
theorem rch.uq {h : Nat → Nat} {x a b : AS} (ha : rch h x a) (hb : rch h x b) (fa : stp h a = a) (fb : stp h b = b) : a = b := by
  obtain ⟨k, hk⟩ := ha
  obtain ⟨j, hj⟩ := hb
  have e1 : itr (stp h) (k + j) x = a := by rw [itr_add, hk, itr_fix fa]
  have e2 : itr (stp h) (k + j) x = b := by rw [Nat.add_comm, itr_add, hj, itr_fix fb]
  rw [← e1, e2]
theorem fix5 {h : Nat → Nat} {z : Nat} : stp h (5, z, [], []) = (5, z, [], []) := rfl
theorem fix4 {h : Nat → Nat} {z : Nat} {cm : CL} : stp h (4, z, [], cm) = (4, z, [], cm) := rfl
theorem fix6 {h : Nat → Nat} {z : Nat} {cm : CL} : stp h (6, z, [], cm) = (6, z, [], cm) := rfl
section
variable {h : Nat → Nat} {at_ : Nat} {st : List Nat} {cm : CL}
theorem a0_br (e : h at_ = 91) (o : ¬ opn st = 6) : stp h (0, at_, st, cm) = (0, at_ + 1, 91 :: st, cm) := by
  show sp0_ h at_ st cm = _; unfold sp0_; rw [if_pos e, if_neg o]
theorem a0_brE (e : h at_ = 91) (o : opn st = 6) : stp h (0, at_, st, cm) = er 5 at_ := by
  show sp0_ h at_ st cm = _; unfold sp0_; rw [if_pos e, if_pos o]
theorem isD_n91 {c : Nat} (h : isD c = true) : ¬ c = 91 := by
  unfold isD at h; simp only [Bool.and_eq_true, decide_eq_true_eq] at h; omega
theorem a0_dg (e : isD (h at_) = true) (o : ¬ ndg h 6 at_ = 6) : stp h (0, at_, st, cm) = (1, at_ + ndg h 6 at_, st, cm ++ [(0, nvl h (ndg h 6 at_) at_ 0)]) := by
  show sp0_ h at_ st cm = _; unfold sp0_; rw [if_neg (isD_n91 e), if_pos e, if_neg o]
theorem a0_dgE (e : isD (h at_) = true) (o : ndg h 6 at_ = 6) : stp h (0, at_, st, cm) = er 2 (at_ + 5) := by
  show sp0_ h at_ st cm = _; unfold sp0_; rw [if_neg (isD_n91 e), if_pos e, if_pos o]
theorem a0_le (e1 : ¬ h at_ = 91) (e2 : isD (h at_) = false) (e : lix (h at_) < 12) : stp h (0, at_, st, cm) = (1, at_ + 1, st, cm ++ [(1, lix (h at_))]) := by
  show sp0_ h at_ st cm = _; unfold sp0_; rw [if_neg e1, if_neg (by rw [e2]; decide), if_pos e]
theorem a0_E (e1 : ¬ h at_ = 91) (e2 : isD (h at_) = false) (e : ¬ lix (h at_) < 12) : stp h (0, at_, st, cm) = er 1 at_ := by
  show sp0_ h at_ st cm = _; unfold sp0_; rw [if_neg e1, if_neg (by rw [e2]; decide), if_neg e]
theorem a1_pT (e : isT (hdd st) = true) : stp h (1, at_, st, cm) = (1, at_, st.tail, cm ++ [(xop (hdd st), 0)]) := by
  show sp1_ h at_ st cm = _; unfold sp1_; rw [if_pos e]
theorem a1_T (e1 : isT (hdd st) = false) (e : isT (h at_) = true) : stp h (1, at_, st, cm) = (0, at_ + 1, h at_ :: st, cm) := by
  show sp1_ h at_ st cm = _; unfold sp1_; rw [if_neg (by rw [e1]; decide), if_pos e]
theorem a1_pP (e1 : isT (hdd st) = false) (e2 : isT (h at_) = false) (e : isP (hdd st) = true) : stp h (1, at_, st, cm) = (1, at_, st.tail, cm ++ [(xop (hdd st), 0)]) := by
  show sp1_ h at_ st cm = _; unfold sp1_; rw [if_neg (by rw [e1]; decide), if_neg (by rw [e2]; decide), if_pos e]
theorem a1_P (e1 : isT (hdd st) = false) (e2 : isT (h at_) = false) (e3 : isP (hdd st) = false) (e : isP (h at_) = true) : stp h (1, at_, st, cm) = (0, at_ + 1, h at_ :: st, cm) := by
  show sp1_ h at_ st cm = _; unfold sp1_; rw [if_neg (by rw [e1]; decide), if_neg (by rw [e2]; decide), if_neg (by rw [e3]; decide), if_pos e]
theorem a1_end (e1 : isT (hdd st) = false) (e2 : isT (h at_) = false) (e3 : isP (hdd st) = false) (e4 : isP (h at_) = false) : stp h (1, at_, st, cm) = if h at_ = 93 then (if hdd st = 91 then (1, at_ + 1, st.tail, cm) else er 1 at_) else if hdd st = 91 then er 1 at_ else (6, at_, st, cm) := by
  show sp1_ h at_ st cm = _; unfold sp1_; rw [if_neg (by rw [e1]; decide), if_neg (by rw [e2]; decide), if_neg (by rw [e3]; decide), if_neg (by rw [e4]; decide)]
theorem a6_S (e : isSg (hdd st) = true) : stp h (6, at_, st, cm) = (3, at_, st.tail, cm ++ [(xop (hdd st), 0)]) := by
  show sp6_ h at_ st cm = _; unfold sp6_; rw [if_pos e]
theorem a6_n (e1 : isSg (hdd st) = false) (e : ¬ st = []) : stp h (6, at_, st, cm) = if isSg (h at_) = true then (0, at_ + 1, h at_ :: st, cm) else er 1 at_ := by
  show sp6_ h at_ st cm = _; unfold sp6_; rw [if_neg (by rw [e1]; decide), if_neg e]
theorem a2_o (e : h at_ = 33 ∨ h at_ = 40) : stp h (2, at_, st, cm) = if opn st = 6 then er 5 at_ else (2, at_ + 1, h at_ :: st, cm) := by
  show sp2_ h at_ st cm = _; unfold sp2_; rw [if_pos e]
theorem a2_n (e : ¬ (h at_ = 33 ∨ h at_ = 40)) : stp h (2, at_, st, cm) = (0, at_, st, cm) := by
  show sp2_ h at_ st cm = _; unfold sp2_; rw [if_neg e]
theorem a3_eq : stp h (3, at_, st, cm) = if hdd st = 33 then (3, at_, st.tail, cm ++ [(10, 0)])
    else if hdd st = 38 then (3, at_, st.tail, cm ++ [(11, 0)])
    else if h at_ = 38 then (2, at_ + 1, 38 :: st, cm)
    else if hdd st = 124 then (3, at_, st.tail, cm ++ [(12, 0)])
    else if h at_ = 124 then (2, at_ + 1, 124 :: st, cm)
    else if h at_ = 41 then (if st.tail = [] then (4, at_ + 1, [], cm) else (3, at_ + 1, st.tail, cm))
    else er 1 at_ := by
  show sp3_ h at_ st cm = _; unfold sp3_; rfl
theorem isT_c {c : Nat} (e : isT c = true) : c = 42 ∨ c = 47 ∨ c = 37 := by
  unfold isT at e; simp only [Bool.or_eq_true, beq_iff_eq] at e; omega
theorem isP_c {c : Nat} (e : isP c = true) : c = 43 ∨ c = 45 := by
  unfold isP at e; simp only [Bool.or_eq_true, beq_iff_eq] at e; omega
theorem isSg_c {c : Nat} (e : isSg c = true) : c = 60 ∨ c = 62 ∨ c = 61 := by
  unfold isSg at e; simp only [Bool.or_eq_true, beq_iff_eq] at e; omega
theorem isT_P {c : Nat} (e : isP c = true) : isT c = false := by
  rcases isP_c e with rfl | rfl <;> rfl
theorem opn_T {c : Nat} (e : isT c = true) : opn (c :: st) = opn st := by
  rcases isT_c e with rfl | rfl | rfl <;> rfl
theorem opn_P {c : Nat} (e : isP c = true) : opn (c :: st) = opn st := by
  rcases isP_c e with rfl | rfl <;> rfl
theorem opn_S {c : Nat} (e : isSg c = true) : opn (c :: st) = opn st := by
  rcases isSg_c e with rfl | rfl | rfl <;> rfl
end
/-! what reading a part of a text comes to: w 0 either, 1 all, 2 piece, 3 sum, 4 product, 5 factor -/
def mA (w : Nat) : Nat := if w ≤ 2 then 2 else 0
def mB (w : Nat) : Nat := if w ≤ 2 then 3 else 1
def sid (w : Nat) (st : List Nat) : Prop := if w = 0 then hdd st = 40 else if w = 1 then hdd st = 40 ∨ hdd st = 124 else if w = 2 then hdd st = 40 ∨ hdd st = 33 ∨ hdd st = 38 ∨ hdd st = 124 else if w = 3 then isT (hdd st) = false ∧ isP (hdd st) = false else if w = 4 then isT (hdd st) = false else True
def AOk (h : Nat → Nat) (w o a b : Nat) (ms : CL) : Prop := ∀ st cm, opn st = o → sid w st → rch h (mA w, a, st, cm) (mB w, b, st, cm ++ ms)
def AEr (h : Nat → Nat) (w o a z : Nat) : Prop := ∀ st cm, opn st = o → sid w st → rch h (mA w, a, st, cm) (5, z, [], [])
def enc (w c : Nat) : Prop := if w = 0 then ¬ c = 38 ∧ ¬ c = 124 else if w = 1 then ¬ c = 38 else if w = 3 then isT c = false ∧ isP c = false else if w = 4 then isT c = false else True
theorem lix_n91 {c : Nat} (e : lix c < 12) : ¬ c = 91 ∧ isD c = false := by
  unfold lix at e
  rcases (show c = 98 ∨ c = 118 ∨ c = 105 ∨ c = 107 ∨ c = 102 ∨ c = 104 ∨ c = 106 ∨ c = 117 ∨ c = 114 ∨ c = 110 ∨ c = 111 ∨ c = 120 ∨ (¬ c = 98 ∧ ¬ c = 118 ∧ ¬ c = 105 ∧ ¬ c = 107 ∧ ¬ c = 102 ∧ ¬ c = 104 ∧ ¬ c = 106 ∧ ¬ c = 117 ∧ ¬ c = 114 ∧ ¬ c = 110 ∧ ¬ c = 111 ∧ ¬ c = 120) by omega) with rfl | rfl | rfl | rfl | rfl | rfl | rfl | rfl | rfl | rfl | rfl | rfl | ⟨h1, h2, h3, h4, h5, h6, h7, h8, h9, h10, h11, h12⟩
  all_goals try (exact ⟨by decide, by decide⟩)
  rw [if_neg h1, if_neg h2, if_neg h3, if_neg h4, if_neg h5, if_neg h6, if_neg h7, if_neg h8, if_neg h9, if_neg h10, if_neg h11, if_neg h12] at e
  exact absurd e (by decide)
/-! factors -/
theorem F_le {h : Nat → Nat} {o a : Nat} (e : lix (h a) < 12) : AOk h 5 o a (a + 1) [(1, lix (h a))] := fun _ _ _ _ => rch.one (a0_le (lix_n91 e).1 (lix_n91 e).2 e)
theorem F_dg {h : Nat → Nat} {o a : Nat} (e : isD (h a) = true) (g : ¬ ndg h 6 a = 6) : AOk h 5 o a (a + ndg h 6 a) [(0, nvl h (ndg h 6 a) a 0)] := fun _ _ _ _ => rch.one (a0_dg e g)
theorem F_dgE {h : Nat → Nat} {o a : Nat} (e : isD (h a) = true) (g : ndg h 6 a = 6) : AEr h 5 o a (1000 * 2 + (a + 5)) := fun _ _ _ _ => rch.one (a0_dgE e g)
theorem F_E {h : Nat → Nat} {o a : Nat} (e1 : ¬ h a = 91) (e2 : isD (h a) = false) (e : ¬ lix (h a) < 12) : AEr h 5 o a (1000 * 1 + a) := fun _ _ _ _ => rch.one (a0_E e1 e2 e)
theorem F_brE {h : Nat → Nat} {a : Nat} (e : h a = 91) : AEr h 5 6 a (1000 * 5 + a) := fun _ _ ho _ => rch.one (a0_brE e ho)
theorem F_br_in {h : Nat → Nat} {o a z : Nat} (ho : o < 6) (e : h a = 91) (r : AEr h 3 (o + 1) (a + 1) z) : AEr h 5 o a z := fun st cm hs _ =>
  rch.st (a0_br e (by omega)) (r (91 :: st) cm (by show opn st + 1 = o + 1; omega) ⟨rfl, rfl⟩)
theorem F_br_ok {h : Nat → Nat} {o a b : Nat} {ms : CL} (ho : o < 6) (e : h a = 91) (r : AOk h 3 (o + 1) (a + 1) b ms) (k : enc 3 (h b)) (e2 : h b = 93) : AOk h 5 o a (b + 1) ms := fun st cm hs _ =>
  rch.st (a0_br e (by omega)) ((r (91 :: st) cm (by show opn st + 1 = o + 1; omega) ⟨rfl, rfl⟩).tr (rch.one (by
    show stp h (1, b, 91 :: st, cm ++ ms) = _
    rw [a1_end rfl k.1 rfl k.2, if_pos e2, if_pos (show hdd (91 :: st) = 91 from rfl)]; rfl)))
theorem F_br_cl {h : Nat → Nat} {o a b : Nat} {ms : CL} (ho : o < 6) (e : h a = 91) (r : AOk h 3 (o + 1) (a + 1) b ms) (k : enc 3 (h b)) (e2 : ¬ h b = 93) : AEr h 5 o a (1000 * 1 + b) := fun st cm hs _ =>
  rch.st (a0_br e (by omega)) ((r (91 :: st) cm (by show opn st + 1 = o + 1; omega) ⟨rfl, rfl⟩).tr (rch.one (by
    show stp h (1, b, 91 :: st, cm ++ ms) = _
    rw [a1_end rfl k.1 rfl k.2, if_neg e2, if_pos (show hdd (91 :: st) = 91 from rfl)]; rfl)))
/-! products: o is what is pending, as far as it matters -/
theorem P_in {h : Nat → Nat} {o a b : Nat} {ms : CL} (r : AOk h 5 o a b ms) : AOk h 4 o a b ms := fun st cm hs _ => r st cm hs trivial
theorem P_inE {h : Nat → Nat} {o a z : Nat} (r : AEr h 5 o a z) : AEr h 4 o a z := fun st cm hs _ => r st cm hs trivial
theorem P_mE {h : Nat → Nat} {o a b z : Nat} {ms : CL} (r : AOk h 4 o a b ms) (e : isT (h b) = true) (r2 : AEr h 5 o (b + 1) z) : AEr h 4 o a z := fun st cm hs hi =>
  (r st cm hs hi).tr (rch.st (a1_T hi e) (r2 (h b :: st) _ (by rw [opn_T e]; exact hs) trivial))
theorem P_m {h : Nat → Nat} {o a b b2 : Nat} {ms m2 : CL} (r : AOk h 4 o a b ms) (e : isT (h b) = true) (r2 : AOk h 5 o (b + 1) b2 m2) : AOk h 4 o a b2 (ms ++ (m2 ++ [(xop (h b), 0)])) := fun st cm hs hi =>
  (r st cm hs hi).tr (rch.st (a1_T hi e) ((r2 (h b :: st) _ (by rw [opn_T e]; exact hs) trivial).tr (rch.one (by
    show stp h (1, b2, h b :: st, cm ++ ms ++ m2) = _
    rw [a1_pT (st := h b :: st) e]
    show (1, b2, st, _) = (1, b2, st, _)
    simp only [List.append_assoc]; rfl))))
/-! sums -/
theorem S_in {h : Nat → Nat} {o a b : Nat} {ms : CL} (r : AOk h 4 o a b ms) : AOk h 3 o a b ms := fun st cm hs hi => r st cm hs hi.1
theorem S_inE {h : Nat → Nat} {o a z : Nat} (r : AEr h 4 o a z) : AEr h 3 o a z := fun st cm hs hi => r st cm hs hi.1
theorem S_mE {h : Nat → Nat} {o a b z : Nat} {ms : CL} (r : AOk h 3 o a b ms) (e0 : isT (h b) = false) (e : isP (h b) = true) (r2 : AEr h 4 o (b + 1) z) : AEr h 3 o a z := fun st cm hs hi =>
  (r st cm hs hi).tr (rch.st (a1_P hi.1 e0 hi.2 e) (r2 (h b :: st) _ (by rw [opn_P e]; exact hs) (isT_P e)))
theorem S_m {h : Nat → Nat} {o a b b2 : Nat} {ms m2 : CL} (r : AOk h 3 o a b ms) (e0 : isT (h b) = false) (e : isP (h b) = true) (r2 : AOk h 4 o (b + 1) b2 m2) (k2 : isT (h b2) = false) : AOk h 3 o a b2 (ms ++ (m2 ++ [(xop (h b), 0)])) := fun st cm hs hi =>
  (r st cm hs hi).tr (rch.st (a1_P hi.1 e0 hi.2 e) ((r2 (h b :: st) _ (by rw [opn_P e]; exact hs) (isT_P e)).tr (rch.one (by
    show stp h (1, b2, h b :: st, cm ++ ms ++ m2) = _
    rw [a1_pP (st := h b :: st) (isT_P e) k2 e]
    show (1, b2, st, _) = (1, b2, st, _)
    simp only [List.append_assoc]; rfl))))
/-! pieces -/
theorem sid2 {st : List Nat} (hi : sid 2 st) : isT (hdd st) = false ∧ isP (hdd st) = false ∧ isSg (hdd st) = false ∧ ¬ hdd st = 91 ∧ ¬ st = [] := by
  have hi : hdd st = 40 ∨ hdd st = 33 ∨ hdd st = 38 ∨ hdd st = 124 := hi
  refine ⟨?_, ?_, ?_, ?_, ?_⟩
  · rcases hi with e | e | e | e <;> rw [e] <;> rfl
  · rcases hi with e | e | e | e <;> rw [e] <;> rfl
  · rcases hi with e | e | e | e <;> rw [e] <;> rfl
  · omega
  · intro e; subst e
    rcases hi with e | e | e | e <;> exact absurd e (by decide)
theorem C_n1E {h : Nat → Nat} {o a z : Nat} (e : ¬ (h a = 33 ∨ h a = 40)) (r : AEr h 3 o a z) : AEr h 2 o a z := fun st cm hs hi =>
  rch.st (a2_n e) (r st cm hs ⟨(sid2 hi).1, (sid2 hi).2.1⟩)
theorem C_n1S {h : Nat → Nat} {o a b : Nat} {ms : CL} (e : ¬ (h a = 33 ∨ h a = 40)) (r : AOk h 3 o a b ms) (k : enc 3 (h b)) (e2 : isSg (h b) = false) : AEr h 2 o a (1000 * 1 + b) := fun st cm hs hi =>
  rch.st (a2_n e) ((r st cm hs ⟨(sid2 hi).1, (sid2 hi).2.1⟩).tr (by
    obtain ⟨i1, i2, i3, i4, i5⟩ := sid2 hi
    have a1 := a1_end (h := h) (at_ := b) (st := st) (cm := cm ++ ms) i1 k.1 i2 k.2
    by_cases c : h b = 93
    · refine rch.one ?_
      show stp h (1, b, st, cm ++ ms) = _
      rw [a1, if_pos c, if_neg i4]; rfl
    · refine rch.st (y := (6, b, st, cm ++ ms)) ?_ (rch.one ?_)
      · show stp h (1, b, st, cm ++ ms) = _
        rw [a1, if_neg c, if_neg i4]
      · rw [a6_n i3 i5, if_neg (by rw [e2]; decide)]; rfl))
theorem isSg_93 {c : Nat} (e : isSg c = true) : ¬ c = 93 := by rcases isSg_c e with rfl | rfl | rfl <;> decide
theorem C_n2E {h : Nat → Nat} {o a b z : Nat} {ms : CL} (e : ¬ (h a = 33 ∨ h a = 40)) (r : AOk h 3 o a b ms) (k : enc 3 (h b)) (e2 : isSg (h b) = true) (r2 : AEr h 3 o (b + 1) z) : AEr h 2 o a z := fun st cm hs hi =>
  rch.st (a2_n e) ((r st cm hs ⟨(sid2 hi).1, (sid2 hi).2.1⟩).tr (by
    obtain ⟨i1, i2, i3, i4, i5⟩ := sid2 hi
    refine rch.st (y := (6, b, st, cm ++ ms)) ?_ (rch.st (y := (0, b + 1, h b :: st, cm ++ ms)) ?_ (r2 (h b :: st) (cm ++ ms) (by rw [opn_S e2]; exact hs) ?_))
    · show stp h (1, b, st, cm ++ ms) = _
      rw [a1_end i1 k.1 i2 k.2, if_neg (isSg_93 e2), if_neg i4]
    · rw [a6_n i3 i5, if_pos e2]
    · show isT (h b) = false ∧ isP (h b) = false
      exact k))
theorem C_n2 {h : Nat → Nat} {o a b b2 : Nat} {ms m2 : CL} (e : ¬ (h a = 33 ∨ h a = 40)) (r : AOk h 3 o a b ms) (k : enc 3 (h b)) (e2 : isSg (h b) = true) (r2 : AOk h 3 o (b + 1) b2 m2) (k2 : enc 3 (h b2)) (c2 : ¬ h b2 = 93) : AOk h 2 o a b2 (ms ++ (m2 ++ [(xop (h b), 0)])) := fun st cm hs hi =>
  rch.st (a2_n e) ((r st cm hs ⟨(sid2 hi).1, (sid2 hi).2.1⟩).tr (by
    obtain ⟨i1, i2, i3, i4, i5⟩ := sid2 hi
    have n91 : ¬ h b = 91 := by rcases isSg_c e2 with e | e | e <;> rw [e] <;> decide
    refine rch.st (y := (6, b, st, cm ++ ms)) ?_ (rch.st (y := (0, b + 1, h b :: st, cm ++ ms)) ?_ ((r2 (h b :: st) (cm ++ ms) (by rw [opn_S e2]; exact hs) ?_).tr (rch.st (y := (6, b2, h b :: st, cm ++ ms ++ m2)) ?_ (rch.one ?_))))
    · show stp h (1, b, st, cm ++ ms) = _
      rw [a1_end i1 k.1 i2 k.2, if_neg (isSg_93 e2), if_neg i4]
    · rw [a6_n i3 i5, if_pos e2]
    · exact k
    · show stp h (1, b2, h b :: st, cm ++ ms ++ m2) = _
      rw [a1_end (show isT (hdd (h b :: st)) = false from k.1) k2.1 (show isP (hdd (h b :: st)) = false from k.2) k2.2, if_neg c2, if_neg (show ¬ hdd (h b :: st) = 91 from n91)]
    · rw [a6_S (st := h b :: st) e2]
      show (3, b2, st, _) = (3, b2, st, _)
      simp only [List.append_assoc]; rfl))
theorem C_n2D {h : Nat → Nat} {o a b b2 : Nat} {ms m2 : CL} (e : ¬ (h a = 33 ∨ h a = 40)) (r : AOk h 3 o a b ms) (k : enc 3 (h b)) (e2 : isSg (h b) = true) (r2 : AOk h 3 o (b + 1) b2 m2) (k2 : enc 3 (h b2)) (c2 : h b2 = 93) : AEr h 2 o a (1000 * 1 + b2) := fun st cm hs hi =>
  rch.st (a2_n e) ((r st cm hs ⟨(sid2 hi).1, (sid2 hi).2.1⟩).tr (by
    obtain ⟨i1, i2, i3, i4, i5⟩ := sid2 hi
    have n91 : ¬ h b = 91 := by rcases isSg_c e2 with e | e | e <;> rw [e] <;> decide
    refine rch.st (y := (6, b, st, cm ++ ms)) ?_ (rch.st (y := (0, b + 1, h b :: st, cm ++ ms)) ?_ ((r2 (h b :: st) (cm ++ ms) (by rw [opn_S e2]; exact hs) ?_).tr (rch.one ?_)))
    · show stp h (1, b, st, cm ++ ms) = _
      rw [a1_end i1 k.1 i2 k.2, if_neg (isSg_93 e2), if_neg i4]
    · rw [a6_n i3 i5, if_pos e2]
    · exact k
    · show stp h (1, b2, h b :: st, cm ++ ms ++ m2) = _
      rw [a1_end (show isT (hdd (h b :: st)) = false from k.1) k2.1 (show isP (hdd (h b :: st)) = false from k.2) k2.2, if_pos c2, if_neg (show ¬ hdd (h b :: st) = 91 from n91)]; rfl))
theorem C_o {h : Nat → Nat} {a : Nat} (e : h a = 33 ∨ h a = 40) : AEr h 2 6 a (1000 * 5 + a) := fun st cm hs _ => rch.one (by
  show stp h (2, a, st, cm) = _
  rw [a2_o e, if_pos hs]; rfl)
theorem C_notE {h : Nat → Nat} {o a z : Nat} (ho : o < 6) (e : h a = 33) (r : AEr h 2 (o + 1) (a + 1) z) : AEr h 2 o a z := fun st cm hs _ =>
  rch.st (y := (2, a + 1, 33 :: st, cm)) (by show stp h (2, a, st, cm) = _; rw [a2_o (Or.inl e), if_neg (by omega), e]) (r (33 :: st) cm (by show opn st + 1 = o + 1; omega) (Or.inr (Or.inl rfl)))
theorem C_not {h : Nat → Nat} {o a b : Nat} {ms : CL} (ho : o < 6) (e : h a = 33) (r : AOk h 2 (o + 1) (a + 1) b ms) : AOk h 2 o a b (ms ++ [(10, 0)]) := fun st cm hs _ =>
  rch.st (y := (2, a + 1, 33 :: st, cm)) (by show stp h (2, a, st, cm) = _; rw [a2_o (Or.inl e), if_neg (by omega), e]) ((r (33 :: st) cm (by show opn st + 1 = o + 1; omega) (Or.inr (Or.inl rfl))).tr (rch.one (by
    show stp h (3, b, 33 :: st, cm ++ ms) = _
    rw [a3_eq, if_pos (show hdd (33 :: st) = 33 from rfl)]
    show (3, b, st, _) = (3, b, st, _)
    simp only [List.append_assoc])))
theorem C_parE {h : Nat → Nat} {o a z : Nat} (ho : o < 6) (e : h a = 40) (r : AEr h 0 (o + 1) (a + 1) z) : AEr h 2 o a z := fun st cm hs _ =>
  rch.st (y := (2, a + 1, 40 :: st, cm)) (by show stp h (2, a, st, cm) = _; rw [a2_o (Or.inr e), if_neg (by omega), e]) (r (40 :: st) cm (by show opn st + 1 = o + 1; omega) rfl)
theorem a3_40 {h : Nat → Nat} {b : Nat} {st : List Nat} {cm : CL} (k : enc 0 (h b)) : stp h (3, b, 40 :: st, cm) = if h b = 41 then (if st = [] then (4, b + 1, [], cm) else (3, b + 1, st, cm)) else er 1 b := by
  rw [a3_eq, if_neg (show ¬ hdd (40 :: st) = 33 by show ¬ 40 = 33; decide), if_neg (show ¬ hdd (40 :: st) = 38 by show ¬ 40 = 38; decide), if_neg k.1, if_neg (show ¬ hdd (40 :: st) = 124 by show ¬ 40 = 124; decide), if_neg k.2]; rfl
theorem C_parC {h : Nat → Nat} {o a b : Nat} {ms : CL} (ho : o < 6) (e : h a = 40) (r : AOk h 0 (o + 1) (a + 1) b ms) (k : enc 0 (h b)) (e2 : ¬ h b = 41) : AEr h 2 o a (1000 * 1 + b) := fun st cm hs _ =>
  rch.st (y := (2, a + 1, 40 :: st, cm)) (by show stp h (2, a, st, cm) = _; rw [a2_o (Or.inr e), if_neg (by omega), e]) ((r (40 :: st) cm (by show opn st + 1 = o + 1; omega) rfl).tr (rch.one (by
    show stp h (3, b, 40 :: st, cm ++ ms) = _
    rw [a3_40 k, if_neg e2]; rfl)))
theorem C_par {h : Nat → Nat} {o a b : Nat} {ms : CL} (ho : o < 6) (e : h a = 40) (r : AOk h 0 (o + 1) (a + 1) b ms) (k : enc 0 (h b)) (e2 : h b = 41) : AOk h 2 o a (b + 1) ms := fun st cm hs hi =>
  rch.st (y := (2, a + 1, 40 :: st, cm)) (by show stp h (2, a, st, cm) = _; rw [a2_o (Or.inr e), if_neg (by omega), e]) ((r (40 :: st) cm (by show opn st + 1 = o + 1; omega) rfl).tr (rch.one (by
    show stp h (3, b, 40 :: st, cm ++ ms) = _
    rw [a3_40 k, if_pos e2, if_neg (sid2 hi).2.2.2.2]; rfl)))
/-! all, either -/
theorem A_in {h : Nat → Nat} {o a b : Nat} {ms : CL} (r : AOk h 2 o a b ms) : AOk h 1 o a b ms := fun st cm hs hi => r st cm hs (by
  rcases hi with e | e
  · exact Or.inl e
  · exact Or.inr (Or.inr (Or.inr e)))
theorem A_inE {h : Nat → Nat} {o a z : Nat} (r : AEr h 2 o a z) : AEr h 1 o a z := fun st cm hs hi => r st cm hs (by
  rcases hi with e | e
  · exact Or.inl e
  · exact Or.inr (Or.inr (Or.inr e)))
theorem a3_38 {h : Nat → Nat} {b : Nat} {st : List Nat} {cm : CL} (hi : sid 1 st) (e : h b = 38) : stp h (3, b, st, cm) = (2, b + 1, 38 :: st, cm) := by
  have hi : hdd st = 40 ∨ hdd st = 124 := hi
  rw [a3_eq, if_neg (by omega), if_neg (by omega), if_pos e]
theorem A_mE {h : Nat → Nat} {o a b z : Nat} {ms : CL} (r : AOk h 1 o a b ms) (e : h b = 38) (r2 : AEr h 2 o (b + 1) z) : AEr h 1 o a z := fun st cm hs hi =>
  (r st cm hs hi).tr (rch.st (a3_38 hi e) (r2 (38 :: st) _ hs (Or.inr (Or.inr (Or.inl rfl)))))
theorem A_m {h : Nat → Nat} {o a b b2 : Nat} {ms m2 : CL} (r : AOk h 1 o a b ms) (e : h b = 38) (r2 : AOk h 2 o (b + 1) b2 m2) : AOk h 1 o a b2 (ms ++ (m2 ++ [(11, 0)])) := fun st cm hs hi =>
  (r st cm hs hi).tr (rch.st (a3_38 hi e) ((r2 (38 :: st) _ hs (Or.inr (Or.inr (Or.inl rfl)))).tr (rch.one (by
    show stp h (3, b2, 38 :: st, cm ++ ms ++ m2) = _
    rw [a3_eq, if_neg (show ¬ hdd (38 :: st) = 33 by show ¬ 38 = 33; decide), if_pos (show hdd (38 :: st) = 38 from rfl)]
    show (3, b2, st, _) = (3, b2, st, _)
    simp only [List.append_assoc]))))
theorem O_in {h : Nat → Nat} {o a b : Nat} {ms : CL} (r : AOk h 1 o a b ms) : AOk h 0 o a b ms := fun st cm hs hi => r st cm hs (Or.inl hi)
theorem O_inE {h : Nat → Nat} {o a z : Nat} (r : AEr h 1 o a z) : AEr h 0 o a z := fun st cm hs hi => r st cm hs (Or.inl hi)
theorem a3_124 {h : Nat → Nat} {b : Nat} {st : List Nat} {cm : CL} (hi : hdd st = 40) (e : h b = 124) : stp h (3, b, st, cm) = (2, b + 1, 124 :: st, cm) := by
  rw [a3_eq, if_neg (by omega), if_neg (by omega), if_neg (by omega), if_neg (by omega), if_pos e]
theorem O_mE {h : Nat → Nat} {o a b z : Nat} {ms : CL} (r : AOk h 0 o a b ms) (e : h b = 124) (r2 : AEr h 1 o (b + 1) z) : AEr h 0 o a z := fun st cm hs hi =>
  (r st cm hs hi).tr (rch.st (a3_124 hi e) (r2 (124 :: st) _ hs (Or.inr rfl)))
theorem O_m {h : Nat → Nat} {o a b b2 : Nat} {ms m2 : CL} (r : AOk h 0 o a b ms) (e : h b = 124) (r2 : AOk h 1 o (b + 1) b2 m2) (k2 : ¬ h b2 = 38) : AOk h 0 o a b2 (ms ++ (m2 ++ [(12, 0)])) := fun st cm hs hi =>
  (r st cm hs hi).tr (rch.st (a3_124 hi e) ((r2 (124 :: st) _ hs (Or.inr rfl)).tr (rch.one (by
    show stp h (3, b2, 124 :: st, cm ++ ms ++ m2) = _
    rw [a3_eq, if_neg (show ¬ hdd (124 :: st) = 33 by show ¬ 124 = 33; decide), if_neg (show ¬ hdd (124 :: st) = 38 by show ¬ 124 = 38; decide), if_neg k2, if_pos (show hdd (124 :: st) = 124 from rfl)]
    show (3, b2, st, _) = (3, b2, st, _)
    simp only [List.append_assoc]))))
