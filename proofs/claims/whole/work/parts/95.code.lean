/-! LAYER 2: a text's steps, as lists: what they do in the class (rxl) and in the reference (rml) -/
abbrev CL : Type := List (Nat × Nat)
def wrk (op : Nat) (a b : Int32) : Int32 := if op = 2 then a + b else if op = 3 then a - b else if op = 4 then a * b else if op = 5 then (if b = 0 then 0 else a / b) else if op = 6 then (if b = 0 then 0 else irem a b) else if op = 7 then (if b ≤ a then 0 else 1) else if op = 8 then (if a ≤ b then 0 else 1) else if a = b then 1 else 0
def dv0 (op : Nat) (b : Int32) : Bool := decide ((op = 5 ∨ op = 6) ∧ b = 0)
def rxl (L : Nat → Int32) : CL → Nat → List Int32 → Option (Nat × List Int32)
  | [], sk, st => some (sk, st)
  | _ :: r, sk + 1, st => rxl L r sk st
  | (op, arg) :: r, 0, st =>
    if op = 0 ∨ op = 1 then (if 64 ≤ st.length then none else rxl L r 0 ((if op = 0 then nI arg else L arg) :: st))
    else match st with
      | [] => none
      | a :: s =>
        if op = 10 then rxl L r 0 ((1 - a) :: s)
        else if op = 11 ∨ op = 12 then (if decide (a = 0) = decide (op = 11) then rxl L r arg (a :: s) else rxl L r 0 s)
        else match s with
          | [] => none
          | b :: s2 => if dv0 op a = true then none else rxl L r 0 (wrk op b a :: s2)
def rml (L : Nat → Int32) : CL → List (Int32 × Bool) → Option (List (Int32 × Bool))
  | [], st => some st
  | (op, arg) :: r, st =>
    if op = 0 ∨ op = 1 then rml L r ((if op = 0 then nI arg else L arg, false) :: st)
    else match st with
      | [] => none
      | (v, f) :: s =>
        if op = 10 then rml L r ((1 - v, f) :: s)
        else match s with
          | [] => none
          | (w, g) :: s2 => rml L r ((if op = 11 ∨ op = 12 then (if g = true ∨ ¬ w = (if op = 11 then 1 else 0) then (w, g) else (v, f)) else (wrk op w v, g || (f || dv0 op v))) :: s2)
theorem rxl_app (L : Nat → Int32) (b : CL) : ∀ (a : CL) (sk : Nat) (st : List Int32), rxl L (a ++ b) sk st = (rxl L a sk st).bind fun q => rxl L b q.1 q.2
  | [], sk, st => rfl
  | _ :: r, sk + 1, st => by
    show rxl L (r ++ b) sk st = _
    rw [rxl_app L b r sk st]; rfl
  | (op, arg) :: r, 0, st => by
    have ih := rxl_app L b r
    simp only [List.cons_append, rxl]
    by_cases c1 : op = 0 ∨ op = 1
    · rw [if_pos c1, if_pos c1]
      by_cases c2 : 64 ≤ st.length
      · rw [if_pos c2, if_pos c2]; rfl
      · rw [if_neg c2, if_neg c2, ih]
    · rw [if_neg c1, if_neg c1]
      match st with
      | [] => rfl
      | a :: s =>
        simp only []
        by_cases c3 : op = 10
        · rw [if_pos c3, if_pos c3, ih]
        · rw [if_neg c3, if_neg c3]
          by_cases c4 : op = 11 ∨ op = 12
          · rw [if_pos c4, if_pos c4]
            by_cases c5 : decide (a = 0) = decide (op = 11)
            · rw [if_pos c5, if_pos c5, ih]
            · rw [if_neg c5, if_neg c5, ih]
          · rw [if_neg c4, if_neg c4]
            match s with
            | [] => rfl
            | b2 :: s2 =>
              simp only []
              by_cases c6 : dv0 op a = true
              · rw [if_pos c6, if_pos c6]; rfl
              · rw [if_neg c6, if_neg c6, ih]
theorem rxl_skip (L : Nat → Int32) (st : List Int32) : ∀ (b : CL), rxl L b b.length st = some (0, st)
  | [] => rfl
  | _ :: r => by
    show rxl L r r.length st = _
    exact rxl_skip L st r
theorem rml_app (L : Nat → Int32) (b : CL) : ∀ (a : CL) (st : List (Int32 × Bool)), rml L (a ++ b) st = (rml L a st).bind fun q => rml L b q
  | [], st => rfl
  | (op, arg) :: r, st => by
    have ih := rml_app L b r
    simp only [List.cons_append, rml]
    by_cases c1 : op = 0 ∨ op = 1
    · rw [if_pos c1, if_pos c1, ih]
    · rw [if_neg c1, if_neg c1]
      match st with
      | [] => rfl
      | (v, f) :: s =>
        simp only []
        by_cases c3 : op = 10
        · rw [if_pos c3, if_pos c3, ih]
        · rw [if_neg c3, if_neg c3]
          match s with
          | [] => rfl
          | (w, g) :: s2 => simp only []; rw [ih]
/-- both rows of steps mean the same: a value, or refused; cb: a truth value; q: how high the stack goes -/
def Gd (cb : Bool) (xs ms : CL) (q : Nat) : Prop := ∃ den : (Nat → Int32) → Option Int32, (∀ L st, st.length + q ≤ 64 → rxl L xs 0 st = (den L).map fun v => (0, v :: st)) ∧ (∀ L sm, ∃ v, rml L ms sm = some ((v, (den L).isNone) :: sm) ∧ ∀ w, den L = some w → v = w) ∧ (cb = true → ∀ L w, den L = some w → w = 0 ∨ w = 1)
theorem Gd.mono {cb : Bool} {xs ms : CL} {q q' : Nat} (h : Gd cb xs ms q) (hq : q ≤ q') : Gd cb xs ms q' := by
  obtain ⟨den, h1, h2, h3⟩ := h
  exact ⟨den, fun L st hs => h1 L st (by omega), h2, h3⟩
theorem rxl_pu (L : Nat → Int32) {op arg : Nat} {r : CL} {st : List Int32} (h : op = 0 ∨ op = 1) : rxl L ((op, arg) :: r) 0 st = if 64 ≤ st.length then none else rxl L r 0 ((if op = 0 then nI arg else L arg) :: st) := if_pos h
theorem rxl_nt (L : Nat → Int32) {arg : Nat} {r : CL} {a : Int32} {s : List Int32} : rxl L ((10, arg) :: r) 0 (a :: s) = rxl L r 0 ((1 - a) :: s) := rfl
theorem rxl_jp (L : Nat → Int32) {op arg : Nat} {r : CL} {a : Int32} {s : List Int32} (h : op = 11 ∨ op = 12) : rxl L ((op, arg) :: r) 0 (a :: s) = if decide (a = 0) = decide (op = 11) then rxl L r arg (a :: s) else rxl L r 0 s := by
  show (if op = 0 ∨ op = 1 then _ else if op = 10 then _ else if op = 11 ∨ op = 12 then _ else _) = _
  rw [if_neg (by omega), if_neg (by omega), if_pos h]
theorem rxl_ar (L : Nat → Int32) {op arg : Nat} {r : CL} {a b : Int32} {s : List Int32} (h1 : 2 ≤ op) (h2 : op ≤ 9) : rxl L ((op, arg) :: r) 0 (a :: b :: s) = if dv0 op a = true then none else rxl L r 0 (wrk op b a :: s) := by
  show (if op = 0 ∨ op = 1 then _ else if op = 10 then _ else if op = 11 ∨ op = 12 then _ else _) = _
  rw [if_neg (by omega), if_neg (by omega), if_neg (by omega)]
theorem rml_pu (L : Nat → Int32) {op arg : Nat} {r : CL} {st : List (Int32 × Bool)} (h : op = 0 ∨ op = 1) : rml L ((op, arg) :: r) st = rml L r ((if op = 0 then nI arg else L arg, false) :: st) := if_pos h
theorem rml_nt (L : Nat → Int32) {arg : Nat} {r : CL} {v : Int32} {f : Bool} {s : List (Int32 × Bool)} : rml L ((10, arg) :: r) ((v, f) :: s) = rml L r ((1 - v, f) :: s) := rfl
theorem rml_bi (L : Nat → Int32) {op arg : Nat} {r : CL} {v w : Int32} {f g : Bool} {s : List (Int32 × Bool)} (h1 : 2 ≤ op) (h2 : ¬ op = 10) : rml L ((op, arg) :: r) ((v, f) :: (w, g) :: s) = rml L r ((if op = 11 ∨ op = 12 then (if g = true ∨ ¬ w = (if op = 11 then 1 else 0) then (w, g) else (v, f)) else (wrk op w v, g || (f || dv0 op v))) :: s) := by
  show (if op = 0 ∨ op = 1 then _ else if op = 10 then _ else _) = _
  rw [if_neg (by omega), if_neg (by omega)]
theorem Gd_num (k : Nat) {q : Nat} (hq : 1 ≤ q) : Gd false [(0, k)] [(0, k)] q := by
  refine ⟨fun _ => some (nI k), fun L st hs => ?_, fun L sm => ⟨nI k, rfl, fun w h => by cases h; rfl⟩, fun h => by cases h⟩
  rw [rxl_pu L (Or.inl rfl), if_neg (by omega)]; rfl
theorem Gd_let (k : Nat) {q : Nat} (hq : 1 ≤ q) : Gd false [(1, k)] [(1, k)] q := by
  refine ⟨fun L => some (L k), fun L st hs => ?_, fun L sm => ⟨L k, rfl, fun w h => by cases h; rfl⟩, fun h => by cases h⟩
  rw [rxl_pu L (Or.inr rfl), if_neg (by omega)]; rfl
theorem rxl_op (L : Nat → Int32) {op : Nat} (h1 : 2 ≤ op) (h2 : op ≤ 9) (a b : Int32) (st : List Int32) : rxl L [(op, 0)] 0 (b :: a :: st) = if dv0 op b = true then none else some (0, wrk op a b :: st) := rxl_ar L h1 h2
theorem rml_op (L : Nat → Int32) {op : Nat} (h1 : 2 ≤ op) (h2 : op ≤ 9) (v w : Int32) (f g : Bool) (st : List (Int32 × Bool)) : rml L [(op, 0)] ((v, f) :: (w, g) :: st) = some ((wrk op w v, g || (f || dv0 op v)) :: st) := by
  rw [rml_bi L h1 (by omega), if_neg (by omega)]; rfl
theorem wrk_01 {op : Nat} (h1 : 7 ≤ op) (a b : Int32) : wrk op a b = 0 ∨ wrk op a b = 1 := by
  unfold wrk
  rw [if_neg (by omega), if_neg (by omega), if_neg (by omega), if_neg (by omega), if_neg (by omega)]
  repeat' split
  all_goals first | exact Or.inl rfl | exact Or.inr rfl
def dO (op : Nat) (d1 d2 : (Nat → Int32) → Option Int32) (L : Nat → Int32) : Option Int32 := match d1 L, d2 L with
  | some a, some b => if dv0 op b = true then none else some (wrk op a b)
  | _, _ => none
theorem dO_1 {op : Nat} {d1 d2 : (Nat → Int32) → Option Int32} {L : Nat → Int32} (e : d1 L = none) : dO op d1 d2 L = none := by
  unfold dO; rw [e]
theorem dO_2 {op : Nat} {d1 d2 : (Nat → Int32) → Option Int32} {L : Nat → Int32} (e : d2 L = none) : dO op d1 d2 L = none := by
  unfold dO; rw [e]; cases d1 L <;> rfl
theorem dO_3 {op : Nat} {d1 d2 : (Nat → Int32) → Option Int32} {L : Nat → Int32} {a b : Int32} (e1 : d1 L = some a) (e2 : d2 L = some b) : dO op d1 d2 L = if dv0 op b = true then none else some (wrk op a b) := by
  unfold dO; rw [e1, e2]
theorem Gd_op {cb : Bool} {c1 c2 : Bool} {op : Nat} (h1 : 2 ≤ op) (h2 : op ≤ 9) (hc : cb = true → 7 ≤ op) {x1 m1 x2 m2 : CL} {q q2 : Nat} (g1 : Gd c1 x1 m1 q) (g2 : Gd c2 x2 m2 q2) (hq : q2 + 1 ≤ q) : Gd cb (x1 ++ (x2 ++ [(op, 0)])) (m1 ++ (m2 ++ [(op, 0)])) q := by
  obtain ⟨d1, a1, b1, -⟩ := g1
  obtain ⟨d2, a2, b2, -⟩ := g2
  refine ⟨dO op d1 d2, fun L st hs => ?_, fun L sm => ?_, fun hcb L w hw => ?_⟩
  · rw [rxl_app, a1 L st hs]
    cases e1 : d1 L with
    | none => rw [dO_1 e1]; rfl
    | some a =>
      show rxl L (x2 ++ [(op, 0)]) 0 (a :: st) = _
      rw [rxl_app, a2 L (a :: st) (by show st.length + 1 + q2 ≤ 64; omega)]
      cases e2 : d2 L with
      | none => rw [dO_2 e2]; rfl
      | some b =>
        show rxl L [(op, 0)] 0 (b :: a :: st) = _
        rw [rxl_op L h1 h2, dO_3 e1 e2]
        cases dv0 op b <;> rfl
  · obtain ⟨v, e1, k1⟩ := b1 L sm
    obtain ⟨w, e2, k2⟩ := b2 L ((v, (d1 L).isNone) :: sm)
    refine ⟨wrk op v w, ?_, fun z hz => ?_⟩
    · rw [rml_app, e1]
      show rml L (m2 ++ [(op, 0)]) _ = _
      rw [rml_app, e2]
      show rml L [(op, 0)] _ = _
      rw [rml_op L h1 h2]
      have : ((d1 L).isNone || ((d2 L).isNone || dv0 op w)) = (dO op d1 d2 L).isNone := by
        cases f1 : d1 L with
        | none => rw [dO_1 f1]; rfl
        | some a =>
          cases f2 : d2 L with
          | none => rw [dO_2 f2]; rfl
          | some b =>
            have := k2 b f2
            subst this
            rw [dO_3 f1 f2]
            cases dv0 op w <;> rfl
      rw [this]
    · cases f1 : d1 L with
      | none => rw [dO_1 f1] at hz; cases hz
      | some a =>
        cases f2 : d2 L with
        | none => rw [dO_2 f2] at hz; cases hz
        | some b =>
          have y1 := k1 a f1
          have y2 := k2 b f2
          subst y1; subst y2
          rw [dO_3 f1 f2] at hz
          cases e : dv0 op w with
          | true => rw [e, if_pos rfl] at hz; cases hz
          | false => rw [e, if_neg (by decide)] at hz; cases hz; rfl
  · cases f1 : d1 L with
    | none => rw [dO_1 f1] at hw; cases hw
    | some a =>
      cases f2 : d2 L with
      | none => rw [dO_2 f2] at hw; cases hw
      | some b =>
        rw [dO_3 f1 f2] at hw
        cases e : dv0 op b with
        | true => rw [e, if_pos rfl] at hw; cases hw
        | false => rw [e, if_neg (by decide)] at hw; cases hw; exact wrk_01 (hc hcb) a b
theorem not_01 {a : Int32} (h : a = 0 ∨ a = 1) : 1 - a = 0 ∨ 1 - a = 1 := by
  rcases h with rfl | rfl
  · exact Or.inr rfl
  · exact Or.inl rfl
def dN (d : (Nat → Int32) → Option Int32) (L : Nat → Int32) : Option Int32 := match d L with
  | some a => some (1 - a)
  | none => none
theorem Gd_not {xs ms : CL} {q : Nat} (g : Gd true xs ms q) : Gd true (xs ++ [(10, 0)]) (ms ++ [(10, 0)]) q := by
  obtain ⟨d, a, b, c⟩ := g
  refine ⟨dN d, fun L st hs => ?_, fun L sm => ?_, fun _ L w hw => ?_⟩
  · rw [rxl_app, a L st hs]
    unfold dN
    cases d L <;> rfl
  · obtain ⟨v, e1, k1⟩ := b L sm
    refine ⟨1 - v, ?_, fun z hz => ?_⟩
    · rw [rml_app, e1]
      show rml L [(10, 0)] _ = _
      unfold dN
      cases d L <;> rfl
    · unfold dN at hz
      cases f : d L with
      | none => rw [f] at hz; cases hz
      | some x => rw [f] at hz; cases hz; rw [k1 x f]
  · unfold dN at hw
    cases f : d L with
    | none => rw [f] at hw; cases hw
    | some x => rw [f] at hw; cases hw; exact not_01 (c rfl L x f)
def dA (op : Nat) (d1 d2 : (Nat → Int32) → Option Int32) (L : Nat → Int32) : Option Int32 := match d1 L with
  | some a => if decide (a = 0) = decide (op = 11) then some a else d2 L
  | none => none
theorem dA_1 {op : Nat} {d1 d2 : (Nat → Int32) → Option Int32} {L : Nat → Int32} (e : d1 L = none) : dA op d1 d2 L = none := by
  unfold dA; rw [e]
theorem dA_2 {op : Nat} {d1 d2 : (Nat → Int32) → Option Int32} {L : Nat → Int32} {a : Int32} (e : d1 L = some a) : dA op d1 d2 L = if decide (a = 0) = decide (op = 11) then some a else d2 L := by
  unfold dA; rw [e]
theorem Gd_and {op : Nat} (ho : op = 11 ∨ op = 12) {x1 m1 x2 m2 : CL} {q : Nat} (g1 : Gd true x1 m1 q) (g2 : Gd true x2 m2 q) : Gd true (x1 ++ ((op, x2.length) :: x2)) (m1 ++ (m2 ++ [(op, 0)])) q := by
  obtain ⟨d1, a1, b1, c1⟩ := g1
  obtain ⟨d2, a2, b2, c2⟩ := g2
  refine ⟨dA op d1 d2, fun L st hs => ?_, fun L sm => ?_, fun _ L w hw => ?_⟩
  · rw [rxl_app, a1 L st hs]
    cases e1 : d1 L with
    | none => rw [dA_1 e1]; rfl
    | some a =>
      show rxl L ((op, x2.length) :: x2) 0 (a :: st) = _
      rw [rxl_jp L ho, dA_2 e1]
      by_cases c : decide (a = 0) = decide (op = 11)
      · rw [if_pos c, if_pos c, rxl_skip]; rfl
      · rw [if_neg c, if_neg c, a2 L st hs]
  · obtain ⟨v, e1, k1⟩ := b1 L sm
    obtain ⟨w, e2, k2⟩ := b2 L ((v, (d1 L).isNone) :: sm)
    have pre : rml L (m1 ++ (m2 ++ [(op, 0)])) sm = some ((if (d1 L).isNone = true ∨ ¬ v = (if op = 11 then 1 else 0) then (v, (d1 L).isNone) else (w, (d2 L).isNone)) :: sm) := by
      rw [rml_app, e1]
      show rml L (m2 ++ [(op, 0)]) _ = _
      rw [rml_app, e2]
      show rml L [(op, 0)] _ = _
      rw [rml_bi L (by omega) (by omega), if_pos ho]; rfl
    rw [pre]
    cases f1 : d1 L with
    | none => exact ⟨v, by rw [dA_1 f1, if_pos (show (none : Option Int32).isNone = true ∨ _ from Or.inl rfl)], fun z hz => by rw [dA_1 f1] at hz; cases hz⟩
    | some a =>
      have y1 := k1 a f1
      subst y1
      have z1 := c1 rfl L v f1
      rw [dA_2 f1]
      by_cases c : decide (v = 0) = decide (op = 11)
      · refine ⟨v, ?_, fun z hz => ?_⟩
        · have hh : (some v).isNone = true ∨ ¬ v = (if op = 11 then 1 else 0) := by
            right
            rcases z1 with rfl | rfl
            · have : op = 11 := of_decide_eq_true c.symm
              rw [if_pos this]; decide
            · have : ¬ op = 11 := of_decide_eq_false c.symm
              rw [if_neg this]; decide
          rw [if_pos hh, if_pos c]
        · rw [if_pos c] at hz; cases hz; rfl
      · refine ⟨w, ?_, fun z hz => ?_⟩
        · rw [if_neg, if_neg c]
          intro hn
          rcases hn with hn | hn
          · cases hn
          · rcases z1 with rfl | rfl
            · by_cases e : op = 11
              · exact c (by rw [decide_eq_true e]; rfl)
              · rw [if_neg e] at hn; exact hn rfl
            · by_cases e : op = 11
              · rw [if_pos e] at hn; exact hn rfl
              · exact c (by rw [decide_eq_false e]; rfl)
        · rw [if_neg c] at hz; exact k2 z hz
  · cases f1 : d1 L with
    | none => rw [dA_1 f1] at hw; cases hw
    | some a =>
      rw [dA_2 f1] at hw
      by_cases c : decide (a = 0) = decide (op = 11)
      · rw [if_pos c] at hw; cases hw; exact c1 rfl L w f1
      · rw [if_neg c] at hw; exact c2 rfl L w hw
