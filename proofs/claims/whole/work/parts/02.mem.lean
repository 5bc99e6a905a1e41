/-! LAYER 0: an abstract memory: cells by ids; their kinds (0, class number) or (1 int, 2 byte, 3 boolean, 4 long, length); ints, longs, references by cell and place -/
abbrev MM : Type := List (Nat × Nat) × (Nat → Nat → Int32) × (Nat → Nat → Int64) × (Nat → Nat → Option Nat)
def gI (μ : MM) (a k : Nat) : Int32 := μ.2.1 a k
def gL (μ : MM) (a k : Nat) : Int64 := μ.2.2.1 a k
def gR (μ : MM) (a k : Nat) : Option Nat := μ.2.2.2 a k
def sF (μ : MM) (a : Nat) (f : Nat → Int32) : MM := (μ.1, (fun c => if c = a then f else μ.2.1 c), μ.2.2.1, μ.2.2.2)
def sG (μ : MM) (a : Nat) (f : Nat → Int64) : MM := (μ.1, μ.2.1, (fun c => if c = a then f else μ.2.2.1 c), μ.2.2.2)
def sI (μ : MM) (a k : Nat) (v : Int32) : MM := sF μ a (upd (gI μ a) k v)
def sL (μ : MM) (a k : Nat) (v : Int64) : MM := sG μ a (vp_updL (gL μ a) k v)
def sR (μ : MM) (a k : Nat) (v : Option Nat) : MM := (μ.1, μ.2.1, μ.2.2.1, (fun c => if c = a then va_up (μ.2.2.2 c) k v else μ.2.2.2 c))
def nc (μ : MM) : Nat := μ.1.length
def ksl (q : Nat × Nat) : Nat := match q.1 with
  | 0 => nfld q.2
  | _ => q.2
def nsl (μ : MM) : Nat := (μ.1.map ksl).sum
def push (μ : MM) (q : Nat × Nat) : MM := (μ.1 ++ [q], (fun c => if c = nc μ then fun _ => 0 else μ.2.1 c), (fun c => if c = nc μ then fun _ => 0 else μ.2.2.1 c), (fun c => if c = nc μ then fun _ => none else μ.2.2.2 c))
def LIM : Nat := 1000000
/-- where a cell lies: ids from LIM on are what was there before (String constants) -/
def adr (B : Nat) (sa : Nat → Nat) (i : Nat) : Nat := if i < LIM then B + i else sa (i - LIM)
def cv (f : Nat → Nat) (v : Value) : Value := match v with
  | .ref a => .ref (f a)
  | v => v
theorem cv_cat (f : Nat → Nat) (v : Value) : (cv f v).category = v.category := by cases v <;> rfl
theorem cv_rf (f : Nat → Nat) (o : Option Nat) : cv f (va_rf o) = va_rf (o.map f) := by cases o <;> rfl
def fv (f : Nat → Nat) (μ : MM) (a ci k : Nat) : Value := match FTC ci k with
  | 0 => .int (gI μ a k)
  | 3 => .int (gI μ a k)
  | 1 => .long (gL μ a k)
  | _ => va_rf ((gR μ a k).map f)
def fsz (f : Nat → Nat) (μ : MM) (a ci : Nat) : List Value := (List.range (nfld ci)).map (fun k => fv f μ a ci k)
def cz (f : Nat → Nat) (tc : Nat → ClassId) (μ : MM) (a : Nat) (q : Nat × Nat) : va_E := match q.1 with
  | 0 => .inr (q.2, fsz f μ a q.2)
  | 1 => .inl (tc 0, q.2, .inl (gI μ a))
  | 2 => .inl (tc 1, q.2, .inl (gI μ a))
  | 3 => .inl (tc 2, q.2, .inl (gI μ a))
  | _ => .inl (tc 3, q.2, .inr (.inl (gL μ a)))
def wz (f : Nat → Nat) (tc : Nat → ClassId) (μ : MM) : va_W := (List.range (nc μ)).map (fun a => (f a, cz f tc μ a (μ.1.getD a (0, 0))))
def TYS (tc : Nat → ClassId) : List (ClassId × FieldType) := [(tc 0, .int), (tc 1, .byte), (tc 2, .boolean), (tc 3, .long)]
theorem wz_len (f : Nat → Nat) (tc : Nat → ClassId) (μ : MM) : (wz f tc μ).length = nc μ := by simp [wz]
theorem wz_at {f : Nat → Nat} {tc : Nat → ClassId} {μ : MM} {a : Nat} {q : Nat × Nat} (h : μ.1[a]? = some q) : (wz f tc μ)[a]? = some (f a, cz f tc μ a q) := by
  have hl : a < nc μ := (List.getElem?_eq_some_iff.mp h).1
  simp [wz, hl, List.getD, h]
theorem wz_lt {f : Nat → Nat} {tc : Nat → ClassId} {μ : MM} {k : Nat} {x : Nat × va_E} (h : (wz f tc μ)[k]? = some x) : k < nc μ ∧ x.1 = f k := by
  have hl : k < (wz f tc μ).length := (List.getElem?_eq_some_iff.mp h).1
  rw [wz_len] at hl
  refine ⟨hl, ?_⟩
  simp [wz, hl] at h
  rw [← h]
/-- worlds that differ in one cell -/
theorem wz_set {f : Nat → Nat} {tc : Nat → ClassId} {μ μ' : MM} {a : Nat} {q : Nat × Nat} {e : va_E} (h : μ.1[a]? = some q) (h1 : μ'.1 = μ.1) (he : cz f tc μ' a q = e) (ho : ∀ c x, c ≠ a → cz f tc μ' c x = cz f tc μ c x) : (wz f tc μ).set a (f a, e) = wz f tc μ' := by
  have hl : a < nc μ := (List.getElem?_eq_some_iff.mp h).1
  apply List.ext_getElem?
  intro k
  by_cases hk : k = a
  · subst hk
    rw [List.getElem?_set_self (by rw [wz_len]; exact hl), wz_at (q := q) (by rw [h1]; exact h), he]
  · rw [List.getElem?_set_ne (Ne.symm hk)]
    by_cases hkl : k < nc μ
    · obtain ⟨x, hx⟩ : ∃ x, μ.1[k]? = some x := ⟨_, List.getElem?_eq_getElem hkl⟩
      rw [wz_at hx, wz_at (q := x) (by rw [h1]; exact hx), ho k x hk]
    · have h2 : nc μ' = nc μ := by simp [nc, h1]
      rw [List.getElem?_eq_none (by rw [wz_len]; omega), List.getElem?_eq_none (by rw [wz_len]; omega)]
theorem cz_sF_ne {f : Nat → Nat} {tc : Nat → ClassId} {μ : MM} {a : Nat} {g : Nat → Int32} {c : Nat} (x : Nat × Nat) (hc : c ≠ a) : cz f tc (sF μ a g) c x = cz f tc μ c x := by
  have e1 : gI (sF μ a g) c = gI μ c := by funext k; simp [gI, sF, hc]
  have e2 : ∀ ci, fsz f (sF μ a g) c ci = fsz f μ c ci := fun ci => by
    unfold fsz; congr 1; funext k; simp only [fv, e1]; rfl
  simp only [cz, e1, e2]
  rfl
theorem cz_sG_ne {f : Nat → Nat} {tc : Nat → ClassId} {μ : MM} {a : Nat} {g : Nat → Int64} {c : Nat} (x : Nat × Nat) (hc : c ≠ a) : cz f tc (sG μ a g) c x = cz f tc μ c x := by
  have e1 : gL (sG μ a g) c = gL μ c := by funext k; simp [gL, sG, hc]
  have e2 : ∀ ci, fsz f (sG μ a g) c ci = fsz f μ c ci := fun ci => by
    unfold fsz; congr 1; funext k; simp only [fv, e1]; rfl
  simp only [cz, e1, e2]
  rfl
theorem cz_sR_ne {f : Nat → Nat} {tc : Nat → ClassId} {μ : MM} {a j : Nat} {v : Option Nat} {c : Nat} (x : Nat × Nat) (hc : c ≠ a) : cz f tc (sR μ a j v) c x = cz f tc μ c x := by
  have e1 : gR (sR μ a j v) c = gR μ c := by funext k; simp [gR, sR, hc]
  have e2 : ∀ ci, fsz f (sR μ a j v) c ci = fsz f μ c ci := fun ci => by
    unfold fsz; congr 1; funext k; simp only [fv, e1]; rfl
  simp only [cz, e2]
  rfl
theorem gI_sF {μ : MM} {a : Nat} {g : Nat → Int32} : gI (sF μ a g) a = g := by funext k; simp [gI, sF]
theorem gL_sG {μ : MM} {a : Nat} {g : Nat → Int64} : gL (sG μ a g) a = g := by funext k; simp [gL, sG]
/-- an int array's new contents -/
theorem wz_sF {f : Nat → Nat} {tc : Nat → ClassId} {μ : MM} {a t n : Nat} {g : Nat → Int32} (h : μ.1[a]? = some (t + 1, n)) (ht : t < 3) : (wz f tc μ).set a (f a, .inl (tc t, n, .inl g)) = wz f tc (sF μ a g) := by
  refine wz_set h rfl ?_ (fun c x hc => cz_sF_ne x hc)
  rcases (show t = 0 ∨ t = 1 ∨ t = 2 by omega) with rfl | rfl | rfl <;> simp [cz, gI_sF]
theorem wz_sG {f : Nat → Nat} {tc : Nat → ClassId} {μ : MM} {a n : Nat} {g : Nat → Int64} (h : μ.1[a]? = some (4, n)) : (wz f tc μ).set a (f a, .inl (tc 3, n, .inr (.inl g))) = wz f tc (sG μ a g) := by
  refine wz_set h rfl ?_ (fun c x hc => cz_sG_ne x hc)
  simp [cz, gL_sG]
theorem fsz_len (f : Nat → Nat) (μ : MM) (a ci : Nat) : (fsz f μ a ci).length = nfld ci := by simp [fsz]
theorem fsz_at {f : Nat → Nat} {μ : MM} {a ci k : Nat} (h : k < nfld ci) : (fsz f μ a ci)[k]? = some (fv f μ a ci k) := by simp [fsz, h]
theorem fsz_set {f : Nat → Nat} {μ μ' : MM} {a ci k : Nat} {v : Value} (hv : fv f μ' a ci k = v) (ho : ∀ j, j ≠ k → fv f μ' a ci j = fv f μ a ci j) : (fsz f μ a ci).set k v = fsz f μ' a ci := by
  apply List.ext_getElem?
  intro j
  by_cases hj : j = k
  · subst hj
    by_cases hl : j < nfld ci
    · rw [List.getElem?_set_self (by rw [fsz_len]; exact hl), fsz_at hl, hv]
    · rw [List.getElem?_eq_none (by rw [List.length_set, fsz_len]; omega), List.getElem?_eq_none (by rw [fsz_len]; omega)]
  · rw [List.getElem?_set_ne (Ne.symm hj)]
    by_cases hl : j < nfld ci
    · rw [fsz_at hl, fsz_at hl, ho j hj]
    · rw [List.getElem?_eq_none (by rw [fsz_len]; omega), List.getElem?_eq_none (by rw [fsz_len]; omega)]
theorem fv_sI_ne {f : Nat → Nat} {μ : MM} {a ci k j : Nat} {v : Int32} (h : j ≠ k) : fv f (sI μ a k v) a ci j = fv f μ a ci j := by
  have e1 : gI (sI μ a k v) a j = gI μ a j := by unfold sI; rw [gI_sF]; simp [upd, h]
  simp only [fv, e1]; rfl
theorem fv_sL_ne {f : Nat → Nat} {μ : MM} {a ci k j : Nat} {v : Int64} (h : j ≠ k) : fv f (sL μ a k v) a ci j = fv f μ a ci j := by
  have e1 : gL (sL μ a k v) a j = gL μ a j := by unfold sL; rw [gL_sG]; simp [vp_updL, h]
  simp only [fv, e1]; rfl
theorem fv_sR_ne {f : Nat → Nat} {μ : MM} {a ci k j : Nat} {v : Option Nat} (h : j ≠ k) : fv f (sR μ a k v) a ci j = fv f μ a ci j := by
  have e1 : gR (sR μ a k v) a j = gR μ a j := by simp [gR, sR, va_up, h]
  simp only [fv, e1]; rfl
theorem wz_fI {f : Nat → Nat} {tc : Nat → ClassId} {μ : MM} {a ci k : Nat} {v : Int32} (h : μ.1[a]? = some (0, ci)) (hc : FTC ci k = 0 ∨ FTC ci k = 3) : (wz f tc μ).set a (f a, .inr (ci, (fsz f μ a ci).set k (.int v))) = wz f tc (sI μ a k v) := by
  refine wz_set h rfl ?_ (fun c x hc => cz_sF_ne x hc)
  show Sum.inr (ci, fsz f (sI μ a k v) a ci) = _
  rw [fsz_set (μ' := sI μ a k v) ?_ (fun j hj => fv_sI_ne hj)]
  have e : gI (sI μ a k v) a k = v := by unfold sI; rw [gI_sF]; simp [upd]
  rcases hc with hc | hc <;> simp [fv, hc, e]
theorem wz_fL {f : Nat → Nat} {tc : Nat → ClassId} {μ : MM} {a ci k : Nat} {v : Int64} (h : μ.1[a]? = some (0, ci)) (hc : FTC ci k = 1) : (wz f tc μ).set a (f a, .inr (ci, (fsz f μ a ci).set k (.long v))) = wz f tc (sL μ a k v) := by
  refine wz_set h rfl ?_ (fun c x hc => cz_sG_ne x hc)
  show Sum.inr (ci, fsz f (sL μ a k v) a ci) = _
  rw [fsz_set (μ' := sL μ a k v) ?_ (fun j hj => fv_sL_ne hj)]
  have e : gL (sL μ a k v) a k = v := by unfold sL; rw [gL_sG]; simp [vp_updL]
  simp [fv, hc, e]
theorem wz_fR {f : Nat → Nat} {tc : Nat → ClassId} {μ : MM} {a ci k : Nat} {v : Option Nat} (h : μ.1[a]? = some (0, ci)) (hc : FTC ci k = 2) : (wz f tc μ).set a (f a, .inr (ci, (fsz f μ a ci).set k (va_rf (v.map f)))) = wz f tc (sR μ a k v) := by
  refine wz_set h rfl ?_ (fun c x hc => cz_sR_ne x hc)
  show Sum.inr (ci, fsz f (sR μ a k v) a ci) = _
  rw [fsz_set (μ' := sR μ a k v) ?_ (fun j hj => fv_sR_ne hj)]
  have e : gR (sR μ a k v) a k = v := by simp [gR, sR, va_up]
  simp [fv, hc, e]
theorem cz_push {f : Nat → Nat} {tc : Nat → ClassId} {μ : MM} {q : Nat × Nat} {c : Nat} (x : Nat × Nat) (hc : c ≠ nc μ) : cz f tc (push μ q) c x = cz f tc μ c x := by
  have e0 : gI (push μ q) c = gI μ c := by funext k; simp [gI, push, hc]
  have e1 : gL (push μ q) c = gL μ c := by funext k; simp [gL, push, hc]
  have e2 : gR (push μ q) c = gR μ c := by funext k; simp [gR, push, hc]
  have e3 : ∀ ci, fsz f (push μ q) c ci = fsz f μ c ci := fun ci => by
    unfold fsz; congr 1; funext k; simp only [fv, e0, e1, e2]
  simp only [cz, e0, e1, e3]
theorem nc_push (μ : MM) (q : Nat × Nat) : nc (push μ q) = nc μ + 1 := by simp [nc, push]
theorem nsl_push (μ : MM) (q : Nat × Nat) : nsl (push μ q) = nsl μ + ksl q := by simp [nsl, push]
theorem wz_push {f : Nat → Nat} {tc : Nat → ClassId} {μ : MM} {q : Nat × Nat} {e : va_E} (he : cz f tc (push μ q) (nc μ) q = e) : wz f tc μ ++ [(f (nc μ), e)] = wz f tc (push μ q) := by
  apply List.ext_getElem?
  intro k
  by_cases hk : k < nc μ
  · obtain ⟨x, hx⟩ : ∃ x, μ.1[k]? = some x := ⟨_, List.getElem?_eq_getElem hk⟩
    rw [List.getElem?_append_left (by rw [wz_len]; exact hk), wz_at hx, wz_at (q := x) (by show (μ.1 ++ [q])[k]? = _; rw [List.getElem?_append_left hk]; exact hx), cz_push x (by omega)]
  · rw [List.getElem?_append_right (by rw [wz_len]; omega), wz_len]
    by_cases hk2 : k = nc μ
    · subst hk2
      rw [wz_at (q := q) (by show (μ.1 ++ [q])[nc μ]? = _; unfold nc; rw [List.getElem?_append_right (Nat.le_refl _)]; simp), he]
      simp
    · rw [List.getElem?_eq_none (l := wz f tc (push μ q)) (by rw [wz_len, nc_push]; omega), List.getElem?_eq_none (by simp; omega)]
/-! reads and writes, as the methods do them: none is what the machine itself would throw at -/
def rI (μ : MM) (a ci k : Nat) : Option Int32 := if μ.1[a]? = some (0, ci) then some (gI μ a k) else none
def rL (μ : MM) (a ci k : Nat) : Option Int64 := if μ.1[a]? = some (0, ci) then some (gL μ a k) else none
def rR (μ : MM) (a ci k : Nat) : Option Nat := if μ.1[a]? = some (0, ci) then gR μ a k else none
def rN (μ : MM) (a ci k : Nat) : Option (Option Nat) := if μ.1[a]? = some (0, ci) then some (gR μ a k) else none
def pI (μ : MM) (a ci k : Nat) (v : Int32) : Option MM := if μ.1[a]? = some (0, ci) then some (sI μ a k v) else none
def pZ (μ : MM) (a ci k : Nat) (v : Int32) : Option MM := if μ.1[a]? = some (0, ci) ∧ (v = 0 ∨ v = 1) then some (sI μ a k v) else none
def pL (μ : MM) (a ci k : Nat) (v : Int64) : Option MM := if μ.1[a]? = some (0, ci) then some (sL μ a k v) else none
def pR (μ : MM) (a ci k : Nat) (x : Nat) : Option MM := if μ.1[a]? = some (0, ci) then some (sR μ a k (some x)) else none
def aI (μ : MM) (a : Nat) (j : Int32) : Option Int32 := match μ.1[a]? with
  | some (1, n) => if j < 0 ∨ n ≤ j.toNatClampNeg then none else some (gI μ a j.toNatClampNeg)
  | _ => none
def aB (μ : MM) (a : Nat) (j : Int32) : Option Int32 := match μ.1[a]? with
  | some (2, n) => if j < 0 ∨ n ≤ j.toNatClampNeg then none else some (gI μ a j.toNatClampNeg)
  | some (3, n) => if j < 0 ∨ n ≤ j.toNatClampNeg then none else some (gI μ a j.toNatClampNeg)
  | _ => none
def aL (μ : MM) (a : Nat) (j : Int32) : Option Int64 := match μ.1[a]? with
  | some (4, n) => if j < 0 ∨ n ≤ j.toNatClampNeg then none else some (gL μ a j.toNatClampNeg)
  | _ => none
def uI (μ : MM) (a : Nat) (j v : Int32) : Option MM := match μ.1[a]? with
  | some (1, n) => if j < 0 ∨ n ≤ j.toNatClampNeg then none else some (sI μ a j.toNatClampNeg v)
  | _ => none
def uB (μ : MM) (a : Nat) (j v : Int32) : Option MM := match μ.1[a]? with
  | some (2, n) => if j < 0 ∨ n ≤ j.toNatClampNeg then none else some (sI μ a j.toNatClampNeg (vp_nar .byte v))
  | some (3, n) => if j < 0 ∨ n ≤ j.toNatClampNeg then none else some (sI μ a j.toNatClampNeg (vp_nar .boolean v))
  | _ => none
def uL (μ : MM) (a : Nat) (j : Int32) (v : Int64) : Option MM := match μ.1[a]? with
  | some (4, n) => if j < 0 ∨ n ≤ j.toNatClampNeg then none else some (sL μ a j.toNatClampNeg v)
  | _ => none
def aN (μ : MM) (a : Nat) : Option Int32 := match μ.1[a]? with
  | some (t, n) => if t = 0 ∨ 4 < t then none else some (Int32.ofNat n)
  | _ => none
def nO (μ : MM) (ci : Nat) : Option MM := some (push μ (0, ci))
def nA (μ : MM) (t : Nat) (n : Int32) : Option MM := if n < 0 ∨ 1000000 < n.toNatClampNeg then none else some (push μ (t, n.toNatClampNeg))
/-- System.arraycopy of ints -/
def cpI (μ : MM) (a : Nat) (sp : Int32) (b : Nat) (dp n : Int32) : Option MM := match μ.1[a]?, μ.1[b]? with
  | some (1, n0), some (1, n1) => if sp < 0 ∨ dp < 0 ∨ n < 0 ∨ n0 < sp.toNatClampNeg + n.toNatClampNeg ∨ n1 < dp.toNatClampNeg + n.toNatClampNeg then none else some (sF μ b (va_cpy (gI μ a) (gI μ b) sp.toNatClampNeg dp.toNatClampNeg n.toNatClampNeg))
  | _, _ => none
def irem (x y : Int32) : Int32 := x - x / y * y
def ishl (x y : Int32) : Int32 := x <<< (y &&& 31)
def ishr (x y : Int32) : Int32 := x >>> (y &&& 31)
def iushr (x y : Int32) : Int32 := (x.toUInt32 >>> (y.toUInt32 &&& Int32.toUInt32 31)).toInt32
def i2c (x : Int32) : Int32 := (x.toUInt32 % 65536).toInt32
/-- locals behind a store -/
def isL2 (o : Option (Option Value)) : Bool := match o with
  | some (some (.long _)) => true
  | some (some (.double _)) => true
  | _ => false
def st1 (loc : List (Option Value)) (i : Nat) (v : Value) : List (Option Value) := match i with
  | 0 => loc.set 0 (some v)
  | j + 1 => (if isL2 loc[j]? then loc.set j none else loc).set (j + 1) (some v)
def st2 (loc : List (Option Value)) (i : Nat) (v : Value) : List (Option Value) := (st1 loc i v).set (i + 1) none
theorem isL2_cat {v : Value} (h : v.category = 2) : isL2 (some (some v)) = true := by cases v <;> first | rfl | (simp [Value.category] at h)
theorem st1_spec {loc : List (Option Value)} {i j : Nat} {v w : Value} (h : (st1 loc i v)[j]? = some (some w)) : (j = i ∧ w = v) ∨ (j ≠ i ∧ loc[j]? = some (some w) ∧ ¬ (j + 1 = i ∧ w.category = 2)) := by
  cases i with
  | zero =>
    simp only [st1, List.getElem?_set] at h
    split at h
    · subst j
      split at h
      · cases h; exact Or.inl ⟨rfl, rfl⟩
      · cases h
    · exact Or.inr ⟨by omega, h, by omega⟩
  | succ i =>
    simp only [st1] at h
    rw [List.getElem?_set] at h
    by_cases hne : i + 1 = j
    · subst j
      rw [if_pos rfl] at h
      by_cases hz : i + 1 < (if isL2 loc[i]? = true then loc.set i none else loc).length
      · rw [if_pos hz] at h; cases h; exact Or.inl ⟨rfl, rfl⟩
      · rw [if_neg hz] at h; cases h
    · rw [if_neg hne] at h
      refine Or.inr ⟨by omega, ?_, ?_⟩
      · split at h
        · rw [List.getElem?_set] at h
          split at h
          · split at h <;> cases h
          · exact h
        · exact h
      · rintro ⟨e, hc⟩
        have e : j = i := by omega
        subst e
        split at h
        · rw [List.getElem?_set] at h
          rw [if_pos rfl] at h
          split at h <;> cases h
        · rename_i hL
          rw [h] at hL
          exact hL (isL2_cat hc)
theorem st2_spec {loc : List (Option Value)} {i j : Nat} {v w : Value} (h : (st2 loc i v)[j]? = some (some w)) : (j = i ∧ w = v) ∨ (j ≠ i ∧ j ≠ i + 1 ∧ loc[j]? = some (some w) ∧ ¬ (j + 1 = i ∧ w.category = 2)) := by
  unfold st2 at h
  rw [List.getElem?_set] at h
  split at h
  · split at h <;> cases h
  · rename_i hne
    rcases st1_spec h with q | ⟨q1, q2, q3⟩
    · exact Or.inl q
    · exact Or.inr ⟨q1, Ne.symm hne, q2, q3⟩
/-- the locals as a list of places and values -/
def lz (f : Nat → Nat) (loc : List (Option Value)) : List (Nat × Value) := (List.range loc.length).filterMap (fun i => (loc[i]?.join).map (fun v => (i, cv f v)))
theorem lz_mem {f : Nat → Nat} {loc : List (Option Value)} {i : Nat} {w : Value} : (i, w) ∈ lz f loc ↔ ∃ v, loc[i]? = some (some v) ∧ w = cv f v := by
  unfold lz
  rw [List.mem_filterMap]
  constructor
  · rintro ⟨k, hk, h⟩
    cases hh : loc[k]? with
    | none => rw [hh] at h; cases h
    | some o =>
      cases o with
      | none => rw [hh] at h; cases h
      | some v =>
        rw [hh] at h
        simp only [Option.join_some, Option.map_some, Option.some.injEq, Prod.mk.injEq] at h
        obtain ⟨rfl, rfl⟩ := h
        exact ⟨v, hh, rfl⟩
  · rintro ⟨v, h, rfl⟩
    exact ⟨i, List.mem_range.mpr (List.getElem?_eq_some_iff.mp h).1, by rw [h]; rfl⟩
abbrev LH (f : Nat → Nat) (loc : List (Option Value)) (ls : Array Slot) (nL : Nat) : Prop := lv_has ls nL (lz f loc)
theorem LH.get {f : Nat → Nat} {loc : List (Option Value)} {ls : Array Slot} {nL i : Nat} {v : Value} (h : LH f loc ls nL) (hi : loc[i]? = some (some v)) : ls[i]? = some (.val (cv f v)) := h.2.2 (i, cv f v) (lz_mem.mpr ⟨v, hi, rfl⟩)
theorem LH.st1 {f : Nat → Nat} {loc : List (Option Value)} {ls' : Array Slot} {nL i : Nat} {v : Value} (h : lv_has ls' nL ((i, cv f v) :: (lz f loc).filter (fun q => !(q.1 == i) && !(q.1 + 1 == i && q.2.category == 2)))) : LH f (st1 loc i v) ls' nL := by
  refine ⟨h.1, h.2.1, fun q hq => h.2.2 q ?_⟩
  obtain ⟨j, w⟩ := q
  obtain ⟨u, hu, rfl⟩ := lz_mem.mp hq
  rcases st1_spec hu with ⟨rfl, rfl⟩ | ⟨q1, q2, q3⟩
  · exact List.mem_cons_self
  · refine List.mem_cons_of_mem _ (List.mem_filter.mpr ⟨lz_mem.mpr ⟨u, q2, rfl⟩, ?_⟩)
    simp [q1, cv_cat]
    by_cases e : j + 1 = i
    · exact Or.inr (fun z => q3 ⟨e, z⟩)
    · exact Or.inl e
theorem LH.st2 {f : Nat → Nat} {loc : List (Option Value)} {ls' : Array Slot} {nL i : Nat} {v : Value} (h : lv_has ls' nL ((i, cv f v) :: (lz f loc).filter (fun q => !(q.1 == i) && (!(q.1 == i + 1) && !(q.1 + 1 == i && q.2.category == 2))))) : LH f (st2 loc i v) ls' nL := by
  refine ⟨h.1, h.2.1, fun q hq => h.2.2 q ?_⟩
  obtain ⟨j, w⟩ := q
  obtain ⟨u, hu, rfl⟩ := lz_mem.mp hq
  rcases st2_spec hu with ⟨rfl, rfl⟩ | ⟨q1, q0, q2, q3⟩
  · exact List.mem_cons_self
  · refine List.mem_cons_of_mem _ (List.mem_filter.mpr ⟨lz_mem.mpr ⟨u, q2, rfl⟩, ?_⟩)
    simp [q1, q0, cv_cat]
    by_cases e : j + 1 = i
    · exact Or.inr (fun z => q3 ⟨e, z⟩)
    · exact Or.inl e
/-- the locals with which a method begins -/
def entL (vs : List Value) : List (Option Value) := vs.flatMap (fun v => if v.category = 2 then [some v, none] else [some v])
theorem entL_args {f : Nat → Nat} (vs : List Value) : ∀ (i j : Nat) (v : Value), (entL vs)[j]? = some (some v) → (i + j, cv f v) ∈ lv_args i (vs.map (cv f)) := by
  induction vs with
  | nil => intro i j v h; simp [entL] at h
  | cons a vs ih =>
    intro i j v h
    simp only [entL, List.flatMap_cons] at h
    simp only [List.map_cons, lv_args, cv_cat]
    by_cases hc : a.category = 2
    · rw [if_pos hc] at h ⊢
      match j, h with
      | 0, h => simp at h; subst h; simp
      | 1, h => simp at h
      | j + 2, h =>
        have h2 : (entL vs)[j]? = some (some v) := h
        have h3 := ih (i + 2) j v h2
        rw [show i + (j + 2) = i + 2 + j by omega]
        exact List.mem_cons_of_mem _ h3
    · rw [if_neg hc] at h ⊢
      match j, h with
      | 0, h => simp at h; subst h; simp
      | j + 1, h =>
        have h2 : (entL vs)[j]? = some (some v) := h
        have h3 := ih (i + 1) j v h2
        rw [show i + (j + 1) = i + 1 + j by omega]
        exact List.mem_cons_of_mem _ h3
theorem lg_sl_len (f : Nat → Nat) (vs : List Value) : (lg_sl (vs.map (cv f))).length = (entL vs).length := by
  induction vs with
  | nil => rfl
  | cons a vs ih =>
    simp only [lg_sl, entL, List.map_cons, List.flatMap_cons, List.length_append, cv_cat] at ih ⊢
    rw [ih]
    by_cases hc : a.category = 2 <;> simp [hc]
theorem LH.entry {f : Nat → Nat} (vs : List Value) {n : Nat} (h : (entL vs).length ≤ n) : LH f (entL vs) ((lg_sl (vs.map (cv f)) ++ List.replicate (n - (lg_sl (vs.map (cv f))).length) Slot.unset).toArray) n := by
  have h0 := lv_entry (vs.map (cv f)) (n := n) (by rw [lg_sl_len]; exact h)
  refine ⟨h0.1, h0.2.1, fun q hq => h0.2.2 q ?_⟩
  obtain ⟨j, w⟩ := q
  obtain ⟨u, hu, rfl⟩ := lz_mem.mp hq
  have h1 := entL_args (f := f) vs 0 j u hu
  rwa [Nat.zero_add] at h1
