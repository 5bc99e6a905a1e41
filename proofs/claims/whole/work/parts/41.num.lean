/-! LAYER 2: numbers and truth values -/
def bi (b : Bool) : Int32 := if b then 1 else 0
theorem bi_t : bi true = 1 := rfl
theorem bi_f : bi false = 0 := rfl
theorem bi_0 (b : Bool) : (bi b = 0) = (b = false) := by cases b <;> simp [bi]
theorem bi_1 (b : Bool) : (bi b = 1) = (b = true) := by cases b <;> simp [bi]
theorem bi_01 (b : Bool) : bi b = 0 ∨ bi b = 1 := by cases b <;> simp [bi]
theorem rz_bi (b : Bool) : rz (bi b) = some (bi b) := if_pos (bi_01 b)
theorem bsome {α β : Type} (a : α) (f : α → Option β) : (some a).bind f = f a := rfl
theorem toInt_le (a b : Int32) : (a ≤ b) = (a.toInt ≤ b.toInt) := propext Int32.le_iff_toInt_le
theorem toInt_lt (a b : Int32) : (a < b) = (a.toInt < b.toInt) := propext Int32.lt_iff_toInt_lt
theorem toInt_eq (a b : Int32) : (a = b) = (a.toInt = b.toInt) := propext Int32.toInt_inj.symm
/-- within 0 .. n - 1 -/
def inR (x : Int32) (n : Nat) : Bool := decide (0 ≤ x.toInt ∧ x.toInt < n)
theorem inR_nI {k n : Nat} (hk : k < n) (hn : n < 2 ^ 31) : inR (nI k) n = true := by
  unfold inR; rw [nI_toInt (by omega)]; simp; omega
theorem ixc (n : Nat) (N : Int32) (hN : N = nI n) (hn : n < 2 ^ 31) (x : Int32) : (x < 0 ∧ inR x n = false) ∨ (¬ x < 0 ∧ N ≤ x ∧ inR x n = false) ∨ (¬ x < 0 ∧ ¬ N ≤ x ∧ inR x n = true ∧ ∃ k, k < n ∧ x = nI k) := by
  subst hN
  rcases pk_ix x hn with h | h | ⟨k, hk, rfl⟩
  · refine Or.inl ⟨h, ?_⟩
    rw [toInt_lt] at h
    have h : x.toInt < 0 := h
    unfold inR
    exact decide_eq_false (fun z => by omega)
  · rcases Classical.em (x < 0) with h0 | h0
    · refine Or.inl ⟨h0, ?_⟩
      rw [toInt_lt] at h0
      have h0 : x.toInt < 0 := h0
      unfold inR
      exact decide_eq_false (fun z => by omega)
    · refine Or.inr (Or.inl ⟨h0, h, ?_⟩)
      rw [toInt_le, nI_toInt hn] at h
      unfold inR
      exact decide_eq_false (fun z => by omega)
  · exact Or.inr (Or.inr ⟨nI_pos (by omega), nI_ge hk hn, inR_nI hk hn, k, hk, rfl⟩)
theorem lit_nI (n : Nat) : (OfNat.ofNat n : Int32) = nI n := rfl
theorem nI_m1 {k : Nat} (h : 0 < k) : nI k - 1 = nI (k - 1) := by
  rw [show (1 : Int32) = nI 1 from rfl, pk_sub h]
theorem nI_p (k : Nat) : nI k + (-1) = nI k - 1 := by rw [Int32.sub_eq_add_neg]
theorem nI_ne_m1 {k : Nat} (h : k < 2 ^ 31) : ¬ nI k = -1 := by
  intro e
  have := congrArg Int32.toInt e
  rw [nI_toInt h] at this
  have h2 : (-1 : Int32).toInt = -1 := by decide
  omega
/-- comparisons of counters -/
theorem cle {a b : Nat} (ha : a < 2 ^ 31) (hb : b < 2 ^ 31) : (nI a ≤ nI b) = (a ≤ b) := propext (nI_leI ha hb)
theorem clt {a b : Nat} (ha : a < 2 ^ 31) (hb : b < 2 ^ 31) : (nI a < nI b) = (a < b) := propext (nI_ltI ha hb)
theorem ceq {a b : Nat} (ha : a < 2 ^ 31) (hb : b < 2 ^ 31) : (nI a = nI b) = (a = b) := propext (nI_eq ha hb)
theorem lgc_lt (x y : Int64) : (lg_cmp x y < 0) = (x.toInt < y.toInt) := by
  apply propext
  unfold lg_cmp
  simp only [gt_iff_lt, Int64.lt_iff_toInt_lt, ← Int64.toInt_inj]
  repeat' split
  all_goals (constructor <;> intro hh <;> first | omega | decide | exact absurd hh (by decide))
theorem lgc_gt (x y : Int64) : (0 < lg_cmp x y) = (y.toInt < x.toInt) := by
  apply propext
  unfold lg_cmp
  simp only [gt_iff_lt, Int64.lt_iff_toInt_lt, ← Int64.toInt_inj]
  repeat' split
  all_goals (constructor <;> intro hh <;> first | omega | decide | exact absurd hh (by decide))
theorem lgc_le (x y : Int64) : (lg_cmp x y ≤ 0) = (x.toInt ≤ y.toInt) := by
  apply propext
  unfold lg_cmp
  simp only [gt_iff_lt, Int64.lt_iff_toInt_lt, ← Int64.toInt_inj]
  repeat' split
  all_goals (constructor <;> intro hh <;> first | omega | decide | exact absurd hh (by decide))
theorem lgc_ge (x y : Int64) : (0 ≤ lg_cmp x y) = (y.toInt ≤ x.toInt) := by
  apply propext
  unfold lg_cmp
  simp only [gt_iff_lt, Int64.lt_iff_toInt_lt, ← Int64.toInt_inj]
  repeat' split
  all_goals (constructor <;> intro hh <;> first | omega | decide | exact absurd hh (by decide))
theorem lgc_eq (x y : Int64) : (lg_cmp x y = 0) = (x.toInt = y.toInt) := by
  apply propext
  unfold lg_cmp
  simp only [gt_iff_lt, Int64.lt_iff_toInt_lt, ← Int64.toInt_inj]
  repeat' split
  all_goals (constructor <;> intro hh <;> first | omega | decide | exact absurd hh (by decide))
