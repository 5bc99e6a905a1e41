/-! LAYER 2: fractions -/
def pw (p : Nat) : Nat → Nat → Nat
  | 0, _ => 0
  | f + 1, n => if n % p = 0 then pw p f (n / p) + 1 else 0
def q2 (n : Nat) : Nat := pw 2 11 n
def q3 (n : Nat) : Nat := pw 3 7 n
def q5 (n : Nat) : Nat := pw 5 5 n
def smo (n : Nat) : Bool := n == 2 ^ q2 n * 3 ^ q3 n * 5 ^ q5 n
def packN (a b c : Nat) : Int32 := nI (1048576 * a + 1024 * b + c)
def frt (n : Nat) : Bool := decide (f_Fr_ofNumber (nI n) = some (if smo n then packN (q2 n) (q3 n) (q5 n) else -2147483648)) && (decide (f_M_powerOf (nI n) 2 = some (nI (q2 n))) && (decide (f_M_powerOf (nI n) 3 = some (nI (q3 n))) && (decide (f_M_powerOf (nI n) 5 = some (nI (q5 n))) && (decide (f_M_bare (nI n) = some (nI (n / (2 ^ q2 n * 3 ^ q3 n * 5 ^ q5 n)))) && (decide ((n / (2 ^ q2 n * 3 ^ q3 n * 5 ^ q5 n) = 1) ↔ smo n = true) && (decide (n / (2 ^ q2 n * 3 ^ q3 n * 5 ^ q5 n) < 2001) && decide (q2 n ≤ 10 ∧ q3 n ≤ 6 ∧ q5 n ≤ 4)))))))
set_option maxRecDepth 20000 in
theorem frt_1 : ∀ n, n < 2001 → 0 < n → frt n = true := by decide +kernel
theorem fr_num {n : Nat} (h : n < 2001) (h0 : 0 < n) : f_Fr_ofNumber (nI n) = some (if smo n then packN (q2 n) (q3 n) (q5 n) else -2147483648) ∧ f_M_powerOf (nI n) 2 = some (nI (q2 n)) ∧ f_M_powerOf (nI n) 3 = some (nI (q3 n)) ∧ f_M_powerOf (nI n) 5 = some (nI (q5 n)) ∧ f_M_bare (nI n) = some (nI (n / (2 ^ q2 n * 3 ^ q3 n * 5 ^ q5 n))) ∧ ((n / (2 ^ q2 n * 3 ^ q3 n * 5 ^ q5 n) = 1) ↔ smo n = true) ∧ n / (2 ^ q2 n * 3 ^ q3 n * 5 ^ q5 n) < 2001 ∧ (q2 n ≤ 10 ∧ q3 n ≤ 6 ∧ q5 n ≤ 4) := by
  have h1 := frt_1 n h h0
  unfold frt at h1
  simp only [Bool.and_eq_true, decide_eq_true_eq] at h1
  exact ⟨h1.1, h1.2.1, h1.2.2.1, h1.2.2.2.1, h1.2.2.2.2.1, h1.2.2.2.2.2.1, h1.2.2.2.2.2.2.1, h1.2.2.2.2.2.2.2⟩
