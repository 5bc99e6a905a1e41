/-! LAYER 2: loops, long numbers, sums -/
theorem wh {σ β : Type} (I : σ → Prop) (m : σ → Nat) (G : Nat → σ → Option β) (Q : β → Prop) (step : ∀ n s, I s → (∃ b, G (n + 1) s = some b ∧ Q b) ∨ ∃ s', m s' < m s ∧ I s' ∧ G (n + 1) s = G n s') : ∀ n s, m s < n → I s → ∃ b, G n s = some b ∧ Q b := by
  intro n
  induction n with
  | zero => intro s h; omega
  | succ n ih =>
    intro s h hi
    rcases step n s hi with z | ⟨s', h1, h2, h3⟩
    · exact z
    · obtain ⟨b, h4, h5⟩ := ih s' (by omega) h2
      exact ⟨b, by rw [h3]; exact h4, h5⟩
theorem upM {σ β : Type} (N : Nat) (I : Nat → σ → Prop) (G : Nat → Nat → σ → Option β) (Q : β → Prop) (hend : ∀ n s, I N s → ∃ b, G (n + 1) N s = some b ∧ Q b) (hstep : ∀ n k s, k < N → I k s → (∃ b, G (n + 1) k s = some b ∧ Q b) ∨ ∃ s', G (n + 1) k s = G n (k + 1) s' ∧ I (k + 1) s') : ∀ k n s, k ≤ N → N - k < n → I k s → ∃ b, G n k s = some b ∧ Q b := by
  intro k n
  induction n generalizing k with
  | zero => intro s _ h; omega
  | succ n ih =>
    intro s h h1 hi
    rcases Nat.lt_or_ge k N with z | z
    · rcases hstep n k s z hi with w | ⟨s', h3, h2⟩
      · exact w
      · obtain ⟨b, h4, h5⟩ := ih (k + 1) s' (by omega) (by omega) h2
        exact ⟨b, by rw [h3]; exact h4, h5⟩
    · have : k = N := by omega
      subst this
      exact hend n s hi
/-- a loop that only reads -/
theorem up {β : Type} (N : Nat) (I : Nat → Prop) (G : Nat → Nat → β) (E : β) (hend : ∀ n, I N → G (n + 1) N = E) (hstep : ∀ n k, k < N → I k → G (n + 1) k = E ∨ G (n + 1) k = G n (k + 1) ∧ I (k + 1)) : ∀ k n, k ≤ N → N - k < n → I k → G n k = E := by
  intro k n
  induction n generalizing k with
  | zero => intro _ h; omega
  | succ n ih =>
    intro h h1 hi
    rcases Nat.lt_or_ge k N with z | z
    · rcases hstep n k z hi with w | ⟨h3, h2⟩
      · exact w
      · rw [h3]; exact ih (k + 1) (by omega) (by omega) h2
    · have : k = N := by omega
      subst this
      exact hend n hi
/-- a loop that only reads and leaves only at its end -/
theorem upA {β : Type} (N : Nat) (G : Nat → Nat → β) (E : β) (hend : ∀ n, G (n + 1) N = E) (hstep : ∀ n k, k < N → G (n + 1) k = G n (k + 1)) (k n : Nat) (h1 : k ≤ N) (h2 : N - k < n) : G n k = E :=
  up N (fun _ => True) G E (fun n _ => hend n) (fun n k z _ => Or.inr ⟨hstep n k z, trivial⟩) k n h1 h2 trivial
def lI (z : Int) : Int64 := Int64.ofInt z
theorem lI_add (a b : Int) : lI a + lI b = lI (a + b) := (Int64.ofInt_add a b).symm
theorem lI_sub (a b : Int) : lI a - lI b = lI (a - b) := (Int64.ofInt_sub a b).symm
theorem lI_mul (a b : Int) : lI a * lI b = lI (a * b) := (Int64.ofInt_mul a b).symm
theorem lI_neg (a : Int) : -lI a = lI (-a) := (Int64.ofInt_neg a).symm
theorem oI_neg (a : Int) : -oI a = oI (-a) := (Int32.ofInt_neg a).symm
theorem lI_toInt {z : Int} (h1 : -9223372036854775808 ≤ z) (h2 : z < 9223372036854775808) : (lI z).toInt = z := by
  unfold lI
  rw [Int64.toInt_ofInt]
  have hs : Int64.size = 18446744073709551616 := rfl
  rw [hs]
  exact Int.bmod_eq_of_le (by omega) (by omega)
theorem oI_l {z : Int} (h1 : -2147483648 ≤ z) (h2 : z < 2147483648) : (oI z).toInt64 = lI z := by
  apply Int64.toInt_inj.mp
  rw [Int32.toInt_toInt64, oI_toInt h1 h2, lI_toInt (by omega) (by omega)]
theorem lI_i (z : Int) : (lI z).toInt32 = oI z := by
  unfold lI oI
  exact Int64.toInt32_ofInt
def iabs (z : Int) : Int := if 0 ≤ z then z else -z
theorem s_absI {z : Int} (h1 : -2147483648 < z) (h2 : z < 2147483648) : f_Mt_abs_I (oI z) = some (oI (iabs z)) := by
  unfold f_Mt_abs_I iabs
  have e : (0 : Int32) ≤ oI z ↔ 0 ≤ z := by rw [Int32.le_iff_toInt_le, oI_toInt (by omega) h2]; exact Iff.rfl
  by_cases h : 0 ≤ z
  · rw [if_pos (e.mpr h), if_pos h]
  · rw [if_neg (fun q => h (e.mp q)), if_neg h, oI_neg]
theorem s_plain {z : Int} (h1 : -9223372036854775808 < z) (h2 : z < 9223372036854775808) : f_M_plain (lI z) = some (lI (iabs z)) := by
  unfold f_M_plain iabs
  simp only [lgc_ge, lI_toInt (z := z) (by omega) h2, show (0 : Int64).toInt = 0 by decide]
  by_cases h : 0 ≤ z
  · rw [if_pos h, if_pos h]
  · rw [if_neg h, if_neg h, lI_neg]
/-- sums over the first ones -/
def fsum (f : Nat → Int) : Nat → Int
  | 0 => 0
  | n + 1 => fsum f n + f n
theorem fsum_b {f : Nat → Int} {lo hi : Int} : ∀ (n : Nat), (∀ k, k < n → lo ≤ f k ∧ f k ≤ hi) → lo * n ≤ fsum f n ∧ fsum f n ≤ hi * n
  | 0, _ => by simp [fsum]
  | n + 1, h => by
    have ih := fsum_b n (fun k hk => h k (by omega))
    have l := h n (by omega)
    simp only [fsum]
    have e1 : lo * ((n + 1 : Nat) : Int) = lo * n + lo := by rw [Int.natCast_add, Int.mul_add]; simp
    have e2 : hi * ((n + 1 : Nat) : Int) = hi * n + hi := by rw [Int.natCast_add, Int.mul_add]; simp
    rw [e1, e2]; omega
theorem fsum_c {f g : Nat → Int} : ∀ (n : Nat), (∀ k, k < n → f k = g k) → fsum f n = fsum g n
  | 0, _ => rfl
  | n + 1, h => by simp only [fsum]; rw [fsum_c n (fun k hk => h k (by omega)), h n (by omega)]
/-- sets of bits over the first ones -/
def obits (f : Nat → Bool) : Nat → Int32
  | 0 => 0
  | n + 1 => obits f n ||| (if f n = true then ishl 1 (nI n) else 0)
theorem obits_c {f g : Nat → Bool} : ∀ (n : Nat), (∀ k, k < n → f k = g k) → obits f n = obits g n
  | 0, _ => rfl
  | n + 1, h => by simp only [obits]; rw [obits_c n (fun k hk => h k (by omega)), h n (by omega)]
theorem or_0 (x : Int32) : x ||| 0 = x := Int32.or_zero
