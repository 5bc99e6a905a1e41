/-! LAYER 2: rows of places, one behind the other -/
def swp (f : Nat → Nat) (i j : Nat) : Nat → Nat := fun k => if k = j then f i else if k = i then f j else f k
def ins (a : Nat) : Nat → (Nat → Nat) → (Nat → Nat)
  | 0, f => f
  | j + 1, f => if a < j + 1 ∧ f (j + 1) < f j then ins a j (swp f (j + 1) j) else f
def srt (a : Nat) : Nat → (Nat → Nat) → (Nat → Nat)
  | 0, f => f
  | k + 1, f => ins a (a + k) (srt a k f)
def rvf (a N : Nat) (f : Nat → Nat) : Nat → Nat := fun k => if a ≤ k ∧ k < N then f (a + N - 1 - k) else f k
def pvi (f : Nat → Nat) (N : Nat) : Int32 := lastb (fun i => decide (f i < f (i + 1))) (N - 1)
def pvj (f : Nat → Nat) (i N : Nat) : Int32 := lastb (fun j => decide (f i < f j)) N
def nxt (N : Nat) (f : Nat → Nat) : Option (Nat → Nat) := if pvi f N = -1 then none else some (rvf ((pvi f N).toInt.toNat + 1) N (swp f (pvi f N).toInt.toNat (pvj f (pvi f N).toInt.toNat N).toInt.toNat))
/-- what is known of the next row's places: the place i that grows, the place j that it takes -/
def npr (N : Nat) (f : Nat → Nat) (i j : Nat) : Prop := i + 1 < N ∧ f i < f (i + 1) ∧ (∀ k, i < k → k + 1 < N → f (k + 1) ≤ f k) ∧ i < j ∧ j < N ∧ f i < f j ∧ ∀ k, j < k → k < N → f k ≤ f i
theorem nxt_c {N : Nat} (hN : N ≤ 8) (f : Nat → Nat) : (pvi f N = -1 ∧ nxt N f = none ∧ ∀ k, k + 1 < N → f (k + 1) ≤ f k) ∨ ∃ i j, npr N f i j ∧ pvi f N = nI i ∧ pvj f i N = nI j ∧ nxt N f = some (rvf (i + 1) N (swp f i j)) := by
  unfold nxt
  rcases lastb_c (f := fun i => decide (f i < f (i + 1))) (N - 1) with ⟨h1, h2⟩ | ⟨i, i1, i2, i3, i4⟩
  · refine Or.inl ⟨h1, by rw [if_pos (show pvi f N = -1 from h1)], fun k hk => ?_⟩
    have := of_decide_eq_false (h2 k (by omega))
    omega
  · right
    have i3 : f i < f (i + 1) := of_decide_eq_true i3
    have hi : pvi f N = nI i := i2
    rcases lastb_c (f := fun j => decide (f i < f j)) N with ⟨g1, g2⟩ | ⟨j, j1, j2, j3, j4⟩
    · exact absurd i3 (of_decide_eq_false (g2 (i + 1) (by omega)))
    · have j3 : f i < f j := of_decide_eq_true j3
      have hj : pvj f i N = nI j := j2
      refine ⟨i, j, ⟨by omega, i3, fun k k1 k2 => ?_, ?_, j1, j3, fun k k1 k2 => ?_⟩, hi, hj, ?_⟩
      · have := of_decide_eq_false (i4 k k1 (by omega))
        omega
      · rcases Nat.lt_or_ge i j with z | z
        · exact z
        · exact absurd i3 (of_decide_eq_false (j4 (i + 1) (by omega) (by omega)))
      · have := of_decide_eq_false (j4 k k1 k2)
        omega
      · rw [hi, if_neg (nI_ne_m1 (by omega)), nI_toInt (by omega), Int.toNat_natCast, hj, nI_toInt (by omega), Int.toNat_natCast]
def dsc (f : Nat → Nat) (a N : Nat) : Prop := ∀ k, a ≤ k → k + 1 < N → f (k + 1) ≤ f k
theorem dsc_t {f : Nat → Nat} {a N : Nat} (h : dsc f a N) : ∀ d k, a ≤ k → k + d < N → f (k + d) ≤ f k
  | 0, k, _, _ => Nat.le_refl _
  | d + 1, k, h1, h2 => Nat.le_trans (h (k + d) (by omega) h2) (dsc_t h d k h1 (by omega))
theorem npr_dsc {N : Nat} {f : Nat → Nat} {i j : Nat} (h : npr N f i j) : dsc (swp f i j) (i + 1) N := by
  obtain ⟨h1, h2, h3, h4, h5, h6, h7⟩ := h
  intro k k1 k2
  have hd : f (k + 1) ≤ f k := h3 k (by omega) k2
  unfold swp
  by_cases e1 : k + 1 = j
  · rw [if_pos e1, if_neg (show ¬ k = j by omega), if_neg (show ¬ k = i by omega)]
    rw [e1] at hd; omega
  · rw [if_neg e1, if_neg (show ¬ k + 1 = i by omega)]
    by_cases e2 : k = j
    · rw [if_pos e2]; exact h7 (k + 1) (by omega) k2
    · rw [if_neg e2, if_neg (show ¬ k = i by omega)]; exact hd
/-- one that is no more than those before it goes to their head -/
theorem ins_rot (a : Nat) : ∀ (j : Nat) (f : Nat → Nat), a ≤ j → (∀ m, a ≤ m → m + 1 < j → f m ≤ f (m + 1)) → (∀ m, a ≤ m → m < j → f j ≤ f m) → ∀ k, ins a j f k = if k = a then f j else if a < k ∧ k ≤ j then f (k - 1) else f k
  | 0, f, h, _, _, k => by
    have : a = 0 := by omega
    subst this
    show f k = _
    by_cases e : k = 0
    · rw [if_pos e, e]
    · rw [if_neg e, if_neg (by omega)]
  | j + 1, f, h, h1, h2, k => by
    unfold ins
    by_cases hc : a < j + 1 ∧ f (j + 1) < f j
    · rw [if_pos hc]
      have e1 : ∀ m, m < j → swp f (j + 1) j m = f m := fun m hm => by
        unfold swp; rw [if_neg (by omega), if_neg (by omega)]
      have e2 : swp f (j + 1) j j = f (j + 1) := by unfold swp; rw [if_pos rfl]
      have e3 : swp f (j + 1) j (j + 1) = f j := by unfold swp; rw [if_neg (by omega), if_pos rfl]
      have e4 : ∀ m, j + 1 < m → swp f (j + 1) j m = f m := fun m hm => by
        unfold swp; rw [if_neg (by omega), if_neg (by omega)]
      rw [ins_rot a j (swp f (j + 1) j) (by omega) (fun m m1 m2 => by rw [e1 m (by omega), e1 (m + 1) (by omega)]; exact h1 m m1 (by omega)) (fun m m1 m2 => by rw [e2, e1 m m2]; exact h2 m m1 (by omega)) k]
      by_cases k1 : k = a
      · rw [if_pos k1, if_pos k1, e2]
      rw [if_neg k1, if_neg k1]
      by_cases k2 : a < k ∧ k ≤ j
      · rw [if_pos k2, if_pos ⟨k2.1, by omega⟩, e1 (k - 1) (by omega)]
      rw [if_neg k2]
      by_cases k3 : k = j + 1
      · rw [if_pos (by omega), k3, e3]; rfl
      · rw [if_neg (by omega)]
        rcases Nat.lt_or_ge k j with z | z
        · exact e1 k z
        · rcases Nat.lt_or_ge (j + 1) k with y | y
          · exact e4 k y
          · exfalso; omega
    · rw [if_neg hc]
      rcases Nat.lt_or_ge a (j + 1) with z | z
      · have hj : f (j + 1) = f j := by
          have := h2 j (by omega) (by omega)
          have : ¬ f (j + 1) < f j := fun q => hc ⟨z, q⟩
          omega
        have up : ∀ d, a + d ≤ j → f (a + d) ≤ f j ∧ f (j + 1) ≤ f (a + d) := fun d hd => by
          refine ⟨?_, h2 (a + d) (by omega) (by omega)⟩
          have go : ∀ t, a + d + t ≤ j → f (a + d) ≤ f (a + d + t) := fun t => by
            induction t with
            | zero => intro _; exact Nat.le_refl _
            | succ t ih => intro ht; exact Nat.le_trans (ih (by omega)) (h1 (a + d + t) (by omega) (by omega))
          have := go (j - (a + d)) (by omega)
          rw [show a + d + (j - (a + d)) = j by omega] at this
          exact this
        have al : ∀ m, a ≤ m → m ≤ j + 1 → f m = f (j + 1) := fun m m1 m2 => by
          rcases Nat.lt_or_ge m (j + 1) with y | y
          · have := up (m - a) (by omega)
            rw [show a + (m - a) = m by omega] at this
            omega
          · rw [show m = j + 1 by omega]
        by_cases k1 : k = a
        · rw [if_pos k1, al k (by omega) (by omega)]
        rw [if_neg k1]
        by_cases k2 : a < k ∧ k ≤ j + 1
        · rw [if_pos k2, al k (by omega) (by omega), al (k - 1) (by omega) (by omega)]
        · rw [if_neg k2]
      · have : a = j + 1 := by omega
        by_cases k1 : k = a
        · rw [if_pos k1, k1, this]
        · rw [if_neg k1, if_neg (by omega)]
theorem srt_rev {f : Nat → Nat} {a N : Nat} (h : dsc f a N) : ∀ k, a + k ≤ N → ∀ m, srt a k f m = if a ≤ m ∧ m < a + k then f (a + (a + k) - 1 - m) else f m
  | 0, _, m => by show f m = _; rw [if_neg (by omega)]
  | k + 1, hk, m => by
    have ih := srt_rev h k (by omega)
    show ins a (a + k) (srt a k f) m = _
    have le : ∀ x y, a ≤ x → x ≤ y → y < N → f y ≤ f x := fun x y h1 h2 h3 => by
      have := dsc_t h (y - x) x h1 (by omega)
      rw [show x + (y - x) = y by omega] at this
      exact this
    rw [ins_rot a (a + k) (srt a k f) (by omega) (fun m m1 m2 => by
      rw [ih m, ih (m + 1), if_pos (by omega), if_pos (by omega)]
      exact le _ _ (by omega) (by omega) (by omega)) (fun m m1 m2 => by
      rw [ih m, ih (a + k), if_neg (show ¬ (a ≤ a + k ∧ a + k < a + k) by omega), if_pos (by omega)]
      exact le _ _ (by omega) (by omega) (by omega)) m]
    by_cases e1 : m = a
    · rw [if_pos e1, ih (a + k), if_neg (show ¬ (a ≤ a + k ∧ a + k < a + k) by omega), if_pos (by omega)]
      congr 1; omega
    rw [if_neg e1]
    by_cases e2 : a < m ∧ m ≤ a + k
    · rw [if_pos e2, ih (m - 1), if_pos (by omega), if_pos (by omega)]
      congr 1; omega
    · rw [if_neg e2, ih m, if_neg (by omega), if_neg (by omega)]
theorem srt_rvf {f : Nat → Nat} {a N : Nat} (h : dsc f a N) (ha : a ≤ N) : srt a (N - a) f = rvf a N f := by
  funext m
  rw [srt_rev h (N - a) (by omega) m]
  unfold rvf
  rw [show a + (N - a) = N by omega]
/-- turned round from both ends -/
def hsr (a N : Nat) (f : Nat → Nat) (s : Nat) : Nat → Nat := fun k => if (a ≤ k ∧ k < a + s) ∨ (N - 1 < k + s ∧ k < N) then f (a + N - 1 - k) else f k
theorem hsr_0 (a N : Nat) (f : Nat → Nat) : hsr a N f 0 = f := by
  funext k
  unfold hsr
  rw [if_neg (by omega)]
theorem hsr_s {a N : Nat} (f : Nat → Nat) {s : Nat} (h : a + s + 1 + s < N) : hsr a N f (s + 1) = swp (hsr a N f s) (a + s) (N - 1 - s) := by
  funext k
  unfold swp
  by_cases e1 : k = N - 1 - s
  · rw [if_pos e1]
    unfold hsr
    rw [if_pos (by omega), if_neg (by omega)]
    congr 1; omega
  · rw [if_neg e1]
    by_cases e2 : k = a + s
    · rw [if_pos e2]
      unfold hsr
      rw [if_pos (by omega), if_neg (by omega)]
      congr 1; omega
    · rw [if_neg e2]
      unfold hsr
      by_cases e3 : (a ≤ k ∧ k < a + s) ∨ (N - 1 < k + s ∧ k < N)
      · rw [if_pos e3, if_pos (by omega)]
      · rw [if_neg e3, if_neg (by omega)]
theorem hsr_e {a N : Nat} (f : Nat → Nat) {s : Nat} (h : N ≤ a + s + 1 + s) (h2 : a + s + s ≤ N) : hsr a N f s = rvf a N f := by
  funext k
  unfold hsr rvf
  by_cases e : a ≤ k ∧ k < N
  · rw [if_pos e]
    by_cases e2 : (a ≤ k ∧ k < a + s) ∨ (N - 1 < k + s ∧ k < N)
    · rw [if_pos e2]
    · rw [if_neg e2]
      congr 1; omega
  · rw [if_neg e, if_neg (by omega)]
/-- counting does not mind the order -/
theorem cnt_c {f g : Nat → Bool} : ∀ (n : Nat), (∀ k, k < n → f k = g k) → cnt f n = cnt g n
  | 0, _ => rfl
  | n + 1, h => by simp only [cnt]; rw [cnt_c n (fun k hk => h k (by omega)), h n (by omega)]
theorem cnt_u (h : Nat → Bool) (x : Nat) (b : Bool) : ∀ n, cnt (fun k => if k = x then b else h k) n + (if x < n ∧ h x = true then 1 else 0) = cnt h n + (if x < n ∧ b = true then 1 else 0)
  | 0 => by rw [if_neg (by omega), if_neg (by omega)]; rfl
  | n + 1 => by
    have ih := cnt_u h x b n
    simp only [cnt]
    by_cases e : n = x
    · subst e
      have e2 : (if n = n then b else h n) = b := if_pos rfl
      simp only [e2]
      rw [if_neg (by omega), if_neg (by omega)] at ih
      have l : n < n + 1 := by omega
      generalize cnt (fun k => if k = n then b else h k) n = A at ih ⊢
      cases h n <;> cases b <;> simp [l] <;> omega
    · have e2 : (if n = x then b else h n) = h n := if_neg e
      simp only [e2]
      have e1 : (x < n + 1) = (x < n) := propext (by omega)
      simp only [e1]
      omega
theorem cnt_swp {f : Nat → Nat} {x y n : Nat} (hx : x < n) (hy : y < n) (M : Nat → Bool) (P : Nat → Bool) (hM : M x = M y) : cnt (fun k => M k && P (swp f x y k)) n = cnt (fun k => M k && P (f k)) n := by
  have e : ∀ k, (M k && P (swp f x y k)) = if k = y then (M x && P (f x)) else (if k = x then (M y && P (f y)) else (M k && P (f k))) := fun k => by
    unfold swp
    by_cases e1 : k = y
    · rw [if_pos e1, if_pos e1, e1, hM]
    · rw [if_neg e1, if_neg e1]
      by_cases e2 : k = x
      · rw [if_pos e2, if_pos e2, e2, hM]
      · rw [if_neg e2, if_neg e2]
  rw [cnt_c n (fun k _ => e k)]
  have h1 := cnt_u (fun k => M k && P (f k)) x (M y && P (f y)) n
  have h2 := cnt_u (fun k => if k = x then (M y && P (f y)) else (M k && P (f k))) y (M x && P (f x)) n
  by_cases exy : x = y
  · subst exy
    simp only [if_true] at h2
    have h3 : cnt (fun k => if k = x then (M x && P (f x)) else (if k = x then (M x && P (f x)) else (M k && P (f k)))) n = cnt (fun k => if k = x then (M x && P (f x)) else (M k && P (f k))) n := cnt_c n (fun k _ => by split <;> rfl)
    rw [h3]
    omega
  · rw [if_neg (show ¬ y = x from fun z => exy z.symm)] at h2
    simp only [hx, hy, true_and] at h1 h2
    omega
theorem cnt_hsr {a N : Nat} (f : Nat → Nat) (M : Nat → Bool) (P : Nat → Bool) (hM : ∀ k, a ≤ k → k < N → M k = true) : ∀ s, a + s + s ≤ N → cnt (fun k => M k && P (hsr a N f s k)) N = cnt (fun k => M k && P (f k)) N
  | 0, _ => by rw [hsr_0]
  | s + 1, h => by
    rw [hsr_s f (by omega), cnt_swp (f := hsr a N f s) (by omega) (by omega) M P (by rw [hM (a + s) (by omega) (by omega), hM (N - 1 - s) (by omega) (by omega)]), cnt_hsr f M P hM s (by omega)]
theorem cnt_rvf {a N : Nat} (ha : a ≤ N) (f : Nat → Nat) (M : Nat → Bool) (P : Nat → Bool) (hM : ∀ k, a ≤ k → k < N → M k = true) : cnt (fun k => M k && P (rvf a N f k)) N = cnt (fun k => M k && P (f k)) N := by
  rw [← hsr_e f (s := (N - a) / 2) (by omega) (by omega)]
  exact cnt_hsr f M P hM _ (by omega)
theorem cnt_mono {p q : Nat → Bool} : ∀ (n : Nat), (∀ k, k < n → p k = true → q k = true) → cnt p n ≤ cnt q n
  | 0, _ => Nat.le_refl _
  | n + 1, h => by
    have ih := cnt_mono n (fun k hk => h k (by omega))
    have := h n (by omega)
    simp only [cnt]
    cases e : p n with
    | false => rw [if_neg (by decide)]; split <;> omega
    | true => rw [if_pos rfl, if_pos (this e)]; omega
theorem cnt_more {p q : Nat → Bool} {j : Nat} : ∀ (n : Nat), (∀ k, k < n → p k = true → q k = true) → j < n → p j = false → q j = true → cnt p n + 1 ≤ cnt q n
  | n + 1, h, hj, h1, h2 => by
    simp only [cnt]
    by_cases e : j = n
    · subst e
      have := cnt_mono j (fun k hk => h k (by omega))
      rw [if_neg (by rw [h1]; decide), if_pos h2]; omega
    · have ih := cnt_more n (fun k hk => h k (by omega)) (by omega) h1 h2
      have := h n (by omega)
      cases e : p n with
      | false => rw [if_neg (by decide)]; split <;> omega
      | true => rw [if_pos rfl, if_pos (this e)]; omega
/-- the rank of a row among its like -/
def cgt (f : Nat → Nat) (i N : Nat) : Nat := cnt (fun j => decide (i < j) && decide (f j < f i)) N
def fct : Nat → Nat
  | 0 => 1
  | n + 1 => (n + 1) * fct n
def rk (f : Nat → Nat) (N : Nat) : Nat → Nat
  | 0 => 0
  | r + 1 => cgt f (N - (r + 1)) N * fct r + rk f N r
theorem fct_p : ∀ n, 0 < fct n
  | 0 => by decide
  | n + 1 => Nat.mul_pos (by omega) (fct_p n)
theorem cgt_b (f : Nat → Nat) (i : Nat) : ∀ (N : Nat) (v : Nat), cnt (fun j => decide (i < j) && decide (f j < v)) N ≤ N - (i + 1)
  | 0, _ => Nat.zero_le _
  | N + 1, v => by
    have ih := cgt_b f i N v
    simp only [cnt]
    by_cases e : i < N
    · have : (if (decide (i < N) && decide (f N < v)) = true then 1 else 0) ≤ 1 := by split <;> omega
      omega
    · rw [if_neg (by rw [decide_eq_false e]; simp)]
      omega
theorem rk_b (f : Nat → Nat) (N : Nat) : ∀ r, r ≤ N → rk f N r < fct r
  | 0, _ => Nat.zero_lt_one
  | r + 1, h => by
    have ih := rk_b f N r (by omega)
    have c := cgt_b f (N - (r + 1)) N (f (N - (r + 1)))
    have c : cgt f (N - (r + 1)) N ≤ r := by unfold cgt; omega
    have m := Nat.mul_le_mul_right (fct r) c
    show cgt f (N - (r + 1)) N * fct r + rk f N r < (r + 1) * fct r
    rw [Nat.add_mul, Nat.one_mul]
    omega
theorem rk_next {N : Nat} {f : Nat → Nat} {i j : Nat} (h : npr N f i j) : rk f N N < rk (rvf (i + 1) N (swp f i j)) N N := by
  obtain ⟨h1, h2, h3, h4, h5, h6, h7⟩ := h
  obtain ⟨g, hg⟩ : ∃ g, g = rvf (i + 1) N (swp f i j) := ⟨_, rfl⟩
  rw [← hg]
  have gl : ∀ k, k < i → g k = f k := fun k hk => by
    rw [hg]
    unfold rvf
    rw [if_neg (by omega)]
    unfold swp
    rw [if_neg (by omega), if_neg (by omega)]
  have gi : g i = f j := by
    rw [hg]
    unfold rvf
    rw [if_neg (by omega)]
    unfold swp
    rw [if_neg (by omega), if_pos rfl]
  have ci : cgt f i N + 1 ≤ cgt g i N := by
    unfold cgt
    rw [gi, hg, cnt_rvf (by omega) (swp f i j) (fun k => decide (i < k)) (fun v => decide (v < f j)) (fun k k1 _ => decide_eq_true (by omega))]
    refine cnt_more N (fun k hk hp => ?_) h5 (j := j) ?_ ?_
    · rw [Bool.and_eq_true] at hp ⊢
      have p1 := of_decide_eq_true hp.1
      have p2 := of_decide_eq_true hp.2
      refine ⟨hp.1, decide_eq_true ?_⟩
      unfold swp
      split
      · exact h6
      · rw [if_neg (by omega)]; omega
    · rw [decide_eq_false (show ¬ f j < f i by omega), Bool.and_false]
    · rw [decide_eq_true h4, Bool.true_and]
      apply decide_eq_true
      unfold swp
      rw [if_pos rfl]; exact h6
  have ck : ∀ k, k < i → cgt g k N = cgt f k N := fun k hk => by
    unfold cgt
    rw [gl k hk, hg, cnt_rvf (by omega) (swp f i j) (fun m => decide (k < m)) (fun v => decide (v < f k)) (fun m m1 _ => decide_eq_true (by omega)), cnt_swp (by omega) h5 (fun m => decide (k < m)) (fun v => decide (v < f k)) (by rw [decide_eq_true hk, decide_eq_true (show k < j by omega)])]
  have at_i : rk f N (N - i) < rk g N (N - i) := by
    obtain ⟨r, hr⟩ : ∃ r, N - i = r + 1 := ⟨N - i - 1, by omega⟩
    rw [hr]
    show cgt f (N - (r + 1)) N * fct r + rk f N r < cgt g (N - (r + 1)) N * fct r + rk g N r
    rw [show N - (r + 1) = i by omega]
    have b := rk_b f N r (by omega)
    have m := Nat.mul_le_mul_right (fct r) ci
    rw [Nat.add_mul, Nat.one_mul] at m
    omega
  have up : ∀ d, d ≤ i → rk f N (N - i + d) < rk g N (N - i + d) := fun d => by
    induction d with
    | zero => intro _; exact at_i
    | succ d ih =>
      intro hd
      have ih := ih (by omega)
      show cgt f (N - (N - i + d + 1)) N * fct (N - i + d) + rk f N (N - i + d) < cgt g (N - (N - i + d + 1)) N * fct (N - i + d) + rk g N (N - i + d)
      rw [ck (N - (N - i + d + 1)) (by omega)]
      omega
  have := up i (Nat.le_refl _)
  rw [show N - i + i = N by omega] at this
  exact this
theorem rk_720 {N : Nat} (hN : N ≤ 6) (f : Nat → Nat) : rk f N N < 720 := by
  have h := rk_b f N N (Nat.le_refl _)
  have : fct N ≤ 720 := by
    rcases (show N = 0 ∨ N = 1 ∨ N = 2 ∨ N = 3 ∨ N = 4 ∨ N = 5 ∨ N = 6 by omega) with rfl | rfl | rfl | rfl | rfl | rfl | rfl <;> decide
  omega
