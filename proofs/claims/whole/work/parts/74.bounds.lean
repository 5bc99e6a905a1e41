/-! LAYER 2: how far pitches go -/
theorem fsum_le {f g : Nat → Int} : ∀ (n : Nat), (∀ k, k < n → f k ≤ g k) → fsum f n ≤ fsum g n
  | 0, _ => Int.le_refl _
  | n + 1, h => by
    have h1 := fsum_le n (fun k hk => h k (by omega))
    have h2 := h n (by omega)
    simp only [fsum]; omega
theorem fsum_mul (M : Int) (f : Nat → Int) : ∀ n, fsum (fun k => M * f k) n = M * fsum f n
  | 0 => by simp [fsum]
  | n + 1 => by simp only [fsum]; rw [fsum_mul M f n, Int.mul_add]
theorem wav_b {W T M : Int} (hW : 0 < W) (h1 : (-M) * W ≤ T) (h2 : T ≤ M * W) : -M ≤ T / W ∧ T / W ≤ M :=
  ⟨Int.le_ediv_of_mul_le hW h1, Int.ediv_le_of_le_mul hW h2⟩
/-- a mean of things lies where they do -/
theorem mean_b {w a : Nat → Int} {n : Nat} {M : Int} (h : ∀ k, k < n → 0 ≤ w k ∧ -M ≤ a k ∧ a k ≤ M) : (-M) * fsum w n ≤ fsum (fun k => w k * a k) n ∧ fsum (fun k => w k * a k) n ≤ M * fsum w n := by
  rw [← fsum_mul, ← fsum_mul]
  constructor
  · refine fsum_le n (fun k hk => ?_)
    obtain ⟨h1, h2, h3⟩ := h k hk
    rw [Int.mul_comm]
    exact Int.mul_le_mul_of_nonneg_left h2 h1
  · refine fsum_le n (fun k hk => ?_)
    obtain ⟨h1, h2, h3⟩ := h k hk
    rw [Int.mul_comm M]
    exact Int.mul_le_mul_of_nonneg_left h3 h1
theorem mix_b {cb : Nat → Bool} {w a : Nat → Int} {M : Int} (hW : WB w) (hA : ∀ k, k < 4 → -M ≤ a k ∧ a k ≤ M) : -M ≤ mix cb w a ∧ mix cb w a ≤ M := by
  unfold mix
  split
  · rename_i e
    have e2 : mT cb w a 4 = fsum (fun k => (if cb k = true then w k else 0) * a k) 4 := fsum_c 4 (fun k hk => by split; rfl; rw [Int.zero_mul])
    have := mean_b (w := fun k => if cb k = true then w k else 0) (a := a) (n := 4) (M := M) (fun k hk => ⟨by
      have := hW k hk
      by_cases h : cb k = true
      · simp only [if_pos h]; exact this.1
      · simp only [if_neg h]; decide, hA k hk⟩)
    rw [← e2] at this
    exact wav_b e this.1 this.2
  · exact hA 2 (by decide)
theorem oth_b {c : CT} (hc : WC c) {p : PT} (hp' : WP p) {pl : Nat → Nat} {pit : Nat → Int} {i b : Nat} (hi : i < cN c) (hb : b < 24) (h : sg c p i b = true) {B : Int} (hB : 0 ≤ B) (hpit : ∀ j, j < i → sg c p j b = true → -B ≤ pit (24 * j + b) ∧ pit (24 * j + b) ≤ B) : -(B + 6000000) ≤ oth c p pl pit i b ∧ oth c p pl pit i b ≤ B + 6000000 := by
  unfold oth
  split
  · rename_i e
    have z := mz_b hc hp' hi hb h
    have e2 : herd c p pl pit i b i = fsum (fun j => (if sg c p j b = true then hrw c pl i j else 0) * (if sg c p j b = true then pit (24 * j + b) + mz c p i b - mz c p j b else 0)) i := fsum_c i (fun j hj => by
      by_cases hs : sg c p j b = true
      · simp only [if_pos hs]
      · simp only [if_neg hs]; rfl)
    have := mean_b (w := fun j => if sg c p j b = true then hrw c pl i j else 0) (a := fun j => if sg c p j b = true then pit (24 * j + b) + mz c p i b - mz c p j b else 0) (n := i) (M := B + 6000000) (fun j hj => by
      by_cases hs : sg c p j b = true
      · simp only [if_pos hs]
        have h1 := hpit j hj hs
        have h2 := mz_b hc hp' (show j < cN c by omega) hb hs
        have h3 := hrw_b hc (pl := pl) (i := i) (show j < cN c by omega)
        omega
      · simp only [if_neg hs]; omega)
    rw [← e2] at this
    exact wav_b e this.1 this.2
  · omega
theorem own_b {c : CT} (hc : WC c) {p : PT} (hp' : WP p) {i b : Nat} (hi : i < cN c) (hb : b < 24) (h : sg c p i b = true) {last : Int32} (hl : lst c p i b last) {lp B : Int} (hB : 0 ≤ B) (hlp : -B ≤ lp ∧ lp ≤ B) : -(B + 6000000) ≤ own c p i b last lp ∧ own c p i b last lp ≤ B + 6000000 := by
  unfold own
  split
  · omega
  · split
    · omega
    · rename_i e1 e2
      obtain ⟨k, hk, rfl, hs⟩ := hl.resolve_left e1
      have h1 := mz_b hc hp' hi hb h
      have h2 := mz_b hc hp' hi (show k < 24 by omega) hs
      rw [nI_toInt (by omega), Int.toNat_natCast]
      omega
