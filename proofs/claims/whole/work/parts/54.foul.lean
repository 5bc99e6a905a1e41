/-! LAYER 2: foulness, the last beat, sink -/
def fby (p : PT) (k : Nat) (m : Int) : Int := fsum (fun v => if hp p v k = true then iabs (tby p v k m) else 0) 6
theorem iabs_b {z a : Int} (h : -a ≤ z ∧ z ≤ a) : 0 ≤ iabs z ∧ iabs z ≤ a := by unfold iabs; split <;> omega
theorem fby_b {p : PT} (hw : WP p) {k : Nat} (hk : k < 24) {m : Int} (hm : -6000000 ≤ m ∧ m ≤ 6000000) : 0 ≤ fby p k m ∧ fby p k m ≤ 72000000 := by
  have := fsum_b (f := fun v => if hp p v k = true then iabs (tby p v k m) else 0) (lo := 0) (hi := 12000000) 6 (fun v hv => by
    by_cases h : hp p v k = true
    · simp only [if_pos h]; exact iabs_b (tby_b hw hv hk h hm)
    · simp only [if_neg h]; decide)
  unfold fby; omega
theorem s_foulnessBy {p : PT} {μ : MM} (hq : WP p) (hw : Wf μ) (hx : XC p μ) {k : Nat} (hk : k < 24) {m : Int} (hm : -6000000 ≤ m ∧ m ≤ 6000000) : f_Sc_foulnessBy 1 (nI k) (oI m) μ = some (oI (fby p k m)) := by
  unfold f_Sc_foulnessBy
  rw [kO_1 hw, bsome]
  refine upA 6 (fun n v => f_Sc_foulnessBy_L5 1 (nI k) (oI m) μ n (oI (fsum (fun v => if hp p v k = true then iabs (tby p v k m) else 0) v)) (nI v)) _ (fun n => ?_) (fun n v hv => ?_) 0 FU (by decide) (by decide)
  · show f_Sc_foulnessBy_L5 1 (nI k) (oI m) μ (n + 1) _ (nI 6) = _
    rw [e_Sc_foulnessBy_L5, if_pos (by decide)]; rfl
  · show f_Sc_foulnessBy_L5 1 (nI k) (oI m) μ (n + 1) _ (nI v) = f_Sc_foulnessBy_L5 1 (nI k) (oI m) μ n (oI (fsum _ v + if hp p v k = true then iabs (tby p v k m) else 0)) (nI (v + 1))
    rw [e_Sc_foulnessBy_L5, if_neg (show ¬ (6 : Int32) ≤ nI v from nI_ge (b := 6) (by omega) (by omega)), s_tearBy hw hx hv hk, bsome, nI_1]
    by_cases h : hp p v k = true
    · have b := tby_b hq hv hk h hm
      rw [if_pos h, if_pos h, s_absI (by omega) (by omega), bsome, oI_add]
    · rw [if_neg h, if_neg h, show (0 : Int32) = oI 0 from rfl, s_absI (by omega) (by omega), bsome, oI_add]; rfl
theorem s_foulBy {p : PT} {μ : MM} (hq : WP p) (hw : Wf μ) (hm : MP p μ) {k : Nat} (hk : k < 24) {l : Int32} (hl : lok p l k) : f_M_foulBy 49 (nI k) l μ = some (lI (fby p k (lml p l k))) := by
  unfold f_M_foulBy
  rw [kO_49 hw, bsome]
  refine upA 6 (fun n v => f_M_foulBy_L5 49 (nI k) l μ n (lI (fsum (fun v => if hp p v k = true then iabs (tby p v k (lml p l k)) else 0) v)) (nI v)) _ (fun n => ?_) (fun n v hv => ?_) 0 FU (by decide) (by decide)
  · show f_M_foulBy_L5 49 (nI k) l μ (n + 1) _ (nI 6) = _
    rw [e_M_foulBy_L5, if_pos (by decide)]; rfl
  · show f_M_foulBy_L5 49 (nI k) l μ (n + 1) _ (nI v) = f_M_foulBy_L5 49 (nI k) l μ n (lI (fsum _ v + if hp p v k = true then iabs (tby p v k (lml p l k)) else 0)) (nI (v + 1))
    rw [e_M_foulBy_L5, if_neg (show ¬ (6 : Int32) ≤ nI v from nI_ge (b := 6) (by omega) (by omega)), s_hpM hw hm, bsome, nI_1]
    by_cases h : hp p v k = true
    · have b := tby_b hq hv hk h (lml_b hq hk hl)
      rw [if_pos h, h, if_neg (by decide), s_tornBy hw hm hv hk h hl, bsome, oI_l (by omega) (by omega), s_plain (by omega) (by omega), bsome, lI_add]
    · rw [if_neg h, (Bool.not_eq_true _).mp h, if_pos (by decide), Int.add_zero]
/-- whether one of the first ones is -/
def anyN (f : Nat → Bool) : Nat → Bool
  | 0 => false
  | n + 1 => anyN f n || f n
theorem anyN_of {f : Nat → Bool} {k : Nat} : ∀ {n : Nat}, k < n → f k = true → anyN f n = true
  | n + 1, h, e => by
    simp only [anyN]
    rcases Nat.lt_or_ge k n with z | z
    · rw [anyN_of z e]; rfl
    · have : k = n := by omega
      subst this
      rw [e, Bool.or_true]
theorem anyN_no {f : Nat → Bool} : ∀ {n : Nat}, (∀ k, k < n → f k = false) → anyN f n = false
  | 0, _ => rfl
  | n + 1, h => by simp only [anyN]; rw [anyN_no (fun k hk => h k (by omega)), h n (by omega)]; rfl
theorem anyN_f {f : Nat → Bool} {n : Nat} (h : anyN f n = false) {k : Nat} (hk : k < n) : f k = false := by
  cases e : f k with
  | false => rfl
  | true => rw [anyN_of hk e] at h; cases h
/-- the last of the first ones that is -/
def lastb (f : Nat → Bool) : Nat → Int32
  | 0 => -1
  | n + 1 => if f n = true then nI n else lastb f n
theorem lastb_c {f : Nat → Bool} : ∀ (n : Nat), (lastb f n = -1 ∧ ∀ k, k < n → f k = false) ∨ ∃ j, j < n ∧ lastb f n = nI j ∧ f j = true ∧ ∀ k, j < k → k < n → f k = false
  | 0 => Or.inl ⟨rfl, fun k hk => absurd hk (by omega)⟩
  | n + 1 => by
    cases e : f n with
    | true => exact Or.inr ⟨n, by omega, by simp only [lastb]; rw [if_pos e], e, fun k h1 h2 => by omega⟩
    | false =>
      have h : lastb f (n + 1) = lastb f n := by simp only [lastb]; rw [if_neg (by rw [e]; decide)]
      rcases lastb_c (f := f) n with ⟨h1, h2⟩ | ⟨j, h1, h2, h3, h4⟩
      · refine Or.inl ⟨h.trans h1, fun k hk => ?_⟩
        rcases Nat.lt_or_ge k n with z | z
        · exact h2 k z
        · have : k = n := by omega
          rw [this]; exact e
      · refine Or.inr ⟨j, by omega, h.trans h2, h3, fun k hk1 hk2 => ?_⟩
        rcases Nat.lt_or_ge k n with z | z
        · exact h4 k hk1 z
        · have : k = n := by omega
          rw [this]; exact e
def snds (p : PT) (b : Nat) : Bool := anyN (fun v => snd (pkey p) (nI v) (nI b)) 6
def lbt (p : PT) : Int32 := lastb (snds p) 24
theorem s_soundsIn {p : PT} {μ : MM} (hw : Wf μ) (hx : XC p μ) (b : Nat) : f_Sc_soundsIn 1 (nI b) μ = some (bi (snds p b)) := by
  unfold f_Sc_soundsIn
  rw [kO_1 hw, bsome]
  refine up 6 (fun v => anyN (fun v => snd (pkey p) (nI v) (nI b)) v = false) (fun n v => f_Sc_soundsIn_L2 1 (nI b) μ n (nI v)) _ (fun n hi => ?_) (fun n v hv hi => ?_) 0 FU (by decide) (by decide) rfl
  · show f_Sc_soundsIn_L2 1 (nI b) μ (n + 1) (nI 6) = _
    rw [e_Sc_soundsIn_L2, if_pos (by decide)]; unfold snds; rw [hi]; rfl
  · show f_Sc_soundsIn_L2 1 (nI b) μ (n + 1) (nI v) = _ ∨ f_Sc_soundsIn_L2 1 (nI b) μ (n + 1) (nI v) = f_Sc_soundsIn_L2 1 (nI b) μ n (nI (v + 1)) ∧ _
    rw [e_Sc_soundsIn_L2, if_neg (show ¬ (6 : Int32) ≤ nI v from nI_ge (b := 6) (by omega) (by omega)), s_sounds hw, hx.1, bsome, nI_1]
    cases e : snd (pkey p) (nI v) (nI b) with
    | true => left; rw [if_neg (by decide)]; unfold snds; rw [anyN_of hv e]; rfl
    | false => right; rw [if_pos (by decide)]; exact ⟨rfl, by simp only [anyN]; rw [hi, e]; rfl⟩
/-- a loop that goes down to 0 -/
theorem dn {β : Type} (N : Nat) (I : Nat → Prop) (G : Nat → Int32 → β) (E : β) (hend : ∀ n x, x < 0 → I 0 → G (n + 1) x = E) (hstep : ∀ n k, k < N → I (k + 1) → G (n + 1) (nI k) = E ∨ G (n + 1) (nI k) = G n (nI k + (-1)) ∧ I k) : ∀ k n, k ≤ N → k < n → I k → G n (nI k + (-1)) = E := by
  intro k
  induction k with
  | zero =>
    intro n _ h i
    obtain ⟨n, rfl⟩ : ∃ m, n = m + 1 := ⟨n - 1, by omega⟩
    exact hend n _ (by decide) i
  | succ k ih =>
    intro n h h1 i
    obtain ⟨n, rfl⟩ : ∃ m, n = m + 1 := ⟨n - 1, by omega⟩
    rw [nI_p, nI_m1 (by omega), Nat.add_sub_cancel]
    rcases hstep n k (by omega) i with z | ⟨z, w⟩
    · exact z
    · rw [z]; exact ih n (by omega) (by omega) w
theorem s_lastBeat {p : PT} {μ : MM} (hw : Wf μ) (hx : XC p μ) : f_Sc_lastBeat 1 μ = some (lbt p) := by
  unfold f_Sc_lastBeat
  rw [kO_1 hw, bsome, show (23 : Int32) = nI 24 + (-1) by decide]
  refine dn 24 (fun k => lbt p = lastb (snds p) k) (fun n x => f_Sc_lastBeat_L3 1 μ n x) _ (fun n x hx0 hi => ?_) (fun n k hk hi => ?_) 24 FU (by decide) (by decide) rfl
  · show f_Sc_lastBeat_L3 1 μ (n + 1) x = _
    rw [e_Sc_lastBeat_L3, if_pos hx0, hi]; rfl
  · show f_Sc_lastBeat_L3 1 μ (n + 1) (nI k) = _ ∨ f_Sc_lastBeat_L3 1 μ (n + 1) (nI k) = f_Sc_lastBeat_L3 1 μ n (nI k + (-1)) ∧ _
    rw [e_Sc_lastBeat_L3, if_neg (nI_pos (by omega)), s_soundsIn hw hx, bsome]
    simp only [lastb] at hi
    cases e : snds p k with
    | true => left; rw [hi, if_neg (by decide), if_pos e]
    | false => right; rw [if_pos (by decide)]; exact ⟨rfl, by rw [hi, if_neg (by rw [e]; decide)]⟩
theorem s_lastBeatM {p : PT} {μ : MM} (hw : Wf μ) (hm : MP p μ) : f_M_lastBeat 49 μ = some (lbt p) := by
  unfold f_M_lastBeat
  rw [kO_49 hw, bsome]
  refine upA 24 (fun n b => f_M_lastBeat_L4 49 μ n (lastb (snds p) b) (nI b)) _ (fun n => ?_) (fun n b hb => ?_) 0 FU (by decide) (by decide)
  · show f_M_lastBeat_L4 49 μ (n + 1) _ (nI 24) = _
    rw [e_M_lastBeat_L4, if_pos (by decide)]; rfl
  · show f_M_lastBeat_L4 49 μ (n + 1) _ (nI b) = f_M_lastBeat_L4 49 μ n _ (nI (b + 1))
    rw [e_M_lastBeat_L4, if_neg (show ¬ (24 : Int32) ≤ nI b from nI_ge (b := 24) (by omega) (by omega))]
    refine upA 6 (fun n2 v => f_M_lastBeat_L12 (f_M_lastBeat_L4 49 μ n) 49 (nI b) μ n2 (if anyN (fun v => snd (pkey p) (nI v) (nI b)) v = true then nI b else lastb (snds p) b) (nI v)) _ (fun n2 => ?_) (fun n2 v hv => ?_) 0 FU (by decide) (by decide)
    · show f_M_lastBeat_L12 (f_M_lastBeat_L4 49 μ n) 49 (nI b) μ (n2 + 1) _ (nI 6) = _
      rw [e_M_lastBeat_L12, if_pos (by decide), nI_1]; rfl
    · show f_M_lastBeat_L12 (f_M_lastBeat_L4 49 μ n) 49 (nI b) μ (n2 + 1) _ (nI v) = f_M_lastBeat_L12 (f_M_lastBeat_L4 49 μ n) 49 (nI b) μ n2 (if (anyN (fun v => snd (pkey p) (nI v) (nI b)) v || snd (pkey p) (nI v) (nI b)) = true then _ else _) (nI (v + 1))
      rw [e_M_lastBeat_L12, if_neg (show ¬ (6 : Int32) ≤ nI v from nI_ge (b := 6) (by omega) (by omega)), s_isNote hw, hm.1, bsome, nI_1]
      cases e : snd (pkey p) (nI v) (nI b) with
      | false => rw [if_pos (by decide), Bool.or_false]
      | true => rw [if_neg (by decide), Bool.or_true, if_pos rfl]
/-- the foulness up to a beat -/
def ffs (p : PT) (n : Nat) : Int := fsum (fun j => fby p (j + 1) (lml p (pln p (j + 1)) (j + 1))) n
theorem s_foulness {p : PT} {μ : MM} (hq : WP p) (hw : Wf μ) (hx : XP p μ) : f_Sc_foulness 1 μ = some (oI (ffs p 23)) := by
  unfold f_Sc_foulness
  rw [kO_1 hw, bsome]
  refine upA 23 (fun n j => f_Sc_foulness_L4 1 μ n (oI (ffs p j)) (nI (j + 1))) _ (fun n => ?_) (fun n j hj => ?_) 0 FU (by decide) (by decide)
  · show f_Sc_foulness_L4 1 μ (n + 1) _ (nI 24) = _
    rw [e_Sc_foulness_L4, if_pos (by decide)]
  · show f_Sc_foulness_L4 1 μ (n + 1) _ (nI (j + 1)) = f_Sc_foulness_L4 1 μ n (oI (ffs p j + fby p (j + 1) (lml p (pln p (j + 1)) (j + 1)))) (nI (j + 1 + 1))
    have r1 := (rd_xp hw hx (b := j + 1) (by omega)).1
    have r0 := (rd_xp hw hx (b := j) (by omega)).1
    rw [e_Sc_foulness_L4, if_neg (show ¬ (24 : Int32) ≤ nI (j + 1) from nI_ge (b := 24) (by omega) (by omega)), rR_1_5 hw, bsome, r1, bsome, bsome, nI_m1 (by omega), Nat.add_sub_cancel, r0, bsome, oI_sub, kmil_s, s_foulnessBy hq hw hx.1 (by omega) (lml_b hq (by omega) (lok_pln hq (by omega))), bsome, oI_add, nI_1]
theorem s_sinkL {p : PT} {μ : MM} (hq : WP p) (hw : Wf μ) (hm : MP p μ) {b : Nat} (hb : b < 24) : f_M_sink_L42 49 (nI b) μ FU 0 1 = some (oI (ffs p b), μ) := by
  refine upA b (fun n j => f_M_sink_L42 49 (nI b) μ n (lI (ffs p j)) (nI (j + 1))) _ (fun n => ?_) (fun n j hj => ?_) 0 FU (by omega) (by unfold FU; omega)
  · show f_M_sink_L42 49 (nI b) μ (n + 1) _ (nI (b + 1)) = _
    rw [e_M_sink_L42, if_pos (nI_lt (by omega) (by omega)), lI_i]
  · show f_M_sink_L42 49 (nI b) μ (n + 1) _ (nI (j + 1)) = f_M_sink_L42 49 (nI b) μ n (lI (ffs p j + fby p (j + 1) (lml p (pln p (j + 1)) (j + 1)))) (nI (j + 1 + 1))
    rw [e_M_sink_L42, if_neg (nI_nlt (by omega) (by omega)), rR_49_7 hw, bsome, aI_56 hw (by omega), bsome, hm.2.1, s_foulBy hq hw hm (by omega) (lok_pln hq (by omega)), bsome, lI_add, nI_1]
theorem fby_0 {p : PT} {k : Nat} (hk : k < 24) (h : snds p k = false) (m : Int) : fby p k m = 0 := by
  unfold fby
  rw [fsum_c (g := fun _ => 0) 6 (fun v hv => ?_)]
  · rfl
  · rw [if_neg]
    intro e
    have := (hp_c hv hk e).2.1
    have h2 := anyN_f h hv
    simp only [snd_nI hv hk] at h2
    exact of_decide_eq_false h2 this
theorem ffs_end {p : PT} {b : Nat} : ∀ n, b ≤ n → n < 24 → (∀ k, b < k → k < 24 → snds p k = false) → ffs p n = ffs p b := by
  intro n
  induction n with
  | zero => intro h _ _; rw [show b = 0 by omega]
  | succ n ih =>
    intro h h2 h3
    rcases Nat.lt_or_ge n b with z | z
    · rw [show b = n + 1 by omega]
    · show ffs p n + fby p (n + 1) _ = _
      rw [ih z (by omega) h3, fby_0 h2 (h3 _ (by omega) h2), Int.add_zero]
