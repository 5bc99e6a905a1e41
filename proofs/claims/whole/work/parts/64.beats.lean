/-! LAYER 2: who sings, the beats that are sung -/
def cnt (f : Nat → Bool) : Nat → Nat
  | 0 => 0
  | n + 1 => cnt f n + (if f n = true then 1 else 0)
theorem cnt_b (f : Nat → Bool) : ∀ n, cnt f n ≤ n
  | 0 => Nat.le_refl _
  | n + 1 => by have := cnt_b f n; simp only [cnt]; split <;> omega
theorem cnt_t {f : Nat → Bool} {n : Nat} (h : f n = true) : cnt f (n + 1) = cnt f n + 1 := by simp only [cnt]; rw [if_pos h]
theorem cnt_f {f : Nat → Bool} {n : Nat} (h : f n = false) : cnt f (n + 1) = cnt f n + 0 := by simp only [cnt]; rw [if_neg (by rw [h]; decide)]
theorem cnt_p {f : Nat → Bool} {k : Nat} : ∀ {n : Nat}, k < n → f k = true → 0 < cnt f n
  | n + 1, h, e => by
    rcases Nat.lt_or_ge k n with z | z
    · have := cnt_p z e; simp only [cnt]; omega
    · have : k = n := by omega
      subst this
      rw [cnt_t e]; omega
theorem cnt_0 {f : Nat → Bool} {n : Nat} (h : cnt f n = 0) {k : Nat} (hk : k < n) : f k = false := by
  cases e : f k with
  | false => rfl
  | true => have := cnt_p hk e; omega
/-- the singer sings in the beat -/
def sg (c : CT) (p : PT) (i b : Nat) : Bool := sd p (cV c i) b
def hmn (c : CT) (p : PT) (b : Nat) : Nat := cnt (fun i => sg c p i b) (cN c)
def lnt (c : CT) (p : PT) (i b : Nat) : Int32 := lastb (sg c p i) b
def fstb (f : Nat → Bool) : Nat → Nat → Int32
  | _, 0 => -1
  | k, r + 1 => if f k = true then nI k else fstb f (k + 1) r
theorem fstb_c {f : Nat → Bool} : ∀ (r k : Nat), (fstb f k r = -1 ∧ ∀ j, k ≤ j → j < k + r → f j = false) ∨ ∃ j, k ≤ j ∧ j < k + r ∧ fstb f k r = nI j ∧ f j = true ∧ ∀ i, k ≤ i → i < j → f i = false
  | 0, k => Or.inl ⟨rfl, fun j h1 h2 => by omega⟩
  | r + 1, k => by
    cases e : f k with
    | true => exact Or.inr ⟨k, Nat.le_refl _, by omega, by simp only [fstb]; rw [if_pos e], e, fun i h1 h2 => by omega⟩
    | false =>
      have h : fstb f k (r + 1) = fstb f (k + 1) r := by simp only [fstb]; rw [if_neg (by rw [e]; decide)]
      have ext : ∀ {m : Nat}, (∀ i, k + 1 ≤ i → i < m → f i = false) → ∀ i, k ≤ i → i < m → f i = false := fun {m} z i h1 h2 => by
        rcases Nat.lt_or_ge k i with q | q
        · exact z i q h2
        · have : i = k := by omega
          subst this; exact e
      rcases fstb_c (f := f) r (k + 1) with ⟨h1, h2⟩ | ⟨j, h1, h2, h3, h4, h5⟩
      · exact Or.inl ⟨h.trans h1, fun j g1 g2 => ext (m := k + (r + 1)) (fun i a b => h2 i a (by omega)) j g1 g2⟩
      · exact Or.inr ⟨j, by omega, by omega, h.trans h3, h4, ext h5⟩
def fbt (c : CT) (p : PT) : Int32 := fstb (fun b => decide (0 < hmn c p b)) 0 24
def lbg (c : CT) (p : PT) : Int32 := lastb (fun b => decide (0 < hmn c p b)) 24
theorem nI_le0 {h : Nat} (hh : h < 2 ^ 31) : (nI h ≤ (0 : Int32)) = (h = 0) := by
  rw [show (0 : Int32) = nI 0 from rfl, cle hh (by decide)]; apply propext; omega
theorem s_sings {c : CT} {p : PT} {μ : MM} (hw : Wf μ) (hc : WC c) (hx : XG c μ) (hxc : XC p μ) {i : Nat} (hi : i < cN c) (x : Int32) : f_Ch_sings 9 (nI i) x μ = some (bi (snd (pkey p) (nI (cV c i)) x)) := by
  have h8 := hc.1
  unfold f_Ch_sings
  rw [kO_9 hw, bsome, s_chas hw hc hx, inR_nI hi (by omega), bsome, if_neg (by decide), rR_9_0 hw, bsome, rR_9_1 hw, bsome, aI_10 hw (by omega), bsome, (hx.2.2.2.2.1 i hi).1, s_sounds hw, hxc.1, bsome]
  cases snd (pkey p) (nI (cV c i)) x <;> rfl
theorem s_singsM {c : CT} {p : PT} {μ : MM} (hw : Wf μ) (hc : WC c) (hv : ∀ i, i < cN c → gI μ 63 i = nI (cV c i)) (hm : gI μ 51 = pkey p) {i : Nat} (hi : i < cN c) (x : Int32) : f_M_sings 49 (nI i) x μ = some (bi (snd (pkey p) (nI (cV c i)) x)) := by
  have h8 := hc.1
  unfold f_M_sings
  rw [kO_49 hw, bsome, rR_49_22 hw, bsome, aI_63 hw (by omega), bsome, hv i hi, s_isNote hw, hm, bsome, rz_bi, bsome]
theorem s_howMany {c : CT} {p : PT} {μ : MM} (hw : Wf μ) (hc : WC c) (hx : XG c μ) (hxc : XC p μ) (b : Nat) : f_Ch_howMany 9 (nI b) μ = some (nI (hmn c p b)) := by
  have h8 := hc.1
  unfold f_Ch_howMany
  rw [kO_9 hw, bsome]
  refine upA (cN c) (fun n i => f_Ch_howMany_L4 9 (nI b) μ n (nI (cnt (fun i => sg c p i b) i)) (nI i)) _ (fun n => ?_) (fun n i hi => ?_) 0 FU (by omega) (by unfold FU; omega)
  · show f_Ch_howMany_L4 9 (nI b) μ (n + 1) _ (nI (cN c)) = _
    rw [e_Ch_howMany_L4, rI_9 hw, bsome, hx.1, if_pos (show nI (cN c) ≤ nI (cN c) by rw [cle (by omega) (by omega)]; omega)]; rfl
  · show f_Ch_howMany_L4 9 (nI b) μ (n + 1) _ (nI i) = f_Ch_howMany_L4 9 (nI b) μ n _ (nI (i + 1))
    rw [e_Ch_howMany_L4, rI_9 hw, bsome, hx.1, if_neg (show ¬ nI (cN c) ≤ nI i by rw [cle (by omega) (by omega)]; omega), s_sings hw hc hx hxc hi, bsome, nI_1, show (0 : Int32) = nI 0 from rfl, nI_add, nI_1]
    cases e : snd (pkey p) (nI (cV c i)) (nI b) with
    | false => rw [if_pos (by decide), cnt_f (f := fun i => sg c p i b) e]
    | true => rw [if_neg (by decide), cnt_t (f := fun i => sg c p i b) e]
theorem s_singing {c : CT} {p : PT} {μ : MM} (hw : Wf μ) (hc : WC c) (hn : gI μ 49 18 = nI (cN c)) (hv : ∀ i, i < cN c → gI μ 63 i = nI (cV c i)) (hm : gI μ 51 = pkey p) (b : Nat) : f_M_singing 49 (nI b) μ = some (nI (hmn c p b)) := by
  have h8 := hc.1
  unfold f_M_singing
  rw [kO_49 hw, bsome]
  refine upA (cN c) (fun n i => f_M_singing_L4 49 (nI b) μ n (nI (cnt (fun i => sg c p i b) i)) (nI i)) _ (fun n => ?_) (fun n i hi => ?_) 0 FU (by omega) (by unfold FU; omega)
  · show f_M_singing_L4 49 (nI b) μ (n + 1) _ (nI (cN c)) = _
    rw [e_M_singing_L4, rI_49 hw, bsome, hn, if_pos (show nI (cN c) ≤ nI (cN c) by rw [cle (by omega) (by omega)]; omega)]; rfl
  · show f_M_singing_L4 49 (nI b) μ (n + 1) _ (nI i) = f_M_singing_L4 49 (nI b) μ n _ (nI (i + 1))
    rw [e_M_singing_L4, rI_49 hw, bsome, hn, if_neg (show ¬ nI (cN c) ≤ nI i by rw [cle (by omega) (by omega)]; omega), s_singsM hw hc hv hm hi, bsome, nI_1, show (0 : Int32) = nI 0 from rfl, nI_add, nI_1]
    cases e : snd (pkey p) (nI (cV c i)) (nI b) with
    | false => rw [if_pos (by decide), cnt_f (f := fun i => sg c p i b) e]
    | true => rw [if_neg (by decide), cnt_t (f := fun i => sg c p i b) e]
theorem hmn_b {c : CT} (hc : WC c) (p : PT) (b : Nat) : hmn c p b ≤ 8 := Nat.le_trans (cnt_b _ _) hc.1
theorem s_firstBeat {c : CT} {p : PT} {μ : MM} (hw : Wf μ) (hc : WC c) (hx : XG c μ) (hxc : XC p μ) : f_Ch_firstBeat 9 μ = some (fbt c p) := by
  unfold f_Ch_firstBeat
  rw [kO_9 hw, bsome]
  refine up 24 (fun k => fbt c p = fstb (fun b => decide (0 < hmn c p b)) k (24 - k)) (fun n k => f_Ch_firstBeat_L2 9 μ n (nI k)) _ (fun n hi => ?_) (fun n k hk hi => ?_) 0 FU (by decide) (by decide) rfl
  · show f_Ch_firstBeat_L2 9 μ (n + 1) (nI 24) = _
    rw [e_Ch_firstBeat_L2, if_pos (by decide), hi]; rfl
  · show f_Ch_firstBeat_L2 9 μ (n + 1) (nI k) = _ ∨ f_Ch_firstBeat_L2 9 μ (n + 1) (nI k) = f_Ch_firstBeat_L2 9 μ n (nI (k + 1)) ∧ _
    have hb := hmn_b hc p k
    rw [e_Ch_firstBeat_L2, if_neg (show ¬ (24 : Int32) ≤ nI k from nI_ge (b := 24) (by omega) (by omega)), s_howMany hw hc hx hxc, bsome, nI_1]
    rw [show 24 - k = (24 - (k + 1)) + 1 by omega] at hi
    simp only [fstb] at hi
    by_cases e : hmn c p k = 0
    · right
      rw [if_pos (by rw [nI_le0 (by omega)]; exact e)]
      rw [if_neg (by rw [decide_eq_true_eq]; omega)] at hi
      exact ⟨rfl, hi⟩
    · left
      rw [if_neg (by rw [nI_le0 (by omega)]; exact e)]
      rw [if_pos (by rw [decide_eq_true_eq]; omega)] at hi
      rw [hi]
theorem s_firstSung {c : CT} {p : PT} {μ : MM} (hw : Wf μ) (hc : WC c) (hn : gI μ 49 18 = nI (cN c)) (hv : ∀ i, i < cN c → gI μ 63 i = nI (cV c i)) (hm : gI μ 51 = pkey p) : f_M_firstSung 49 μ = some (fbt c p) := by
  unfold f_M_firstSung
  rw [kO_49 hw, bsome]
  refine up 24 (fun k => fbt c p = fstb (fun b => decide (0 < hmn c p b)) k (24 - k)) (fun n k => f_M_firstSung_L2 49 μ n (nI k)) _ (fun n hi => ?_) (fun n k hk hi => ?_) 0 FU (by decide) (by decide) rfl
  · show f_M_firstSung_L2 49 μ (n + 1) (nI 24) = _
    rw [e_M_firstSung_L2, if_pos (by decide), hi]; rfl
  · show f_M_firstSung_L2 49 μ (n + 1) (nI k) = _ ∨ f_M_firstSung_L2 49 μ (n + 1) (nI k) = f_M_firstSung_L2 49 μ n (nI (k + 1)) ∧ _
    have hb := hmn_b hc p k
    rw [e_M_firstSung_L2, if_neg (show ¬ (24 : Int32) ≤ nI k from nI_ge (b := 24) (by omega) (by omega)), s_singing hw hc hn hv hm, bsome, nI_1]
    rw [show 24 - k = (24 - (k + 1)) + 1 by omega] at hi
    simp only [fstb] at hi
    by_cases e : hmn c p k = 0
    · right
      rw [if_pos (by rw [nI_le0 (by omega)]; exact e)]
      rw [if_neg (by rw [decide_eq_true_eq]; omega)] at hi
      exact ⟨rfl, hi⟩
    · left
      rw [if_neg (by rw [nI_le0 (by omega)]; exact e)]
      rw [if_pos (by rw [decide_eq_true_eq]; omega)] at hi
      rw [hi]
theorem s_lastBeatC {c : CT} {p : PT} {μ : MM} (hw : Wf μ) (hc : WC c) (hx : XG c μ) (hxc : XC p μ) : f_Ch_lastBeat 9 μ = some (lbg c p) := by
  unfold f_Ch_lastBeat
  rw [kO_9 hw, bsome, show (23 : Int32) = nI 24 + (-1) by decide]
  refine dn 24 (fun k => lbg c p = lastb (fun b => decide (0 < hmn c p b)) k) (fun n x => f_Ch_lastBeat_L3 9 μ n x) _ (fun n x hx0 hi => ?_) (fun n k hk hi => ?_) 24 FU (by decide) (by decide) rfl
  · show f_Ch_lastBeat_L3 9 μ (n + 1) x = _
    rw [e_Ch_lastBeat_L3, if_pos hx0, hi]; rfl
  · show f_Ch_lastBeat_L3 9 μ (n + 1) (nI k) = _ ∨ f_Ch_lastBeat_L3 9 μ (n + 1) (nI k) = f_Ch_lastBeat_L3 9 μ n (nI k + (-1)) ∧ _
    have hb := hmn_b hc p k
    rw [e_Ch_lastBeat_L3, if_neg (nI_pos (by omega)), s_howMany hw hc hx hxc, bsome]
    simp only [lastb] at hi
    by_cases e : hmn c p k = 0
    · right
      rw [if_pos (by rw [nI_le0 (by omega)]; exact e)]
      rw [if_neg (by rw [decide_eq_true_eq]; omega)] at hi
      exact ⟨rfl, hi⟩
    · left
      rw [if_neg (by rw [nI_le0 (by omega)]; exact e)]
      rw [if_pos (by rw [decide_eq_true_eq]; omega)] at hi
      rw [hi]
theorem s_lastSung {c : CT} {p : PT} {μ : MM} (hw : Wf μ) (hc : WC c) (hn : gI μ 49 18 = nI (cN c)) (hv : ∀ i, i < cN c → gI μ 63 i = nI (cV c i)) (hm : gI μ 51 = pkey p) : f_M_lastSung 49 μ = some (lbg c p) := by
  unfold f_M_lastSung
  rw [kO_49 hw, bsome, show (23 : Int32) = nI 24 + (-1) by decide]
  refine dn 24 (fun k => lbg c p = lastb (fun b => decide (0 < hmn c p b)) k) (fun n x => f_M_lastSung_L3 49 μ n x) _ (fun n x hx0 hi => ?_) (fun n k hk hi => ?_) 24 FU (by decide) (by decide) rfl
  · show f_M_lastSung_L3 49 μ (n + 1) x = _
    rw [e_M_lastSung_L3, if_pos hx0, hi]; rfl
  · show f_M_lastSung_L3 49 μ (n + 1) (nI k) = _ ∨ f_M_lastSung_L3 49 μ (n + 1) (nI k) = f_M_lastSung_L3 49 μ n (nI k + (-1)) ∧ _
    have hb := hmn_b hc p k
    rw [e_M_lastSung_L3, if_neg (nI_pos (by omega)), s_singing hw hc hn hv hm, bsome]
    simp only [lastb] at hi
    by_cases e : hmn c p k = 0
    · right
      rw [if_pos (by rw [nI_le0 (by omega)]; exact e)]
      rw [if_neg (by rw [decide_eq_true_eq]; omega)] at hi
      exact ⟨rfl, hi⟩
    · left
      rw [if_neg (by rw [nI_le0 (by omega)]; exact e)]
      rw [if_pos (by rw [decide_eq_true_eq]; omega)] at hi
      rw [hi]
theorem s_lastNote {c : CT} {p : PT} {μ : MM} (hw : Wf μ) (hc : WC c) (hx : XG c μ) (hxc : XC p μ) {i b : Nat} (hi : i < cN c) (hb : b ≤ 24) : f_Ch_lastNote 9 (nI i) (nI b) μ = some (lnt c p i b) := by
  unfold f_Ch_lastNote
  rw [kO_9 hw, bsome, ← nI_p]
  refine dn 24 (fun k => lnt c p i b = lastb (sg c p i) k) (fun n x => f_Ch_lastNote_L4 9 (nI i) μ n x) _ (fun n x hx0 hi2 => ?_) (fun n k hk hi2 => ?_) b FU hb (by unfold FU; omega) rfl
  · show f_Ch_lastNote_L4 9 (nI i) μ (n + 1) x = _
    rw [e_Ch_lastNote_L4, if_pos hx0, hi2]; rfl
  · show f_Ch_lastNote_L4 9 (nI i) μ (n + 1) (nI k) = _ ∨ f_Ch_lastNote_L4 9 (nI i) μ (n + 1) (nI k) = f_Ch_lastNote_L4 9 (nI i) μ n (nI k + (-1)) ∧ _
    rw [e_Ch_lastNote_L4, if_neg (nI_pos (by omega)), s_sings hw hc hx hxc hi, bsome]
    simp only [lastb] at hi2
    cases e : sg c p i k with
    | false =>
      right
      rw [show snd (pkey p) (nI (cV c i)) (nI k) = false from e, if_pos (by decide)]
      rw [if_neg (by rw [e]; decide)] at hi2
      exact ⟨rfl, hi2⟩
    | true =>
      left
      rw [show snd (pkey p) (nI (cV c i)) (nI k) = true from e, if_neg (by decide)]
      rw [if_pos e] at hi2
      rw [hi2]
