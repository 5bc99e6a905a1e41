/-! LAYER 0: rows that read and write the memory -/
theorem adr_lt {B : Nat} {sa : Nat → Nat} {i : Nat} (h : i < LIM) : adr B sa i = B + i := if_pos h
theorem wzD {B : Nat} {sa : Nat → Nat} {tc : Nat → ClassId} {μ : MM} (h : nc μ ≤ LIM) : va_D (fun q => B ≤ q) (wz (adr B sa) tc μ) := by
  refine ⟨fun i j x y hi hj hxy => ?_, fun k x hk => ?_⟩
  · obtain ⟨h1, h2⟩ := wz_lt hi
    obtain ⟨h3, h4⟩ := wz_lt hj
    rw [h2, h4, adr_lt (by omega), adr_lt (by omega)] at hxy
    omega
  · obtain ⟨h1, h2⟩ := wz_lt hk
    show B ≤ x.1
    rw [h2, adr_lt (by omega)]
    omega
/-- the heap is no larger than what was counted -/
theorem W.size {p : Program} {l : Launch} {e : Env} {R : Room} {s : State} {m : MethodId} {args : Array Value} {below : List Frame} {meth : Method} {c : Code} {H : Heap} {locs : List Loc} {cells slots : Nat} {Q : State → Prop} {g : JFrame}
    (k : H.size ≤ s.heap.size + cells → W p l e R s m args below meth c H locs cells slots Q g) : W p l e R s m args below meth c H locs cells slots Q g := fun T hT X => k (by rw [← hT]; exact X.heapSize) T hT X
def FLG (own : String) (ix ci k : Nat) : Prop := ∃ C T N ty, CFX ci C T N ty ∧ k < N ∧ Cond.fieldLink own ix (T k).1 (T k).2.1 (T k).2.2.1 ∈ tb
def FLP (own : String) (ix ci k : Nat) (fin : Bool) : Prop := ∃ C T N ty, CFX ci C T N ty ∧ k < N ∧ Cond.fieldLink own ix (T k).1 (T k).2.1 (T k).2.2.1 ∈ tb ∧ (T k).2.2.2 = fin ∧ (fin = true → (T k).1 = own)
theorem rI_some {μ : MM} {a ci k : Nat} {x : Int32} (h : rI μ a ci k = some x) : μ.1[a]? = some (0, ci) ∧ gI μ a k = x := by
  unfold rI at h; split at h
  · exact ⟨by assumption, Option.some.inj h⟩
  · cases h
theorem rL_some {μ : MM} {a ci k : Nat} {x : Int64} (h : rL μ a ci k = some x) : μ.1[a]? = some (0, ci) ∧ gL μ a k = x := by
  unfold rL at h; split at h
  · exact ⟨by assumption, Option.some.inj h⟩
  · cases h
theorem rR_some {μ : MM} {a ci k : Nat} {x : Nat} (h : rR μ a ci k = some x) : μ.1[a]? = some (0, ci) ∧ gR μ a k = some x := by
  unfold rR at h; split at h
  · exact ⟨by assumption, h⟩
  · cases h
theorem rN_some {μ : MM} {a ci k : Nat} {x : Option Nat} (h : rN μ a ci k = some x) : μ.1[a]? = some (0, ci) ∧ gR μ a k = x := by
  unfold rN at h; split at h
  · exact ⟨by assumption, Option.some.inj h⟩
  · cases h
theorem inb_of {j : Int32} {n : Nat} (h : ¬ (j < 0 ∨ n ≤ j.toNatClampNeg)) : vp_in j n := h
theorem aI_some {μ : MM} {a : Nat} {j x : Int32} (h : aI μ a j = some x) : ∃ n, μ.1[a]? = some (1, n) ∧ vp_in j n ∧ gI μ a j.toNatClampNeg = x := by
  unfold aI at h; split at h
  · rename_i n hk
    split at h
    · cases h
    · rename_i hj; exact ⟨n, hk, hj, Option.some.inj h⟩
  · cases h
theorem aB_some {μ : MM} {a : Nat} {j x : Int32} (h : aB μ a j = some x) : ∃ t n, (t = 2 ∨ t = 3) ∧ μ.1[a]? = some (t, n) ∧ vp_in j n ∧ gI μ a j.toNatClampNeg = x := by
  unfold aB at h; split at h
  · rename_i n hk
    split at h
    · cases h
    · rename_i hj; exact ⟨2, n, Or.inl rfl, hk, hj, Option.some.inj h⟩
  · rename_i n hk
    split at h
    · cases h
    · rename_i hj; exact ⟨3, n, Or.inr rfl, hk, hj, Option.some.inj h⟩
  · cases h
theorem aL_some {μ : MM} {a : Nat} {j : Int32} {x : Int64} (h : aL μ a j = some x) : ∃ n, μ.1[a]? = some (4, n) ∧ vp_in j n ∧ gL μ a j.toNatClampNeg = x := by
  unfold aL at h; split at h
  · rename_i n hk
    split at h
    · cases h
    · rename_i hj; exact ⟨n, hk, hj, Option.some.inj h⟩
  · cases h
theorem uI_some {μ μ' : MM} {a : Nat} {j v : Int32} (h : uI μ a j v = some μ') : ∃ n, μ.1[a]? = some (1, n) ∧ vp_in j n ∧ sI μ a j.toNatClampNeg v = μ' := by
  unfold uI at h; split at h
  · rename_i n hk
    split at h
    · cases h
    · rename_i hj; exact ⟨n, hk, hj, Option.some.inj h⟩
  · cases h
theorem uB_some {μ μ' : MM} {a : Nat} {j v : Int32} (h : uB μ a j v = some μ') : (∃ n, μ.1[a]? = some (2, n) ∧ vp_in j n ∧ sI μ a j.toNatClampNeg (vp_nar .byte v) = μ') ∨ (∃ n, μ.1[a]? = some (3, n) ∧ vp_in j n ∧ sI μ a j.toNatClampNeg (vp_nar .boolean v) = μ') := by
  unfold uB at h; split at h
  · rename_i n hk
    split at h
    · cases h
    · rename_i hj; exact Or.inl ⟨n, hk, hj, Option.some.inj h⟩
  · rename_i n hk
    split at h
    · cases h
    · rename_i hj; exact Or.inr ⟨n, hk, hj, Option.some.inj h⟩
  · cases h
theorem uL_some {μ μ' : MM} {a : Nat} {j : Int32} {v : Int64} (h : uL μ a j v = some μ') : ∃ n, μ.1[a]? = some (4, n) ∧ vp_in j n ∧ sL μ a j.toNatClampNeg v = μ' := by
  unfold uL at h; split at h
  · rename_i n hk
    split at h
    · cases h
    · rename_i hj; exact ⟨n, hk, hj, Option.some.inj h⟩
  · cases h
section AWM
variable {CK : CKT} {l : Launch} {Y : YT} {d nE sE pc : Nat} {loc : List (Option Value)} {st : List Value} {μ μ' : MM}
/-- a read of the memory -/
theorem AW.read {pc' : Nat} {st' : List Value} (k : AW CK l Y d nE sE pc' loc st' μ)
    (h : ∀ {p : Program} {e : Env} {R : Room} {s : State} {m : MethodId} {args : Array Value} {below : List Frame} {meth : Method} {c : Code} {H : Heap} {locs : List Loc} {cells slots : Nat} {Q : State → Prop} {ls : Array Slot} {D : va_G} (f : Nat → Nat) (tc : Nat → ClassId), p.tables.exec = Jvm.exec → c.code = Y.2.1 →
      s.vm.findClass Y.1.cls = some m.cls → (∀ w ∈ tb, w.before args s = true) → va_K D CLS (TYS tc) s → va_P D CLS (wz f tc μ) H →
      W p l e R s m args below meth c H locs cells slots Q (F0 m pc' ls (st'.map (cv f))) → W p l e R s m args below meth c H locs cells slots Q (F0 m pc ls (st.map (cv f)))) : AW CK l Y d nE sE pc loc st μ := by
  refine ⟨k.1, k.2.1, fun p e R s m args below meth c B D tc sa n0 s0 Q hC hF H locs ls cells slots hP hS hL hc hs => ?_⟩
  exact h (adr B sa) tc hF.1 hF.2.1 hF.2.2.2.2.1 hF.2.2.2.2.2.1 hF.2.2.2.2.2.2.2.2.1 hP (k.2.2 p e R s m args below meth c B D tc sa n0 s0 Q hC hF H locs ls cells slots hP hS hL hc hs)
theorem AW.getv {ix ci k a n : Nat} {v : Value} (hd : decode Y.2.1 pc = .ok (.getfield ix, 3)) (hn : pc + 3 = n) (hl : FLG Y.1.cls ix ci k) (ha : μ.1[a]? = some (0, ci)) (hv : ∀ f, fv f μ a ci k = cv f v) (K : AW CK l Y d nE sE n loc (v :: st) μ) : AW CK l Y d nE sE pc loc (.ref a :: st) μ := by
  subst hn
  obtain ⟨C, T, N, ty, hcf, hk, hw⟩ := hl
  refine K.read (fun f tc hx hb ho ht hK hP kk => ?_)
  have hkn : k < nfld ci := by rw [hcf.2.1]; exact hk
  exact va_get hx hb ht hcf.2.2.1 ho hK hP a (wz_at ha) hcf.1 k hk (ht _ hw) (fun x q => q) (v := cv f v) (by rw [fsz_at hkn, hv]) hd kk
theorem aw_getI {ix ci k a : Nat} {x : Int32} (n : Nat) (hd : decode Y.2.1 pc = .ok (.getfield ix, 3)) (hn : pc + 3 = n) (hl : FLG Y.1.cls ix ci k) (ht : FTC ci k = 0 ∨ FTC ci k = 3) (hr : rI μ a ci k = some x) (K : AW CK l Y d nE sE n loc (.int x :: st) μ) : AW CK l Y d nE sE pc loc (.ref a :: st) μ := by
  obtain ⟨h1, h2⟩ := rI_some hr
  exact AW.getv hd hn hl h1 (fun f => by rcases ht with q | q <;> simp [fv, q, h2, cv]) K
theorem aw_getL {ix ci k a : Nat} {x : Int64} (n : Nat) (hd : decode Y.2.1 pc = .ok (.getfield ix, 3)) (hn : pc + 3 = n) (hl : FLG Y.1.cls ix ci k) (ht : FTC ci k = 1) (hr : rL μ a ci k = some x) (K : AW CK l Y d nE sE n loc (.long x :: st) μ) : AW CK l Y d nE sE pc loc (.ref a :: st) μ := by
  obtain ⟨h1, h2⟩ := rL_some hr
  exact AW.getv hd hn hl h1 (fun f => by simp [fv, ht, h2, cv]) K
theorem aw_getR {ix ci k a : Nat} {x : Nat} (n : Nat) (hd : decode Y.2.1 pc = .ok (.getfield ix, 3)) (hn : pc + 3 = n) (hl : FLG Y.1.cls ix ci k) (ht : FTC ci k = 2) (hr : rR μ a ci k = some x) (K : AW CK l Y d nE sE n loc (.ref x :: st) μ) : AW CK l Y d nE sE pc loc (.ref a :: st) μ := by
  obtain ⟨h1, h2⟩ := rR_some hr
  exact AW.getv hd hn hl h1 (fun f => by simp [fv, ht, h2, cv, va_rf]) K
theorem aw_getN {ix ci k a : Nat} {x : Option Nat} (n : Nat) (hd : decode Y.2.1 pc = .ok (.getfield ix, 3)) (hn : pc + 3 = n) (hl : FLG Y.1.cls ix ci k) (ht : FTC ci k = 2) (hr : rN μ a ci k = some x) (K : AW CK l Y d nE sE n loc (va_rf x :: st) μ) : AW CK l Y d nE sE pc loc (.ref a :: st) μ := by
  obtain ⟨h1, h2⟩ := rN_some hr
  exact AW.getv hd hn hl h1 (fun f => by rw [cv_rf]; simp [fv, ht, h2]) K
theorem aw_iald {a : Nat} {j x : Int32} (n : Nat) (hd : decode Y.2.1 pc = .ok (.iaload, 1)) (hn : pc + 1 = n) (hr : aI μ a j = some x) (K : AW CK l Y d nE sE n loc (.int x :: st) μ) : AW CK l Y d nE sE pc loc (.int j :: .ref a :: st) μ := by
  subst hn
  obtain ⟨n, h1, h2, h3⟩ := aI_some hr
  subst h3
  exact K.read (fun f tc hx hb ho ht hK hP kk => va_iald hx hb hK hP a 0 (wz_at h1) rfl h2 hd kk)
theorem aw_lald {a : Nat} {j : Int32} {x : Int64} (n : Nat) (hd : decode Y.2.1 pc = .ok (.laload, 1)) (hn : pc + 1 = n) (hr : aL μ a j = some x) (K : AW CK l Y d nE sE n loc (.long x :: st) μ) : AW CK l Y d nE sE pc loc (.int j :: .ref a :: st) μ := by
  subst hn
  obtain ⟨n, h1, h2, h3⟩ := aL_some hr
  subst h3
  exact K.read (fun f tc hx hb ho ht hK hP kk => va_lald hx hb hK hP a 3 (wz_at h1) rfl h2 hd kk)
theorem aw_bald {a : Nat} {j x : Int32} (n : Nat) (hd : decode Y.2.1 pc = .ok (.baload, 1)) (hn : pc + 1 = n) (hr : aB μ a j = some x) (K : AW CK l Y d nE sE n loc (.int x :: st) μ) : AW CK l Y d nE sE pc loc (.int j :: .ref a :: st) μ := by
  subst hn
  obtain ⟨t, n, ht, h1, h2, h3⟩ := aB_some hr
  subst h3
  rcases ht with rfl | rfl
  · exact K.read (fun f tc hx hb ho ht hK hP kk => va_bald hx hb hK hP a 1 (wz_at h1) rfl h2 hd kk)
  · exact K.read (fun f tc hx hb ho ht hK hP kk => va_zald hx hb hK hP a 2 (wz_at h1) rfl h2 hd kk)
theorem aw_alen {a : Nat} {x : Int32} (n : Nat) (hd : decode Y.2.1 pc = .ok (.arraylength, 1)) (hn : pc + 1 = n) (hr : aN μ a = some x) (K : AW CK l Y d nE sE n loc (.int x :: st) μ) : AW CK l Y d nE sE pc loc (.ref a :: st) μ := by
  subst hn
  unfold aN at hr
  split at hr
  · rename_i t n hk1
    split at hr
    · cases hr
    · rename_i h0
      have hx : Int32.ofNat n = x := Option.some.inj hr
      subst hx
      rcases (show t = 1 ∨ t = 2 ∨ t = 3 ∨ t = 4 by omega) with rfl | rfl | rfl | rfl
      · exact K.read (fun f tc hx hb ho ht hK hP kk => va_alen hx hb hK hP a 0 (wz_at hk1) rfl rfl hd kk)
      · exact K.read (fun f tc hx hb ho ht hK hP kk => va_alen hx hb hK hP a 1 (wz_at hk1) rfl rfl hd kk)
      · exact K.read (fun f tc hx hb ho ht hK hP kk => va_alen hx hb hK hP a 2 (wz_at hk1) rfl rfl hd kk)
      · exact K.read (fun f tc hx hb ho ht hK hP kk => va_alen hx hb hK hP a 3 (wz_at hk1) rfl rfl hd kk)
  · cases hr
/-- a write into the memory, which keeps the kinds -/
theorem AW.write {pc' : Nat} {st' : List Value} (hμ : μ'.1 = μ.1) (k : AW CK l Y d nE sE pc' loc st' μ')
    (h : ∀ {p : Program} {e : Env} {R : Room} {s : State} {m : MethodId} {args : Array Value} {below : List Frame} {meth : Method} {c : Code} {H : Heap} {locs : List Loc} {cells slots : Nat} {Q : State → Prop} {ls : Array Slot} {D : va_G} {A : Nat → Prop} (f : Nat → Nat) (tc : Nat → ClassId), p.tables.exec = Jvm.exec → c.code = Y.2.1 →
      s.vm.findClass Y.1.cls = some m.cls → (∀ w ∈ tb, w.before args s = true) → va_K D CLS (TYS tc) s → va_P D CLS (wz f tc μ) H → va_D A (wz f tc μ) → va_S A s.heap H locs → meth.name = Y.1.name → 
      (∀ (H1 : Heap) (locs1 : List Loc), va_P D CLS (wz f tc μ') H1 → va_S A s.heap H1 locs1 → W p l e R s m args below meth c H1 locs1 cells slots Q (F0 m pc' ls (st'.map (cv f)))) → W p l e R s m args below meth c H locs cells slots Q (F0 m pc ls (st.map (cv f)))) : AW CK l Y d nE sE pc loc st μ := by
  have e1 : nc μ' = nc μ := by simp [nc, hμ]
  have e2 : nsl μ' = nsl μ := by simp [nsl, hμ]
  refine ⟨by rw [← e1]; exact k.1, by rw [← e2]; exact k.2.1, fun p e R s m args below meth c B D tc sa n0 s0 Q hC hF H locs ls cells slots hP hS hL hc hs => ?_⟩
  have hlim : nc μ ≤ LIM := by
    have h1 := k.1
    have h2 : nE ≤ LIM := hF.2.2.2.2.2.2.2.2.2.2.2.2.2.2.1
    omega
  exact h (adr B sa) tc hF.1 hF.2.1 hF.2.2.2.2.1 hF.2.2.2.2.2.1 hF.2.2.2.2.2.2.2.2.1 hP (wzD hlim) hS hF.2.2.2.2.2.2.2.1 (fun H1 locs1 hP1 hS1 => k.2.2 p e R s m args below meth c B D tc sa n0 s0 Q hC hF H1 locs1 ls cells slots hP1 hS1 hL (by rw [e1]; exact hc) (by rw [e2]; exact hs))
theorem AW.put {ix ci k a n : Nat} {v : Value} (fin : Bool) (hd : decode Y.2.1 pc = .ok (.putfield ix, 3)) (hn : pc + 3 = n) (hl : FLP Y.1.cls ix ci k fin) (hini : fin = true → Y.1.name = "<init>") (ha : μ.1[a]? = some (0, ci)) (hμ : μ'.1 = μ.1)
    (hset : ∀ f tc, (wz f tc μ).set a (f a, .inr (ci, (fsz f μ a ci).set k (cv f v))) = wz f tc μ') (hty : ∀ t, ftOk (FTC ci k) t = true → ∀ f, narrow t (cv f v) = cv f v ∧ fits t (cv f v) = true) (K : AW CK l Y d nE sE n loc st μ') : AW CK l Y d nE sE pc loc (v :: .ref a :: st) μ := by
  subst hn
  obtain ⟨C, T, N, ty, hcf, hk, hw, hfin, hown⟩ := hl
  have hkn : k < nfld ci := by rw [hcf.2.1]; exact hk
  have hok := hcf.2.2.2.2.2.1 k hk
  refine K.write hμ (fun f tc hx hb ho ht hK hP hD hS hnm kk => ?_)
  obtain ⟨t1, t2⟩ := hty _ hok f
  cases fin with
  | false => exact va_put hx hb ht hcf.2.2.1 ty hcf.2.2.2.1 hcf.2.2.2.2.1 ho hK hP hD hS a (wz_at ha) hcf.1 k hk (ht _ hw) (fun x q => q) hfin (hcf.2.2.2.1 k hk) t1 t2 (by rw [fsz_len]; exact hkn) hd (fun H1 locs1 h1 _ h3 => kk H1 locs1 (by rw [← hset]; exact h1) h3)
  | true => exact va_putF hx hb ht hcf.2.2.1 ty hcf.2.2.2.1 hcf.2.2.2.2.1 ho hK hP hD hS a (wz_at ha) hcf.1 k hk (ht _ hw) (fun x q => q) hfin (hnm.trans (hini rfl)) (hown rfl) (hcf.2.2.2.1 k hk) t1 t2 (by rw [fsz_len]; exact hkn) hd (fun H1 locs1 h1 _ h3 => kk H1 locs1 (by rw [← hset]; exact h1) h3)
theorem ftOk0 {t : FieldType} (h : ftOk 0 t = true) : t = .int := by cases t <;> first | rfl | (simp [ftOk] at h)
theorem ftOk1 {t : FieldType} (h : ftOk 1 t = true) : t = .long := by cases t <;> first | rfl | (simp [ftOk] at h)
theorem ftOk3 {t : FieldType} (h : ftOk 3 t = true) : t = .boolean := by cases t <;> first | rfl | (simp [ftOk] at h)
theorem ftOk2 {t : FieldType} (h : ftOk 2 t = true) (a : Nat) : narrow t (.ref a) = .ref a ∧ fits t (.ref a) = true := by cases t <;> first | exact ⟨rfl, rfl⟩ | (simp [ftOk] at h)
theorem aw_putI {ix ci k a : Nat} {v : Int32} (n : Nat) (fin : Bool) (hd : decode Y.2.1 pc = .ok (.putfield ix, 3)) (hn : pc + 3 = n) (hl : FLP Y.1.cls ix ci k fin) (hini : fin = true → Y.1.name = "<init>") (ht : FTC ci k = 0) (hr : pI μ a ci k v = some μ') (K : AW CK l Y d nE sE n loc st μ') : AW CK l Y d nE sE pc loc (.int v :: .ref a :: st) μ := by
  unfold pI at hr; split at hr
  · rename_i ha
    have e : sI μ a k v = μ' := Option.some.inj hr
    subst e
    exact AW.put (μ' := sI μ a k v) fin hd hn hl hini ha rfl (fun f tc => wz_fI ha (Or.inl ht)) (fun t h f => by rw [ht] at h; rw [ftOk0 h]; exact ⟨rfl, rfl⟩) K
  · cases hr
theorem aw_putZ {ix ci k a : Nat} {v : Int32} (n : Nat) (fin : Bool) (hd : decode Y.2.1 pc = .ok (.putfield ix, 3)) (hn : pc + 3 = n) (hl : FLP Y.1.cls ix ci k fin) (hini : fin = true → Y.1.name = "<init>") (ht : FTC ci k = 3) (hr : pZ μ a ci k v = some μ') (K : AW CK l Y d nE sE n loc st μ') : AW CK l Y d nE sE pc loc (.int v :: .ref a :: st) μ := by
  unfold pZ at hr; split at hr
  · rename_i hh
    obtain ⟨ha, hv⟩ := hh
    have e : sI μ a k v = μ' := Option.some.inj hr
    subst e
    exact AW.put (μ' := sI μ a k v) fin hd hn hl hini ha rfl (fun f tc => wz_fI ha (Or.inr ht)) (fun t h f => by rw [ht] at h; rw [ftOk3 h]; rcases hv with rfl | rfl; exact ⟨(by decide : narrow .boolean (.int 0) = .int 0), (by decide : fits .boolean (.int 0) = true)⟩; exact ⟨(by decide : narrow .boolean (.int 1) = .int 1), (by decide : fits .boolean (.int 1) = true)⟩) K
  · cases hr
theorem aw_putL {ix ci k a : Nat} {v : Int64} (n : Nat) (fin : Bool) (hd : decode Y.2.1 pc = .ok (.putfield ix, 3)) (hn : pc + 3 = n) (hl : FLP Y.1.cls ix ci k fin) (hini : fin = true → Y.1.name = "<init>") (ht : FTC ci k = 1) (hr : pL μ a ci k v = some μ') (K : AW CK l Y d nE sE n loc st μ') : AW CK l Y d nE sE pc loc (.long v :: .ref a :: st) μ := by
  unfold pL at hr; split at hr
  · rename_i ha
    have e : sL μ a k v = μ' := Option.some.inj hr
    subst e
    exact AW.put (μ' := sL μ a k v) fin hd hn hl hini ha rfl (fun f tc => wz_fL ha ht) (fun t h f => by rw [ht] at h; rw [ftOk1 h]; exact ⟨rfl, rfl⟩) K
  · cases hr
theorem aw_putR {ix ci k a x : Nat} (n : Nat) (fin : Bool) (hd : decode Y.2.1 pc = .ok (.putfield ix, 3)) (hn : pc + 3 = n) (hl : FLP Y.1.cls ix ci k fin) (hini : fin = true → Y.1.name = "<init>") (ht : FTC ci k = 2) (hr : pR μ a ci k x = some μ') (K : AW CK l Y d nE sE n loc st μ') : AW CK l Y d nE sE pc loc (.ref x :: .ref a :: st) μ := by
  unfold pR at hr; split at hr
  · rename_i ha
    have e : sR μ a k (some x) = μ' := Option.some.inj hr
    subst e
    exact AW.put (μ' := sR μ a k (some x)) fin hd hn hl hini ha rfl (fun f tc => wz_fR (v := some x) ha ht) (fun t h f => by rw [ht] at h; exact ftOk2 h (f x)) K
  · cases hr
theorem aw_iast {a : Nat} {j v : Int32} (n : Nat) (hd : decode Y.2.1 pc = .ok (.iastore, 1)) (hn : pc + 1 = n) (hr : uI μ a j v = some μ') (K : AW CK l Y d nE sE n loc st μ') : AW CK l Y d nE sE pc loc (.int v :: .int j :: .ref a :: st) μ := by
  subst hn
  obtain ⟨n, h1, h2, h3⟩ := uI_some hr
  subst h3
  exact AW.write (μ' := sI μ a j.toNatClampNeg v) rfl K (fun f tc hx hb ho ht hK hP hD hS hnm kk => va_iast hx hb hK hP hD hS a 0 (wz_at h1) rfl h2 hd (fun H1 locs1 q1 _ q3 => kk H1 locs1 (Eq.subst (motive := fun w => va_P _ CLS w H1) (wz_sF (t := 0) (g := upd (gI μ a) j.toNatClampNeg v) h1 (by decide)) q1) q3))
theorem aw_bast {a : Nat} {j v : Int32} (n : Nat) (hd : decode Y.2.1 pc = .ok (.bastore, 1)) (hn : pc + 1 = n) (hr : uB μ a j v = some μ') (K : AW CK l Y d nE sE n loc st μ') : AW CK l Y d nE sE pc loc (.int v :: .int j :: .ref a :: st) μ := by
  subst hn
  rcases uB_some hr with ⟨n, h1, h2, h3⟩ | ⟨n, h1, h2, h3⟩
  · subst h3
    exact AW.write (μ' := sI μ a j.toNatClampNeg (vp_nar .byte v)) rfl K (fun f tc hx hb ho ht hK hP hD hS hnm kk => va_bast hx hb hK hP hD hS a 1 (wz_at h1) rfl h2 hd (fun H1 locs1 q1 _ q3 => kk H1 locs1 (Eq.subst (motive := fun w => va_P _ CLS w H1) (wz_sF (t := 1) (g := upd (gI μ a) j.toNatClampNeg (vp_nar .byte v)) h1 (by decide)) q1) q3))
  · subst h3
    exact AW.write (μ' := sI μ a j.toNatClampNeg (vp_nar .boolean v)) rfl K (fun f tc hx hb ho ht hK hP hD hS hnm kk => va_zast hx hb hK hP hD hS a 2 (wz_at h1) rfl h2 hd (fun H1 locs1 q1 _ q3 => kk H1 locs1 (Eq.subst (motive := fun w => va_P _ CLS w H1) (wz_sF (t := 2) (g := upd (gI μ a) j.toNatClampNeg (vp_nar .boolean v)) h1 (by decide)) q1) q3))
theorem aw_last {a : Nat} {j : Int32} {v : Int64} (n : Nat) (hd : decode Y.2.1 pc = .ok (.lastore, 1)) (hn : pc + 1 = n) (hr : uL μ a j v = some μ') (K : AW CK l Y d nE sE n loc st μ') : AW CK l Y d nE sE pc loc (.long v :: .int j :: .ref a :: st) μ := by
  subst hn
  obtain ⟨n, h1, h2, h3⟩ := uL_some hr
  subst h3
  exact AW.write (μ' := sL μ a j.toNatClampNeg v) rfl K (fun f tc hx hb ho ht hK hP hD hS hnm kk => va_last hx hb hK hP hD hS a 3 (wz_at h1) rfl h2 hd (fun H1 locs1 q1 _ q3 => kk H1 locs1 (Eq.subst (motive := fun w => va_P _ CLS w H1) (wz_sG (g := vp_updL (gL μ a) j.toNatClampNeg v) h1) q1) q3))
end AWM
