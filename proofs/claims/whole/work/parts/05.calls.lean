/-! LAYER 0: what is made, calls, returns, contracts -/
section AWN
variable {CK : CKT} {l : Launch} {Y : YT} {d nE sE pc : Nat} {loc : List (Option Value)} {st : List Value} {μ μ' : MM}
theorem va_RA_one {s : State} {c1 c2 : ClassId} {ty : FieldType} (h1 : va_RA s c1 ty) (h2 : va_RA s c2 ty) (ht : ty = .int ∨ ty = .byte ∨ ty = .boolean ∨ ty = .long) : c1 = c2 := by
  rcases ht with rfl | rfl | rfl | rfl <;> exact Option.some.inj (Eq.trans (Eq.symm h1) h2)
/-- the last cell of a world that grew lies where it should -/
theorem wz_last {B n0 cells : Nat} {D : va_G} {sa : Nat → Nat} {tc : Nat → ClassId} {μ : MM} {q : Nat} {e : va_E} {H1 : Heap} (hlim : nc μ + 1 ≤ LIM) (hc : n0 + cells = nc μ) (hP : va_P D CLS (wz (adr B sa) tc μ ++ [(q, e)]) H1) (hD : va_D (fun q => B ≤ q) (wz (adr B sa) tc μ ++ [(q, e)])) (hz : H1.size ≤ B + n0 + (cells + 1)) : q = adr B sa (nc μ) := by
  have hl : (wz (adr B sa) tc μ ++ [(q, e)])[nc μ]? = some (q, e) := by
    rw [List.getElem?_append_right (by rw [wz_len]; omega), wz_len]; simp
  have h1 : q < H1.size := (hP _ _ hl).lt
  have h2 : B ≤ q := hD.2 _ _ hl
  rw [adr_lt (by omega)]
  rcases Nat.lt_or_ge (q - B) (nc μ) with h | h
  · exfalso
    obtain ⟨x, hx⟩ : ∃ x, μ.1[q - B]? = some x := ⟨_, List.getElem?_eq_getElem h⟩
    have h3 : (wz (adr B sa) tc μ ++ [(q, e)])[q - B]? = some (adr B sa (q - B), cz (adr B sa) tc μ (q - B) x) := by
      rw [List.getElem?_append_left (by rw [wz_len]; exact h)]
      exact wz_at hx
    have h4 := hD.1 _ _ _ _ h3 hl (by show adr B sa (q - B) = q; rw [adr_lt (by omega)]; omega)
    omega
  · omega
theorem default_fv {f : Nat → Nat} {ci k : Nat} {t : FieldType} (h : ftOk (FTC ci k) t = true) : defaultValue t = fv f (push μ (0, ci)) (nc μ) ci k := by
  have e0 : gI (push μ (0, ci)) (nc μ) k = 0 := by simp [gI, push]
  have e1 : gL (push μ (0, ci)) (nc μ) k = 0 := by simp [gL, push]
  have e2 : gR (push μ (0, ci)) (nc μ) k = none := by simp [gR, push]
  unfold fv
  generalize FTC ci k = c at h
  cases t <;> unfold ftOk at h <;> split at h <;> first | (cases h; done) | (simp_all [defaultValue, va_rf]; done) | (rename_i h1 h2; cases h2; done) | skip
  all_goals (try cases h) 
theorem aw_new {ix ci : Nat} (n : Nat) (hd : decode Y.2.1 pc = .ok (.new ix, 3)) (hn : pc + 3 = n) {C : String} {T : u_T} {N : Nat} {ty : Nat → FieldType} (hcf : CFX ci C T N ty) (hw : Cond.classLink Y.1.cls ix C ∈ tb) (hr : nO μ ci = some μ') (K : AW CK l Y d nE sE n loc (.ref (nc μ) :: st) μ') : AW CK l Y d nE sE pc loc st μ := by
  subst hn
  have e : push μ (0, ci) = μ' := Option.some.inj hr
  subst e
  have k1 := K.1
  have k2 := K.2.1
  rw [nc_push] at k1
  rw [nsl_push] at k2
  have ek : ksl (0, ci) = N := hcf.2.1
  rw [ek] at k2
  refine ⟨by omega, by omega, fun p e R s m args below meth c B D tc sa n0 s0 Q hC hF H locs ls cells slots hP hS hL hc hs => ?_⟩
  have kk := K.2.2 p e R s m args below meth c B D tc sa n0 s0 Q hC hF
  obtain ⟨hx, hb, hr, hml, ho, hts, hlk, hnm, hK, hsz, hE1, hE2, hd1, hd2, hlim, hstr⟩ := hF
  refine va_new (ci := ci) (fs := fsz (adr B sa) (push μ (0, ci)) (nc μ) ci) hx hb hts hcf.2.2.1 ty hcf.2.2.2.1 ho (hts _ hw) (hts _ hcf.2.2.2.2.2.2.1) (hts _ hcf.2.2.2.2.2.2.2) hK hP (wzD (by omega)) hS (fun q h => by omega) hcf.1 ?_ (by omega) (by omega) hd (fun q H1 hP1 hD1 hS1 => W.size (fun hz => ?_))
  · intro j hj
    have hj2 : j < nfld ci := by rw [hcf.2.1]; exact hj
    rw [show vp_V (fsz (adr B sa) (push μ (0, ci)) (nc μ) ci) j = fv (adr B sa) (push μ (0, ci)) (nc μ) ci j by unfold vp_V; rw [List.getD, fsz_at hj2]; rfl]
    exact default_fv (hcf.2.2.2.2.2.1 j hj)
  · have hq := wz_last (n0 := n0) (cells := cells) (by omega) hc hP1 hD1 (by rw [hsz] at hz; exact hz)
    subst hq
    have hP1 : va_P D CLS (wz (adr B sa) tc (push μ (0, ci))) H1 := Eq.subst (motive := fun w => va_P D CLS w H1) (wz_push (q := (0, ci)) (e := .inr (ci, fsz (adr B sa) (push μ (0, ci)) (nc μ) ci)) rfl) hP1
    exact kk H1 locs ls (cells + 1) (slots + N) hP1 hS1 hL (by rw [nc_push]; omega) (by rw [nsl_push, ek]; omega)
theorem aw_newa {t : Nat} {at' : ArrayType} {ty : FieldType} {z : Int32} (n : Nat) (hd : decode Y.2.1 pc = .ok (.newarray at', 2)) (hn : pc + 2 = n) (hty : newarray.typeOf at' = ty) (htt : (t = 1 ∧ ty = .int) ∨ (t = 2 ∧ ty = .byte) ∨ (t = 3 ∧ ty = .boolean) ∨ (t = 4 ∧ ty = .long)) (hw : Cond.arrayClass ty ∈ tb) (hr : nA μ t z = some μ') (K : AW CK l Y d nE sE n loc (.ref (nc μ) :: st) μ') : AW CK l Y d nE sE pc loc (.int z :: st) μ := by
  subst hn
  unfold nA at hr
  split at hr
  · cases hr
  · rename_i hz0
    have e : push μ (t, z.toNatClampNeg) = μ' := Option.some.inj hr
    subst e
    have k1 := K.1
    have k2 := K.2.1
    rw [nc_push] at k1
    rw [nsl_push] at k2
    have ek : ksl (t, z.toNatClampNeg) = z.toNatClampNeg := by rcases htt with ⟨rfl, -⟩ | ⟨rfl, -⟩ | ⟨rfl, -⟩ | ⟨rfl, -⟩ <;> rfl
    rw [ek] at k2
    refine ⟨by omega, by omega, fun p e R s m args below meth c B D tc sa n0 s0 Q hC hF H locs ls cells slots hP hS hL hc hs => ?_⟩
    have kk := K.2.2 p e R s m args below meth c B D tc sa n0 s0 Q hC hF
    obtain ⟨hx, hb, hr, hml, ho, hts, hlk, hnm, hK, hsz, hE1, hE2, hd1, hd2, hlim, hstr⟩ := hF
    have e0 : gI (push μ (t, z.toNatClampNeg)) (nc μ) = fun _ => 0 := by funext k; simp [gI, push]
    have e1 : gL (push μ (t, z.toNatClampNeg)) (nc μ) = fun _ => 0 := by funext k; simp [gL, push]
    have fin : ∀ (cA : ClassId) (a0 : vp_A), cz (adr B sa) tc (push μ (t, z.toNatClampNeg)) (nc μ) (t, z.toNatClampNeg) = .inl (cA, a0) → (∀ cA : ClassId, vp_cell cA a0 = arrV cA z.toNatClampNeg (fun _ => defaultValue ty)) → (∀ c1, va_RA s c1 ty → c1 = cA) → componentBytes ty ≤ 8 →
        W p l e R s m args below meth c H locs cells slots Q (F0 m pc ls ((.int z :: st).map (cv (adr B sa)))) := by
      intro cA a0 h1 h2 h3 h4
      refine va_newa hx hb (hty ▸ hts _ hw) hty hK hP (wzD (by omega)) hS (fun q h => by omega) h2 (fun h => hz0 (Or.inl h)) rfl ?_ (by omega) (by omega) hd (fun q c1 H1 hK1 hP1 hD1 hS1 => W.size (fun hz => ?_))
      · have : z.toNatClampNeg * componentBytes ty ≤ 1000000 * 8 := Nat.mul_le_mul (by omega) h4
        omega
      · have hc1 : c1 = cA := h3 _ ((hK1.2 4 (c1, ty) rfl).2)
        subst hc1
        have hq := wz_last (n0 := n0) (cells := cells) (by omega) hc hP1 hD1 (by rw [hsz] at hz; exact hz)
        subst hq
        have hP1 : va_P D CLS (wz (adr B sa) tc (push μ (t, z.toNatClampNeg))) H1 := Eq.subst (motive := fun w => va_P D CLS w H1) (wz_push (q := (t, z.toNatClampNeg)) h1) hP1
        exact kk H1 locs ls (cells + 1) (slots + z.toNatClampNeg) hP1 hS1 hL (by rw [nc_push]; omega) (by rw [nsl_push, ek]; omega)
    have hRA : ∀ (i : Nat) (x : ClassId × FieldType), (TYS tc)[i]? = some x → va_RA s x.1 x.2 := fun i x h => (hK.2 i x h).2
    rcases htt with ⟨rfl, rfl⟩ | ⟨rfl, rfl⟩ | ⟨rfl, rfl⟩ | ⟨rfl, rfl⟩
    · exact fin (tc 0) (z.toNatClampNeg, .inl (fun _ => 0)) (by simp [cz, e0]) (fun _ => rfl) (fun c1 h => va_RA_one h (hRA 0 _ rfl) (by simp)) (by decide)
    · exact fin (tc 1) (z.toNatClampNeg, .inl (fun _ => 0)) (by simp [cz, e0]) (fun _ => rfl) (fun c1 h => va_RA_one h (hRA 1 _ rfl) (by simp)) (by decide)
    · exact fin (tc 2) (z.toNatClampNeg, .inl (fun _ => 0)) (by simp [cz, e0]) (fun _ => rfl) (fun c1 h => va_RA_one h (hRA 2 _ rfl) (by simp)) (by decide)
    · exact fin (tc 3) (z.toNatClampNeg, .inr (.inl (fun _ => 0))) (by simp [cz, e1]) (fun _ => rfl) (fun c1 h => va_RA_one h (hRA 3 _ rfl) (by simp)) (by decide)
/-- Object's constructor -/
theorem aw_objInit {ix a : Nat} (n : Nat) (hd : decode Y.2.1 pc = .ok (.invokespecial ix, 3)) (hn : pc + 3 = n) (hw : Cond.methodLink Y.1.cls ix Lib.objectInit ∈ tb ∧ Cond.instanceMethod Lib.objectInit ∈ tb ∧ Cond.code Lib.objectInit ⟨#[0xb1]⟩ 1 none ∈ tb) (hc8 : (st.map fun v => v.category).sum ≤ 8) (hd1 : 1 ≤ d) (K : AW CK l Y d nE sE n loc st μ) : AW CK l Y d nE sE pc loc (.ref a :: st) μ := by
  subst hn
  refine ⟨K.1, K.2.1, fun p e R s m args below meth c B D tc sa n0 s0 Q hC hF H locs ls cells slots hP hS hL hc hs => ?_⟩
  have kk := K.2.2 p e R s m args below meth c B D tc sa n0 s0 Q hC hF H locs ls cells slots hP hS hL hc hs
  obtain ⟨hx, hb, hr, hml, ho, hts, hlk, hnm, hK, hsz, hE1, hE2, hf1, hf2, hlim, hstr⟩ := hF
  have hcat : ((st.map (cv (adr B sa))).map fun v => v.category).sum = (st.map fun v => v.category).sum := by
    rw [List.map_map]; congr 1; apply List.map_congr_left; intro v _; exact cv_cat _ v
  exact W.objInit hx hb ho (hts _ hw.1) (hts _ hw.2.1) (hts _ hw.2.2) (g := F0 m pc ls ((Value.ref a :: st).map (cv (adr B sa)))) rfl (hL.1.trans hml.symm) (a := adr B sa a) (rest := st.map (cv (adr B sa))) rfl hd (by omega) (by show 2 * 0 + _ + 12 ≤ R.locals; rw [hcat]; omega) kk
/-- System.arraycopy of ints -/
theorem aw_copy {ix a b : Nat} {sp dp z : Int32} (n : Nat) (hd : decode Y.2.1 pc = .ok (.invokestatic ix, 3)) (hn : pc + 3 = n) (hw : Cond.methodLink Y.1.cls ix arraycopyName ∈ tb ∧ Cond.native arraycopyName ∈ tb ∧ Cond.static arraycopyName ∈ tb ∧ Cond.initialized "java/lang/System" ∈ tb) (hc8 : (st.map fun v => v.category).sum ≤ 8) (hd1 : 1 ≤ d) (hr : cpI μ a sp b dp z = some μ') (K : AW CK l Y d nE sE n loc st μ') : AW CK l Y d nE sE pc loc (.int z :: .int dp :: .ref b :: .int sp :: .ref a :: st) μ := by
  subst hn
  unfold cpI at hr
  split at hr
  · rename_i n0 n1 ha hb1
    split at hr
    · cases hr
    · rename_i hcn
      have e : sF μ b (va_cpy (gI μ a) (gI μ b) sp.toNatClampNeg dp.toNatClampNeg z.toNatClampNeg) = μ' := Option.some.inj hr
      subst e
      have k1 := K.1
      have k2 := K.2.1
      refine ⟨k1, k2, fun p e R s m args below meth c B D tc sa n0 s0 Q hC hF H locs ls cells slots hP hS hL hc hs => ?_⟩
      have kk := K.2.2 p e R s m args below meth c B D tc sa n0 s0 Q hC hF
      obtain ⟨hx, hb, hr, hml, ho, hts, hlk, hnm, hK, hsz, hE1, hE2, hf1, hf2, hlim, hstr⟩ := hF
      have hcat : ((st.map (cv (adr B sa))).map fun v => v.category).sum = (st.map fun v => v.category).sum := by
        rw [List.map_map]; congr 1; apply List.map_congr_left; intro v _; exact cv_cat _ v
      have hk1 : nc μ ≤ nE := k1
      refine va_copyi hx hb (hml.trans hL.1.symm) ho (hts _ hw.1) (hts _ hw.2.1) (hts _ hw.2.2.1) (hts _ hw.2.2.2) hK hP (wzD (by omega)) hS a b 0 0 (wz_at ha) (wz_at hb1) rfl rfl rfl (fun h => hcn (Or.inl h)) (fun h => hcn (Or.inr (Or.inl h))) (fun h => hcn (Or.inr (Or.inr (Or.inl h)))) (by omega) (by omega) (fun i hi => rfl) (by omega) ?_ hd (fun H1 locs1 q1 _ q3 => ?_)
      · rw [hcat]
        have : nativeFrameWords "java/lang/System" "arraycopy" 5 + 11 ≤ 100 := by decide
        omega
      · exact kk H1 locs1 ls cells slots (Eq.subst (motive := fun w => va_P D CLS w H1) (wz_sF (t := 0) (g := va_cpy (gI μ a) (gI μ b) sp.toNatClampNeg dp.toNatClampNeg z.toNatClampNeg) hb1 (by decide)) q1) q3 hL hc hs
  · cases hr
end AWN
/-! contracts -/
def PcM (B : Nat) (D : va_G) (tc : Nat → ClassId) (sa : Nat → Nat) (μ : MM) (avs : List Value) : Array Value → State → Prop := fun v U => v = (avs.map (cv (adr B sa))).toArray ∧ U.heap.size = B + nc μ ∧ va_P D CLS (wz (adr B sa) tc μ) U.heap ∧ va_K D CLS (TYS tc) U ∧ STR B sa U
def QcM (B : Nat) (D : va_G) (tc : Nat → ClassId) (sa : Nat → Nat) (r : Option Value) (μ' : MM) : Array Value → State → Outcome → State → Prop := fun _ st o t => o = .returned (r.map (cv (adr B sa))) ∧ va_P D CLS (wz (adr B sa) tc μ') t.heap ∧ va_F (fun q => B ≤ q) st t
def rmM (d mc ms : Nat) : Room := { frames := d, cells := mc, slots := ms, locals := 130 * d }
def wsY (Y : YT) : List Cond := Cond.code Y.1 Y.2.1 Y.2.2.1 Y.2.2.2 :: tb
/-- the contract: at these arguments and this memory the method returns r and leaves μ'; d bounds the calls below it -/
def AMet (l : Launch) (d : Nat) (Y : YT) (avs : List Value) (μ : MM) (r : Option Value) (μ' : MM) : Prop :=
  nc μ ≤ nc μ' ∧ nsl μ ≤ nsl μ' ∧ (nc μ' ≤ LIM → ∀ (B : Nat) (D : va_G) (tc : Nat → ClassId) (sa : Nat → Nat), Met l Y.1 (wsY Y) (rmM d (nc μ' - nc μ) (nsl μ' - nsl μ)) (PcM B D tc sa μ avs) (QcM B D tc sa r μ') (nc μ' - nc μ) (nsl μ' - nsl μ) (fun q => B ≤ q))
def CKm (μ0 : MM) (r : Option Value) (μ' : MM) : CKT := fun p e R s m args below meth c B D tc sa n0 s0 Q => n0 = nc μ0 ∧ s0 = nsl μ0 ∧ Q = MQ below (QcM B D tc sa r μ') args s (nc μ' - nc μ0) (nsl μ' - nsl μ0) (fun q => B ≤ q)
abbrev AWm (l : Launch) (Y : YT) (d : Nat) (μ0 : MM) (r : Option Value) (μ' : MM) (pc : Nat) (loc : List (Option Value)) (st : List Value) (μ : MM) : Prop := AW (CKm μ0 r μ') l Y d (nc μ') (nsl μ') pc loc st μ
theorem LH.more {f : Nat → Nat} {loc : List (Option Value)} {ls : Array Slot} {nL k : Nat} (h : LH f loc ls nL) : LH f (loc ++ List.replicate k none) ls nL := by
  refine ⟨h.1, h.2.1, fun q hq => h.2.2 q ?_⟩
  obtain ⟨j, w⟩ := q
  obtain ⟨u, hu, rfl⟩ := lz_mem.mp hq
  refine lz_mem.mpr ⟨u, ?_, rfl⟩
  by_cases hj : j < loc.length
  · rwa [List.getElem?_append_left hj] at hu
  · rw [List.getElem?_append_right (by omega), List.getElem?_replicate] at hu
    split at hu <;> cases hu
theorem AMet.of {l : Launch} {d : Nat} {Y : YT} {avs : List Value} {μ μ' : MM} {r : Option Value} {loc : List (Option Value)} (hpl : plainFor Y.1 = true) (hlen : (entL avs).length ≤ Y.2.2.1) (hloc : entL avs ++ List.replicate (Y.2.2.1 - (entL avs).length) none = loc) (K : AWm l Y d μ r μ' 0 loc [] μ) : AMet l d Y avs μ r μ' := by
  subst hloc
  refine ⟨K.1, K.2.1, fun hlim B D tc sa => ?_⟩
  refine va_MetF (cc := Y.2.1) (maxL := Y.2.2.1) (ret := Y.2.2.2) hpl rfl ?_
  intro p e s m args below meth c s₁ Bd hml hv
  obtain ⟨rfl, hsz, hP, hK, hstr⟩ := hv
  have hts := atoms_spec (ws := wsY Y) Bd.pre
  have hm := K.1
  have hm2 := K.2.1
  have hF : FX Y d (nc μ') (nsl μ') p (headSpec (wsY Y) (rmM d (nc μ' - nc μ) (nsl μ' - nsl μ))).room s m (avs.map (cv (adr B sa))).toArray meth c B D tc sa (nc μ) (nsl μ) :=
    ⟨Bd.exec, Bd.bytes, Bd.returns, hml, findClass_of_methodNamed Bd.named, fun w hw => hts w (List.mem_cons_of_mem _ hw), Bd.notSynchronized, (name_of_methodNamed Bd.named Bd.method).1, hK, hsz, by show nc μ' ≤ nc μ + (nc μ' - nc μ); omega, by show nsl μ' ≤ nsl μ + (nsl μ' - nsl μ); omega, Nat.le_refl d, Nat.le_refl (130 * d), hlim, hstr⟩
  rw [lg_entry_eq]
  exact K.2.2 p e _ s m _ below meth c B D tc sa (nc μ) (nsl μ) _ ⟨rfl, rfl, rfl⟩ hF s.heap [] _ 0 0 hP va_S.rf (LH.entry avs hlen).more rfl rfl
section AWC
variable {l : Launch} {Y : YT} {d pc : Nat} {loc : List (Option Value)} {μ0 μ : MM}
theorem AWm.ret {v : Option Value} {st : List Value}
    (h : ∀ {p : Program} {e : Env} {R : Room} {s : State} {m : MethodId} {args : Array Value} {below : List Frame} {meth : Method} {c : Code} {H : Heap} {locs : List Loc} {cells slots : Nat} {ls : Array Slot} {Qc : Array Value → State → Outcome → State → Prop} {free : Addr → Prop} (f : Nat → Nat), p.tables.exec = Jvm.exec → c.code = Y.2.1 → meth.sig.returnType = Y.2.2.2 → meth.locks = false →
      (∀ t : State, t.heap = H → s.WarmedH t.vm → Qc args s (.returned (v.map (cv f))) t) → (∀ q ∈ locs, free q.base) → W p l e R s m args below meth c H locs cells slots (MQ below Qc args s cells slots free) (F0 m pc ls (st.map (cv f)))) : AWm l Y d μ0 v μ pc loc st μ := by
  refine ⟨Nat.le_refl _, Nat.le_refl _, fun p e R s m args below meth c B D tc sa n0 s0 Q hC hF H locs ls cells slots hP hS hL hc hs => ?_⟩
  obtain ⟨rfl, rfl, rfl⟩ := hC
  obtain ⟨hx, hb, hr, hml, ho, hts, hlk, hnm, hK, hsz, hE1, hE2, hf1, hf2, hlim, hstr⟩ := hF
  have e1 : nc μ - nc μ0 = cells := by omega
  have e2 : nsl μ - nsl μ0 = slots := by omega
  rw [e1, e2]
  exact h (adr B sa) hx hb hr hlk (fun t ht hW => ⟨rfl, by rw [ht]; exact hP, hS.F ht⟩) (fun q hq => hS.2.2 q hq)
theorem aw_ireturn {x : Int32} {ty : FieldType} (hd : decode Y.2.1 pc = .ok (.ireturn, 1)) (hr : Y.2.2.2 = some ty) (hn : narrow ty (.int x) = .int x) : AWm l Y d μ0 (some (.int x)) μ pc loc [.int x] μ :=
  AWm.ret (fun f hx hb hrt hlk hq hf => W.zret hx hb (hrt.trans hr) hn hq hf hd hlk)
theorem aw_lreturn {x : Int64} (hd : decode Y.2.1 pc = .ok (.lreturn, 1)) (hr : Y.2.2.2 = some .long) : AWm l Y d μ0 (some (.long x)) μ pc loc [.long x] μ :=
  AWm.ret (fun f hx hb hrt hlk hq hf => W.lret hx hb (hrt.trans hr) hq hf hd hlk)
theorem aw_areturn {x : Option Nat} {C : String} (hd : decode Y.2.1 pc = .ok (.areturn, 1)) (hr : Y.2.2.2 = some (.object C)) : AWm l Y d μ0 (some (va_rf x)) μ pc loc [va_rf x] μ :=
  AWm.ret (fun f hx hb hrt hlk hq hf => W.aret (v := cv f (va_rf x)) hx hb (hrt.trans hr) (Or.inl ⟨_, rfl⟩) (by cases x <;> first | exact Or.inl rfl | exact Or.inr ⟨_, rfl⟩) hq hf hd hlk)
theorem aw_return (hd : decode Y.2.1 pc = .ok (.return_, 1)) (hr : Y.2.2.2 = none) : AWm l Y d μ0 none μ pc loc [] μ :=
  AWm.ret (fun f hx hb hrt hlk hq hf => W.vret hx hb (hrt.trans hr) hq hf hd hlk)
end AWC
/-! what the printed functions are written with -/
theorem bnd {α β : Type} {o : Option α} {f : α → Option β} {r : β} (h : o.bind f = some r) : ∃ a, o = some a ∧ f a = some r := by
  cases o with
  | none => cases h
  | some a => exact ⟨a, rfl, h⟩
def kO (μ : MM) (a ci : Nat) : Option Unit := if μ.1[a]? = some (0, ci) then some () else none
theorem kO_some {μ : MM} {a ci : Nat} {u : Unit} (h : kO μ a ci = some u) : μ.1[a]? = some (0, ci) := by
  unfold kO at h; split at h
  · assumption
  · cases h
def rz (x : Int32) : Option Int32 := if x = 0 ∨ x = 1 then some x else none
theorem rz_some {x y : Int32} (h : rz x = some y) : y = x ∧ narrow .boolean (.int x) = .int x := by
  unfold rz at h; split at h
  · rename_i hx
    refine ⟨(Option.some.inj h).symm, ?_⟩
    rcases hx with rfl | rfl <;> decide
  · cases h
theorem nar0 : narrow .boolean (.int 0) = .int 0 := by decide
theorem nar1 : narrow .boolean (.int 1) = .int 1 := by decide
theorem elim_n {α β : Type} {o : Option α} {A : Option β} {f : α → Option β} {r : β} (c : o = none) (h : o.elim A f = some r) : A = some r := by subst c; exact h
theorem elim_s {α β : Type} {o : Option α} {A : Option β} {f : α → Option β} {r : β} {a : α} (c : o = some a) (h : o.elim A f = some r) : f a = some r := by subst c; exact h
/-- how often a loop may go round: far above any need -/
def FU : Nat := 1000000000
def gd (x : Int32) : Option Unit := if x = 0 then none else some ()
theorem gd_some {x : Int32} {u : Unit} (h : gd x = some u) : ¬ x = 0 := by
  unfold gd at h; split at h
  · cases h
  · assumption
def gdl (x : Int64) : Option Unit := if x = 0 then none else some ()
theorem gdl_some {x : Int64} {u : Unit} (h : gdl x = some u) : ¬ x = 0 := by
  unfold gdl at h; split at h
  · cases h
  · assumption
theorem kS_some {a : Nat} {u : Unit} (h : (if a = LIM ∨ a = LIM + 1 then some () else none) = some u) : a = LIM ∨ a = LIM + 1 := by
  split at h
  · assumption
  · cases h
