/-! LAYER 0: calls -/
theorem va_fin {p : Program} {l : Launch} {e : Env} {R : Room} {s : State} {m : MethodId} {args : Array Value} {below : List Frame} {meth : Method} {c : Code} {H : Heap} {locs : List Loc} {cells slots mc ms pc B : Nat} {Q : State → Prop} {ls : Array Slot} {st0 rest : List Value} {D : va_G} {tc : Nat → ClassId} {sa : Nat → Nat} {r : Option Value} {μ1 : MM} {a : Array Value}
    (hr : va_Run p l e R s m args below meth c H locs cells slots mc ms (F0 m pc ls st0) rest (QcM B D tc sa r μ1 a) (fun q => B ≤ q)) (hS : va_S (fun q => B ≤ q) s.heap H locs)
    (kk : ∀ (H1 : Heap) (locs1 : List Loc), va_P D CLS (wz (adr B sa) tc μ1) H1 → va_S (fun q => B ≤ q) s.heap H1 locs1 → W p l e R s m args below meth c H1 locs1 (cells + mc) (slots + ms) Q (F0 m (pc + 3) ls ((r.map (cv (adr B sa))).toList ++ rest))) : W p l e R s m args below meth c H locs cells slots Q (F0 m pc ls st0) := by
  intro T hT X
  obtain ⟨v, st₀, t, T', L, h0, X', hL, e1, e2, ⟨hv, hP, hz, hk⟩, st⟩ := hr T hT X
  have hv : v = r.map (cv (adr B sa)) := by cases hv; rfl
  subst hv
  rw [h0] at hz hk
  obtain ⟨t2, a1, b1⟩ := kk T'.heap (locs ++ L) (by rw [e1]; exact hP)
    ⟨Nat.le_trans hS.1 (by rw [e1]; exact hz), fun q h1 h2 => by rw [e1, hk q (Nat.lt_of_lt_of_le h1 hS.1) h2]; exact hS.2.1 q h1 h2, fun q hq => by
      rcases List.mem_append.mp hq with h | h
      · exact hS.2.2 q h
      · exact hL q h⟩ T' rfl X'
  exact ⟨t2, st t2 a1, b1⟩
theorem PcM.blind {B : Nat} {D : va_G} {tc : Nat → ClassId} {sa : Nat → Nat} {μ : MM} {avs : List Value} : FrameBlind (PcM B D tc sa μ avs) := by
  intro a U g mk h
  obtain ⟨h1, h2, h3, h4, h5⟩ := h
  exact ⟨h1, h2, h3, va_K.moved (u := U) (U := U.calling g mk a) (Vm.Alike.refl U.vm) h4, h5.blind⟩
theorem wz_size {B : Nat} {D : va_G} {tc : Nat → ClassId} {sa : Nat → Nat} {μ : MM} {H : Heap} (h : va_P D CLS (wz (adr B sa) tc μ) H) (hB : B ≤ H.size) (hl : nc μ ≤ LIM) : B + nc μ ≤ H.size := by
  rcases Nat.eq_zero_or_pos (nc μ) with h0 | h0
  · omega
  · obtain ⟨x, hx⟩ : ∃ x, μ.1[nc μ - 1]? = some x := ⟨_, List.getElem?_eq_getElem (by unfold nc at *; omega)⟩
    have h1 := (h _ _ (wz_at (f := adr B sa) (tc := tc) hx)).lt
    have h2 : adr B sa (nc μ - 1) < H.size := h1
    rw [adr_lt (by omega)] at h2
    omega
def LKV (own : String) (ix : Nat) (Y : YT) (np : Nat) : Prop := Cond.methodLink own ix Y.1 ∈ tb ∧ Cond.instanceMethod Y.1 ∈ tb ∧ Cond.selects Y.1.cls Y.1 Y.1 ∈ tb ∧ Cond.initialized Y.1.cls ∈ tb ∧ Cond.code Y.1 Y.2.1 Y.2.2.1 Y.2.2.2 ∈ tb ∧ (Y.1.cls ≠ "java/lang/invoke/MethodHandle" ∧ Y.1.cls ≠ "java/lang/invoke/VarHandle" ∧ (parseMethodDescriptor Y.1.desc).map (fun d => d.parameters.length) = some np) ∧ Y.2.2.1 ≤ 111
def LKS (own : String) (ix : Nat) (Y : YT) (np : Nat) : Prop := Cond.methodLink own ix Y.1 ∈ tb ∧ Cond.static Y.1 ∈ tb ∧ Cond.initialized Y.1.cls ∈ tb ∧ Cond.code Y.1 Y.2.1 Y.2.2.1 Y.2.2.2 ∈ tb ∧ (Y.1.cls ≠ "java/lang/invoke/MethodHandle" ∧ Y.1.cls ≠ "java/lang/invoke/VarHandle" ∧ (parseMethodDescriptor Y.1.desc).map (fun d => d.parameters.length) = some np) ∧ Y.2.2.1 ≤ 111
def LKI (own : String) (ix : Nat) (Y : YT) (np : Nat) : Prop := (Cond.methodLink own ix Y.1 ∈ tb ∨ ∃ host, ∀ B sa U, STR B sa U → va_Nw (.methodLinkNest own ix Y.1 host) U) ∧ Cond.instanceMethod Y.1 ∈ tb ∧ Cond.initialized Y.1.cls ∈ tb ∧ Cond.code Y.1 Y.2.1 Y.2.2.1 Y.2.2.2 ∈ tb ∧ (Y.1.cls ≠ "java/lang/invoke/MethodHandle" ∧ Y.1.cls ≠ "java/lang/invoke/VarHandle" ∧ (parseMethodDescriptor Y.1.desc).map (fun d => d.parameters.length) = some np) ∧ Y.2.2.1 ≤ 111 ∧ Y.1.name = "<init>" ∧ Y.2.2.2 = none
theorem good_all {ws : List Cond} (h : ∀ w ∈ ws, w ∈ tb) : GoodIn tb ws := fun w hw => ⟨h w hw, (tb_good w (h w hw)).2⟩
theorem wsY_tb {Y : YT} (h : Cond.code Y.1 Y.2.1 Y.2.2.1 Y.2.2.2 ∈ tb) : ∀ w ∈ wsY Y, w ∈ tb := fun w hw => by
  rcases List.mem_cons.mp hw with rfl | hw
  · exact h
  · exact hw
section AWK
variable {CK : CKT} {l : Launch} {Y Y' : YT} {d d' nE sE pc : Nat} {loc : List (Option Value)} {st rest : List Value} {μ μ1 : MM} {As : List Value} {r : Option Value}
theorem cat_map (f : Nat → Nat) (st : List Value) : ((st.map (cv f)).map fun v => v.category).sum = (st.map fun v => v.category).sum := by
  rw [List.map_map]; congr 1; apply List.map_congr_left; intro v _; exact cv_cat _ v
/-- what a call needs and gives, but for the kind of call -/
theorem AW.call {avs : List Value} (hm : AMet l d' Y' avs μ r μ1) (hdd : d' + 1 ≤ d) (K : AW CK l Y d nE sE (pc + 3) loc (r.toList ++ rest) μ1)
    (h : ∀ {p : Program} {e : Env} {R : Room} {s : State} {m : MethodId} {args : Array Value} {below : List Frame} {meth : Method} {c : Code} {H : Heap} {locs : List Loc} {cells slots mc ms : Nat} {ls : Array Slot} {B : Nat} {D : va_G} {tc : Nat → ClassId} {sa : Nat → Nat}, CallFix p m c Y.2.1 Y.2.2.1 s args tb Y.1.cls → ls.size = Y.2.2.1 → Met l Y'.1 (wsY Y') (rmM d' mc ms) (PcM B D tc sa μ avs) (QcM B D tc sa r μ1) mc ms (fun q => B ≤ q) →
      d' + 1 ≤ R.frames → 130 * (d' + 1) ≤ R.locals → cells + mc ≤ R.cells ∧ slots + ms ≤ R.slots → va_K D CLS (TYS tc) s → va_P D CLS (wz (adr B sa) tc μ) H → STR B sa s →
      (∀ U : State, U.heap = H → s.WarmedH U.vm → PcM B D tc sa μ avs (avs.map (cv (adr B sa))).toArray U) → va_Run p l e R s m args below meth c H locs cells slots mc ms (F0 m pc ls (st.map (cv (adr B sa)))) (rest.map (cv (adr B sa))) (QcM B D tc sa r μ1 (avs.map (cv (adr B sa))).toArray) (fun q => B ≤ q)) : AW CK l Y d nE sE pc loc st μ := by
  have k1 := K.1
  have k2 := K.2.1
  have m1 := hm.1
  have m2 := hm.2.1
  refine ⟨by omega, by omega, fun p e R s m args below meth c B D tc sa n0 s0 Q hC hF H locs ls cells slots hP hS hL hc hs => ?_⟩
  have kk := K.2.2 p e R s m args below meth c B D tc sa n0 s0 Q hC hF
  obtain ⟨hx, hb, hr, hml, ho, hts, hlk, hnm, hK, hsz, hE1, hE2, hf1, hf2, hlim, hstr⟩ := hF
  refine W.size (fun hz => ?_)
  have hz2 : H.size = B + nc μ := by
    have h1 := wz_size hP (by have := hS.1; omega) (by omega)
    omega
  have hM := hm.2.2 (by omega) B D tc sa
  refine va_fin (h ⟨hx, hb, hml, ho, hts⟩ hL.1 hM (by omega) (by omega) ⟨by omega, by omega⟩ hK hP hstr (fun U hU hW => ⟨rfl, by rw [hU]; exact hz2, by rw [hU]; exact hP, va_K.moved hW.alike hK, hstr.to hS hU hW⟩)) hS (fun H1 locs1 hP1 hS1 => ?_)
  have := kk H1 locs1 ls (cells + (nc μ1 - nc μ)) (slots + (nsl μ1 - nsl μ)) hP1 hS1 hL (by omega) (by omega)
  rw [List.map_append] at this
  cases r <;> exact this
theorem aw_invV {a ci ix np : Nat} {T : u_T} {N : Nat} (n : Nat) (hd : decode Y.2.1 pc = .ok (.invokevirtual ix, 3)) (hn : pc + 3 = n) (hl : LKV Y.1.cls ix Y' np) (hM : AMet l d' Y' (.ref a :: As) μ r μ1) (hdd : d' + 1 ≤ d) (hk : μ.1[a]? = some (0, ci)) (hC : CLS[ci]? = some (Y'.1.cls, T, N)) (hst : As.reverse ++ .ref a :: rest = st) (hnp : As.length = np) (hc8 : (rest.map fun v => v.category).sum ≤ 8) {st' : List Value} (hst' : r.toList ++ rest = st')
    (K : AW CK l Y d nE sE n loc st' μ1) : AW CK l Y d nE sE pc loc st μ := by
  subst hn
  subst hst'
  obtain ⟨l1, l2, l3, l4, l5, l6, l7⟩ := hl
  refine AW.call hM hdd K (fun S hls hMet hfr hlo hf hK hP hstr hPc => ?_)
  rename_i p e R s m args below meth c H locs cells slots mc ms ls B D tc sa
  refine va_runV (b := adr B sa a) (As := As.map (cv (adr B sa))) S hMet (cwV np S.2.2.2.2 (good_all ?_) rfl rfl rfl ⟨rfl, l6⟩ ⟨hfr, by show 8 + (_ + 11) + 130 * d' ≤ _; omega⟩) ⟨PcM.blind, va_recv hK hP hC (wz_at hk), hPc⟩ rfl (by rw [List.length_map, hnp]) hls ?_ (lv_room (pc := pc) (ls := ls) (m := m) (rest := st.map (cv (adr B sa))) (by rw [cat_map]; exact hc8)) hd hf
  · intro w hw
    unfold wsV at hw
    rcases List.mem_append.mp hw with h | h
    · simp only [List.mem_cons, List.not_mem_nil, or_false] at h
      rcases h with rfl | rfl | rfl | rfl <;> assumption
    · exact wsY_tb l5 w h
  · show st.map (cv (adr B sa)) = _
    rw [← hst, List.map_append, List.map_reverse]
    rfl
theorem aw_invS {ix np : Nat} (n : Nat) (hd : decode Y.2.1 pc = .ok (.invokestatic ix, 3)) (hn : pc + 3 = n) (hl : LKS Y.1.cls ix Y' np) (hM : AMet l d' Y' As μ r μ1) (hdd : d' + 1 ≤ d) (hst : As.reverse ++ rest = st) (hnp : As.length = np) (hc8 : (rest.map fun v => v.category).sum ≤ 8) {st' : List Value} (hst' : r.toList ++ rest = st')
    (K : AW CK l Y d nE sE n loc st' μ1) : AW CK l Y d nE sE pc loc st μ := by
  subst hn
  subst hst'
  obtain ⟨l1, l2, l3, l5, l6, l7⟩ := hl
  refine AW.call hM hdd K (fun S hls hMet hfr hlo hf hK hP hstr hPc => ?_)
  rename_i p e R s m args below meth c H locs cells slots mc ms ls B D tc sa
  refine va_runS (As := As.map (cv (adr B sa))) S hMet (va_cwS np S.2.2.2.2 (good_all ?_) rfl rfl rfl l6 ⟨hfr, by show 8 + (_ + 11) + 130 * d' ≤ _; omega⟩) ⟨PcM.blind, hPc⟩ rfl (by rw [List.length_map, hnp]) hls ?_ (lv_room (pc := pc) (ls := ls) (m := m) (rest := st.map (cv (adr B sa))) (by rw [cat_map]; exact hc8)) hd hf
  · intro w hw
    unfold va_wsS at hw
    rcases List.mem_append.mp hw with h | h
    · simp only [List.mem_cons, List.not_mem_nil, or_false] at h
      rcases h with rfl | rfl | rfl <;> assumption
    · exact wsY_tb l5 w h
  · show st.map (cv (adr B sa)) = _
    rw [← hst, List.map_append, List.map_reverse]
theorem aw_invI {a ix np : Nat} (n : Nat) (hd : decode Y.2.1 pc = .ok (.invokespecial ix, 3)) (hn : pc + 3 = n) (hl : LKI Y.1.cls ix Y' np) (hM : AMet l d' Y' (.ref a :: As) μ r μ1) (hdd : d' + 1 ≤ d) (hst : As.reverse ++ .ref a :: rest = st) (hnp : As.length = np) (hc8 : (rest.map fun v => v.category).sum ≤ 8) {st' : List Value} (hst' : r.toList ++ rest = st')
    (K : AW CK l Y d nE sE n loc st' μ1) : AW CK l Y d nE sE pc loc st μ := by
  subst hn
  subst hst'
  obtain ⟨l1, l2, l3, l5, l6, l7, l8, l9⟩ := hl
  refine AW.call hM hdd K (fun S hls hMet hfr hlo hf hK hP hstr hPc => ?_)
  rename_i p e R s m args below meth c H locs cells slots mc ms ls B D tc sa
  have hst2 : st.map (cv (adr B sa)) = (As.map (cv (adr B sa))).reverse ++ Value.ref (adr B sa a) :: rest.map (cv (adr B sa)) := by
    rw [← hst, List.map_append, List.map_reverse]
    rfl
  have hw0 : wsY Y' = Cond.code Y'.1 Y'.2.1 Y'.2.2.1 none :: tb := by unfold wsY; rw [l9]
  rcases l1 with l1 | ⟨host, l1⟩
  · exact va_runI (b := adr B sa a) (As := As.map (cv (adr B sa))) S hMet (cwI np S.2.2.2.2 (good_all (wsY_tb l5)) hw0 rfl rfl (S.2.2.2.2 _ l3) (S.2.2.2.2 _ l1) (S.2.2.2.2 _ l2) l8 l6 ⟨hfr, by show 8 + (_ + 11) + 130 * d' ≤ _; omega⟩) ⟨PcM.blind, hPc⟩ rfl (by rw [List.length_map, hnp]) hls hst2 (lv_room (pc := pc) (ls := ls) (m := m) (rest := st.map (cv (adr B sa))) (by rw [cat_map]; exact hc8)) hd hf
  · exact va_runIN (b := adr B sa a) (As := As.map (cv (adr B sa))) S hMet ⟨va_cnB np S.2.2.2.2 (good_all (wsY_tb l5)) hw0 rfl rfl (l1 B sa _ hstr) (S.2.2.2.2 _ l3) l6 ⟨hfr, by show 8 + (_ + 11) + 130 * d' ≤ _; omega⟩, l8, S.2.2.2.2 _ l2⟩ ⟨PcM.blind, hPc⟩ rfl (by rw [List.length_map, hnp]) hls hst2 (lv_room (pc := pc) (ls := ls) (m := m) (rest := st.map (cv (adr B sa))) (by rw [cat_map]; exact hc8)) hd hf
end AWK
