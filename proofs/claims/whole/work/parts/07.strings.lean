/-! LAYER 0: String constants (ids LIM, LIM + 1; their bytes LIM + 2, LIM + 3) -/
def sbyt (i : Nat) : List Int32 := ([[98, 118, 105, 107, 102, 104, 106, 117, 114, 110, 111, 120], [112, 115, 116, 107, 100]] : List (List Int32)).getD i []
def slen (i : Nat) : Nat := ([12, 5] : List Nat).getD i 0
def isS (a : Nat) : Prop := a = LIM ∨ a = LIM + 1
def sC (a : Nat) : Option Int32 := if a = LIM ∨ a = LIM + 1 then some 0 else none
def sV (a : Nat) : Option Nat := if a = LIM ∨ a = LIM + 1 then some (a + 2) else none
def sN (a : Nat) : Option Int32 := if a = LIM + 2 ∨ a = LIM + 3 then some (Int32.ofNat (slen (a - (LIM + 2)))) else none
def sB (a : Nat) (j : Int32) : Option Int32 := if (a = LIM + 2 ∨ a = LIM + 3) ∧ ¬ (j < 0 ∨ slen (a - (LIM + 2)) ≤ j.toNatClampNeg) then some ((sbyt (a - (LIM + 2))).getD j.toNatClampNeg 0) else none
theorem adr_S {B : Nat} {sa : Nat → Nat} (i : Nat) : adr B sa (LIM + i) = sa i := by
  unfold adr; rw [if_neg (Nat.not_lt.mpr (Nat.le_add_right LIM i)), Nat.add_sub_cancel_left]
section AWS
variable {CK : CKT} {l : Launch} {Y Y' : YT} {d d' nE sE pc : Nat} {loc : List (Option Value)} {st rest : List Value} {μ μ1 : MM} {As : List Value} {r : Option Value}
/-- a look at what was there before -/
theorem AW.look {pc' : Nat} {st' : List Value} (k : AW CK l Y d nE sE pc' loc st' μ)
    (h : ∀ {p : Program} {e : Env} {R : Room} {s : State} {m : MethodId} {args : Array Value} {below : List Frame} {meth : Method} {c : Code} {H : Heap} {locs : List Loc} {cells slots : Nat} {Q : State → Prop} {ls : Array Slot} {B : Nat} {sa : Nat → Nat}, p.tables.exec = Jvm.exec → c.code = Y.2.1 →
      s.vm.findClass Y.1.cls = some m.cls → (∀ w ∈ tb, w.before args s = true) → STR B sa s → va_S (fun q => B ≤ q) s.heap H locs →
      W p l e R s m args below meth c H locs cells slots Q (F0 m pc' ls (st'.map (cv (adr B sa)))) → W p l e R s m args below meth c H locs cells slots Q (F0 m pc ls (st.map (cv (adr B sa))))) : AW CK l Y d nE sE pc loc st μ := by
  refine ⟨k.1, k.2.1, fun p e R s m args below meth c B D tc sa n0 s0 Q hC hF H locs ls cells slots hP hS hL hc hs => ?_⟩
  exact h hF.1 hF.2.1 hF.2.2.2.2.1 hF.2.2.2.2.2.1 hF.2.2.2.2.2.2.2.2.2.2.2.2.2.2.2 hS (k.2.2 p e R s m args below meth c B D tc sa n0 s0 Q hC hF H locs ls cells slots hP hS hL hc hs)
theorem aw_ldcS {ix i : Nat} {tx : String} (n : Nat) (hd : decode Y.2.1 pc = .ok (.ldc ix, 2)) (hn : pc + 2 = n) (hz : ∀ B sa U, STR B sa U → vk_R Y.1.cls ix tx (sa i) U) (K : AW CK l Y d nE sE n loc (.ref (LIM + i) :: st) μ) : AW CK l Y d nE sE pc loc st μ := by
  subst hn
  refine K.look (fun hx hb ho ht hstr hS kk => va_ldcS hx hb ho (hz _ _ _ hstr) hd ?_)
  simp only [List.map_cons, cv, adr_S] at kk
  exact kk
theorem str_at {B : Nat} {sa : Nat → Nat} {U : State} (h : STR B sa U) {a : Nat} (ha : a = LIM ∨ a = LIM + 1) : ∃ i, i < 2 ∧ a = LIM + i ∧ va_O "java/lang/String" (sa i) (fun q => B ≤ q) U U.heap ∧ va_OF "java/lang/String" "coder" "B" (.int 0) (sa i) (fun q => B ≤ q) U U.heap ∧ va_OF "java/lang/String" "value" "[B" (.ref (sa (i + 2))) (sa i) (fun q => B ≤ q) U U.heap := by
  obtain ⟨-, -, -, h4, -⟩ := h
  rcases ha with rfl | rfl
  · exact ⟨0, by decide, rfl, (h4.1 0 (by decide)).1, (h4.1 0 (by decide)).2.1, (h4.1 0 (by decide)).2.2.1⟩
  · exact ⟨1, by decide, rfl, (h4.1 1 (by decide)).1, (h4.1 1 (by decide)).2.1, (h4.1 1 (by decide)).2.2.1⟩
theorem strv_at {B : Nat} {sa : Nat → Nat} {U : State} (h : STR B sa U) {a : Nat} (ha : a = LIM + 2 ∨ a = LIM + 3) : ∃ i, i < 2 ∧ a = LIM + (i + 2) ∧ va_T .byte (sa (i + 2)) (slen i) (fun j => .int ((sbyt i).getD j 0)) (fun q => B ≤ q) U U.heap := by
  obtain ⟨-, -, -, h4, -⟩ := h
  rcases ha with rfl | rfl
  · exact ⟨0, by decide, rfl, (h4.1 0 (by decide)).2.2.2⟩
  · exact ⟨1, by decide, rfl, (h4.1 1 (by decide)).2.2.2⟩
theorem aw_getSC {ix a : Nat} {x : Int32} (n : Nat) (hd : decode Y.2.1 pc = .ok (.getfield ix, 3)) (hn : pc + 3 = n) (hw : Cond.fieldLink Y.1.cls ix "java/lang/String" "coder" "B" ∈ tb) (hr : sC a = some x) (K : AW CK l Y d nE sE n loc (.int x :: st) μ) : AW CK l Y d nE sE pc loc (.ref a :: st) μ := by
  subst hn
  unfold sC at hr
  split at hr
  · rename_i ha
    cases hr
    refine K.look (fun hx hb ho ht hstr hS kk => ?_)
    obtain ⟨i, hi, rfl, -, h2, -⟩ := str_at hstr ha
    show W _ _ _ _ _ _ _ _ _ _ _ _ _ _ _ (F0 _ _ _ (Value.ref (adr _ _ (LIM + i)) :: _))
    rw [adr_S]
    exact vk_getf hx hb h2 hS ho (ht _ hw) (fun x q => q) hd kk
  · cases hr
theorem aw_getSV {ix a x : Nat} (n : Nat) (hd : decode Y.2.1 pc = .ok (.getfield ix, 3)) (hn : pc + 3 = n) (hw : Cond.fieldLink Y.1.cls ix "java/lang/String" "value" "[B" ∈ tb) (hr : sV a = some x) (K : AW CK l Y d nE sE n loc (.ref x :: st) μ) : AW CK l Y d nE sE pc loc (.ref a :: st) μ := by
  subst hn
  unfold sV at hr
  split at hr
  · rename_i ha
    cases hr
    refine K.look (fun hx hb ho ht hstr hS kk => ?_)
    obtain ⟨i, hi, rfl, -, -, h3⟩ := str_at hstr ha
    show W _ _ _ _ _ _ _ _ _ _ _ _ _ _ _ (F0 _ _ _ (Value.ref (adr _ _ (LIM + i)) :: _))
    rw [adr_S]
    simp only [List.map_cons, cv, Nat.add_assoc, adr_S] at kk
    exact vk_getf hx hb h3 hS ho (ht _ hw) (fun x q => q) hd kk
  · cases hr
theorem aw_salen {a : Nat} {x : Int32} (n : Nat) (hd : decode Y.2.1 pc = .ok (.arraylength, 1)) (hn : pc + 1 = n) (hr : sN a = some x) (K : AW CK l Y d nE sE n loc (.int x :: st) μ) : AW CK l Y d nE sE pc loc (.ref a :: st) μ := by
  subst hn
  unfold sN at hr
  split at hr
  · rename_i ha
    refine K.look (fun hx hb ho ht hstr hS kk => ?_)
    obtain ⟨i, hi, rfl, hT⟩ := strv_at hstr ha
    show W _ _ _ _ _ _ _ _ _ _ _ _ _ _ _ (F0 _ _ _ (Value.ref (adr _ _ (LIM + (i + 2))) :: _))
    rw [adr_S]
    refine va_tlen hx hb hT hS ?_ hd kk
    have e : LIM + (i + 2) - (LIM + 2) = i := by omega
    rw [e] at hr
    exact Option.some.inj hr
  · cases hr
theorem aw_sbald {a : Nat} {j x : Int32} (n : Nat) (hd : decode Y.2.1 pc = .ok (.baload, 1)) (hn : pc + 1 = n) (hr : sB a j = some x) (K : AW CK l Y d nE sE n loc (.int x :: st) μ) : AW CK l Y d nE sE pc loc (.int j :: .ref a :: st) μ := by
  subst hn
  unfold sB at hr
  split at hr
  · rename_i ha
    refine K.look (fun hx hb ho ht hstr hS kk => ?_)
    obtain ⟨i, hi, rfl, hT⟩ := strv_at hstr ha.1
    have e : LIM + (i + 2) - (LIM + 2) = i := by omega
    rw [e] at hr
    have h2 := ha.2
    rw [e] at h2
    show W _ _ _ _ _ _ _ _ _ _ _ _ _ _ _ (F0 _ _ _ (Value.int j :: Value.ref (adr _ _ (LIM + (i + 2))) :: _))
    rw [adr_S]
    exact va_tb hx hb hT hS h2 (by rw [← Option.some.inj hr]; rfl) hd kk
  · cases hr
theorem aw_getCS {ix : Nat} (n : Nat) (hd : decode Y.2.1 pc = .ok (.getstatic ix, 3)) (hn : pc + 3 = n) (hw : Cond.fieldLink Y.1.cls ix "java/lang/String" "COMPACT_STRINGS" "Z" ∈ tb) (K : AW CK l Y d nE sE n loc (.int 1 :: st) μ) : AW CK l Y d nE sE pc loc st μ := by
  subst hn
  exact K.look (fun hx hb ho ht hstr hS kk => va_gets hx hb hstr.2.2.2.2.1 hS ho (ht _ hw) (fun x q => q) hd kk)
/-- a call on a String constant -/
theorem aw_invVS {a ix np : Nat} (n : Nat) (hd : decode Y.2.1 pc = .ok (.invokevirtual ix, 3)) (hn : pc + 3 = n) (hl : LKV Y.1.cls ix Y' np) (hM : AMet l d' Y' (.ref a :: As) μ r μ1) (hdd : d' + 1 ≤ d) (hk : a = LIM ∨ a = LIM + 1) (hC : Y'.1.cls = "java/lang/String") (hst : As.reverse ++ .ref a :: rest = st) (hnp : As.length = np) (hc8 : (rest.map fun v => v.category).sum ≤ 8) {st' : List Value} (hst' : r.toList ++ rest = st')
    (K : AW CK l Y d nE sE n loc st' μ1) : AW CK l Y d nE sE pc loc st μ := by
  subst hn
  subst hst'
  obtain ⟨l1, l2, l3, l4, l5, l6, l7⟩ := hl
  have k1 := K.1
  have k2 := K.2.1
  have m1 := hM.1
  have m2 := hM.2.1
  refine ⟨by omega, by omega, fun p e R s m args below meth c B D tc sa n0 s0 Q hC0 hF H locs ls cells slots hP hS hL hc hs => ?_⟩
  have hrecv : ∃ cell : Cell, H[adr B sa a]? = some cell ∧ cell.vm.isStatics = false ∧ s.vm.findClass Y'.1.cls = some cell.cls := by
    obtain ⟨i, hi, rfl, h1, -, -⟩ := str_at hF.2.2.2.2.2.2.2.2.2.2.2.2.2.2.2 hk
    obtain ⟨cell, g1, g2, g3, -⟩ := h1.kept hS.2.1
    rw [adr_S, hC]
    exact ⟨cell, g1, g2, g3⟩
  have kk := K.2.2 p e R s m args below meth c B D tc sa n0 s0 Q hC0 hF
  obtain ⟨hx, hb, hr, hml, ho, hts, hlk, hnm, hK, hsz, hE1, hE2, hf1, hf2, hlim, hstr⟩ := hF
  refine W.size (fun hz => ?_)
  have hz2 : H.size = B + nc μ := by
    have h1 := wz_size hP (by have := hS.1; omega) (by omega)
    omega
  have hMe := hM.2.2 (by omega) B D tc sa
  refine va_fin (va_runV (b := adr B sa a) (As := As.map (cv (adr B sa))) (rest := rest.map (cv (adr B sa))) ⟨hx, hb, hml, ho, hts⟩ hMe (cwV np hts (good_all ?_) rfl rfl rfl ⟨rfl, l6⟩ ⟨by show d' + 1 ≤ _; omega, by show 8 + (_ + 11) + 130 * d' ≤ _; omega⟩) ⟨PcM.blind, hrecv, fun U hU hW => ⟨rfl, by rw [hU]; exact hz2, by rw [hU]; exact hP, va_K.moved hW.alike hK, hstr.to hS hU hW⟩⟩ rfl (by rw [List.length_map, hnp]) hL.1 ?_ (lv_room (pc := pc) (ls := ls) (m := m) (rest := st.map (cv (adr B sa))) (by rw [cat_map]; exact hc8)) hd ⟨by omega, by omega⟩) hS (fun H1 locs1 hP1 hS1 => ?_)
  · intro w hw
    unfold wsV at hw
    rcases List.mem_append.mp hw with h | h
    · simp only [List.mem_cons, List.not_mem_nil, or_false] at h
      rcases h with rfl | rfl | rfl | rfl <;> assumption
    · exact wsY_tb l5 w h
  · show st.map (cv (adr B sa)) = _
    rw [← hst, List.map_append, List.map_reverse]
    rfl
  · have := kk H1 locs1 ls (cells + (nc μ1 - nc μ)) (slots + (nsl μ1 - nsl μ)) hP1 hS1 hL (by omega) (by omega)
    rw [List.map_append] at this
    cases r <;> exact this
end AWS
/-! words of the tables by chunk and place -/
theorem mem_c {i : Nat} {w : Cond} {ch : List Cond} (hc : ∀ w ∈ ch, w ∈ tables_1) (h : ch[i]? = some w) (g : goodWord w = true) : w ∈ tb := List.mem_filter.mpr ⟨List.mem_append_right _ (hc w (List.mem_of_getElem? h)), g⟩
theorem mem_c1 (i : Nat) {w : Cond} (h : tables_1_1[i]? = some w) (g : goodWord w = true) : w ∈ tb := mem_c (fun w h => by unfold tables_1; simp only [List.mem_append]; simp [h]) h g
theorem mem_c2 (i : Nat) {w : Cond} (h : tables_1_2[i]? = some w) (g : goodWord w = true) : w ∈ tb := mem_c (fun w h => by unfold tables_1; simp only [List.mem_append]; simp [h]) h g
theorem mem_c3 (i : Nat) {w : Cond} (h : tables_1_3[i]? = some w) (g : goodWord w = true) : w ∈ tb := mem_c (fun w h => by unfold tables_1; simp only [List.mem_append]; simp [h]) h g
theorem mem_c4 (i : Nat) {w : Cond} (h : tables_1_4[i]? = some w) (g : goodWord w = true) : w ∈ tb := mem_c (fun w h => by unfold tables_1; simp only [List.mem_append]; simp [h]) h g
theorem mem_c5 (i : Nat) {w : Cond} (h : tables_1_5[i]? = some w) (g : goodWord w = true) : w ∈ tb := mem_c (fun w h => by unfold tables_1; simp only [List.mem_append]; simp [h]) h g
theorem mem_c6 (i : Nat) {w : Cond} (h : tables_1_6[i]? = some w) (g : goodWord w = true) : w ∈ tb := mem_c (fun w h => by unfold tables_1; simp only [List.mem_append]; simp [h]) h g
theorem mem_c7 (i : Nat) {w : Cond} (h : tables_1_7[i]? = some w) (g : goodWord w = true) : w ∈ tb := mem_c (fun w h => by unfold tables_1; simp only [List.mem_append]; simp [h]) h g
theorem mem_c8 (i : Nat) {w : Cond} (h : tables_1_8[i]? = some w) (g : goodWord w = true) : w ∈ tb := mem_c (fun w h => by unfold tables_1; simp only [List.mem_append]; simp [h]) h g
theorem mem_pv {i : Nat} {q : MethodName × Nat} {ch : List (MethodName × Nat)} (hc : ∀ q ∈ ch, q ∈ lw_privs) (h : ch[i]? = some q) : Cond.selects q.1.cls q.1 q.1 ∈ tb := List.mem_filter.mpr ⟨List.mem_append_left _ (List.mem_map.mpr ⟨q, hc q (List.mem_of_getElem? h), rfl⟩), rfl⟩
theorem mem_p1 (i : Nat) {q : MethodName × Nat} (h : lw_privs_1[i]? = some q) : Cond.selects q.1.cls q.1 q.1 ∈ tb := mem_pv (fun w h => by unfold lw_privs; simp only [List.mem_append]; simp [h]) h
theorem mem_p2 (i : Nat) {q : MethodName × Nat} (h : lw_privs_2[i]? = some q) : Cond.selects q.1.cls q.1 q.1 ∈ tb := mem_pv (fun w h => by unfold lw_privs; simp only [List.mem_append]; simp [h]) h
theorem mem_p3 (i : Nat) {q : MethodName × Nat} (h : lw_privs_3[i]? = some q) : Cond.selects q.1.cls q.1 q.1 ∈ tb := mem_pv (fun w h => by unfold lw_privs; simp only [List.mem_append]; simp [h]) h
theorem mem_p4 (i : Nat) {q : MethodName × Nat} (h : lw_privs_4[i]? = some q) : Cond.selects q.1.cls q.1 q.1 ∈ tb := mem_pv (fun w h => by unfold lw_privs; simp only [List.mem_append]; simp [h]) h
theorem mem_p5 (i : Nat) {q : MethodName × Nat} (h : lw_privs_5[i]? = some q) : Cond.selects q.1.cls q.1 q.1 ∈ tb := mem_pv (fun w h => by unfold lw_privs; simp only [List.mem_append]; simp [h]) h
theorem mem_p6 (i : Nat) {q : MethodName × Nat} (h : lw_privs_6[i]? = some q) : Cond.selects q.1.cls q.1 q.1 ∈ tb := mem_pv (fun w h => by unfold lw_privs; simp only [List.mem_append]; simp [h]) h
theorem mem_p7 (i : Nat) {q : MethodName × Nat} (h : lw_privs_7[i]? = some q) : Cond.selects q.1.cls q.1 q.1 ∈ tb := mem_pv (fun w h => by unfold lw_privs; simp only [List.mem_append]; simp [h]) h
