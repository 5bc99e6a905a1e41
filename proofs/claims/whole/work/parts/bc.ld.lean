/-! LAYER 3: the law's script, as the run has it -/
def Scr (CK : CKT) (L : Nat) (xs : Nat → Int32) : Prop := ∀ (p : Program) (e : Env) (R : Room) (s : State) (m : MethodId) (args : Array Value) (below : List Frame) (meth : Method) (c : Code) (B : Nat) (D : va_G) (tc : Nat → ClassId) (sa : Nat → Nat) (n0 s0 : Nat) (Q : State → Prop), CK p e R s m args below meth c B D tc sa n0 s0 Q → va_X (sa 4) L xs s s.heap ∧ sa 4 < s.heap.size ∧ sa 4 < B
theorem adr_4 (B : Nat) (sa : Nat → Nat) : adr B sa (LIM + 4) = sa 4 := by
  unfold adr
  rw [if_neg (by omega), Nat.add_sub_cancel_left]
section
variable {CK : CKT} {l : Launch} {Y : YT} {d nE sE pc : Nat} {loc : List (Option Value)} {st : List Value} {μ : MM}
theorem aw_sld {L : Nat} {xs : Nat → Int32} (h : Scr CK L xs) (n : Nat) (hd : decode Y.2.1 pc = .ok (.iaload, 1)) (hn : pc + 1 = n) {i : Int32} (hin : vp_in i L) (k : AW CK l Y d nE sE n loc (.int (xs i.toNatClampNeg) :: st) μ) : AW CK l Y d nE sE pc loc (.int i :: .ref (LIM + 4) :: st) μ := by
  subst hn
  refine ⟨k.1, k.2.1, fun p e R s m args below meth c B D tc sa n0 s0 Q hC hF H locs ls cells slots hP hS hL hc hs => ?_⟩
  obtain ⟨hX, hbl, hbB⟩ := h p e R s m args below meth c B D tc sa n0 s0 Q hC
  have kk := k.2.2 p e R s m args below meth c B D tc sa n0 s0 Q hC hF H locs ls cells slots hP hS hL hc hs
  show W p l e R s m args below meth c H locs cells slots Q (F0 m pc ls (.int i :: .ref (adr B sa (LIM + 4)) :: st.map (cv (adr B sa))))
  rw [adr_4]
  exact va_sld hF.1 hF.2.1 hX hbl (Nat.not_le.mpr hbB) hS hin hd kk
theorem aw_slen {L : Nat} {xs : Nat → Int32} (h : Scr CK L xs) (n : Nat) (hd : decode Y.2.1 pc = .ok (.arraylength, 1)) (hn : pc + 1 = n) (k : AW CK l Y d nE sE n loc (.int (nI L) :: st) μ) : AW CK l Y d nE sE pc loc (.ref (LIM + 4) :: st) μ := by
  subst hn
  refine ⟨k.1, k.2.1, fun p e R s m args below meth c B D tc sa n0 s0 Q hC hF H locs ls cells slots hP hS hL hc hs => ?_⟩
  obtain ⟨hX, hbl, hbB⟩ := h p e R s m args below meth c B D tc sa n0 s0 Q hC
  have kk := k.2.2 p e R s m args below meth c B D tc sa n0 s0 Q hC hF H locs ls cells slots hP hS hL hc hs
  show W p l e R s m args below meth c H locs cells slots Q (F0 m pc ls (.ref (adr B sa (LIM + 4)) :: st.map (cv (adr B sa))))
  rw [adr_4]
  exact va_slen hF.1 hF.2.1 hX hbl (Nat.not_le.mpr hbB) hS hd kk
end
