/-! LAYER 0: the judgement AW over the kit's W -/
abbrev YT : Type := MethodName × ByteArray × Nat × Option FieldType
def STR (B : Nat) (sa : Nat → Nat) (U : State) : Prop :=
  vk_R "SinkingChoir$Singing" 20 "bvikfhjurnox" (sa 0) U ∧ vk_R "SinkingChoir$Reader" 109 "bvikfhjurnox" (sa 0) U ∧ vk_R "SinkingChoir$Reader" 67 "pstkd" (sa 1) U ∧
  vk_S 2 [12, 5] [[98, 118, 105, 107, 102, 104, 106, 117, 114, 110, 111, 120], [112, 115, 116, 107, 100]] (fun i => sa i) (fun i => sa (i + 2)) (fun q => B ≤ q) U U.heap ∧
  va_Z "java/lang/String" "COMPACT_STRINGS" "Z" (.int 1) (fun q => B ≤ q) U U.heap ∧
  va_Nw (.methodLinkNest "SinkingChoir$Choir" 39 ⟨"SinkingChoir$Program", "<init>", "()V"⟩ "SinkingChoir") U ∧
  va_Nw (.methodLinkNest "SinkingChoir" 61 ⟨"SinkingChoir$Reel", "<init>", "()V"⟩ "SinkingChoir") U ∧
  va_Nw (.methodLinkNest "SinkingChoir" 68 ⟨"SinkingChoir$Reader", "<init>", "()V"⟩ "SinkingChoir") U ∧
  va_Nw (.methodLinkNest "SinkingChoir$Reader" 17 ⟨"SinkingChoir$Program", "<init>", "()V"⟩ "SinkingChoir") U
theorem STR.to {B : Nat} {sa : Nat → Nat} {s U : State} {H : Heap} {locs : List Loc} (h : STR B sa s) (hS : va_S (fun q => B ≤ q) s.heap H locs) (hH : U.heap = H) (hW : s.WarmedH U.vm) : STR B sa U := by
  obtain ⟨h1, h2, h3, h4, h5, h6, h7, h8, h9⟩ := h
  refine ⟨h1.warm hW, h2.warm hW, h3.warm hW, ?_, ?_, va_Nw.warmM hW h6, va_Nw.warmM hW h7, va_Nw.warmM hW h8, va_Nw.warmM hW h9⟩
  · rw [hH]; exact vk_S.moved hW.alike (h4.kept hS.2.1)
  · rw [hH]; exact va_Z.moved hW.alike (h5.kept hS.2.1)
theorem STR.blind {B : Nat} {sa : Nat → Nat} {U : State} {g : JFrame} {mk : MethodId} {a : Array Value} (h : STR B sa U) : STR B sa (U.calling g mk a) := by
  obtain ⟨h1, h2, h3, h4, h5, h6, h7, h8, h9⟩ := h
  exact ⟨h1.same (u := U) rfl, h2.same (u := U) rfl, h3.same (u := U) rfl, vk_S.moved (u := U) (Vm.Alike.refl U.vm) h4, va_Z.moved (u := U) (Vm.Alike.refl U.vm) h5, va_Nw.same rfl (u := U) rfl h6, va_Nw.same rfl (u := U) rfl h7, va_Nw.same rfl (u := U) rfl h8, va_Nw.same rfl (u := U) rfl h9⟩
/-- what holds all through a method's run -/
def FX (Y : YT) (d nE sE : Nat) (p : Program) (R : Room) (s : State) (m : MethodId) (args : Array Value) (meth : Method) (c : Code) (B : Nat) (D : va_G) (tc : Nat → ClassId) (sa : Nat → Nat) (n0 s0 : Nat) : Prop :=
  p.tables.exec = Jvm.exec ∧ c.code = Y.2.1 ∧ meth.sig.returnType = Y.2.2.2 ∧ c.maxLocals = Y.2.2.1 ∧ s.vm.findClass Y.1.cls = some m.cls ∧ (∀ w ∈ tb, w.before args s = true) ∧ meth.locks = false ∧ meth.name = Y.1.name ∧
  va_K D CLS (TYS tc) s ∧ s.heap.size = B + n0 ∧ nE ≤ n0 + R.cells ∧ sE ≤ s0 + R.slots ∧ d ≤ R.frames ∧ 130 * d ≤ R.locals ∧ nE ≤ LIM ∧ STR B sa s
abbrev CKT : Type := Program → Env → Room → State → MethodId → Array Value → List Frame → Method → Code → Nat → va_G → (Nat → ClassId) → (Nat → Nat) → Nat → Nat → (State → Prop) → Prop
/-- from this place, with these locals, this stack and this memory, the run comes to its end as CK wants it; nE, sE: how many cells and slots there will be -/
def AW (CK : CKT) (l : Launch) (Y : YT) (d nE sE pc : Nat) (loc : List (Option Value)) (st : List Value) (μ : MM) : Prop :=
  nc μ ≤ nE ∧ nsl μ ≤ sE ∧ ∀ (p : Program) (e : Env) (R : Room) (s : State) (m : MethodId) (args : Array Value) (below : List Frame) (meth : Method) (c : Code) (B : Nat) (D : va_G) (tc : Nat → ClassId) (sa : Nat → Nat) (n0 s0 : Nat) (Q : State → Prop),
    CK p e R s m args below meth c B D tc sa n0 s0 Q → FX Y d nE sE p R s m args meth c B D tc sa n0 s0 →
    ∀ (H : Heap) (locs : List Loc) (ls : Array Slot) (cells slots : Nat), va_P D CLS (wz (adr B sa) tc μ) H → va_S (fun q => B ≤ q) s.heap H locs → LH (adr B sa) loc ls Y.2.2.1 → n0 + cells = nc μ → s0 + slots = nsl μ →
      W p l e R s m args below meth c H locs cells slots Q (F0 m pc ls (st.map (cv (adr B sa))))
section AWR
variable {CK : CKT} {l : Launch} {Y : YT} {d nE sE pc n : Nat} {loc loc' : List (Option Value)} {st : List Value} {μ : MM}
/-- an instruction that touches neither memory nor locals -/
theorem AW.pure {pc' : Nat} {st' : List Value} (k : AW CK l Y d nE sE pc' loc st' μ)
    (h : ∀ {p : Program} {e : Env} {R : Room} {s : State} {m : MethodId} {args : Array Value} {below : List Frame} {meth : Method} {c : Code} {H : Heap} {locs : List Loc} {cells slots : Nat} {Q : State → Prop} {ls : Array Slot} (f : Nat → Nat), p.tables.exec = Jvm.exec → c.code = Y.2.1 →
      s.vm.findClass Y.1.cls = some m.cls → (∀ w ∈ tb, w.before args s = true) → LH f loc ls Y.2.2.1 →
      W p l e R s m args below meth c H locs cells slots Q (F0 m pc' ls (st'.map (cv f))) → W p l e R s m args below meth c H locs cells slots Q (F0 m pc ls (st.map (cv f)))) : AW CK l Y d nE sE pc loc st μ := by
  refine ⟨k.1, k.2.1, fun p e R s m args below meth c B D tc sa n0 s0 Q hC hF H locs ls cells slots hP hS hL hc hs => ?_⟩
  exact h (adr B sa) hF.1 hF.2.1 hF.2.2.2.2.1 hF.2.2.2.2.2.1 hL (k.2.2 p e R s m args below meth c B D tc sa n0 s0 Q hC hF H locs ls cells slots hP hS hL hc hs)
/-- two ways -/
theorem AW.pure2 {c1 : Prop} {pc1 pc2 : Nat} {st' : List Value} [Decidable c1] (k1 : c1 → AW CK l Y d nE sE pc1 loc st' μ) (k2 : ¬ c1 → AW CK l Y d nE sE pc2 loc st' μ)
    (h : ∀ {p : Program} {e : Env} {R : Room} {s : State} {m : MethodId} {args : Array Value} {below : List Frame} {meth : Method} {c : Code} {H : Heap} {locs : List Loc} {cells slots : Nat} {Q : State → Prop} {ls : Array Slot} (f : Nat → Nat), p.tables.exec = Jvm.exec → c.code = Y.2.1 →
      (c1 → W p l e R s m args below meth c H locs cells slots Q (F0 m pc1 ls (st'.map (cv f)))) → (¬ c1 → W p l e R s m args below meth c H locs cells slots Q (F0 m pc2 ls (st'.map (cv f)))) → W p l e R s m args below meth c H locs cells slots Q (F0 m pc ls (st.map (cv f)))) : AW CK l Y d nE sE pc loc st μ := by
  have hk : nc μ ≤ nE ∧ nsl μ ≤ sE := by
    by_cases z : c1
    · exact ⟨(k1 z).1, (k1 z).2.1⟩
    · exact ⟨(k2 z).1, (k2 z).2.1⟩
  refine ⟨hk.1, hk.2, fun p e R s m args below meth c B D tc sa n0 s0 Q hC hF H locs ls cells slots hP hS hL hc hs => ?_⟩
  exact h (adr B sa) hF.1 hF.2.1 (fun z => (k1 z).2.2 p e R s m args below meth c B D tc sa n0 s0 Q hC hF H locs ls cells slots hP hS hL hc hs) (fun z => (k2 z).2.2 p e R s m args below meth c B D tc sa n0 s0 Q hC hF H locs ls cells slots hP hS hL hc hs)
theorem aw_iconst {v : Int32} {z : Int} (n : Nat) (hd : decode Y.2.1 pc = .ok (.iconst z, 1)) (hn : pc + 1 = n) (hv : Int32.ofInt z = v) (k : AW CK l Y d nE sE n loc (.int v :: st) μ) : AW CK l Y d nE sE pc loc st μ := by
  subst hn; exact k.pure (fun f hx hb _ _ _ kk => lv_iconst hx hb hd hv kk)
theorem aw_bipush {v : Int32} {z : Int} (n : Nat) (hd : decode Y.2.1 pc = .ok (.bipush z, 2)) (hn : pc + 2 = n) (hv : (Int8.ofInt z).toInt32 = v) (k : AW CK l Y d nE sE n loc (.int v :: st) μ) : AW CK l Y d nE sE pc loc st μ := by
  subst hn; exact k.pure (fun f hx hb _ _ _ kk => lv_bipush hx hb hd hv kk)
theorem aw_sipush {v : Int32} {z : Int} (n : Nat) (hd : decode Y.2.1 pc = .ok (.sipush z, 3)) (hn : pc + 3 = n) (hv : (Int16.ofInt z).toInt32 = v) (k : AW CK l Y d nE sE n loc (.int v :: st) μ) : AW CK l Y d nE sE pc loc st μ := by
  subst hn; exact k.pure (fun f hx hb _ _ _ kk => lv_sipush hx hb hd hv kk)
theorem aw_lconst {v : Int64} {z : Fin 2} (n : Nat) (hd : decode Y.2.1 pc = .ok (.lconst z, 1)) (hn : pc + 1 = n) (hv : Int64.ofNat (z : Nat) = v) (k : AW CK l Y d nE sE n loc (.long v :: st) μ) : AW CK l Y d nE sE pc loc st μ := by
  subst hn; exact k.pure (fun f hx hb _ _ _ kk => lv_lconst hx hb hd hv kk)
theorem aw_ldc {v : Int32} {ix : Nat} (n : Nat) (hd : decode Y.2.1 pc = .ok (.ldc ix, 2)) (hn : pc + 2 = n) (hw : Jvm.Cond.constant Y.1.cls ix v ∈ tb) (k : AW CK l Y d nE sE n loc (.int v :: st) μ) : AW CK l Y d nE sE pc loc st μ := by
  subst hn; exact k.pure (fun f hx hb ho ht _ kk => lv_ldc hx hb ho (ht _ hw) hd kk)
theorem aw_ldc_w {v : Int32} {ix : Nat} (n : Nat) (hd : decode Y.2.1 pc = .ok (.ldc_w ix, 3)) (hn : pc + 3 = n) (hw : Jvm.Cond.constant Y.1.cls ix v ∈ tb) (k : AW CK l Y d nE sE n loc (.int v :: st) μ) : AW CK l Y d nE sE pc loc st μ := by
  subst hn; exact k.pure (fun f hx hb ho ht _ kk => lv_ldcw hx hb ho (ht _ hw) hd kk)
theorem aw_ldc2 {v : Int64} {ix : Nat} (n : Nat) (hd : decode Y.2.1 pc = .ok (.ldc2_w ix, 3)) (hn : pc + 3 = n) (hw : Jvm.Cond.constantLong Y.1.cls ix v ∈ tb) (k : AW CK l Y d nE sE n loc (.long v :: st) μ) : AW CK l Y d nE sE pc loc st μ := by
  subst hn; exact k.pure (fun f hx hb ho ht _ kk => lv_ldc2 hx hb ho (ht _ hw) hd kk)
theorem aw_null (n : Nat) (hd : decode Y.2.1 pc = .ok (.aconst_null, 1)) (hn : pc + 1 = n) (k : AW CK l Y d nE sE n loc (.null :: st) μ) : AW CK l Y d nE sE pc loc st μ := by
  subst hn; exact k.pure (fun f hx hb _ _ _ kk => lv_null hx hb hd kk)
theorem aw_iload_n {z : Fin 4} {x : Int32} (n : Nat) (hd : decode Y.2.1 pc = .ok (.iload_n z, 1)) (hn : pc + 1 = n) (hl : loc[(z : Nat)]? = some (some (.int x))) (k : AW CK l Y d nE sE n loc (.int x :: st) μ) : AW CK l Y d nE sE pc loc st μ := by
  subst hn; exact k.pure (fun f hx hb _ _ hL kk => lv_iload_n hx hb hd rfl (hL.get hl) kk)
theorem aw_iload {i : Nat} {x : Int32} (n : Nat) (hd : decode Y.2.1 pc = .ok (.iload i, 2)) (hn : pc + 2 = n) (hl : loc[i]? = some (some (.int x))) (k : AW CK l Y d nE sE n loc (.int x :: st) μ) : AW CK l Y d nE sE pc loc st μ := by
  subst hn; exact k.pure (fun f hx hb _ _ hL kk => lv_iload hx hb hd (hL.get hl) kk)
theorem aw_lload_n {z : Fin 4} {x : Int64} (n : Nat) (hd : decode Y.2.1 pc = .ok (.lload_n z, 1)) (hn : pc + 1 = n) (hl : loc[(z : Nat)]? = some (some (.long x))) (k : AW CK l Y d nE sE n loc (.long x :: st) μ) : AW CK l Y d nE sE pc loc st μ := by
  subst hn; exact k.pure (fun f hx hb _ _ hL kk => lv_lload_n hx hb hd rfl (hL.get hl) kk)
theorem aw_lload {i : Nat} {x : Int64} (n : Nat) (hd : decode Y.2.1 pc = .ok (.lload i, 2)) (hn : pc + 2 = n) (hl : loc[i]? = some (some (.long x))) (k : AW CK l Y d nE sE n loc (.long x :: st) μ) : AW CK l Y d nE sE pc loc st μ := by
  subst hn; exact k.pure (fun f hx hb _ _ hL kk => lv_lload hx hb hd (hL.get hl) kk)
theorem aw_aload_n {z : Fin 4} {x : Nat} (n : Nat) (hd : decode Y.2.1 pc = .ok (.aload_n z, 1)) (hn : pc + 1 = n) (hl : loc[(z : Nat)]? = some (some (.ref x))) (k : AW CK l Y d nE sE n loc (.ref x :: st) μ) : AW CK l Y d nE sE pc loc st μ := by
  subst hn; exact k.pure (fun f hx hb _ _ hL kk => lv_aload_n hx hb hd rfl (hL.get hl) kk)
theorem aw_aload {i : Nat} {x : Nat} (n : Nat) (hd : decode Y.2.1 pc = .ok (.aload i, 2)) (hn : pc + 2 = n) (hl : loc[i]? = some (some (.ref x))) (k : AW CK l Y d nE sE n loc (.ref x :: st) μ) : AW CK l Y d nE sE pc loc st μ := by
  subst hn; exact k.pure (fun f hx hb _ _ hL kk => lv_aload hx hb hd (hL.get hl) kk)
/-- a reference or null -/
theorem aw_aload_nq {z : Fin 4} {x : Option Nat} (n : Nat) (hd : decode Y.2.1 pc = .ok (.aload_n z, 1)) (hn : pc + 1 = n) (hl : loc[(z : Nat)]? = some (some (va_rf x))) (k : AW CK l Y d nE sE n loc (va_rf x :: st) μ) : AW CK l Y d nE sE pc loc st μ := by
  subst hn
  cases x with
  | some x => exact aw_aload_n _ hd rfl hl k
  | none => exact k.pure (fun f hx hb _ _ hL kk => lv_aload_nN hx hb hd rfl (hL.get hl) kk)
section
variable {x y : Int32} {xl yl : Int64}
theorem aw_iadd (n : Nat) (hd : decode Y.2.1 pc = .ok (.iadd, 1)) (hn : pc + 1 = n) (k : AW CK l Y d nE sE n loc (.int (x + y) :: st) μ) : AW CK l Y d nE sE pc loc (.int y :: .int x :: st) μ := by
  subst hn; exact k.pure (fun f hx hb _ _ _ kk => lv_iadd hx hb hd kk)
theorem aw_isub (n : Nat) (hd : decode Y.2.1 pc = .ok (.isub, 1)) (hn : pc + 1 = n) (k : AW CK l Y d nE sE n loc (.int (x - y) :: st) μ) : AW CK l Y d nE sE pc loc (.int y :: .int x :: st) μ := by
  subst hn; exact k.pure (fun f hx hb _ _ _ kk => lv_isub hx hb hd kk)
theorem aw_imul (n : Nat) (hd : decode Y.2.1 pc = .ok (.imul, 1)) (hn : pc + 1 = n) (k : AW CK l Y d nE sE n loc (.int (x * y) :: st) μ) : AW CK l Y d nE sE pc loc (.int y :: .int x :: st) μ := by
  subst hn; exact k.pure (fun f hx hb _ _ _ kk => lv_imul hx hb hd kk)
theorem aw_iand (n : Nat) (hd : decode Y.2.1 pc = .ok (.iand, 1)) (hn : pc + 1 = n) (k : AW CK l Y d nE sE n loc (.int (x &&& y) :: st) μ) : AW CK l Y d nE sE pc loc (.int y :: .int x :: st) μ := by
  subst hn; exact k.pure (fun f hx hb _ _ _ kk => lv_iand hx hb hd kk)
theorem aw_ior (n : Nat) (hd : decode Y.2.1 pc = .ok (.ior, 1)) (hn : pc + 1 = n) (k : AW CK l Y d nE sE n loc (.int (x ||| y) :: st) μ) : AW CK l Y d nE sE pc loc (.int y :: .int x :: st) μ := by
  subst hn; exact k.pure (fun f hx hb _ _ _ kk => lv_ior hx hb hd kk)
theorem aw_ixor (n : Nat) (hd : decode Y.2.1 pc = .ok (.ixor, 1)) (hn : pc + 1 = n) (k : AW CK l Y d nE sE n loc (.int (x ^^^ y) :: st) μ) : AW CK l Y d nE sE pc loc (.int y :: .int x :: st) μ := by
  subst hn; exact k.pure (fun f hx hb _ _ _ kk => lv_ixor hx hb hd kk)
theorem aw_idiv (n : Nat) (hd : decode Y.2.1 pc = .ok (.idiv, 1)) (hn : pc + 1 = n) (hz : ¬ y = 0) (k : AW CK l Y d nE sE n loc (.int (x / y) :: st) μ) : AW CK l Y d nE sE pc loc (.int y :: .int x :: st) μ := by
  subst hn; exact k.pure (fun f hx hb _ _ _ kk => lv_idiv hx hb hd hz kk)
theorem aw_irem (n : Nat) (hd : decode Y.2.1 pc = .ok (.irem, 1)) (hn : pc + 1 = n) (hz : ¬ y = 0) (k : AW CK l Y d nE sE n loc (.int (irem x y) :: st) μ) : AW CK l Y d nE sE pc loc (.int y :: .int x :: st) μ := by
  subst hn; exact k.pure (fun f hx hb _ _ _ kk => lv_irem hx hb hd hz kk)
theorem aw_ineg (n : Nat) (hd : decode Y.2.1 pc = .ok (.ineg, 1)) (hn : pc + 1 = n) (k : AW CK l Y d nE sE n loc (.int (-x) :: st) μ) : AW CK l Y d nE sE pc loc (.int x :: st) μ := by
  subst hn; exact k.pure (fun f hx hb _ _ _ kk => lv_ineg hx hb hd kk)
theorem aw_ishl (n : Nat) (hd : decode Y.2.1 pc = .ok (.ishl, 1)) (hn : pc + 1 = n) (k : AW CK l Y d nE sE n loc (.int (ishl x y) :: st) μ) : AW CK l Y d nE sE pc loc (.int y :: .int x :: st) μ := by
  subst hn; exact k.pure (fun f hx hb _ _ _ kk => lv_ishl hx hb hd kk)
theorem aw_ishr (n : Nat) (hd : decode Y.2.1 pc = .ok (.ishr, 1)) (hn : pc + 1 = n) (k : AW CK l Y d nE sE n loc (.int (ishr x y) :: st) μ) : AW CK l Y d nE sE pc loc (.int y :: .int x :: st) μ := by
  subst hn; exact k.pure (fun f hx hb _ _ _ kk => lv_ishr hx hb hd kk)
theorem aw_iushr (n : Nat) (hd : decode Y.2.1 pc = .ok (.iushr, 1)) (hn : pc + 1 = n) (k : AW CK l Y d nE sE n loc (.int (iushr x y) :: st) μ) : AW CK l Y d nE sE pc loc (.int y :: .int x :: st) μ := by
  subst hn; exact k.pure (fun f hx hb _ _ _ kk => lv_iushr hx hb hd rfl kk)
theorem aw_i2l (n : Nat) (hd : decode Y.2.1 pc = .ok (.i2l, 1)) (hn : pc + 1 = n) (k : AW CK l Y d nE sE n loc (.long x.toInt64 :: st) μ) : AW CK l Y d nE sE pc loc (.int x :: st) μ := by
  subst hn; exact k.pure (fun f hx hb _ _ _ kk => lv_i2l hx hb hd rfl kk)
theorem aw_l2i (n : Nat) (hd : decode Y.2.1 pc = .ok (.l2i, 1)) (hn : pc + 1 = n) (k : AW CK l Y d nE sE n loc (.int xl.toInt32 :: st) μ) : AW CK l Y d nE sE pc loc (.long xl :: st) μ := by
  subst hn; exact k.pure (fun f hx hb _ _ _ kk => lv_l2i hx hb hd rfl kk)
theorem aw_i2b (n : Nat) (hd : decode Y.2.1 pc = .ok (.i2b, 1)) (hn : pc + 1 = n) (k : AW CK l Y d nE sE n loc (.int x.toInt8.toInt32 :: st) μ) : AW CK l Y d nE sE pc loc (.int x :: st) μ := by
  subst hn; exact k.pure (fun f hx hb _ _ _ kk => lv_i2b hx hb hd rfl kk)
theorem aw_i2c (n : Nat) (hd : decode Y.2.1 pc = .ok (.i2c, 1)) (hn : pc + 1 = n) (k : AW CK l Y d nE sE n loc (.int (i2c x) :: st) μ) : AW CK l Y d nE sE pc loc (.int x :: st) μ := by
  subst hn; exact k.pure (fun f hx hb _ _ _ kk => lv_i2c hx hb hd rfl kk)
theorem aw_ladd (n : Nat) (hd : decode Y.2.1 pc = .ok (.ladd, 1)) (hn : pc + 1 = n) (k : AW CK l Y d nE sE n loc (.long (xl + yl) :: st) μ) : AW CK l Y d nE sE pc loc (.long yl :: .long xl :: st) μ := by
  subst hn; exact k.pure (fun f hx hb _ _ _ kk => lv_ladd hx hb hd kk)
theorem aw_lsub (n : Nat) (hd : decode Y.2.1 pc = .ok (.lsub, 1)) (hn : pc + 1 = n) (k : AW CK l Y d nE sE n loc (.long (xl - yl) :: st) μ) : AW CK l Y d nE sE pc loc (.long yl :: .long xl :: st) μ := by
  subst hn; exact k.pure (fun f hx hb _ _ _ kk => lv_lsub hx hb hd kk)
theorem aw_lmul (n : Nat) (hd : decode Y.2.1 pc = .ok (.lmul, 1)) (hn : pc + 1 = n) (k : AW CK l Y d nE sE n loc (.long (xl * yl) :: st) μ) : AW CK l Y d nE sE pc loc (.long yl :: .long xl :: st) μ := by
  subst hn; exact k.pure (fun f hx hb _ _ _ kk => lv_lmul hx hb hd kk)
theorem aw_lxor (n : Nat) (hd : decode Y.2.1 pc = .ok (.lxor, 1)) (hn : pc + 1 = n) (k : AW CK l Y d nE sE n loc (.long (xl ^^^ yl) :: st) μ) : AW CK l Y d nE sE pc loc (.long yl :: .long xl :: st) μ := by
  subst hn; exact k.pure (fun f hx hb _ _ _ kk => lv_lxor hx hb hd kk)
theorem aw_ldiv (n : Nat) (hd : decode Y.2.1 pc = .ok (.ldiv, 1)) (hn : pc + 1 = n) (hz : ¬ yl = 0) (k : AW CK l Y d nE sE n loc (.long (xl / yl) :: st) μ) : AW CK l Y d nE sE pc loc (.long yl :: .long xl :: st) μ := by
  subst hn; exact k.pure (fun f hx hb _ _ _ kk => lv_ldiv hx hb hd hz kk)
theorem aw_lneg (n : Nat) (hd : decode Y.2.1 pc = .ok (.lneg, 1)) (hn : pc + 1 = n) (k : AW CK l Y d nE sE n loc (.long (-xl) :: st) μ) : AW CK l Y d nE sE pc loc (.long xl :: st) μ := by
  subst hn; exact k.pure (fun f hx hb _ _ _ kk => lv_lneg hx hb hd kk)
theorem aw_lcmp (n : Nat) (hd : decode Y.2.1 pc = .ok (.lcmp, 1)) (hn : pc + 1 = n) (k : AW CK l Y d nE sE n loc (.int (lg_cmp xl yl) :: st) μ) : AW CK l Y d nE sE pc loc (.long yl :: .long xl :: st) μ := by
  subst hn; exact k.pure (fun f hx hb _ _ _ kk => W.lcmp hx hb hd kk)
theorem aw_dup {v : Value} (n : Nat) (hd : decode Y.2.1 pc = .ok (.dup, 1)) (hn : pc + 1 = n) (hv : v.category = 1) (k : AW CK l Y d nE sE n loc (v :: v :: st) μ) : AW CK l Y d nE sE pc loc (v :: st) μ := by
  subst hn; exact k.pure (fun f hx hb _ _ _ kk => lv_dup hx hb hd (by rw [cv_cat]; exact hv) kk)
theorem aw_dup2 {v w : Value} (n : Nat) (hd : decode Y.2.1 pc = .ok (.dup2, 1)) (hn : pc + 1 = n) (hv : v.category = 1) (hw : w.category = 1) (k : AW CK l Y d nE sE n loc (v :: w :: v :: w :: st) μ) : AW CK l Y d nE sE pc loc (v :: w :: st) μ := by
  subst hn; exact k.pure (fun f hx hb _ _ _ kk => lv_dup2_11 hx hb hd (by rw [cv_cat]; exact hv) (by rw [cv_cat]; exact hw) kk)
theorem aw_pop {v : Value} (n : Nat) (hd : decode Y.2.1 pc = .ok (.pop, 1)) (hn : pc + 1 = n) (hv : v.category = 1) (k : AW CK l Y d nE sE n loc st μ) : AW CK l Y d nE sE pc loc (v :: st) μ := by
  subst hn; exact k.pure (fun f hx hb _ _ _ kk => lv_pop hx hb hd (by rw [cv_cat]; exact hv) kk)
theorem aw_goto {off : Int} (t : Nat) (hd : decode Y.2.1 pc = .ok (.goto off, 3)) (ht : (pc : Int) + off = (t : Int)) (k : AW CK l Y d nE sE t loc st μ) : AW CK l Y d nE sE pc loc st μ :=
  k.pure (fun f hx hb _ _ _ kk => lv_goto hx hb hd ht kk)
theorem aw_if_eq {off : Int} (t n : Nat) (hd : decode Y.2.1 pc = .ok (.ifCond .eq off, 3)) (ht : (pc : Int) + off = (t : Int)) (hn : pc + 3 = n) (k1 : x = 0 → AW CK l Y d nE sE t loc st μ) (k2 : ¬ x = 0 → AW CK l Y d nE sE n loc st μ) : AW CK l Y d nE sE pc loc (.int x :: st) μ := by
  subst hn; exact AW.pure2 k1 k2 (fun f hx hb a b => lv_if_eq hx hb hd ht a b)
theorem aw_if_ne {off : Int} (t n : Nat) (hd : decode Y.2.1 pc = .ok (.ifCond .ne off, 3)) (ht : (pc : Int) + off = (t : Int)) (hn : pc + 3 = n) (k1 : ¬ x = 0 → AW CK l Y d nE sE t loc st μ) (k2 : x = 0 → AW CK l Y d nE sE n loc st μ) : AW CK l Y d nE sE pc loc (.int x :: st) μ := by
  subst hn; exact AW.pure2 k2 k1 (fun f hx hb a b => lv_if_ne hx hb hd ht b a)
theorem aw_if_lt {off : Int} (t n : Nat) (hd : decode Y.2.1 pc = .ok (.ifCond .lt off, 3)) (ht : (pc : Int) + off = (t : Int)) (hn : pc + 3 = n) (k1 : x < 0 → AW CK l Y d nE sE t loc st μ) (k2 : ¬ x < 0 → AW CK l Y d nE sE n loc st μ) : AW CK l Y d nE sE pc loc (.int x :: st) μ := by
  subst hn; exact AW.pure2 k1 k2 (fun f hx hb a b => lv_if_lt hx hb hd ht a b)
theorem aw_if_ge {off : Int} (t n : Nat) (hd : decode Y.2.1 pc = .ok (.ifCond .ge off, 3)) (ht : (pc : Int) + off = (t : Int)) (hn : pc + 3 = n) (k1 : 0 ≤ x → AW CK l Y d nE sE t loc st μ) (k2 : ¬ 0 ≤ x → AW CK l Y d nE sE n loc st μ) : AW CK l Y d nE sE pc loc (.int x :: st) μ := by
  subst hn; exact AW.pure2 k1 k2 (fun f hx hb a b => lv_if_ge hx hb hd ht a b)
theorem aw_if_gt {off : Int} (t n : Nat) (hd : decode Y.2.1 pc = .ok (.ifCond .gt off, 3)) (ht : (pc : Int) + off = (t : Int)) (hn : pc + 3 = n) (k1 : 0 < x → AW CK l Y d nE sE t loc st μ) (k2 : ¬ 0 < x → AW CK l Y d nE sE n loc st μ) : AW CK l Y d nE sE pc loc (.int x :: st) μ := by
  subst hn; exact AW.pure2 k1 k2 (fun f hx hb a b => lv_if_gt hx hb hd ht a b)
theorem aw_if_le {off : Int} (t n : Nat) (hd : decode Y.2.1 pc = .ok (.ifCond .le off, 3)) (ht : (pc : Int) + off = (t : Int)) (hn : pc + 3 = n) (k1 : x ≤ 0 → AW CK l Y d nE sE t loc st μ) (k2 : ¬ x ≤ 0 → AW CK l Y d nE sE n loc st μ) : AW CK l Y d nE sE pc loc (.int x :: st) μ := by
  subst hn; exact AW.pure2 k1 k2 (fun f hx hb a b => lv_if_le hx hb hd ht a b)
theorem aw_icmp_eq {off : Int} (t n : Nat) (hd : decode Y.2.1 pc = .ok (.if_icmp .eq off, 3)) (ht : (pc : Int) + off = (t : Int)) (hn : pc + 3 = n) (k1 : x = y → AW CK l Y d nE sE t loc st μ) (k2 : ¬ x = y → AW CK l Y d nE sE n loc st μ) : AW CK l Y d nE sE pc loc (.int y :: .int x :: st) μ := by
  subst hn; exact AW.pure2 k1 k2 (fun f hx hb a b => lv_icmp_eq hx hb hd ht a b)
theorem aw_icmp_ne {off : Int} (t n : Nat) (hd : decode Y.2.1 pc = .ok (.if_icmp .ne off, 3)) (ht : (pc : Int) + off = (t : Int)) (hn : pc + 3 = n) (k1 : ¬ x = y → AW CK l Y d nE sE t loc st μ) (k2 : x = y → AW CK l Y d nE sE n loc st μ) : AW CK l Y d nE sE pc loc (.int y :: .int x :: st) μ := by
  subst hn; exact AW.pure2 k2 k1 (fun f hx hb a b => lv_icmp_ne hx hb hd ht b a)
theorem aw_icmp_lt {off : Int} (t n : Nat) (hd : decode Y.2.1 pc = .ok (.if_icmp .lt off, 3)) (ht : (pc : Int) + off = (t : Int)) (hn : pc + 3 = n) (k1 : x < y → AW CK l Y d nE sE t loc st μ) (k2 : ¬ x < y → AW CK l Y d nE sE n loc st μ) : AW CK l Y d nE sE pc loc (.int y :: .int x :: st) μ := by
  subst hn; exact AW.pure2 k1 k2 (fun f hx hb a b => lv_icmp_lt hx hb hd ht a b)
theorem aw_icmp_ge {off : Int} (t n : Nat) (hd : decode Y.2.1 pc = .ok (.if_icmp .ge off, 3)) (ht : (pc : Int) + off = (t : Int)) (hn : pc + 3 = n) (k1 : y ≤ x → AW CK l Y d nE sE t loc st μ) (k2 : ¬ y ≤ x → AW CK l Y d nE sE n loc st μ) : AW CK l Y d nE sE pc loc (.int y :: .int x :: st) μ := by
  subst hn; exact AW.pure2 k1 k2 (fun f hx hb a b => lv_icmp_ge hx hb hd ht a b)
theorem aw_icmp_gt {off : Int} (t n : Nat) (hd : decode Y.2.1 pc = .ok (.if_icmp .gt off, 3)) (ht : (pc : Int) + off = (t : Int)) (hn : pc + 3 = n) (k1 : y < x → AW CK l Y d nE sE t loc st μ) (k2 : ¬ y < x → AW CK l Y d nE sE n loc st μ) : AW CK l Y d nE sE pc loc (.int y :: .int x :: st) μ := by
  subst hn; exact AW.pure2 k1 k2 (fun f hx hb a b => lv_icmp_gt hx hb hd ht a b)
theorem aw_icmp_le {off : Int} (t n : Nat) (hd : decode Y.2.1 pc = .ok (.if_icmp .le off, 3)) (ht : (pc : Int) + off = (t : Int)) (hn : pc + 3 = n) (k1 : x ≤ y → AW CK l Y d nE sE t loc st μ) (k2 : ¬ x ≤ y → AW CK l Y d nE sE n loc st μ) : AW CK l Y d nE sE pc loc (.int y :: .int x :: st) μ := by
  subst hn; exact AW.pure2 k1 k2 (fun f hx hb a b => lv_icmp_le hx hb hd ht a b)
theorem aw_ifnull {x : Option Nat} {off : Int} (t n : Nat) (hd : decode Y.2.1 pc = .ok (.ifnull off, 3)) (ht : (pc : Int) + off = (t : Int)) (hn : pc + 3 = n) (k1 : x = none → AW CK l Y d nE sE t loc st μ) (k2 : ∀ a, x = some a → AW CK l Y d nE sE n loc st μ) : AW CK l Y d nE sE pc loc (va_rf x :: st) μ := by
  subst hn
  cases x with
  | none => exact (k1 rfl).pure (fun f hx hb _ _ _ kk => lv_ifnullN hx hb hd ht kk)
  | some a => exact (k2 a rfl).pure (fun f hx hb _ _ _ kk => lv_ifnull hx hb hd kk)
theorem aw_ifnonnull {x : Option Nat} {off : Int} (t n : Nat) (hd : decode Y.2.1 pc = .ok (.ifnonnull off, 3)) (ht : (pc : Int) + off = (t : Int)) (hn : pc + 3 = n) (k1 : ∀ a, x = some a → AW CK l Y d nE sE t loc st μ) (k2 : x = none → AW CK l Y d nE sE n loc st μ) : AW CK l Y d nE sE pc loc (va_rf x :: st) μ := by
  subst hn
  cases x with
  | none => exact (k2 rfl).pure (fun f hx hb _ _ _ kk => lv_ifnonnullN hx hb hd kk)
  | some a => exact (k1 a rfl).pure (fun f hx hb _ _ _ kk => lv_ifnonnull hx hb hd ht kk)
theorem aw_tableIn {dflt lo hi : Int} {offs : Array Int} {len : Nat} {off : Int} (t : Nat) (hd : decode Y.2.1 pc = .ok (.tableswitch dflt lo hi offs, len)) (h1 : ¬ x.toInt < lo) (h2 : ¬ hi < x.toInt) (ho : offs[(x.toInt - lo).toNat]? = some off) (ht : (pc : Int) + off = (t : Int)) (k : AW CK l Y d nE sE t loc st μ) : AW CK l Y d nE sE pc loc (.int x :: st) μ :=
  k.pure (fun f hx hb _ _ _ kk => lv_tableIn hx hb hd h1 h2 ho ht kk)
theorem aw_tableOut {dflt lo hi : Int} {offs : Array Int} {len : Nat} (t : Nat) (hd : decode Y.2.1 pc = .ok (.tableswitch dflt lo hi offs, len)) (h : x.toInt < lo ∨ hi < x.toInt) (ht : (pc : Int) + dflt = (t : Int)) (k : AW CK l Y d nE sE t loc st μ) : AW CK l Y d nE sE pc loc (.int x :: st) μ :=
  k.pure (fun f hx hb _ _ _ kk => lv_tableOut hx hb hd h ht kk)
theorem aw_lookup {dflt : Int} {ps : Array (Int × Int)} {len : Nat} {off : Int} (t : Nat) (hd : decode Y.2.1 pc = .ok (.lookupswitch dflt ps, len)) (hp : (ps.toList.zip (ps.toList.drop 1)).all (fun (a, next) => a.1 < next.1) = true) (ho : Op.lookupswitch.offset ps.toList dflt x.toInt = off) (ht : (pc : Int) + off = (t : Int)) (k : AW CK l Y d nE sE t loc st μ) : AW CK l Y d nE sE pc loc (.int x :: st) μ :=
  k.pure (fun f hx hb _ _ _ kk => lv_lookup hx hb hd hp ho ht kk)
end
/-- an instruction that sets a local -/
theorem AW.stl {pc' : Nat} {st' : List Value} (k : AW CK l Y d nE sE pc' loc' st' μ)
    (h : ∀ {p : Program} {e : Env} {R : Room} {s : State} {m : MethodId} {args : Array Value} {below : List Frame} {meth : Method} {c : Code} {H : Heap} {locs : List Loc} {cells slots : Nat} {Q : State → Prop} {ls : Array Slot} (f : Nat → Nat), p.tables.exec = Jvm.exec → c.code = Y.2.1 → LH f loc ls Y.2.2.1 →
      (∀ ls' : Array Slot, LH f loc' ls' Y.2.2.1 → W p l e R s m args below meth c H locs cells slots Q (F0 m pc' ls' (st'.map (cv f)))) → W p l e R s m args below meth c H locs cells slots Q (F0 m pc ls (st.map (cv f)))) : AW CK l Y d nE sE pc loc st μ := by
  refine ⟨k.1, k.2.1, fun p e R s m args below meth c B D tc sa n0 s0 Q hC hF H locs ls cells slots hP hS hL hc hs => ?_⟩
  exact h (adr B sa) hF.1 hF.2.1 hL (fun ls' hL' => k.2.2 p e R s m args below meth c B D tc sa n0 s0 Q hC hF H locs ls' cells slots hP hS hL' hc hs)
theorem aw_istore_n {z : Fin 4} {x : Int32} (n : Nat) (hd : decode Y.2.1 pc = .ok (.istore_n z, 1)) (hn : pc + 1 = n) (hi : (z : Nat) < Y.2.2.1) (hl : st1 loc z (.int x) = loc') (k : AW CK l Y d nE sE n loc' st μ) : AW CK l Y d nE sE pc loc (.int x :: st) μ := by
  subst hn; subst hl; exact k.stl (fun f hx hb hL kk => lv_istore_n hx hb hd rfl hL hi rfl (fun ls' h' => kk ls' (LH.st1 h')))
theorem aw_istore {i : Nat} {x : Int32} (n : Nat) (hd : decode Y.2.1 pc = .ok (.istore i, 2)) (hn : pc + 2 = n) (hi : i < Y.2.2.1) (hl : st1 loc i (.int x) = loc') (k : AW CK l Y d nE sE n loc' st μ) : AW CK l Y d nE sE pc loc (.int x :: st) μ := by
  subst hn; subst hl; exact k.stl (fun f hx hb hL kk => lv_istore hx hb hd hL hi rfl (fun ls' h' => kk ls' (LH.st1 h')))
theorem aw_lstore_n {z : Fin 4} {x : Int64} (n : Nat) (hd : decode Y.2.1 pc = .ok (.lstore_n z, 1)) (hn : pc + 1 = n) (hi : (z : Nat) + 1 < Y.2.2.1) (hl : st2 loc z (.long x) = loc') (k : AW CK l Y d nE sE n loc' st μ) : AW CK l Y d nE sE pc loc (.long x :: st) μ := by
  subst hn; subst hl; exact k.stl (fun f hx hb hL kk => lv_lstore_n hx hb hd rfl hL hi rfl (fun ls' h' => kk ls' (LH.st2 h')))
theorem aw_lstore {i : Nat} {x : Int64} (n : Nat) (hd : decode Y.2.1 pc = .ok (.lstore i, 2)) (hn : pc + 2 = n) (hi : i + 1 < Y.2.2.1) (hl : st2 loc i (.long x) = loc') (k : AW CK l Y d nE sE n loc' st μ) : AW CK l Y d nE sE pc loc (.long x :: st) μ := by
  subst hn; subst hl; exact k.stl (fun f hx hb hL kk => lv_lstore hx hb hd hL hi rfl (fun ls' h' => kk ls' (LH.st2 h')))
theorem aw_astore_n {z : Fin 4} {x : Nat} (n : Nat) (hd : decode Y.2.1 pc = .ok (.astore_n z, 1)) (hn : pc + 1 = n) (hi : (z : Nat) < Y.2.2.1) (hl : st1 loc z (.ref x) = loc') (k : AW CK l Y d nE sE n loc' st μ) : AW CK l Y d nE sE pc loc (.ref x :: st) μ := by
  subst hn; subst hl; exact k.stl (fun f hx hb hL kk => lv_astore_n hx hb hd rfl hL hi rfl (fun ls' h' => kk ls' (LH.st1 h')))
theorem aw_astore_nq {z : Fin 4} {x : Option Nat} (n : Nat) (hd : decode Y.2.1 pc = .ok (.astore_n z, 1)) (hn : pc + 1 = n) (hi : (z : Nat) < Y.2.2.1) (hl : st1 loc z (va_rf x) = loc') (k : AW CK l Y d nE sE n loc' st μ) : AW CK l Y d nE sE pc loc (va_rf x :: st) μ := by
  cases x with
  | some x => exact aw_astore_n n hd hn hi hl k
  | none => subst hn; subst hl; exact k.stl (fun f hx hb hL kk => lv_astore_nN hx hb hd rfl hL hi rfl (fun ls' h' => kk ls' (LH.st1 h')))
theorem aw_iinc {i : Nat} {z : Int} {x v : Int32} (n : Nat) (hd : decode Y.2.1 pc = .ok (.iinc i z, 3)) (hn : pc + 3 = n) (hi : i < Y.2.2.1) (hg : loc[i]? = some (some (.int x))) (hv : x + Int32.ofInt z = v) (hl : st1 loc i (.int v) = loc') (k : AW CK l Y d nE sE n loc' st μ) : AW CK l Y d nE sE pc loc st μ := by
  subst hn; subst hl
  refine k.stl (fun f hx hb hL kk => ?_)
  obtain ⟨j, hj⟩ := List.getElem?_of_mem (lz_mem (f := f).mpr ⟨_, hg, rfl⟩)
  exact lv_iinc hx hb hd hL hj hv hi rfl (fun ls' h' => kk ls' (LH.st1 h'))
theorem aw_iincW {i : Nat} {z : Int} {x v : Int32} (n : Nat) (hd : decode Y.2.1 pc = .ok (.iinc i z, 6)) (hn : pc + 6 = n) (hi : i < Y.2.2.1) (hg : loc[i]? = some (some (.int x))) (hv : x + Int32.ofInt z = v) (hl : st1 loc i (.int v) = loc') (k : AW CK l Y d nE sE n loc' st μ) : AW CK l Y d nE sE pc loc st μ := by
  subst hn; subst hl
  refine k.stl (fun f hx hb hL kk => ?_)
  obtain ⟨j, hj⟩ := List.getElem?_of_mem (lz_mem (f := f).mpr ⟨_, hg, rfl⟩)
  exact lv_iincW hx hb hd hL hj hv hi rfl (fun ls' h' => kk ls' (LH.st1 h'))
/-- fewer known locals -/
def wkL : List Bool → List (Option Value) → List (Option Value)
  | b :: bs, o :: os => (if b then o else none) :: wkL bs os
  | _, _ => []
theorem wkL_spec : ∀ (m : List Bool) (loc : List (Option Value)) (i : Nat) (v : Value), (wkL m loc)[i]? = some (some v) → loc[i]? = some (some v)
  | b :: bs, o :: os, 0, v, h => by
    simp only [wkL, List.getElem?_cons_zero] at h ⊢
    cases b <;> simp_all
  | b :: bs, o :: os, i + 1, v, h => by
    simp only [wkL, List.getElem?_cons_succ] at h ⊢
    exact wkL_spec bs os i v h
  | [], os, i, v, h => by cases os <;> simp [wkL] at h
  | b :: bs, [], i, v, h => by simp [wkL] at h
theorem AW.wk (m : List Bool) (hm : wkL m loc = loc') (k : AW CK l Y d nE sE pc loc' st μ) : AW CK l Y d nE sE pc loc st μ := by
  subst hm
  refine ⟨k.1, k.2.1, fun p e R s m args below meth c B D tc sa n0 s0 Q hC hF H locs ls cells slots hP hS hL hc hs => k.2.2 p e R s m args below meth c B D tc sa n0 s0 Q hC hF H locs ls cells slots hP hS ⟨hL.1, hL.2.1, fun q hq => hL.2.2 q ?_⟩ hc hs⟩
  obtain ⟨j, w⟩ := q
  obtain ⟨u, hu, rfl⟩ := lz_mem.mp hq
  exact lz_mem.mpr ⟨u, wkL_spec _ _ _ _ hu, rfl⟩
end AWR
