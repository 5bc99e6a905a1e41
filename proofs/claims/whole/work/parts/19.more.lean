def rb (x : Int32) : Option Int32 := if x.toInt8.toInt32 = x then some x else none
theorem rb_some {x y : Int32} (h : rb x = some y) : y = x ∧ narrow .byte (.int x) = .int x := by
  unfold rb at h; split at h
  · rename_i hx
    exact ⟨(Option.some.inj h).symm, congrArg Value.int hx⟩
  · cases h
