/-! PRINTED by wip/gen/gen1.py: names and links -/
theorem pn_X : plainName "SinkingChoir" = true := by decide +kernel
theorem pn_M : plainName "SinkingChoirModel" = true := by decide +kernel
theorem pn_Ch : plainName "SinkingChoir$Choir" = true := by decide +kernel
theorem pn_Fi : plainName "SinkingChoir$Fitting" = true := by decide +kernel
theorem pn_Fr : plainName "SinkingChoir$Fraction" = true := by decide +kernel
theorem pn_Le : plainName "SinkingChoir$Leading" = true := by decide +kernel
theorem pn_Pr : plainName "SinkingChoir$Program" = true := by decide +kernel
theorem pn_Re : plainName "SinkingChoir$Reader" = true := by decide +kernel
theorem pn_Rl : plainName "SinkingChoir$Reel" = true := by decide +kernel
theorem pn_Sc : plainName "SinkingChoir$Score" = true := by decide +kernel
theorem pn_Si : plainName "SinkingChoir$Singing" = true := by decide +kernel
theorem pn_St : plainName "SinkingChoir$Standing" = true := by decide +kernel
theorem pn_Wa : plainName "SinkingChoir$Ways" = true := by decide +kernel
theorem pn_Mt : plainName "java/lang/Math" = true := by decide +kernel
theorem pn_In : plainName "java/lang/Integer" = true := by decide +kernel
theorem pn_Ar : plainName "java/util/Arrays" = true := by decide +kernel
theorem pn_Str : plainName "java/lang/String" = true := by decide +kernel
theorem pn_SL : plainName "java/lang/StringLatin1" = true := by decide +kernel
theorem ac_int : Cond.arrayClass .int ∈ tb := mem_tb 180 (by decide +kernel) rfl
theorem ac_byte : Cond.arrayClass .byte ∈ tb := mem_tb 344 (by decide +kernel) rfl
theorem ac_boolean : Cond.arrayClass .boolean ∈ tb := mem_tb 345 (by decide +kernel) rfl
theorem ac_long : Cond.arrayClass .long ∈ tb := mem_tb 343 (by decide +kernel) rfl
def Y_Ar_fill_AI : YT := (⟨"java/util/Arrays", "fill", "([II)V"⟩, prog_22_method_103_code, 4, none)
theorem cw_Ar_fill_AI : Cond.code Y_Ar_fill_AI.1 Y_Ar_fill_AI.2.1 Y_Ar_fill_AI.2.2.1 Y_Ar_fill_AI.2.2.2 ∈ tb := mem_tb 148 (by decide +kernel) rfl
def Y_Sc_init : YT := (⟨"SinkingChoir$Score", "<init>", "()V"⟩, prog_9_method_1_code, 1, none)
theorem cw_Sc_init : Cond.code Y_Sc_init.1 Y_Sc_init.2.1 Y_Sc_init.2.2.1 Y_Sc_init.2.2.2 ∈ tb := mem_tb 144 (by decide +kernel) rfl
def Y_Pr_init : YT := (⟨"SinkingChoir$Program", "<init>", "()V"⟩, prog_6_method_1_code, 1, none)
theorem cw_Pr_init : Cond.code Y_Pr_init.1 Y_Pr_init.2.1 Y_Pr_init.2.2.1 Y_Pr_init.2.2.2 ∈ tb := mem_tb 191 (by decide +kernel) rfl
def Y_Ch_init : YT := (⟨"SinkingChoir$Choir", "<init>", "(LSinkingChoir$Score;)V"⟩, prog_2_method_1_code, 2, none)
theorem cw_Ch_init : Cond.code Y_Ch_init.1 Y_Ch_init.2.1 Y_Ch_init.2.2.1 Y_Ch_init.2.2.2 ∈ tb := mem_tb 185 (by decide +kernel) rfl
def Y_Str_coder : YT := (⟨"java/lang/String", "coder", "()B"⟩, prog_18_method_152_code, 1, some .byte)
theorem cw_Str_coder : Cond.code Y_Str_coder.1 Y_Str_coder.2.1 Y_Str_coder.2.2.1 Y_Str_coder.2.2.2 ∈ tb := mem_tb 294 (by decide +kernel) rfl
def Y_Str_length : YT := (⟨"java/lang/String", "length", "()I"⟩, prog_18_method_54_code, 1, some .int)
theorem cw_Str_length : Cond.code Y_Str_length.1 Y_Str_length.2.1 Y_Str_length.2.2.1 Y_Str_length.2.2.2 ∈ tb := mem_tb 290 (by decide +kernel) rfl
def Y_Si_init : YT := (⟨"SinkingChoir$Singing", "<init>", "(LSinkingChoir$Score;LSinkingChoir$Choir;)V"⟩, prog_10_method_1_code, 3, none)
theorem cw_Si_init : Cond.code Y_Si_init.1 Y_Si_init.2.1 Y_Si_init.2.2.1 Y_Si_init.2.2.2 ∈ tb := mem_tb 284 (by decide +kernel) rfl
def Y_St_init : YT := (⟨"SinkingChoir$Standing", "<init>", "(LSinkingChoir$Choir;LSinkingChoir$Singing;)V"⟩, prog_11_method_1_code, 3, none)
theorem cw_St_init : Cond.code Y_St_init.1 Y_St_init.2.1 Y_St_init.2.2.1 Y_St_init.2.2.2 ∈ tb := mem_tb 350 (by decide +kernel) rfl
def Y_Le_init : YT := (⟨"SinkingChoir$Leading", "<init>", "(LSinkingChoir$Choir;LSinkingChoir$Singing;)V"⟩, prog_5_method_1_code, 3, none)
theorem cw_Le_init : Cond.code Y_Le_init.1 Y_Le_init.2.1 Y_Le_init.2.2.1 Y_Le_init.2.2.2 ∈ tb := mem_tb 381 (by decide +kernel) rfl
def Y_Fi_init : YT := (⟨"SinkingChoir$Fitting", "<init>", "(LSinkingChoir$Score;LSinkingChoir$Choir;LSinkingChoir$Singing;)V"⟩, prog_3_method_1_code, 4, none)
theorem cw_Fi_init : Cond.code Y_Fi_init.1 Y_Fi_init.2.1 Y_Fi_init.2.2.1 Y_Fi_init.2.2.2 ∈ tb := mem_tb 405 (by decide +kernel) rfl
def Y_Rl_init : YT := (⟨"SinkingChoir$Reel", "<init>", "()V"⟩, prog_8_method_1_code, 1, none)
theorem cw_Rl_init : Cond.code Y_Rl_init.1 Y_Rl_init.2.1 Y_Rl_init.2.2.1 Y_Rl_init.2.2.2 ∈ tb := mem_tb 427 (by decide +kernel) rfl
def Y_Re_init : YT := (⟨"SinkingChoir$Reader", "<init>", "()V"⟩, prog_7_method_1_code, 1, none)
theorem cw_Re_init : Cond.code Y_Re_init.1 Y_Re_init.2.1 Y_Re_init.2.2.1 Y_Re_init.2.2.2 ∈ tb := mem_tb 442 (by decide +kernel) rfl
def Y_X_init : YT := (⟨"SinkingChoir", "<init>", "()V"⟩, prog_1_method_1_code, 1, none)
theorem cw_X_init : Cond.code Y_X_init.1 Y_X_init.2.1 Y_X_init.2.2.1 Y_X_init.2.2.2 ∈ tb := mem_tb 136 (by decide +kernel) rfl
def Y_M_init : YT := (⟨"SinkingChoirModel", "<init>", "()V"⟩, prog_14_method_1_code, 2, none)
theorem cw_M_init : Cond.code Y_M_init.1 Y_M_init.2.1 Y_M_init.2.2.1 Y_M_init.2.2.2 ∈ tb := mem_tb 1282 (by decide +kernel) rfl
def Y_Fr_ofNumber : YT := (⟨"SinkingChoir$Fraction", "ofNumber", "(I)I"⟩, prog_4_method_5_code, 4, some .int)
theorem cw_Fr_ofNumber : Cond.code Y_Fr_ofNumber.1 Y_Fr_ofNumber.2.1 Y_Fr_ofNumber.2.2.1 Y_Fr_ofNumber.2.2.2 ∈ tb := mem_tb 502 (by decide +kernel) rfl
def Y_Fr_exponent : YT := (⟨"SinkingChoir$Fraction", "exponent", "(II)I"⟩, prog_4_method_3_code, 3, some .int)
theorem cw_Fr_exponent : Cond.code Y_Fr_exponent.1 Y_Fr_exponent.2.1 Y_Fr_exponent.2.2.1 Y_Fr_exponent.2.2.2 ∈ tb := mem_tb 511 (by decide +kernel) rfl
def Y_Fr_mills : YT := (⟨"SinkingChoir$Fraction", "mills", "(I)I"⟩, prog_4_method_4_code, 1, some .int)
theorem cw_Fr_mills : Cond.code Y_Fr_mills.1 Y_Fr_mills.2.1 Y_Fr_mills.2.2.1 Y_Fr_mills.2.2.2 ∈ tb := mem_tb 507 (by decide +kernel) rfl
def Y_Fr_of : YT := (⟨"SinkingChoir$Fraction", "of", "(II)I"⟩, prog_4_method_2_code, 6, some .int)
theorem cw_Fr_of : Cond.code Y_Fr_of.1 Y_Fr_of.2.1 Y_Fr_of.2.2.1 Y_Fr_of.2.2.2 ∈ tb := mem_tb 499 (by decide +kernel) rfl
def Y_Sc_has : YT := (⟨"SinkingChoir$Score", "has", "(II)Z"⟩, prog_9_method_2_code, 2, some .boolean)
theorem cw_Sc_has : Cond.code Y_Sc_has.1 Y_Sc_has.2.1 Y_Sc_has.2.2.1 Y_Sc_has.2.2.2 ∈ tb := mem_tb 519 (by decide +kernel) rfl
def Y_Sc_cell : YT := (⟨"SinkingChoir$Score", "cell", "(II)I"⟩, prog_9_method_3_code, 2, some .int)
theorem cw_Sc_cell : Cond.code Y_Sc_cell.1 Y_Sc_cell.2.1 Y_Sc_cell.2.2.1 Y_Sc_cell.2.2.2 ∈ tb := mem_tb 528 (by decide +kernel) rfl
def Y_Sc_sounds : YT := (⟨"SinkingChoir$Score", "sounds", "(II)Z"⟩, prog_9_method_4_code, 3, some .boolean)
theorem cw_Sc_sounds : Cond.code Y_Sc_sounds.1 Y_Sc_sounds.2.1 Y_Sc_sounds.2.2.1 Y_Sc_sounds.2.2.2 ∈ tb := mem_tb 537 (by decide +kernel) rfl
def Y_Sc_holds : YT := (⟨"SinkingChoir$Score", "holds", "(II)Z"⟩, prog_9_method_5_code, 3, some .boolean)
theorem cw_Sc_holds : Cond.code Y_Sc_holds.1 Y_Sc_holds.2.1 Y_Sc_holds.2.2.1 Y_Sc_holds.2.2.2 ∈ tb := mem_tb 533 (by decide +kernel) rfl
def Y_Sc_shift : YT := (⟨"SinkingChoir$Score", "shift", "(II)I"⟩, prog_9_method_9_code, 3, some .int)
theorem cw_Sc_shift : Cond.code Y_Sc_shift.1 Y_Sc_shift.2.1 Y_Sc_shift.2.2.1 Y_Sc_shift.2.2.2 ∈ tb := mem_tb 545 (by decide +kernel) rfl
def Y_Sc_tune : YT := (⟨"SinkingChoir$Score", "tune", "()V"⟩, prog_9_method_10_code, 2, none)
theorem cw_Sc_tune : Cond.code Y_Sc_tune.1 Y_Sc_tune.2.1 Y_Sc_tune.2.2.1 Y_Sc_tune.2.2.2 ∈ tb := mem_tb 541 (by decide +kernel) rfl
def Y_Sc_put : YT := (⟨"SinkingChoir$Score", "put", "(IIII)V"⟩, prog_9_method_7_code, 6, none)
theorem cw_Sc_put : Cond.code Y_Sc_put.1 Y_Sc_put.2.1 Y_Sc_put.2.2.1 Y_Sc_put.2.2.2 ∈ tb := mem_tb 524 (by decide +kernel) rfl
def Y_X_changed : YT := (⟨"SinkingChoir", "changed", "()Z"⟩, prog_1_method_34_code, 1, some .boolean)
theorem cw_X_changed : Cond.code Y_X_changed.1 Y_X_changed.2.1 Y_X_changed.2.2.1 Y_X_changed.2.2.2 ∈ tb := mem_tb 549 (by decide +kernel) rfl
def Y_X_note : YT := (⟨"SinkingChoir", "note", "(IIIII)Z"⟩, prog_1_method_2_code, 7, some .boolean)
theorem cw_X_note : Cond.code Y_X_note.1 Y_X_note.2.1 Y_X_note.2.2.1 Y_X_note.2.2.2 ∈ tb := mem_tb 496 (by decide +kernel) rfl
def Y_M_lies : YT := (⟨"SinkingChoirModel", "lies", "(JJJ)Z"⟩, prog_14_method_2_code, 6, some .boolean)
theorem cw_M_lies : Cond.code Y_M_lies.1 Y_M_lies.2.1 Y_M_lies.2.2.1 Y_M_lies.2.2.2 ∈ tb := mem_tb 1508 (by decide +kernel) rfl
def Y_M_isVoice : YT := (⟨"SinkingChoirModel", "isVoice", "(I)Z"⟩, prog_14_method_7_code, 1, some .boolean)
theorem cw_M_isVoice : Cond.code Y_M_isVoice.1 Y_M_isVoice.2.1 Y_M_isVoice.2.2.1 Y_M_isVoice.2.2.2 ∈ tb := mem_tb 1533 (by decide +kernel) rfl
def Y_M_isBeat : YT := (⟨"SinkingChoirModel", "isBeat", "(I)Z"⟩, prog_14_method_8_code, 1, some .boolean)
theorem cw_M_isBeat : Cond.code Y_M_isBeat.1 Y_M_isBeat.2.1 Y_M_isBeat.2.2.1 Y_M_isBeat.2.2.2 ∈ tb := mem_tb 1537 (by decide +kernel) rfl
def Y_M_bare : YT := (⟨"SinkingChoirModel", "bare", "(I)I"⟩, prog_14_method_13_code, 2, some .int)
theorem cw_M_bare : Cond.code Y_M_bare.1 Y_M_bare.2.1 Y_M_bare.2.2.1 Y_M_bare.2.2.2 ∈ tb := mem_tb 1511 (by decide +kernel) rfl
def Y_M_powerOf : YT := (⟨"SinkingChoirModel", "powerOf", "(II)I"⟩, prog_14_method_12_code, 4, some .int)
theorem cw_M_powerOf : Cond.code Y_M_powerOf.1 Y_M_powerOf.2.1 Y_M_powerOf.2.2.1 Y_M_powerOf.2.2.2 ∈ tb := mem_tb 1517 (by decide +kernel) rfl
def Y_M_mills : YT := (⟨"SinkingChoirModel", "mills", "(III)I"⟩, prog_14_method_14_code, 3, some .int)
theorem cw_M_mills : Cond.code Y_M_mills.1 Y_M_mills.2.1 Y_M_mills.2.2.1 Y_M_mills.2.2.2 ∈ tb := mem_tb 1520 (by decide +kernel) rfl
def Y_M_fraction : YT := (⟨"SinkingChoirModel", "fraction", "(II)I"⟩, prog_14_method_15_code, 2, some .int)
theorem cw_M_fraction : Cond.code Y_M_fraction.1 Y_M_fraction.2.1 Y_M_fraction.2.2.1 Y_M_fraction.2.2.2 ∈ tb := mem_tb 1514 (by decide +kernel) rfl
def Y_M_isFraction : YT := (⟨"SinkingChoirModel", "isFraction", "(II)Z"⟩, prog_14_method_16_code, 2, some .boolean)
theorem cw_M_isFraction : Cond.code Y_M_isFraction.1 Y_M_isFraction.2.1 Y_M_isFraction.2.2.1 Y_M_isFraction.2.2.2 ∈ tb := mem_tb 1504 (by decide +kernel) rfl
def Y_M_cellOf : YT := (⟨"SinkingChoirModel", "cellOf", "(II)I"⟩, prog_14_method_9_code, 2, some .int)
theorem cw_M_cellOf : Cond.code Y_M_cellOf.1 Y_M_cellOf.2.1 Y_M_cellOf.2.2.1 Y_M_cellOf.2.2.2 ∈ tb := mem_tb 1542 (by decide +kernel) rfl
def Y_M_isNote : YT := (⟨"SinkingChoirModel", "isNote", "(II)Z"⟩, prog_14_method_10_code, 3, some .boolean)
theorem cw_M_isNote : Cond.code Y_M_isNote.1 Y_M_isNote.2.1 Y_M_isNote.2.2.1 Y_M_isNote.2.2.2 ∈ tb := mem_tb 1554 (by decide +kernel) rfl
def Y_M_isHeld : YT := (⟨"SinkingChoirModel", "isHeld", "(II)Z"⟩, prog_14_method_11_code, 3, some .boolean)
theorem cw_M_isHeld : Cond.code Y_M_isHeld.1 Y_M_isHeld.2.1 Y_M_isHeld.2.2.1 Y_M_isHeld.2.2.2 ∈ tb := mem_tb 1550 (by decide +kernel) rfl
def Y_M_falls : YT := (⟨"SinkingChoirModel", "falls", "(II)V"⟩, prog_14_method_19_code, 4, none)
theorem cw_M_falls : Cond.code Y_M_falls.1 Y_M_falls.2.1 Y_M_falls.2.2.1 Y_M_falls.2.2.2 ∈ tb := mem_tb 1546 (by decide +kernel) rfl
def Y_M_note : YT := (⟨"SinkingChoirModel", "note", "(IIIII)Z"⟩, prog_14_method_20_code, 7, some .boolean)
theorem cw_M_note : Cond.code Y_M_note.1 Y_M_note.2.1 Y_M_note.2.2.1 Y_M_note.2.2.2 ∈ tb := mem_tb 1530 (by decide +kernel) rfl
def Y_X_silent : YT := (⟨"SinkingChoir", "silent", "(II)Z"⟩, prog_1_method_3_code, 3, some .boolean)
theorem cw_X_silent : Cond.code Y_X_silent.1 Y_X_silent.2.1 Y_X_silent.2.2.1 Y_X_silent.2.2.2 ∈ tb := mem_tb 553 (by decide +kernel) rfl
def Y_M_silent : YT := (⟨"SinkingChoirModel", "silent", "(II)Z"⟩, prog_14_method_21_code, 3, some .boolean)
theorem cw_M_silent : Cond.code Y_M_silent.1 Y_M_silent.2.1 Y_M_silent.2.2.1 Y_M_silent.2.2.2 ∈ tb := mem_tb 1558 (by decide +kernel) rfl
def Y_Sc_breathes : YT := (⟨"SinkingChoir$Score", "breathes", "(II)Z"⟩, prog_9_method_6_code, 3, some .boolean)
theorem cw_Sc_breathes : Cond.code Y_Sc_breathes.1 Y_Sc_breathes.2.1 Y_Sc_breathes.2.2.1 Y_Sc_breathes.2.2.2 ∈ tb := mem_tb 562 (by decide +kernel) rfl
def Y_X_breath : YT := (⟨"SinkingChoir", "breath", "(IIZ)Z"⟩, prog_1_method_4_code, 4, some .boolean)
theorem cw_X_breath : Cond.code Y_X_breath.1 Y_X_breath.2.1 Y_X_breath.2.2.1 Y_X_breath.2.2.2 ∈ tb := mem_tb 558 (by decide +kernel) rfl
def Y_M_breath : YT := (⟨"SinkingChoirModel", "breath", "(IIZ)Z"⟩, prog_14_method_22_code, 4, some .boolean)
theorem cw_M_breath : Cond.code Y_M_breath.1 Y_M_breath.2.1 Y_M_breath.2.2.1 Y_M_breath.2.2.2 ∈ tb := mem_tb 1562 (by decide +kernel) rfl
def Y_X_size : YT := (⟨"SinkingChoir", "size", "(II)I"⟩, prog_1_method_5_code, 4, some .int)
theorem cw_X_size : Cond.code Y_X_size.1 Y_X_size.2.1 Y_X_size.2.2.1 Y_X_size.2.2.2 ∈ tb := mem_tb 566 (by decide +kernel) rfl
def Y_M_size : YT := (⟨"SinkingChoirModel", "size", "(II)I"⟩, prog_14_method_17_code, 3, some .int)
theorem cw_M_size : Cond.code Y_M_size.1 Y_M_size.2.1 Y_M_size.2.2.1 Y_M_size.2.2.2 ∈ tb := mem_tb 1501 (by decide +kernel) rfl
def Y_Sc_bind : YT := (⟨"SinkingChoir$Score", "bind", "(II)V"⟩, prog_9_method_8_code, 3, none)
theorem cw_Sc_bind : Cond.code Y_Sc_bind.1 Y_Sc_bind.2.1 Y_Sc_bind.2.2.1 Y_Sc_bind.2.2.2 ∈ tb := mem_tb 577 (by decide +kernel) rfl
def Y_X_link : YT := (⟨"SinkingChoir", "link", "(II)Z"⟩, prog_1_method_6_code, 3, some .boolean)
theorem cw_X_link : Cond.code Y_X_link.1 Y_X_link.2.1 Y_X_link.2.2.1 Y_X_link.2.2.2 ∈ tb := mem_tb 572 (by decide +kernel) rfl
def Y_M_link : YT := (⟨"SinkingChoirModel", "link", "(II)Z"⟩, prog_14_method_23_code, 3, some .boolean)
theorem cw_M_link : Cond.code Y_M_link.1 Y_M_link.2.1 Y_M_link.2.2.1 Y_M_link.2.2.2 ∈ tb := mem_tb 1566 (by decide +kernel) rfl
def Y_Sc_heldIn : YT := (⟨"SinkingChoir$Score", "heldIn", "(I)I"⟩, prog_9_method_15_code, 4, some .int)
theorem cw_Sc_heldIn : Cond.code Y_Sc_heldIn.1 Y_Sc_heldIn.2.1 Y_Sc_heldIn.2.2.1 Y_Sc_heldIn.2.2.2 ∈ tb := mem_tb 586 (by decide +kernel) rfl
def Y_Sc_tearBy : YT := (⟨"SinkingChoir$Score", "tearBy", "(III)I"⟩, prog_9_method_11_code, 4, some .int)
theorem cw_Sc_tearBy : Cond.code Y_Sc_tearBy.1 Y_Sc_tearBy.2.1 Y_Sc_tearBy.2.2.1 Y_Sc_tearBy.2.2.2 ∈ tb := mem_tb 598 (by decide +kernel) rfl
def Y_Sc_tear : YT := (⟨"SinkingChoir$Score", "tear", "(II)I"⟩, prog_9_method_12_code, 3, some .int)
theorem cw_Sc_tear : Cond.code Y_Sc_tear.1 Y_Sc_tear.2.1 Y_Sc_tear.2.2.1 Y_Sc_tear.2.2.2 ∈ tb := mem_tb 594 (by decide +kernel) rfl
def Y_Sc_tornIn : YT := (⟨"SinkingChoir$Score", "tornIn", "(I)I"⟩, prog_9_method_16_code, 4, some .int)
theorem cw_Sc_tornIn : Cond.code Y_Sc_tornIn.1 Y_Sc_tornIn.2.1 Y_Sc_tornIn.2.2.1 Y_Sc_tornIn.2.2.2 ∈ tb := mem_tb 590 (by decide +kernel) rfl
def Y_X_keynote : YT := (⟨"SinkingChoir", "keynote", "(II)I"⟩, prog_1_method_7_code, 3, some .int)
theorem cw_X_keynote : Cond.code Y_X_keynote.1 Y_X_keynote.2.1 Y_X_keynote.2.2.1 Y_X_keynote.2.2.2 ∈ tb := mem_tb 581 (by decide +kernel) rfl
def Y_M_leap : YT := (⟨"SinkingChoirModel", "leap", "([III)I"⟩, prog_14_method_24_code, 4, some .int)
theorem cw_M_leap : Cond.code Y_M_leap.1 Y_M_leap.2.1 Y_M_leap.2.2.1 Y_M_leap.2.2.2 ∈ tb := mem_tb 1583 (by decide +kernel) rfl
def Y_M_goesTo : YT := (⟨"SinkingChoirModel", "goesTo", "(I)V"⟩, prog_14_method_25_code, 3, none)
theorem cw_M_goesTo : Cond.code Y_M_goesTo.1 Y_M_goesTo.2.1 Y_M_goesTo.2.2.1 Y_M_goesTo.2.2.2 ∈ tb := mem_tb 1579 (by decide +kernel) rfl
def Y_M_keynoteOf : YT := (⟨"SinkingChoirModel", "keynoteOf", "(I)I"⟩, prog_14_method_26_code, 2, some .int)
theorem cw_M_keynoteOf : Cond.code Y_M_keynoteOf.1 Y_M_keynoteOf.2.1 Y_M_keynoteOf.2.2.1 Y_M_keynoteOf.2.2.2 ∈ tb := mem_tb 1575 (by decide +kernel) rfl
def Y_M_sizeAt : YT := (⟨"SinkingChoirModel", "sizeAt", "(II)I"⟩, prog_14_method_18_code, 3, some .int)
theorem cw_M_sizeAt : Cond.code Y_M_sizeAt.1 Y_M_sizeAt.2.1 Y_M_sizeAt.2.2.1 Y_M_sizeAt.2.2.2 ∈ tb := mem_tb 1591 (by decide +kernel) rfl
def Y_M_tornBy : YT := (⟨"SinkingChoirModel", "tornBy", "(III)I"⟩, prog_14_method_27_code, 5, some .int)
theorem cw_M_tornBy : Cond.code Y_M_tornBy.1 Y_M_tornBy.2.1 Y_M_tornBy.2.2.1 Y_M_tornBy.2.2.2 ∈ tb := mem_tb 1587 (by decide +kernel) rfl
def Y_M_keynote : YT := (⟨"SinkingChoirModel", "keynote", "(II)I"⟩, prog_14_method_30_code, 7, some .int)
theorem cw_M_keynote : Cond.code Y_M_keynote.1 Y_M_keynote.2.1 Y_M_keynote.2.2.1 Y_M_keynote.2.2.2 ∈ tb := mem_tb 1570 (by decide +kernel) rfl
def Y_X_torn : YT := (⟨"SinkingChoir", "torn", "(II)I"⟩, prog_1_method_8_code, 3, some .int)
theorem cw_X_torn : Cond.code Y_X_torn.1 Y_X_torn.2.1 Y_X_torn.2.2.1 Y_X_torn.2.2.2 ∈ tb := mem_tb 602 (by decide +kernel) rfl
def Y_M_torn : YT := (⟨"SinkingChoirModel", "torn", "(II)I"⟩, prog_14_method_31_code, 3, some .int)
theorem cw_M_torn : Cond.code Y_M_torn.1 Y_M_torn.2.1 Y_M_torn.2.2.1 Y_M_torn.2.2.2 ∈ tb := mem_tb 1595 (by decide +kernel) rfl
def Y_Sc_soundsIn : YT := (⟨"SinkingChoir$Score", "soundsIn", "(I)Z"⟩, prog_9_method_17_code, 3, some .boolean)
theorem cw_Sc_soundsIn : Cond.code Y_Sc_soundsIn.1 Y_Sc_soundsIn.2.1 Y_Sc_soundsIn.2.2.1 Y_Sc_soundsIn.2.2.2 ∈ tb := mem_tb 615 (by decide +kernel) rfl
def Y_Sc_lastBeat : YT := (⟨"SinkingChoir$Score", "lastBeat", "()I"⟩, prog_9_method_18_code, 2, some .int)
theorem cw_Sc_lastBeat : Cond.code Y_Sc_lastBeat.1 Y_Sc_lastBeat.2.1 Y_Sc_lastBeat.2.2.1 Y_Sc_lastBeat.2.2.2 ∈ tb := mem_tb 611 (by decide +kernel) rfl
def Y_Mt_abs_I : YT := (⟨"java/lang/Math", "abs", "(I)I"⟩, prog_17_method_59_code, 1, some .int)
theorem cw_Mt_abs_I : Cond.code Y_Mt_abs_I.1 Y_Mt_abs_I.2.1 Y_Mt_abs_I.2.2.1 Y_Mt_abs_I.2.2.2 ∈ tb := mem_tb 626 (by decide +kernel) rfl
def Y_Sc_foulnessBy : YT := (⟨"SinkingChoir$Score", "foulnessBy", "(II)I"⟩, prog_9_method_13_code, 5, some .int)
theorem cw_Sc_foulnessBy : Cond.code Y_Sc_foulnessBy.1 Y_Sc_foulnessBy.2.1 Y_Sc_foulnessBy.2.2.1 Y_Sc_foulnessBy.2.2.2 ∈ tb := mem_tb 623 (by decide +kernel) rfl
def Y_Sc_foulness : YT := (⟨"SinkingChoir$Score", "foulness", "()I"⟩, prog_9_method_14_code, 3, some .int)
theorem cw_Sc_foulness : Cond.code Y_Sc_foulness.1 Y_Sc_foulness.2.1 Y_Sc_foulness.2.2.1 Y_Sc_foulness.2.2.2 ∈ tb := mem_tb 619 (by decide +kernel) rfl
def Y_X_sink : YT := (⟨"SinkingChoir", "sink", "(I)I"⟩, prog_1_method_9_code, 3, some .int)
theorem cw_X_sink : Cond.code Y_X_sink.1 Y_X_sink.2.1 Y_X_sink.2.2.1 Y_X_sink.2.2.2 ∈ tb := mem_tb 607 (by decide +kernel) rfl
def Y_M_lastBeat : YT := (⟨"SinkingChoirModel", "lastBeat", "()I"⟩, prog_14_method_29_code, 4, some .int)
theorem cw_M_lastBeat : Cond.code Y_M_lastBeat.1 Y_M_lastBeat.2.1 Y_M_lastBeat.2.2.1 Y_M_lastBeat.2.2.2 ∈ tb := mem_tb 1603 (by decide +kernel) rfl
def Y_M_plain : YT := (⟨"SinkingChoirModel", "plain", "(J)J"⟩, prog_14_method_6_code, 2, some .long)
theorem cw_M_plain : Cond.code Y_M_plain.1 Y_M_plain.2.1 Y_M_plain.2.2.1 Y_M_plain.2.2.2 ∈ tb := mem_tb 1610 (by decide +kernel) rfl
def Y_M_foulBy : YT := (⟨"SinkingChoirModel", "foulBy", "(II)J"⟩, prog_14_method_28_code, 6, some .long)
theorem cw_M_foulBy : Cond.code Y_M_foulBy.1 Y_M_foulBy.2.1 Y_M_foulBy.2.2.1 Y_M_foulBy.2.2.2 ∈ tb := mem_tb 1607 (by decide +kernel) rfl
def Y_M_sink : YT := (⟨"SinkingChoirModel", "sink", "(I)I"⟩, prog_14_method_32_code, 6, some .int)
theorem cw_M_sink : Cond.code Y_M_sink.1 Y_M_sink.2.1 Y_M_sink.2.2.1 Y_M_sink.2.2.2 ∈ tb := mem_tb 1599 (by decide +kernel) rfl
def Y_X_asksRow : YT := (⟨"SinkingChoir", "asksRow", "(I)Z"⟩, prog_1_method_35_code, 2, some .boolean)
theorem cw_X_asksRow : Cond.code Y_X_asksRow.1 Y_X_asksRow.2.1 Y_X_asksRow.2.2.1 Y_X_asksRow.2.2.2 ∈ tb := mem_tb 634 (by decide +kernel) rfl
def Y_Wa_init : YT := (⟨"SinkingChoir$Ways", "<init>", "(LSinkingChoir$Score;)V"⟩, prog_12_method_1_code, 2, none)
theorem cw_Wa_init : Cond.code Y_Wa_init.1 Y_Wa_init.2.1 Y_Wa_init.2.2.1 Y_Wa_init.2.2.2 ∈ tb := mem_tb 643 (by decide +kernel) rfl
def Y_Mt_min : YT := (⟨"java/lang/Math", "min", "(II)I"⟩, prog_17_method_69_code, 2, some .int)
theorem cw_Mt_min : Cond.code Y_Mt_min.1 Y_Mt_min.2.1 Y_Mt_min.2.2.1 Y_Mt_min.2.2.2 ∈ tb := mem_tb 693 (by decide +kernel) rfl
def Y_Wa_spread : YT := (⟨"SinkingChoir$Ways", "spread", "(II)Z"⟩, prog_12_method_3_code, 10, some .boolean)
theorem cw_Wa_spread : Cond.code Y_Wa_spread.1 Y_Wa_spread.2.1 Y_Wa_spread.2.2.1 Y_Wa_spread.2.2.2 ∈ tb := mem_tb 689 (by decide +kernel) rfl
def Y_Wa_explore : YT := (⟨"SinkingChoir$Ways", "explore", "()Z"⟩, prog_12_method_2_code, 4, some .boolean)
theorem cw_Wa_explore : Cond.code Y_Wa_explore.1 Y_Wa_explore.2.1 Y_Wa_explore.2.2.1 Y_Wa_explore.2.2.2 ∈ tb := mem_tb 679 (by decide +kernel) rfl
def Y_X_explored : YT := (⟨"SinkingChoir", "explored", "()LSinkingChoir$Ways;"⟩, prog_1_method_36_code, 1, some (.object "SinkingChoir$Ways"))
theorem cw_X_explored : Cond.code Y_X_explored.1 Y_X_explored.2.1 Y_X_explored.2.2.1 Y_X_explored.2.2.2 ∈ tb := mem_tb 638 (by decide +kernel) rfl
def Y_Wa_find : YT := (⟨"SinkingChoir$Ways", "find", "(II)I"⟩, prog_12_method_7_code, 4, some .int)
theorem cw_Wa_find : Cond.code Y_Wa_find.1 Y_Wa_find.2.1 Y_Wa_find.2.2.1 Y_Wa_find.2.2.2 ∈ tb := mem_tb 701 (by decide +kernel) rfl
def Y_Wa_price : YT := (⟨"SinkingChoir$Ways", "price", "(Z)V"⟩, prog_12_method_4_code, 7, none)
theorem cw_Wa_price : Cond.code Y_Wa_price.1 Y_Wa_price.2.1 Y_Wa_price.2.2.1 Y_Wa_price.2.2.2 ∈ tb := mem_tb 705 (by decide +kernel) rfl
def Y_Wa_relax : YT := (⟨"SinkingChoir$Ways", "relax", "(IIZ)V"⟩, prog_12_method_8_code, 12, none)
theorem cw_Wa_relax : Cond.code Y_Wa_relax.1 Y_Wa_relax.2.1 Y_Wa_relax.2.2.1 Y_Wa_relax.2.2.2 ∈ tb := mem_tb 712 (by decide +kernel) rfl
def Y_Wa_follow : YT := (⟨"SinkingChoir$Ways", "follow", "()Z"⟩, prog_12_method_9_code, 7, some .boolean)
theorem cw_Wa_follow : Cond.code Y_Wa_follow.1 Y_Wa_follow.2.1 Y_Wa_follow.2.2.1 Y_Wa_follow.2.2.2 ∈ tb := mem_tb 716 (by decide +kernel) rfl
def Y_Wa_leastRow : YT := (⟨"SinkingChoir$Ways", "leastRow", "(Z)Z"⟩, prog_12_method_5_code, 5, some .boolean)
theorem cw_Wa_leastRow : Cond.code Y_Wa_leastRow.1 Y_Wa_leastRow.2.1 Y_Wa_leastRow.2.2.1 Y_Wa_leastRow.2.2.2 ∈ tb := mem_tb 697 (by decide +kernel) rfl
def Y_Wa_told : YT := (⟨"SinkingChoir$Ways", "told", "(I)I"⟩, prog_12_method_6_code, 2, some .int)
theorem cw_Wa_told : Cond.code Y_Wa_told.1 Y_Wa_told.2.1 Y_Wa_told.2.2.1 Y_Wa_told.2.2.2 ∈ tb := mem_tb 720 (by decide +kernel) rfl
def Y_X_way : YT := (⟨"SinkingChoir", "way", "(I)I"⟩, prog_1_method_10_code, 3, some .int)
theorem cw_X_way : Cond.code Y_X_way.1 Y_X_way.2.1 Y_X_way.2.2.1 Y_X_way.2.2.2 ∈ tb := mem_tb 630 (by decide +kernel) rfl
def Y_M_placeOf : YT := (⟨"SinkingChoirModel", "placeOf", "(IIII)I"⟩, prog_14_method_33_code, 7, some .int)
theorem cw_M_placeOf : Cond.code Y_M_placeOf.1 Y_M_placeOf.2.1 Y_M_placeOf.2.2.1 Y_M_placeOf.2.2.2 ∈ tb := mem_tb 1630 (by decide +kernel) rfl
def Y_M_mayLink : YT := (⟨"SinkingChoirModel", "mayLink", "(II)Z"⟩, prog_14_method_34_code, 3, some .boolean)
theorem cw_M_mayLink : Cond.code Y_M_mayLink.1 Y_M_mayLink.2.1 Y_M_mayLink.2.2.1 Y_M_mayLink.2.2.2 ∈ tb := mem_tb 1634 (by decide +kernel) rfl
def Y_M_nextOf : YT := (⟨"SinkingChoirModel", "nextOf", "(III)I"⟩, prog_14_method_35_code, 5, some .int)
theorem cw_M_nextOf : Cond.code Y_M_nextOf.1 Y_M_nextOf.2.1 Y_M_nextOf.2.2.1 Y_M_nextOf.2.2.2 ∈ tb := mem_tb 1638 (by decide +kernel) rfl
def Y_M_lays : YT := (⟨"SinkingChoirModel", "lays", "(I)Z"⟩, prog_14_method_36_code, 6, some .boolean)
theorem cw_M_lays : Cond.code Y_M_lays.1 Y_M_lays.2.1 Y_M_lays.2.2.1 Y_M_lays.2.2.2 ∈ tb := mem_tb 1626 (by decide +kernel) rfl
def Y_M_costBy : YT := (⟨"SinkingChoirModel", "costBy", "(IIZ)J"⟩, prog_14_method_37_code, 4, some .long)
theorem cw_M_costBy : Cond.code Y_M_costBy.1 Y_M_costBy.2.1 Y_M_costBy.2.2.1 Y_M_costBy.2.2.2 ∈ tb := mem_tb 1643 (by decide +kernel) rfl
def Y_M_finds : YT := (⟨"SinkingChoirModel", "finds", "(IZ)Z"⟩, prog_14_method_38_code, 10, some .boolean)
theorem cw_M_finds : Cond.code Y_M_finds.1 Y_M_finds.2.1 Y_M_finds.2.2.1 Y_M_finds.2.2.2 ∈ tb := mem_tb 1622 (by decide +kernel) rfl
def Y_M_rowOf : YT := (⟨"SinkingChoirModel", "rowOf", "(IZ)I"⟩, prog_14_method_39_code, 4, some .int)
theorem cw_M_rowOf : Cond.code Y_M_rowOf.1 Y_M_rowOf.2.1 Y_M_rowOf.2.2.1 Y_M_rowOf.2.2.2 ∈ tb := mem_tb 1618 (by decide +kernel) rfl
def Y_M_way : YT := (⟨"SinkingChoirModel", "way", "(I)I"⟩, prog_14_method_40_code, 2, some .int)
theorem cw_M_way : Cond.code Y_M_way.1 Y_M_way.2.1 Y_M_way.2.2.1 Y_M_way.2.2.2 ∈ tb := mem_tb 1614 (by decide +kernel) rfl
def Y_X_change : YT := (⟨"SinkingChoir", "change", "(I)I"⟩, prog_1_method_11_code, 3, some .int)
theorem cw_X_change : Cond.code Y_X_change.1 Y_X_change.2.1 Y_X_change.2.2.1 Y_X_change.2.2.2 ∈ tb := mem_tb 724 (by decide +kernel) rfl
def Y_M_change : YT := (⟨"SinkingChoirModel", "change", "(I)I"⟩, prog_14_method_41_code, 2, some .int)
theorem cw_M_change : Cond.code Y_M_change.1 Y_M_change.2.1 Y_M_change.2.2.1 Y_M_change.2.2.2 ∈ tb := mem_tb 1647 (by decide +kernel) rfl
def Y_Wa_nearer : YT := (⟨"SinkingChoir$Ways", "nearer", "(II)I"⟩, prog_12_method_11_code, 4, some .int)
theorem cw_Wa_nearer : Cond.code Y_Wa_nearer.1 Y_Wa_nearer.2.1 Y_Wa_nearer.2.2.1 Y_Wa_nearer.2.2.2 ∈ tb := mem_tb 737 (by decide +kernel) rfl
def Y_Wa_nearest : YT := (⟨"SinkingChoir$Ways", "nearest", "(I)I"⟩, prog_12_method_10_code, 4, some .int)
theorem cw_Wa_nearest : Cond.code Y_Wa_nearest.1 Y_Wa_nearest.2.1 Y_Wa_nearest.2.2.1 Y_Wa_nearest.2.2.2 ∈ tb := mem_tb 733 (by decide +kernel) rfl
def Y_X_bounded : YT := (⟨"SinkingChoir", "bounded", "(I)I"⟩, prog_1_method_12_code, 3, some .int)
theorem cw_X_bounded : Cond.code Y_X_bounded.1 Y_X_bounded.2.1 Y_X_bounded.2.2.1 Y_X_bounded.2.2.2 ∈ tb := mem_tb 728 (by decide +kernel) rfl
def Y_M_bounded : YT := (⟨"SinkingChoirModel", "bounded", "(I)I"⟩, prog_14_method_42_code, 11, some .int)
theorem cw_M_bounded : Cond.code Y_M_bounded.1 Y_M_bounded.2.1 Y_M_bounded.2.2.1 Y_M_bounded.2.2.2 ∈ tb := mem_tb 1651 (by decide +kernel) rfl
def Y_X_singer : YT := (⟨"SinkingChoir", "singer", "(IIII)I"⟩, prog_1_method_13_code, 7, some .int)
theorem cw_X_singer : Cond.code Y_X_singer.1 Y_X_singer.2.1 Y_X_singer.2.2.1 Y_X_singer.2.2.2 ∈ tb := mem_tb 742 (by decide +kernel) rfl
def Y_M_singer : YT := (⟨"SinkingChoirModel", "singer", "(IIII)I"⟩, prog_14_method_44_code, 5, some .int)
theorem cw_M_singer : Cond.code Y_M_singer.1 Y_M_singer.2.1 Y_M_singer.2.2.1 Y_M_singer.2.2.2 ∈ tb := mem_tb 1656 (by decide +kernel) rfl
def Y_Ch_has : YT := (⟨"SinkingChoir$Choir", "has", "(I)Z"⟩, prog_2_method_2_code, 2, some .boolean)
theorem cw_Ch_has : Cond.code Y_Ch_has.1 Y_Ch_has.2.1 Y_Ch_has.2.2.1 Y_Ch_has.2.2.2 ∈ tb := mem_tb 750 (by decide +kernel) rfl
def Y_X_place : YT := (⟨"SinkingChoir", "place", "(II)Z"⟩, prog_1_method_14_code, 3, some .boolean)
theorem cw_X_place : Cond.code Y_X_place.1 Y_X_place.2.1 Y_X_place.2.2.1 Y_X_place.2.2.2 ∈ tb := mem_tb 746 (by decide +kernel) rfl
def Y_M_isSinger : YT := (⟨"SinkingChoirModel", "isSinger", "(I)Z"⟩, prog_14_method_43_code, 2, some .boolean)
theorem cw_M_isSinger : Cond.code Y_M_isSinger.1 Y_M_isSinger.2.1 Y_M_isSinger.2.2.1 Y_M_isSinger.2.2.2 ∈ tb := mem_tb 1666 (by decide +kernel) rfl
def Y_M_place : YT := (⟨"SinkingChoirModel", "place", "(II)Z"⟩, prog_14_method_45_code, 3, some .boolean)
theorem cw_M_place : Cond.code Y_M_place.1 Y_M_place.2.1 Y_M_place.2.2.1 Y_M_place.2.2.2 ∈ tb := mem_tb 1662 (by decide +kernel) rfl
def Y_X_table : YT := (⟨"SinkingChoir", "table", "(II)Z"⟩, prog_1_method_15_code, 3, some .boolean)
theorem cw_X_table : Cond.code Y_X_table.1 Y_X_table.2.1 Y_X_table.2.2.1 Y_X_table.2.2.2 ∈ tb := mem_tb 754 (by decide +kernel) rfl
def Y_M_table : YT := (⟨"SinkingChoirModel", "table", "(II)Z"⟩, prog_14_method_46_code, 3, some .boolean)
theorem cw_M_table : Cond.code Y_M_table.1 Y_M_table.2.1 Y_M_table.2.2.1 Y_M_table.2.2.2 ∈ tb := mem_tb 1670 (by decide +kernel) rfl
def Y_X_seed : YT := (⟨"SinkingChoir", "seed", "(I)Z"⟩, prog_1_method_16_code, 2, some .boolean)
theorem cw_X_seed : Cond.code Y_X_seed.1 Y_X_seed.2.1 Y_X_seed.2.2.1 Y_X_seed.2.2.2 ∈ tb := mem_tb 760 (by decide +kernel) rfl
def Y_M_seed : YT := (⟨"SinkingChoirModel", "seed", "(I)Z"⟩, prog_14_method_47_code, 2, some .boolean)
theorem cw_M_seed : Cond.code Y_M_seed.1 Y_M_seed.2.1 Y_M_seed.2.2.1 Y_M_seed.2.2.2 ∈ tb := mem_tb 1677 (by decide +kernel) rfl
def Y_X_blown : YT := (⟨"SinkingChoir", "blown", "(I)Z"⟩, prog_1_method_17_code, 2, some .boolean)
theorem cw_X_blown : Cond.code Y_X_blown.1 Y_X_blown.2.1 Y_X_blown.2.2.1 Y_X_blown.2.2.2 ∈ tb := mem_tb 765 (by decide +kernel) rfl
def Y_M_blown : YT := (⟨"SinkingChoirModel", "blown", "(I)Z"⟩, prog_14_method_48_code, 2, some .boolean)
theorem cw_M_blown : Cond.code Y_M_blown.1 Y_M_blown.2.1 Y_M_blown.2.2.1 Y_M_blown.2.2.2 ∈ tb := mem_tb 1682 (by decide +kernel) rfl
def Y_X_given : YT := (⟨"SinkingChoir", "given", "(I)Z"⟩, prog_1_method_18_code, 2, some .boolean)
theorem cw_X_given : Cond.code Y_X_given.1 Y_X_given.2.1 Y_X_given.2.2.1 Y_X_given.2.2.2 ∈ tb := mem_tb 771 (by decide +kernel) rfl
def Y_M_given : YT := (⟨"SinkingChoirModel", "given", "(I)Z"⟩, prog_14_method_49_code, 2, some .boolean)
theorem cw_M_given : Cond.code Y_M_given.1 Y_M_given.2.1 Y_M_given.2.2.1 Y_M_given.2.2.2 ∈ tb := mem_tb 1688 (by decide +kernel) rfl
def Y_Rl_hasRoom : YT := (⟨"SinkingChoir$Reel", "hasRoom", "()Z"⟩, prog_8_method_2_code, 1, some .boolean)
theorem cw_Rl_hasRoom : Cond.code Y_Rl_hasRoom.1 Y_Rl_hasRoom.2.1 Y_Rl_hasRoom.2.2.1 Y_Rl_hasRoom.2.2.2 ∈ tb := mem_tb 780 (by decide +kernel) rfl
def Y_Rl_add : YT := (⟨"SinkingChoir$Reel", "add", "(I)V"⟩, prog_8_method_3_code, 3, none)
theorem cw_Rl_add : Cond.code Y_Rl_add.1 Y_Rl_add.2.1 Y_Rl_add.2.2.1 Y_Rl_add.2.2.2 ∈ tb := mem_tb 784 (by decide +kernel) rfl
def Y_X_feed : YT := (⟨"SinkingChoir", "feed", "(IIIII)I"⟩, prog_1_method_19_code, 6, some .int)
theorem cw_X_feed : Cond.code Y_X_feed.1 Y_X_feed.2.1 Y_X_feed.2.2.1 Y_X_feed.2.2.2 ∈ tb := mem_tb 776 (by decide +kernel) rfl
def Y_M_push : YT := (⟨"SinkingChoirModel", "push", "(I)V"⟩, prog_14_method_50_code, 3, none)
theorem cw_M_push : Cond.code Y_M_push.1 Y_M_push.2.1 Y_M_push.2.2.1 Y_M_push.2.2.2 ∈ tb := mem_tb 1697 (by decide +kernel) rfl
def Y_M_feed : YT := (⟨"SinkingChoirModel", "feed", "(IIIII)I"⟩, prog_14_method_51_code, 6, some .int)
theorem cw_M_feed : Cond.code Y_M_feed.1 Y_M_feed.2.1 Y_M_feed.2.2.1 Y_M_feed.2.2.2 ∈ tb := mem_tb 1693 (by decide +kernel) rfl
def Y_Pr_clear : YT := (⟨"SinkingChoir$Program", "clear", "()V"⟩, prog_6_method_2_code, 1, none)
theorem cw_Pr_clear : Cond.code Y_Pr_clear.1 Y_Pr_clear.2.1 Y_Pr_clear.2.2.1 Y_Pr_clear.2.2.2 ∈ tb := mem_tb 798 (by decide +kernel) rfl
def Y_Re_here : YT := (⟨"SinkingChoir$Reader", "here", "()I"⟩, prog_7_method_4_code, 1, some .int)
theorem cw_Re_here : Cond.code Y_Re_here.1 Y_Re_here.2.1 Y_Re_here.2.2.1 Y_Re_here.2.2.2 ∈ tb := mem_tb 807 (by decide +kernel) rfl
def Y_Str_isLatin1 : YT := (⟨"java/lang/String", "isLatin1", "()Z"⟩, prog_18_method_154_code, 1, some .boolean)
theorem cw_Str_isLatin1 : Cond.code Y_Str_isLatin1.1 Y_Str_isLatin1.2.1 Y_Str_isLatin1.2.2.1 Y_Str_isLatin1.2.2.2 ∈ tb := mem_tb 822 (by decide +kernel) rfl
def Y_SL_canEncode : YT := (⟨"java/lang/StringLatin1", "canEncode", "(I)Z"⟩, prog_19_method_4_code, 1, some .boolean)
theorem cw_SL_canEncode : Cond.code Y_SL_canEncode.1 Y_SL_canEncode.2.1 Y_SL_canEncode.2.2.1 Y_SL_canEncode.2.2.2 ∈ tb := mem_tb 829 (by decide +kernel) rfl
def Y_Mt_max_II : YT := (⟨"java/lang/Math", "max", "(II)I"⟩, prog_17_method_65_code, 2, some .int)
theorem cw_Mt_max_II : Cond.code Y_Mt_max_II.1 Y_Mt_max_II.2.1 Y_Mt_max_II.2.2.1 Y_Mt_max_II.2.2.2 ∈ tb := mem_tb 832 (by decide +kernel) rfl
def Y_SL_indexOfChar : YT := (⟨"java/lang/StringLatin1", "indexOfChar", "([BIII)I"⟩, prog_19_method_23_code, 6, some .int)
theorem cw_SL_indexOfChar : Cond.code Y_SL_indexOfChar.1 Y_SL_indexOfChar.2.1 Y_SL_indexOfChar.2.2.1 Y_SL_indexOfChar.2.2.2 ∈ tb := mem_tb 836 (by decide +kernel) rfl
def Y_SL_indexOf : YT := (⟨"java/lang/StringLatin1", "indexOf", "([BIII)I"⟩, prog_19_method_22_code, 4, some .int)
theorem cw_SL_indexOf : Cond.code Y_SL_indexOf.1 Y_SL_indexOf.2.1 Y_SL_indexOf.2.2.1 Y_SL_indexOf.2.2.2 ∈ tb := mem_tb 826 (by decide +kernel) rfl
def Y_Str_indexOf_II : YT := (⟨"java/lang/String", "indexOf", "(II)I"⟩, prog_18_method_80_code, 3, some .int)
theorem cw_Str_indexOf_II : Cond.code Y_Str_indexOf_II.1 Y_Str_indexOf_II.2.1 Y_Str_indexOf_II.2.2.1 Y_Str_indexOf_II.2.2.2 ∈ tb := mem_tb 818 (by decide +kernel) rfl
def Y_Str_indexOf_I : YT := (⟨"java/lang/String", "indexOf", "(I)I"⟩, prog_18_method_79_code, 2, some .int)
theorem cw_Str_indexOf_I : Cond.code Y_Str_indexOf_I.1 Y_Str_indexOf_I.2.1 Y_Str_indexOf_I.2.2.1 Y_Str_indexOf_I.2.2.2 ∈ tb := mem_tb 814 (by decide +kernel) rfl
def Y_Re_indexIn : YT := (⟨"SinkingChoir$Reader", "indexIn", "(Ljava/lang/String;I)I"⟩, prog_7_method_7_code, 2, some .int)
theorem cw_Re_indexIn : Cond.code Y_Re_indexIn.1 Y_Re_indexIn.2.1 Y_Re_indexIn.2.2.1 Y_Re_indexIn.2.2.2 ∈ tb := mem_tb 810 (by decide +kernel) rfl
def Y_Re_fail : YT := (⟨"SinkingChoir$Reader", "fail", "(I)V"⟩, prog_7_method_5_code, 2, none)
theorem cw_Re_fail : Cond.code Y_Re_fail.1 Y_Re_fail.2.1 Y_Re_fail.2.2.1 Y_Re_fail.2.2.2 ∈ tb := mem_tb 889 (by decide +kernel) rfl
def Y_Pr_open : YT := (⟨"SinkingChoir$Program", "open", "(I)V"⟩, prog_6_method_5_code, 2, none)
theorem cw_Pr_open : Cond.code Y_Pr_open.1 Y_Pr_open.2.1 Y_Pr_open.2.2.1 Y_Pr_open.2.2.2 ∈ tb := mem_tb 893 (by decide +kernel) rfl
def Y_Pr_add : YT := (⟨"SinkingChoir$Program", "add", "(II)I"⟩, prog_6_method_3_code, 3, some .int)
theorem cw_Pr_add : Cond.code Y_Pr_add.1 Y_Pr_add.2.1 Y_Pr_add.2.2.1 Y_Pr_add.2.2.2 ∈ tb := mem_tb 910 (by decide +kernel) rfl
def Y_Pr_land : YT := (⟨"SinkingChoir$Program", "land", "(I)V"⟩, prog_6_method_4_code, 2, none)
theorem cw_Pr_land : Cond.code Y_Pr_land.1 Y_Pr_land.2.1 Y_Pr_land.2.2.1 Y_Pr_land.2.2.2 ∈ tb := mem_tb 945 (by decide +kernel) rfl
def Y_Re_comparison : YT := (⟨"SinkingChoir$Reader", "comparison", "()I"⟩, prog_7_method_12_code, 2, some .int)
theorem cw_Re_comparison : Cond.code Y_Re_comparison.1 Y_Re_comparison.2.1 Y_Re_comparison.2.2.1 Y_Re_comparison.2.2.2 ∈ tb := mem_tb 941 (by decide +kernel) rfl
def Y_Re_take : YT := (⟨"SinkingChoir$Reader", "take", "(I)V"⟩, prog_7_method_6_code, 2, none)
theorem cw_Re_take : Cond.code Y_Re_take.1 Y_Re_take.2.1 Y_Re_take.2.2.1 Y_Re_take.2.2.2 ∈ tb := mem_tb 921 (by decide +kernel) rfl
def Y_Re_isDigit : YT := (⟨"SinkingChoir$Reader", "isDigit", "(I)Z"⟩, prog_7_method_16_code, 1, some .boolean)
theorem cw_Re_isDigit : Cond.code Y_Re_isDigit.1 Y_Re_isDigit.2.1 Y_Re_isDigit.2.2.1 Y_Re_isDigit.2.2.2 ∈ tb := mem_tb 913 (by decide +kernel) rfl
def Y_Re_number : YT := (⟨"SinkingChoir$Reader", "number", "()V"⟩, prog_7_method_17_code, 3, none)
theorem cw_Re_number : Cond.code Y_Re_number.1 Y_Re_number.2.1 Y_Re_number.2.2.1 Y_Re_number.2.2.2 ∈ tb := mem_tb 917 (by decide +kernel) rfl
def Y_Re_either : YT := (⟨"SinkingChoir$Reader", "either", "(I)V"⟩, prog_7_method_9_code, 4, none)
theorem cw_Re_either : Cond.code Y_Re_either.1 Y_Re_either.2.1 Y_Re_either.2.2.1 Y_Re_either.2.2.2 ∈ tb := mem_tb 929 (by decide +kernel) rfl
def Y_Re_all : YT := (⟨"SinkingChoir$Reader", "all", "(I)V"⟩, prog_7_method_10_code, 4, none)
theorem cw_Re_all : Cond.code Y_Re_all.1 Y_Re_all.2.1 Y_Re_all.2.2.1 Y_Re_all.2.2.2 ∈ tb := mem_tb 933 (by decide +kernel) rfl
def Y_Re_piece : YT := (⟨"SinkingChoir$Reader", "piece", "(I)V"⟩, prog_7_method_11_code, 4, none)
theorem cw_Re_piece : Cond.code Y_Re_piece.1 Y_Re_piece.2.1 Y_Re_piece.2.2.1 Y_Re_piece.2.2.2 ∈ tb := mem_tb 937 (by decide +kernel) rfl
def Y_Re_sum : YT := (⟨"SinkingChoir$Reader", "sum", "(I)V"⟩, prog_7_method_13_code, 4, none)
theorem cw_Re_sum : Cond.code Y_Re_sum.1 Y_Re_sum.2.1 Y_Re_sum.2.2.1 Y_Re_sum.2.2.2 ∈ tb := mem_tb 897 (by decide +kernel) rfl
def Y_Re_product : YT := (⟨"SinkingChoir$Reader", "product", "(I)V"⟩, prog_7_method_14_code, 4, none)
theorem cw_Re_product : Cond.code Y_Re_product.1 Y_Re_product.2.1 Y_Re_product.2.2.1 Y_Re_product.2.2.2 ∈ tb := mem_tb 901 (by decide +kernel) rfl
def Y_Re_factor : YT := (⟨"SinkingChoir$Reader", "factor", "(I)V"⟩, prog_7_method_15_code, 4, none)
theorem cw_Re_factor : Cond.code Y_Re_factor.1 Y_Re_factor.2.1 Y_Re_factor.2.2.1 Y_Re_factor.2.2.2 ∈ tb := mem_tb 905 (by decide +kernel) rfl
def Y_Pr_divide : YT := (⟨"SinkingChoir$Program", "divide", "()V"⟩, prog_6_method_6_code, 1, none)
theorem cw_Pr_divide : Cond.code Y_Pr_divide.1 Y_Pr_divide.2.1 Y_Pr_divide.2.2.1 Y_Pr_divide.2.2.2 ∈ tb := mem_tb 925 (by decide +kernel) rfl
def Y_Pr_close : YT := (⟨"SinkingChoir$Program", "close", "()V"⟩, prog_6_method_7_code, 1, none)
theorem cw_Pr_close : Cond.code Y_Pr_close.1 Y_Pr_close.2.1 Y_Pr_close.2.2.1 Y_Pr_close.2.2.2 ∈ tb := mem_tb 949 (by decide +kernel) rfl
def Y_Re_clause : YT := (⟨"SinkingChoir$Reader", "clause", "(I)V"⟩, prog_7_method_8_code, 3, none)
theorem cw_Re_clause : Cond.code Y_Re_clause.1 Y_Re_clause.2.1 Y_Re_clause.2.2.1 Y_Re_clause.2.2.2 ∈ tb := mem_tb 802 (by decide +kernel) rfl
def Y_Re_read : YT := (⟨"SinkingChoir$Reader", "read", "([II)I"⟩, prog_7_method_2_code, 4, some .int)
theorem cw_Re_read : Cond.code Y_Re_read.1 Y_Re_read.2.1 Y_Re_read.2.2.1 Y_Re_read.2.2.2 ∈ tb := mem_tb 792 (by decide +kernel) rfl
def Y_Re_exchange : YT := (⟨"SinkingChoir$Reader", "exchange", "(LSinkingChoir$Program;)LSinkingChoir$Program;"⟩, prog_7_method_3_code, 3, some (.object "SinkingChoir$Program"))
theorem cw_Re_exchange : Cond.code Y_Re_exchange.1 Y_Re_exchange.2.1 Y_Re_exchange.2.2.1 Y_Re_exchange.2.2.2 ∈ tb := mem_tb 953 (by decide +kernel) rfl
def Y_X_text : YT := (⟨"SinkingChoir", "text", "(I)I"⟩, prog_1_method_20_code, 3, some .int)
theorem cw_X_text : Cond.code Y_X_text.1 Y_X_text.2.1 Y_X_text.2.2.1 Y_X_text.2.2.2 ∈ tb := mem_tb 788 (by decide +kernel) rfl
def Y_M_isGood : YT := (⟨"SinkingChoirModel", "isGood", "()Z"⟩, prog_14_method_54_code, 1, some .boolean)
theorem cw_M_isGood : Cond.code Y_M_isGood.1 Y_M_isGood.2.1 Y_M_isGood.2.2.1 Y_M_isGood.2.2.2 ∈ tb := mem_tb 1706 (by decide +kernel) rfl
def Y_M_here : YT := (⟨"SinkingChoirModel", "here", "()I"⟩, prog_14_method_52_code, 1, some .int)
theorem cw_M_here : Cond.code Y_M_here.1 Y_M_here.2.1 Y_M_here.2.2.1 Y_M_here.2.2.2 ∈ tb := mem_tb 1714 (by decide +kernel) rfl
def Y_M_wrongs : YT := (⟨"SinkingChoirModel", "wrongs", "(II)V"⟩, prog_14_method_53_code, 3, none)
theorem cw_M_wrongs : Cond.code Y_M_wrongs.1 Y_M_wrongs.2.1 Y_M_wrongs.2.2.1 Y_M_wrongs.2.2.2 ∈ tb := mem_tb 1718 (by decide +kernel) rfl
def Y_M_puts : YT := (⟨"SinkingChoirModel", "puts", "(I)V"⟩, prog_14_method_57_code, 2, none)
theorem cw_M_puts : Cond.code Y_M_puts.1 Y_M_puts.2.1 Y_M_puts.2.2.1 Y_M_puts.2.2.2 ∈ tb := mem_tb 1734 (by decide +kernel) rfl
def Y_M_opens : YT := (⟨"SinkingChoirModel", "opens", "()V"⟩, prog_14_method_58_code, 1, none)
theorem cw_M_opens : Cond.code Y_M_opens.1 Y_M_opens.2.1 Y_M_opens.2.2.1 Y_M_opens.2.2.2 ∈ tb := mem_tb 1730 (by decide +kernel) rfl
def Y_M_seesDigit : YT := (⟨"SinkingChoirModel", "seesDigit", "()Z"⟩, prog_14_method_59_code, 1, some .boolean)
theorem cw_M_seesDigit : Cond.code Y_M_seesDigit.1 Y_M_seesDigit.2.1 Y_M_seesDigit.2.2.1 Y_M_seesDigit.2.2.2 ∈ tb := mem_tb 1738 (by decide +kernel) rfl
def Y_M_reads : YT := (⟨"SinkingChoirModel", "reads", "()I"⟩, prog_14_method_60_code, 3, some .int)
theorem cw_M_reads : Cond.code Y_M_reads.1 Y_M_reads.2.1 Y_M_reads.2.2.1 Y_M_reads.2.2.2 ∈ tb := mem_tb 1744 (by decide +kernel) rfl
def Y_M_emit : YT := (⟨"SinkingChoirModel", "emit", "(II)V"⟩, prog_14_method_55_code, 3, none)
theorem cw_M_emit : Cond.code Y_M_emit.1 Y_M_emit.2.1 Y_M_emit.2.2.1 Y_M_emit.2.2.2 ∈ tb := mem_tb 1748 (by decide +kernel) rfl
def Y_M_isValue : YT := (⟨"SinkingChoirModel", "isValue", "(I)Z"⟩, prog_14_method_64_code, 1, some .boolean)
theorem cw_M_isValue : Cond.code Y_M_isValue.1 Y_M_isValue.2.1 Y_M_isValue.2.2.1 Y_M_isValue.2.2.2 ∈ tb := mem_tb 1751 (by decide +kernel) rfl
def Y_M_factor : YT := (⟨"SinkingChoirModel", "factor", "()V"⟩, prog_14_method_68_code, 1, none)
theorem cw_M_factor : Cond.code Y_M_factor.1 Y_M_factor.2.1 Y_M_factor.2.2.1 Y_M_factor.2.2.2 ∈ tb := mem_tb 1726 (by decide +kernel) rfl
def Y_M_isTimes : YT := (⟨"SinkingChoirModel", "isTimes", "(I)Z"⟩, prog_14_method_61_code, 1, some .boolean)
theorem cw_M_isTimes : Cond.code Y_M_isTimes.1 Y_M_isTimes.2.1 Y_M_isTimes.2.2.1 Y_M_isTimes.2.2.2 ∈ tb := mem_tb 1758 (by decide +kernel) rfl
def Y_M_isPlus : YT := (⟨"SinkingChoirModel", "isPlus", "(I)Z"⟩, prog_14_method_62_code, 1, some .boolean)
theorem cw_M_isPlus : Cond.code Y_M_isPlus.1 Y_M_isPlus.2.1 Y_M_isPlus.2.2.1 Y_M_isPlus.2.2.2 ∈ tb := mem_tb 1761 (by decide +kernel) rfl
def Y_M_top : YT := (⟨"SinkingChoirModel", "top", "()I"⟩, prog_14_method_56_code, 1, some .int)
theorem cw_M_top : Cond.code Y_M_top.1 Y_M_top.2.1 Y_M_top.2.2.1 Y_M_top.2.2.2 ∈ tb := mem_tb 1769 (by decide +kernel) rfl
def Y_M_sums : YT := (⟨"SinkingChoirModel", "sums", "(Z)V"⟩, prog_14_method_65_code, 2, none)
theorem cw_M_sums : Cond.code Y_M_sums.1 Y_M_sums.2.1 Y_M_sums.2.2.1 Y_M_sums.2.2.2 ∈ tb := mem_tb 1765 (by decide +kernel) rfl
def Y_M_stays : YT := (⟨"SinkingChoirModel", "stays", "()Z"⟩, prog_14_method_69_code, 2, some .boolean)
theorem cw_M_stays : Cond.code Y_M_stays.1 Y_M_stays.2.1 Y_M_stays.2.2.1 Y_M_stays.2.2.2 ∈ tb := mem_tb 1755 (by decide +kernel) rfl
def Y_M_value : YT := (⟨"SinkingChoirModel", "value", "()V"⟩, prog_14_method_70_code, 2, none)
theorem cw_M_value : Cond.code Y_M_value.1 Y_M_value.2.1 Y_M_value.2.2.1 Y_M_value.2.2.2 ∈ tb := mem_tb 1722 (by decide +kernel) rfl
def Y_M_isSign : YT := (⟨"SinkingChoirModel", "isSign", "(I)Z"⟩, prog_14_method_63_code, 1, some .boolean)
theorem cw_M_isSign : Cond.code Y_M_isSign.1 Y_M_isSign.2.1 Y_M_isSign.2.2.1 Y_M_isSign.2.2.2 ∈ tb := mem_tb 1780 (by decide +kernel) rfl
def Y_M_ends : YT := (⟨"SinkingChoirModel", "ends", "()V"⟩, prog_14_method_67_code, 1, none)
theorem cw_M_ends : Cond.code Y_M_ends.1 Y_M_ends.2.1 Y_M_ends.2.2.1 Y_M_ends.2.2.2 ∈ tb := mem_tb 1784 (by decide +kernel) rfl
def Y_M_pieceOfC : YT := (⟨"SinkingChoirModel", "pieceOfC", "()V"⟩, prog_14_method_71_code, 2, none)
theorem cw_M_pieceOfC : Cond.code Y_M_pieceOfC.1 Y_M_pieceOfC.2.1 Y_M_pieceOfC.2.2.1 Y_M_pieceOfC.2.2.2 ∈ tb := mem_tb 1777 (by decide +kernel) rfl
def Y_M_joins : YT := (⟨"SinkingChoirModel", "joins", "(Z)V"⟩, prog_14_method_66_code, 2, none)
theorem cw_M_joins : Cond.code Y_M_joins.1 Y_M_joins.2.1 Y_M_joins.2.2.1 Y_M_joins.2.2.2 ∈ tb := mem_tb 1792 (by decide +kernel) rfl
def Y_M_goesBehind : YT := (⟨"SinkingChoirModel", "goesBehind", "()Z"⟩, prog_14_method_72_code, 2, some .boolean)
theorem cw_M_goesBehind : Cond.code Y_M_goesBehind.1 Y_M_goesBehind.2.1 Y_M_goesBehind.2.2.1 Y_M_goesBehind.2.2.2 ∈ tb := mem_tb 1788 (by decide +kernel) rfl
def Y_M_condition : YT := (⟨"SinkingChoirModel", "condition", "()V"⟩, prog_14_method_73_code, 2, none)
theorem cw_M_condition : Cond.code Y_M_condition.1 Y_M_condition.2.1 Y_M_condition.2.2.1 Y_M_condition.2.2.2 ∈ tb := mem_tb 1773 (by decide +kernel) rfl
def Y_M_clause : YT := (⟨"SinkingChoirModel", "clause", "()V"⟩, prog_14_method_74_code, 2, none)
theorem cw_M_clause : Cond.code Y_M_clause.1 Y_M_clause.2.1 Y_M_clause.2.2.1 Y_M_clause.2.2.2 ∈ tb := mem_tb 1710 (by decide +kernel) rfl
def Y_M_text : YT := (⟨"SinkingChoirModel", "text", "(I)I"⟩, prog_14_method_75_code, 4, some .int)
theorem cw_M_text : Cond.code Y_M_text.1 Y_M_text.2.1 Y_M_text.2.2.1 Y_M_text.2.2.2 ∈ tb := mem_tb 1701 (by decide +kernel) rfl
def Y_Ch_sings : YT := (⟨"SinkingChoir$Choir", "sings", "(II)Z"⟩, prog_2_method_3_code, 3, some .boolean)
theorem cw_Ch_sings : Cond.code Y_Ch_sings.1 Y_Ch_sings.2.1 Y_Ch_sings.2.2.1 Y_Ch_sings.2.2.2 ∈ tb := mem_tb 961 (by decide +kernel) rfl
def Y_Ch_howMany : YT := (⟨"SinkingChoir$Choir", "howMany", "(I)I"⟩, prog_2_method_4_code, 4, some .int)
theorem cw_Ch_howMany : Cond.code Y_Ch_howMany.1 Y_Ch_howMany.2.1 Y_Ch_howMany.2.2.1 Y_Ch_howMany.2.2.2 ∈ tb := mem_tb 975 (by decide +kernel) rfl
def Y_Ch_lastNote : YT := (⟨"SinkingChoir$Choir", "lastNote", "(II)I"⟩, prog_2_method_6_code, 4, some .int)
theorem cw_Ch_lastNote : Cond.code Y_Ch_lastNote.1 Y_Ch_lastNote.2.1 Y_Ch_lastNote.2.2.1 Y_Ch_lastNote.2.2.2 ∈ tb := mem_tb 984 (by decide +kernel) rfl
def Y_Mt_floorMod : YT := (⟨"java/lang/Math", "floorMod", "(II)I"⟩, prog_17_method_50_code, 3, some .int)
theorem cw_Mt_floorMod : Cond.code Y_Mt_floorMod.1 Y_Mt_floorMod.2.1 Y_Mt_floorMod.2.2.1 Y_Mt_floorMod.2.2.2 ∈ tb := mem_tb 997 (by decide +kernel) rfl
def Y_Ch_tableOf : YT := (⟨"SinkingChoir$Choir", "tableOf", "(II)I"⟩, prog_2_method_10_code, 3, some .int)
theorem cw_Ch_tableOf : Cond.code Y_Ch_tableOf.1 Y_Ch_tableOf.2.1 Y_Ch_tableOf.2.2.1 Y_Ch_tableOf.2.2.2 ∈ tb := mem_tb 993 (by decide +kernel) rfl
def Y_Si_tableOf : YT := (⟨"SinkingChoir$Singing", "tableOf", "(II)J"⟩, prog_10_method_8_code, 3, some .long)
theorem cw_Si_tableOf : Cond.code Y_Si_tableOf.1 Y_Si_tableOf.2.1 Y_Si_tableOf.2.2.1 Y_Si_tableOf.2.2.2 ∈ tb := mem_tb 988 (by decide +kernel) rfl
def Y_Si_giveAgain : YT := (⟨"SinkingChoir$Singing", "giveAgain", "(I)V"⟩, prog_10_method_4_code, 4, none)
theorem cw_Si_giveAgain : Cond.code Y_Si_giveAgain.1 Y_Si_giveAgain.2.1 Y_Si_giveAgain.2.2.1 Y_Si_giveAgain.2.2.2 ∈ tb := mem_tb 980 (by decide +kernel) rfl
def Y_Si_isKnowing : YT := (⟨"SinkingChoir$Singing", "isKnowing", "(I)Z"⟩, prog_10_method_7_code, 2, some .boolean)
theorem cw_Si_isKnowing : Cond.code Y_Si_isKnowing.1 Y_Si_isKnowing.2.1 Y_Si_isKnowing.2.2.1 Y_Si_isKnowing.2.2.2 ∈ tb := mem_tb 1011 (by decide +kernel) rfl
def Y_Mt_floorDiv : YT := (⟨"java/lang/Math", "floorDiv", "(JJ)J"⟩, prog_17_method_49_code, 6, some .long)
theorem cw_Mt_floorDiv : Cond.code Y_Mt_floorDiv.1 Y_Mt_floorDiv.2.1 Y_Mt_floorDiv.2.2.1 Y_Mt_floorDiv.2.2.2 ∈ tb := mem_tb 1018 (by decide +kernel) rfl
def Y_Si_tellLetters : YT := (⟨"SinkingChoir$Singing", "tellLetters", "(III)V"⟩, prog_10_method_6_code, 6, none)
theorem cw_Si_tellLetters : Cond.code Y_Si_tellLetters.1 Y_Si_tellLetters.2.1 Y_Si_tellLetters.2.2.1 Y_Si_tellLetters.2.2.2 ∈ tb := mem_tb 1007 (by decide +kernel) rfl
def Y_Pr_reckoned : YT := (⟨"SinkingChoir$Program", "reckoned", "(III)I"⟩, prog_6_method_11_code, 3, some .int)
theorem cw_Pr_reckoned : Cond.code Y_Pr_reckoned.1 Y_Pr_reckoned.2.1 Y_Pr_reckoned.2.2.1 Y_Pr_reckoned.2.2.2 ∈ tb := mem_tb 1031 (by decide +kernel) rfl
def Y_Pr_reckon : YT := (⟨"SinkingChoir$Program", "reckon", "(II[I)Z"⟩, prog_6_method_10_code, 8, some .boolean)
theorem cw_Pr_reckon : Cond.code Y_Pr_reckon.1 Y_Pr_reckon.2.1 Y_Pr_reckon.2.2.1 Y_Pr_reckon.2.2.2 ∈ tb := mem_tb 1027 (by decide +kernel) rfl
def Y_Pr_within : YT := (⟨"SinkingChoir$Program", "within", "(II)I"⟩, prog_6_method_9_code, 4, some .int)
theorem cw_Pr_within : Cond.code Y_Pr_within.1 Y_Pr_within.2.1 Y_Pr_within.2.2.1 Y_Pr_within.2.2.2 ∈ tb := mem_tb 1034 (by decide +kernel) rfl
def Y_Pr_weigh : YT := (⟨"SinkingChoir$Program", "weigh", "([I[I)V"⟩, prog_6_method_8_code, 7, none)
theorem cw_Pr_weigh : Cond.code Y_Pr_weigh.1 Y_Pr_weigh.2.1 Y_Pr_weigh.2.2.1 Y_Pr_weigh.2.2.2 ∈ tb := mem_tb 1022 (by decide +kernel) rfl
def Y_Ch_heard : YT := (⟨"SinkingChoir$Choir", "heard", "(III)I"⟩, prog_2_method_9_code, 4, some .int)
theorem cw_Ch_heard : Cond.code Y_Ch_heard.1 Y_Ch_heard.2.1 Y_Ch_heard.2.2.1 Y_Ch_heard.2.2.2 ∈ tb := mem_tb 1041 (by decide +kernel) rfl
def Y_Si_millsOf : YT := (⟨"SinkingChoir$Singing", "millsOf", "(II)J"⟩, prog_10_method_9_code, 3, some .long)
theorem cw_Si_millsOf : Cond.code Y_Si_millsOf.1 Y_Si_millsOf.2.1 Y_Si_millsOf.2.2.1 Y_Si_millsOf.2.2.2 ∈ tb := mem_tb 1046 (by decide +kernel) rfl
def Y_Si_givenIn : YT := (⟨"SinkingChoir$Singing", "givenIn", "(I)I"⟩, prog_10_method_10_code, 3, some .int)
theorem cw_Si_givenIn : Cond.code Y_Si_givenIn.1 Y_Si_givenIn.2.1 Y_Si_givenIn.2.2.1 Y_Si_givenIn.2.2.2 ∈ tb := mem_tb 1050 (by decide +kernel) rfl
def Y_Si_aim : YT := (⟨"SinkingChoir$Singing", "aim", "(IIIJ)V"⟩, prog_10_method_11_code, 12, none)
theorem cw_Si_aim : Cond.code Y_Si_aim.1 Y_Si_aim.2.1 Y_Si_aim.2.2.1 Y_Si_aim.2.2.2 ∈ tb := mem_tb 1038 (by decide +kernel) rfl
def Y_Si_blend : YT := (⟨"SinkingChoir$Singing", "blend", "(IIII)J"⟩, prog_10_method_12_code, 11, some .long)
theorem cw_Si_blend : Cond.code Y_Si_blend.1 Y_Si_blend.2.1 Y_Si_blend.2.2.1 Y_Si_blend.2.2.2 ∈ tb := mem_tb 1054 (by decide +kernel) rfl
def Y_Si_singNote : YT := (⟨"SinkingChoir$Singing", "singNote", "(II)V"⟩, prog_10_method_5_code, 6, none)
theorem cw_Si_singNote : Cond.code Y_Si_singNote.1 Y_Si_singNote.2.1 Y_Si_singNote.2.2.1 Y_Si_singNote.2.2.2 ∈ tb := mem_tb 1002 (by decide +kernel) rfl
def Y_Si_sing : YT := (⟨"SinkingChoir$Singing", "sing", "([IIIZ)V"⟩, prog_10_method_3_code, 7, none)
theorem cw_Si_sing : Cond.code Y_Si_sing.1 Y_Si_sing.2.1 Y_Si_sing.2.2.1 Y_Si_sing.2.2.2 ∈ tb := mem_tb 971 (by decide +kernel) rfl
def Y_Si_asTold : YT := (⟨"SinkingChoir$Singing", "asTold", "()V"⟩, prog_10_method_2_code, 1, none)
theorem cw_Si_asTold : Cond.code Y_Si_asTold.1 Y_Si_asTold.2.1 Y_Si_asTold.2.2.1 Y_Si_asTold.2.2.2 ∈ tb := mem_tb 967 (by decide +kernel) rfl
def Y_Si_sung : YT := (⟨"SinkingChoir$Singing", "sung", "(II)J"⟩, prog_10_method_13_code, 3, some .long)
theorem cw_Si_sung : Cond.code Y_Si_sung.1 Y_Si_sung.2.1 Y_Si_sung.2.2.1 Y_Si_sung.2.2.2 ∈ tb := mem_tb 1058 (by decide +kernel) rfl
def Y_X_pitch : YT := (⟨"SinkingChoir", "pitch", "(II)I"⟩, prog_1_method_21_code, 3, some .int)
theorem cw_X_pitch : Cond.code Y_X_pitch.1 Y_X_pitch.2.1 Y_X_pitch.2.2.1 Y_X_pitch.2.2.2 ∈ tb := mem_tb 957 (by decide +kernel) rfl
def Y_M_sings : YT := (⟨"SinkingChoirModel", "sings", "(II)Z"⟩, prog_14_method_76_code, 3, some .boolean)
theorem cw_M_sings : Cond.code Y_M_sings.1 Y_M_sings.2.1 Y_M_sings.2.2.1 Y_M_sings.2.2.2 ∈ tb := mem_tb 1800 (by decide +kernel) rfl
def Y_M_readies : YT := (⟨"SinkingChoirModel", "readies", "()V"⟩, prog_14_method_92_code, 2, none)
theorem cw_M_readies : Cond.code Y_M_readies.1 Y_M_readies.2.1 Y_M_readies.2.2.1 Y_M_readies.2.2.2 ∈ tb := mem_tb 1808 (by decide +kernel) rfl
def Y_M_has : YT := (⟨"SinkingChoirModel", "has", "(II)Z"⟩, prog_14_method_3_code, 2, some .boolean)
theorem cw_M_has : Cond.code Y_M_has.1 Y_M_has.2.1 Y_M_has.2.2.1 Y_M_has.2.2.2 ∈ tb := mem_tb 1815 (by decide +kernel) rfl
def Y_M_keyOf : YT := (⟨"SinkingChoirModel", "keyOf", "(II)I"⟩, prog_14_method_77_code, 3, some .int)
theorem cw_M_keyOf : Cond.code Y_M_keyOf.1 Y_M_keyOf.2.1 Y_M_keyOf.2.2.1 Y_M_keyOf.2.2.2 ∈ tb := mem_tb 1819 (by decide +kernel) rfl
def Y_M_tableOf : YT := (⟨"SinkingChoirModel", "tableOf", "(I)I"⟩, prog_14_method_79_code, 2, some .int)
theorem cw_M_tableOf : Cond.code Y_M_tableOf.1 Y_M_tableOf.2.1 Y_M_tableOf.2.2.1 Y_M_tableOf.2.2.2 ∈ tb := mem_tb 1823 (by decide +kernel) rfl
def Y_M_hearsOf : YT := (⟨"SinkingChoirModel", "hearsOf", "(II)I"⟩, prog_14_method_87_code, 4, some .int)
theorem cw_M_hearsOf : Cond.code Y_M_hearsOf.1 Y_M_hearsOf.2.1 Y_M_hearsOf.2.2.1 Y_M_hearsOf.2.2.2 ∈ tb := mem_tb 1837 (by decide +kernel) rfl
def Y_M_sizeFor : YT := (⟨"SinkingChoirModel", "sizeFor", "(II)I"⟩, prog_14_method_78_code, 3, some .int)
theorem cw_M_sizeFor : Cond.code Y_M_sizeFor.1 Y_M_sizeFor.2.1 Y_M_sizeFor.2.2.1 Y_M_sizeFor.2.2.2 ∈ tb := mem_tb 1841 (by decide +kernel) rfl
def Y_M_floor : YT := (⟨"SinkingChoirModel", "floor", "(JJ)J"⟩, prog_14_method_5_code, 4, some .long)
theorem cw_M_floor : Cond.code Y_M_floor.1 Y_M_floor.2.1 Y_M_floor.2.2.1 Y_M_floor.2.2.2 ∈ tb := mem_tb 1844 (by decide +kernel) rfl
def Y_M_listens : YT := (⟨"SinkingChoirModel", "listens", "(II)V"⟩, prog_14_method_88_code, 10, none)
theorem cw_M_listens : Cond.code Y_M_listens.1 Y_M_listens.2.1 Y_M_listens.2.2.1 Y_M_listens.2.2.2 ∈ tb := mem_tb 1833 (by decide +kernel) rfl
def Y_M_worked : YT := (⟨"SinkingChoirModel", "worked", "(III)I"⟩, prog_14_method_83_code, 3, some .int)
theorem cw_M_worked : Cond.code Y_M_worked.1 Y_M_worked.2.1 Y_M_worked.2.2.1 Y_M_worked.2.2.2 ∈ tb := mem_tb 1859 (by decide +kernel) rfl
def Y_M_does : YT := (⟨"SinkingChoirModel", "does", "(II)V"⟩, prog_14_method_84_code, 4, none)
theorem cw_M_does : Cond.code Y_M_does.1 Y_M_does.2.1 Y_M_does.2.2.1 Y_M_does.2.2.2 ∈ tb := mem_tb 1856 (by decide +kernel) rfl
def Y_M_leapOf : YT := (⟨"SinkingChoirModel", "leapOf", "()I"⟩, prog_14_method_81_code, 2, some .int)
theorem cw_M_leapOf : Cond.code Y_M_leapOf.1 Y_M_leapOf.2.1 Y_M_leapOf.2.2.1 Y_M_leapOf.2.2.2 ∈ tb := mem_tb 1867 (by decide +kernel) rfl
def Y_M_singing : YT := (⟨"SinkingChoirModel", "singing", "(I)I"⟩, prog_14_method_80_code, 4, some .int)
theorem cw_M_singing : Cond.code Y_M_singing.1 Y_M_singing.2.1 Y_M_singing.2.2.1 Y_M_singing.2.2.2 ∈ tb := mem_tb 1871 (by decide +kernel) rfl
def Y_M_valueOf : YT := (⟨"SinkingChoirModel", "valueOf", "(I)I"⟩, prog_14_method_82_code, 3, some .int)
theorem cw_M_valueOf : Cond.code Y_M_valueOf.1 Y_M_valueOf.2.1 Y_M_valueOf.2.2.1 Y_M_valueOf.2.2.2 ∈ tb := mem_tb 1863 (by decide +kernel) rfl
def Y_M_works : YT := (⟨"SinkingChoirModel", "works", "(II)V"⟩, prog_14_method_85_code, 5, none)
theorem cw_M_works : Cond.code Y_M_works.1 Y_M_works.2.1 Y_M_works.2.2.1 Y_M_works.2.2.2 ∈ tb := mem_tb 1852 (by decide +kernel) rfl
def Y_M_tells : YT := (⟨"SinkingChoirModel", "tells", "(III)I"⟩, prog_14_method_86_code, 6, some .int)
theorem cw_M_tells : Cond.code Y_M_tells.1 Y_M_tells.2.1 Y_M_tells.2.2.1 Y_M_tells.2.2.2 ∈ tb := mem_tb 1848 (by decide +kernel) rfl
def Y_M_aimOf : YT := (⟨"SinkingChoirModel", "aimOf", "(IIJJJJ)J"⟩, prog_14_method_89_code, 21, some .long)
theorem cw_M_aimOf : Cond.code Y_M_aimOf.1 Y_M_aimOf.2.1 Y_M_aimOf.2.2.1 Y_M_aimOf.2.2.2 ∈ tb := mem_tb 1876 (by decide +kernel) rfl
def Y_M_singsNote : YT := (⟨"SinkingChoirModel", "singsNote", "(II)V"⟩, prog_14_method_90_code, 10, none)
theorem cw_M_singsNote : Cond.code Y_M_singsNote.1 Y_M_singsNote.2.1 Y_M_singsNote.2.2.1 Y_M_singsNote.2.2.2 ∈ tb := mem_tb 1828 (by decide +kernel) rfl
def Y_M_isSung : YT := (⟨"SinkingChoirModel", "isSung", "()V"⟩, prog_14_method_91_code, 4, none)
theorem cw_M_isSung : Cond.code Y_M_isSung.1 Y_M_isSung.2.1 Y_M_isSung.2.2.1 Y_M_isSung.2.2.2 ∈ tb := mem_tb 1812 (by decide +kernel) rfl
def Y_M_plainly : YT := (⟨"SinkingChoirModel", "plainly", "()V"⟩, prog_14_method_93_code, 1, none)
theorem cw_M_plainly : Cond.code Y_M_plainly.1 Y_M_plainly.2.1 Y_M_plainly.2.2.1 Y_M_plainly.2.2.2 ∈ tb := mem_tb 1804 (by decide +kernel) rfl
def Y_M_pitch : YT := (⟨"SinkingChoirModel", "pitch", "(II)I"⟩, prog_14_method_100_code, 3, some .int)
theorem cw_M_pitch : Cond.code Y_M_pitch.1 Y_M_pitch.2.1 Y_M_pitch.2.2.1 Y_M_pitch.2.2.2 ∈ tb := mem_tb 1796 (by decide +kernel) rfl
def Y_Si_off : YT := (⟨"SinkingChoir$Singing", "off", "(I)J"⟩, prog_10_method_14_code, 7, some .long)
theorem cw_Si_off : Cond.code Y_Si_off.1 Y_Si_off.2.1 Y_Si_off.2.2.1 Y_Si_off.2.2.2 ∈ tb := mem_tb 1068 (by decide +kernel) rfl
def Y_Mt_abs_J : YT := (⟨"java/lang/Math", "abs", "(J)J"⟩, prog_17_method_61_code, 2, some .long)
theorem cw_Mt_abs_J : Cond.code Y_Mt_abs_J.1 Y_Mt_abs_J.2.1 Y_Mt_abs_J.2.2.1 Y_Mt_abs_J.2.2.2 ∈ tb := mem_tb 1076 (by decide +kernel) rfl
def Y_Si_foul : YT := (⟨"SinkingChoir$Singing", "foul", "(I)J"⟩, prog_10_method_15_code, 8, some .long)
theorem cw_Si_foul : Cond.code Y_Si_foul.1 Y_Si_foul.2.1 Y_Si_foul.2.2.1 Y_Si_foul.2.2.2 ∈ tb := mem_tb 1073 (by decide +kernel) rfl
def Y_Ch_above : YT := (⟨"SinkingChoir$Choir", "above", "(II)I"⟩, prog_2_method_12_code, 4, some .int)
theorem cw_Ch_above : Cond.code Y_Ch_above.1 Y_Ch_above.2.1 Y_Ch_above.2.2.1 Y_Ch_above.2.2.2 ∈ tb := mem_tb 1084 (by decide +kernel) rfl
def Y_Ch_tableFoul : YT := (⟨"SinkingChoir$Choir", "tableFoul", "(I)J"⟩, prog_2_method_11_code, 6, some .long)
theorem cw_Ch_tableFoul : Cond.code Y_Ch_tableFoul.1 Y_Ch_tableFoul.2.1 Y_Ch_tableFoul.2.2.1 Y_Ch_tableFoul.2.2.2 ∈ tb := mem_tb 1080 (by decide +kernel) rfl
def Y_X_beat : YT := (⟨"SinkingChoir", "beat", "(II)J"⟩, prog_1_method_22_code, 3, some .long)
theorem cw_X_beat : Cond.code Y_X_beat.1 Y_X_beat.2.1 Y_X_beat.2.2.1 Y_X_beat.2.2.2 ∈ tb := mem_tb 1062 (by decide +kernel) rfl
def Y_M_offOf : YT := (⟨"SinkingChoirModel", "offOf", "(I)J"⟩, prog_14_method_94_code, 5, some .long)
theorem cw_M_offOf : Cond.code Y_M_offOf.1 Y_M_offOf.2.1 Y_M_offOf.2.2.1 Y_M_offOf.2.2.2 ∈ tb := mem_tb 1886 (by decide +kernel) rfl
def Y_M_foulOf : YT := (⟨"SinkingChoirModel", "foulOf", "(I)J"⟩, prog_14_method_95_code, 6, some .long)
theorem cw_M_foulOf : Cond.code Y_M_foulOf.1 Y_M_foulOf.2.1 Y_M_foulOf.2.2.1 Y_M_foulOf.2.2.2 ∈ tb := mem_tb 1890 (by decide +kernel) rfl
def Y_M_tableFoul : YT := (⟨"SinkingChoirModel", "tableFoul", "(I)J"⟩, prog_14_method_101_code, 6, some .long)
theorem cw_M_tableFoul : Cond.code Y_M_tableFoul.1 Y_M_tableFoul.2.1 Y_M_tableFoul.2.2.1 Y_M_tableFoul.2.2.2 ∈ tb := mem_tb 1894 (by decide +kernel) rfl
def Y_M_beat : YT := (⟨"SinkingChoirModel", "beat", "(II)J"⟩, prog_14_method_102_code, 3, some .long)
theorem cw_M_beat : Cond.code Y_M_beat.1 Y_M_beat.2.1 Y_M_beat.2.2.1 Y_M_beat.2.2.2 ∈ tb := mem_tb 1880 (by decide +kernel) rfl
def Y_Ch_firstBeat : YT := (⟨"SinkingChoir$Choir", "firstBeat", "()I"⟩, prog_2_method_7_code, 2, some .int)
theorem cw_Ch_firstBeat : Cond.code Y_Ch_firstBeat.1 Y_Ch_firstBeat.2.1 Y_Ch_firstBeat.2.2.1 Y_Ch_firstBeat.2.2.2 ∈ tb := mem_tb 1094 (by decide +kernel) rfl
def Y_Ch_lastBeat : YT := (⟨"SinkingChoir$Choir", "lastBeat", "()I"⟩, prog_2_method_8_code, 2, some .int)
theorem cw_Ch_lastBeat : Cond.code Y_Ch_lastBeat.1 Y_Ch_lastBeat.2.1 Y_Ch_lastBeat.2.2.1 Y_Ch_lastBeat.2.2.2 ∈ tb := mem_tb 1099 (by decide +kernel) rfl
def Y_Si_sinking : YT := (⟨"SinkingChoir$Singing", "sinking", "()J"⟩, prog_10_method_17_code, 1, some .long)
theorem cw_Si_sinking : Cond.code Y_Si_sinking.1 Y_Si_sinking.2.1 Y_Si_sinking.2.2.1 Y_Si_sinking.2.2.2 ∈ tb := mem_tb 1103 (by decide +kernel) rfl
def Y_Ch_howManySing : YT := (⟨"SinkingChoir$Choir", "howManySing", "()I"⟩, prog_2_method_5_code, 3, some .int)
theorem cw_Ch_howManySing : Cond.code Y_Ch_howManySing.1 Y_Ch_howManySing.2.1 Y_Ch_howManySing.2.2.1 Y_Ch_howManySing.2.2.2 ∈ tb := mem_tb 1114 (by decide +kernel) rfl
def Y_Si_drifting : YT := (⟨"SinkingChoir$Singing", "drifting", "()J"⟩, prog_10_method_18_code, 3, some .long)
theorem cw_Si_drifting : Cond.code Y_Si_drifting.1 Y_Si_drifting.2.1 Y_Si_drifting.2.2.1 Y_Si_drifting.2.2.2 ∈ tb := mem_tb 1110 (by decide +kernel) rfl
def Y_Si_foulTogether : YT := (⟨"SinkingChoir$Singing", "foulTogether", "()J"⟩, prog_10_method_16_code, 4, some .long)
theorem cw_Si_foulTogether : Cond.code Y_Si_foulTogether.1 Y_Si_foulTogether.2.1 Y_Si_foulTogether.2.2.1 Y_Si_foulTogether.2.2.2 ∈ tb := mem_tb 1119 (by decide +kernel) rfl
def Y_X_sunk : YT := (⟨"SinkingChoir", "sunk", "(I)J"⟩, prog_1_method_23_code, 4, some .long)
theorem cw_X_sunk : Cond.code Y_X_sunk.1 Y_X_sunk.2.1 Y_X_sunk.2.2.1 Y_X_sunk.2.2.2 ∈ tb := mem_tb 1090 (by decide +kernel) rfl
def Y_M_firstSung : YT := (⟨"SinkingChoirModel", "firstSung", "()I"⟩, prog_14_method_97_code, 2, some .int)
theorem cw_M_firstSung : Cond.code Y_M_firstSung.1 Y_M_firstSung.2.1 Y_M_firstSung.2.2.1 Y_M_firstSung.2.2.2 ∈ tb := mem_tb 1902 (by decide +kernel) rfl
def Y_M_lastSung : YT := (⟨"SinkingChoirModel", "lastSung", "()I"⟩, prog_14_method_98_code, 2, some .int)
theorem cw_M_lastSung : Cond.code Y_M_lastSung.1 Y_M_lastSung.2.1 Y_M_lastSung.2.2.1 Y_M_lastSung.2.2.2 ∈ tb := mem_tb 1911 (by decide +kernel) rfl
def Y_M_sunkNow : YT := (⟨"SinkingChoirModel", "sunkNow", "()J"⟩, prog_14_method_99_code, 1, some .long)
theorem cw_M_sunkNow : Cond.code Y_M_sunkNow.1 Y_M_sunkNow.2.1 Y_M_sunkNow.2.2.1 Y_M_sunkNow.2.2.2 ∈ tb := mem_tb 1907 (by decide +kernel) rfl
def Y_M_sungMany : YT := (⟨"SinkingChoirModel", "sungMany", "()I"⟩, prog_14_method_103_code, 5, some .int)
theorem cw_M_sungMany : Cond.code Y_M_sungMany.1 Y_M_sungMany.2.1 Y_M_sungMany.2.2.1 Y_M_sungMany.2.2.2 ∈ tb := mem_tb 1915 (by decide +kernel) rfl
def Y_M_allFoul : YT := (⟨"SinkingChoirModel", "allFoul", "()J"⟩, prog_14_method_96_code, 4, some .long)
theorem cw_M_allFoul : Cond.code Y_M_allFoul.1 Y_M_allFoul.2.1 Y_M_allFoul.2.2.1 Y_M_allFoul.2.2.2 ∈ tb := mem_tb 1919 (by decide +kernel) rfl
def Y_M_sunk : YT := (⟨"SinkingChoirModel", "sunk", "(I)J"⟩, prog_14_method_104_code, 8, some .long)
theorem cw_M_sunk : Cond.code Y_M_sunk.1 Y_M_sunk.2.1 Y_M_sunk.2.2.1 Y_M_sunk.2.2.2 ∈ tb := mem_tb 1898 (by decide +kernel) rfl
def Y_X_hears : YT := (⟨"SinkingChoir", "hears", "(II)I"⟩, prog_1_method_24_code, 3, some .int)
theorem cw_X_hears : Cond.code Y_X_hears.1 Y_X_hears.2.1 Y_X_hears.2.2.1 Y_X_hears.2.2.2 ∈ tb := mem_tb 1124 (by decide +kernel) rfl
def Y_M_hears : YT := (⟨"SinkingChoirModel", "hears", "(II)I"⟩, prog_14_method_105_code, 3, some .int)
theorem cw_M_hears : Cond.code Y_M_hears.1 Y_M_hears.2.1 Y_M_hears.2.2.1 Y_M_hears.2.2.2 ∈ tb := mem_tb 1923 (by decide +kernel) rfl
def Y_St_swap : YT := (⟨"SinkingChoir$Standing", "swap", "(II)V"⟩, prog_11_method_4_code, 4, none)
theorem cw_St_swap : Cond.code Y_St_swap.1 Y_St_swap.2.1 Y_St_swap.2.2.1 Y_St_swap.2.2.2 ∈ tb := mem_tb 1143 (by decide +kernel) rfl
def Y_St_sort : YT := (⟨"SinkingChoir$Standing", "sort", "(I)V"⟩, prog_11_method_3_code, 4, none)
theorem cw_St_sort : Cond.code Y_St_sort.1 Y_St_sort.2.1 Y_St_sort.2.2.1 Y_St_sort.2.2.2 ∈ tb := mem_tb 1139 (by decide +kernel) rfl
def Y_St_next : YT := (⟨"SinkingChoir$Standing", "next", "()Z"⟩, prog_11_method_5_code, 3, some .boolean)
theorem cw_St_next : Cond.code Y_St_next.1 Y_St_next.2.1 Y_St_next.2.2.1 Y_St_next.2.2.2 ∈ tb := mem_tb 1151 (by decide +kernel) rfl
def Y_St_find : YT := (⟨"SinkingChoir$Standing", "find", "(I)V"⟩, prog_11_method_2_code, 8, none)
theorem cw_St_find : Cond.code Y_St_find.1 Y_St_find.2.1 Y_St_find.2.2.1 Y_St_find.2.2.2 ∈ tb := mem_tb 1134 (by decide +kernel) rfl
def Y_X_standing : YT := (⟨"SinkingChoir", "standing", "(I)J"⟩, prog_1_method_25_code, 3, some .long)
theorem cw_X_standing : Cond.code Y_X_standing.1 Y_X_standing.2.1 Y_X_standing.2.2.1 Y_X_standing.2.2.2 ∈ tb := mem_tb 1129 (by decide +kernel) rfl
def Y_M_swaps : YT := (⟨"SinkingChoirModel", "swaps", "(II)V"⟩, prog_14_method_107_code, 4, none)
theorem cw_M_swaps : Cond.code Y_M_swaps.1 Y_M_swaps.2.1 Y_M_swaps.2.2.1 Y_M_swaps.2.2.2 ∈ tb := mem_tb 1932 (by decide +kernel) rfl
def Y_M_stepsOn : YT := (⟨"SinkingChoirModel", "stepsOn", "()Z"⟩, prog_14_method_106_code, 5, some .boolean)
theorem cw_M_stepsOn : Cond.code Y_M_stepsOn.1 Y_M_stepsOn.2.1 Y_M_stepsOn.2.2.1 Y_M_stepsOn.2.2.2 ∈ tb := mem_tb 1936 (by decide +kernel) rfl
def Y_M_standing : YT := (⟨"SinkingChoirModel", "standing", "(I)J"⟩, prog_14_method_108_code, 13, some .long)
theorem cw_M_standing : Cond.code Y_M_standing.1 Y_M_standing.2.1 Y_M_standing.2.2.1 Y_M_standing.2.2.2 ∈ tb := mem_tb 1927 (by decide +kernel) rfl
def Y_Mt_max_JJ : YT := (⟨"java/lang/Math", "max", "(JJ)J"⟩, prog_17_method_66_code, 4, some .long)
theorem cw_Mt_max_JJ : Cond.code Y_Mt_max_JJ.1 Y_Mt_max_JJ.2.1 Y_Mt_max_JJ.2.2.1 Y_Mt_max_JJ.2.2.2 ∈ tb := mem_tb 1173 (by decide +kernel) rfl
def Y_Le_chart : YT := (⟨"SinkingChoir$Leading", "chart", "(II)V"⟩, prog_5_method_3_code, 6, none)
theorem cw_Le_chart : Cond.code Y_Le_chart.1 Y_Le_chart.2.1 Y_Le_chart.2.2.1 Y_Le_chart.2.2.2 ∈ tb := mem_tb 1168 (by decide +kernel) rfl
def Y_Le_farthest : YT := (⟨"SinkingChoir$Leading", "farthest", "(II)J"⟩, prog_5_method_4_code, 3, some .long)
theorem cw_Le_farthest : Cond.code Y_Le_farthest.1 Y_Le_farthest.2.1 Y_Le_farthest.2.2.1 Y_Le_farthest.2.2.2 ∈ tb := mem_tb 1178 (by decide +kernel) rfl
def Y_Le_consider : YT := (⟨"SinkingChoir$Leading", "consider", "(IJ)V"⟩, prog_5_method_5_code, 4, none)
theorem cw_Le_consider : Cond.code Y_Le_consider.1 Y_Le_consider.2.1 Y_Le_consider.2.2.1 Y_Le_consider.2.2.2 ∈ tb := mem_tb 1182 (by decide +kernel) rfl
def Y_Le_find : YT := (⟨"SinkingChoir$Leading", "find", "(I)V"⟩, prog_5_method_2_code, 13, none)
theorem cw_Le_find : Cond.code Y_Le_find.1 Y_Le_find.2.1 Y_Le_find.2.2.1 Y_Le_find.2.2.2 ∈ tb := mem_tb 1161 (by decide +kernel) rfl
def Y_X_leader : YT := (⟨"SinkingChoir", "leader", "(II)J"⟩, prog_1_method_26_code, 3, some .long)
theorem cw_X_leader : Cond.code Y_X_leader.1 Y_X_leader.2.1 Y_X_leader.2.2.1 Y_X_leader.2.2.2 ∈ tb := mem_tb 1155 (by decide +kernel) rfl
def Y_M_farthest : YT := (⟨"SinkingChoirModel", "farthest", "()J"⟩, prog_14_method_109_code, 6, some .long)
theorem cw_M_farthest : Cond.code Y_M_farthest.1 Y_M_farthest.2.1 Y_M_farthest.2.2.1 Y_M_farthest.2.2.2 ∈ tb := mem_tb 1946 (by decide +kernel) rfl
def Y_M_leader : YT := (⟨"SinkingChoirModel", "leader", "(II)J"⟩, prog_14_method_110_code, 13, some .long)
theorem cw_M_leader : Cond.code Y_M_leader.1 Y_M_leader.2.1 Y_M_leader.2.2.1 Y_M_leader.2.2.2 ∈ tb := mem_tb 1940 (by decide +kernel) rfl
def Y_X_worst : YT := (⟨"SinkingChoir", "worst", "()I"⟩, prog_1_method_27_code, 3, some .int)
theorem cw_X_worst : Cond.code Y_X_worst.1 Y_X_worst.2.1 Y_X_worst.2.2.1 Y_X_worst.2.2.2 ∈ tb := mem_tb 1186 (by decide +kernel) rfl
def Y_M_worst : YT := (⟨"SinkingChoirModel", "worst", "()I"⟩, prog_14_method_111_code, 5, some .int)
theorem cw_M_worst : Cond.code Y_M_worst.1 Y_M_worst.2.1 Y_M_worst.2.2.1 Y_M_worst.2.2.2 ∈ tb := mem_tb 1950 (by decide +kernel) rfl
def Y_X_knows : YT := (⟨"SinkingChoir", "knows", "()J"⟩, prog_1_method_28_code, 3, some .long)
theorem cw_X_knows : Cond.code Y_X_knows.1 Y_X_knows.2.1 Y_X_knows.2.2.1 Y_X_knows.2.2.2 ∈ tb := mem_tb 1191 (by decide +kernel) rfl
def Y_M_knows : YT := (⟨"SinkingChoirModel", "knows", "()J"⟩, prog_14_method_112_code, 4, some .long)
theorem cw_M_knows : Cond.code Y_M_knows.1 Y_M_knows.2.1 Y_M_knows.2.2.1 Y_M_knows.2.2.2 ∈ tb := mem_tb 1954 (by decide +kernel) rfl
def Y_Ch_putRecord : YT := (⟨"SinkingChoir$Choir", "putRecord", "(III)V"⟩, prog_2_method_13_code, 4, none)
theorem cw_Ch_putRecord : Cond.code Y_Ch_putRecord.1 Y_Ch_putRecord.2.1 Y_Ch_putRecord.2.2.1 Y_Ch_putRecord.2.2.2 ∈ tb := mem_tb 1202 (by decide +kernel) rfl
def Y_X_tape : YT := (⟨"SinkingChoir", "tape", "(III)Z"⟩, prog_1_method_29_code, 4, some .boolean)
theorem cw_X_tape : Cond.code Y_X_tape.1 Y_X_tape.2.1 Y_X_tape.2.2.1 Y_X_tape.2.2.2 ∈ tb := mem_tb 1196 (by decide +kernel) rfl
def Y_M_tape : YT := (⟨"SinkingChoirModel", "tape", "(III)Z"⟩, prog_14_method_113_code, 4, some .boolean)
theorem cw_M_tape : Cond.code Y_M_tape.1 Y_M_tape.2.1 Y_M_tape.2.2.1 Y_M_tape.2.2.2 ∈ tb := mem_tb 1958 (by decide +kernel) rfl
def Y_Ar_fill_BJ : YT := (⟨"java/util/Arrays", "fill", "([JJ)V"⟩, prog_22_method_101_code, 5, none)
theorem cw_Ar_fill_BJ : Cond.code Y_Ar_fill_BJ.1 Y_Ar_fill_BJ.2.1 Y_Ar_fill_BJ.2.2.1 Y_Ar_fill_BJ.2.2.2 ∈ tb := mem_tb 1213 (by decide +kernel) rfl
def Y_Ch_isRecorded : YT := (⟨"SinkingChoir$Choir", "isRecorded", "(II)Z"⟩, prog_2_method_14_code, 3, some .boolean)
theorem cw_Ch_isRecorded : Cond.code Y_Ch_isRecorded.1 Y_Ch_isRecorded.2.1 Y_Ch_isRecorded.2.2.1 Y_Ch_isRecorded.2.2.2 ∈ tb := mem_tb 1217 (by decide +kernel) rfl
def Y_Ch_lastRecord : YT := (⟨"SinkingChoir$Choir", "lastRecord", "(II)I"⟩, prog_2_method_16_code, 4, some .int)
theorem cw_Ch_lastRecord : Cond.code Y_Ch_lastRecord.1 Y_Ch_lastRecord.2.1 Y_Ch_lastRecord.2.2.1 Y_Ch_lastRecord.2.2.2 ∈ tb := mem_tb 1225 (by decide +kernel) rfl
def Y_Ch_recordOf : YT := (⟨"SinkingChoir$Choir", "recordOf", "(II)I"⟩, prog_2_method_15_code, 3, some .int)
theorem cw_Ch_recordOf : Cond.code Y_Ch_recordOf.1 Y_Ch_recordOf.2.1 Y_Ch_recordOf.2.2.1 Y_Ch_recordOf.2.2.2 ∈ tb := mem_tb 1230 (by decide +kernel) rfl
def Y_Fi_addBeat : YT := (⟨"SinkingChoir$Fitting", "addBeat", "(II)V"⟩, prog_3_method_3_code, 7, none)
theorem cw_Fi_addBeat : Cond.code Y_Fi_addBeat.1 Y_Fi_addBeat.2.1 Y_Fi_addBeat.2.2.1 Y_Fi_addBeat.2.2.2 ∈ tb := mem_tb 1221 (by decide +kernel) rfl
def Y_Fi_find : YT := (⟨"SinkingChoir$Fitting", "find", "(I)Z"⟩, prog_3_method_2_code, 3, some .boolean)
theorem cw_Fi_find : Cond.code Y_Fi_find.1 Y_Fi_find.2.1 Y_Fi_find.2.2.1 Y_Fi_find.2.2.2 ∈ tb := mem_tb 1210 (by decide +kernel) rfl
def Y_Fi_told : YT := (⟨"SinkingChoir$Fitting", "told", "(I)J"⟩, prog_3_method_4_code, 2, some .long)
theorem cw_Fi_told : Cond.code Y_Fi_told.1 Y_Fi_told.2.1 Y_Fi_told.2.2.1 Y_Fi_told.2.2.2 ∈ tb := mem_tb 1237 (by decide +kernel) rfl
def Y_X_fit : YT := (⟨"SinkingChoir", "fit", "(II)J"⟩, prog_1_method_30_code, 3, some .long)
theorem cw_X_fit : Cond.code Y_X_fit.1 Y_X_fit.2.1 Y_X_fit.2.2.1 Y_X_fit.2.2.2 ∈ tb := mem_tb 1206 (by decide +kernel) rfl
def Y_M_isTaped : YT := (⟨"SinkingChoirModel", "isTaped", "(II)Z"⟩, prog_14_method_114_code, 3, some .boolean)
theorem cw_M_isTaped : Cond.code Y_M_isTaped.1 Y_M_isTaped.2.1 Y_M_isTaped.2.2.1 Y_M_isTaped.2.2.2 ∈ tb := mem_tb 1968 (by decide +kernel) rfl
def Y_M_differs : YT := (⟨"SinkingChoirModel", "differs", "(IIII)J"⟩, prog_14_method_115_code, 10, some .long)
theorem cw_M_differs : Cond.code Y_M_differs.1 Y_M_differs.2.1 Y_M_differs.2.2.1 Y_M_differs.2.2.2 ∈ tb := mem_tb 1972 (by decide +kernel) rfl
def Y_M_fit : YT := (⟨"SinkingChoirModel", "fit", "(II)J"⟩, prog_14_method_116_code, 10, some .long)
theorem cw_M_fit : Cond.code Y_M_fit.1 Y_M_fit.2.1 Y_M_fit.2.2.1 Y_M_fit.2.2.2 ∈ tb := mem_tb 1964 (by decide +kernel) rfl
def Y_X_minded : YT := (⟨"SinkingChoir", "minded", "(III)J"⟩, prog_1_method_37_code, 4, some .long)
theorem cw_X_minded : Cond.code Y_X_minded.1 Y_X_minded.2.1 Y_X_minded.2.2.1 Y_X_minded.2.2.2 ∈ tb := mem_tb 1245 (by decide +kernel) rfl
def Y_X_mind : YT := (⟨"SinkingChoir", "mind", "(III)J"⟩, prog_1_method_31_code, 11, some .long)
theorem cw_X_mind : Cond.code Y_X_mind.1 Y_X_mind.2.1 Y_X_mind.2.2.1 Y_X_mind.2.2.2 ∈ tb := mem_tb 1241 (by decide +kernel) rfl
def Y_M_minds : YT := (⟨"SinkingChoirModel", "minds", "(II)J"⟩, prog_14_method_117_code, 3, some .long)
theorem cw_M_minds : Cond.code Y_M_minds.1 Y_M_minds.2.1 Y_M_minds.2.2.1 Y_M_minds.2.2.2 ∈ tb := mem_tb 1982 (by decide +kernel) rfl
def Y_M_mind : YT := (⟨"SinkingChoirModel", "mind", "(III)J"⟩, prog_14_method_118_code, 12, some .long)
theorem cw_M_mind : Cond.code Y_M_mind.1 Y_M_mind.2.1 Y_M_mind.2.2.1 Y_M_mind.2.2.2 ∈ tb := mem_tb 1976 (by decide +kernel) rfl
def Y_Rl_number : YT := (⟨"SinkingChoir$Reel", "number", "(I)I"⟩, prog_8_method_4_code, 2, some .int)
theorem cw_Rl_number : Cond.code Y_Rl_number.1 Y_Rl_number.2.1 Y_Rl_number.2.2.1 Y_Rl_number.2.2.2 ∈ tb := mem_tb 1259 (by decide +kernel) rfl
def Y_X_firstWrong : YT := (⟨"SinkingChoir", "firstWrong", "(I)I"⟩, prog_1_method_38_code, 5, some .int)
theorem cw_X_firstWrong : Cond.code Y_X_firstWrong.1 Y_X_firstWrong.2.1 Y_X_firstWrong.2.2.1 Y_X_firstWrong.2.2.2 ∈ tb := mem_tb 1255 (by decide +kernel) rfl
def Y_X_check : YT := (⟨"SinkingChoir", "check", "(I)I"⟩, prog_1_method_32_code, 3, some .int)
theorem cw_X_check : Cond.code Y_X_check.1 Y_X_check.2.1 Y_X_check.2.2.1 Y_X_check.2.2.2 ∈ tb := mem_tb 1251 (by decide +kernel) rfl
def Y_M_numberAt : YT := (⟨"SinkingChoirModel", "numberAt", "(I)I"⟩, prog_14_method_119_code, 4, some .int)
theorem cw_M_numberAt : Cond.code Y_M_numberAt.1 Y_M_numberAt.2.1 Y_M_numberAt.2.2.1 Y_M_numberAt.2.2.2 ∈ tb := mem_tb 1990 (by decide +kernel) rfl
def Y_M_check : YT := (⟨"SinkingChoirModel", "check", "(I)I"⟩, prog_14_method_120_code, 5, some .int)
theorem cw_M_check : Cond.code Y_M_check.1 Y_M_check.2.1 Y_M_check.2.2.1 Y_M_check.2.2.2 ∈ tb := mem_tb 1986 (by decide +kernel) rfl
def Y_Sc_noteCount : YT := (⟨"SinkingChoir$Score", "noteCount", "()I"⟩, prog_9_method_19_code, 3, some .int)
theorem cw_Sc_noteCount : Cond.code Y_Sc_noteCount.1 Y_Sc_noteCount.2.1 Y_Sc_noteCount.2.2.1 Y_Sc_noteCount.2.2.2 ∈ tb := mem_tb 1267 (by decide +kernel) rfl
def Y_Sc_linkCount : YT := (⟨"SinkingChoir$Score", "linkCount", "()I"⟩, prog_9_method_20_code, 3, some .int)
theorem cw_Sc_linkCount : Cond.code Y_Sc_linkCount.1 Y_Sc_linkCount.2.1 Y_Sc_linkCount.2.2.1 Y_Sc_linkCount.2.2.2 ∈ tb := mem_tb 1271 (by decide +kernel) rfl
def Y_In_bitCount : YT := (⟨"java/lang/Integer", "bitCount", "(I)I"⟩, prog_16_method_49_code, 1, some .int)
theorem cw_In_bitCount : Cond.code Y_In_bitCount.1 Y_In_bitCount.2.1 Y_In_bitCount.2.2.1 Y_In_bitCount.2.2.2 ∈ tb := mem_tb 1274 (by decide +kernel) rfl
def Y_X_count : YT := (⟨"SinkingChoir", "count", "(I)I"⟩, prog_1_method_33_code, 2, some .int)
theorem cw_X_count : Cond.code Y_X_count.1 Y_X_count.2.1 Y_X_count.2.2.1 Y_X_count.2.2.2 ∈ tb := mem_tb 1263 (by decide +kernel) rfl
def Y_M_sizeOf : YT := (⟨"SinkingChoirModel", "sizeOf", "(I)I"⟩, prog_14_method_4_code, 3, some .int)
theorem cw_M_sizeOf : Cond.code Y_M_sizeOf.1 Y_M_sizeOf.2.1 Y_M_sizeOf.2.2.1 Y_M_sizeOf.2.2.2 ∈ tb := mem_tb 1997 (by decide +kernel) rfl
def Y_M_count : YT := (⟨"SinkingChoirModel", "count", "(I)I"⟩, prog_14_method_121_code, 5, some .int)
theorem cw_M_count : Cond.code Y_M_count.1 Y_M_count.2.1 Y_M_count.2.2.1 Y_M_count.2.2.2 ∈ tb := mem_tb 1994 (by decide +kernel) rfl
theorem fg_Sc_9 : FLG "SinkingChoir$Score" 9 8 0 := ⟨_, _, _, _, cf8, by decide, mem_tb 149 (by decide +kernel) rfl⟩
theorem fg_Sc_24 : FLG "SinkingChoir$Score" 24 8 4 := ⟨_, _, _, _, cf8, by decide, mem_tb 158 (by decide +kernel) rfl⟩
theorem fg_Si_50 : FLG "SinkingChoir$Singing" 50 2 2 := ⟨_, _, _, _, cf2, by decide, mem_tb 224 (by decide +kernel) rfl⟩
theorem fg_X_10 : FLG "SinkingChoir" 10 0 0 := ⟨_, _, _, _, cf0, by decide, mem_tb 462 (by decide +kernel) rfl⟩
theorem fg_X_21 : FLG "SinkingChoir" 21 0 1 := ⟨_, _, _, _, cf0, by decide, mem_tb 463 (by decide +kernel) rfl⟩
theorem fg_X_30 : FLG "SinkingChoir" 30 0 2 := ⟨_, _, _, _, cf0, by decide, mem_tb 464 (by decide +kernel) rfl⟩
theorem fg_M_140 : FLG "SinkingChoirModel" 140 1 70 := ⟨_, _, _, _, cf1, by decide, mem_tb 1354 (by decide +kernel) rfl⟩
theorem fg_M_30 : FLG "SinkingChoirModel" 30 1 7 := ⟨_, _, _, _, cf1, by decide, mem_tb 1291 (by decide +kernel) rfl⟩
theorem fg_M_13 : FLG "SinkingChoirModel" 13 1 2 := ⟨_, _, _, _, cf1, by decide, mem_tb 1286 (by decide +kernel) rfl⟩
theorem fg_Sc_15 : FLG "SinkingChoir$Score" 15 8 1 := ⟨_, _, _, _, cf8, by decide, mem_tb 152 (by decide +kernel) rfl⟩
theorem fg_Sc_30 : FLG "SinkingChoir$Score" 30 8 6 := ⟨_, _, _, _, cf8, by decide, mem_tb 163 (by decide +kernel) rfl⟩
theorem fg_Sc_27 : FLG "SinkingChoir$Score" 27 8 5 := ⟨_, _, _, _, cf8, by decide, mem_tb 161 (by decide +kernel) rfl⟩
theorem fg_Sc_18 : FLG "SinkingChoir$Score" 18 8 2 := ⟨_, _, _, _, cf8, by decide, mem_tb 153 (by decide +kernel) rfl⟩
theorem fg_X_274 : FLG "SinkingChoir" 274 0 9 := ⟨_, _, _, _, cf0, by decide, mem_tb 471 (by decide +kernel) rfl⟩
theorem fg_M_17 : FLG "SinkingChoirModel" 17 1 3 := ⟨_, _, _, _, cf1, by decide, mem_tb 1287 (by decide +kernel) rfl⟩
theorem fg_M_20 : FLG "SinkingChoirModel" 20 1 4 := ⟨_, _, _, _, cf1, by decide, mem_tb 1288 (by decide +kernel) rfl⟩
theorem fg_M_23 : FLG "SinkingChoirModel" 23 1 5 := ⟨_, _, _, _, cf1, by decide, mem_tb 1289 (by decide +kernel) rfl⟩
theorem fg_Sc_21 : FLG "SinkingChoir$Score" 21 8 3 := ⟨_, _, _, _, cf8, by decide, mem_tb 156 (by decide +kernel) rfl⟩
theorem fg_X_98 : FLG "SinkingChoir" 98 8 3 := ⟨_, _, _, _, cf8, by decide, mem_tb 157 (by decide +kernel) rfl⟩
theorem fg_M_26 : FLG "SinkingChoirModel" 26 1 6 := ⟨_, _, _, _, cf1, by decide, mem_tb 1290 (by decide +kernel) rfl⟩
theorem fg_X_114 : FLG "SinkingChoir" 114 8 5 := ⟨_, _, _, _, cf8, by decide, mem_tb 162 (by decide +kernel) rfl⟩
theorem fg_X_117 : FLG "SinkingChoir" 117 8 6 := ⟨_, _, _, _, cf8, by decide, mem_tb 164 (by decide +kernel) rfl⟩
theorem fg_X_123 : FLG "SinkingChoir" 123 8 4 := ⟨_, _, _, _, cf8, by decide, mem_tb 160 (by decide +kernel) rfl⟩
theorem fg_M_202 : FLG "SinkingChoirModel" 202 1 8 := ⟨_, _, _, _, cf1, by decide, mem_tb 1292 (by decide +kernel) rfl⟩
theorem fg_M_205 : FLG "SinkingChoirModel" 205 1 9 := ⟨_, _, _, _, cf1, by decide, mem_tb 1293 (by decide +kernel) rfl⟩
theorem fg_M_208 : FLG "SinkingChoirModel" 208 1 10 := ⟨_, _, _, _, cf1, by decide, mem_tb 1294 (by decide +kernel) rfl⟩
theorem fg_Wa_20 : FLG "SinkingChoir$Ways" 20 11 3 := ⟨_, _, _, _, cf11, by decide, mem_tb 648 (by decide +kernel) rfl⟩
theorem fg_Wa_23 : FLG "SinkingChoir$Ways" 23 11 4 := ⟨_, _, _, _, cf11, by decide, mem_tb 649 (by decide +kernel) rfl⟩
theorem fg_Wa_13 : FLG "SinkingChoir$Ways" 13 11 1 := ⟨_, _, _, _, cf11, by decide, mem_tb 646 (by decide +kernel) rfl⟩
theorem fg_Wa_35 : FLG "SinkingChoir$Ways" 35 11 0 := ⟨_, _, _, _, cf11, by decide, mem_tb 645 (by decide +kernel) rfl⟩
theorem fg_Wa_45 : FLG "SinkingChoir$Ways" 45 11 9 := ⟨_, _, _, _, cf11, by decide, mem_tb 654 (by decide +kernel) rfl⟩
theorem fg_Wa_26 : FLG "SinkingChoir$Ways" 26 11 5 := ⟨_, _, _, _, cf11, by decide, mem_tb 650 (by decide +kernel) rfl⟩
theorem fg_X_332 : FLG "SinkingChoir" 332 0 8 := ⟨_, _, _, _, cf0, by decide, mem_tb 470 (by decide +kernel) rfl⟩
theorem fg_Wa_72 : FLG "SinkingChoir$Ways" 72 8 4 := ⟨_, _, _, _, cf8, by decide, mem_tb 159 (by decide +kernel) rfl⟩
theorem fg_Wa_29 : FLG "SinkingChoir$Ways" 29 11 6 := ⟨_, _, _, _, cf11, by decide, mem_tb 651 (by decide +kernel) rfl⟩
theorem fg_Wa_17 : FLG "SinkingChoir$Ways" 17 11 2 := ⟨_, _, _, _, cf11, by decide, mem_tb 647 (by decide +kernel) rfl⟩
theorem fg_Wa_32 : FLG "SinkingChoir$Ways" 32 11 7 := ⟨_, _, _, _, cf11, by decide, mem_tb 652 (by decide +kernel) rfl⟩
theorem fg_Wa_101 : FLG "SinkingChoir$Ways" 101 11 8 := ⟨_, _, _, _, cf11, by decide, mem_tb 653 (by decide +kernel) rfl⟩
theorem fg_M_33 : FLG "SinkingChoirModel" 33 1 11 := ⟨_, _, _, _, cf1, by decide, mem_tb 1295 (by decide +kernel) rfl⟩
theorem fg_M_36 : FLG "SinkingChoirModel" 36 1 12 := ⟨_, _, _, _, cf1, by decide, mem_tb 1296 (by decide +kernel) rfl⟩
theorem fg_M_39 : FLG "SinkingChoirModel" 39 1 13 := ⟨_, _, _, _, cf1, by decide, mem_tb 1297 (by decide +kernel) rfl⟩
theorem fg_M_42 : FLG "SinkingChoirModel" 42 1 14 := ⟨_, _, _, _, cf1, by decide, mem_tb 1298 (by decide +kernel) rfl⟩
theorem fg_M_45 : FLG "SinkingChoirModel" 45 1 15 := ⟨_, _, _, _, cf1, by decide, mem_tb 1299 (by decide +kernel) rfl⟩
theorem fg_M_261 : FLG "SinkingChoirModel" 261 1 17 := ⟨_, _, _, _, cf1, by decide, mem_tb 1301 (by decide +kernel) rfl⟩
theorem fg_M_49 : FLG "SinkingChoirModel" 49 1 16 := ⟨_, _, _, _, cf1, by decide, mem_tb 1300 (by decide +kernel) rfl⟩
theorem fg_X_163 : FLG "SinkingChoir" 163 2 9 := ⟨_, _, _, _, cf2, by decide, mem_tb 244 (by decide +kernel) rfl⟩
theorem fg_X_167 : FLG "SinkingChoir" 167 2 1 := ⟨_, _, _, _, cf2, by decide, mem_tb 222 (by decide +kernel) rfl⟩
theorem fg_X_170 : FLG "SinkingChoir" 170 2 2 := ⟨_, _, _, _, cf2, by decide, mem_tb 227 (by decide +kernel) rfl⟩
theorem fg_X_173 : FLG "SinkingChoir" 173 2 3 := ⟨_, _, _, _, cf2, by decide, mem_tb 230 (by decide +kernel) rfl⟩
theorem fg_X_176 : FLG "SinkingChoir" 176 2 4 := ⟨_, _, _, _, cf2, by decide, mem_tb 233 (by decide +kernel) rfl⟩
theorem fg_M_275 : FLG "SinkingChoirModel" 275 1 18 := ⟨_, _, _, _, cf1, by decide, mem_tb 1302 (by decide +kernel) rfl⟩
theorem fg_M_56 : FLG "SinkingChoirModel" 56 1 22 := ⟨_, _, _, _, cf1, by decide, mem_tb 1306 (by decide +kernel) rfl⟩
theorem fg_M_59 : FLG "SinkingChoirModel" 59 1 23 := ⟨_, _, _, _, cf1, by decide, mem_tb 1307 (by decide +kernel) rfl⟩
theorem fg_M_62 : FLG "SinkingChoirModel" 62 1 24 := ⟨_, _, _, _, cf1, by decide, mem_tb 1308 (by decide +kernel) rfl⟩
theorem fg_M_65 : FLG "SinkingChoirModel" 65 1 25 := ⟨_, _, _, _, cf1, by decide, mem_tb 1309 (by decide +kernel) rfl⟩
theorem fg_Ch_48 : FLG "SinkingChoir$Choir" 48 2 9 := ⟨_, _, _, _, cf2, by decide, mem_tb 241 (by decide +kernel) rfl⟩
theorem fg_X_183 : FLG "SinkingChoir" 183 2 7 := ⟨_, _, _, _, cf2, by decide, mem_tb 237 (by decide +kernel) rfl⟩
theorem fg_M_68 : FLG "SinkingChoirModel" 68 1 26 := ⟨_, _, _, _, cf1, by decide, mem_tb 1310 (by decide +kernel) rfl⟩
theorem fg_Rl_13 : FLG "SinkingChoir$Reel" 13 7 1 := ⟨_, _, _, _, cf7, by decide, mem_tb 431 (by decide +kernel) rfl⟩
theorem fg_Rl_9 : FLG "SinkingChoir$Reel" 9 7 0 := ⟨_, _, _, _, cf7, by decide, mem_tb 429 (by decide +kernel) rfl⟩
theorem fg_X_62 : FLG "SinkingChoir" 62 0 6 := ⟨_, _, _, _, cf0, by decide, mem_tb 468 (by decide +kernel) rfl⟩
theorem fg_X_206 : FLG "SinkingChoir" 206 7 1 := ⟨_, _, _, _, cf7, by decide, mem_tb 432 (by decide +kernel) rfl⟩
theorem fg_M_7 : FLG "SinkingChoirModel" 7 1 0 := ⟨_, _, _, _, cf1, by decide, mem_tb 1284 (by decide +kernel) rfl⟩
theorem fg_M_305 : FLG "SinkingChoirModel" 305 1 1 := ⟨_, _, _, _, cf1, by decide, mem_tb 1285 (by decide +kernel) rfl⟩
theorem fg_Re_44 : FLG "SinkingChoir$Reader" 44 6 4 := ⟨_, _, _, _, cf6, by decide, mem_tb 450 (by decide +kernel) rfl⟩
theorem fg_Re_41 : FLG "SinkingChoir$Reader" 41 6 3 := ⟨_, _, _, _, cf6, by decide, mem_tb 449 (by decide +kernel) rfl⟩
theorem fg_Re_28 : FLG "SinkingChoir$Reader" 28 6 2 := ⟨_, _, _, _, cf6, by decide, mem_tb 448 (by decide +kernel) rfl⟩
theorem fg_Re_11 : FLG "SinkingChoir$Reader" 11 6 0 := ⟨_, _, _, _, cf6, by decide, mem_tb 446 (by decide +kernel) rfl⟩
theorem fg_Pr_36 : FLG "SinkingChoir$Program" 36 5 7 := ⟨_, _, _, _, cf5, by decide, mem_tb 200 (by decide +kernel) rfl⟩
theorem fg_Pr_23 : FLG "SinkingChoir$Program" 23 5 3 := ⟨_, _, _, _, cf5, by decide, mem_tb 196 (by decide +kernel) rfl⟩
theorem fg_Pr_26 : FLG "SinkingChoir$Program" 26 5 4 := ⟨_, _, _, _, cf5, by decide, mem_tb 197 (by decide +kernel) rfl⟩
theorem fg_Pr_32 : FLG "SinkingChoir$Program" 32 5 6 := ⟨_, _, _, _, cf5, by decide, mem_tb 199 (by decide +kernel) rfl⟩
theorem fg_Pr_11 : FLG "SinkingChoir$Program" 11 5 0 := ⟨_, _, _, _, cf5, by decide, mem_tb 193 (by decide +kernel) rfl⟩
theorem fg_Pr_17 : FLG "SinkingChoir$Program" 17 5 1 := ⟨_, _, _, _, cf5, by decide, mem_tb 194 (by decide +kernel) rfl⟩
theorem fg_Re_18 : FLG "SinkingChoir$Reader" 18 6 1 := ⟨_, _, _, _, cf6, by decide, mem_tb 447 (by decide +kernel) rfl⟩
theorem fg_Pr_29 : FLG "SinkingChoir$Program" 29 5 5 := ⟨_, _, _, _, cf5, by decide, mem_tb 198 (by decide +kernel) rfl⟩
theorem fg_X_69 : FLG "SinkingChoir" 69 0 7 := ⟨_, _, _, _, cf0, by decide, mem_tb 469 (by decide +kernel) rfl⟩
theorem fg_X_209 : FLG "SinkingChoir" 209 7 0 := ⟨_, _, _, _, cf7, by decide, mem_tb 430 (by decide +kernel) rfl⟩
theorem fg_X_216 : FLG "SinkingChoir" 216 2 8 := ⟨_, _, _, _, cf2, by decide, mem_tb 240 (by decide +kernel) rfl⟩
theorem fg_X_224 : FLG "SinkingChoir" 224 5 7 := ⟨_, _, _, _, cf5, by decide, mem_tb 201 (by decide +kernel) rfl⟩
theorem fg_M_317 : FLG "SinkingChoirModel" 317 1 42 := ⟨_, _, _, _, cf1, by decide, mem_tb 1326 (by decide +kernel) rfl⟩
theorem fg_M_311 : FLG "SinkingChoirModel" 311 1 40 := ⟨_, _, _, _, cf1, by decide, mem_tb 1324 (by decide +kernel) rfl⟩
theorem fg_M_314 : FLG "SinkingChoirModel" 314 1 41 := ⟨_, _, _, _, cf1, by decide, mem_tb 1325 (by decide +kernel) rfl⟩
theorem fg_M_107 : FLG "SinkingChoirModel" 107 1 49 := ⟨_, _, _, _, cf1, by decide, mem_tb 1333 (by decide +kernel) rfl⟩
theorem fg_M_327 : FLG "SinkingChoirModel" 327 1 46 := ⟨_, _, _, _, cf1, by decide, mem_tb 1330 (by decide +kernel) rfl⟩
theorem fg_M_330 : FLG "SinkingChoirModel" 330 1 45 := ⟨_, _, _, _, cf1, by decide, mem_tb 1329 (by decide +kernel) rfl⟩
theorem fg_M_101 : FLG "SinkingChoirModel" 101 1 38 := ⟨_, _, _, _, cf1, by decide, mem_tb 1322 (by decide +kernel) rfl⟩
theorem fg_M_324 : FLG "SinkingChoirModel" 324 1 44 := ⟨_, _, _, _, cf1, by decide, mem_tb 1328 (by decide +kernel) rfl⟩
theorem fg_M_104 : FLG "SinkingChoirModel" 104 1 39 := ⟨_, _, _, _, cf1, by decide, mem_tb 1323 (by decide +kernel) rfl⟩
theorem fg_M_374 : FLG "SinkingChoirModel" 374 1 48 := ⟨_, _, _, _, cf1, by decide, mem_tb 1332 (by decide +kernel) rfl⟩
theorem fg_M_396 : FLG "SinkingChoirModel" 396 1 47 := ⟨_, _, _, _, cf1, by decide, mem_tb 1331 (by decide +kernel) rfl⟩
theorem fg_M_405 : FLG "SinkingChoirModel" 405 1 43 := ⟨_, _, _, _, cf1, by decide, mem_tb 1327 (by decide +kernel) rfl⟩
theorem fg_M_89 : FLG "SinkingChoirModel" 89 1 34 := ⟨_, _, _, _, cf1, by decide, mem_tb 1318 (by decide +kernel) rfl⟩
theorem fg_M_92 : FLG "SinkingChoirModel" 92 1 35 := ⟨_, _, _, _, cf1, by decide, mem_tb 1319 (by decide +kernel) rfl⟩
theorem fg_M_95 : FLG "SinkingChoirModel" 95 1 36 := ⟨_, _, _, _, cf1, by decide, mem_tb 1320 (by decide +kernel) rfl⟩
theorem fg_M_98 : FLG "SinkingChoirModel" 98 1 37 := ⟨_, _, _, _, cf1, by decide, mem_tb 1321 (by decide +kernel) rfl⟩
theorem fg_M_416 : FLG "SinkingChoirModel" 416 1 27 := ⟨_, _, _, _, cf1, by decide, mem_tb 1311 (by decide +kernel) rfl⟩
theorem fg_M_83 : FLG "SinkingChoirModel" 83 1 32 := ⟨_, _, _, _, cf1, by decide, mem_tb 1316 (by decide +kernel) rfl⟩
theorem fg_M_86 : FLG "SinkingChoirModel" 86 1 33 := ⟨_, _, _, _, cf1, by decide, mem_tb 1317 (by decide +kernel) rfl⟩
theorem fg_M_71 : FLG "SinkingChoirModel" 71 1 28 := ⟨_, _, _, _, cf1, by decide, mem_tb 1312 (by decide +kernel) rfl⟩
theorem fg_M_74 : FLG "SinkingChoirModel" 74 1 29 := ⟨_, _, _, _, cf1, by decide, mem_tb 1313 (by decide +kernel) rfl⟩
theorem fg_M_77 : FLG "SinkingChoirModel" 77 1 30 := ⟨_, _, _, _, cf1, by decide, mem_tb 1314 (by decide +kernel) rfl⟩
theorem fg_M_80 : FLG "SinkingChoirModel" 80 1 31 := ⟨_, _, _, _, cf1, by decide, mem_tb 1315 (by decide +kernel) rfl⟩
theorem fg_Ch_33 : FLG "SinkingChoir$Choir" 33 2 0 := ⟨_, _, _, _, cf2, by decide, mem_tb 219 (by decide +kernel) rfl⟩
theorem fg_Ch_9 : FLG "SinkingChoir$Choir" 9 2 1 := ⟨_, _, _, _, cf2, by decide, mem_tb 220 (by decide +kernel) rfl⟩
theorem fg_Ch_30 : FLG "SinkingChoir$Choir" 30 2 7 := ⟨_, _, _, _, cf2, by decide, mem_tb 236 (by decide +kernel) rfl⟩
theorem fg_Si_46 : FLG "SinkingChoir$Singing" 46 9 1 := ⟨_, _, _, _, cf9, by decide, mem_tb 298 (by decide +kernel) rfl⟩
theorem fg_Si_42 : FLG "SinkingChoir$Singing" 42 9 0 := ⟨_, _, _, _, cf9, by decide, mem_tb 297 (by decide +kernel) rfl⟩
theorem fg_Si_136 : FLG "SinkingChoir$Singing" 136 8 0 := ⟨_, _, _, _, cf8, by decide, mem_tb 150 (by decide +kernel) rfl⟩
theorem fg_Si_133 : FLG "SinkingChoir$Singing" 133 2 1 := ⟨_, _, _, _, cf2, by decide, mem_tb 221 (by decide +kernel) rfl⟩
theorem fg_Si_65 : FLG "SinkingChoir$Singing" 65 9 10 := ⟨_, _, _, _, cf9, by decide, mem_tb 307 (by decide +kernel) rfl⟩
theorem fg_Si_91 : FLG "SinkingChoir$Singing" 91 2 9 := ⟨_, _, _, _, cf2, by decide, mem_tb 243 (by decide +kernel) rfl⟩
theorem fg_Si_15 : FLG "SinkingChoir$Singing" 15 9 3 := ⟨_, _, _, _, cf9, by decide, mem_tb 300 (by decide +kernel) rfl⟩
theorem fg_Si_168 : FLG "SinkingChoir$Singing" 168 2 4 := ⟨_, _, _, _, cf2, by decide, mem_tb 232 (by decide +kernel) rfl⟩
theorem fg_Si_68 : FLG "SinkingChoir$Singing" 68 9 11 := ⟨_, _, _, _, cf9, by decide, mem_tb 308 (by decide +kernel) rfl⟩
theorem fg_Si_28 : FLG "SinkingChoir$Singing" 28 9 4 := ⟨_, _, _, _, cf9, by decide, mem_tb 301 (by decide +kernel) rfl⟩
theorem fg_Si_148 : FLG "SinkingChoir$Singing" 148 2 3 := ⟨_, _, _, _, cf2, by decide, mem_tb 229 (by decide +kernel) rfl⟩
theorem fg_Si_84 : FLG "SinkingChoir$Singing" 84 9 14 := ⟨_, _, _, _, cf9, by decide, mem_tb 311 (by decide +kernel) rfl⟩
theorem fg_Si_75 : FLG "SinkingChoir$Singing" 75 9 13 := ⟨_, _, _, _, cf9, by decide, mem_tb 310 (by decide +kernel) rfl⟩
theorem fg_Pr_20 : FLG "SinkingChoir$Program" 20 5 2 := ⟨_, _, _, _, cf5, by decide, mem_tb 195 (by decide +kernel) rfl⟩
theorem fg_Si_173 : FLG "SinkingChoir$Singing" 173 8 2 := ⟨_, _, _, _, cf8, by decide, mem_tb 154 (by decide +kernel) rfl⟩
theorem fg_Si_64 : FLG "SinkingChoir$Singing" 64 9 9 := ⟨_, _, _, _, cf9, by decide, mem_tb 306 (by decide +kernel) rfl⟩
theorem fg_Si_176 : FLG "SinkingChoir$Singing" 176 2 11 := ⟨_, _, _, _, cf2, by decide, mem_tb 248 (by decide +kernel) rfl⟩
theorem fg_Si_38 : FLG "SinkingChoir$Singing" 38 9 7 := ⟨_, _, _, _, cf9, by decide, mem_tb 304 (by decide +kernel) rfl⟩
theorem fg_Si_35 : FLG "SinkingChoir$Singing" 35 9 6 := ⟨_, _, _, _, cf9, by decide, mem_tb 303 (by decide +kernel) rfl⟩
theorem fg_Si_55 : FLG "SinkingChoir$Singing" 55 9 8 := ⟨_, _, _, _, cf9, by decide, mem_tb 305 (by decide +kernel) rfl⟩
theorem fg_Si_9 : FLG "SinkingChoir$Singing" 9 9 2 := ⟨_, _, _, _, cf9, by decide, mem_tb 299 (by decide +kernel) rfl⟩
theorem fg_Si_115 : FLG "SinkingChoir$Singing" 115 2 8 := ⟨_, _, _, _, cf2, by decide, mem_tb 239 (by decide +kernel) rfl⟩
theorem fg_Si_32 : FLG "SinkingChoir$Singing" 32 9 5 := ⟨_, _, _, _, cf9, by decide, mem_tb 302 (by decide +kernel) rfl⟩
theorem fg_Si_76 : FLG "SinkingChoir$Singing" 76 9 12 := ⟨_, _, _, _, cf9, by decide, mem_tb 309 (by decide +kernel) rfl⟩
theorem fg_Si_72 : FLG "SinkingChoir$Singing" 72 2 10 := ⟨_, _, _, _, cf2, by decide, mem_tb 246 (by decide +kernel) rfl⟩
theorem fg_Si_56 : FLG "SinkingChoir$Singing" 56 2 12 := ⟨_, _, _, _, cf2, by decide, mem_tb 250 (by decide +kernel) rfl⟩
theorem fg_M_302 : FLG "SinkingChoirModel" 302 1 21 := ⟨_, _, _, _, cf1, by decide, mem_tb 1305 (by decide +kernel) rfl⟩
theorem fg_M_110 : FLG "SinkingChoirModel" 110 1 50 := ⟨_, _, _, _, cf1, by decide, mem_tb 1334 (by decide +kernel) rfl⟩
theorem fg_M_113 : FLG "SinkingChoirModel" 113 1 51 := ⟨_, _, _, _, cf1, by decide, mem_tb 1335 (by decide +kernel) rfl⟩
theorem fg_M_420 : FLG "SinkingChoirModel" 420 1 53 := ⟨_, _, _, _, cf1, by decide, mem_tb 1337 (by decide +kernel) rfl⟩
theorem fg_M_471 : FLG "SinkingChoirModel" 471 1 66 := ⟨_, _, _, _, cf1, by decide, mem_tb 1350 (by decide +kernel) rfl⟩
theorem fg_M_116 : FLG "SinkingChoirModel" 116 1 54 := ⟨_, _, _, _, cf1, by decide, mem_tb 1338 (by decide +kernel) rfl⟩
theorem fg_M_131 : FLG "SinkingChoirModel" 131 1 63 := ⟨_, _, _, _, cf1, by decide, mem_tb 1347 (by decide +kernel) rfl⟩
theorem fg_M_128 : FLG "SinkingChoirModel" 128 1 62 := ⟨_, _, _, _, cf1, by decide, mem_tb 1346 (by decide +kernel) rfl⟩
theorem fg_M_122 : FLG "SinkingChoirModel" 122 1 56 := ⟨_, _, _, _, cf1, by decide, mem_tb 1340 (by decide +kernel) rfl⟩
theorem fg_M_426 : FLG "SinkingChoirModel" 426 1 59 := ⟨_, _, _, _, cf1, by decide, mem_tb 1343 (by decide +kernel) rfl⟩
theorem fg_M_429 : FLG "SinkingChoirModel" 429 1 60 := ⟨_, _, _, _, cf1, by decide, mem_tb 1344 (by decide +kernel) rfl⟩
theorem fg_M_450 : FLG "SinkingChoirModel" 450 1 58 := ⟨_, _, _, _, cf1, by decide, mem_tb 1342 (by decide +kernel) rfl⟩
theorem fg_M_119 : FLG "SinkingChoirModel" 119 1 55 := ⟨_, _, _, _, cf1, by decide, mem_tb 1339 (by decide +kernel) rfl⟩
theorem fg_M_477 : FLG "SinkingChoirModel" 477 1 67 := ⟨_, _, _, _, cf1, by decide, mem_tb 1351 (by decide +kernel) rfl⟩
theorem fg_M_125 : FLG "SinkingChoirModel" 125 1 57 := ⟨_, _, _, _, cf1, by decide, mem_tb 1341 (by decide +kernel) rfl⟩
theorem fg_M_474 : FLG "SinkingChoirModel" 474 1 64 := ⟨_, _, _, _, cf1, by decide, mem_tb 1348 (by decide +kernel) rfl⟩
theorem fg_M_480 : FLG "SinkingChoirModel" 480 1 65 := ⟨_, _, _, _, cf1, by decide, mem_tb 1349 (by decide +kernel) rfl⟩
theorem fg_M_490 : FLG "SinkingChoirModel" 490 1 61 := ⟨_, _, _, _, cf1, by decide, mem_tb 1345 (by decide +kernel) rfl⟩
theorem fg_M_52 : FLG "SinkingChoirModel" 52 1 19 := ⟨_, _, _, _, cf1, by decide, mem_tb 1303 (by decide +kernel) rfl⟩
theorem fg_M_297 : FLG "SinkingChoirModel" 297 1 20 := ⟨_, _, _, _, cf1, by decide, mem_tb 1304 (by decide +kernel) rfl⟩
theorem fg_M_497 : FLG "SinkingChoirModel" 497 1 52 := ⟨_, _, _, _, cf1, by decide, mem_tb 1336 (by decide +kernel) rfl⟩
theorem fg_Ch_87 : FLG "SinkingChoir$Choir" 87 8 0 := ⟨_, _, _, _, cf8, by decide, mem_tb 151 (by decide +kernel) rfl⟩
theorem fg_Ch_93 : FLG "SinkingChoir$Choir" 93 8 2 := ⟨_, _, _, _, cf8, by decide, mem_tb 155 (by decide +kernel) rfl⟩
theorem fg_St_9 : FLG "SinkingChoir$Standing" 9 10 2 := ⟨_, _, _, _, cf10, by decide, mem_tb 354 (by decide +kernel) rfl⟩
theorem fg_St_18 : FLG "SinkingChoir$Standing" 18 10 0 := ⟨_, _, _, _, cf10, by decide, mem_tb 352 (by decide +kernel) rfl⟩
theorem fg_St_75 : FLG "SinkingChoir$Standing" 75 2 9 := ⟨_, _, _, _, cf2, by decide, mem_tb 242 (by decide +kernel) rfl⟩
theorem fg_St_26 : FLG "SinkingChoir$Standing" 26 10 6 := ⟨_, _, _, _, cf10, by decide, mem_tb 361 (by decide +kernel) rfl⟩
theorem fg_St_30 : FLG "SinkingChoir$Standing" 30 2 2 := ⟨_, _, _, _, cf2, by decide, mem_tb 225 (by decide +kernel) rfl⟩
theorem fg_St_22 : FLG "SinkingChoir$Standing" 22 10 1 := ⟨_, _, _, _, cf10, by decide, mem_tb 353 (by decide +kernel) rfl⟩
theorem fg_St_43 : FLG "SinkingChoir$Standing" 43 2 12 := ⟨_, _, _, _, cf2, by decide, mem_tb 251 (by decide +kernel) rfl⟩
theorem fg_St_62 : FLG "SinkingChoir$Standing" 62 10 4 := ⟨_, _, _, _, cf10, by decide, mem_tb 357 (by decide +kernel) rfl⟩
theorem fg_St_15 : FLG "SinkingChoir$Standing" 15 10 3 := ⟨_, _, _, _, cf10, by decide, mem_tb 355 (by decide +kernel) rfl⟩
theorem fg_St_68 : FLG "SinkingChoir$Standing" 68 10 5 := ⟨_, _, _, _, cf10, by decide, mem_tb 359 (by decide +kernel) rfl⟩
theorem fg_X_39 : FLG "SinkingChoir" 39 0 3 := ⟨_, _, _, _, cf0, by decide, mem_tb 465 (by decide +kernel) rfl⟩
theorem fg_X_285 : FLG "SinkingChoir" 285 10 3 := ⟨_, _, _, _, cf10, by decide, mem_tb 356 (by decide +kernel) rfl⟩
theorem fg_X_283 : FLG "SinkingChoir" 283 10 5 := ⟨_, _, _, _, cf10, by decide, mem_tb 360 (by decide +kernel) rfl⟩
theorem fg_X_280 : FLG "SinkingChoir" 280 10 4 := ⟨_, _, _, _, cf10, by decide, mem_tb 358 (by decide +kernel) rfl⟩
theorem fg_M_134 : FLG "SinkingChoirModel" 134 1 68 := ⟨_, _, _, _, cf1, by decide, mem_tb 1352 (by decide +kernel) rfl⟩
theorem fg_Le_19 : FLG "SinkingChoir$Leading" 19 4 1 := ⟨_, _, _, _, cf4, by decide, mem_tb 384 (by decide +kernel) rfl⟩
theorem fg_Le_9 : FLG "SinkingChoir$Leading" 9 4 2 := ⟨_, _, _, _, cf4, by decide, mem_tb 385 (by decide +kernel) rfl⟩
theorem fg_Le_54 : FLG "SinkingChoir$Leading" 54 4 4 := ⟨_, _, _, _, cf4, by decide, mem_tb 388 (by decide +kernel) rfl⟩
theorem fg_Le_15 : FLG "SinkingChoir$Leading" 15 4 0 := ⟨_, _, _, _, cf4, by decide, mem_tb 383 (by decide +kernel) rfl⟩
theorem fg_Le_32 : FLG "SinkingChoir$Leading" 32 2 2 := ⟨_, _, _, _, cf2, by decide, mem_tb 226 (by decide +kernel) rfl⟩
theorem fg_X_46 : FLG "SinkingChoir" 46 0 4 := ⟨_, _, _, _, cf0, by decide, mem_tb 466 (by decide +kernel) rfl⟩
theorem fg_X_294 : FLG "SinkingChoir" 294 4 4 := ⟨_, _, _, _, cf4, by decide, mem_tb 389 (by decide +kernel) rfl⟩
theorem fg_X_291 : FLG "SinkingChoir" 291 4 3 := ⟨_, _, _, _, cf4, by decide, mem_tb 387 (by decide +kernel) rfl⟩
theorem fg_X_196 : FLG "SinkingChoir" 196 2 12 := ⟨_, _, _, _, cf2, by decide, mem_tb 252 (by decide +kernel) rfl⟩
theorem fg_Ch_24 : FLG "SinkingChoir$Choir" 24 2 5 := ⟨_, _, _, _, cf2, by decide, mem_tb 234 (by decide +kernel) rfl⟩
theorem fg_Ch_27 : FLG "SinkingChoir$Choir" 27 2 6 := ⟨_, _, _, _, cf2, by decide, mem_tb 235 (by decide +kernel) rfl⟩
theorem fg_M_137 : FLG "SinkingChoirModel" 137 1 69 := ⟨_, _, _, _, cf1, by decide, mem_tb 1353 (by decide +kernel) rfl⟩
theorem fg_Fi_19 : FLG "SinkingChoir$Fitting" 19 3 1 := ⟨_, _, _, _, cf3, by decide, mem_tb 408 (by decide +kernel) rfl⟩
theorem fg_Fi_23 : FLG "SinkingChoir$Fitting" 23 3 2 := ⟨_, _, _, _, cf3, by decide, mem_tb 409 (by decide +kernel) rfl⟩
theorem fg_Fi_11 : FLG "SinkingChoir$Fitting" 11 3 3 := ⟨_, _, _, _, cf3, by decide, mem_tb 410 (by decide +kernel) rfl⟩
theorem fg_Fi_43 : FLG "SinkingChoir$Fitting" 43 3 4 := ⟨_, _, _, _, cf3, by decide, mem_tb 411 (by decide +kernel) rfl⟩
theorem fg_X_55 : FLG "SinkingChoir" 55 0 5 := ⟨_, _, _, _, cf0, by decide, mem_tb 467 (by decide +kernel) rfl⟩
theorem fg_X_187 : FLG "SinkingChoir" 187 2 10 := ⟨_, _, _, _, cf2, by decide, mem_tb 247 (by decide +kernel) rfl⟩
theorem fg_X_192 : FLG "SinkingChoir" 192 2 11 := ⟨_, _, _, _, cf2, by decide, mem_tb 249 (by decide +kernel) rfl⟩
theorem fp_Sc_9 : FLP "SinkingChoir$Score" 9 8 0 true := ⟨_, _, _, _, cf8, by decide, mem_tb 149 (by decide +kernel) rfl, rfl, fun _ => rfl⟩
theorem fp_Sc_15 : FLP "SinkingChoir$Score" 15 8 1 true := ⟨_, _, _, _, cf8, by decide, mem_tb 152 (by decide +kernel) rfl, rfl, fun _ => rfl⟩
theorem fp_Sc_18 : FLP "SinkingChoir$Score" 18 8 2 true := ⟨_, _, _, _, cf8, by decide, mem_tb 153 (by decide +kernel) rfl, rfl, fun _ => rfl⟩
theorem fp_Sc_21 : FLP "SinkingChoir$Score" 21 8 3 true := ⟨_, _, _, _, cf8, by decide, mem_tb 156 (by decide +kernel) rfl, rfl, fun _ => rfl⟩
theorem fp_Sc_24 : FLP "SinkingChoir$Score" 24 8 4 true := ⟨_, _, _, _, cf8, by decide, mem_tb 158 (by decide +kernel) rfl, rfl, fun _ => rfl⟩
theorem fp_Sc_27 : FLP "SinkingChoir$Score" 27 8 5 true := ⟨_, _, _, _, cf8, by decide, mem_tb 161 (by decide +kernel) rfl, rfl, fun _ => rfl⟩
theorem fp_Sc_30 : FLP "SinkingChoir$Score" 30 8 6 true := ⟨_, _, _, _, cf8, by decide, mem_tb 163 (by decide +kernel) rfl, rfl, fun _ => rfl⟩
theorem fp_Pr_11 : FLP "SinkingChoir$Program" 11 5 0 true := ⟨_, _, _, _, cf5, by decide, mem_tb 193 (by decide +kernel) rfl, rfl, fun _ => rfl⟩
theorem fp_Pr_17 : FLP "SinkingChoir$Program" 17 5 1 true := ⟨_, _, _, _, cf5, by decide, mem_tb 194 (by decide +kernel) rfl, rfl, fun _ => rfl⟩
theorem fp_Pr_20 : FLP "SinkingChoir$Program" 20 5 2 true := ⟨_, _, _, _, cf5, by decide, mem_tb 195 (by decide +kernel) rfl, rfl, fun _ => rfl⟩
theorem fp_Pr_23 : FLP "SinkingChoir$Program" 23 5 3 true := ⟨_, _, _, _, cf5, by decide, mem_tb 196 (by decide +kernel) rfl, rfl, fun _ => rfl⟩
theorem fp_Pr_26 : FLP "SinkingChoir$Program" 26 5 4 true := ⟨_, _, _, _, cf5, by decide, mem_tb 197 (by decide +kernel) rfl, rfl, fun _ => rfl⟩
theorem fp_Pr_29 : FLP "SinkingChoir$Program" 29 5 5 true := ⟨_, _, _, _, cf5, by decide, mem_tb 198 (by decide +kernel) rfl, rfl, fun _ => rfl⟩
theorem fp_Ch_9 : FLP "SinkingChoir$Choir" 9 2 1 true := ⟨_, _, _, _, cf2, by decide, mem_tb 220 (by decide +kernel) rfl, rfl, fun _ => rfl⟩
theorem fp_Ch_15 : FLP "SinkingChoir$Choir" 15 2 2 true := ⟨_, _, _, _, cf2, by decide, mem_tb 223 (by decide +kernel) rfl, rfl, fun _ => rfl⟩
theorem fp_Ch_18 : FLP "SinkingChoir$Choir" 18 2 3 true := ⟨_, _, _, _, cf2, by decide, mem_tb 228 (by decide +kernel) rfl, rfl, fun _ => rfl⟩
theorem fp_Ch_21 : FLP "SinkingChoir$Choir" 21 2 4 true := ⟨_, _, _, _, cf2, by decide, mem_tb 231 (by decide +kernel) rfl, rfl, fun _ => rfl⟩
theorem fp_Ch_24 : FLP "SinkingChoir$Choir" 24 2 5 true := ⟨_, _, _, _, cf2, by decide, mem_tb 234 (by decide +kernel) rfl, rfl, fun _ => rfl⟩
theorem fp_Ch_27 : FLP "SinkingChoir$Choir" 27 2 6 true := ⟨_, _, _, _, cf2, by decide, mem_tb 235 (by decide +kernel) rfl, rfl, fun _ => rfl⟩
theorem fp_Ch_30 : FLP "SinkingChoir$Choir" 30 2 7 true := ⟨_, _, _, _, cf2, by decide, mem_tb 236 (by decide +kernel) rfl, rfl, fun _ => rfl⟩
theorem fp_Ch_33 : FLP "SinkingChoir$Choir" 33 2 0 true := ⟨_, _, _, _, cf2, by decide, mem_tb 219 (by decide +kernel) rfl, rfl, fun _ => rfl⟩
theorem fp_Ch_40 : FLP "SinkingChoir$Choir" 40 2 8 false := ⟨_, _, _, _, cf2, by decide, mem_tb 238 (by decide +kernel) rfl, rfl, fun z => nomatch z⟩
theorem fp_Ch_44 : FLP "SinkingChoir$Choir" 44 2 10 false := ⟨_, _, _, _, cf2, by decide, mem_tb 245 (by decide +kernel) rfl, rfl, fun z => nomatch z⟩
theorem fp_Si_9 : FLP "SinkingChoir$Singing" 9 9 2 true := ⟨_, _, _, _, cf9, by decide, mem_tb 299 (by decide +kernel) rfl, rfl, fun _ => rfl⟩
theorem fp_Si_15 : FLP "SinkingChoir$Singing" 15 9 3 true := ⟨_, _, _, _, cf9, by decide, mem_tb 300 (by decide +kernel) rfl, rfl, fun _ => rfl⟩
theorem fp_Si_28 : FLP "SinkingChoir$Singing" 28 9 4 true := ⟨_, _, _, _, cf9, by decide, mem_tb 301 (by decide +kernel) rfl, rfl, fun _ => rfl⟩
theorem fp_Si_32 : FLP "SinkingChoir$Singing" 32 9 5 true := ⟨_, _, _, _, cf9, by decide, mem_tb 302 (by decide +kernel) rfl, rfl, fun _ => rfl⟩
theorem fp_Si_35 : FLP "SinkingChoir$Singing" 35 9 6 true := ⟨_, _, _, _, cf9, by decide, mem_tb 303 (by decide +kernel) rfl, rfl, fun _ => rfl⟩
theorem fp_Si_38 : FLP "SinkingChoir$Singing" 38 9 7 true := ⟨_, _, _, _, cf9, by decide, mem_tb 304 (by decide +kernel) rfl, rfl, fun _ => rfl⟩
theorem fp_Si_42 : FLP "SinkingChoir$Singing" 42 9 0 true := ⟨_, _, _, _, cf9, by decide, mem_tb 297 (by decide +kernel) rfl, rfl, fun _ => rfl⟩
theorem fp_Si_46 : FLP "SinkingChoir$Singing" 46 9 1 true := ⟨_, _, _, _, cf9, by decide, mem_tb 298 (by decide +kernel) rfl, rfl, fun _ => rfl⟩
theorem fp_Si_55 : FLP "SinkingChoir$Singing" 55 9 8 false := ⟨_, _, _, _, cf9, by decide, mem_tb 305 (by decide +kernel) rfl, rfl, fun z => nomatch z⟩
theorem fp_St_9 : FLP "SinkingChoir$Standing" 9 10 2 true := ⟨_, _, _, _, cf10, by decide, mem_tb 354 (by decide +kernel) rfl, rfl, fun _ => rfl⟩
theorem fp_St_15 : FLP "SinkingChoir$Standing" 15 10 3 true := ⟨_, _, _, _, cf10, by decide, mem_tb 355 (by decide +kernel) rfl, rfl, fun _ => rfl⟩
theorem fp_St_18 : FLP "SinkingChoir$Standing" 18 10 0 true := ⟨_, _, _, _, cf10, by decide, mem_tb 352 (by decide +kernel) rfl, rfl, fun _ => rfl⟩
theorem fp_St_22 : FLP "SinkingChoir$Standing" 22 10 1 true := ⟨_, _, _, _, cf10, by decide, mem_tb 353 (by decide +kernel) rfl, rfl, fun _ => rfl⟩
theorem fp_St_26 : FLP "SinkingChoir$Standing" 26 10 6 false := ⟨_, _, _, _, cf10, by decide, mem_tb 361 (by decide +kernel) rfl, rfl, fun z => nomatch z⟩
theorem fp_Le_9 : FLP "SinkingChoir$Leading" 9 4 2 true := ⟨_, _, _, _, cf4, by decide, mem_tb 385 (by decide +kernel) rfl, rfl, fun _ => rfl⟩
theorem fp_Le_15 : FLP "SinkingChoir$Leading" 15 4 0 true := ⟨_, _, _, _, cf4, by decide, mem_tb 383 (by decide +kernel) rfl, rfl, fun _ => rfl⟩
theorem fp_Le_19 : FLP "SinkingChoir$Leading" 19 4 1 true := ⟨_, _, _, _, cf4, by decide, mem_tb 384 (by decide +kernel) rfl, rfl, fun _ => rfl⟩
theorem fp_Fi_11 : FLP "SinkingChoir$Fitting" 11 3 3 true := ⟨_, _, _, _, cf3, by decide, mem_tb 410 (by decide +kernel) rfl, rfl, fun _ => rfl⟩
theorem fp_Fi_15 : FLP "SinkingChoir$Fitting" 15 3 0 true := ⟨_, _, _, _, cf3, by decide, mem_tb 407 (by decide +kernel) rfl, rfl, fun _ => rfl⟩
theorem fp_Fi_19 : FLP "SinkingChoir$Fitting" 19 3 1 true := ⟨_, _, _, _, cf3, by decide, mem_tb 408 (by decide +kernel) rfl, rfl, fun _ => rfl⟩
theorem fp_Fi_23 : FLP "SinkingChoir$Fitting" 23 3 2 true := ⟨_, _, _, _, cf3, by decide, mem_tb 409 (by decide +kernel) rfl, rfl, fun _ => rfl⟩
theorem fp_Rl_9 : FLP "SinkingChoir$Reel" 9 7 0 true := ⟨_, _, _, _, cf7, by decide, mem_tb 429 (by decide +kernel) rfl, rfl, fun _ => rfl⟩
theorem fp_Re_11 : FLP "SinkingChoir$Reader" 11 6 0 true := ⟨_, _, _, _, cf6, by decide, mem_tb 446 (by decide +kernel) rfl, rfl, fun _ => rfl⟩
theorem fp_Re_18 : FLP "SinkingChoir$Reader" 18 6 1 false := ⟨_, _, _, _, cf6, by decide, mem_tb 447 (by decide +kernel) rfl, rfl, fun z => nomatch z⟩
theorem fp_X_10 : FLP "SinkingChoir" 10 0 0 true := ⟨_, _, _, _, cf0, by decide, mem_tb 462 (by decide +kernel) rfl, rfl, fun _ => rfl⟩
theorem fp_X_21 : FLP "SinkingChoir" 21 0 1 true := ⟨_, _, _, _, cf0, by decide, mem_tb 463 (by decide +kernel) rfl, rfl, fun _ => rfl⟩
theorem fp_X_30 : FLP "SinkingChoir" 30 0 2 true := ⟨_, _, _, _, cf0, by decide, mem_tb 464 (by decide +kernel) rfl, rfl, fun _ => rfl⟩
theorem fp_X_39 : FLP "SinkingChoir" 39 0 3 true := ⟨_, _, _, _, cf0, by decide, mem_tb 465 (by decide +kernel) rfl, rfl, fun _ => rfl⟩
theorem fp_X_46 : FLP "SinkingChoir" 46 0 4 true := ⟨_, _, _, _, cf0, by decide, mem_tb 466 (by decide +kernel) rfl, rfl, fun _ => rfl⟩
theorem fp_X_55 : FLP "SinkingChoir" 55 0 5 true := ⟨_, _, _, _, cf0, by decide, mem_tb 467 (by decide +kernel) rfl, rfl, fun _ => rfl⟩
theorem fp_X_62 : FLP "SinkingChoir" 62 0 6 true := ⟨_, _, _, _, cf0, by decide, mem_tb 468 (by decide +kernel) rfl, rfl, fun _ => rfl⟩
theorem fp_X_69 : FLP "SinkingChoir" 69 0 7 true := ⟨_, _, _, _, cf0, by decide, mem_tb 469 (by decide +kernel) rfl, rfl, fun _ => rfl⟩
theorem fp_M_7 : FLP "SinkingChoirModel" 7 1 0 true := ⟨_, _, _, _, cf1, by decide, mem_tb 1284 (by decide +kernel) rfl, rfl, fun _ => rfl⟩
theorem fp_M_13 : FLP "SinkingChoirModel" 13 1 2 true := ⟨_, _, _, _, cf1, by decide, mem_tb 1286 (by decide +kernel) rfl, rfl, fun _ => rfl⟩
theorem fp_M_17 : FLP "SinkingChoirModel" 17 1 3 true := ⟨_, _, _, _, cf1, by decide, mem_tb 1287 (by decide +kernel) rfl, rfl, fun _ => rfl⟩
theorem fp_M_20 : FLP "SinkingChoirModel" 20 1 4 true := ⟨_, _, _, _, cf1, by decide, mem_tb 1288 (by decide +kernel) rfl, rfl, fun _ => rfl⟩
theorem fp_M_23 : FLP "SinkingChoirModel" 23 1 5 true := ⟨_, _, _, _, cf1, by decide, mem_tb 1289 (by decide +kernel) rfl, rfl, fun _ => rfl⟩
theorem fp_M_26 : FLP "SinkingChoirModel" 26 1 6 true := ⟨_, _, _, _, cf1, by decide, mem_tb 1290 (by decide +kernel) rfl, rfl, fun _ => rfl⟩
theorem fp_M_30 : FLP "SinkingChoirModel" 30 1 7 true := ⟨_, _, _, _, cf1, by decide, mem_tb 1291 (by decide +kernel) rfl, rfl, fun _ => rfl⟩
theorem fp_M_33 : FLP "SinkingChoirModel" 33 1 11 true := ⟨_, _, _, _, cf1, by decide, mem_tb 1295 (by decide +kernel) rfl, rfl, fun _ => rfl⟩
theorem fp_M_36 : FLP "SinkingChoirModel" 36 1 12 true := ⟨_, _, _, _, cf1, by decide, mem_tb 1296 (by decide +kernel) rfl, rfl, fun _ => rfl⟩
theorem fp_M_39 : FLP "SinkingChoirModel" 39 1 13 true := ⟨_, _, _, _, cf1, by decide, mem_tb 1297 (by decide +kernel) rfl, rfl, fun _ => rfl⟩
theorem fp_M_42 : FLP "SinkingChoirModel" 42 1 14 true := ⟨_, _, _, _, cf1, by decide, mem_tb 1298 (by decide +kernel) rfl, rfl, fun _ => rfl⟩
theorem fp_M_45 : FLP "SinkingChoirModel" 45 1 15 true := ⟨_, _, _, _, cf1, by decide, mem_tb 1299 (by decide +kernel) rfl, rfl, fun _ => rfl⟩
theorem fp_M_49 : FLP "SinkingChoirModel" 49 1 16 true := ⟨_, _, _, _, cf1, by decide, mem_tb 1300 (by decide +kernel) rfl, rfl, fun _ => rfl⟩
theorem fp_M_52 : FLP "SinkingChoirModel" 52 1 19 false := ⟨_, _, _, _, cf1, by decide, mem_tb 1303 (by decide +kernel) rfl, rfl, fun z => nomatch z⟩
theorem fp_M_56 : FLP "SinkingChoirModel" 56 1 22 true := ⟨_, _, _, _, cf1, by decide, mem_tb 1306 (by decide +kernel) rfl, rfl, fun _ => rfl⟩
theorem fp_M_59 : FLP "SinkingChoirModel" 59 1 23 true := ⟨_, _, _, _, cf1, by decide, mem_tb 1307 (by decide +kernel) rfl, rfl, fun _ => rfl⟩
theorem fp_M_62 : FLP "SinkingChoirModel" 62 1 24 true := ⟨_, _, _, _, cf1, by decide, mem_tb 1308 (by decide +kernel) rfl, rfl, fun _ => rfl⟩
theorem fp_M_65 : FLP "SinkingChoirModel" 65 1 25 true := ⟨_, _, _, _, cf1, by decide, mem_tb 1309 (by decide +kernel) rfl, rfl, fun _ => rfl⟩
theorem fp_M_68 : FLP "SinkingChoirModel" 68 1 26 true := ⟨_, _, _, _, cf1, by decide, mem_tb 1310 (by decide +kernel) rfl, rfl, fun _ => rfl⟩
theorem fp_M_71 : FLP "SinkingChoirModel" 71 1 28 true := ⟨_, _, _, _, cf1, by decide, mem_tb 1312 (by decide +kernel) rfl, rfl, fun _ => rfl⟩
theorem fp_M_74 : FLP "SinkingChoirModel" 74 1 29 true := ⟨_, _, _, _, cf1, by decide, mem_tb 1313 (by decide +kernel) rfl, rfl, fun _ => rfl⟩
theorem fp_M_77 : FLP "SinkingChoirModel" 77 1 30 true := ⟨_, _, _, _, cf1, by decide, mem_tb 1314 (by decide +kernel) rfl, rfl, fun _ => rfl⟩
theorem fp_M_80 : FLP "SinkingChoirModel" 80 1 31 true := ⟨_, _, _, _, cf1, by decide, mem_tb 1315 (by decide +kernel) rfl, rfl, fun _ => rfl⟩
theorem fp_M_83 : FLP "SinkingChoirModel" 83 1 32 true := ⟨_, _, _, _, cf1, by decide, mem_tb 1316 (by decide +kernel) rfl, rfl, fun _ => rfl⟩
theorem fp_M_86 : FLP "SinkingChoirModel" 86 1 33 true := ⟨_, _, _, _, cf1, by decide, mem_tb 1317 (by decide +kernel) rfl, rfl, fun _ => rfl⟩
theorem fp_M_89 : FLP "SinkingChoirModel" 89 1 34 true := ⟨_, _, _, _, cf1, by decide, mem_tb 1318 (by decide +kernel) rfl, rfl, fun _ => rfl⟩
theorem fp_M_92 : FLP "SinkingChoirModel" 92 1 35 true := ⟨_, _, _, _, cf1, by decide, mem_tb 1319 (by decide +kernel) rfl, rfl, fun _ => rfl⟩
theorem fp_M_95 : FLP "SinkingChoirModel" 95 1 36 true := ⟨_, _, _, _, cf1, by decide, mem_tb 1320 (by decide +kernel) rfl, rfl, fun _ => rfl⟩
theorem fp_M_98 : FLP "SinkingChoirModel" 98 1 37 true := ⟨_, _, _, _, cf1, by decide, mem_tb 1321 (by decide +kernel) rfl, rfl, fun _ => rfl⟩
theorem fp_M_101 : FLP "SinkingChoirModel" 101 1 38 true := ⟨_, _, _, _, cf1, by decide, mem_tb 1322 (by decide +kernel) rfl, rfl, fun _ => rfl⟩
theorem fp_M_104 : FLP "SinkingChoirModel" 104 1 39 true := ⟨_, _, _, _, cf1, by decide, mem_tb 1323 (by decide +kernel) rfl, rfl, fun _ => rfl⟩
theorem fp_M_107 : FLP "SinkingChoirModel" 107 1 49 true := ⟨_, _, _, _, cf1, by decide, mem_tb 1333 (by decide +kernel) rfl, rfl, fun _ => rfl⟩
theorem fp_M_110 : FLP "SinkingChoirModel" 110 1 50 true := ⟨_, _, _, _, cf1, by decide, mem_tb 1334 (by decide +kernel) rfl, rfl, fun _ => rfl⟩
theorem fp_M_113 : FLP "SinkingChoirModel" 113 1 51 true := ⟨_, _, _, _, cf1, by decide, mem_tb 1335 (by decide +kernel) rfl, rfl, fun _ => rfl⟩
theorem fp_M_116 : FLP "SinkingChoirModel" 116 1 54 true := ⟨_, _, _, _, cf1, by decide, mem_tb 1338 (by decide +kernel) rfl, rfl, fun _ => rfl⟩
theorem fp_M_119 : FLP "SinkingChoirModel" 119 1 55 true := ⟨_, _, _, _, cf1, by decide, mem_tb 1339 (by decide +kernel) rfl, rfl, fun _ => rfl⟩
theorem fp_M_122 : FLP "SinkingChoirModel" 122 1 56 true := ⟨_, _, _, _, cf1, by decide, mem_tb 1340 (by decide +kernel) rfl, rfl, fun _ => rfl⟩
theorem fp_M_125 : FLP "SinkingChoirModel" 125 1 57 true := ⟨_, _, _, _, cf1, by decide, mem_tb 1341 (by decide +kernel) rfl, rfl, fun _ => rfl⟩
theorem fp_M_128 : FLP "SinkingChoirModel" 128 1 62 true := ⟨_, _, _, _, cf1, by decide, mem_tb 1346 (by decide +kernel) rfl, rfl, fun _ => rfl⟩
theorem fp_M_131 : FLP "SinkingChoirModel" 131 1 63 true := ⟨_, _, _, _, cf1, by decide, mem_tb 1347 (by decide +kernel) rfl, rfl, fun _ => rfl⟩
theorem fp_M_134 : FLP "SinkingChoirModel" 134 1 68 true := ⟨_, _, _, _, cf1, by decide, mem_tb 1352 (by decide +kernel) rfl, rfl, fun _ => rfl⟩
theorem fp_M_137 : FLP "SinkingChoirModel" 137 1 69 true := ⟨_, _, _, _, cf1, by decide, mem_tb 1353 (by decide +kernel) rfl, rfl, fun _ => rfl⟩
theorem fp_M_140 : FLP "SinkingChoirModel" 140 1 70 true := ⟨_, _, _, _, cf1, by decide, mem_tb 1354 (by decide +kernel) rfl, rfl, fun _ => rfl⟩
theorem fp_X_274 : FLP "SinkingChoir" 274 0 9 false := ⟨_, _, _, _, cf0, by decide, mem_tb 471 (by decide +kernel) rfl, rfl, fun z => nomatch z⟩
theorem fp_M_202 : FLP "SinkingChoirModel" 202 1 8 false := ⟨_, _, _, _, cf1, by decide, mem_tb 1292 (by decide +kernel) rfl, rfl, fun z => nomatch z⟩
theorem fp_M_205 : FLP "SinkingChoirModel" 205 1 9 false := ⟨_, _, _, _, cf1, by decide, mem_tb 1293 (by decide +kernel) rfl, rfl, fun z => nomatch z⟩
theorem fp_M_208 : FLP "SinkingChoirModel" 208 1 10 false := ⟨_, _, _, _, cf1, by decide, mem_tb 1294 (by decide +kernel) rfl, rfl, fun z => nomatch z⟩
theorem fp_Wa_13 : FLP "SinkingChoir$Ways" 13 11 1 true := ⟨_, _, _, _, cf11, by decide, mem_tb 646 (by decide +kernel) rfl, rfl, fun _ => rfl⟩
theorem fp_Wa_17 : FLP "SinkingChoir$Ways" 17 11 2 true := ⟨_, _, _, _, cf11, by decide, mem_tb 647 (by decide +kernel) rfl, rfl, fun _ => rfl⟩
theorem fp_Wa_20 : FLP "SinkingChoir$Ways" 20 11 3 true := ⟨_, _, _, _, cf11, by decide, mem_tb 648 (by decide +kernel) rfl, rfl, fun _ => rfl⟩
theorem fp_Wa_23 : FLP "SinkingChoir$Ways" 23 11 4 true := ⟨_, _, _, _, cf11, by decide, mem_tb 649 (by decide +kernel) rfl, rfl, fun _ => rfl⟩
theorem fp_Wa_26 : FLP "SinkingChoir$Ways" 26 11 5 true := ⟨_, _, _, _, cf11, by decide, mem_tb 650 (by decide +kernel) rfl, rfl, fun _ => rfl⟩
theorem fp_Wa_29 : FLP "SinkingChoir$Ways" 29 11 6 true := ⟨_, _, _, _, cf11, by decide, mem_tb 651 (by decide +kernel) rfl, rfl, fun _ => rfl⟩
theorem fp_Wa_32 : FLP "SinkingChoir$Ways" 32 11 7 true := ⟨_, _, _, _, cf11, by decide, mem_tb 652 (by decide +kernel) rfl, rfl, fun _ => rfl⟩
theorem fp_Wa_35 : FLP "SinkingChoir$Ways" 35 11 0 true := ⟨_, _, _, _, cf11, by decide, mem_tb 645 (by decide +kernel) rfl, rfl, fun _ => rfl⟩
theorem fp_Wa_45 : FLP "SinkingChoir$Ways" 45 11 9 false := ⟨_, _, _, _, cf11, by decide, mem_tb 654 (by decide +kernel) rfl, rfl, fun z => nomatch z⟩
theorem fp_X_332 : FLP "SinkingChoir" 332 0 8 false := ⟨_, _, _, _, cf0, by decide, mem_tb 470 (by decide +kernel) rfl, rfl, fun z => nomatch z⟩
theorem fp_Wa_101 : FLP "SinkingChoir$Ways" 101 11 8 false := ⟨_, _, _, _, cf11, by decide, mem_tb 653 (by decide +kernel) rfl, rfl, fun z => nomatch z⟩
theorem fp_M_261 : FLP "SinkingChoirModel" 261 1 17 false := ⟨_, _, _, _, cf1, by decide, mem_tb 1301 (by decide +kernel) rfl, rfl, fun z => nomatch z⟩
theorem fp_X_163 : FLP "SinkingChoir" 163 2 9 false := ⟨_, _, _, _, cf2, by decide, mem_tb 244 (by decide +kernel) rfl, rfl, fun z => nomatch z⟩
theorem fp_M_275 : FLP "SinkingChoirModel" 275 1 18 false := ⟨_, _, _, _, cf1, by decide, mem_tb 1302 (by decide +kernel) rfl, rfl, fun z => nomatch z⟩
theorem fp_X_187 : FLP "SinkingChoir" 187 2 10 false := ⟨_, _, _, _, cf2, by decide, mem_tb 247 (by decide +kernel) rfl, rfl, fun z => nomatch z⟩
theorem fp_X_192 : FLP "SinkingChoir" 192 2 11 false := ⟨_, _, _, _, cf2, by decide, mem_tb 249 (by decide +kernel) rfl, rfl, fun z => nomatch z⟩
theorem fp_M_297 : FLP "SinkingChoirModel" 297 1 20 false := ⟨_, _, _, _, cf1, by decide, mem_tb 1304 (by decide +kernel) rfl, rfl, fun z => nomatch z⟩
theorem fp_X_196 : FLP "SinkingChoir" 196 2 12 false := ⟨_, _, _, _, cf2, by decide, mem_tb 252 (by decide +kernel) rfl, rfl, fun z => nomatch z⟩
theorem fp_M_302 : FLP "SinkingChoirModel" 302 1 21 false := ⟨_, _, _, _, cf1, by decide, mem_tb 1305 (by decide +kernel) rfl, rfl, fun z => nomatch z⟩
theorem fp_Rl_13 : FLP "SinkingChoir$Reel" 13 7 1 false := ⟨_, _, _, _, cf7, by decide, mem_tb 431 (by decide +kernel) rfl, rfl, fun z => nomatch z⟩
theorem fp_M_305 : FLP "SinkingChoirModel" 305 1 1 false := ⟨_, _, _, _, cf1, by decide, mem_tb 1285 (by decide +kernel) rfl, rfl, fun z => nomatch z⟩
theorem fp_Pr_32 : FLP "SinkingChoir$Program" 32 5 6 false := ⟨_, _, _, _, cf5, by decide, mem_tb 199 (by decide +kernel) rfl, rfl, fun z => nomatch z⟩
theorem fp_Pr_36 : FLP "SinkingChoir$Program" 36 5 7 false := ⟨_, _, _, _, cf5, by decide, mem_tb 200 (by decide +kernel) rfl, rfl, fun z => nomatch z⟩
theorem fp_Re_44 : FLP "SinkingChoir$Reader" 44 6 4 false := ⟨_, _, _, _, cf6, by decide, mem_tb 450 (by decide +kernel) rfl, rfl, fun z => nomatch z⟩
theorem fp_Re_41 : FLP "SinkingChoir$Reader" 41 6 3 false := ⟨_, _, _, _, cf6, by decide, mem_tb 449 (by decide +kernel) rfl, rfl, fun z => nomatch z⟩
theorem fp_Re_28 : FLP "SinkingChoir$Reader" 28 6 2 false := ⟨_, _, _, _, cf6, by decide, mem_tb 448 (by decide +kernel) rfl, rfl, fun z => nomatch z⟩
theorem fp_X_206 : FLP "SinkingChoir" 206 7 1 false := ⟨_, _, _, _, cf7, by decide, mem_tb 432 (by decide +kernel) rfl, rfl, fun z => nomatch z⟩
theorem fp_X_216 : FLP "SinkingChoir" 216 2 8 false := ⟨_, _, _, _, cf2, by decide, mem_tb 240 (by decide +kernel) rfl, rfl, fun z => nomatch z⟩
theorem fp_M_317 : FLP "SinkingChoirModel" 317 1 42 false := ⟨_, _, _, _, cf1, by decide, mem_tb 1326 (by decide +kernel) rfl, rfl, fun z => nomatch z⟩
theorem fp_M_327 : FLP "SinkingChoirModel" 327 1 46 false := ⟨_, _, _, _, cf1, by decide, mem_tb 1330 (by decide +kernel) rfl, rfl, fun z => nomatch z⟩
theorem fp_M_311 : FLP "SinkingChoirModel" 311 1 40 false := ⟨_, _, _, _, cf1, by decide, mem_tb 1324 (by decide +kernel) rfl, rfl, fun z => nomatch z⟩
theorem fp_M_330 : FLP "SinkingChoirModel" 330 1 45 false := ⟨_, _, _, _, cf1, by decide, mem_tb 1329 (by decide +kernel) rfl, rfl, fun z => nomatch z⟩
theorem fp_M_324 : FLP "SinkingChoirModel" 324 1 44 false := ⟨_, _, _, _, cf1, by decide, mem_tb 1328 (by decide +kernel) rfl, rfl, fun z => nomatch z⟩
theorem fp_M_374 : FLP "SinkingChoirModel" 374 1 48 false := ⟨_, _, _, _, cf1, by decide, mem_tb 1332 (by decide +kernel) rfl, rfl, fun z => nomatch z⟩
theorem fp_M_396 : FLP "SinkingChoirModel" 396 1 47 false := ⟨_, _, _, _, cf1, by decide, mem_tb 1331 (by decide +kernel) rfl, rfl, fun z => nomatch z⟩
theorem fp_M_405 : FLP "SinkingChoirModel" 405 1 43 false := ⟨_, _, _, _, cf1, by decide, mem_tb 1327 (by decide +kernel) rfl, rfl, fun z => nomatch z⟩
theorem fp_M_314 : FLP "SinkingChoirModel" 314 1 41 false := ⟨_, _, _, _, cf1, by decide, mem_tb 1325 (by decide +kernel) rfl, rfl, fun z => nomatch z⟩
theorem fp_M_416 : FLP "SinkingChoirModel" 416 1 27 false := ⟨_, _, _, _, cf1, by decide, mem_tb 1311 (by decide +kernel) rfl, rfl, fun z => nomatch z⟩
theorem fp_Si_75 : FLP "SinkingChoir$Singing" 75 9 13 false := ⟨_, _, _, _, cf9, by decide, mem_tb 310 (by decide +kernel) rfl, rfl, fun z => nomatch z⟩
theorem fp_Si_76 : FLP "SinkingChoir$Singing" 76 9 12 false := ⟨_, _, _, _, cf9, by decide, mem_tb 309 (by decide +kernel) rfl, rfl, fun z => nomatch z⟩
theorem fp_Si_64 : FLP "SinkingChoir$Singing" 64 9 9 false := ⟨_, _, _, _, cf9, by decide, mem_tb 306 (by decide +kernel) rfl, rfl, fun z => nomatch z⟩
theorem fp_Si_65 : FLP "SinkingChoir$Singing" 65 9 10 false := ⟨_, _, _, _, cf9, by decide, mem_tb 307 (by decide +kernel) rfl, rfl, fun z => nomatch z⟩
theorem fp_Si_68 : FLP "SinkingChoir$Singing" 68 9 11 false := ⟨_, _, _, _, cf9, by decide, mem_tb 308 (by decide +kernel) rfl, rfl, fun z => nomatch z⟩
theorem fp_Si_84 : FLP "SinkingChoir$Singing" 84 9 14 false := ⟨_, _, _, _, cf9, by decide, mem_tb 311 (by decide +kernel) rfl, rfl, fun z => nomatch z⟩
theorem fp_M_497 : FLP "SinkingChoirModel" 497 1 52 false := ⟨_, _, _, _, cf1, by decide, mem_tb 1336 (by decide +kernel) rfl, rfl, fun z => nomatch z⟩
theorem fp_M_420 : FLP "SinkingChoirModel" 420 1 53 false := ⟨_, _, _, _, cf1, by decide, mem_tb 1337 (by decide +kernel) rfl, rfl, fun z => nomatch z⟩
theorem fp_M_471 : FLP "SinkingChoirModel" 471 1 66 false := ⟨_, _, _, _, cf1, by decide, mem_tb 1350 (by decide +kernel) rfl, rfl, fun z => nomatch z⟩
theorem fp_M_474 : FLP "SinkingChoirModel" 474 1 64 false := ⟨_, _, _, _, cf1, by decide, mem_tb 1348 (by decide +kernel) rfl, rfl, fun z => nomatch z⟩
theorem fp_M_450 : FLP "SinkingChoirModel" 450 1 58 false := ⟨_, _, _, _, cf1, by decide, mem_tb 1342 (by decide +kernel) rfl, rfl, fun z => nomatch z⟩
theorem fp_M_426 : FLP "SinkingChoirModel" 426 1 59 false := ⟨_, _, _, _, cf1, by decide, mem_tb 1343 (by decide +kernel) rfl, rfl, fun z => nomatch z⟩
theorem fp_M_429 : FLP "SinkingChoirModel" 429 1 60 false := ⟨_, _, _, _, cf1, by decide, mem_tb 1344 (by decide +kernel) rfl, rfl, fun z => nomatch z⟩
theorem fp_M_477 : FLP "SinkingChoirModel" 477 1 67 false := ⟨_, _, _, _, cf1, by decide, mem_tb 1351 (by decide +kernel) rfl, rfl, fun z => nomatch z⟩
theorem fp_M_480 : FLP "SinkingChoirModel" 480 1 65 false := ⟨_, _, _, _, cf1, by decide, mem_tb 1349 (by decide +kernel) rfl, rfl, fun z => nomatch z⟩
theorem fp_M_490 : FLP "SinkingChoirModel" 490 1 61 false := ⟨_, _, _, _, cf1, by decide, mem_tb 1345 (by decide +kernel) rfl, rfl, fun z => nomatch z⟩
theorem fp_St_62 : FLP "SinkingChoir$Standing" 62 10 4 false := ⟨_, _, _, _, cf10, by decide, mem_tb 357 (by decide +kernel) rfl, rfl, fun z => nomatch z⟩
theorem fp_St_68 : FLP "SinkingChoir$Standing" 68 10 5 false := ⟨_, _, _, _, cf10, by decide, mem_tb 359 (by decide +kernel) rfl, rfl, fun z => nomatch z⟩
theorem fp_Le_46 : FLP "SinkingChoir$Leading" 46 4 3 false := ⟨_, _, _, _, cf4, by decide, mem_tb 386 (by decide +kernel) rfl, rfl, fun z => nomatch z⟩
theorem fp_Le_54 : FLP "SinkingChoir$Leading" 54 4 4 false := ⟨_, _, _, _, cf4, by decide, mem_tb 388 (by decide +kernel) rfl, rfl, fun z => nomatch z⟩
theorem fp_Fi_43 : FLP "SinkingChoir$Fitting" 43 3 4 false := ⟨_, _, _, _, cf3, by decide, mem_tb 411 (by decide +kernel) rfl, rfl, fun z => nomatch z⟩
theorem fs_Str_38 : Cond.fieldLink "java/lang/String" 38 "java/lang/String" "COMPACT_STRINGS" "Z" ∈ tb := mem_tb 295 (by decide +kernel) rfl
theorem fs_Str_15 : Cond.fieldLink "java/lang/String" 15 "java/lang/String" "coder" "B" ∈ tb := mem_tb 1999 (by decide +kernel) rfl
theorem fs_Str_9 : Cond.fieldLink "java/lang/String" 9 "java/lang/String" "value" "[B" ∈ tb := mem_tb 1998 (by decide +kernel) rfl
theorem c_Fr_15 : Jvm.Cond.constant "SinkingChoir$Fraction" 15 (-2147483648 : Int32) ∈ tb := mem_tb 503 (by decide +kernel) rfl
theorem c_Fr_29 : Jvm.Cond.constant "SinkingChoir$Fraction" 29 (1048576 : Int32) ∈ tb := mem_tb 504 (by decide +kernel) rfl
theorem c_Fr_21 : Jvm.Cond.constant "SinkingChoir$Fraction" 21 (537395712 : Int32) ∈ tb := mem_tb 512 (by decide +kernel) rfl
theorem c_Fr_22 : Jvm.Cond.constant "SinkingChoir$Fraction" 22 (1200000 : Int32) ∈ tb := mem_tb 508 (by decide +kernel) rfl
theorem c_Fr_27 : Jvm.Cond.constant "SinkingChoir$Fraction" 27 (1901955 : Int32) ∈ tb := mem_tb 513 (by decide +kernel) rfl
theorem c_Fr_28 : Jvm.Cond.constant "SinkingChoir$Fraction" 28 (2786314 : Int32) ∈ tb := mem_tb 514 (by decide +kernel) rfl
theorem c_Fr_19 : Jvm.Cond.constant "SinkingChoir$Fraction" 19 (-3000000 : Int32) ∈ tb := mem_tb 515 (by decide +kernel) rfl
theorem c_Fr_20 : Jvm.Cond.constant "SinkingChoir$Fraction" 20 (3000000 : Int32) ∈ tb := mem_tb 516 (by decide +kernel) rfl
theorem c_X_83 : Jvm.Cond.constant "SinkingChoir" 83 (-2147483648 : Int32) ∈ tb := mem_tb 520 (by decide +kernel) rfl
theorem c_M_166 : Jvm.Cond.constant "SinkingChoirModel" 166 (1200000 : Int32) ∈ tb := mem_tb 1521 (by decide +kernel) rfl
theorem c_M_167 : Jvm.Cond.constant "SinkingChoirModel" 167 (1901955 : Int32) ∈ tb := mem_tb 1522 (by decide +kernel) rfl
theorem c_M_168 : Jvm.Cond.constant "SinkingChoirModel" 168 (2786314 : Int32) ∈ tb := mem_tb 1523 (by decide +kernel) rfl
theorem c_X_102 : Jvm.Cond.constant "SinkingChoir" 102 (-1000000000 : Int32) ∈ tb := mem_tb 567 (by decide +kernel) rfl
theorem c_M_192 : Jvm.Cond.constant "SinkingChoirModel" 192 (-1000000000 : Int32) ∈ tb := mem_tb 1526 (by decide +kernel) rfl
theorem c_Wa_66 : Jvm.Cond.constant "SinkingChoir$Ways" 66 (2147483647 : Int32) ∈ tb := mem_tb 690 (by decide +kernel) rfl
theorem c_Wa_108 : Jvm.Cond.constant "SinkingChoir$Ways" 108 (-1000000000 : Int32) ∈ tb := mem_tb 734 (by decide +kernel) rfl
theorem c_X_159 : Jvm.Cond.constant "SinkingChoir" 159 (100000000 : Int32) ∈ tb := mem_tb 729 (by decide +kernel) rfl
theorem c_X_181 : Jvm.Cond.constant "SinkingChoir" 181 (-60000 : Int32) ∈ tb := mem_tb 755 (by decide +kernel) rfl
theorem c_X_182 : Jvm.Cond.constant "SinkingChoir" 182 (60000 : Int32) ∈ tb := mem_tb 756 (by decide +kernel) rfl
theorem c_X_186 : Jvm.Cond.constant "SinkingChoir" 186 (65535 : Int32) ∈ tb := mem_tb 761 (by decide +kernel) rfl
theorem c_X_190 : Jvm.Cond.constant "SinkingChoir" 190 (-200000 : Int32) ∈ tb := mem_tb 766 (by decide +kernel) rfl
theorem c_X_191 : Jvm.Cond.constant "SinkingChoir" 191 (200000 : Int32) ∈ tb := mem_tb 767 (by decide +kernel) rfl
theorem c_X_195 : Jvm.Cond.constant "SinkingChoir" 195 (16777216 : Int32) ∈ tb := mem_tb 772 (by decide +kernel) rfl
theorem c_Ch_77 : Jvm.Cond.constant "SinkingChoir$Choir" 77 (100000 : Int32) ∈ tb := mem_tb 994 (by decide +kernel) rfl
theorem c_Si_110 : Jvm.Cond.constant "SinkingChoir$Singing" 110 (65535 : Int32) ∈ tb := mem_tb 1003 (by decide +kernel) rfl
theorem c_M_419 : Jvm.Cond.constant "SinkingChoirModel" 419 (100000 : Int32) ∈ tb := mem_tb 1824 (by decide +kernel) rfl
theorem c_M_483 : Jvm.Cond.constant "SinkingChoirModel" 483 (65536 : Int32) ∈ tb := mem_tb 1829 (by decide +kernel) rfl
theorem c_X_304 : Jvm.Cond.constant "SinkingChoir" 304 (-10000000 : Int32) ∈ tb := mem_tb 1197 (by decide +kernel) rfl
theorem c_X_305 : Jvm.Cond.constant "SinkingChoir" 305 (10000000 : Int32) ∈ tb := mem_tb 1198 (by decide +kernel) rfl
theorem c_In_265 : Jvm.Cond.constant "java/lang/Integer" 265 (1431655765 : Int32) ∈ tb := mem_tb 1275 (by decide +kernel) rfl
theorem c_In_266 : Jvm.Cond.constant "java/lang/Integer" 266 (858993459 : Int32) ∈ tb := mem_tb 1276 (by decide +kernel) rfl
theorem c_In_267 : Jvm.Cond.constant "java/lang/Integer" 267 (252645135 : Int32) ∈ tb := mem_tb 1277 (by decide +kernel) rfl
theorem c_M_143 : Jvm.Cond.constantLong "SinkingChoirModel" 143 (5 : Int64) ∈ tb := mem_tb 1534 (by decide +kernel) rfl
theorem c_M_149 : Jvm.Cond.constantLong "SinkingChoirModel" 149 (23 : Int64) ∈ tb := mem_tb 1538 (by decide +kernel) rfl
theorem c_M_176 : Jvm.Cond.constantLong "SinkingChoirModel" 176 (2000 : Int64) ∈ tb := mem_tb 1505 (by decide +kernel) rfl
theorem c_M_185 : Jvm.Cond.constantLong "SinkingChoirModel" 185 (-3000000 : Int64) ∈ tb := mem_tb 1524 (by decide +kernel) rfl
theorem c_M_187 : Jvm.Cond.constantLong "SinkingChoirModel" 187 (3000000 : Int64) ∈ tb := mem_tb 1525 (by decide +kernel) rfl
theorem c_M_196 : Jvm.Cond.constantLong "SinkingChoirModel" 196 (60 : Int64) ∈ tb := mem_tb 1539 (by decide +kernel) rfl
theorem c_M_229 : Jvm.Cond.constantLong "SinkingChoirModel" 229 (6 : Int64) ∈ tb := mem_tb 1571 (by decide +kernel) rfl
theorem c_M_255 : Jvm.Cond.constantLong "SinkingChoirModel" 255 (1000000000000000 : Int64) ∈ tb := mem_tb 1639 (by decide +kernel) rfl
theorem c_M_273 : Jvm.Cond.constantLong "SinkingChoirModel" 273 (100000000 : Int64) ∈ tb := mem_tb 1652 (by decide +kernel) rfl
theorem c_M_278 : Jvm.Cond.constantLong "SinkingChoirModel" 278 (15 : Int64) ∈ tb := mem_tb 1657 (by decide +kernel) rfl
theorem c_M_280 : Jvm.Cond.constantLong "SinkingChoirModel" 280 (9 : Int64) ∈ tb := mem_tb 1658 (by decide +kernel) rfl
theorem c_M_285 : Jvm.Cond.constantLong "SinkingChoirModel" 285 (11 : Int64) ∈ tb := mem_tb 1671 (by decide +kernel) rfl
theorem c_M_287 : Jvm.Cond.constantLong "SinkingChoirModel" 287 (-60000 : Int64) ∈ tb := mem_tb 1672 (by decide +kernel) rfl
theorem c_M_289 : Jvm.Cond.constantLong "SinkingChoirModel" 289 (60000 : Int64) ∈ tb := mem_tb 1673 (by decide +kernel) rfl
theorem c_M_291 : Jvm.Cond.constantLong "SinkingChoirModel" 291 (65535 : Int64) ∈ tb := mem_tb 1678 (by decide +kernel) rfl
theorem c_M_293 : Jvm.Cond.constantLong "SinkingChoirModel" 293 (-200000 : Int64) ∈ tb := mem_tb 1683 (by decide +kernel) rfl
theorem c_M_295 : Jvm.Cond.constantLong "SinkingChoirModel" 295 (200000 : Int64) ∈ tb := mem_tb 1684 (by decide +kernel) rfl
theorem c_M_300 : Jvm.Cond.constantLong "SinkingChoirModel" 300 (16777215 : Int64) ∈ tb := mem_tb 1689 (by decide +kernel) rfl
theorem c_M_342 : Jvm.Cond.constantLong "SinkingChoirModel" 342 (48 : Int64) ∈ tb := mem_tb 1739 (by decide +kernel) rfl
theorem c_M_344 : Jvm.Cond.constantLong "SinkingChoirModel" 344 (57 : Int64) ∈ tb := mem_tb 1740 (by decide +kernel) rfl
theorem c_M_411 : Jvm.Cond.constantLong "SinkingChoirModel" 411 (200 : Int64) ∈ tb := mem_tb 1702 (by decide +kernel) rfl
theorem c_Si_162 : Jvm.Cond.constantLong "SinkingChoir$Singing" 162 (1000 : Int64) ∈ tb := mem_tb 1015 (by decide +kernel) rfl
theorem c_M_444 : Jvm.Cond.constantLong "SinkingChoirModel" 444 (1000 : Int64) ∈ tb := mem_tb 1872 (by decide +kernel) rfl
theorem c_X_239 : Jvm.Cond.constantLong "SinkingChoir" 239 (-1000000000 : Int64) ∈ tb := mem_tb 1063 (by decide +kernel) rfl
theorem c_M_530 : Jvm.Cond.constantLong "SinkingChoirModel" 530 (-1000000000 : Int64) ∈ tb := mem_tb 1882 (by decide +kernel) rfl
theorem c_M_528 : Jvm.Cond.constantLong "SinkingChoirModel" 528 (3 : Int64) ∈ tb := mem_tb 1881 (by decide +kernel) rfl
theorem c_M_535 : Jvm.Cond.constantLong "SinkingChoirModel" 535 (4 : Int64) ∈ tb := mem_tb 1903 (by decide +kernel) rfl
theorem c_X_272 : Jvm.Cond.constantLong "SinkingChoir" 272 (-2000000000 : Int64) ∈ tb := mem_tb 1130 (by decide +kernel) rfl
theorem c_M_550 : Jvm.Cond.constantLong "SinkingChoirModel" 550 (-2000000000 : Int64) ∈ tb := mem_tb 1928 (by decide +kernel) rfl
theorem c_Le_52 : Jvm.Cond.constantLong "SinkingChoir$Leading" 52 (9223372036854775807 : Int64) ∈ tb := mem_tb 1174 (by decide +kernel) rfl
theorem c_X_286 : Jvm.Cond.constantLong "SinkingChoir" 286 (-1 : Int64) ∈ tb := mem_tb 1156 (by decide +kernel) rfl
theorem c_X_288 : Jvm.Cond.constantLong "SinkingChoir" 288 (-2 : Int64) ∈ tb := mem_tb 1157 (by decide +kernel) rfl
theorem c_M_555 : Jvm.Cond.constantLong "SinkingChoirModel" 555 (-1 : Int64) ∈ tb := mem_tb 1941 (by decide +kernel) rfl
theorem c_M_557 : Jvm.Cond.constantLong "SinkingChoirModel" 557 (-2 : Int64) ∈ tb := mem_tb 1942 (by decide +kernel) rfl
theorem c_M_562 : Jvm.Cond.constantLong "SinkingChoirModel" 562 (-10000000 : Int64) ∈ tb := mem_tb 1959 (by decide +kernel) rfl
theorem c_M_564 : Jvm.Cond.constantLong "SinkingChoirModel" 564 (10000000 : Int64) ∈ tb := mem_tb 1960 (by decide +kernel) rfl
theorem c_X_346 : Jvm.Cond.constantLong "SinkingChoir" 346 (1000 : Int64) ∈ tb := mem_tb 1247 (by decide +kernel) rfl
theorem c_M_573 : Jvm.Cond.constantLong "SinkingChoirModel" 573 (100 : Int64) ∈ tb := mem_tb 1977 (by decide +kernel) rfl
theorem c_M_575 : Jvm.Cond.constantLong "SinkingChoirModel" 575 (2 : Int64) ∈ tb := mem_tb 1978 (by decide +kernel) rfl
theorem cl_Ch_37 : Cond.classLink "SinkingChoir$Choir" 37 R5 ∈ tb := mem_tb 187 (by decide +kernel) rfl
theorem cl_Re_15 : Cond.classLink "SinkingChoir$Reader" 15 R5 ∈ tb := mem_tb 444 (by decide +kernel) rfl
theorem cl_X_7 : Cond.classLink "SinkingChoir" 7 R8 ∈ tb := mem_tb 140 (by decide +kernel) rfl
theorem cl_X_16 : Cond.classLink "SinkingChoir" 16 R2 ∈ tb := mem_tb 181 (by decide +kernel) rfl
theorem cl_X_25 : Cond.classLink "SinkingChoir" 25 R9 ∈ tb := mem_tb 280 (by decide +kernel) rfl
theorem cl_X_34 : Cond.classLink "SinkingChoir" 34 R10 ∈ tb := mem_tb 346 (by decide +kernel) rfl
theorem cl_X_43 : Cond.classLink "SinkingChoir" 43 R4 ∈ tb := mem_tb 377 (by decide +kernel) rfl
theorem cl_X_50 : Cond.classLink "SinkingChoir" 50 R3 ∈ tb := mem_tb 401 (by decide +kernel) rfl
theorem cl_X_59 : Cond.classLink "SinkingChoir" 59 R7 ∈ tb := mem_tb 423 (by decide +kernel) rfl
theorem cl_X_66 : Cond.classLink "SinkingChoir" 66 R6 ∈ tb := mem_tb 438 (by decide +kernel) rfl
theorem cl_X_151 : Cond.classLink "SinkingChoir" 151 R11 ∈ tb := mem_tb 639 (by decide +kernel) rfl
theorem oi_Sc_3 : Cond.methodLink "SinkingChoir$Score" 3 Lib.objectInit ∈ tb ∧ Cond.instanceMethod Lib.objectInit ∈ tb ∧ Cond.code Lib.objectInit ⟨#[0xb1]⟩ 1 none ∈ tb := ⟨mem_tb 145 (by decide +kernel) rfl, mem_tb 138 (by decide +kernel) rfl, mem_tb 139 (by decide +kernel) rfl⟩
theorem oi_Pr_3 : Cond.methodLink "SinkingChoir$Program" 3 Lib.objectInit ∈ tb ∧ Cond.instanceMethod Lib.objectInit ∈ tb ∧ Cond.code Lib.objectInit ⟨#[0xb1]⟩ 1 none ∈ tb := ⟨mem_tb 192 (by decide +kernel) rfl, mem_tb 138 (by decide +kernel) rfl, mem_tb 139 (by decide +kernel) rfl⟩
theorem oi_Ch_3 : Cond.methodLink "SinkingChoir$Choir" 3 Lib.objectInit ∈ tb ∧ Cond.instanceMethod Lib.objectInit ∈ tb ∧ Cond.code Lib.objectInit ⟨#[0xb1]⟩ 1 none ∈ tb := ⟨mem_tb 186 (by decide +kernel) rfl, mem_tb 138 (by decide +kernel) rfl, mem_tb 139 (by decide +kernel) rfl⟩
theorem oi_Si_3 : Cond.methodLink "SinkingChoir$Singing" 3 Lib.objectInit ∈ tb ∧ Cond.instanceMethod Lib.objectInit ∈ tb ∧ Cond.code Lib.objectInit ⟨#[0xb1]⟩ 1 none ∈ tb := ⟨mem_tb 285 (by decide +kernel) rfl, mem_tb 138 (by decide +kernel) rfl, mem_tb 139 (by decide +kernel) rfl⟩
theorem oi_St_3 : Cond.methodLink "SinkingChoir$Standing" 3 Lib.objectInit ∈ tb ∧ Cond.instanceMethod Lib.objectInit ∈ tb ∧ Cond.code Lib.objectInit ⟨#[0xb1]⟩ 1 none ∈ tb := ⟨mem_tb 351 (by decide +kernel) rfl, mem_tb 138 (by decide +kernel) rfl, mem_tb 139 (by decide +kernel) rfl⟩
theorem oi_Le_3 : Cond.methodLink "SinkingChoir$Leading" 3 Lib.objectInit ∈ tb ∧ Cond.instanceMethod Lib.objectInit ∈ tb ∧ Cond.code Lib.objectInit ⟨#[0xb1]⟩ 1 none ∈ tb := ⟨mem_tb 382 (by decide +kernel) rfl, mem_tb 138 (by decide +kernel) rfl, mem_tb 139 (by decide +kernel) rfl⟩
theorem oi_Fi_3 : Cond.methodLink "SinkingChoir$Fitting" 3 Lib.objectInit ∈ tb ∧ Cond.instanceMethod Lib.objectInit ∈ tb ∧ Cond.code Lib.objectInit ⟨#[0xb1]⟩ 1 none ∈ tb := ⟨mem_tb 406 (by decide +kernel) rfl, mem_tb 138 (by decide +kernel) rfl, mem_tb 139 (by decide +kernel) rfl⟩
theorem oi_Rl_1 : Cond.methodLink "SinkingChoir$Reel" 1 Lib.objectInit ∈ tb ∧ Cond.instanceMethod Lib.objectInit ∈ tb ∧ Cond.code Lib.objectInit ⟨#[0xb1]⟩ 1 none ∈ tb := ⟨mem_tb 428 (by decide +kernel) rfl, mem_tb 138 (by decide +kernel) rfl, mem_tb 139 (by decide +kernel) rfl⟩
theorem oi_Re_3 : Cond.methodLink "SinkingChoir$Reader" 3 Lib.objectInit ∈ tb ∧ Cond.instanceMethod Lib.objectInit ∈ tb ∧ Cond.code Lib.objectInit ⟨#[0xb1]⟩ 1 none ∈ tb := ⟨mem_tb 443 (by decide +kernel) rfl, mem_tb 138 (by decide +kernel) rfl, mem_tb 139 (by decide +kernel) rfl⟩
theorem oi_X_1 : Cond.methodLink "SinkingChoir" 1 Lib.objectInit ∈ tb ∧ Cond.instanceMethod Lib.objectInit ∈ tb ∧ Cond.code Lib.objectInit ⟨#[0xb1]⟩ 1 none ∈ tb := ⟨mem_tb 137 (by decide +kernel) rfl, mem_tb 138 (by decide +kernel) rfl, mem_tb 139 (by decide +kernel) rfl⟩
theorem oi_M_1 : Cond.methodLink "SinkingChoirModel" 1 Lib.objectInit ∈ tb ∧ Cond.instanceMethod Lib.objectInit ∈ tb ∧ Cond.code Lib.objectInit ⟨#[0xb1]⟩ 1 none ∈ tb := ⟨mem_tb 1283 (by decide +kernel) rfl, mem_tb 138 (by decide +kernel) rfl, mem_tb 139 (by decide +kernel) rfl⟩
theorem oi_Wa_5 : Cond.methodLink "SinkingChoir$Ways" 5 Lib.objectInit ∈ tb ∧ Cond.instanceMethod Lib.objectInit ∈ tb ∧ Cond.code Lib.objectInit ⟨#[0xb1]⟩ 1 none ∈ tb := ⟨mem_tb 644 (by decide +kernel) rfl, mem_tb 138 (by decide +kernel) rfl, mem_tb 139 (by decide +kernel) rfl⟩
theorem cp_Wa_49 : Cond.methodLink "SinkingChoir$Ways" 49 arraycopyName ∈ tb ∧ Cond.native arraycopyName ∈ tb ∧ Cond.static arraycopyName ∈ tb ∧ Cond.initialized "java/lang/System" ∈ tb := ⟨mem_tb 681 (by decide +kernel) rfl, mem_tb 683 (by decide +kernel) rfl, mem_tb 682 (by decide +kernel) rfl, mem_tb 126 (by decide +kernel) rfl⟩
theorem cp_Re_32 : Cond.methodLink "SinkingChoir$Reader" 32 arraycopyName ∈ tb ∧ Cond.native arraycopyName ∈ tb ∧ Cond.static arraycopyName ∈ tb ∧ Cond.initialized "java/lang/System" ∈ tb := ⟨mem_tb 794 (by decide +kernel) rfl, mem_tb 683 (by decide +kernel) rfl, mem_tb 682 (by decide +kernel) rfl, mem_tb 126 (by decide +kernel) rfl⟩
theorem cp_St_33 : Cond.methodLink "SinkingChoir$Standing" 33 arraycopyName ∈ tb ∧ Cond.native arraycopyName ∈ tb ∧ Cond.static arraycopyName ∈ tb ∧ Cond.initialized "java/lang/System" ∈ tb := ⟨mem_tb 1135 (by decide +kernel) rfl, mem_tb 683 (by decide +kernel) rfl, mem_tb 682 (by decide +kernel) rfl, mem_tb 126 (by decide +kernel) rfl⟩
theorem sr_Si_20 : ∀ B sa U, STR B sa U → vk_R "SinkingChoir$Singing" 20 "bvikfhjurnox" (sa 0) U := fun _ _ _ h => h.1
theorem sr_Re_109 : ∀ B sa U, STR B sa U → vk_R "SinkingChoir$Reader" 109 "bvikfhjurnox" (sa 0) U := fun _ _ _ h => h.2.1
theorem sr_Re_67 : ∀ B sa U, STR B sa U → vk_R "SinkingChoir$Reader" 67 "pstkd" (sa 1) U := fun _ _ _ h => h.2.2.1
theorem lv_Str_335 : LKV "java/lang/String" 335 Y_Str_coder 0 := ⟨mem_tb 291 (by decide +kernel) rfl, mem_tb 292 (by decide +kernel) rfl, mem_tb 293 (by decide +kernel) rfl, mem_tb 116 (by decide +kernel) rfl, cw_Str_coder, ⟨by decide +kernel, by decide +kernel, by decide +kernel⟩, by decide⟩
theorem lv_Si_22 : LKV "SinkingChoir$Singing" 22 Y_Str_length 0 := ⟨mem_tb 287 (by decide +kernel) rfl, mem_tb 288 (by decide +kernel) rfl, mem_tb 289 (by decide +kernel) rfl, mem_tb 116 (by decide +kernel) rfl, cw_Str_length, ⟨by decide +kernel, by decide +kernel, by decide +kernel⟩, by decide⟩
theorem lv_Sc_39 : LKV "SinkingChoir$Score" 39 Y_Sc_sounds 2 := ⟨mem_tb 534 (by decide +kernel) rfl, mem_tb 535 (by decide +kernel) rfl, mem_tb 536 (by decide +kernel) rfl, mem_tb 111 (by decide +kernel) rfl, cw_Sc_sounds, ⟨by decide +kernel, by decide +kernel, by decide +kernel⟩, by decide⟩
theorem lv_Sc_55 : LKV "SinkingChoir$Score" 55 Y_Sc_holds 2 := ⟨mem_tb 530 (by decide +kernel) rfl, mem_tb 531 (by decide +kernel) rfl, mem_tb 532 (by decide +kernel) rfl, mem_tb 111 (by decide +kernel) rfl, cw_Sc_holds, ⟨by decide +kernel, by decide +kernel, by decide +kernel⟩, by decide⟩
theorem lv_Sc_61 : LKV "SinkingChoir$Score" 61 Y_Sc_shift 2 := ⟨mem_tb 542 (by decide +kernel) rfl, mem_tb 543 (by decide +kernel) rfl, mem_tb 544 (by decide +kernel) rfl, mem_tb 111 (by decide +kernel) rfl, cw_Sc_shift, ⟨by decide +kernel, by decide +kernel, by decide +kernel⟩, by decide⟩
theorem lv_Sc_58 : LKV "SinkingChoir$Score" 58 Y_Sc_tune 0 := ⟨mem_tb 538 (by decide +kernel) rfl, mem_tb 540 (by decide +kernel) rfl, mem_tb 0 (by decide +kernel) rfl, mem_tb 111 (by decide +kernel) rfl, cw_Sc_tune, ⟨by decide +kernel, by decide +kernel, by decide +kernel⟩, by decide⟩
theorem lv_X_84 : LKV "SinkingChoir" 84 Y_Sc_put 4 := ⟨mem_tb 521 (by decide +kernel) rfl, mem_tb 522 (by decide +kernel) rfl, mem_tb 523 (by decide +kernel) rfl, mem_tb 111 (by decide +kernel) rfl, cw_Sc_put, ⟨by decide +kernel, by decide +kernel, by decide +kernel⟩, by decide⟩
theorem lv_X_88 : LKV "SinkingChoir" 88 Y_X_changed 0 := ⟨mem_tb 546 (by decide +kernel) rfl, mem_tb 548 (by decide +kernel) rfl, mem_tb 1 (by decide +kernel) rfl, mem_tb 110 (by decide +kernel) rfl, cw_X_changed, ⟨by decide +kernel, by decide +kernel, by decide +kernel⟩, by decide⟩
theorem lv_M_162 : LKV "SinkingChoirModel" 162 Y_M_isNote 2 := ⟨mem_tb 1551 (by decide +kernel) rfl, mem_tb 1553 (by decide +kernel) rfl, mem_tb 41 (by decide +kernel) rfl, mem_tb 122 (by decide +kernel) rfl, cw_M_isNote, ⟨by decide +kernel, by decide +kernel, by decide +kernel⟩, by decide⟩
theorem lv_M_193 : LKV "SinkingChoirModel" 193 Y_M_isHeld 2 := ⟨mem_tb 1547 (by decide +kernel) rfl, mem_tb 1549 (by decide +kernel) rfl, mem_tb 40 (by decide +kernel) rfl, mem_tb 122 (by decide +kernel) rfl, cw_M_isHeld, ⟨by decide +kernel, by decide +kernel, by decide +kernel⟩, by decide⟩
theorem lv_M_198 : LKV "SinkingChoirModel" 198 Y_M_falls 2 := ⟨mem_tb 1543 (by decide +kernel) rfl, mem_tb 1545 (by decide +kernel) rfl, mem_tb 39 (by decide +kernel) rfl, mem_tb 122 (by decide +kernel) rfl, cw_M_falls, ⟨by decide +kernel, by decide +kernel, by decide +kernel⟩, by decide⟩
theorem lv_X_92 : LKV "SinkingChoir" 92 Y_Sc_sounds 2 := ⟨mem_tb 554 (by decide +kernel) rfl, mem_tb 535 (by decide +kernel) rfl, mem_tb 536 (by decide +kernel) rfl, mem_tb 111 (by decide +kernel) rfl, cw_Sc_sounds, ⟨by decide +kernel, by decide +kernel, by decide +kernel⟩, by decide⟩
theorem lv_X_95 : LKV "SinkingChoir" 95 Y_Sc_breathes 2 := ⟨mem_tb 559 (by decide +kernel) rfl, mem_tb 560 (by decide +kernel) rfl, mem_tb 561 (by decide +kernel) rfl, mem_tb 111 (by decide +kernel) rfl, cw_Sc_breathes, ⟨by decide +kernel, by decide +kernel, by decide +kernel⟩, by decide⟩
theorem lv_X_110 : LKV "SinkingChoir" 110 Y_Sc_bind 2 := ⟨mem_tb 574 (by decide +kernel) rfl, mem_tb 575 (by decide +kernel) rfl, mem_tb 576 (by decide +kernel) rfl, mem_tb 111 (by decide +kernel) rfl, cw_Sc_bind, ⟨by decide +kernel, by decide +kernel, by decide +kernel⟩, by decide⟩
theorem lv_X_107 : LKV "SinkingChoir" 107 Y_Sc_holds 2 := ⟨mem_tb 573 (by decide +kernel) rfl, mem_tb 531 (by decide +kernel) rfl, mem_tb 532 (by decide +kernel) rfl, mem_tb 111 (by decide +kernel) rfl, cw_Sc_holds, ⟨by decide +kernel, by decide +kernel, by decide +kernel⟩, by decide⟩
theorem lv_Sc_64 : LKV "SinkingChoir$Score" 64 Y_Sc_tearBy 3 := ⟨mem_tb 595 (by decide +kernel) rfl, mem_tb 596 (by decide +kernel) rfl, mem_tb 597 (by decide +kernel) rfl, mem_tb 111 (by decide +kernel) rfl, cw_Sc_tearBy, ⟨by decide +kernel, by decide +kernel, by decide +kernel⟩, by decide⟩
theorem lv_Sc_76 : LKV "SinkingChoir$Score" 76 Y_Sc_tear 2 := ⟨mem_tb 591 (by decide +kernel) rfl, mem_tb 592 (by decide +kernel) rfl, mem_tb 593 (by decide +kernel) rfl, mem_tb 111 (by decide +kernel) rfl, cw_Sc_tear, ⟨by decide +kernel, by decide +kernel, by decide +kernel⟩, by decide⟩
theorem lv_X_126 : LKV "SinkingChoir" 126 Y_Sc_heldIn 1 := ⟨mem_tb 583 (by decide +kernel) rfl, mem_tb 584 (by decide +kernel) rfl, mem_tb 585 (by decide +kernel) rfl, mem_tb 111 (by decide +kernel) rfl, cw_Sc_heldIn, ⟨by decide +kernel, by decide +kernel, by decide +kernel⟩, by decide⟩
theorem lv_X_129 : LKV "SinkingChoir" 129 Y_Sc_tornIn 1 := ⟨mem_tb 587 (by decide +kernel) rfl, mem_tb 588 (by decide +kernel) rfl, mem_tb 589 (by decide +kernel) rfl, mem_tb 111 (by decide +kernel) rfl, cw_Sc_tornIn, ⟨by decide +kernel, by decide +kernel, by decide +kernel⟩, by decide⟩
theorem lv_M_211 : LKV "SinkingChoirModel" 211 Y_M_leap 3 := ⟨mem_tb 1580 (by decide +kernel) rfl, mem_tb 1582 (by decide +kernel) rfl, mem_tb 44 (by decide +kernel) rfl, mem_tb 122 (by decide +kernel) rfl, cw_M_leap, ⟨by decide +kernel, by decide +kernel, by decide +kernel⟩, by decide⟩
theorem lv_M_215 : LKV "SinkingChoirModel" 215 Y_M_goesTo 1 := ⟨mem_tb 1576 (by decide +kernel) rfl, mem_tb 1578 (by decide +kernel) rfl, mem_tb 43 (by decide +kernel) rfl, mem_tb 122 (by decide +kernel) rfl, cw_M_goesTo, ⟨by decide +kernel, by decide +kernel, by decide +kernel⟩, by decide⟩
theorem lv_M_219 : LKV "SinkingChoirModel" 219 Y_M_sizeAt 2 := ⟨mem_tb 1588 (by decide +kernel) rfl, mem_tb 1590 (by decide +kernel) rfl, mem_tb 46 (by decide +kernel) rfl, mem_tb 122 (by decide +kernel) rfl, cw_M_sizeAt, ⟨by decide +kernel, by decide +kernel, by decide +kernel⟩, by decide⟩
theorem lv_M_231 : LKV "SinkingChoirModel" 231 Y_M_keynoteOf 1 := ⟨mem_tb 1572 (by decide +kernel) rfl, mem_tb 1574 (by decide +kernel) rfl, mem_tb 42 (by decide +kernel) rfl, mem_tb 122 (by decide +kernel) rfl, cw_M_keynoteOf, ⟨by decide +kernel, by decide +kernel, by decide +kernel⟩, by decide⟩
theorem lv_M_222 : LKV "SinkingChoirModel" 222 Y_M_tornBy 3 := ⟨mem_tb 1584 (by decide +kernel) rfl, mem_tb 1586 (by decide +kernel) rfl, mem_tb 45 (by decide +kernel) rfl, mem_tb 122 (by decide +kernel) rfl, cw_M_tornBy, ⟨by decide +kernel, by decide +kernel, by decide +kernel⟩, by decide⟩
theorem lv_X_132 : LKV "SinkingChoir" 132 Y_Sc_tear 2 := ⟨mem_tb 603 (by decide +kernel) rfl, mem_tb 592 (by decide +kernel) rfl, mem_tb 593 (by decide +kernel) rfl, mem_tb 111 (by decide +kernel) rfl, cw_Sc_tear, ⟨by decide +kernel, by decide +kernel, by decide +kernel⟩, by decide⟩
theorem lv_Sc_79 : LKV "SinkingChoir$Score" 79 Y_Sc_soundsIn 1 := ⟨mem_tb 612 (by decide +kernel) rfl, mem_tb 613 (by decide +kernel) rfl, mem_tb 614 (by decide +kernel) rfl, mem_tb 111 (by decide +kernel) rfl, cw_Sc_soundsIn, ⟨by decide +kernel, by decide +kernel, by decide +kernel⟩, by decide⟩
theorem lv_Sc_73 : LKV "SinkingChoir$Score" 73 Y_Sc_foulnessBy 2 := ⟨mem_tb 620 (by decide +kernel) rfl, mem_tb 621 (by decide +kernel) rfl, mem_tb 622 (by decide +kernel) rfl, mem_tb 111 (by decide +kernel) rfl, cw_Sc_foulnessBy, ⟨by decide +kernel, by decide +kernel, by decide +kernel⟩, by decide⟩
theorem lv_X_135 : LKV "SinkingChoir" 135 Y_Sc_lastBeat 0 := ⟨mem_tb 608 (by decide +kernel) rfl, mem_tb 609 (by decide +kernel) rfl, mem_tb 610 (by decide +kernel) rfl, mem_tb 111 (by decide +kernel) rfl, cw_Sc_lastBeat, ⟨by decide +kernel, by decide +kernel, by decide +kernel⟩, by decide⟩
theorem lv_X_139 : LKV "SinkingChoir" 139 Y_Sc_foulness 0 := ⟨mem_tb 616 (by decide +kernel) rfl, mem_tb 617 (by decide +kernel) rfl, mem_tb 618 (by decide +kernel) rfl, mem_tb 111 (by decide +kernel) rfl, cw_Sc_foulness, ⟨by decide +kernel, by decide +kernel, by decide +kernel⟩, by decide⟩
theorem lv_M_234 : LKV "SinkingChoirModel" 234 Y_M_lastBeat 0 := ⟨mem_tb 1600 (by decide +kernel) rfl, mem_tb 1602 (by decide +kernel) rfl, mem_tb 47 (by decide +kernel) rfl, mem_tb 122 (by decide +kernel) rfl, cw_M_lastBeat, ⟨by decide +kernel, by decide +kernel, by decide +kernel⟩, by decide⟩
theorem lv_M_238 : LKV "SinkingChoirModel" 238 Y_M_foulBy 2 := ⟨mem_tb 1604 (by decide +kernel) rfl, mem_tb 1606 (by decide +kernel) rfl, mem_tb 48 (by decide +kernel) rfl, mem_tb 122 (by decide +kernel) rfl, cw_M_foulBy, ⟨by decide +kernel, by decide +kernel, by decide +kernel⟩, by decide⟩
theorem lv_Wa_39 : LKV "SinkingChoir$Ways" 39 Y_Sc_lastBeat 0 := ⟨mem_tb 680 (by decide +kernel) rfl, mem_tb 609 (by decide +kernel) rfl, mem_tb 610 (by decide +kernel) rfl, mem_tb 111 (by decide +kernel) rfl, cw_Sc_lastBeat, ⟨by decide +kernel, by decide +kernel, by decide +kernel⟩, by decide⟩
theorem lv_Wa_55 : LKV "SinkingChoir$Ways" 55 Y_Sc_shift 2 := ⟨mem_tb 684 (by decide +kernel) rfl, mem_tb 543 (by decide +kernel) rfl, mem_tb 544 (by decide +kernel) rfl, mem_tb 111 (by decide +kernel) rfl, cw_Sc_shift, ⟨by decide +kernel, by decide +kernel, by decide +kernel⟩, by decide⟩
theorem lv_Wa_59 : LKV "SinkingChoir$Ways" 59 Y_Sc_holds 2 := ⟨mem_tb 685 (by decide +kernel) rfl, mem_tb 531 (by decide +kernel) rfl, mem_tb 532 (by decide +kernel) rfl, mem_tb 111 (by decide +kernel) rfl, cw_Sc_holds, ⟨by decide +kernel, by decide +kernel, by decide +kernel⟩, by decide⟩
theorem lv_Wa_63 : LKV "SinkingChoir$Ways" 63 Y_Wa_spread 2 := ⟨mem_tb 686 (by decide +kernel) rfl, mem_tb 688 (by decide +kernel) rfl, mem_tb 4 (by decide +kernel) rfl, mem_tb 125 (by decide +kernel) rfl, cw_Wa_spread, ⟨by decide +kernel, by decide +kernel, by decide +kernel⟩, by decide⟩
theorem lv_X_337 : LKV "SinkingChoir" 337 Y_Wa_explore 0 := ⟨mem_tb 676 (by decide +kernel) rfl, mem_tb 677 (by decide +kernel) rfl, mem_tb 678 (by decide +kernel) rfl, mem_tb 125 (by decide +kernel) rfl, cw_Wa_explore, ⟨by decide +kernel, by decide +kernel, by decide +kernel⟩, by decide⟩
theorem lv_Wa_81 : LKV "SinkingChoir$Ways" 81 Y_Sc_foulnessBy 2 := ⟨mem_tb 707 (by decide +kernel) rfl, mem_tb 621 (by decide +kernel) rfl, mem_tb 622 (by decide +kernel) rfl, mem_tb 111 (by decide +kernel) rfl, cw_Sc_foulnessBy, ⟨by decide +kernel, by decide +kernel, by decide +kernel⟩, by decide⟩
theorem lv_Wa_84 : LKV "SinkingChoir$Ways" 84 Y_Wa_find 2 := ⟨mem_tb 698 (by decide +kernel) rfl, mem_tb 700 (by decide +kernel) rfl, mem_tb 5 (by decide +kernel) rfl, mem_tb 125 (by decide +kernel) rfl, cw_Wa_find, ⟨by decide +kernel, by decide +kernel, by decide +kernel⟩, by decide⟩
theorem lv_Wa_87 : LKV "SinkingChoir$Ways" 87 Y_Wa_price 1 := ⟨mem_tb 702 (by decide +kernel) rfl, mem_tb 704 (by decide +kernel) rfl, mem_tb 6 (by decide +kernel) rfl, mem_tb 125 (by decide +kernel) rfl, cw_Wa_price, ⟨by decide +kernel, by decide +kernel, by decide +kernel⟩, by decide⟩
theorem lv_Wa_104 : LKV "SinkingChoir$Ways" 104 Y_Wa_follow 0 := ⟨mem_tb 713 (by decide +kernel) rfl, mem_tb 715 (by decide +kernel) rfl, mem_tb 8 (by decide +kernel) rfl, mem_tb 125 (by decide +kernel) rfl, cw_Wa_follow, ⟨by decide +kernel, by decide +kernel, by decide +kernel⟩, by decide⟩
theorem lv_Wa_97 : LKV "SinkingChoir$Ways" 97 Y_Wa_relax 3 := ⟨mem_tb 709 (by decide +kernel) rfl, mem_tb 711 (by decide +kernel) rfl, mem_tb 7 (by decide +kernel) rfl, mem_tb 125 (by decide +kernel) rfl, cw_Wa_relax, ⟨by decide +kernel, by decide +kernel, by decide +kernel⟩, by decide⟩
theorem lv_X_142 : LKV "SinkingChoir" 142 Y_X_asksRow 1 := ⟨mem_tb 631 (by decide +kernel) rfl, mem_tb 633 (by decide +kernel) rfl, mem_tb 2 (by decide +kernel) rfl, mem_tb 110 (by decide +kernel) rfl, cw_X_asksRow, ⟨by decide +kernel, by decide +kernel, by decide +kernel⟩, by decide⟩
theorem lv_X_146 : LKV "SinkingChoir" 146 Y_X_explored 0 := ⟨mem_tb 635 (by decide +kernel) rfl, mem_tb 637 (by decide +kernel) rfl, mem_tb 3 (by decide +kernel) rfl, mem_tb 110 (by decide +kernel) rfl, cw_X_explored, ⟨by decide +kernel, by decide +kernel, by decide +kernel⟩, by decide⟩
theorem lv_X_150 : LKV "SinkingChoir" 150 Y_Wa_leastRow 1 := ⟨mem_tb 694 (by decide +kernel) rfl, mem_tb 695 (by decide +kernel) rfl, mem_tb 696 (by decide +kernel) rfl, mem_tb 125 (by decide +kernel) rfl, cw_Wa_leastRow, ⟨by decide +kernel, by decide +kernel, by decide +kernel⟩, by decide⟩
theorem lv_X_156 : LKV "SinkingChoir" 156 Y_Wa_told 1 := ⟨mem_tb 717 (by decide +kernel) rfl, mem_tb 718 (by decide +kernel) rfl, mem_tb 719 (by decide +kernel) rfl, mem_tb 125 (by decide +kernel) rfl, cw_Wa_told, ⟨by decide +kernel, by decide +kernel, by decide +kernel⟩, by decide⟩
theorem lv_M_242 : LKV "SinkingChoirModel" 242 Y_M_placeOf 4 := ⟨mem_tb 1627 (by decide +kernel) rfl, mem_tb 1629 (by decide +kernel) rfl, mem_tb 52 (by decide +kernel) rfl, mem_tb 122 (by decide +kernel) rfl, cw_M_placeOf, ⟨by decide +kernel, by decide +kernel, by decide +kernel⟩, by decide⟩
theorem lv_M_246 : LKV "SinkingChoirModel" 246 Y_M_mayLink 2 := ⟨mem_tb 1631 (by decide +kernel) rfl, mem_tb 1633 (by decide +kernel) rfl, mem_tb 53 (by decide +kernel) rfl, mem_tb 122 (by decide +kernel) rfl, cw_M_mayLink, ⟨by decide +kernel, by decide +kernel, by decide +kernel⟩, by decide⟩
theorem lv_M_249 : LKV "SinkingChoirModel" 249 Y_M_nextOf 3 := ⟨mem_tb 1635 (by decide +kernel) rfl, mem_tb 1637 (by decide +kernel) rfl, mem_tb 54 (by decide +kernel) rfl, mem_tb 122 (by decide +kernel) rfl, cw_M_nextOf, ⟨by decide +kernel, by decide +kernel, by decide +kernel⟩, by decide⟩
theorem lv_M_252 : LKV "SinkingChoirModel" 252 Y_M_lays 1 := ⟨mem_tb 1623 (by decide +kernel) rfl, mem_tb 1625 (by decide +kernel) rfl, mem_tb 51 (by decide +kernel) rfl, mem_tb 122 (by decide +kernel) rfl, cw_M_lays, ⟨by decide +kernel, by decide +kernel, by decide +kernel⟩, by decide⟩
theorem lv_M_257 : LKV "SinkingChoirModel" 257 Y_M_costBy 3 := ⟨mem_tb 1640 (by decide +kernel) rfl, mem_tb 1642 (by decide +kernel) rfl, mem_tb 55 (by decide +kernel) rfl, mem_tb 122 (by decide +kernel) rfl, cw_M_costBy, ⟨by decide +kernel, by decide +kernel, by decide +kernel⟩, by decide⟩
theorem lv_M_265 : LKV "SinkingChoirModel" 265 Y_M_finds 2 := ⟨mem_tb 1619 (by decide +kernel) rfl, mem_tb 1621 (by decide +kernel) rfl, mem_tb 50 (by decide +kernel) rfl, mem_tb 122 (by decide +kernel) rfl, cw_M_finds, ⟨by decide +kernel, by decide +kernel, by decide +kernel⟩, by decide⟩
theorem lv_M_269 : LKV "SinkingChoirModel" 269 Y_M_rowOf 2 := ⟨mem_tb 1615 (by decide +kernel) rfl, mem_tb 1617 (by decide +kernel) rfl, mem_tb 49 (by decide +kernel) rfl, mem_tb 122 (by decide +kernel) rfl, cw_M_rowOf, ⟨by decide +kernel, by decide +kernel, by decide +kernel⟩, by decide⟩
theorem lv_X_160 : LKV "SinkingChoir" 160 Y_Wa_nearest 1 := ⟨mem_tb 730 (by decide +kernel) rfl, mem_tb 731 (by decide +kernel) rfl, mem_tb 732 (by decide +kernel) rfl, mem_tb 125 (by decide +kernel) rfl, cw_Wa_nearest, ⟨by decide +kernel, by decide +kernel, by decide +kernel⟩, by decide⟩
theorem lv_X_179 : LKV "SinkingChoir" 179 Y_Ch_has 1 := ⟨mem_tb 747 (by decide +kernel) rfl, mem_tb 748 (by decide +kernel) rfl, mem_tb 749 (by decide +kernel) rfl, mem_tb 113 (by decide +kernel) rfl, cw_Ch_has, ⟨by decide +kernel, by decide +kernel, by decide +kernel⟩, by decide⟩
theorem lv_M_282 : LKV "SinkingChoirModel" 282 Y_M_isSinger 1 := ⟨mem_tb 1663 (by decide +kernel) rfl, mem_tb 1665 (by decide +kernel) rfl, mem_tb 56 (by decide +kernel) rfl, mem_tb 122 (by decide +kernel) rfl, cw_M_isSinger, ⟨by decide +kernel, by decide +kernel, by decide +kernel⟩, by decide⟩
theorem lv_X_199 : LKV "SinkingChoir" 199 Y_Rl_hasRoom 0 := ⟨mem_tb 777 (by decide +kernel) rfl, mem_tb 778 (by decide +kernel) rfl, mem_tb 779 (by decide +kernel) rfl, mem_tb 120 (by decide +kernel) rfl, cw_Rl_hasRoom, ⟨by decide +kernel, by decide +kernel, by decide +kernel⟩, by decide⟩
theorem lv_X_202 : LKV "SinkingChoir" 202 Y_Rl_add 1 := ⟨mem_tb 781 (by decide +kernel) rfl, mem_tb 782 (by decide +kernel) rfl, mem_tb 783 (by decide +kernel) rfl, mem_tb 120 (by decide +kernel) rfl, cw_Rl_add, ⟨by decide +kernel, by decide +kernel, by decide +kernel⟩, by decide⟩
theorem lv_M_308 : LKV "SinkingChoirModel" 308 Y_M_push 1 := ⟨mem_tb 1694 (by decide +kernel) rfl, mem_tb 1696 (by decide +kernel) rfl, mem_tb 57 (by decide +kernel) rfl, mem_tb 122 (by decide +kernel) rfl, cw_M_push, ⟨by decide +kernel, by decide +kernel, by decide +kernel⟩, by decide⟩
theorem lv_Str_492 : LKV "java/lang/String" 492 Y_Str_isLatin1 0 := ⟨mem_tb 819 (by decide +kernel) rfl, mem_tb 820 (by decide +kernel) rfl, mem_tb 821 (by decide +kernel) rfl, mem_tb 116 (by decide +kernel) rfl, cw_Str_isLatin1, ⟨by decide +kernel, by decide +kernel, by decide +kernel⟩, by decide⟩
theorem lv_Str_505 : LKV "java/lang/String" 505 Y_Str_length 0 := ⟨mem_tb 823 (by decide +kernel) rfl, mem_tb 288 (by decide +kernel) rfl, mem_tb 289 (by decide +kernel) rfl, mem_tb 116 (by decide +kernel) rfl, cw_Str_length, ⟨by decide +kernel, by decide +kernel, by decide +kernel⟩, by decide⟩
theorem lv_Str_633 : LKV "java/lang/String" 633 Y_Str_indexOf_II 2 := ⟨mem_tb 815 (by decide +kernel) rfl, mem_tb 816 (by decide +kernel) rfl, mem_tb 817 (by decide +kernel) rfl, mem_tb 116 (by decide +kernel) rfl, cw_Str_indexOf_II, ⟨by decide +kernel, by decide +kernel, by decide +kernel⟩, by decide⟩
theorem lv_Re_61 : LKV "SinkingChoir$Reader" 61 Y_Str_indexOf_I 1 := ⟨mem_tb 811 (by decide +kernel) rfl, mem_tb 812 (by decide +kernel) rfl, mem_tb 813 (by decide +kernel) rfl, mem_tb 116 (by decide +kernel) rfl, cw_Str_indexOf_I, ⟨by decide +kernel, by decide +kernel, by decide +kernel⟩, by decide⟩
theorem lv_Re_54 : LKV "SinkingChoir$Reader" 54 Y_Re_here 0 := ⟨mem_tb 804 (by decide +kernel) rfl, mem_tb 806 (by decide +kernel) rfl, mem_tb 10 (by decide +kernel) rfl, mem_tb 121 (by decide +kernel) rfl, cw_Re_here, ⟨by decide +kernel, by decide +kernel, by decide +kernel⟩, by decide⟩
theorem lv_Re_58 : LKV "SinkingChoir$Reader" 58 Y_Re_fail 1 := ⟨mem_tb 886 (by decide +kernel) rfl, mem_tb 888 (by decide +kernel) rfl, mem_tb 11 (by decide +kernel) rfl, mem_tb 121 (by decide +kernel) rfl, cw_Re_fail, ⟨by decide +kernel, by decide +kernel, by decide +kernel⟩, by decide⟩
theorem lv_Re_91 : LKV "SinkingChoir$Reader" 91 Y_Pr_add 2 := ⟨mem_tb 907 (by decide +kernel) rfl, mem_tb 908 (by decide +kernel) rfl, mem_tb 909 (by decide +kernel) rfl, mem_tb 114 (by decide +kernel) rfl, cw_Pr_add, ⟨by decide +kernel, by decide +kernel, by decide +kernel⟩, by decide⟩
theorem lv_Re_88 : LKV "SinkingChoir$Reader" 88 Y_Re_all 1 := ⟨mem_tb 930 (by decide +kernel) rfl, mem_tb 932 (by decide +kernel) rfl, mem_tb 18 (by decide +kernel) rfl, mem_tb 121 (by decide +kernel) rfl, cw_Re_all, ⟨by decide +kernel, by decide +kernel, by decide +kernel⟩, by decide⟩
theorem lv_Re_94 : LKV "SinkingChoir$Reader" 94 Y_Pr_land 1 := ⟨mem_tb 942 (by decide +kernel) rfl, mem_tb 943 (by decide +kernel) rfl, mem_tb 944 (by decide +kernel) rfl, mem_tb 114 (by decide +kernel) rfl, cw_Pr_land, ⟨by decide +kernel, by decide +kernel, by decide +kernel⟩, by decide⟩
theorem lv_Re_97 : LKV "SinkingChoir$Reader" 97 Y_Re_piece 1 := ⟨mem_tb 934 (by decide +kernel) rfl, mem_tb 936 (by decide +kernel) rfl, mem_tb 19 (by decide +kernel) rfl, mem_tb 121 (by decide +kernel) rfl, cw_Re_piece, ⟨by decide +kernel, by decide +kernel, by decide +kernel⟩, by decide⟩
theorem lv_Re_82 : LKV "SinkingChoir$Reader" 82 Y_Re_either 1 := ⟨mem_tb 926 (by decide +kernel) rfl, mem_tb 928 (by decide +kernel) rfl, mem_tb 17 (by decide +kernel) rfl, mem_tb 121 (by decide +kernel) rfl, cw_Re_either, ⟨by decide +kernel, by decide +kernel, by decide +kernel⟩, by decide⟩
theorem lv_Re_51 : LKV "SinkingChoir$Reader" 51 Y_Re_take 1 := ⟨mem_tb 918 (by decide +kernel) rfl, mem_tb 920 (by decide +kernel) rfl, mem_tb 16 (by decide +kernel) rfl, mem_tb 121 (by decide +kernel) rfl, cw_Re_take, ⟨by decide +kernel, by decide +kernel, by decide +kernel⟩, by decide⟩
theorem lv_Re_76 : LKV "SinkingChoir$Reader" 76 Y_Re_sum 1 := ⟨mem_tb 894 (by decide +kernel) rfl, mem_tb 896 (by decide +kernel) rfl, mem_tb 12 (by decide +kernel) rfl, mem_tb 121 (by decide +kernel) rfl, cw_Re_sum, ⟨by decide +kernel, by decide +kernel, by decide +kernel⟩, by decide⟩
theorem lv_Re_100 : LKV "SinkingChoir$Reader" 100 Y_Re_comparison 0 := ⟨mem_tb 938 (by decide +kernel) rfl, mem_tb 940 (by decide +kernel) rfl, mem_tb 20 (by decide +kernel) rfl, mem_tb 121 (by decide +kernel) rfl, cw_Re_comparison, ⟨by decide +kernel, by decide +kernel, by decide +kernel⟩, by decide⟩
theorem lv_Re_103 : LKV "SinkingChoir$Reader" 103 Y_Re_product 1 := ⟨mem_tb 898 (by decide +kernel) rfl, mem_tb 900 (by decide +kernel) rfl, mem_tb 13 (by decide +kernel) rfl, mem_tb 121 (by decide +kernel) rfl, cw_Re_product, ⟨by decide +kernel, by decide +kernel, by decide +kernel⟩, by decide⟩
theorem lv_Re_106 : LKV "SinkingChoir$Reader" 106 Y_Re_factor 1 := ⟨mem_tb 902 (by decide +kernel) rfl, mem_tb 904 (by decide +kernel) rfl, mem_tb 14 (by decide +kernel) rfl, mem_tb 121 (by decide +kernel) rfl, cw_Re_factor, ⟨by decide +kernel, by decide +kernel, by decide +kernel⟩, by decide⟩
theorem lv_Re_115 : LKV "SinkingChoir$Reader" 115 Y_Re_number 0 := ⟨mem_tb 914 (by decide +kernel) rfl, mem_tb 916 (by decide +kernel) rfl, mem_tb 15 (by decide +kernel) rfl, mem_tb 121 (by decide +kernel) rfl, cw_Re_number, ⟨by decide +kernel, by decide +kernel, by decide +kernel⟩, by decide⟩
theorem lv_Re_73 : LKV "SinkingChoir$Reader" 73 Y_Pr_open 1 := ⟨mem_tb 890 (by decide +kernel) rfl, mem_tb 891 (by decide +kernel) rfl, mem_tb 892 (by decide +kernel) rfl, mem_tb 114 (by decide +kernel) rfl, cw_Pr_open, ⟨by decide +kernel, by decide +kernel, by decide +kernel⟩, by decide⟩
theorem lv_Re_79 : LKV "SinkingChoir$Reader" 79 Y_Pr_divide 0 := ⟨mem_tb 922 (by decide +kernel) rfl, mem_tb 923 (by decide +kernel) rfl, mem_tb 924 (by decide +kernel) rfl, mem_tb 114 (by decide +kernel) rfl, cw_Pr_divide, ⟨by decide +kernel, by decide +kernel, by decide +kernel⟩, by decide⟩
theorem lv_Re_85 : LKV "SinkingChoir$Reader" 85 Y_Pr_close 0 := ⟨mem_tb 946 (by decide +kernel) rfl, mem_tb 947 (by decide +kernel) rfl, mem_tb 948 (by decide +kernel) rfl, mem_tb 114 (by decide +kernel) rfl, cw_Pr_close, ⟨by decide +kernel, by decide +kernel, by decide +kernel⟩, by decide⟩
theorem lv_Re_38 : LKV "SinkingChoir$Reader" 38 Y_Pr_clear 0 := ⟨mem_tb 795 (by decide +kernel) rfl, mem_tb 796 (by decide +kernel) rfl, mem_tb 797 (by decide +kernel) rfl, mem_tb 114 (by decide +kernel) rfl, cw_Pr_clear, ⟨by decide +kernel, by decide +kernel, by decide +kernel⟩, by decide⟩
theorem lv_Re_47 : LKV "SinkingChoir$Reader" 47 Y_Re_clause 1 := ⟨mem_tb 799 (by decide +kernel) rfl, mem_tb 801 (by decide +kernel) rfl, mem_tb 9 (by decide +kernel) rfl, mem_tb 121 (by decide +kernel) rfl, cw_Re_clause, ⟨by decide +kernel, by decide +kernel, by decide +kernel⟩, by decide⟩
theorem lv_X_212 : LKV "SinkingChoir" 212 Y_Re_read 2 := ⟨mem_tb 789 (by decide +kernel) rfl, mem_tb 790 (by decide +kernel) rfl, mem_tb 791 (by decide +kernel) rfl, mem_tb 121 (by decide +kernel) rfl, cw_Re_read, ⟨by decide +kernel, by decide +kernel, by decide +kernel⟩, by decide⟩
theorem lv_X_220 : LKV "SinkingChoir" 220 Y_Re_exchange 1 := ⟨mem_tb 950 (by decide +kernel) rfl, mem_tb 951 (by decide +kernel) rfl, mem_tb 952 (by decide +kernel) rfl, mem_tb 121 (by decide +kernel) rfl, cw_Re_exchange, ⟨by decide +kernel, by decide +kernel, by decide +kernel⟩, by decide⟩
theorem lv_M_336 : LKV "SinkingChoirModel" 336 Y_M_here 0 := ⟨mem_tb 1711 (by decide +kernel) rfl, mem_tb 1713 (by decide +kernel) rfl, mem_tb 60 (by decide +kernel) rfl, mem_tb 122 (by decide +kernel) rfl, cw_M_here, ⟨by decide +kernel, by decide +kernel, by decide +kernel⟩, by decide⟩
theorem lv_M_339 : LKV "SinkingChoirModel" 339 Y_M_puts 1 := ⟨mem_tb 1731 (by decide +kernel) rfl, mem_tb 1733 (by decide +kernel) rfl, mem_tb 65 (by decide +kernel) rfl, mem_tb 122 (by decide +kernel) rfl, cw_M_puts, ⟨by decide +kernel, by decide +kernel, by decide +kernel⟩, by decide⟩
theorem lv_M_333 : LKV "SinkingChoirModel" 333 Y_M_wrongs 2 := ⟨mem_tb 1715 (by decide +kernel) rfl, mem_tb 1717 (by decide +kernel) rfl, mem_tb 61 (by decide +kernel) rfl, mem_tb 122 (by decide +kernel) rfl, cw_M_wrongs, ⟨by decide +kernel, by decide +kernel, by decide +kernel⟩, by decide⟩
theorem lv_M_320 : LKV "SinkingChoirModel" 320 Y_M_isGood 0 := ⟨mem_tb 1703 (by decide +kernel) rfl, mem_tb 1705 (by decide +kernel) rfl, mem_tb 58 (by decide +kernel) rfl, mem_tb 122 (by decide +kernel) rfl, cw_M_isGood, ⟨by decide +kernel, by decide +kernel, by decide +kernel⟩, by decide⟩
theorem lv_M_346 : LKV "SinkingChoirModel" 346 Y_M_seesDigit 0 := ⟨mem_tb 1735 (by decide +kernel) rfl, mem_tb 1737 (by decide +kernel) rfl, mem_tb 66 (by decide +kernel) rfl, mem_tb 122 (by decide +kernel) rfl, cw_M_seesDigit, ⟨by decide +kernel, by decide +kernel, by decide +kernel⟩, by decide⟩
theorem lv_M_358 : LKV "SinkingChoirModel" 358 Y_M_emit 2 := ⟨mem_tb 1745 (by decide +kernel) rfl, mem_tb 1747 (by decide +kernel) rfl, mem_tb 68 (by decide +kernel) rfl, mem_tb 122 (by decide +kernel) rfl, cw_M_emit, ⟨by decide +kernel, by decide +kernel, by decide +kernel⟩, by decide⟩
theorem lv_M_364 : LKV "SinkingChoirModel" 364 Y_M_reads 0 := ⟨mem_tb 1741 (by decide +kernel) rfl, mem_tb 1743 (by decide +kernel) rfl, mem_tb 67 (by decide +kernel) rfl, mem_tb 122 (by decide +kernel) rfl, cw_M_reads, ⟨by decide +kernel, by decide +kernel, by decide +kernel⟩, by decide⟩
theorem lv_M_361 : LKV "SinkingChoirModel" 361 Y_M_opens 0 := ⟨mem_tb 1727 (by decide +kernel) rfl, mem_tb 1729 (by decide +kernel) rfl, mem_tb 64 (by decide +kernel) rfl, mem_tb 122 (by decide +kernel) rfl, cw_M_opens, ⟨by decide +kernel, by decide +kernel, by decide +kernel⟩, by decide⟩
theorem lv_M_349 : LKV "SinkingChoirModel" 349 Y_M_top 0 := ⟨mem_tb 1766 (by decide +kernel) rfl, mem_tb 1768 (by decide +kernel) rfl, mem_tb 71 (by decide +kernel) rfl, mem_tb 122 (by decide +kernel) rfl, cw_M_top, ⟨by decide +kernel, by decide +kernel, by decide +kernel⟩, by decide⟩
theorem lv_M_370 : LKV "SinkingChoirModel" 370 Y_M_sums 1 := ⟨mem_tb 1762 (by decide +kernel) rfl, mem_tb 1764 (by decide +kernel) rfl, mem_tb 70 (by decide +kernel) rfl, mem_tb 122 (by decide +kernel) rfl, cw_M_sums, ⟨by decide +kernel, by decide +kernel, by decide +kernel⟩, by decide⟩
theorem lv_M_381 : LKV "SinkingChoirModel" 381 Y_M_stays 0 := ⟨mem_tb 1752 (by decide +kernel) rfl, mem_tb 1754 (by decide +kernel) rfl, mem_tb 69 (by decide +kernel) rfl, mem_tb 122 (by decide +kernel) rfl, cw_M_stays, ⟨by decide +kernel, by decide +kernel, by decide +kernel⟩, by decide⟩
theorem lv_M_378 : LKV "SinkingChoirModel" 378 Y_M_factor 0 := ⟨mem_tb 1723 (by decide +kernel) rfl, mem_tb 1725 (by decide +kernel) rfl, mem_tb 63 (by decide +kernel) rfl, mem_tb 122 (by decide +kernel) rfl, cw_M_factor, ⟨by decide +kernel, by decide +kernel, by decide +kernel⟩, by decide⟩
theorem lv_M_384 : LKV "SinkingChoirModel" 384 Y_M_value 0 := ⟨mem_tb 1719 (by decide +kernel) rfl, mem_tb 1721 (by decide +kernel) rfl, mem_tb 62 (by decide +kernel) rfl, mem_tb 122 (by decide +kernel) rfl, cw_M_value, ⟨by decide +kernel, by decide +kernel, by decide +kernel⟩, by decide⟩
theorem lv_M_390 : LKV "SinkingChoirModel" 390 Y_M_ends 0 := ⟨mem_tb 1781 (by decide +kernel) rfl, mem_tb 1783 (by decide +kernel) rfl, mem_tb 74 (by decide +kernel) rfl, mem_tb 122 (by decide +kernel) rfl, cw_M_ends, ⟨by decide +kernel, by decide +kernel, by decide +kernel⟩, by decide⟩
theorem lv_M_393 : LKV "SinkingChoirModel" 393 Y_M_joins 1 := ⟨mem_tb 1789 (by decide +kernel) rfl, mem_tb 1791 (by decide +kernel) rfl, mem_tb 76 (by decide +kernel) rfl, mem_tb 122 (by decide +kernel) rfl, cw_M_joins, ⟨by decide +kernel, by decide +kernel, by decide +kernel⟩, by decide⟩
theorem lv_M_402 : LKV "SinkingChoirModel" 402 Y_M_goesBehind 0 := ⟨mem_tb 1785 (by decide +kernel) rfl, mem_tb 1787 (by decide +kernel) rfl, mem_tb 75 (by decide +kernel) rfl, mem_tb 122 (by decide +kernel) rfl, cw_M_goesBehind, ⟨by decide +kernel, by decide +kernel, by decide +kernel⟩, by decide⟩
theorem lv_M_399 : LKV "SinkingChoirModel" 399 Y_M_pieceOfC 0 := ⟨mem_tb 1774 (by decide +kernel) rfl, mem_tb 1776 (by decide +kernel) rfl, mem_tb 73 (by decide +kernel) rfl, mem_tb 122 (by decide +kernel) rfl, cw_M_pieceOfC, ⟨by decide +kernel, by decide +kernel, by decide +kernel⟩, by decide⟩
theorem lv_M_408 : LKV "SinkingChoirModel" 408 Y_M_condition 0 := ⟨mem_tb 1770 (by decide +kernel) rfl, mem_tb 1772 (by decide +kernel) rfl, mem_tb 72 (by decide +kernel) rfl, mem_tb 122 (by decide +kernel) rfl, cw_M_condition, ⟨by decide +kernel, by decide +kernel, by decide +kernel⟩, by decide⟩
theorem lv_M_413 : LKV "SinkingChoirModel" 413 Y_M_clause 0 := ⟨mem_tb 1707 (by decide +kernel) rfl, mem_tb 1709 (by decide +kernel) rfl, mem_tb 59 (by decide +kernel) rfl, mem_tb 122 (by decide +kernel) rfl, cw_M_clause, ⟨by decide +kernel, by decide +kernel, by decide +kernel⟩, by decide⟩
theorem lv_Ch_51 : LKV "SinkingChoir$Choir" 51 Y_Ch_has 1 := ⟨mem_tb 962 (by decide +kernel) rfl, mem_tb 748 (by decide +kernel) rfl, mem_tb 749 (by decide +kernel) rfl, mem_tb 113 (by decide +kernel) rfl, cw_Ch_has, ⟨by decide +kernel, by decide +kernel, by decide +kernel⟩, by decide⟩
theorem lv_Ch_55 : LKV "SinkingChoir$Choir" 55 Y_Sc_sounds 2 := ⟨mem_tb 963 (by decide +kernel) rfl, mem_tb 535 (by decide +kernel) rfl, mem_tb 536 (by decide +kernel) rfl, mem_tb 111 (by decide +kernel) rfl, cw_Sc_sounds, ⟨by decide +kernel, by decide +kernel, by decide +kernel⟩, by decide⟩
theorem lv_Ch_61 : LKV "SinkingChoir$Choir" 61 Y_Ch_sings 2 := ⟨mem_tb 976 (by decide +kernel) rfl, mem_tb 959 (by decide +kernel) rfl, mem_tb 960 (by decide +kernel) rfl, mem_tb 113 (by decide +kernel) rfl, cw_Ch_sings, ⟨by decide +kernel, by decide +kernel, by decide +kernel⟩, by decide⟩
theorem lv_Si_171 : LKV "SinkingChoir$Singing" 171 Y_Ch_tableOf 2 := ⟨mem_tb 990 (by decide +kernel) rfl, mem_tb 991 (by decide +kernel) rfl, mem_tb 992 (by decide +kernel) rfl, mem_tb 113 (by decide +kernel) rfl, cw_Ch_tableOf, ⟨by decide +kernel, by decide +kernel, by decide +kernel⟩, by decide⟩
theorem lv_Si_102 : LKV "SinkingChoir$Singing" 102 Y_Ch_lastNote 2 := ⟨mem_tb 981 (by decide +kernel) rfl, mem_tb 982 (by decide +kernel) rfl, mem_tb 983 (by decide +kernel) rfl, mem_tb 113 (by decide +kernel) rfl, cw_Ch_lastNote, ⟨by decide +kernel, by decide +kernel, by decide +kernel⟩, by decide⟩
theorem lv_Si_106 : LKV "SinkingChoir$Singing" 106 Y_Si_tableOf 2 := ⟨mem_tb 985 (by decide +kernel) rfl, mem_tb 987 (by decide +kernel) rfl, mem_tb 22 (by decide +kernel) rfl, mem_tb 115 (by decide +kernel) rfl, cw_Si_tableOf, ⟨by decide +kernel, by decide +kernel, by decide +kernel⟩, by decide⟩
theorem lv_Si_144 : LKV "SinkingChoir$Singing" 144 Y_Si_isKnowing 1 := ⟨mem_tb 1008 (by decide +kernel) rfl, mem_tb 1010 (by decide +kernel) rfl, mem_tb 25 (by decide +kernel) rfl, mem_tb 115 (by decide +kernel) rfl, cw_Si_isKnowing, ⟨by decide +kernel, by decide +kernel, by decide +kernel⟩, by decide⟩
theorem lv_Si_151 : LKV "SinkingChoir$Singing" 151 Y_Sc_holds 2 := ⟨mem_tb 1012 (by decide +kernel) rfl, mem_tb 531 (by decide +kernel) rfl, mem_tb 532 (by decide +kernel) rfl, mem_tb 111 (by decide +kernel) rfl, cw_Sc_holds, ⟨by decide +kernel, by decide +kernel, by decide +kernel⟩, by decide⟩
theorem lv_Si_159 : LKV "SinkingChoir$Singing" 159 Y_Sc_breathes 2 := ⟨mem_tb 1014 (by decide +kernel) rfl, mem_tb 560 (by decide +kernel) rfl, mem_tb 561 (by decide +kernel) rfl, mem_tb 111 (by decide +kernel) rfl, cw_Sc_breathes, ⟨by decide +kernel, by decide +kernel, by decide +kernel⟩, by decide⟩
theorem lv_Pr_45 : LKV "SinkingChoir$Program" 45 Y_Pr_reckon 3 := ⟨mem_tb 1024 (by decide +kernel) rfl, mem_tb 1026 (by decide +kernel) rfl, mem_tb 26 (by decide +kernel) rfl, mem_tb 114 (by decide +kernel) rfl, cw_Pr_reckon, ⟨by decide +kernel, by decide +kernel, by decide +kernel⟩, by decide⟩
theorem lv_Si_183 : LKV "SinkingChoir$Singing" 183 Y_Si_millsOf 2 := ⟨mem_tb 1043 (by decide +kernel) rfl, mem_tb 1045 (by decide +kernel) rfl, mem_tb 27 (by decide +kernel) rfl, mem_tb 115 (by decide +kernel) rfl, cw_Si_millsOf, ⟨by decide +kernel, by decide +kernel, by decide +kernel⟩, by decide⟩
theorem lv_Si_186 : LKV "SinkingChoir$Singing" 186 Y_Si_givenIn 1 := ⟨mem_tb 1047 (by decide +kernel) rfl, mem_tb 1049 (by decide +kernel) rfl, mem_tb 28 (by decide +kernel) rfl, mem_tb 115 (by decide +kernel) rfl, cw_Si_givenIn, ⟨by decide +kernel, by decide +kernel, by decide +kernel⟩, by decide⟩
theorem lv_Si_94 : LKV "SinkingChoir$Singing" 94 Y_Ch_sings 2 := ⟨mem_tb 998 (by decide +kernel) rfl, mem_tb 959 (by decide +kernel) rfl, mem_tb 960 (by decide +kernel) rfl, mem_tb 113 (by decide +kernel) rfl, cw_Ch_sings, ⟨by decide +kernel, by decide +kernel, by decide +kernel⟩, by decide⟩
theorem lv_Si_111 : LKV "SinkingChoir$Singing" 111 Y_Si_tellLetters 3 := ⟨mem_tb 1004 (by decide +kernel) rfl, mem_tb 1006 (by decide +kernel) rfl, mem_tb 24 (by decide +kernel) rfl, mem_tb 115 (by decide +kernel) rfl, cw_Si_tellLetters, ⟨by decide +kernel, by decide +kernel, by decide +kernel⟩, by decide⟩
theorem lv_Si_119 : LKV "SinkingChoir$Singing" 119 Y_Pr_weigh 2 := ⟨mem_tb 1019 (by decide +kernel) rfl, mem_tb 1020 (by decide +kernel) rfl, mem_tb 1021 (by decide +kernel) rfl, mem_tb 114 (by decide +kernel) rfl, cw_Pr_weigh, ⟨by decide +kernel, by decide +kernel, by decide +kernel⟩, by decide⟩
theorem lv_Si_125 : LKV "SinkingChoir$Singing" 125 Y_Si_aim 4 := ⟨mem_tb 1035 (by decide +kernel) rfl, mem_tb 1036 (by decide +kernel) rfl, mem_tb 1037 (by decide +kernel) rfl, mem_tb 115 (by decide +kernel) rfl, cw_Si_aim, ⟨by decide +kernel, by decide +kernel, by decide +kernel⟩, by decide⟩
theorem lv_Si_129 : LKV "SinkingChoir$Singing" 129 Y_Si_blend 4 := ⟨mem_tb 1051 (by decide +kernel) rfl, mem_tb 1052 (by decide +kernel) rfl, mem_tb 1053 (by decide +kernel) rfl, mem_tb 115 (by decide +kernel) rfl, cw_Si_blend, ⟨by decide +kernel, by decide +kernel, by decide +kernel⟩, by decide⟩
theorem lv_Si_80 : LKV "SinkingChoir$Singing" 80 Y_Ch_howMany 1 := ⟨mem_tb 972 (by decide +kernel) rfl, mem_tb 973 (by decide +kernel) rfl, mem_tb 974 (by decide +kernel) rfl, mem_tb 113 (by decide +kernel) rfl, cw_Ch_howMany, ⟨by decide +kernel, by decide +kernel, by decide +kernel⟩, by decide⟩
theorem lv_Si_98 : LKV "SinkingChoir$Singing" 98 Y_Si_singNote 2 := ⟨mem_tb 999 (by decide +kernel) rfl, mem_tb 1001 (by decide +kernel) rfl, mem_tb 23 (by decide +kernel) rfl, mem_tb 115 (by decide +kernel) rfl, cw_Si_singNote, ⟨by decide +kernel, by decide +kernel, by decide +kernel⟩, by decide⟩
theorem lv_Si_87 : LKV "SinkingChoir$Singing" 87 Y_Si_giveAgain 1 := ⟨mem_tb 977 (by decide +kernel) rfl, mem_tb 979 (by decide +kernel) rfl, mem_tb 21 (by decide +kernel) rfl, mem_tb 115 (by decide +kernel) rfl, cw_Si_giveAgain, ⟨by decide +kernel, by decide +kernel, by decide +kernel⟩, by decide⟩
theorem lv_Si_60 : LKV "SinkingChoir$Singing" 60 Y_Si_sing 4 := ⟨mem_tb 968 (by decide +kernel) rfl, mem_tb 969 (by decide +kernel) rfl, mem_tb 970 (by decide +kernel) rfl, mem_tb 115 (by decide +kernel) rfl, cw_Si_sing, ⟨by decide +kernel, by decide +kernel, by decide +kernel⟩, by decide⟩
theorem lv_X_229 : LKV "SinkingChoir" 229 Y_Ch_sings 2 := ⟨mem_tb 958 (by decide +kernel) rfl, mem_tb 959 (by decide +kernel) rfl, mem_tb 960 (by decide +kernel) rfl, mem_tb 113 (by decide +kernel) rfl, cw_Ch_sings, ⟨by decide +kernel, by decide +kernel, by decide +kernel⟩, by decide⟩
theorem lv_X_232 : LKV "SinkingChoir" 232 Y_Si_asTold 0 := ⟨mem_tb 964 (by decide +kernel) rfl, mem_tb 965 (by decide +kernel) rfl, mem_tb 966 (by decide +kernel) rfl, mem_tb 115 (by decide +kernel) rfl, cw_Si_asTold, ⟨by decide +kernel, by decide +kernel, by decide +kernel⟩, by decide⟩
theorem lv_X_235 : LKV "SinkingChoir" 235 Y_Si_sung 2 := ⟨mem_tb 1055 (by decide +kernel) rfl, mem_tb 1056 (by decide +kernel) rfl, mem_tb 1057 (by decide +kernel) rfl, mem_tb 115 (by decide +kernel) rfl, cw_Si_sung, ⟨by decide +kernel, by decide +kernel, by decide +kernel⟩, by decide⟩
theorem lv_M_423 : LKV "SinkingChoirModel" 423 Y_M_sings 2 := ⟨mem_tb 1797 (by decide +kernel) rfl, mem_tb 1799 (by decide +kernel) rfl, mem_tb 77 (by decide +kernel) rfl, mem_tb 122 (by decide +kernel) rfl, cw_M_sings, ⟨by decide +kernel, by decide +kernel, by decide +kernel⟩, by decide⟩
theorem lv_M_465 : LKV "SinkingChoirModel" 465 Y_M_hearsOf 2 := ⟨mem_tb 1834 (by decide +kernel) rfl, mem_tb 1836 (by decide +kernel) rfl, mem_tb 85 (by decide +kernel) rfl, mem_tb 122 (by decide +kernel) rfl, cw_M_hearsOf, ⟨by decide +kernel, by decide +kernel, by decide +kernel⟩, by decide⟩
theorem lv_M_468 : LKV "SinkingChoirModel" 468 Y_M_sizeFor 2 := ⟨mem_tb 1838 (by decide +kernel) rfl, mem_tb 1840 (by decide +kernel) rfl, mem_tb 86 (by decide +kernel) rfl, mem_tb 122 (by decide +kernel) rfl, cw_M_sizeFor, ⟨by decide +kernel, by decide +kernel, by decide +kernel⟩, by decide⟩
theorem lv_M_432 : LKV "SinkingChoirModel" 432 Y_M_keyOf 2 := ⟨mem_tb 1816 (by decide +kernel) rfl, mem_tb 1818 (by decide +kernel) rfl, mem_tb 81 (by decide +kernel) rfl, mem_tb 122 (by decide +kernel) rfl, cw_M_keyOf, ⟨by decide +kernel, by decide +kernel, by decide +kernel⟩, by decide⟩
theorem lv_M_435 : LKV "SinkingChoirModel" 435 Y_M_leapOf 0 := ⟨mem_tb 1864 (by decide +kernel) rfl, mem_tb 1866 (by decide +kernel) rfl, mem_tb 91 (by decide +kernel) rfl, mem_tb 122 (by decide +kernel) rfl, cw_M_leapOf, ⟨by decide +kernel, by decide +kernel, by decide +kernel⟩, by decide⟩
theorem lv_M_438 : LKV "SinkingChoirModel" 438 Y_M_singing 1 := ⟨mem_tb 1868 (by decide +kernel) rfl, mem_tb 1870 (by decide +kernel) rfl, mem_tb 92 (by decide +kernel) rfl, mem_tb 122 (by decide +kernel) rfl, cw_M_singing, ⟨by decide +kernel, by decide +kernel, by decide +kernel⟩, by decide⟩
theorem lv_M_441 : LKV "SinkingChoirModel" 441 Y_M_tableOf 1 := ⟨mem_tb 1820 (by decide +kernel) rfl, mem_tb 1822 (by decide +kernel) rfl, mem_tb 82 (by decide +kernel) rfl, mem_tb 122 (by decide +kernel) rfl, cw_M_tableOf, ⟨by decide +kernel, by decide +kernel, by decide +kernel⟩, by decide⟩
theorem lv_M_459 : LKV "SinkingChoirModel" 459 Y_M_valueOf 1 := ⟨mem_tb 1860 (by decide +kernel) rfl, mem_tb 1862 (by decide +kernel) rfl, mem_tb 90 (by decide +kernel) rfl, mem_tb 122 (by decide +kernel) rfl, cw_M_valueOf, ⟨by decide +kernel, by decide +kernel, by decide +kernel⟩, by decide⟩
theorem lv_M_456 : LKV "SinkingChoirModel" 456 Y_M_does 2 := ⟨mem_tb 1853 (by decide +kernel) rfl, mem_tb 1855 (by decide +kernel) rfl, mem_tb 89 (by decide +kernel) rfl, mem_tb 122 (by decide +kernel) rfl, cw_M_does, ⟨by decide +kernel, by decide +kernel, by decide +kernel⟩, by decide⟩
theorem lv_M_462 : LKV "SinkingChoirModel" 462 Y_M_works 2 := ⟨mem_tb 1849 (by decide +kernel) rfl, mem_tb 1851 (by decide +kernel) rfl, mem_tb 88 (by decide +kernel) rfl, mem_tb 122 (by decide +kernel) rfl, cw_M_works, ⟨by decide +kernel, by decide +kernel, by decide +kernel⟩, by decide⟩
theorem lv_M_484 : LKV "SinkingChoirModel" 484 Y_M_listens 2 := ⟨mem_tb 1830 (by decide +kernel) rfl, mem_tb 1832 (by decide +kernel) rfl, mem_tb 84 (by decide +kernel) rfl, mem_tb 122 (by decide +kernel) rfl, cw_M_listens, ⟨by decide +kernel, by decide +kernel, by decide +kernel⟩, by decide⟩
theorem lv_M_487 : LKV "SinkingChoirModel" 487 Y_M_tells 3 := ⟨mem_tb 1845 (by decide +kernel) rfl, mem_tb 1847 (by decide +kernel) rfl, mem_tb 87 (by decide +kernel) rfl, mem_tb 122 (by decide +kernel) rfl, cw_M_tells, ⟨by decide +kernel, by decide +kernel, by decide +kernel⟩, by decide⟩
theorem lv_M_493 : LKV "SinkingChoirModel" 493 Y_M_aimOf 6 := ⟨mem_tb 1873 (by decide +kernel) rfl, mem_tb 1875 (by decide +kernel) rfl, mem_tb 93 (by decide +kernel) rfl, mem_tb 122 (by decide +kernel) rfl, cw_M_aimOf, ⟨by decide +kernel, by decide +kernel, by decide +kernel⟩, by decide⟩
theorem lv_M_503 : LKV "SinkingChoirModel" 503 Y_M_singsNote 2 := ⟨mem_tb 1825 (by decide +kernel) rfl, mem_tb 1827 (by decide +kernel) rfl, mem_tb 83 (by decide +kernel) rfl, mem_tb 122 (by decide +kernel) rfl, cw_M_singsNote, ⟨by decide +kernel, by decide +kernel, by decide +kernel⟩, by decide⟩
theorem lv_M_506 : LKV "SinkingChoirModel" 506 Y_M_readies 0 := ⟨mem_tb 1805 (by decide +kernel) rfl, mem_tb 1807 (by decide +kernel) rfl, mem_tb 79 (by decide +kernel) rfl, mem_tb 122 (by decide +kernel) rfl, cw_M_readies, ⟨by decide +kernel, by decide +kernel, by decide +kernel⟩, by decide⟩
theorem lv_M_509 : LKV "SinkingChoirModel" 509 Y_M_isSung 0 := ⟨mem_tb 1809 (by decide +kernel) rfl, mem_tb 1811 (by decide +kernel) rfl, mem_tb 80 (by decide +kernel) rfl, mem_tb 122 (by decide +kernel) rfl, cw_M_isSung, ⟨by decide +kernel, by decide +kernel, by decide +kernel⟩, by decide⟩
theorem lv_M_525 : LKV "SinkingChoirModel" 525 Y_M_plainly 0 := ⟨mem_tb 1801 (by decide +kernel) rfl, mem_tb 1803 (by decide +kernel) rfl, mem_tb 78 (by decide +kernel) rfl, mem_tb 122 (by decide +kernel) rfl, cw_M_plainly, ⟨by decide +kernel, by decide +kernel, by decide +kernel⟩, by decide⟩
theorem lv_Si_189 : LKV "SinkingChoir$Singing" 189 Y_Si_sung 2 := ⟨mem_tb 1069 (by decide +kernel) rfl, mem_tb 1056 (by decide +kernel) rfl, mem_tb 1057 (by decide +kernel) rfl, mem_tb 115 (by decide +kernel) rfl, cw_Si_sung, ⟨by decide +kernel, by decide +kernel, by decide +kernel⟩, by decide⟩
theorem lv_Ch_90 : LKV "SinkingChoir$Choir" 90 Y_Ch_tableOf 2 := ⟨mem_tb 1086 (by decide +kernel) rfl, mem_tb 991 (by decide +kernel) rfl, mem_tb 992 (by decide +kernel) rfl, mem_tb 113 (by decide +kernel) rfl, cw_Ch_tableOf, ⟨by decide +kernel, by decide +kernel, by decide +kernel⟩, by decide⟩
theorem lv_Ch_81 : LKV "SinkingChoir$Choir" 81 Y_Ch_above 2 := ⟨mem_tb 1081 (by decide +kernel) rfl, mem_tb 1083 (by decide +kernel) rfl, mem_tb 29 (by decide +kernel) rfl, mem_tb 113 (by decide +kernel) rfl, cw_Ch_above, ⟨by decide +kernel, by decide +kernel, by decide +kernel⟩, by decide⟩
theorem lv_X_241 : LKV "SinkingChoir" 241 Y_Ch_howMany 1 := ⟨mem_tb 1064 (by decide +kernel) rfl, mem_tb 973 (by decide +kernel) rfl, mem_tb 974 (by decide +kernel) rfl, mem_tb 113 (by decide +kernel) rfl, cw_Ch_howMany, ⟨by decide +kernel, by decide +kernel, by decide +kernel⟩, by decide⟩
theorem lv_X_244 : LKV "SinkingChoir" 244 Y_Si_off 1 := ⟨mem_tb 1065 (by decide +kernel) rfl, mem_tb 1066 (by decide +kernel) rfl, mem_tb 1067 (by decide +kernel) rfl, mem_tb 115 (by decide +kernel) rfl, cw_Si_off, ⟨by decide +kernel, by decide +kernel, by decide +kernel⟩, by decide⟩
theorem lv_X_248 : LKV "SinkingChoir" 248 Y_Si_foul 1 := ⟨mem_tb 1070 (by decide +kernel) rfl, mem_tb 1071 (by decide +kernel) rfl, mem_tb 1072 (by decide +kernel) rfl, mem_tb 115 (by decide +kernel) rfl, cw_Si_foul, ⟨by decide +kernel, by decide +kernel, by decide +kernel⟩, by decide⟩
theorem lv_X_251 : LKV "SinkingChoir" 251 Y_Ch_tableFoul 1 := ⟨mem_tb 1077 (by decide +kernel) rfl, mem_tb 1078 (by decide +kernel) rfl, mem_tb 1079 (by decide +kernel) rfl, mem_tb 113 (by decide +kernel) rfl, cw_Ch_tableFoul, ⟨by decide +kernel, by decide +kernel, by decide +kernel⟩, by decide⟩
theorem lv_M_532 : LKV "SinkingChoirModel" 532 Y_M_tableFoul 1 := ⟨mem_tb 1891 (by decide +kernel) rfl, mem_tb 1893 (by decide +kernel) rfl, mem_tb 96 (by decide +kernel) rfl, mem_tb 122 (by decide +kernel) rfl, cw_M_tableFoul, ⟨by decide +kernel, by decide +kernel, by decide +kernel⟩, by decide⟩
theorem lv_M_512 : LKV "SinkingChoirModel" 512 Y_M_foulOf 1 := ⟨mem_tb 1887 (by decide +kernel) rfl, mem_tb 1889 (by decide +kernel) rfl, mem_tb 95 (by decide +kernel) rfl, mem_tb 122 (by decide +kernel) rfl, cw_M_foulOf, ⟨by decide +kernel, by decide +kernel, by decide +kernel⟩, by decide⟩
theorem lv_M_519 : LKV "SinkingChoirModel" 519 Y_M_offOf 1 := ⟨mem_tb 1883 (by decide +kernel) rfl, mem_tb 1885 (by decide +kernel) rfl, mem_tb 94 (by decide +kernel) rfl, mem_tb 122 (by decide +kernel) rfl, cw_M_offOf, ⟨by decide +kernel, by decide +kernel, by decide +kernel⟩, by decide⟩
theorem lv_Ch_68 : LKV "SinkingChoir$Choir" 68 Y_Ch_howMany 1 := ⟨mem_tb 1095 (by decide +kernel) rfl, mem_tb 973 (by decide +kernel) rfl, mem_tb 974 (by decide +kernel) rfl, mem_tb 113 (by decide +kernel) rfl, cw_Ch_howMany, ⟨by decide +kernel, by decide +kernel, by decide +kernel⟩, by decide⟩
theorem lv_Si_199 : LKV "SinkingChoir$Singing" 199 Y_Ch_lastBeat 0 := ⟨mem_tb 1104 (by decide +kernel) rfl, mem_tb 1097 (by decide +kernel) rfl, mem_tb 1098 (by decide +kernel) rfl, mem_tb 113 (by decide +kernel) rfl, cw_Ch_lastBeat, ⟨by decide +kernel, by decide +kernel, by decide +kernel⟩, by decide⟩
theorem lv_Si_202 : LKV "SinkingChoir$Singing" 202 Y_Si_off 1 := ⟨mem_tb 1105 (by decide +kernel) rfl, mem_tb 1066 (by decide +kernel) rfl, mem_tb 1067 (by decide +kernel) rfl, mem_tb 115 (by decide +kernel) rfl, cw_Si_off, ⟨by decide +kernel, by decide +kernel, by decide +kernel⟩, by decide⟩
theorem lv_Si_205 : LKV "SinkingChoir$Singing" 205 Y_Ch_firstBeat 0 := ⟨mem_tb 1106 (by decide +kernel) rfl, mem_tb 1092 (by decide +kernel) rfl, mem_tb 1093 (by decide +kernel) rfl, mem_tb 113 (by decide +kernel) rfl, cw_Ch_firstBeat, ⟨by decide +kernel, by decide +kernel, by decide +kernel⟩, by decide⟩
theorem lv_Ch_64 : LKV "SinkingChoir$Choir" 64 Y_Ch_lastNote 2 := ⟨mem_tb 1115 (by decide +kernel) rfl, mem_tb 982 (by decide +kernel) rfl, mem_tb 983 (by decide +kernel) rfl, mem_tb 113 (by decide +kernel) rfl, cw_Ch_lastNote, ⟨by decide +kernel, by decide +kernel, by decide +kernel⟩, by decide⟩
theorem lv_Si_208 : LKV "SinkingChoir$Singing" 208 Y_Ch_howManySing 0 := ⟨mem_tb 1111 (by decide +kernel) rfl, mem_tb 1112 (by decide +kernel) rfl, mem_tb 1113 (by decide +kernel) rfl, mem_tb 113 (by decide +kernel) rfl, cw_Ch_howManySing, ⟨by decide +kernel, by decide +kernel, by decide +kernel⟩, by decide⟩
theorem lv_Si_195 : LKV "SinkingChoir$Singing" 195 Y_Si_foul 1 := ⟨mem_tb 1120 (by decide +kernel) rfl, mem_tb 1071 (by decide +kernel) rfl, mem_tb 1072 (by decide +kernel) rfl, mem_tb 115 (by decide +kernel) rfl, cw_Si_foul, ⟨by decide +kernel, by decide +kernel, by decide +kernel⟩, by decide⟩
theorem lv_X_254 : LKV "SinkingChoir" 254 Y_Ch_firstBeat 0 := ⟨mem_tb 1091 (by decide +kernel) rfl, mem_tb 1092 (by decide +kernel) rfl, mem_tb 1093 (by decide +kernel) rfl, mem_tb 113 (by decide +kernel) rfl, cw_Ch_firstBeat, ⟨by decide +kernel, by decide +kernel, by decide +kernel⟩, by decide⟩
theorem lv_X_257 : LKV "SinkingChoir" 257 Y_Ch_lastBeat 0 := ⟨mem_tb 1096 (by decide +kernel) rfl, mem_tb 1097 (by decide +kernel) rfl, mem_tb 1098 (by decide +kernel) rfl, mem_tb 113 (by decide +kernel) rfl, cw_Ch_lastBeat, ⟨by decide +kernel, by decide +kernel, by decide +kernel⟩, by decide⟩
theorem lv_X_258 : LKV "SinkingChoir" 258 Y_Si_sinking 0 := ⟨mem_tb 1100 (by decide +kernel) rfl, mem_tb 1101 (by decide +kernel) rfl, mem_tb 1102 (by decide +kernel) rfl, mem_tb 115 (by decide +kernel) rfl, cw_Si_sinking, ⟨by decide +kernel, by decide +kernel, by decide +kernel⟩, by decide⟩
theorem lv_X_262 : LKV "SinkingChoir" 262 Y_Si_drifting 0 := ⟨mem_tb 1107 (by decide +kernel) rfl, mem_tb 1108 (by decide +kernel) rfl, mem_tb 1109 (by decide +kernel) rfl, mem_tb 115 (by decide +kernel) rfl, cw_Si_drifting, ⟨by decide +kernel, by decide +kernel, by decide +kernel⟩, by decide⟩
theorem lv_X_265 : LKV "SinkingChoir" 265 Y_Si_foulTogether 0 := ⟨mem_tb 1116 (by decide +kernel) rfl, mem_tb 1117 (by decide +kernel) rfl, mem_tb 1118 (by decide +kernel) rfl, mem_tb 115 (by decide +kernel) rfl, cw_Si_foulTogether, ⟨by decide +kernel, by decide +kernel, by decide +kernel⟩, by decide⟩
theorem lv_M_516 : LKV "SinkingChoirModel" 516 Y_M_lastSung 0 := ⟨mem_tb 1908 (by decide +kernel) rfl, mem_tb 1910 (by decide +kernel) rfl, mem_tb 99 (by decide +kernel) rfl, mem_tb 122 (by decide +kernel) rfl, cw_M_lastSung, ⟨by decide +kernel, by decide +kernel, by decide +kernel⟩, by decide⟩
theorem lv_M_522 : LKV "SinkingChoirModel" 522 Y_M_firstSung 0 := ⟨mem_tb 1899 (by decide +kernel) rfl, mem_tb 1901 (by decide +kernel) rfl, mem_tb 97 (by decide +kernel) rfl, mem_tb 122 (by decide +kernel) rfl, cw_M_firstSung, ⟨by decide +kernel, by decide +kernel, by decide +kernel⟩, by decide⟩
theorem lv_M_537 : LKV "SinkingChoirModel" 537 Y_M_sunkNow 0 := ⟨mem_tb 1904 (by decide +kernel) rfl, mem_tb 1906 (by decide +kernel) rfl, mem_tb 98 (by decide +kernel) rfl, mem_tb 122 (by decide +kernel) rfl, cw_M_sunkNow, ⟨by decide +kernel, by decide +kernel, by decide +kernel⟩, by decide⟩
theorem lv_M_541 : LKV "SinkingChoirModel" 541 Y_M_sungMany 0 := ⟨mem_tb 1912 (by decide +kernel) rfl, mem_tb 1914 (by decide +kernel) rfl, mem_tb 100 (by decide +kernel) rfl, mem_tb 122 (by decide +kernel) rfl, cw_M_sungMany, ⟨by decide +kernel, by decide +kernel, by decide +kernel⟩, by decide⟩
theorem lv_M_544 : LKV "SinkingChoirModel" 544 Y_M_allFoul 0 := ⟨mem_tb 1916 (by decide +kernel) rfl, mem_tb 1918 (by decide +kernel) rfl, mem_tb 101 (by decide +kernel) rfl, mem_tb 122 (by decide +kernel) rfl, cw_M_allFoul, ⟨by decide +kernel, by decide +kernel, by decide +kernel⟩, by decide⟩
theorem lv_St_78 : LKV "SinkingChoir$Standing" 78 Y_St_swap 2 := ⟨mem_tb 1140 (by decide +kernel) rfl, mem_tb 1142 (by decide +kernel) rfl, mem_tb 31 (by decide +kernel) rfl, mem_tb 117 (by decide +kernel) rfl, cw_St_swap, ⟨by decide +kernel, by decide +kernel, by decide +kernel⟩, by decide⟩
theorem lv_St_39 : LKV "SinkingChoir$Standing" 39 Y_St_sort 1 := ⟨mem_tb 1136 (by decide +kernel) rfl, mem_tb 1138 (by decide +kernel) rfl, mem_tb 30 (by decide +kernel) rfl, mem_tb 117 (by decide +kernel) rfl, cw_St_sort, ⟨by decide +kernel, by decide +kernel, by decide +kernel⟩, by decide⟩
theorem lv_St_46 : LKV "SinkingChoir$Standing" 46 Y_Si_sing 4 := ⟨mem_tb 1144 (by decide +kernel) rfl, mem_tb 969 (by decide +kernel) rfl, mem_tb 970 (by decide +kernel) rfl, mem_tb 115 (by decide +kernel) rfl, cw_Si_sing, ⟨by decide +kernel, by decide +kernel, by decide +kernel⟩, by decide⟩
theorem lv_St_52 : LKV "SinkingChoir$Standing" 52 Y_Si_sinking 0 := ⟨mem_tb 1145 (by decide +kernel) rfl, mem_tb 1101 (by decide +kernel) rfl, mem_tb 1102 (by decide +kernel) rfl, mem_tb 115 (by decide +kernel) rfl, cw_Si_sinking, ⟨by decide +kernel, by decide +kernel, by decide +kernel⟩, by decide⟩
theorem lv_St_65 : LKV "SinkingChoir$Standing" 65 Y_Si_foulTogether 0 := ⟨mem_tb 1147 (by decide +kernel) rfl, mem_tb 1117 (by decide +kernel) rfl, mem_tb 1118 (by decide +kernel) rfl, mem_tb 115 (by decide +kernel) rfl, cw_Si_foulTogether, ⟨by decide +kernel, by decide +kernel, by decide +kernel⟩, by decide⟩
theorem lv_St_71 : LKV "SinkingChoir$Standing" 71 Y_St_next 0 := ⟨mem_tb 1148 (by decide +kernel) rfl, mem_tb 1150 (by decide +kernel) rfl, mem_tb 32 (by decide +kernel) rfl, mem_tb 117 (by decide +kernel) rfl, cw_St_next, ⟨by decide +kernel, by decide +kernel, by decide +kernel⟩, by decide⟩
theorem lv_X_277 : LKV "SinkingChoir" 277 Y_St_find 1 := ⟨mem_tb 1131 (by decide +kernel) rfl, mem_tb 1132 (by decide +kernel) rfl, mem_tb 1133 (by decide +kernel) rfl, mem_tb 117 (by decide +kernel) rfl, cw_St_find, ⟨by decide +kernel, by decide +kernel, by decide +kernel⟩, by decide⟩
theorem lv_M_547 : LKV "SinkingChoirModel" 547 Y_M_swaps 2 := ⟨mem_tb 1929 (by decide +kernel) rfl, mem_tb 1931 (by decide +kernel) rfl, mem_tb 102 (by decide +kernel) rfl, mem_tb 122 (by decide +kernel) rfl, cw_M_swaps, ⟨by decide +kernel, by decide +kernel, by decide +kernel⟩, by decide⟩
theorem lv_M_552 : LKV "SinkingChoirModel" 552 Y_M_stepsOn 0 := ⟨mem_tb 1933 (by decide +kernel) rfl, mem_tb 1935 (by decide +kernel) rfl, mem_tb 103 (by decide +kernel) rfl, mem_tb 122 (by decide +kernel) rfl, cw_M_stepsOn, ⟨by decide +kernel, by decide +kernel, by decide +kernel⟩, by decide⟩
theorem lv_Le_72 : LKV "SinkingChoir$Leading" 72 Y_Si_off 1 := ⟨mem_tb 1169 (by decide +kernel) rfl, mem_tb 1066 (by decide +kernel) rfl, mem_tb 1067 (by decide +kernel) rfl, mem_tb 115 (by decide +kernel) rfl, cw_Si_off, ⟨by decide +kernel, by decide +kernel, by decide +kernel⟩, by decide⟩
theorem lv_Le_23 : LKV "SinkingChoir$Leading" 23 Y_Ch_firstBeat 0 := ⟨mem_tb 1162 (by decide +kernel) rfl, mem_tb 1092 (by decide +kernel) rfl, mem_tb 1093 (by decide +kernel) rfl, mem_tb 113 (by decide +kernel) rfl, cw_Ch_firstBeat, ⟨by decide +kernel, by decide +kernel, by decide +kernel⟩, by decide⟩
theorem lv_Le_29 : LKV "SinkingChoir$Leading" 29 Y_Ch_lastBeat 0 := ⟨mem_tb 1163 (by decide +kernel) rfl, mem_tb 1097 (by decide +kernel) rfl, mem_tb 1098 (by decide +kernel) rfl, mem_tb 113 (by decide +kernel) rfl, cw_Ch_lastBeat, ⟨by decide +kernel, by decide +kernel, by decide +kernel⟩, by decide⟩
theorem lv_Le_36 : LKV "SinkingChoir$Leading" 36 Y_Si_sing 4 := ⟨mem_tb 1164 (by decide +kernel) rfl, mem_tb 969 (by decide +kernel) rfl, mem_tb 970 (by decide +kernel) rfl, mem_tb 115 (by decide +kernel) rfl, cw_Si_sing, ⟨by decide +kernel, by decide +kernel, by decide +kernel⟩, by decide⟩
theorem lv_Le_42 : LKV "SinkingChoir$Leading" 42 Y_Le_chart 2 := ⟨mem_tb 1165 (by decide +kernel) rfl, mem_tb 1167 (by decide +kernel) rfl, mem_tb 33 (by decide +kernel) rfl, mem_tb 118 (by decide +kernel) rfl, cw_Le_chart, ⟨by decide +kernel, by decide +kernel, by decide +kernel⟩, by decide⟩
theorem lv_Le_58 : LKV "SinkingChoir$Leading" 58 Y_Le_farthest 2 := ⟨mem_tb 1175 (by decide +kernel) rfl, mem_tb 1177 (by decide +kernel) rfl, mem_tb 34 (by decide +kernel) rfl, mem_tb 118 (by decide +kernel) rfl, cw_Le_farthest, ⟨by decide +kernel, by decide +kernel, by decide +kernel⟩, by decide⟩
theorem lv_Le_68 : LKV "SinkingChoir$Leading" 68 Y_Le_consider 2 := ⟨mem_tb 1179 (by decide +kernel) rfl, mem_tb 1181 (by decide +kernel) rfl, mem_tb 35 (by decide +kernel) rfl, mem_tb 118 (by decide +kernel) rfl, cw_Le_consider, ⟨by decide +kernel, by decide +kernel, by decide +kernel⟩, by decide⟩
theorem lv_X_290 : LKV "SinkingChoir" 290 Y_Le_find 1 := ⟨mem_tb 1158 (by decide +kernel) rfl, mem_tb 1159 (by decide +kernel) rfl, mem_tb 1160 (by decide +kernel) rfl, mem_tb 118 (by decide +kernel) rfl, cw_Le_find, ⟨by decide +kernel, by decide +kernel, by decide +kernel⟩, by decide⟩
theorem lv_M_559 : LKV "SinkingChoirModel" 559 Y_M_farthest 0 := ⟨mem_tb 1943 (by decide +kernel) rfl, mem_tb 1945 (by decide +kernel) rfl, mem_tb 104 (by decide +kernel) rfl, mem_tb 122 (by decide +kernel) rfl, cw_M_farthest, ⟨by decide +kernel, by decide +kernel, by decide +kernel⟩, by decide⟩
theorem lv_X_297 : LKV "SinkingChoir" 297 Y_Sc_soundsIn 1 := ⟨mem_tb 1187 (by decide +kernel) rfl, mem_tb 613 (by decide +kernel) rfl, mem_tb 614 (by decide +kernel) rfl, mem_tb 111 (by decide +kernel) rfl, cw_Sc_soundsIn, ⟨by decide +kernel, by decide +kernel, by decide +kernel⟩, by decide⟩
theorem lv_X_300 : LKV "SinkingChoir" 300 Y_Si_sing 4 := ⟨mem_tb 1192 (by decide +kernel) rfl, mem_tb 969 (by decide +kernel) rfl, mem_tb 970 (by decide +kernel) rfl, mem_tb 115 (by decide +kernel) rfl, cw_Si_sing, ⟨by decide +kernel, by decide +kernel, by decide +kernel⟩, by decide⟩
theorem lv_X_306 : LKV "SinkingChoir" 306 Y_Ch_putRecord 3 := ⟨mem_tb 1199 (by decide +kernel) rfl, mem_tb 1200 (by decide +kernel) rfl, mem_tb 1201 (by decide +kernel) rfl, mem_tb 113 (by decide +kernel) rfl, cw_Ch_putRecord, ⟨by decide +kernel, by decide +kernel, by decide +kernel⟩, by decide⟩
theorem lv_Ch_96 : LKV "SinkingChoir$Choir" 96 Y_Ch_isRecorded 2 := ⟨mem_tb 1226 (by decide +kernel) rfl, mem_tb 1215 (by decide +kernel) rfl, mem_tb 1216 (by decide +kernel) rfl, mem_tb 113 (by decide +kernel) rfl, cw_Ch_isRecorded, ⟨by decide +kernel, by decide +kernel, by decide +kernel⟩, by decide⟩
theorem lv_Fi_47 : LKV "SinkingChoir$Fitting" 47 Y_Ch_lastRecord 2 := ⟨mem_tb 1222 (by decide +kernel) rfl, mem_tb 1223 (by decide +kernel) rfl, mem_tb 1224 (by decide +kernel) rfl, mem_tb 113 (by decide +kernel) rfl, cw_Ch_lastRecord, ⟨by decide +kernel, by decide +kernel, by decide +kernel⟩, by decide⟩
theorem lv_Fi_51 : LKV "SinkingChoir$Fitting" 51 Y_Ch_recordOf 2 := ⟨mem_tb 1227 (by decide +kernel) rfl, mem_tb 1228 (by decide +kernel) rfl, mem_tb 1229 (by decide +kernel) rfl, mem_tb 113 (by decide +kernel) rfl, cw_Ch_recordOf, ⟨by decide +kernel, by decide +kernel, by decide +kernel⟩, by decide⟩
theorem lv_Fi_54 : LKV "SinkingChoir$Fitting" 54 Y_Si_aim 4 := ⟨mem_tb 1231 (by decide +kernel) rfl, mem_tb 1036 (by decide +kernel) rfl, mem_tb 1037 (by decide +kernel) rfl, mem_tb 115 (by decide +kernel) rfl, cw_Si_aim, ⟨by decide +kernel, by decide +kernel, by decide +kernel⟩, by decide⟩
theorem lv_Fi_60 : LKV "SinkingChoir$Fitting" 60 Y_Si_blend 4 := ⟨mem_tb 1232 (by decide +kernel) rfl, mem_tb 1052 (by decide +kernel) rfl, mem_tb 1053 (by decide +kernel) rfl, mem_tb 115 (by decide +kernel) rfl, cw_Si_blend, ⟨by decide +kernel, by decide +kernel, by decide +kernel⟩, by decide⟩
theorem lv_Fi_33 : LKV "SinkingChoir$Fitting" 33 Y_Ch_isRecorded 2 := ⟨mem_tb 1214 (by decide +kernel) rfl, mem_tb 1215 (by decide +kernel) rfl, mem_tb 1216 (by decide +kernel) rfl, mem_tb 113 (by decide +kernel) rfl, cw_Ch_isRecorded, ⟨by decide +kernel, by decide +kernel, by decide +kernel⟩, by decide⟩
theorem lv_Fi_39 : LKV "SinkingChoir$Fitting" 39 Y_Fi_addBeat 2 := ⟨mem_tb 1218 (by decide +kernel) rfl, mem_tb 1220 (by decide +kernel) rfl, mem_tb 36 (by decide +kernel) rfl, mem_tb 119 (by decide +kernel) rfl, cw_Fi_addBeat, ⟨by decide +kernel, by decide +kernel, by decide +kernel⟩, by decide⟩
theorem lv_X_310 : LKV "SinkingChoir" 310 Y_Fi_find 1 := ⟨mem_tb 1207 (by decide +kernel) rfl, mem_tb 1208 (by decide +kernel) rfl, mem_tb 1209 (by decide +kernel) rfl, mem_tb 119 (by decide +kernel) rfl, cw_Fi_find, ⟨by decide +kernel, by decide +kernel, by decide +kernel⟩, by decide⟩
theorem lv_X_312 : LKV "SinkingChoir" 312 Y_Fi_told 1 := ⟨mem_tb 1234 (by decide +kernel) rfl, mem_tb 1235 (by decide +kernel) rfl, mem_tb 1236 (by decide +kernel) rfl, mem_tb 119 (by decide +kernel) rfl, cw_Fi_told, ⟨by decide +kernel, by decide +kernel, by decide +kernel⟩, by decide⟩
theorem lv_M_566 : LKV "SinkingChoirModel" 566 Y_M_isTaped 2 := ⟨mem_tb 1965 (by decide +kernel) rfl, mem_tb 1967 (by decide +kernel) rfl, mem_tb 105 (by decide +kernel) rfl, mem_tb 122 (by decide +kernel) rfl, cw_M_isTaped, ⟨by decide +kernel, by decide +kernel, by decide +kernel⟩, by decide⟩
theorem lv_M_569 : LKV "SinkingChoirModel" 569 Y_M_differs 4 := ⟨mem_tb 1969 (by decide +kernel) rfl, mem_tb 1971 (by decide +kernel) rfl, mem_tb 106 (by decide +kernel) rfl, mem_tb 122 (by decide +kernel) rfl, cw_M_differs, ⟨by decide +kernel, by decide +kernel, by decide +kernel⟩, by decide⟩
theorem lv_X_314 : LKV "SinkingChoir" 314 Y_X_minded 3 := ⟨mem_tb 1242 (by decide +kernel) rfl, mem_tb 1244 (by decide +kernel) rfl, mem_tb 37 (by decide +kernel) rfl, mem_tb 110 (by decide +kernel) rfl, cw_X_minded, ⟨by decide +kernel, by decide +kernel, by decide +kernel⟩, by decide⟩
theorem lv_M_577 : LKV "SinkingChoirModel" 577 Y_M_minds 2 := ⟨mem_tb 1979 (by decide +kernel) rfl, mem_tb 1981 (by decide +kernel) rfl, mem_tb 107 (by decide +kernel) rfl, mem_tb 122 (by decide +kernel) rfl, cw_M_minds, ⟨by decide +kernel, by decide +kernel, by decide +kernel⟩, by decide⟩
theorem lv_X_348 : LKV "SinkingChoir" 348 Y_Rl_number 1 := ⟨mem_tb 1256 (by decide +kernel) rfl, mem_tb 1257 (by decide +kernel) rfl, mem_tb 1258 (by decide +kernel) rfl, mem_tb 120 (by decide +kernel) rfl, cw_Rl_number, ⟨by decide +kernel, by decide +kernel, by decide +kernel⟩, by decide⟩
theorem lv_X_318 : LKV "SinkingChoir" 318 Y_X_firstWrong 1 := ⟨mem_tb 1252 (by decide +kernel) rfl, mem_tb 1254 (by decide +kernel) rfl, mem_tb 38 (by decide +kernel) rfl, mem_tb 110 (by decide +kernel) rfl, cw_X_firstWrong, ⟨by decide +kernel, by decide +kernel, by decide +kernel⟩, by decide⟩
theorem lv_M_580 : LKV "SinkingChoirModel" 580 Y_M_numberAt 1 := ⟨mem_tb 1987 (by decide +kernel) rfl, mem_tb 1989 (by decide +kernel) rfl, mem_tb 108 (by decide +kernel) rfl, mem_tb 122 (by decide +kernel) rfl, cw_M_numberAt, ⟨by decide +kernel, by decide +kernel, by decide +kernel⟩, by decide⟩
theorem lv_X_321 : LKV "SinkingChoir" 321 Y_Sc_noteCount 0 := ⟨mem_tb 1264 (by decide +kernel) rfl, mem_tb 1265 (by decide +kernel) rfl, mem_tb 1266 (by decide +kernel) rfl, mem_tb 111 (by decide +kernel) rfl, cw_Sc_noteCount, ⟨by decide +kernel, by decide +kernel, by decide +kernel⟩, by decide⟩
theorem lv_X_324 : LKV "SinkingChoir" 324 Y_Sc_linkCount 0 := ⟨mem_tb 1268 (by decide +kernel) rfl, mem_tb 1269 (by decide +kernel) rfl, mem_tb 1270 (by decide +kernel) rfl, mem_tb 111 (by decide +kernel) rfl, cw_Sc_linkCount, ⟨by decide +kernel, by decide +kernel, by decide +kernel⟩, by decide⟩
theorem ls_Sc_33 : LKS "SinkingChoir$Score" 33 Y_Ar_fill_AI 2 := ⟨mem_tb 146 (by decide +kernel) rfl, mem_tb 147 (by decide +kernel) rfl, mem_tb 112 (by decide +kernel) rfl, cw_Ar_fill_AI, ⟨by decide +kernel, by decide +kernel, by decide +kernel⟩, by decide⟩
theorem ls_Fr_23 : LKS "SinkingChoir$Fraction" 23 Y_Fr_exponent 2 := ⟨mem_tb 509 (by decide +kernel) rfl, mem_tb 510 (by decide +kernel) rfl, mem_tb 123 (by decide +kernel) rfl, cw_Fr_exponent, ⟨by decide +kernel, by decide +kernel, by decide +kernel⟩, by decide⟩
theorem ls_Fr_11 : LKS "SinkingChoir$Fraction" 11 Y_Fr_ofNumber 1 := ⟨mem_tb 500 (by decide +kernel) rfl, mem_tb 501 (by decide +kernel) rfl, mem_tb 123 (by decide +kernel) rfl, cw_Fr_ofNumber, ⟨by decide +kernel, by decide +kernel, by decide +kernel⟩, by decide⟩
theorem ls_Fr_16 : LKS "SinkingChoir$Fraction" 16 Y_Fr_mills 1 := ⟨mem_tb 505 (by decide +kernel) rfl, mem_tb 506 (by decide +kernel) rfl, mem_tb 123 (by decide +kernel) rfl, cw_Fr_mills, ⟨by decide +kernel, by decide +kernel, by decide +kernel⟩, by decide⟩
theorem ls_Sc_46 : LKS "SinkingChoir$Score" 46 Y_Sc_cell 2 := ⟨mem_tb 526 (by decide +kernel) rfl, mem_tb 527 (by decide +kernel) rfl, mem_tb 111 (by decide +kernel) rfl, cw_Sc_cell, ⟨by decide +kernel, by decide +kernel, by decide +kernel⟩, by decide⟩
theorem ls_Sc_50 : LKS "SinkingChoir$Score" 50 Y_Fr_mills 1 := ⟨mem_tb 529 (by decide +kernel) rfl, mem_tb 506 (by decide +kernel) rfl, mem_tb 123 (by decide +kernel) rfl, cw_Fr_mills, ⟨by decide +kernel, by decide +kernel, by decide +kernel⟩, by decide⟩
theorem ls_Sc_43 : LKS "SinkingChoir$Score" 43 Y_Sc_has 2 := ⟨mem_tb 525 (by decide +kernel) rfl, mem_tb 518 (by decide +kernel) rfl, mem_tb 111 (by decide +kernel) rfl, cw_Sc_has, ⟨by decide +kernel, by decide +kernel, by decide +kernel⟩, by decide⟩
theorem ls_X_73 : LKS "SinkingChoir" 73 Y_Fr_of 2 := ⟨mem_tb 497 (by decide +kernel) rfl, mem_tb 498 (by decide +kernel) rfl, mem_tb 123 (by decide +kernel) rfl, cw_Fr_of, ⟨by decide +kernel, by decide +kernel, by decide +kernel⟩, by decide⟩
theorem ls_X_79 : LKS "SinkingChoir" 79 Y_Sc_has 2 := ⟨mem_tb 517 (by decide +kernel) rfl, mem_tb 518 (by decide +kernel) rfl, mem_tb 111 (by decide +kernel) rfl, cw_Sc_has, ⟨by decide +kernel, by decide +kernel, by decide +kernel⟩, by decide⟩
theorem ls_M_145 : LKS "SinkingChoirModel" 145 Y_M_lies 3 := ⟨mem_tb 1506 (by decide +kernel) rfl, mem_tb 1507 (by decide +kernel) rfl, mem_tb 122 (by decide +kernel) rfl, cw_M_lies, ⟨by decide +kernel, by decide +kernel, by decide +kernel⟩, by decide⟩
theorem ls_M_169 : LKS "SinkingChoirModel" 169 Y_M_powerOf 2 := ⟨mem_tb 1515 (by decide +kernel) rfl, mem_tb 1516 (by decide +kernel) rfl, mem_tb 122 (by decide +kernel) rfl, cw_M_powerOf, ⟨by decide +kernel, by decide +kernel, by decide +kernel⟩, by decide⟩
theorem ls_M_172 : LKS "SinkingChoirModel" 172 Y_M_mills 3 := ⟨mem_tb 1518 (by decide +kernel) rfl, mem_tb 1519 (by decide +kernel) rfl, mem_tb 122 (by decide +kernel) rfl, cw_M_mills, ⟨by decide +kernel, by decide +kernel, by decide +kernel⟩, by decide⟩
theorem ls_M_178 : LKS "SinkingChoirModel" 178 Y_M_bare 1 := ⟨mem_tb 1509 (by decide +kernel) rfl, mem_tb 1510 (by decide +kernel) rfl, mem_tb 122 (by decide +kernel) rfl, cw_M_bare, ⟨by decide +kernel, by decide +kernel, by decide +kernel⟩, by decide⟩
theorem ls_M_182 : LKS "SinkingChoirModel" 182 Y_M_fraction 2 := ⟨mem_tb 1512 (by decide +kernel) rfl, mem_tb 1513 (by decide +kernel) rfl, mem_tb 122 (by decide +kernel) rfl, cw_M_fraction, ⟨by decide +kernel, by decide +kernel, by decide +kernel⟩, by decide⟩
theorem ls_M_151 : LKS "SinkingChoirModel" 151 Y_M_isVoice 1 := ⟨mem_tb 1531 (by decide +kernel) rfl, mem_tb 1532 (by decide +kernel) rfl, mem_tb 122 (by decide +kernel) rfl, cw_M_isVoice, ⟨by decide +kernel, by decide +kernel, by decide +kernel⟩, by decide⟩
theorem ls_M_155 : LKS "SinkingChoirModel" 155 Y_M_isBeat 1 := ⟨mem_tb 1535 (by decide +kernel) rfl, mem_tb 1536 (by decide +kernel) rfl, mem_tb 122 (by decide +kernel) rfl, cw_M_isBeat, ⟨by decide +kernel, by decide +kernel, by decide +kernel⟩, by decide⟩
theorem ls_M_158 : LKS "SinkingChoirModel" 158 Y_M_cellOf 2 := ⟨mem_tb 1540 (by decide +kernel) rfl, mem_tb 1541 (by decide +kernel) rfl, mem_tb 122 (by decide +kernel) rfl, cw_M_cellOf, ⟨by decide +kernel, by decide +kernel, by decide +kernel⟩, by decide⟩
theorem ls_M_189 : LKS "SinkingChoirModel" 189 Y_M_isFraction 2 := ⟨mem_tb 1502 (by decide +kernel) rfl, mem_tb 1503 (by decide +kernel) rfl, mem_tb 122 (by decide +kernel) rfl, cw_M_isFraction, ⟨by decide +kernel, by decide +kernel, by decide +kernel⟩, by decide⟩
theorem ls_X_103 : LKS "SinkingChoir" 103 Y_Fr_mills 1 := ⟨mem_tb 568 (by decide +kernel) rfl, mem_tb 506 (by decide +kernel) rfl, mem_tb 123 (by decide +kernel) rfl, cw_Fr_mills, ⟨by decide +kernel, by decide +kernel, by decide +kernel⟩, by decide⟩
theorem ls_X_120 : LKS "SinkingChoir" 120 Y_Fr_exponent 2 := ⟨mem_tb 582 (by decide +kernel) rfl, mem_tb 510 (by decide +kernel) rfl, mem_tb 123 (by decide +kernel) rfl, cw_Fr_exponent, ⟨by decide +kernel, by decide +kernel, by decide +kernel⟩, by decide⟩
theorem ls_Sc_68 : LKS "SinkingChoir$Score" 68 Y_Mt_abs_I 1 := ⟨mem_tb 624 (by decide +kernel) rfl, mem_tb 625 (by decide +kernel) rfl, mem_tb 124 (by decide +kernel) rfl, cw_Mt_abs_I, ⟨by decide +kernel, by decide +kernel, by decide +kernel⟩, by decide⟩
theorem ls_M_225 : LKS "SinkingChoirModel" 225 Y_M_plain 1 := ⟨mem_tb 1608 (by decide +kernel) rfl, mem_tb 1609 (by decide +kernel) rfl, mem_tb 122 (by decide +kernel) rfl, cw_M_plain, ⟨by decide +kernel, by decide +kernel, by decide +kernel⟩, by decide⟩
theorem ls_Wa_67 : LKS "SinkingChoir$Ways" 67 Y_Mt_min 2 := ⟨mem_tb 691 (by decide +kernel) rfl, mem_tb 692 (by decide +kernel) rfl, mem_tb 124 (by decide +kernel) rfl, cw_Mt_min, ⟨by decide +kernel, by decide +kernel, by decide +kernel⟩, by decide⟩
theorem ls_Wa_75 : LKS "SinkingChoir$Ways" 75 Y_Fr_mills 1 := ⟨mem_tb 706 (by decide +kernel) rfl, mem_tb 506 (by decide +kernel) rfl, mem_tb 123 (by decide +kernel) rfl, cw_Fr_mills, ⟨by decide +kernel, by decide +kernel, by decide +kernel⟩, by decide⟩
theorem ls_Wa_91 : LKS "SinkingChoir$Ways" 91 Y_Ar_fill_AI 2 := ⟨mem_tb 708 (by decide +kernel) rfl, mem_tb 147 (by decide +kernel) rfl, mem_tb 112 (by decide +kernel) rfl, cw_Ar_fill_AI, ⟨by decide +kernel, by decide +kernel, by decide +kernel⟩, by decide⟩
theorem ls_Wa_112 : LKS "SinkingChoir$Ways" 112 Y_Mt_abs_I 1 := ⟨mem_tb 738 (by decide +kernel) rfl, mem_tb 625 (by decide +kernel) rfl, mem_tb 124 (by decide +kernel) rfl, cw_Mt_abs_I, ⟨by decide +kernel, by decide +kernel, by decide +kernel⟩, by decide⟩
theorem ls_Wa_109 : LKS "SinkingChoir$Ways" 109 Y_Wa_nearer 2 := ⟨mem_tb 735 (by decide +kernel) rfl, mem_tb 736 (by decide +kernel) rfl, mem_tb 125 (by decide +kernel) rfl, cw_Wa_nearer, ⟨by decide +kernel, by decide +kernel, by decide +kernel⟩, by decide⟩
theorem ls_SL_88 : LKS "java/lang/StringLatin1" 88 Y_SL_canEncode 1 := ⟨mem_tb 827 (by decide +kernel) rfl, mem_tb 828 (by decide +kernel) rfl, mem_tb 127 (by decide +kernel) rfl, cw_SL_canEncode, ⟨by decide +kernel, by decide +kernel, by decide +kernel⟩, by decide⟩
theorem ls_SL_92 : LKS "java/lang/StringLatin1" 92 Y_Mt_max_II 2 := ⟨mem_tb 830 (by decide +kernel) rfl, mem_tb 831 (by decide +kernel) rfl, mem_tb 124 (by decide +kernel) rfl, cw_Mt_max_II, ⟨by decide +kernel, by decide +kernel, by decide +kernel⟩, by decide⟩
theorem ls_SL_38 : LKS "java/lang/StringLatin1" 38 Y_Mt_min 2 := ⟨mem_tb 833 (by decide +kernel) rfl, mem_tb 692 (by decide +kernel) rfl, mem_tb 124 (by decide +kernel) rfl, cw_Mt_min, ⟨by decide +kernel, by decide +kernel, by decide +kernel⟩, by decide⟩
theorem ls_SL_95 : LKS "java/lang/StringLatin1" 95 Y_SL_indexOfChar 4 := ⟨mem_tb 834 (by decide +kernel) rfl, mem_tb 835 (by decide +kernel) rfl, mem_tb 127 (by decide +kernel) rfl, cw_SL_indexOfChar, ⟨by decide +kernel, by decide +kernel, by decide +kernel⟩, by decide⟩
theorem ls_Str_637 : LKS "java/lang/String" 637 Y_SL_indexOf 4 := ⟨mem_tb 824 (by decide +kernel) rfl, mem_tb 825 (by decide +kernel) rfl, mem_tb 127 (by decide +kernel) rfl, cw_SL_indexOf, ⟨by decide +kernel, by decide +kernel, by decide +kernel⟩, by decide⟩
theorem ls_Re_111 : LKS "SinkingChoir$Reader" 111 Y_Re_isDigit 1 := ⟨mem_tb 911 (by decide +kernel) rfl, mem_tb 912 (by decide +kernel) rfl, mem_tb 121 (by decide +kernel) rfl, cw_Re_isDigit, ⟨by decide +kernel, by decide +kernel, by decide +kernel⟩, by decide⟩
theorem ls_Re_69 : LKS "SinkingChoir$Reader" 69 Y_Re_indexIn 2 := ⟨mem_tb 808 (by decide +kernel) rfl, mem_tb 809 (by decide +kernel) rfl, mem_tb 121 (by decide +kernel) rfl, cw_Re_indexIn, ⟨by decide +kernel, by decide +kernel, by decide +kernel⟩, by decide⟩
theorem ls_Re_22 : LKS "SinkingChoir$Reader" 22 Y_Mt_min 2 := ⟨mem_tb 793 (by decide +kernel) rfl, mem_tb 692 (by decide +kernel) rfl, mem_tb 124 (by decide +kernel) rfl, cw_Mt_min, ⟨by decide +kernel, by decide +kernel, by decide +kernel⟩, by decide⟩
theorem ls_M_367 : LKS "SinkingChoirModel" 367 Y_M_isValue 1 := ⟨mem_tb 1749 (by decide +kernel) rfl, mem_tb 1750 (by decide +kernel) rfl, mem_tb 122 (by decide +kernel) rfl, cw_M_isValue, ⟨by decide +kernel, by decide +kernel, by decide +kernel⟩, by decide⟩
theorem ls_M_352 : LKS "SinkingChoirModel" 352 Y_M_isTimes 1 := ⟨mem_tb 1756 (by decide +kernel) rfl, mem_tb 1757 (by decide +kernel) rfl, mem_tb 122 (by decide +kernel) rfl, cw_M_isTimes, ⟨by decide +kernel, by decide +kernel, by decide +kernel⟩, by decide⟩
theorem ls_M_355 : LKS "SinkingChoirModel" 355 Y_M_isPlus 1 := ⟨mem_tb 1759 (by decide +kernel) rfl, mem_tb 1760 (by decide +kernel) rfl, mem_tb 122 (by decide +kernel) rfl, cw_M_isPlus, ⟨by decide +kernel, by decide +kernel, by decide +kernel⟩, by decide⟩
theorem ls_M_387 : LKS "SinkingChoirModel" 387 Y_M_isSign 1 := ⟨mem_tb 1778 (by decide +kernel) rfl, mem_tb 1779 (by decide +kernel) rfl, mem_tb 122 (by decide +kernel) rfl, cw_M_isSign, ⟨by decide +kernel, by decide +kernel, by decide +kernel⟩, by decide⟩
theorem ls_Ch_78 : LKS "SinkingChoir$Choir" 78 Y_Mt_floorMod 2 := ⟨mem_tb 995 (by decide +kernel) rfl, mem_tb 996 (by decide +kernel) rfl, mem_tb 124 (by decide +kernel) rfl, cw_Mt_floorMod, ⟨by decide +kernel, by decide +kernel, by decide +kernel⟩, by decide⟩
theorem ls_Si_141 : LKS "SinkingChoir$Singing" 141 Y_Sc_cell 2 := ⟨mem_tb 989 (by decide +kernel) rfl, mem_tb 527 (by decide +kernel) rfl, mem_tb 111 (by decide +kernel) rfl, cw_Sc_cell, ⟨by decide +kernel, by decide +kernel, by decide +kernel⟩, by decide⟩
theorem ls_Si_154 : LKS "SinkingChoir$Singing" 154 Y_Mt_abs_I 1 := ⟨mem_tb 1013 (by decide +kernel) rfl, mem_tb 625 (by decide +kernel) rfl, mem_tb 124 (by decide +kernel) rfl, cw_Mt_abs_I, ⟨by decide +kernel, by decide +kernel, by decide +kernel⟩, by decide⟩
theorem ls_Si_164 : LKS "SinkingChoir$Singing" 164 Y_Mt_floorDiv 2 := ⟨mem_tb 1016 (by decide +kernel) rfl, mem_tb 1017 (by decide +kernel) rfl, mem_tb 124 (by decide +kernel) rfl, cw_Mt_floorDiv, ⟨by decide +kernel, by decide +kernel, by decide +kernel⟩, by decide⟩
theorem ls_Pr_53 : LKS "SinkingChoir$Program" 53 Y_Mt_max_II 2 := ⟨mem_tb 1028 (by decide +kernel) rfl, mem_tb 831 (by decide +kernel) rfl, mem_tb 124 (by decide +kernel) rfl, cw_Mt_max_II, ⟨by decide +kernel, by decide +kernel, by decide +kernel⟩, by decide⟩
theorem ls_Pr_58 : LKS "SinkingChoir$Program" 58 Y_Pr_reckoned 3 := ⟨mem_tb 1029 (by decide +kernel) rfl, mem_tb 1030 (by decide +kernel) rfl, mem_tb 114 (by decide +kernel) rfl, cw_Pr_reckoned, ⟨by decide +kernel, by decide +kernel, by decide +kernel⟩, by decide⟩
theorem ls_Pr_39 : LKS "SinkingChoir$Program" 39 Y_Ar_fill_AI 2 := ⟨mem_tb 1023 (by decide +kernel) rfl, mem_tb 147 (by decide +kernel) rfl, mem_tb 112 (by decide +kernel) rfl, cw_Ar_fill_AI, ⟨by decide +kernel, by decide +kernel, by decide +kernel⟩, by decide⟩
theorem ls_Pr_49 : LKS "SinkingChoir$Program" 49 Y_Pr_within 2 := ⟨mem_tb 1032 (by decide +kernel) rfl, mem_tb 1033 (by decide +kernel) rfl, mem_tb 114 (by decide +kernel) rfl, cw_Pr_within, ⟨by decide +kernel, by decide +kernel, by decide +kernel⟩, by decide⟩
theorem ls_Ch_72 : LKS "SinkingChoir$Choir" 72 Y_Mt_abs_I 1 := ⟨mem_tb 1042 (by decide +kernel) rfl, mem_tb 625 (by decide +kernel) rfl, mem_tb 124 (by decide +kernel) rfl, cw_Mt_abs_I, ⟨by decide +kernel, by decide +kernel, by decide +kernel⟩, by decide⟩
theorem ls_Si_179 : LKS "SinkingChoir$Singing" 179 Y_Ch_heard 3 := ⟨mem_tb 1039 (by decide +kernel) rfl, mem_tb 1040 (by decide +kernel) rfl, mem_tb 113 (by decide +kernel) rfl, cw_Ch_heard, ⟨by decide +kernel, by decide +kernel, by decide +kernel⟩, by decide⟩
theorem ls_M_446 : LKS "SinkingChoirModel" 446 Y_M_floor 2 := ⟨mem_tb 1842 (by decide +kernel) rfl, mem_tb 1843 (by decide +kernel) rfl, mem_tb 122 (by decide +kernel) rfl, cw_M_floor, ⟨by decide +kernel, by decide +kernel, by decide +kernel⟩, by decide⟩
theorem ls_M_453 : LKS "SinkingChoirModel" 453 Y_M_worked 3 := ⟨mem_tb 1857 (by decide +kernel) rfl, mem_tb 1858 (by decide +kernel) rfl, mem_tb 122 (by decide +kernel) rfl, cw_M_worked, ⟨by decide +kernel, by decide +kernel, by decide +kernel⟩, by decide⟩
theorem ls_M_500 : LKS "SinkingChoirModel" 500 Y_M_has 2 := ⟨mem_tb 1813 (by decide +kernel) rfl, mem_tb 1814 (by decide +kernel) rfl, mem_tb 122 (by decide +kernel) rfl, cw_M_has, ⟨by decide +kernel, by decide +kernel, by decide +kernel⟩, by decide⟩
theorem ls_Si_192 : LKS "SinkingChoir$Singing" 192 Y_Mt_abs_J 1 := ⟨mem_tb 1074 (by decide +kernel) rfl, mem_tb 1075 (by decide +kernel) rfl, mem_tb 124 (by decide +kernel) rfl, cw_Mt_abs_J, ⟨by decide +kernel, by decide +kernel, by decide +kernel⟩, by decide⟩
theorem ls_Ch_84 : LKS "SinkingChoir$Choir" 84 Y_Sc_cell 2 := ⟨mem_tb 1085 (by decide +kernel) rfl, mem_tb 527 (by decide +kernel) rfl, mem_tb 111 (by decide +kernel) rfl, cw_Sc_cell, ⟨by decide +kernel, by decide +kernel, by decide +kernel⟩, by decide⟩
theorem ls_X_268 : LKS "SinkingChoir" 268 Y_Ch_heard 3 := ⟨mem_tb 1125 (by decide +kernel) rfl, mem_tb 1040 (by decide +kernel) rfl, mem_tb 113 (by decide +kernel) rfl, cw_Ch_heard, ⟨by decide +kernel, by decide +kernel, by decide +kernel⟩, by decide⟩
theorem ls_St_56 : LKS "SinkingChoir$Standing" 56 Y_Mt_abs_J 1 := ⟨mem_tb 1146 (by decide +kernel) rfl, mem_tb 1075 (by decide +kernel) rfl, mem_tb 124 (by decide +kernel) rfl, cw_Mt_abs_J, ⟨by decide +kernel, by decide +kernel, by decide +kernel⟩, by decide⟩
theorem ls_Le_76 : LKS "SinkingChoir$Leading" 76 Y_Mt_abs_J 1 := ⟨mem_tb 1170 (by decide +kernel) rfl, mem_tb 1075 (by decide +kernel) rfl, mem_tb 124 (by decide +kernel) rfl, cw_Mt_abs_J, ⟨by decide +kernel, by decide +kernel, by decide +kernel⟩, by decide⟩
theorem ls_Le_62 : LKS "SinkingChoir$Leading" 62 Y_Mt_max_JJ 2 := ⟨mem_tb 1171 (by decide +kernel) rfl, mem_tb 1172 (by decide +kernel) rfl, mem_tb 124 (by decide +kernel) rfl, cw_Mt_max_JJ, ⟨by decide +kernel, by decide +kernel, by decide +kernel⟩, by decide⟩
theorem ls_Fi_64 : LKS "SinkingChoir$Fitting" 64 Y_Mt_abs_J 1 := ⟨mem_tb 1233 (by decide +kernel) rfl, mem_tb 1075 (by decide +kernel) rfl, mem_tb 124 (by decide +kernel) rfl, cw_Mt_abs_J, ⟨by decide +kernel, by decide +kernel, by decide +kernel⟩, by decide⟩
theorem ls_Fi_27 : LKS "SinkingChoir$Fitting" 27 Y_Ar_fill_BJ 2 := ⟨mem_tb 1211 (by decide +kernel) rfl, mem_tb 1212 (by decide +kernel) rfl, mem_tb 112 (by decide +kernel) rfl, cw_Ar_fill_BJ, ⟨by decide +kernel, by decide +kernel, by decide +kernel⟩, by decide⟩
theorem ls_X_340 : LKS "SinkingChoir" 340 Y_Mt_abs_J 1 := ⟨mem_tb 1246 (by decide +kernel) rfl, mem_tb 1075 (by decide +kernel) rfl, mem_tb 124 (by decide +kernel) rfl, cw_Mt_abs_J, ⟨by decide +kernel, by decide +kernel, by decide +kernel⟩, by decide⟩
theorem ls_X_327 : LKS "SinkingChoir" 327 Y_In_bitCount 1 := ⟨mem_tb 1272 (by decide +kernel) rfl, mem_tb 1273 (by decide +kernel) rfl, mem_tb 131 (by decide +kernel) rfl, cw_In_bitCount, ⟨by decide +kernel, by decide +kernel, by decide +kernel⟩, by decide⟩
theorem ls_M_583 : LKS "SinkingChoirModel" 583 Y_M_sizeOf 1 := ⟨mem_tb 1995 (by decide +kernel) rfl, mem_tb 1996 (by decide +kernel) rfl, mem_tb 122 (by decide +kernel) rfl, cw_M_sizeOf, ⟨by decide +kernel, by decide +kernel, by decide +kernel⟩, by decide⟩
theorem li_Ch_39 : LKI "SinkingChoir$Choir" 39 Y_Pr_init 0 := ⟨Or.inr ⟨_, fun _ _ _ h => h.2.2.2.2.2.1⟩, mem_tb 190 (by decide +kernel) rfl, mem_tb 114 (by decide +kernel) rfl, cw_Pr_init, ⟨by decide +kernel, by decide +kernel, by decide +kernel⟩, by decide, rfl, rfl⟩
theorem li_Re_17 : LKI "SinkingChoir$Reader" 17 Y_Pr_init 0 := ⟨Or.inr ⟨_, fun _ _ _ h => h.2.2.2.2.2.2.2.2⟩, mem_tb 190 (by decide +kernel) rfl, mem_tb 114 (by decide +kernel) rfl, cw_Pr_init, ⟨by decide +kernel, by decide +kernel, by decide +kernel⟩, by decide, rfl, rfl⟩
theorem li_X_9 : LKI "SinkingChoir" 9 Y_Sc_init 0 := ⟨Or.inl (mem_tb 142 (by decide +kernel) rfl), mem_tb 143 (by decide +kernel) rfl, mem_tb 111 (by decide +kernel) rfl, cw_Sc_init, ⟨by decide +kernel, by decide +kernel, by decide +kernel⟩, by decide, rfl, rfl⟩
theorem li_X_18 : LKI "SinkingChoir" 18 Y_Ch_init 1 := ⟨Or.inl (mem_tb 183 (by decide +kernel) rfl), mem_tb 184 (by decide +kernel) rfl, mem_tb 113 (by decide +kernel) rfl, cw_Ch_init, ⟨by decide +kernel, by decide +kernel, by decide +kernel⟩, by decide, rfl, rfl⟩
theorem li_X_27 : LKI "SinkingChoir" 27 Y_Si_init 2 := ⟨Or.inl (mem_tb 282 (by decide +kernel) rfl), mem_tb 283 (by decide +kernel) rfl, mem_tb 115 (by decide +kernel) rfl, cw_Si_init, ⟨by decide +kernel, by decide +kernel, by decide +kernel⟩, by decide, rfl, rfl⟩
theorem li_X_36 : LKI "SinkingChoir" 36 Y_St_init 2 := ⟨Or.inl (mem_tb 348 (by decide +kernel) rfl), mem_tb 349 (by decide +kernel) rfl, mem_tb 117 (by decide +kernel) rfl, cw_St_init, ⟨by decide +kernel, by decide +kernel, by decide +kernel⟩, by decide, rfl, rfl⟩
theorem li_X_45 : LKI "SinkingChoir" 45 Y_Le_init 2 := ⟨Or.inl (mem_tb 379 (by decide +kernel) rfl), mem_tb 380 (by decide +kernel) rfl, mem_tb 118 (by decide +kernel) rfl, cw_Le_init, ⟨by decide +kernel, by decide +kernel, by decide +kernel⟩, by decide, rfl, rfl⟩
theorem li_X_52 : LKI "SinkingChoir" 52 Y_Fi_init 3 := ⟨Or.inl (mem_tb 403 (by decide +kernel) rfl), mem_tb 404 (by decide +kernel) rfl, mem_tb 119 (by decide +kernel) rfl, cw_Fi_init, ⟨by decide +kernel, by decide +kernel, by decide +kernel⟩, by decide, rfl, rfl⟩
theorem li_X_61 : LKI "SinkingChoir" 61 Y_Rl_init 0 := ⟨Or.inr ⟨_, fun _ _ _ h => h.2.2.2.2.2.2.1⟩, mem_tb 426 (by decide +kernel) rfl, mem_tb 120 (by decide +kernel) rfl, cw_Rl_init, ⟨by decide +kernel, by decide +kernel, by decide +kernel⟩, by decide, rfl, rfl⟩
theorem li_X_68 : LKI "SinkingChoir" 68 Y_Re_init 0 := ⟨Or.inr ⟨_, fun _ _ _ h => h.2.2.2.2.2.2.2.1⟩, mem_tb 441 (by decide +kernel) rfl, mem_tb 121 (by decide +kernel) rfl, cw_Re_init, ⟨by decide +kernel, by decide +kernel, by decide +kernel⟩, by decide, rfl, rfl⟩
theorem li_X_336 : LKI "SinkingChoir" 336 Y_Wa_init 1 := ⟨Or.inl (mem_tb 641 (by decide +kernel) rfl), mem_tb 642 (by decide +kernel) rfl, mem_tb 125 (by decide +kernel) rfl, cw_Wa_init, ⟨by decide +kernel, by decide +kernel, by decide +kernel⟩, by decide, rfl, rfl⟩
